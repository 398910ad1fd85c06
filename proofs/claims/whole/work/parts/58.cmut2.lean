/-! PURE 29: reserve, change, note -/
section CN
variable {c : Nat} {L : LM} {n np ng : Nat} {A : Nat → Nat → Nat} {h : AH}
theorem OUT_of (C : COK c L n np ng A h) (F : WF L n np ng) (hn : n < 400) (hz37 : c + 37 ≤ hz h) {s p g t e a w : Int32} {m : Nat} (hm : m < n) (hs : s ≠ 4 ∧ s ≠ 7 ∧ s ≠ 5 ∧ s ≠ 8) : OUT c np ng h (LG L n (row s p g t e (-1) (nI m) a w 0) 0) (sI (sI (sR (LH c n h s p (ora (A 1) g) t e) (hz h) 7 (some (A 0 m))) (hz h) 8 a) (hz h) 9 w) := by
  have f := FRM_sI (FRM_sI (FRM_sR (LH_F (c := c) (n := n) (h := h) s p (ora (A 1) g) t e) 7 (some (A 0 m))) 8 a) 9 w
  refine ⟨A1 A n (hz h), ?_, FRM_KEP C hz37 f (Or.inl rfl)⟩
  rw [nn_LG hn]
  refine COK_LG C F hn hz37 f ?_ ?_ ?_ ?_ ?_ ?_ ?_ ?_ ?_ ?_ ?_ ?_ ?_ ?_ ?_ ?_
  all_goals first | (simp [LH_I hz37, LH_R hz37, LH_J, row, ora_m1, hI_sI, hI_sR, hR_sI, hR_sR, hJ_sI, hJ_sR, ora_nI _ (show m < 1000 by omega)]; done) | skip
  · exact Or.inr ⟨m, hm, rfl⟩
  · exact Or.inl ⟨hs.1, hs.2.1, hs.2.2.1, hs.2.2.2, rfl, by simp [LH_R hz37, hR_sI, hR_sR], rfl⟩
theorem okW (lo : Int32) (s : Int32) : (decide (¬ s < lo) && decide (¬ 1000000 < s)) = (decide (¬ s < lo) && decide (s ≤ 1000000)) := by
  have : (¬ (1000000 : Int32) < s) = (s ≤ 1000000) := propext not_lt_le
  simp only [this]
theorem c_reserve (C : COK c L n np ng A h) (F : WF L n np ng) (W : MW L n np ng) (hz37 : c + 37 ≤ hz h) (p g a s : Int32) : ∃ h', f_X7_reserve c p g a s h = some ((U_reserve L n p g a s).1, h') ∧ OUT c np ng h (U_reserve L n p g a s).2 h' := by
  obtain ⟨w1, hn, w3, w4, w5, hnp, w7, hng, w9⟩ := id W
  unfold f_X7_reserve U_reserve
  simp only [cck7 C, c_agAt C hng, c_isParty C, c_isFrom, okW, Option.bind_some, b2i_z, w5, arB_eq W, Bool.and_assoc]
  generalize (decide (¬ s < 0) && decide (s ≤ 1000000)) = b
  cases c1 : inR p (nI np)
  · exact ⟨h, by simp, by simpa using OUT_same C W⟩
  · cases c2 : inR g (nI ng)
    · exact ⟨h, by simp, by simpa using OUT_same C W⟩
    · obtain ⟨g', hg, rfl⟩ := inR_of (by omega) c2
      simp only [cH1 C, cck4 C, cckG C hg, c_hasArt C hg, c_isFull C hn, Option.bind_some, b2i_z, if_true, nIt (show g' < 1000 by omega), Bool.true_and]
      by_cases c4 : inR a (L.1 1 g') = true
      · by_cases c6 : b = true
        · by_cases c3 : n = 400
          · exact ⟨h, by simp [c3, c4, c6], by simpa [c3, c4, c6] using OUT_same C W⟩
          · have hn' : n < 400 := by omega
            simp only [c3, c4, c6, Bool.true_and, Bool.and_self, decide_false, if_true, if_false, c_bel C F hn hng p hg, Option.bind_some]
            cases c5 : blg L n p (nI g') with
            | none => exact ⟨h, by simp, by simpa using OUT_same C W⟩
            | some m =>
              have q := OUT_of C F hn' hz37 (s := 3) (p := p) (g := nI g') (t := L.1 0 0) (e := L.1 0 0 + wt L (nI g')) (a := a) (w := s) (blg_lt c5) (by decide)
              rw [ora_nI _ (by omega)] at q
              have k := kLH (c := c) (n := n) (h := h) 3 p (some (A 1 g')) (L.1 0 0) (L.1 0 0 + wt L (nI g'))
              have q1 := pR_k (h := LH c n h 3 p (some (A 1 g')) (L.1 0 0) (L.1 0 0 + wt L (nI g'))) k 7 (some (A 0 m))
              have q2 := pI_k (h := sR (LH c n h 3 p (some (A 1 g')) (L.1 0 0) (L.1 0 0 + wt L (nI g'))) (hz h) 7 (some (A 0 m))) k 8 a
              have q3 := pI_k (h := sI (sR (LH c n h 3 p (some (A 1 g')) (L.1 0 0) (L.1 0 0 + wt L (nI g'))) (hz h) 7 (some (A 0 m))) (hz h) 8 a) k 9 s
              have q4 := gI_k (h := sI (sI (sR (LH c n h 3 p (some (A 1 g')) (L.1 0 0) (L.1 0 0 + wt L (nI g'))) (hz h) 7 (some (A 0 m))) (hz h) 8 a) (hz h) 9 s) k 0
              refine ⟨_, ?_, by simpa using q⟩
              simp [cH6 C, wt_C C hg hng, c_lodge C hn' hz37, q1, q2, q3, q4, hI_sI, hI_sR, LH_I hz37]
        · have c6' := bf c6
          refine ⟨h, ?_, ?_⟩
          · simp [c4, c6']
          · simpa [c4, c6'] using OUT_same C W
      · have c4' := bf c4
        exact ⟨h, by simp [c4'], by simpa [c4'] using OUT_same C W⟩
theorem c_change (C : COK c L n np ng A h) (F : WF L n np ng) (W : MW L n np ng) (hz37 : c + 37 ≤ hz h) (p g a s : Int32) : ∃ h', f_X7_change c p g a s h = some ((U_change L n p g a s).1, h') ∧ OUT c np ng h (U_change L n p g a s).2 h' := by
  obtain ⟨w1, hn, w3, w4, w5, hnp, w7, hng, w9⟩ := id W
  unfold f_X7_change U_change
  simp only [cck7 C, c_agAt C hng, c_isParty C, c_isFrom, okW, Option.bind_some, b2i_z, w5, arB_eq W, Bool.and_assoc]
  generalize (decide (¬ s < 1) && decide (s ≤ 1000000)) = b
  cases c1 : inR p (nI np)
  · exact ⟨h, by simp, by simpa using OUT_same C W⟩
  · cases c2 : inR g (nI ng)
    · exact ⟨h, by simp, by simpa using OUT_same C W⟩
    · obtain ⟨g', hg, rfl⟩ := inR_of (by omega) c2
      simp only [cH1 C, cck4 C, cckG C hg, c_hasArt C hg, c_isFull C hn, Option.bind_some, b2i_z, if_true, nIt (show g' < 1000 by omega), Bool.true_and]
      by_cases c4 : inR a (L.1 1 g') = true
      · by_cases c6 : b = true
        · by_cases c3 : n = 400
          · exact ⟨h, by simp [c3, c4, c6], by simpa [c3, c4, c6] using OUT_same C W⟩
          · have hn' : n < 400 := by omega
            simp only [c3, c4, c6, Bool.true_and, Bool.and_self, decide_false, if_true, if_false, c_bel C F hn hng p hg, Option.bind_some]
            cases c5 : blg L n p (nI g') with
            | none => exact ⟨h, by simp, by simpa using OUT_same C W⟩
            | some m =>
              have q := OUT_of C F hn' hz37 (s := 6) (p := p) (g := nI g') (t := L.1 0 0) (e := L.1 0 0) (a := a) (w := s) (blg_lt c5) (by decide)
              rw [ora_nI _ (by omega)] at q
              have k := kLH (c := c) (n := n) (h := h) 6 p (some (A 1 g')) (L.1 0 0) (L.1 0 0)
              have q1 := pR_k (h := LH c n h 6 p (some (A 1 g')) (L.1 0 0) (L.1 0 0)) k 7 (some (A 0 m))
              have q2 := pI_k (h := sR (LH c n h 6 p (some (A 1 g')) (L.1 0 0) (L.1 0 0)) (hz h) 7 (some (A 0 m))) k 8 a
              have q3 := pI_k (h := sI (sR (LH c n h 6 p (some (A 1 g')) (L.1 0 0) (L.1 0 0)) (hz h) 7 (some (A 0 m))) (hz h) 8 a) k 9 s
              have q4 := gI_k (h := sI (sI (sR (LH c n h 6 p (some (A 1 g')) (L.1 0 0) (L.1 0 0)) (hz h) 7 (some (A 0 m))) (hz h) 8 a) (hz h) 9 s) k 0
              refine ⟨_, ?_, by simpa using q⟩
              simp [cH6 C, c_lodge C hn' hz37, q1, q2, q3, q4, hI_sI, hI_sR, LH_I hz37]
        · have c6' := bf c6
          refine ⟨h, ?_, ?_⟩
          · simp [c4, c6']
          · simpa [c4, c6'] using OUT_same C W
      · have c4' := bf c4
        exact ⟨h, by simp [c4'], by simpa [c4'] using OUT_same C W⟩
theorem c_note (C : COK c L n np ng A h) (F : WF L n np ng) (W : MW L n np ng) (hz37 : c + 37 ≤ hz h) (v : Int64) : ∃ h', f_X7_note c v h = some ((U_note L n v).1, h') ∧ OUT c np ng h (U_note L n v).2 h' := by
  obtain ⟨w1, hn, w3, w4, w5, hnp, w7, hng, w9⟩ := id W
  unfold f_X7_note U_note
  simp only [cck4 C, cH1 C, c_isFull C hn, Option.bind_some, b2i_z]
  by_cases c3 : n = 400
  · exact ⟨h, by simp [c3], by simpa [c3] using OUT_same C W⟩
  · have hn' : n < 400 := by omega
    have f := FRM_sJ (LH_F (c := c) (n := n) (h := h) 9 (-1) none (L.1 0 0) (L.1 0 0)) 11 v
    have k := kLH (c := c) (n := n) (h := h) 9 (-1) none (L.1 0 0) (L.1 0 0)
    have q1 := pJ_k (h := LH c n h 9 (-1) none (L.1 0 0) (L.1 0 0)) k 11 v
    have q4 := gI_k (h := sJ (LH c n h 9 (-1) none (L.1 0 0) (L.1 0 0)) (hz h) 11 v) k 0
    refine ⟨sJ (LH c n h 9 (-1) none (L.1 0 0) (L.1 0 0)) (hz h) 11 v, ?_, ?_⟩
    · simp [c3, cH6 C, c_lodge C hn' hz37, q1, q4, hI_sJ, LH_I hz37]
    · simp only [c3, if_false]
      refine ⟨A1 A n (hz h), ?_, FRM_KEP C hz37 f (Or.inl rfl)⟩
      rw [nn_LG hn']
      refine COK_LG C F hn' hz37 f ?_ ?_ ?_ ?_ ?_ ?_ ?_ ?_ ?_ ?_ ?_ ?_ ?_ ?_ ?_ ?_
      all_goals first | (simp [LH_I hz37, LH_R hz37, LH_J, row, ora_m1, hI_sJ, hR_sJ, hJ_sJ]; done) | skip
end CN
