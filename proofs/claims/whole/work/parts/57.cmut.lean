/-! PURE 28: the program's changing calls -/
def nn (L : LM) : Nat := (L.1 0 8).toNatClampNeg
/-- the reference's cells are left alone -/
def KEP (c : Nat) (h h' : AH) : Prop := hz h ≤ hz h' ∧ ∀ b, c + 14 ≤ b → b < c + 37 → hk h' b = hk h b ∧ (∀ k, hI h' b k = hI h b k) ∧ (∀ k, hJ h' b k = hJ h b k) ∧ ∀ k, hR h' b k = hR h b k
theorem KEP_refl (c : Nat) (h : AH) : KEP c h h := ⟨Nat.le_refl _, fun _ _ _ => ⟨rfl, fun _ => rfl, fun _ => rfl, fun _ => rfl⟩⟩
def OUT (c np ng : Nat) (h : AH) (L' : LM) (h' : AH) : Prop := ∃ A', COK c L' (nn L') np ng A' h' ∧ KEP c h h'
theorem nn_LG {L : LM} {n : Nat} (hn : n < 400) (v : Nat → Int32) (z : Int64) : nn (LG L n v z) = n + 1 := nIt (show n + 1 < 1000 by omega)
section CM
variable {c : Nat} {L : LM} {n np ng : Nat} {A : Nat → Nat → Nat} {h h' : AH}
theorem nn_eq (W : MW L n np ng) : nn L = n := by
  unfold nn
  rw [W.1]
  exact nIt (by have := W.2.1; omega)
theorem OUT_same (C : COK c L n np ng A h) (W : MW L n np ng) : OUT c np ng h L h := ⟨A, by rw [nn_eq W]; exact C, KEP_refl c h⟩
theorem FRM_KEP (C : COK c L n np ng A h) (hz37 : c + 37 ≤ hz h) {ud : Option (Nat × Nat)} (f : FRM c n h h' ud) (hu : ud = none ∨ ∃ y k, y < n ∧ ud = some (A 0 y, k)) : KEP c h h' := by
  obtain ⟨f1, f2, f3, f4, f5⟩ := f
  refine ⟨by omega, fun b b1 b2 => ⟨?_, fun k => ?_, fun k => ?_, fun k => ?_⟩⟩
  · rw [f2, if_neg (by omega)]
  · rw [f3 _ _ (by omega), if_neg (by omega)]
  · rw [f4 _ _ (by omega)]
  · rw [f5 _ _ (by omega), if_neg (by omega)]
    have : ud ≠ some (b, k) := by
      rcases hu with u | ⟨y, k', y1, u⟩
      · rw [u]; intro e; cases e
      · rw [u]; intro e
        have := congrArg Prod.fst (Option.some.inj e)
        have := C.lo y1
        simp only at *
        omega
    rw [if_neg this]
theorem row_v (s p g t e nm o ar sa fl : Int32) : row s p g t e nm o ar sa fl 6 = s ∧ row s p g t e nm o ar sa fl 7 = p ∧ row s p g t e nm o ar sa fl 8 = g ∧ row s p g t e nm o ar sa fl 9 = t ∧ row s p g t e nm o ar sa fl 10 = e ∧ row s p g t e nm o ar sa fl 11 = nm ∧ row s p g t e nm o ar sa fl 12 = o ∧ row s p g t e nm o ar sa fl 13 = ar ∧ row s p g t e nm o ar sa fl 14 = sa ∧ row s p g t e nm o ar sa fl 15 = fl := by
  refine ⟨rfl, rfl, rfl, rfl, rfl, rfl, rfl, rfl, rfl, rfl⟩
theorem OUT_plain (C : COK c L n np ng A h) (F : WF L n np ng) (hn : n < 400) (hz37 : c + 37 ≤ hz h) {s p g t e : Int32} (hs : s ≠ 4 ∧ s ≠ 7 ∧ s ≠ 5 ∧ s ≠ 8) : OUT c np ng h (LG L n (row s p g t e (-1) (-1) (-1) (-1) 0) 0) (LH c n h s p (ora (A 1) g) t e) := by
  have f := LH_F (c := c) (n := n) (h := h) s p (ora (A 1) g) t e
  refine ⟨A1 A n (hz h), ?_, FRM_KEP C hz37 f (Or.inl rfl)⟩
  rw [nn_LG hn]
  refine COK_LG C F hn hz37 f ?_ ?_ ?_ ?_ ?_ ?_ ?_ ?_ ?_ ?_ ?_ ?_ ?_ ?_ ?_ ?_
  all_goals first | (simp [LH_I hz37, LH_R hz37, LH_J, row, ora_m1]; done) | skip
  · exact Or.inl ⟨hs.1, hs.2.1, hs.2.2.1, hs.2.2.2, rfl, by simp [LH_R hz37], rfl⟩
theorem kLH (s p : Int32) (ab : Option Nat) (t e : Int32) : hk (LH c n h s p ab t e) (hz h) = some (3, 0) := by rw [LH_k, if_pos rfl]
theorem nLH (hz37 : c + 37 ≤ hz h) (s p : Int32) (ab : Option Nat) (t e : Int32) : gI 3 0 (LH c n h s p ab t e) (some (hz h)) = some (nI n) := by
  rw [gI_k (kLH s p ab t e), LH_I hz37]
  simp
theorem c_sign (C : COK c L n np ng A h) (F : WF L n np ng) (W : MW L n np ng) (hz37 : c + 37 ≤ hz h) (p g : Int32) : ∃ h', f_X7_sign c p g h = some ((U_sign L n p g).1, h') ∧ OUT c np ng h (U_sign L n p g).2 h' := by
  obtain ⟨w1, hn, w3, w4, w5, hnp, w7, hng, w9⟩ := id W
  unfold f_X7_sign U_sign
  simp only [cck7 C, c_agAt C hng, c_isParty C, Option.bind_some, b2i_z, w5, w7]
  cases c1 : inR p (nI np)
  · exact ⟨h, by simp, by simpa using OUT_same C W⟩
  · cases c2 : inR g (nI ng)
    · exact ⟨h, by simp, by simpa using OUT_same C W⟩
    · obtain ⟨g', hg, rfl⟩ := inR_of (by omega) c2
      simp only [cH1 C, cck4 C, c_isFull C hn, Option.bind_some, b2i_z, if_true, nIt (show g' < 1000 by omega), Bool.and_self]
      by_cases c3 : n = 400
      · exact ⟨h, by simp [c3], by simpa [c3] using OUT_same C W⟩
      · have hn' : n < 400 := by omega
        simp only [c3, decide_false, if_true, if_false, c_hasSign C F hn hng p hg, Option.bind_some, b2i_z]
        by_cases c4 : hsg L n p (nI g') = true
        · exact ⟨h, by simp [c4], by simpa [c4] using OUT_same C W⟩
        · have c4' := bf c4
          have q := OUT_plain C F hn' hz37 (s := 0) (p := p) (g := nI g') (t := L.1 0 0) (e := L.1 0 0) (by decide)
          rw [ora_nI _ (by omega)] at q
          refine ⟨LH c n h 0 p (some (A 1 g')) (L.1 0 0) (L.1 0 0), ?_, ?_⟩
          · simp [c4', cH6 C, c_lodge C hn' hz37, nLH hz37]
          · simpa [c4'] using q
theorem wt_C (C : COK c L n np ng A h) {g' : Nat} (hg : g' < ng) (hng : ng ≤ 10) : gI 0 2 h (some (A 1 g')) = some (wt L (nI g')) := by
  rw [cG2 C hg]
  unfold wt
  rw [nIt (by omega)]
theorem c_ratify (C : COK c L n np ng A h) (F : WF L n np ng) (W : MW L n np ng) (hz37 : c + 37 ≤ hz h) (p g : Int32) : ∃ h', f_X7_ratify c p g h = some ((U_ratify L n p g).1, h') ∧ OUT c np ng h (U_ratify L n p g).2 h' := by
  obtain ⟨w1, hn, w3, w4, w5, hnp, w7, hng, w9⟩ := id W
  unfold f_X7_ratify U_ratify
  simp only [cck7 C, c_agAt C hng, c_isParty C, Option.bind_some, b2i_z, w5, w7]
  cases c1 : inR p (nI np)
  · exact ⟨h, by simp, by simpa using OUT_same C W⟩
  · cases c2 : inR g (nI ng)
    · exact ⟨h, by simp, by simpa using OUT_same C W⟩
    · obtain ⟨g', hg, rfl⟩ := inR_of (by omega) c2
      simp only [cH1 C, cck4 C, c_isFull C hn, Option.bind_some, b2i_z, if_true, nIt (show g' < 1000 by omega), Bool.and_self]
      by_cases c3 : n = 400
      · exact ⟨h, by simp [c3], by simpa [c3] using OUT_same C W⟩
      · have hn' : n < 400 := by omega
        simp only [c3, decide_false, if_true, if_false, c_hasSign C F hn hng p hg, c_bel C F hn hng p hg, Option.bind_some, b2i_z]
        by_cases c4 : hsg L n p (nI g') = true
        · cases c5 : blg L n p (nI g') with
          | some m => exact ⟨h, by simp [c4], by simpa [c4] using OUT_same C W⟩
          | none =>
            have q := OUT_plain C F hn' hz37 (s := 1) (p := p) (g := nI g') (t := L.1 0 0) (e := L.1 0 0 + wt L (nI g')) (by decide)
            rw [ora_nI _ (by omega)] at q
            refine ⟨LH c n h 1 p (some (A 1 g')) (L.1 0 0) (L.1 0 0 + wt L (nI g')), ?_, ?_⟩
            · simp [c4, cH6 C, wt_C C hg hng, c_lodge C hn' hz37, nLH hz37]
            · simpa [c4] using q
        · have c4' := bf c4
          exact ⟨h, by simp [c4'], by simpa [c4'] using OUT_same C W⟩
theorem c_join (C : COK c L n np ng A h) (F : WF L n np ng) (W : MW L n np ng) (hz37 : c + 37 ≤ hz h) (p g : Int32) : ∃ h', f_X7_join c p g h = some ((U_join L n p g).1, h') ∧ OUT c np ng h (U_join L n p g).2 h' := by
  obtain ⟨w1, hn, w3, w4, w5, hnp, w7, hng, w9⟩ := id W
  unfold f_X7_join U_join
  simp only [cck7 C, c_agAt C hng, c_isParty C, Option.bind_some, b2i_z, w5, w7]
  cases c1 : inR p (nI np)
  · exact ⟨h, by simp, by simpa using OUT_same C W⟩
  · cases c2 : inR g (nI ng)
    · exact ⟨h, by simp, by simpa using OUT_same C W⟩
    · obtain ⟨g', hg, rfl⟩ := inR_of (by omega) c2
      simp only [cH1 C, cck4 C, c_isFull C hn, Option.bind_some, b2i_z, if_true, nIt (show g' < 1000 by omega), Bool.and_self]
      by_cases c3 : n = 400
      · exact ⟨h, by simp [c3], by simpa [c3] using OUT_same C W⟩
      · have hn' : n < 400 := by omega
        simp only [c3, decide_false, if_true, if_false, c_bel C F hn hng p hg, Option.bind_some]
        cases c5 : blg L n p (nI g') with
        | some m => exact ⟨h, by simp, by simpa using OUT_same C W⟩
        | none =>
          have q := OUT_plain C F hn' hz37 (s := 2) (p := p) (g := nI g') (t := L.1 0 0) (e := L.1 0 0 + wt L (nI g')) (by decide)
          rw [ora_nI _ (by omega)] at q
          refine ⟨LH c n h 2 p (some (A 1 g')) (L.1 0 0) (L.1 0 0 + wt L (nI g')), ?_, ?_⟩
          · simp [cH6 C, wt_C C hg hng, c_lodge C hn' hz37, nLH hz37]
          · simpa using q
end CM
