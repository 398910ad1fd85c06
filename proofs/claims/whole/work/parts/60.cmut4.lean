/-! PURE 31: follow, consent -/
theorem sI_self {h : AH} {a k : Nat} {v : Int32} (e : hI h a k = v) : sI h a k v = h := by
  refine Prod.ext rfl (Prod.ext rfl (Prod.ext ?_ (Prod.ext rfl rfl)))
  funext b j
  show (if b = a ∧ j = k then v else hI h b j) = hI h b j
  by_cases w : b = a ∧ j = k
  · rw [if_pos w, w.1, w.2, e]
  · rw [if_neg w]
section CP
variable {c : Nat} {L : LM} {n np ng : Nat} {A : Nat → Nat → Nat} {h : AH}
theorem blg_end {p g : Int32} {m : Nat} (e : blg L n p g = some m) : endO L n m = none := by
  have := (fstF_some _ _ _ _ e).2.2.1
  simp only [Bool.and_eq_true, decide_eq_true_eq, Bool.not_eq_true'] at this
  exact endO_none.mpr this.2
theorem kLHy (C : COK c L n np ng A h) (s p : Int32) (ab : Option Nat) (t e : Int32) {y : Nat} (hy : y < n) : hk (LH c n h s p ab t e) (A 0 y) = some (3, 0) := by
  have hyz : A 0 y ≠ hz h := by have := (C.2.2.2.2.1 0 y (Or.inl ⟨rfl, hy⟩)).2; omega
  rw [LH_k, if_neg hyz]
  exact C.kp hy
theorem c_follow (C : COK c L n np ng A h) (F : WF L n np ng) (W : MW L n np ng) (hz37 : c + 37 ≤ hz h) (p q g : Int32) (fl : Bool) : ∃ h', f_X7_follow c p q g (b2i fl) h = some ((U_follow L n p q g (b2i fl)).1, h') ∧ OUT c np ng h (U_follow L n p q g (b2i fl)).2 h' := by
  obtain ⟨w1, hn, w3, w4, w5, hnp, w7, hng, w9⟩ := id W
  unfold f_X7_follow U_follow
  simp only [cck7 C, c_agAt C hng, c_isParty C, Option.bind_some, b2i_z, w5, w7]
  cases c1 : inR p (nI np)
  · exact ⟨h, by simp, by simpa using OUT_same C W⟩
  · cases c0 : inR q (nI np)
    · exact ⟨h, by simp, by simpa using OUT_same C W⟩
    · cases c2 : inR g (nI ng)
      · exact ⟨h, by simp, by simpa using OUT_same C W⟩
      · obtain ⟨g', hg, rfl⟩ := inR_of (by omega) c2
        simp only [cH1 C, cck4 C, c_isFull C hn, Option.bind_some, b2i_z, if_true, nIt (show g' < 1000 by omega), Bool.and_self]
        by_cases c3 : n = 400
        · exact ⟨h, by simp [c3], by simpa [c3] using OUT_same C W⟩
        · have hn' : n < 400 := by omega
          by_cases c4 : p = q
          · exact ⟨h, by simp [c3, c4], by simpa [c3, c4] using OUT_same C W⟩
          · simp only [c3, c4, decide_false, if_true, if_false, c_bel C F hn hng p hg, c_bel C F hn hng q hg, Option.bind_some]
            cases c5 : blg L n p (nI g') with
            | some m => exact ⟨h, by simp, by simpa using OUT_same C W⟩
            | none =>
              cases c6 : blg L n q (nI g') with
              | none => exact ⟨h, by simp, by simpa using OUT_same C W⟩
              | some m =>
                have hm := blg_lt c6
                have Q := OUT_end C F hn' hz37 (s := 8) (p := p) (g := nI g') (t := L.1 0 0) (e := L.1 0 0 + wt L (nI g')) (fl := b2i fl) hm (Or.inr rfl) (blg_end c6)
                rw [ora_nI _ (by omega)] at Q
                have k := kLH (c := c) (n := n) (h := h) 8 p (some (A 1 g')) (L.1 0 0) (L.1 0 0 + wt L (nI g'))
                have ky := kLHy C 8 p (some (A 1 g')) (L.1 0 0) (L.1 0 0 + wt L (nI g')) hm
                have q1 : pZ 3 10 (LH c n h 8 p (some (A 1 g')) (L.1 0 0) (L.1 0 0 + wt L (nI g'))) (some (hz h)) (b2i fl) = some (sI (LH c n h 8 p (some (A 1 g')) (L.1 0 0) (L.1 0 0 + wt L (nI g'))) (hz h) 10 (b2i fl)) := by
                  unfold pZ
                  rw [if_pos (by cases fl <;> simp [b2i]), ck_k k]
                  rfl
                have q2 := ck_k (h := sI (LH c n h 8 p (some (A 1 g')) (L.1 0 0) (L.1 0 0 + wt L (nI g'))) (hz h) 10 (b2i fl)) k
                have q3 := c_end C (h0 := sI (LH c n h 8 p (some (A 1 g')) (L.1 0 0) (L.1 0 0 + wt L (nI g'))) (hz h) 10 (b2i fl)) k hm ky
                have q4 := gI_k (h := EH c n A h (sI (LH c n h 8 p (some (A 1 g')) (L.1 0 0) (L.1 0 0 + wt L (nI g'))) (hz h) 10 (b2i fl)) m) k 0
                have e0 : hI (EH c n A h (sI (LH c n h 8 p (some (A 1 g')) (L.1 0 0) (L.1 0 0 + wt L (nI g'))) (hz h) 10 (b2i fl)) m) (hz h) 0 = nI n := by simp [EH, hI_sI, hI_sR, LH_I hz37]
                refine ⟨_, ?_, by simpa using Q⟩
                simp [cH6 C, wt_C C hg hng, c_lodge C hn' hz37, q1, q2, q3, q4, e0]
theorem c_consent (C : COK c L n np ng A h) (F : WF L n np ng) (W : MW L n np ng) (hz37 : c + 37 ≤ hz h) (p r : Int32) : ∃ h', f_X7_consent c p r h = some ((U_consent L n p r).1, h') ∧ OUT c np ng h (U_consent L n p r).2 h' := by
  obtain ⟨w1, hn, w3, w4, w5, hnp, w7, hng, w9⟩ := id W
  unfold f_X7_consent U_consent
  simp only [cck7 C, cH1 C, cck4 C, c_atv C hn, c_isParty C, Option.bind_some, b2i_z, w5, w1]
  cases c1 : inR p (nI np)
  · exact ⟨h, by simp, by simpa using OUT_same C W⟩
  · cases c2 : inR r (nI n)
    · exact ⟨h, by simp, by simpa using OUT_same C W⟩
    · obtain ⟨y, hy, rfl⟩ := inR_of (by omega) c2
      simp only [if_true, nIt (show y < 1000 by omega), cP1 C hy, Option.bind_some, Bool.and_self]
      by_cases k6 : L.1 6 y = 6
      · obtain ⟨g', hg, eg⟩ := F.ab y hy (by rw [k6]; decide)
        simp only [k6, if_true, cP3 C hy, eg, ora_nI _ (show g' < 1000 by omega), Option.bind_some, c_isFull C hn, cH1 C, cck4 C, cckP C hy, b2i_z]
        by_cases c3 : n = 400
        · exact ⟨h, by simp [c3], by simpa [c3] using OUT_same C W⟩
        · have hn' : n < 400 := by omega
          simp only [c3, decide_false, if_true, if_false, c_bel C F hn hng p hg, Option.bind_some]
          cases c5 : blg L n p (nI g') with
          | none => exact ⟨h, by simp, by simpa using OUT_same C W⟩
          | some m =>
            have hm := blg_lt c5
            have hmp : L.1 7 m = p := by
              have := (fstF_some _ _ _ _ c5).2.2.1
              simp only [Bool.and_eq_true, decide_eq_true_eq] at this
              exact this.1.1.2
            simp only [Option.map_some, c_ans C F hn hy hm (s := 7) (Or.inr ⟨rfl, k6⟩) hmp, Option.bind_some, b2i_z]
            by_cases c7 : said L n 7 p (nI y) (nI m) = true
            · exact ⟨h, by simp [c7], by simpa [c7] using OUT_same C W⟩
            · have c7' := bf c7
              have hyz : A 0 y ≠ hz h := by have := (C.2.2.2.2.1 0 y (Or.inl ⟨rfl, hy⟩)).2; omega
              have hy3 : A 0 y ≠ c + 3 := by have := C.lo hy; omega
              have Q := OUT_ans C F hn' hz37 (s := 7) (p := p) (g := nI g') (t := L.1 0 0) (e := L.1 0 0 + wt L (nI g')) (fl := 0) hy hm (Or.inr rfl)
              rw [ora_nI _ (by omega), sI_self (by simp [LH_I hz37, hI_sR])] at Q
              have k := kLH (c := c) (n := n) (h := h) 7 p (some (A 1 g')) (L.1 0 0) (L.1 0 0 + wt L (nI g'))
              have ky := kLHy C 7 p (some (A 1 g')) (L.1 0 0) (L.1 0 0 + wt L (nI g')) hy
              have q1 := pR_k (h := LH c n h 7 p (some (A 1 g')) (L.1 0 0) (L.1 0 0 + wt L (nI g'))) k 7 (some (A 0 m))
              have q2 := ck_k (h := sR (LH c n h 7 p (some (A 1 g')) (L.1 0 0) (L.1 0 0 + wt L (nI g'))) (hz h) 7 (some (A 0 m))) k
              have q3 := c_answer C (h0 := sR (LH c n h 7 p (some (A 1 g')) (L.1 0 0) (L.1 0 0 + wt L (nI g'))) (hz h) 7 (some (A 0 m))) k hy hyz ky (by
                rw [hR_sR, if_neg (fun w => hyz w.1), LH_Ro _ _ _ _ _ hyz, if_neg (fun w => hy3 w.1)]
                exact (C.2.2.1 y hy).2.2.2.2.2.2.2.2.1)
              have q4 := gI_k (h := NH L c n A h (sR (LH c n h 7 p (some (A 1 g')) (L.1 0 0) (L.1 0 0 + wt L (nI g'))) (hz h) 7 (some (A 0 m))) y) k 0
              have e0 : hI (NH L c n A h (sR (LH c n h 7 p (some (A 1 g')) (L.1 0 0) (L.1 0 0 + wt L (nI g'))) (hz h) 7 (some (A 0 m))) y) (hz h) 0 = nI n := by simp [NH, hI_sR, LH_I hz37]
              refine ⟨_, ?_, by simpa [c7'] using Q⟩
              simp [c7', cH6 C, wt_C C hg hng, c_lodge C hn' hz37, q1, q2, q3, q4, e0]
      · exact ⟨h, by simp [k6], by simpa [k6] using OUT_same C W⟩
end CP
