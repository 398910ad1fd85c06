/-! PURE 33: object -/
section CX
variable {c : Nat} {L : LM} {n np ng : Nat} {A : Nat → Nat → Nat} {h : AH}
/-- today, and the spans -/
def TD (L : LM) (n ng : Nat) : Prop := (∃ t, t ≤ 73000 ∧ L.1 0 0 = nI t ∧ ∀ x, x < n → L.1 9 x ≤ nI t) ∧ ∀ g, g < ng → ∃ s, s ≤ 1000 ∧ L.1 4 g = nI s
theorem c_object (C : COK c L n np ng A h) (F : WF L n np ng) (W : MW L n np ng) (D : TD L n ng) (hz37 : c + 37 ≤ hz h) (p r : Int32) (fl : Bool) : ∃ h', f_X7_object c p r (b2i fl) h = some ((U_object L n p r (b2i fl)).1, h') ∧ OUT c np ng h (U_object L n p r (b2i fl)).2 h' := by
  obtain ⟨w1, hn, w3, w4, w5, hnp, w7, hng, w9⟩ := id W
  unfold f_X7_object U_object
  simp only [cck7 C, cH1 C, cck4 C, c_atv C hn, c_isParty C, Option.bind_some, b2i_z, w5, w1]
  cases c1 : inR p (nI np)
  · exact ⟨h, by simp, by simpa using OUT_same C W⟩
  · cases c2 : inR r (nI n)
    · exact ⟨h, by simp, by simpa using OUT_same C W⟩
    · obtain ⟨y, hy, rfl⟩ := inR_of (by omega) c2
      simp only [if_true, nIt (show y < 1000 by omega), cP1 C hy, Option.bind_some, Bool.and_self]
      by_cases k6 : L.1 6 y = 3
      · obtain ⟨g', hg, eg⟩ := F.ab y hy (by rw [k6]; decide)
        simp only [k6, if_true, cP3 C hy, eg, ora_nI _ (show g' < 1000 by omega), Option.bind_some, c_isFull C hn, cH1 C, cck4 C, cckP C hy, b2i_z, nIt (show g' < 1000 by omega)]
        by_cases c3 : n = 400
        · exact ⟨h, by simp [c3], by simpa [c3] using OUT_same C W⟩
        · have hn' : n < 400 := by omega
          simp only [c3, decide_false, if_true, if_false, c_bel C F hn hng p hg, Option.bind_some]
          cases c5 : blg L n p (nI g') with
          | none => exact ⟨h, by simp, by simpa using OUT_same C W⟩
          | some m =>
            have hm := blg_lt c5
            have hmp : L.1 7 m = p := by
              have := (fstF_some _ _ _ _ c5).2.2.1
              simp only [Bool.and_eq_true, decide_eq_true_eq] at this
              exact this.1.1.2
            have hof : (!decide (L.1 12 y = -1) && hlB L n y m (L.1 0 0)) = hlB L n y m (L.1 0 0) := by
              obtain ⟨-, -, -, h4, -⟩ := F y hy
              obtain ⟨o, o1, o2, -⟩ := h4.1 (by simp [ofK, k6])
              have : ¬ L.1 12 y = -1 := by rw [o2]; exact nI_m1 (by omega)
              simp [this]
            have hsp : (L.1 0 0 - L.1 9 y ≤ L.1 4 g') ↔ (L.1 0 0 ≤ L.1 9 y + L.1 4 g') := by
              obtain ⟨⟨t, t1, t2, t3⟩, ds⟩ := D
              obtain ⟨s, s1, s2⟩ := ds g' hg
              obtain ⟨-, ⟨⟨u, w, u1, u2, u3, -⟩, -⟩, -⟩ := F y hy
              have hut := t3 y hy
              rw [u3, nIle (by omega) (by omega)] at hut
              rw [t2, u3, s2, nI_subs hut, nI_add, nIle (by omega) (by omega), nIle (by omega) (by omega)]
              omega
            simp only [Option.map_some, cH6 C, c_held C F hn hy hm, hof, cP4 C hy, cG3 C hg, hsp, c_ans C F hn hy hm (s := 4) (Or.inl ⟨rfl, k6⟩) hmp, Option.bind_some, b2i_z]
            rw [if_neg (by simp)]
            by_cases d1 : hlB L n y m (L.1 0 0) = true
            · exact ⟨h, by simp [d1], by simpa [d1] using OUT_same C W⟩
            · have d1' := bf d1
              simp only [d1', if_true]
              by_cases d2 : L.1 0 0 ≤ L.1 9 y + L.1 4 g'
              · rw [if_pos d2]
                by_cases c7 : said L n 4 p (nI y) (nI m) = true
                · exact ⟨h, by simp [c7, d2], by simpa [c7, d2] using OUT_same C W⟩
                · have c7' := bf c7
                  have hyz : A 0 y ≠ hz h := by have := (C.2.2.2.2.1 0 y (Or.inl ⟨rfl, hy⟩)).2; omega
                  have hy3 : A 0 y ≠ c + 3 := by have := C.lo hy; omega
                  have Q := OUT_ans C F hn' hz37 (s := 4) (p := p) (g := nI g') (t := L.1 0 0) (e := L.1 0 0) (fl := b2i fl) hy hm (Or.inl rfl)
                  rw [ora_nI _ (by omega)] at Q
                  have k := kLH (c := c) (n := n) (h := h) 4 p (some (A 1 g')) (L.1 0 0) (L.1 0 0)
                  have ky := kLHy C 4 p (some (A 1 g')) (L.1 0 0) (L.1 0 0) hy
                  have q1 := pR_k (h := LH c n h 4 p (some (A 1 g')) (L.1 0 0) (L.1 0 0)) k 7 (some (A 0 m))
                  have q0 : pZ 3 10 (sR (LH c n h 4 p (some (A 1 g')) (L.1 0 0) (L.1 0 0)) (hz h) 7 (some (A 0 m))) (some (hz h)) (b2i fl) = some (sI (sR (LH c n h 4 p (some (A 1 g')) (L.1 0 0) (L.1 0 0)) (hz h) 7 (some (A 0 m))) (hz h) 10 (b2i fl)) := by
                    unfold pZ
                    rw [if_pos (by cases fl <;> simp [b2i]), ck_k (h := sR (LH c n h 4 p (some (A 1 g')) (L.1 0 0) (L.1 0 0)) (hz h) 7 (some (A 0 m))) k]
                    rfl
                  have q2 := ck_k (h := sI (sR (LH c n h 4 p (some (A 1 g')) (L.1 0 0) (L.1 0 0)) (hz h) 7 (some (A 0 m))) (hz h) 10 (b2i fl)) k
                  have q3 := c_answer C (h0 := sI (sR (LH c n h 4 p (some (A 1 g')) (L.1 0 0) (L.1 0 0)) (hz h) 7 (some (A 0 m))) (hz h) 10 (b2i fl)) k hy hyz ky (by
                    rw [hR_sI, hR_sR, if_neg (fun w => hyz w.1), LH_Ro _ _ _ _ _ hyz, if_neg (fun w => hy3 w.1)]
                    exact (C.2.2.1 y hy).2.2.2.2.2.2.2.2.1)
                  have q4 := gI_k (h := NH L c n A h (sI (sR (LH c n h 4 p (some (A 1 g')) (L.1 0 0) (L.1 0 0)) (hz h) 7 (some (A 0 m))) (hz h) 10 (b2i fl)) y) k 0
                  have e0 : hI (NH L c n A h (sI (sR (LH c n h 4 p (some (A 1 g')) (L.1 0 0) (L.1 0 0)) (hz h) 7 (some (A 0 m))) (hz h) 10 (b2i fl)) y) (hz h) 0 = nI n := by simp [NH, hI_sR, hI_sI, LH_I hz37]
                  refine ⟨_, ?_, by simpa [c7', d2] using Q⟩
                  simp [c7', d2, cH6 C, c_lodge C hn' hz37, q1, q0, q2, q3, q4, e0]
              · exact ⟨h, by simp [d2], by simpa [d2] using OUT_same C W⟩
      · exact ⟨h, by simp [k6], by simpa [k6] using OUT_same C W⟩
end CX
