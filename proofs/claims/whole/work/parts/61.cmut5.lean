/-! PURE 32: withdraw, object -/
section CW
variable {c : Nat} {L : LM} {n np ng : Nat} {A : Nat → Nat → Nat} {h : AH}
theorem nI_subs {a b : Nat} (hab : b ≤ a) : nI a - nI b = nI (a - b) := by
  obtain ⟨d, rfl⟩ : ∃ d, a = b + d := ⟨a - b, by omega⟩
  rw [Nat.add_sub_cancel_left, ← nI_add, Int32.sub_eq_add_neg, Int32.add_comm (nI b), Int32.add_assoc, Int32.add_right_neg, Int32.add_zero]
theorem c_withdraw (C : COK c L n np ng A h) (F : WF L n np ng) (W : MW L n np ng) (hz37 : c + 37 ≤ hz h) (p x : Int32) : ∃ h', f_X7_withdraw c p x h = some ((U_withdraw L n p x).1, h') ∧ OUT c np ng h (U_withdraw L n p x).2 h' := by
  obtain ⟨w1, hn, w3, w4, w5, hnp, w7, hng, w9⟩ := id W
  unfold f_X7_withdraw U_withdraw
  simp only [cck7 C, cH1 C, cck4 C, c_atv C hn, c_isParty C, Option.bind_some, b2i_z, w5, w1]
  cases c1 : inR p (nI np)
  · exact ⟨h, by simp, by simpa using OUT_same C W⟩
  · cases c2 : inR x (nI n)
    · exact ⟨h, by simp, by simpa using OUT_same C W⟩
    · obtain ⟨y, hy, rfl⟩ := inR_of (by omega) c2
      simp only [if_true, nIt (show y < 1000 by omega), cckP C hy, c_isW C hy, Option.bind_some, Bool.and_self, b2i_z]
      by_cases k6 : (isM L y || decide (L.1 6 y = 3) || decide (L.1 6 y = 4) || decide (L.1 6 y = 7)) = true
      · have h9 : ¬ L.1 6 y = 9 := by
          intro e
          simp [isM, e] at k6
        obtain ⟨g', hg, eg⟩ := F.ab y hy h9
        rw [k6]
        simp only [if_true, cP3 C hy, eg, ora_nI _ (show g' < 1000 by omega), Option.bind_some, c_isFull C hn, cH1 C, cck4 C, cckP C hy, b2i_z]
        by_cases c3 : n = 400
        · exact ⟨h, by simp [c3], by simpa [c3] using OUT_same C W⟩
        · have hn' : n < 400 := by omega
          simp only [c3, decide_false, if_true, if_false, c_bel C F hn hng p hg, Option.bind_some]
          cases c5 : blg L n p (nI g') with
          | none => exact ⟨h, by simp, by simpa using OUT_same C W⟩
          | some m =>
            have hm := blg_lt c5
            have ef : (some (A 0 y) = some (A 0 m)) ↔ (nI y = nI m) := by
              constructor
              · intro e; rw [C.inj hy hm (Option.some.inj e)]
              · intro e; rw [nI_inj (by omega) (by omega) e]
            -- an ended paper that is not m is ended by a WITHDRAW
            have hend : (nI y = nI m ∨ ¬ L.1 12 y = -1) → (endO L n y = none ↔ wdn L n (nI y) = false) := by
              intro hc
              rcases hc with e | e
              · have : y = m := nI_inj (by omega) (by omega) e
                subst this
                have e1 := blg_end c5
                refine ⟨fun _ => ?_, fun _ => e1⟩
                have e2 := endO_none.mp e1
                unfold nmd at e2
                unfold wdn
                rw [anyF_false] at e2 ⊢
                intro z z1 z2
                have := e2 z z1 z2
                by_cases q5 : L.1 6 z = 5
                · simpa [isE, q5] using this
                · simp [q5]
              · have hM : isM L y = false := by
                  cases q : isM L y
                  · rfl
                  · obtain ⟨-, -, -, h4, -⟩ := F y hy
                    have : ofK L y = false := by
                      rcases isM_k.mp q with w | w | w <;> simp [ofK, w]
                    exact absurd (h4.2 this) e
                rw [endO_none, end_wdn F hn hy hM]
            have fin : (nI y = nI m ∨ ¬ L.1 12 y = -1) → ∃ h', f_X7_withdraw_95 c p (some (A 0 y)) h = some ((if wdn L n (nI y) = true then ((-4 : Int32), L) else (nI n, LG L n (row 5 p (nI g') (L.1 0 0) (L.1 0 0 + wt L (nI g')) (nI y) (-1) (-1) (-1) 0) 0)).1, h') ∧ OUT c np ng h (if wdn L n (nI y) = true then ((-4 : Int32), L) else (nI n, LG L n (row 5 p (nI g') (L.1 0 0) (L.1 0 0 + wt L (nI g')) (nI y) (-1) (-1) (-1) 0) 0)).2 h' := by
              intro hc
              unfold f_X7_withdraw_95
              simp only [cP12 C hy, cP3 C hy, eg, ora_nI _ (show g' < 1000 by omega), Option.bind_some]
              by_cases c7 : wdn L n (nI y) = true
              · have : endO L n y ≠ none := fun e => by rw [(hend hc).mp e] at c7; cases c7
                cases e : endO L n y with
                | none => exact absurd e this
                | some z => exact ⟨h, by simp [c7], by simpa [c7] using OUT_same C W⟩
              · have c7' := bf c7
                have e0 := (hend hc).mpr c7'
                have Q := OUT_end C F hn' hz37 (s := 5) (p := p) (g := nI g') (t := L.1 0 0) (e := L.1 0 0 + wt L (nI g')) (fl := 0) hy (Or.inl rfl) e0
                rw [ora_nI _ (by omega), sI_self (by simp [LH_I hz37])] at Q
                have k := kLH (c := c) (n := n) (h := h) 5 p (some (A 1 g')) (L.1 0 0) (L.1 0 0 + wt L (nI g'))
                have ky := kLHy C 5 p (some (A 1 g')) (L.1 0 0) (L.1 0 0 + wt L (nI g')) hy
                have q2 := ck_k k
                have q3 := c_end C k hy ky
                have q4 := gI_k (h := EH c n A h (LH c n h 5 p (some (A 1 g')) (L.1 0 0) (L.1 0 0 + wt L (nI g'))) y) k 0
                have e9 : hI (EH c n A h (LH c n h 5 p (some (A 1 g')) (L.1 0 0) (L.1 0 0 + wt L (nI g'))) y) (hz h) 0 = nI n := by simp [EH, hI_sR, LH_I hz37]
                refine ⟨_, ?_, by simpa [c7'] using Q⟩
                simp [c7', e0, cH1 C, cH6 C, cck4 C, wt_C C hg hng, c_lodge C hn' hz37, q2, q3, q4, e9]
            simp only [Option.map_some, ef, cH6 C, c_held C F hn hy hm, Option.bind_some, b2i_z]
            rw [if_neg (by simp), if_neg (by simp)]
            by_cases d1 : nI y = nI m
            · obtain ⟨h', f1, f2⟩ := fin (Or.inl d1)
              refine ⟨h', ?_, ?_⟩
              · rw [if_pos d1, f1]
                simp [d1]
              · simpa [d1] using f2
            · rw [if_neg d1]
              by_cases d2 : (!decide (L.1 12 y = -1) && hlB L n y m (L.1 0 0)) = true
              · have d3 : ¬ L.1 12 y = -1 := by
                  intro e
                  simp [e] at d2
                obtain ⟨h', f1, f2⟩ := fin (Or.inr d3)
                refine ⟨h', ?_, ?_⟩
                · rw [d2, if_neg (by simp), f1]
                  simp [d1]
                · simpa [d1, d2] using f2
              · have d2' := bf d2
                refine ⟨h, ?_, ?_⟩
                · rw [d2']; simp [d1]
                · rw [d2']; simpa [d1] using OUT_same C W
      · have k6' := bf k6
        rw [k6']
        exact ⟨h, by simp, by simpa using OUT_same C W⟩
end CW
