/-! PURE 17: who has a RESERVE has no OBJECT to it -/
theorem st_pre {L : LM} {n y x : Nat} {e k k' : Int32} (hy : y ≤ n) (hk : k' ≤ k) (hl : ¬ k' < L.1 9 x) (h : stB L n x e k = true) : stB L y x e k' = true := by
  unfold stB at h ⊢
  simp only [Bool.and_eq_true, Bool.not_eq_true', decide_eq_true_eq] at h ⊢
  refine ⟨⟨hl, h.1.2⟩, ?_⟩
  rw [anyF_false] at *
  intro z z1 z2
  cases c : endK L (nI x) e k' z with
  | false => rfl
  | true =>
    simp only [endK, Bool.and_eq_true, decide_eq_true_eq] at c
    have : endK L (nI x) e k z = true := by
      simp only [endK, Bool.and_eq_true, decide_eq_true_eq]
      refine ⟨⟨c.1.1, ?_⟩, c.2⟩
      have := not_lt_le.mp c.1.2
      exact not_lt_le.mpr (le_tr this hk)
    rw [h.2 z z1 (by omega)] at this
    cases this
theorem hld_pre {L : LM} {n y x : Nat} {k k' : Int32} (hy : y ≤ n) (hk : k' ≤ k) (hl : ¬ k' < L.1 9 x) : ∀ f j, hld L n x k f j = true → hld L y x k' f j = true := by
  intro f
  induction f with
  | zero => intro j h; exact h
  | succ f ih =>
    intro j h
    unfold hld at h ⊢
    by_cases c1 : L.1 12 x = nI j
    · rw [if_pos c1]
    · rw [if_neg c1] at h ⊢
      by_cases c2 : L.1 6 j = 8
      · rw [if_pos c2] at h ⊢
        by_cases c3 : L.1 15 j = 0
        · rw [if_pos c3] at h; cases h
        · rw [if_neg c3] at h ⊢
          by_cases c4 : stB L n x (L.1 10 j - 1) k = true
          · rw [if_pos c4] at h
            rw [if_pos (st_pre hy hk hl c4)]
            exact ih _ h
          · rw [if_neg c4] at h; cases h
      · rw [if_neg c2] at h; cases h
theorem hld_reach {L : LM} {n np ng x : Nat} {k : Int32} (F : WF L n np ng) (hn : n ≤ 400) : ∀ f i, i < n → hld L n x k f i = true → ∀ z0, z0 < n → L.1 6 z0 = 8 → L.1 11 z0 = nI i → ∃ z, z ≤ z0 ∧ isE L z = true ∧ L.1 11 z = L.1 12 x := by
  intro f
  induction f with
  | zero => intro i _ h; cases h
  | succ f ih =>
    intro i hi h z0 hz k0 n0
    unfold hld at h
    by_cases c1 : L.1 12 x = nI i
    · exact ⟨z0, Nat.le_refl _, isE_k.mpr (Or.inr k0), by rw [c1, n0]⟩
    · rw [if_neg c1] at h
      by_cases c2 : L.1 6 i = 8
      · rw [if_pos c2] at h
        by_cases c3 : L.1 15 i = 0
        · rw [if_pos c3] at h; cases h
        · rw [if_neg c3] at h
          by_cases c4 : stB L n x (L.1 10 i - 1) k = true
          · rw [if_pos c4] at h
            obtain ⟨w, hw, e⟩ := F.nm i hi (by simp [c2])
            rw [e, nIt (by omega)] at h
            obtain ⟨z, z1, z2, z3⟩ := ih w (by omega) h i hi c2 e
            obtain ⟨w', hw', e'⟩ := F.nm z0 hz (by simp [k0])
            have : i < z0 := by
              rw [n0] at e'
              have := nI_inj (by omega) (by omega) e'
              omega
            exact ⟨z, by omega, z2, z3⟩
          · rw [if_neg c4] at h; cases h
      · rw [if_neg c2] at h; cases h
theorem both_no {L : LM} {n np ng : Nat} (F : WF L n np ng) (hn : n ≤ 400) {y r m : Nat} {d k : Int32} (hy : y < n) (hr : r < n) (hm : m < n) (k4 : L.1 6 y = 4) (en : L.1 11 y = nI r) (hhr : hasB L n m r d k = true) : hasB L n m y d k = false := by
  cases hhy : hasB L n m y d k with
  | false => rfl
  | true =>
    exfalso
    unfold hasB at hhr hhy
    simp only [Bool.and_eq_true, Bool.not_eq_true', decide_eq_false_iff_not] at hhr hhy
    obtain ⟨-, ⟨-, mono⟩, l3, l4, l5⟩ := F y hy
    obtain ⟨o, o1, o2, -, -, -, o3⟩ := l4.1 (by simp [ofK, k4])
    have hry : r < y := by
      obtain ⟨w, w1, w2, -⟩ := l3.1 (by simp [nmK, k4])
      rw [en] at w2
      have := nI_inj (by omega) (by omega) w2
      omega
    have hl := mono r hry
    have hk : L.1 9 y ≤ k := by
      have := hhy.1.2
      unfold stB at this
      simp only [Bool.and_eq_true, decide_eq_true_eq] at this
      exact not_lt_le.mp this.1.1
    have key : ∀ f j, j < n → j < f → hld L n y k f j = true → hld L n r k f j = true → False := by
      intro f
      induction f with
      | zero => intro j _ _ h; cases h
      | succ f ih =>
        intro j hj hf h1 h2
        by_cases c1 : L.1 12 y = nI j
        · have e := l5.2.2.2 k4
          rw [en, c1, nIt (by omega), nIt (by omega)] at e
          have hjy : j < y := by
            rw [o2] at c1
            have := nI_inj (by omega) (by omega) c1
            omega
          unfold hlB at e
          have := hld_pre (y := y) (by omega) hk (not_lt_le.mpr hl) (f + 1) j h2
          rw [hld_fuel (show y ≤ 400 by omega) (F.mono (show y ≤ n by omega)).nm (f + 1) (j + 1) j hjy hf (by omega), e] at this
          cases this
        · unfold hld at h1
          rw [if_neg c1] at h1
          by_cases c2 : L.1 6 j = 8
          · rw [if_pos c2] at h1
            by_cases c3 : L.1 15 j = 0
            · rw [if_pos c3] at h1; cases h1
            · rw [if_neg c3] at h1
              by_cases c4 : stB L n y (L.1 10 j - 1) k = true
              · rw [if_pos c4] at h1
                obtain ⟨w, hw, e⟩ := F.nm j hj (by simp [c2])
                rw [e, nIt (by omega)] at h1
                by_cases c5 : L.1 12 r = nI j
                · obtain ⟨z, z1, z2, z3⟩ := hld_reach F hn f w (by omega) h1 j hj c2 e
                  have hjr : j < r := by
                    rcases F.of r hr with q | ⟨i, i1, i2⟩
                    · rw [q] at c5
                      exact absurd c5.symm (nI_m1 (by omega))
                    · rw [i2] at c5
                      have := nI_inj (by omega) (by omega) c5
                      omega
                  unfold nmd at o3
                  rw [anyF_false] at o3
                  have := o3 z (by omega) (by omega)
                  rw [← o2, z2, z3] at this
                  simp at this
                · unfold hld at h2
                  rw [if_neg c5, if_pos c2, if_neg c3] at h2
                  by_cases c6 : stB L n r (L.1 10 j - 1) k = true
                  · rw [if_pos c6, e, nIt (by omega)] at h2
                    exact ih w (by omega) (by omega) h1 h2
                  · rw [if_neg c6] at h2; cases h2
              · rw [if_neg c4] at h1; cases h1
          · rw [if_neg c2] at h1; cases h1
    exact key (m + 1) m hm (by omega) hhy.2 hhr.2
theorem lstA_4 {L : LM} {n np ng : Nat} (F : WF L n np ng) (hn : n ≤ 400) {x m : Nat} (hx : x < n) (hk : L.1 6 x = 3) (d k : Int32) : fstF (fun y => isA L y && decide (L.1 11 y = nI x) && (decide (L.1 15 y = 1) && hasB L n m y d k)) 0 n = lst L n 4 (nI x) m d k := by
  refine fstF_congr n 0 (fun y h1 h2 => ?_)
  unfold lstB
  by_cases c1 : L.1 11 y = nI x
  · by_cases c2 : isA L y = true
    · have := (ans_k F hn hx (show y < n by omega) c2 c1).1 hk
      simp [c1, c2, this, Bool.and_assoc]
    · have : ¬ L.1 6 y = 4 := fun e => c2 (isA_k.mpr (Or.inl e))
      simp [c2, this]
  · simp [c1]
theorem lstA_7 {L : LM} {n np ng : Nat} (F : WF L n np ng) (hn : n ≤ 400) {x m : Nat} (hx : x < n) (hk : L.1 6 x = 6) (d k : Int32) : fstF (fun y => isA L y && decide (L.1 11 y = nI x) && (decide (L.1 15 y = 0) && hasB L n m y d k)) 0 n = lst L n 7 (nI x) m d k := by
  refine fstF_congr n 0 (fun y h1 h2 => ?_)
  unfold lstB
  by_cases c1 : L.1 11 y = nI x
  · by_cases c2 : isA L y = true
    · have e7 := (ans_k F hn hx (show y < n by omega) c2 c1).2 hk
      obtain ⟨-, -, -, -, ⟨l5, -⟩⟩ := F y (by omega)
      have e0 : L.1 15 y = 0 := by
        rcases l5 with q | ⟨-, q | q⟩
        · exact q
        · rw [e7] at q; exact absurd q (by decide)
        · rw [e7] at q; exact absurd q (by decide)
      have : ¬ (7 : Int32) = 4 := by decide
      simp [c1, c2, e7, e0, this]
    · have : ¬ L.1 6 y = 7 := fun e => c2 (isA_k.mpr (Or.inr e))
      simp [c2, this]
  · simp [c1]
theorem mild_eq {L : LM} {n np ng : Nat} (F : WF L n np ng) (hn : n ≤ 400) {r m m' : Nat} (hr : r < n) (hm : m < n) (hm' : m' < n) (hk : L.1 6 r = 3) (d k : Int32) : mild L n m m' r d k = lst L n 4 (nI r) (if hasB L n m r d k = true then m' else m) d k := by
  unfold mild
  by_cases c : (hasB L n m r d k && hasB L n m' r d k) = true
  · rw [if_pos c]
    simp only [Bool.and_eq_true] at c
    rw [if_pos c.1]
    symm
    unfold lst
    rw [fstF_none]
    intro y h1 h2
    unfold lstB
    by_cases c1 : L.1 6 y = 4
    · by_cases c2 : L.1 11 y = nI r
      · rw [both_no F hn (show y < n by omega) hr hm' c1 c2 c.2]
        simp
      · simp [c2]
    · simp [c1]
  · rw [if_neg c]
