/-! PURE 3: the reference's methods answer so -/
theorem M_isMembership {am : Nat} {h : AH} (R : MOK am h) (L : LM) {x : Nat} (hx : x < 400) : f_X8_isMembership am (nI x) (pM am L h) = some (isM L x) := by
  unfold f_X8_isMembership isM
  simp only [mR9 R, mL6 R L x hx, Option.bind_some]
  by_cases c1 : L.1 6 x = 1
  · simp [c1]
  · by_cases c2 : L.1 6 x = 2
    · simp [c2]
    · by_cases c3 : L.1 6 x = 8 <;> simp [c1, c2, c3]
theorem M_stands_25 {am : Nat} {h : AH} (R : MOK am h) (L : LM) {n : Nat} (hp : L.1 0 8 = nI n) (hn : n ≤ 400) {x : Nat} (hx : x < 400) (d k : Int32) : ∀ m j f, j + m = n → m < f → f_X8_stands_25 f am (nI x) d k (nI j) (pM am L h) = some (!anyF (endK L (nI x) d k) j m) := by
  intro m
  induction m with
  | zero =>
    intro j f h1 h2
    obtain ⟨f, rfl⟩ : ∃ f', f = f' + 1 := ⟨f - 1, by omega⟩
    rw [f_X8_stands_25]
    simp only [R.xgI, hp, Option.bind_some]
    rw [if_pos (nI_le (by omega) (by omega))]
    rfl
  | succ m ih =>
    intro j f h1 h2
    obtain ⟨f, rfl⟩ : ∃ f', f = f' + 1 := ⟨f - 1, by omega⟩
    have hj : j < 400 := by omega
    have ih2 := ih (j + 1) f (by omega) (by omega)
    rw [← nI_1] at ih2
    rw [f_X8_stands_25]
    simp only [R.xgI, hp, Option.bind_some, mR9 R, mL6 R L j hj]
    rw [if_neg (nI_ge (by omega) (by omega))]
    unfold f_X8_stands_57
    simp only [mR14 R, mL11 R L j hj, mR12 R, mL9 R L j hj, mR13 R, mL10 R L j hj, Option.bind_some, ih2, anyF, endK, isE]
    by_cases c1 : L.1 6 j = 5
    · by_cases c2 : L.1 11 j = nI x
      · by_cases c3 : k < L.1 9 j
        · simp [c1, c2, c3]
        · by_cases c4 : d < L.1 10 j <;> simp [c1, c2, c3, c4]
      · simp [c1, c2]
    · by_cases c1' : L.1 6 j = 8
      · by_cases c2 : L.1 11 j = nI x
        · by_cases c3 : k < L.1 9 j
          · simp [c1', c2, c3]
          · by_cases c4 : d < L.1 10 j <;> simp [c1', c2, c3, c4]
        · simp [c1', c2]
      · simp [c1, c1']
