/-! PURE 7: the reference's asking calls -/
def MW (L : LM) (n np ng : Nat) : Prop := L.1 0 8 = nI n ∧ n ≤ 400 ∧ NM L n ∧ OFv L n ∧ L.1 0 1 = nI np ∧ np ≤ 30 ∧ L.1 0 2 = nI ng ∧ ng ≤ 10 ∧ (∀ g, g < ng → ∃ j, j ≤ 20 ∧ L.1 1 g = nI j)
theorem SC_asB (L : LM) (an wd : Int32) (w : Nat → Bool) (p q g a : Int32) : asB (SC L an wd w) p q g a = asB L p q g a := by
  unfold asB arB
  rw [SC_1, SC_2, SCr L an wd w 1 (by decide) (by decide)]
theorem arB_of {L : LM} {n np ng : Nat} (W : MW L n np ng) {g a : Int32} (h : arB L g a = true) : ∃ g' a', g' < ng ∧ g' < 10 ∧ a' < 20 ∧ g = nI g' ∧ a = nI a' ∧ nI a' < L.1 1 g' := by
  obtain ⟨w1, w2, w3, w4, w5, w6, w7, w8, w9⟩ := W
  unfold arB at h
  rw [Bool.and_eq_true, w7] at h
  obtain ⟨g', hg, rfl⟩ := inR_of (by omega) h.1
  obtain ⟨j, hj, e⟩ := w9 g' hg
  have h2 := h.2
  rw [nIt (by omega), e] at h2
  obtain ⟨a', ha, rfl⟩ := inR_of (by omega) h2
  exact ⟨g', a', hg, by omega, by omega, rfl, rfl, by rw [e]; exact nI_lt ha (by omega)⟩
def fndI (L : LM) (n np : Nat) (p q g a d k : Int32) (w : Nat → Bool) : Int32 × Int32 × (Nat → Bool) := fnd L n np p q g.toNatClampNeg a.toNatClampNeg d k w
theorem M_fndI {am : Nat} {h : AH} (R : MOK am h) (L : LM) (an wd : Int32) (w : Nat → Bool) {n np ng : Nat} (W : MW L n np ng) {p q g a : Int32} (d k : Int32) (hA : arB L g a = true) : f_X8_finds am p q g a d k (pM am (SC L an wd w) h) = some (pM am (SR L (fndI L n np p q g a d k w)) h) := by
  obtain ⟨g', a', -, hg, ha, rfl, rfl, -⟩ := arB_of W hA
  obtain ⟨w1, w2, w3, w4, w5, w6, w7, w8, w9⟩ := W
  rw [M_finds R L an wd w w1 w2 w3 w4 w5 w6 hg ha p q d k]
  unfold fndI
  rw [nIt (by omega), nIt (by omega)]
theorem M_isAskedS {am : Nat} {h : AH} (R : MOK am h) (L : LM) (an wd : Int32) (w : Nat → Bool) {n np ng : Nat} (W : MW L n np ng) (p q g a : Int32) : f_X8_isAsked am p q g a (pM am (SC L an wd w) h) = some (asB L p q g a) := by
  obtain ⟨w1, w2, w3, w4, w5, w6, w7, w8, w9⟩ := W
  rw [M_isAsked R (SC L an wd w) (by rw [SC_2]; exact w7) w8, SC_asB]
theorem asB_ar {L : LM} {p q g a : Int32} (h : asB L p q g a = true) : arB L g a = true := by
  unfold asB at h
  rw [Bool.and_eq_true] at h
  exact h.2
theorem M_between {am : Nat} {h : AH} (R : MOK am h) (L : LM) (an wd : Int32) (w : Nat → Bool) {n np ng : Nat} (W : MW L n np ng) (p q g a d k : Int32) : f_X8_between am p q g a d k (pM am (SC L an wd w) h) = some (if (asB L p q g a && dyB d && dyB k) = true then ((fndI L n np p q g a d k w).1, pM am (SR L (fndI L n np p q g a d k w)) h) else (-1, pM am (SC L an wd w) h)) := by
  unfold f_X8_between
  simp only [R.xck, M_isAskedS R L an wd w W, M_isDay, Option.bind_some, b2i_z]
  cases c1 : asB L p q g a
  · simp
  · cases c2 : dyB d
    · simp
    · cases c3 : dyB k
      · simp
      · simp [M_fndI R L an wd w W d k (asB_ar c1), SR, R.xgI, SC_an]
theorem M_words {am : Nat} {h : AH} (R : MOK am h) (L : LM) (an wd : Int32) (w : Nat → Bool) {n np ng : Nat} (W : MW L n np ng) (p q g a d k : Int32) : f_X8_words am p q g a d k (pM am (SC L an wd w) h) = some (if (asB L p q g a && dyB d && dyB k) = true then ((fndI L n np p q g a d k w).2.1, pM am (SR L (fndI L n np p q g a d k w)) h) else (-1, pM am (SC L an wd w) h)) := by
  unfold f_X8_words
  simp only [R.xck, M_isAskedS R L an wd w W, M_isDay, Option.bind_some, b2i_z]
  cases c1 : asB L p q g a
  · simp
  · cases c2 : dyB d
    · simp
    · cases c3 : dyB k
      · simp
      · simp [M_fndI R L an wd w W d k (asB_ar c1), SR, R.xgI, SC_wd]
/-- the i-th of those that satisfy: up from j, m of them -/
def nth (p : Nat → Bool) : Int32 → Nat → Nat → Int32
  | _, _, 0 => -1
  | i, j, m + 1 => if i < 0 then -1 else if p j = true then (if i = 0 then nI j else nth p (i + (-1)) (j + 1) m) else nth p i (j + 1) m
theorem M_why_50 {am : Nat} {h : AH} (R : MOK am h) (L : LM) (an wd : Int32) (w : Nat → Bool) {n : Nat} (hp : L.1 0 8 = nI n) (hn : n ≤ 400) : ∀ m j f i, j + m = n → m < f → f_X8_why_50 f am i (nI j) (pM am (SC L an wd w) h) = some (nth w i j m, pM am (SC L an wd w) h) := by
  intro m
  induction m with
  | zero =>
    intro j f i h1 h2
    obtain ⟨f, rfl⟩ : ∃ f', f = f' + 1 := ⟨f - 1, by omega⟩
    rw [f_X8_why_50]
    simp only [R.xgI, SC_8, hp, Option.bind_some]
    rw [if_pos (nI_le (by omega) (by omega))]
    rfl
  | succ m ih =>
    intro j f i h1 h2
    obtain ⟨f, rfl⟩ : ∃ f', f = f' + 1 := ⟨f - 1, by omega⟩
    have hj : j < 400 := by omega
    rw [f_X8_why_50]
    simp only [R.xgI, SC_8, hp, Option.bind_some]
    rw [if_neg (nI_ge (by omega) (by omega))]
    simp only [mR22 R, fun L' => mL17 R L' j hj, Option.bind_some, nI_1, SC_w, b2i_z, nth]
    rw [ih (j + 1) f _ (by omega) (by omega), ih (j + 1) f _ (by omega) (by omega)]
    by_cases c1 : i < 0
    · simp [c1]
    · cases c2 : w j
      · simp [c1]
      · by_cases c3 : i = 0 <;> simp [c1, c3]
theorem M_why {am : Nat} {h : AH} (R : MOK am h) (L : LM) (an wd : Int32) (w : Nat → Bool) {n np ng : Nat} (W : MW L n np ng) (p q g a d k i : Int32) : f_X8_why am p q g a d k i (pM am (SC L an wd w) h) = some (if (asB L p q g a && dyB d && dyB k) = true then (nth (fndI L n np p q g a d k w).2.2 i 0 n, pM am (SR L (fndI L n np p q g a d k w)) h) else (-1, pM am (SC L an wd w) h)) := by
  unfold f_X8_why
  simp only [R.xck, M_isAskedS R L an wd w W, M_isDay, Option.bind_some, b2i_z]
  cases c1 : asB L p q g a
  · simp
  · cases c2 : dyB d
    · simp
    · cases c3 : dyB k
      · simp
      · have q0 := M_why_50 R L (fndI L n np p q g a d k w).1 (fndI L n np p q g a d k w).2.1 (fndI L n np p q g a d k w).2.2 W.1 W.2.1 n 0 FU i (by omega) (by unfold FU; have := W.2.1; omega)
        rw [nI_0] at q0
        simp [M_fndI R L an wd w W d k (asB_ar c1), SR, q0]
theorem M_member {am : Nat} {h : AH} (R : MOK am h) (L : LM) {n np ng : Nat} (W : MW L n np ng) (p g d k : Int32) : f_X8_member am p g d k (pM am L h) = some (if (inR p (L.1 0 1) && inR g (L.1 0 2) && dyB d && dyB k) = true then oi (mof L n p g d k) else -1) := by
  unfold f_X8_member
  simp only [R.xck, M_isParty R L, M_isAgreement R L, M_isDay, M_memberOf R L W.1 W.2.1, Option.bind_some, b2i_z]
  cases c1 : inR p (L.1 0 1)
  · simp
  · cases c2 : inR g (L.1 0 2)
    · simp
    · cases c3 : dyB d
      · simp
      · cases c4 : dyB k <;> simp
theorem M_members {am : Nat} {h : AH} (R : MOK am h) (L : LM) {n np ng : Nat} (W : MW L n np ng) (g d k : Int32) : f_X8_members am g d k (pM am L h) = some (if (inR g (L.1 0 2) && dyB d && dyB k) = true then nI (many L n np g d k) else -1) := by
  unfold f_X8_members
  simp only [R.xck, M_isAgreement R L, M_isDay, M_many R L W.1 W.2.1 W.2.2.2.2.1 W.2.2.2.2.2.1, Option.bind_some, b2i_z]
  cases c2 : inR g (L.1 0 2)
  · simp
  · cases c3 : dyB d
    · simp
    · cases c4 : dyB k <;> simp
theorem M_has_56 {am : Nat} {h : AH} (R : MOK am h) (L : LM) {n : Nat} (hp : L.1 0 8 = nI n) (hn : n ≤ 400) (N : NM L n) {q : Nat} (hq : q < n) (d k : Int32) : ∀ m j f i, j + m = n → m < f → ¬ i < 0 → f_X8_has_56 f am d k (nI q) i (nI j) (pM am L h) = some (nth (fun x => hasB L n q x d k) i j m) := by
  intro m
  induction m with
  | zero =>
    intro j f i h1 h2 hi
    obtain ⟨f, rfl⟩ : ∃ f', f = f' + 1 := ⟨f - 1, by omega⟩
    rw [f_X8_has_56]
    simp only [R.xgI, hp, Option.bind_some]
    rw [if_pos (nI_le (by omega) (by omega))]
    rfl
  | succ m ih =>
    intro j f i h1 h2 hi
    obtain ⟨f, rfl⟩ : ∃ f', f = f' + 1 := ⟨f - 1, by omega⟩
    have hj : j < n := by omega
    rw [f_X8_has_56]
    simp only [R.xgI, hp, Option.bind_some]
    rw [if_neg (nI_ge (by omega) (by omega)), if_neg (nI_m1 (by omega))]
    simp only [R.xck, M_hasPaper R L hp hn N hj hq, Option.bind_some, b2i_z, nth, hi, if_false, nI_1]
    rw [ih (j + 1) f i (by omega) (by omega) hi]
    by_cases c2 : hasB L n q j d k = false
    · simp [c2]
    · have c2' : hasB L n q j d k = true := by simpa using c2
      by_cases c3 : i = 0
      · simp [c2', c3]
      · rw [ih (j + 1) f (i + (-1)) (by omega) (by omega) (fun z => ?_)]
        · simp [c2', c3]
        · obtain ⟨i', hi', rfl⟩ := nI_of hi
          cases i' with
          | zero => exact c3 nI_0
          | succ i' => rw [nI_m1'] at z; exact nI_pos (by omega) z
theorem M_hasC {am : Nat} {h : AH} (R : MOK am h) (L : LM) {n np ng : Nat} (W : MW L n np ng) (p g d k i : Int32) : f_X8_has am p g d k i (pM am L h) = some (if (inR p (L.1 0 1) && inR g (L.1 0 2) && dyB d && dyB k && decide (0 ≤ i)) = true then (match mof L n p g d k with
    | none => -1
    | some m => nth (fun x => hasB L n m x d k) i 0 n) else -1) := by
  obtain ⟨w1, w2, w3, w4, w5, w6, w7, w8, w9⟩ := W
  unfold f_X8_has
  simp only [R.xck, M_isParty R L, M_isAgreement R L, M_isDay, M_memberOf R L w1 w2, Option.bind_some, b2i_z]
  cases c1 : inR p (L.1 0 1)
  · simp
  · cases c2 : inR g (L.1 0 2)
    · simp
    · cases c3 : dyB d
      · simp
      · cases c4 : dyB k
        · simp
        · by_cases c5 : 0 ≤ i
          · have c6 : ¬ i < 0 := by rw [Int32.lt_iff_toInt_lt]; rw [Int32.le_iff_toInt_le] at c5; omega
            cases c7 : mof L n p g d k with
            | none =>
              simp [c5, oi]
              unfold FU
              rw [f_X8_has_56]
              simp only [R.xgI, Option.bind_some]
              split <;> rfl
            | some m =>
              have q := M_has_56 R L w1 w2 w3 (mof_lt c7) d k n 0 FU i (by omega) (by unfold FU; omega) c6
              rw [nI_0] at q
              simp [c5, oi, q]
          · simp [c5]
