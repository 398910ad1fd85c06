/-! PURE 3: the reference's methods answer so -/
theorem M_isMembership {am : Nat} {h : AH} (R : MOK am h) (L : LM) {x : Nat} (hx : x < 400) : f_X8_isMembership am (nI x) (pM am L h) = some (isM L x) := by
  unfold f_X8_isMembership isM
  simp only [mR9 R, mL6 R L x hx, Option.bind_some]
  by_cases c1 : L.1 6 x = 1
  · simp [c1]
  · by_cases c2 : L.1 6 x = 2
    · simp [c2]
    · by_cases c3 : L.1 6 x = 8 <;> simp [c1, c2, c3]
theorem M_stands_25 {am : Nat} {h : AH} (R : MOK am h) (L : LM) {n : Nat} (hp : L.1 0 8 = nI n) (hn : n ≤ 400) {x : Nat} (hx : x < 400) (d k : Int32) : ∀ m j f, j + m = n → m < f → f_X8_stands_25 f am (nI x) d k (nI j) (pM am L h) = some (!anyF (endK L (nI x) d k) j m) := by
  intro m
  induction m with
  | zero =>
    intro j f h1 h2
    obtain ⟨f, rfl⟩ : ∃ f', f = f' + 1 := ⟨f - 1, by omega⟩
    rw [f_X8_stands_25]
    simp only [R.xgI, hp, Option.bind_some]
    rw [if_pos (nI_le (by omega) (by omega))]
    rfl
  | succ m ih =>
    intro j f h1 h2
    obtain ⟨f, rfl⟩ : ∃ f', f = f' + 1 := ⟨f - 1, by omega⟩
    have hj : j < 400 := by omega
    have ih2 := ih (j + 1) f (by omega) (by omega)
    rw [← nI_1] at ih2
    rw [f_X8_stands_25]
    simp only [R.xgI, hp, Option.bind_some, mR9 R, mL6 R L j hj]
    rw [if_neg (nI_ge (by omega) (by omega))]
    unfold f_X8_stands_57
    simp only [mR14 R, mL11 R L j hj, mR12 R, mL9 R L j hj, mR13 R, mL10 R L j hj, Option.bind_some, ih2, anyF, endK, isE]
    by_cases c1 : L.1 6 j = 5
    · by_cases c2 : L.1 11 j = nI x
      · by_cases c3 : k < L.1 9 j
        · simp [c1, c2, c3]
        · by_cases c4 : d < L.1 10 j <;> simp [c1, c2, c3, c4]
      · simp [c1, c2]
    · by_cases c1' : L.1 6 j = 8
      · by_cases c2 : L.1 11 j = nI x
        · by_cases c3 : k < L.1 9 j
          · simp [c1', c2, c3]
          · by_cases c4 : d < L.1 10 j <;> simp [c1', c2, c3, c4]
        · simp [c1', c2]
      · simp [c1, c1']
theorem M_stands {am : Nat} {h : AH} (R : MOK am h) (L : LM) {n : Nat} (hp : L.1 0 8 = nI n) (hn : n ≤ 400) {x : Nat} (hx : x < 400) (d k : Int32) : f_X8_stands am (nI x) d k (pM am L h) = some (stB L n x d k) := by
  unfold f_X8_stands stB
  have q := M_stands_25 R L hp hn hx d k n 0 FU (by omega) (by unfold FU; omega)
  rw [nI_0] at q
  simp only [mR12 R, mL9 R L x hx, mR13 R, mL10 R L x hx, Option.bind_some, q]
  by_cases c1 : k < L.1 9 x
  · simp [c1]
  · by_cases c2 : L.1 10 x ≤ d <;> simp [c1, c2]
theorem M_isHeld_3 {am : Nat} {h : AH} (R : MOK am h) (L : LM) {n : Nat} (hp : L.1 0 8 = nI n) (hn : n ≤ 400) (N : NM L n) {x : Nat} (hx : x < n) (k : Int32) : ∀ f j, j < n → j < f → f_X8_isHeld_3 f am (nI x) k (nI j) (pM am L h) = some (hld L n x k f j) := by
  intro f
  induction f with
  | zero => intro j h1 h2; omega
  | succ f ih =>
    intro j h1 h2
    have hx4 : x < 400 := by omega
    have hj : j < 400 := by omega
    rw [f_X8_isHeld_3]
    unfold hld
    simp only [mR15 R, mL12 R L x hx4, mR9 R, mL6 R L j hj, mR18 R, mL15 R L j hj, mR13 R, mL10 R L j hj, R.xck, mR14 R, mL11 R L j hj, M_stands R L hp hn hx4, Option.bind_some, b2i_z]
    by_cases c1 : L.1 12 x = nI j
    · simp [c1]
    · by_cases c2 : L.1 6 j = 8
      · by_cases c3 : L.1 15 j = 0
        · simp [c1, c2, c3]
        · cases c4 : stB L n x (L.1 10 j - 1) k
          · simp [c1, c2, c3]
          · obtain ⟨i, hi, e⟩ := N j h1 (by simp [c2])
            simp [c1, c2, c3, e, nIt (show i < 1000 by omega), ih i (by omega) (by omega)]
      · simp [c1, c2]
theorem M_isHeld {am : Nat} {h : AH} (R : MOK am h) (L : LM) {n : Nat} (hp : L.1 0 8 = nI n) (hn : n ≤ 400) (N : NM L n) {x m : Nat} (hx : x < n) (hm : m < n) (k : Int32) : f_X8_isHeld am (nI x) (nI m) k (pM am L h) = some (hlB L n x m k) := by
  unfold f_X8_isHeld hlB
  rw [M_isHeld_3 R L hp hn N hx k FU m hm (by unfold FU; omega), hld_fuel hn N FU (m + 1) m hm (by unfold FU; omega) (by omega)]
theorem M_hasPaper {am : Nat} {h : AH} (R : MOK am h) (L : LM) {n : Nat} (hp : L.1 0 8 = nI n) (hn : n ≤ 400) (N : NM L n) {x m : Nat} (hx : x < n) (hm : m < n) (d k : Int32) : f_X8_hasPaper am (nI m) (nI x) d k (pM am L h) = some (hasB L n m x d k) := by
  have hx4 : x < 400 := by omega
  unfold f_X8_hasPaper hasB
  simp only [mR15 R, mL12 R L x hx4, R.xck, M_stands R L hp hn hx4, M_isHeld R L hp hn N hx hm, Option.bind_some, b2i_z]
  by_cases c1 : L.1 12 x = -1
  · simp [c1]
  · cases c2 : stB L n x d k
    · simp [c1]
    · cases c3 : hlB L n x m k <;> simp [c1]
theorem M_memberOf_3 {am : Nat} {h : AH} (R : MOK am h) (L : LM) {n : Nat} (hp : L.1 0 8 = nI n) (hn : n ≤ 400) (p g d k : Int32) : ∀ m j f, j + m = n → m < f → f_X8_memberOf_3 f am p g d k (nI j) (pM am L h) = some (oi (fstF (fun x => isM L x && decide (L.1 7 x = p) && decide (L.1 8 x = g) && stB L n x d k) j m)) := by
  intro m
  induction m with
  | zero =>
    intro j f h1 h2
    obtain ⟨f, rfl⟩ : ∃ f', f = f' + 1 := ⟨f - 1, by omega⟩
    rw [f_X8_memberOf_3]
    simp only [R.xgI, hp, Option.bind_some]
    rw [if_pos (nI_le (by omega) (by omega))]
    rfl
  | succ m ih =>
    intro j f h1 h2
    obtain ⟨f, rfl⟩ : ∃ f', f = f' + 1 := ⟨f - 1, by omega⟩
    have hj : j < 400 := by omega
    have hjn : j < n := by omega
    have ih2 := ih (j + 1) f (by omega) (by omega)
    rw [← nI_1] at ih2
    rw [f_X8_memberOf_3]
    simp only [R.xgI, hp, Option.bind_some]
    rw [if_neg (nI_ge (by omega) (by omega))]
    simp only [R.xck, M_isMembership R L hj, mR10 R, mL7 R L j hj, mR11 R, mL8 R L j hj, M_stands R L hp hn hj, Option.bind_some, ih2, b2i_z]
    cases c0 : (isM L j) <;> by_cases c1 : L.1 7 j = p <;> by_cases c2 : L.1 8 j = g <;> cases c3 : (stB L n j d k) <;> simp [c0, c1, c2, c3, fstF, oi, b2i]
theorem M_memberOf {am : Nat} {h : AH} (R : MOK am h) (L : LM) {n : Nat} (hp : L.1 0 8 = nI n) (hn : n ≤ 400) (p g d k : Int32) : f_X8_memberOf am p g d k (pM am L h) = some (oi (mof L n p g d k)) := by
  unfold f_X8_memberOf
  have q := M_memberOf_3 R L hp hn p g d k n 0 FU (by omega) (by unfold FU; omega)
  rw [nI_0] at q
  exact q
theorem M_hasSign_2 {am : Nat} {h : AH} (R : MOK am h) (L : LM) {n : Nat} (hp : L.1 0 8 = nI n) (hn : n ≤ 400) (p g : Int32) : ∀ m j f, j + m = n → m < f → f_X8_hasSign_2 f am p g (nI j) (pM am L h) = some (anyF (fun x => decide (L.1 6 x = 0) && decide (L.1 7 x = p) && decide (L.1 8 x = g)) j m) := by
  intro m
  induction m with
  | zero =>
    intro j f h1 h2
    obtain ⟨f, rfl⟩ : ∃ f', f = f' + 1 := ⟨f - 1, by omega⟩
    rw [f_X8_hasSign_2]
    simp only [R.xgI, hp, Option.bind_some]
    rw [if_pos (nI_le (by omega) (by omega))]
    rfl
  | succ m ih =>
    intro j f h1 h2
    obtain ⟨f, rfl⟩ : ∃ f', f = f' + 1 := ⟨f - 1, by omega⟩
    have hj : j < 400 := by omega
    have hjn : j < n := by omega
    have ih2 := ih (j + 1) f (by omega) (by omega)
    rw [← nI_1] at ih2
    rw [f_X8_hasSign_2]
    simp only [R.xgI, hp, Option.bind_some]
    rw [if_neg (nI_ge (by omega) (by omega))]
    simp only [mR9 R, mL6 R L j hj, mR10 R, mL7 R L j hj, mR11 R, mL8 R L j hj, Option.bind_some, ih2, b2i_z]
    by_cases c0 : L.1 6 j = 0 <;> by_cases c1 : L.1 7 j = p <;> by_cases c2 : L.1 8 j = g <;> simp [c0, c1, c2, anyF, oi, b2i]
theorem M_hasSign {am : Nat} {h : AH} (R : MOK am h) (L : LM) {n : Nat} (hp : L.1 0 8 = nI n) (hn : n ≤ 400) (p g : Int32) : f_X8_hasSign am p g (pM am L h) = some (hsg L n p g) := by
  unfold f_X8_hasSign
  have q := M_hasSign_2 R L hp hn p g n 0 FU (by omega) (by unfold FU; omega)
  rw [nI_0] at q
  exact q
theorem M_isWithdrawn_2 {am : Nat} {h : AH} (R : MOK am h) (L : LM) {n : Nat} (hp : L.1 0 8 = nI n) (hn : n ≤ 400) (x : Int32) : ∀ m j f, j + m = n → m < f → f_X8_isWithdrawn_2 f am x (nI j) (pM am L h) = some (anyF (fun y => decide (L.1 6 y = 5) && decide (L.1 11 y = x)) j m) := by
  intro m
  induction m with
  | zero =>
    intro j f h1 h2
    obtain ⟨f, rfl⟩ : ∃ f', f = f' + 1 := ⟨f - 1, by omega⟩
    rw [f_X8_isWithdrawn_2]
    simp only [R.xgI, hp, Option.bind_some]
    rw [if_pos (nI_le (by omega) (by omega))]
    rfl
  | succ m ih =>
    intro j f h1 h2
    obtain ⟨f, rfl⟩ : ∃ f', f = f' + 1 := ⟨f - 1, by omega⟩
    have hj : j < 400 := by omega
    have hjn : j < n := by omega
    have ih2 := ih (j + 1) f (by omega) (by omega)
    rw [← nI_1] at ih2
    rw [f_X8_isWithdrawn_2]
    simp only [R.xgI, hp, Option.bind_some]
    rw [if_neg (nI_ge (by omega) (by omega))]
    simp only [mR9 R, mL6 R L j hj, mR14 R, mL11 R L j hj, Option.bind_some, ih2, b2i_z]
    by_cases c0 : L.1 6 j = 5 <;> by_cases c1 : L.1 11 j = x <;> simp [c0, c1, anyF, oi, b2i]
theorem M_isWithdrawn {am : Nat} {h : AH} (R : MOK am h) (L : LM) {n : Nat} (hp : L.1 0 8 = nI n) (hn : n ≤ 400) (x : Int32) : f_X8_isWithdrawn am x (pM am L h) = some (wdn L n x) := by
  unfold f_X8_isWithdrawn
  have q := M_isWithdrawn_2 R L hp hn x n 0 FU (by omega) (by unfold FU; omega)
  rw [nI_0] at q
  exact q
theorem M_isSaid_3 {am : Nat} {h : AH} (R : MOK am h) (L : LM) {n : Nat} (hp : L.1 0 8 = nI n) (hn : n ≤ 400) (sort p x q : Int32) : ∀ m j f, j + m = n → m < f → f_X8_isSaid_3 f am sort p x q (nI j) (pM am L h) = some (anyF (fun y => decide (L.1 6 y = sort) && decide (L.1 7 y = p) && decide (L.1 11 y = x) && decide (L.1 12 y = q) && !wdn L n (nI y)) j m) := by
  intro m
  induction m with
  | zero =>
    intro j f h1 h2
    obtain ⟨f, rfl⟩ : ∃ f', f = f' + 1 := ⟨f - 1, by omega⟩
    rw [f_X8_isSaid_3]
    simp only [R.xgI, hp, Option.bind_some]
    rw [if_pos (nI_le (by omega) (by omega))]
    rfl
  | succ m ih =>
    intro j f h1 h2
    obtain ⟨f, rfl⟩ : ∃ f', f = f' + 1 := ⟨f - 1, by omega⟩
    have hj : j < 400 := by omega
    have hjn : j < n := by omega
    have ih2 := ih (j + 1) f (by omega) (by omega)
    rw [← nI_1] at ih2
    rw [f_X8_isSaid_3]
    simp only [R.xgI, hp, Option.bind_some]
    rw [if_neg (nI_ge (by omega) (by omega))]
    simp only [mR9 R, mL6 R L j hj, mR10 R, mL7 R L j hj, mR14 R, mL11 R L j hj, mR15 R, mL12 R L j hj, R.xck, M_isWithdrawn R L hp hn, Option.bind_some, ih2, b2i_z]
    by_cases c0 : L.1 6 j = sort <;> by_cases c1 : L.1 7 j = p <;> by_cases c2 : L.1 11 j = x <;> by_cases c3 : L.1 12 j = q <;> cases c4 : (wdn L n (nI j)) <;> simp [c0, c1, c2, c3, c4, anyF, oi, b2i]
theorem M_isSaid {am : Nat} {h : AH} (R : MOK am h) (L : LM) {n : Nat} (hp : L.1 0 8 = nI n) (hn : n ≤ 400) (sort p x q : Int32) : f_X8_isSaid am sort p x q (pM am L h) = some (said L n sort p x q) := by
  unfold f_X8_isSaid
  have q := M_isSaid_3 R L hp hn sort p x q n 0 FU (by omega) (by unfold FU; omega)
  rw [nI_0] at q
  exact q
theorem M_belongs_47 {am : Nat} {h : AH} (R : MOK am h) (L : LM) {n : Nat} (hp : L.1 0 8 = nI n) (hn : n ≤ 400) (K : Nat → Int32 → Int32 → Int32 → AH → Option Int32) (p g x : Int32) : ∀ m j f (b : Bool), j + m = n → m < f → f_X8_belongs_47 K f am p g x (b2i b) (nI j) (pM am L h) = if (b || anyF (fun y => isE L y && decide (L.1 11 y = x)) j m) = true then K am p g (x + 1) (pM am L h) else some x := by
  intro m
  induction m with
  | zero =>
    intro j f b h1 h2
    obtain ⟨f, rfl⟩ : ∃ f', f = f' + 1 := ⟨f - 1, by omega⟩
    rw [f_X8_belongs_47]
    simp only [R.xgI, hp, Option.bind_some]
    rw [if_pos (nI_le (by omega) (by omega))]
    cases b <;> simp [b2i, anyF]
  | succ m ih =>
    intro j f b h1 h2
    obtain ⟨f, rfl⟩ : ∃ f', f = f' + 1 := ⟨f - 1, by omega⟩
    have hj : j < 400 := by omega
    have ihf := ih (j + 1) f false (by omega) (by omega)
    have iht := ih (j + 1) f true (by omega) (by omega)
    simp only [b2i, Bool.false_or, Bool.true_or, if_true] at ihf iht
    rw [← nI_1] at ihf iht
    rw [f_X8_belongs_47]
    simp only [R.xgI, hp, Option.bind_some]
    rw [if_neg (nI_ge (by omega) (by omega))]
    unfold f_X8_belongs_84 f_X8_belongs_95 f_X8_belongs_99 f_X8_belongs_100
    simp only [mR9 R, mL6 R L j hj, mR14 R, mL11 R L j hj, Option.bind_some, ihf, iht, b2i_z]
    cases b
    · by_cases c1 : L.1 6 j = 5
      · by_cases c2 : L.1 11 j = x <;> (first | (simp [c1, c2, anyF, isE]; done) | (simp [c1, c2, anyF, isE]; rfl))
      · by_cases c3 : L.1 6 j = 8
        · by_cases c2 : L.1 11 j = x <;> (first | (simp [c3, c2, anyF, isE]; done) | (simp [c3, c2, anyF, isE]; rfl))
        · first | (simp [c1, c3, anyF, isE]; done) | (simp [c1, c3, anyF, isE]; rfl)
    · simp
theorem M_belongs_2 {am : Nat} {h : AH} (R : MOK am h) (L : LM) {n : Nat} (hp : L.1 0 8 = nI n) (hn : n ≤ 400) (p g : Int32) : ∀ m j f, j + m = n → m < f → f_X8_belongs_2 f am p g (nI j) (pM am L h) = some (oi (fstF (fun x => isM L x && decide (L.1 7 x = p) && decide (L.1 8 x = g) && !nmd L n (nI x)) j m)) := by
  intro m
  induction m with
  | zero =>
    intro j f h1 h2
    obtain ⟨f, rfl⟩ : ∃ f', f = f' + 1 := ⟨f - 1, by omega⟩
    rw [f_X8_belongs_2]
    simp only [R.xgI, hp, Option.bind_some]
    rw [if_pos (nI_le (by omega) (by omega))]
    rfl
  | succ m ih =>
    intro j f h1 h2
    obtain ⟨f, rfl⟩ : ∃ f', f = f' + 1 := ⟨f - 1, by omega⟩
    have hj : j < 400 := by omega
    have hjn : j < n := by omega
    have ih2 := ih (j + 1) f (by omega) (by omega)
    rw [← nI_1] at ih2
    have q47 := M_belongs_47 R L hp hn (f_X8_belongs_2 f) p g (nI j) n 0 FU false (by omega) (by unfold FU; omega)
    rw [nI_0] at q47
    simp only [b2i, Bool.false_or] at q47
    change f_X8_belongs_47 (f_X8_belongs_2 f) FU am p g (nI j) 0 0 (pM am L h) = if nmd L n (nI j) = true then _ else _ at q47
    rw [f_X8_belongs_2]
    simp only [R.xgI, hp, Option.bind_some]
    rw [if_neg (nI_ge (by omega) (by omega))]
    simp only [R.xck, M_isMembership R L hj, mR10 R, mL7 R L j hj, mR11 R, mL8 R L j hj, q47, Option.bind_some, ih2, b2i_z]
    cases c0 : (isM L j) <;> by_cases c1 : L.1 7 j = p <;> by_cases c2 : L.1 8 j = g <;> cases c3 : (nmd L n (nI j)) <;> simp [c0, c1, c2, c3, fstF, oi, b2i]
theorem M_belongs {am : Nat} {h : AH} (R : MOK am h) (L : LM) {n : Nat} (hp : L.1 0 8 = nI n) (hn : n ≤ 400) (p g : Int32) : f_X8_belongs am p g (pM am L h) = some (oi (blg L n p g)) := by
  unfold f_X8_belongs
  have q := M_belongs_2 R L hp hn p g n 0 FU (by omega) (by unfold FU; omega)
  rw [nI_0] at q
  exact q
theorem M_many_6 {am : Nat} {h : AH} (R : MOK am h) (L : LM) {n : Nat} (hp : L.1 0 8 = nI n) (hn : n ≤ 400) {np : Nat} (hq : L.1 0 1 = nI np) (hnp : np ≤ 30) (g d k : Int32) : ∀ m j f acc, j + m = np → m < f → f_X8_manyMembers_6 f am g d k acc (nI j) (pM am L h) = some (acc + nI (cntF (fun p => (mof L n (nI p) g d k).isSome) j m)) := by
  intro m
  induction m with
  | zero =>
    intro j f acc h1 h2
    obtain ⟨f, rfl⟩ : ∃ f', f = f' + 1 := ⟨f - 1, by omega⟩
    rw [f_X8_manyMembers_6]
    simp only [R.xgI, hq, Option.bind_some]
    rw [if_pos (nI_le (by omega) (by omega))]
    simp [cntF, nI_0]
  | succ m ih =>
    intro j f acc h1 h2
    obtain ⟨f, rfl⟩ : ∃ f', f = f' + 1 := ⟨f - 1, by omega⟩
    rw [f_X8_manyMembers_6]
    simp only [R.xgI, hq, Option.bind_some]
    rw [if_neg (nI_ge (by omega) (by omega))]
    unfold f_X8_manyMembers_35
    simp only [R.xck, M_memberOf R L hp hn, Option.bind_some, nI_1]
    rw [ih (j + 1) f _ (by omega) (by omega), ih (j + 1) f _ (by omega) (by omega)]
    cases c : mof L n (nI j) g d k with
    | none => simp [oi, cntF, c]
    | some x =>
      have := mof_lt c
      rw [if_neg (by simp only [oi]; exact nI_m1 (by omega))]
      simp only [cntF, c, Option.isSome_some, if_true]
      rw [← nI_add, Int32.add_assoc]
      rfl
theorem M_many {am : Nat} {h : AH} (R : MOK am h) (L : LM) {n : Nat} (hp : L.1 0 8 = nI n) (hn : n ≤ 400) {np : Nat} (hq : L.1 0 1 = nI np) (hnp : np ≤ 30) (g d k : Int32) : f_X8_manyMembers am g d k (pM am L h) = some (nI (many L n np g d k)) := by
  unfold f_X8_manyMembers
  have q := M_many_6 R L hp hn hq hnp g d k np 0 FU 0 (by omega) (by unfold FU; omega)
  rw [nI_0] at q
  rw [q]
  simp [many]
theorem M_strong_3 {am : Nat} {h : AH} (R : MOK am h) (L : LM) {n : Nat} (hp : L.1 0 8 = nI n) (hn : n ≤ 400) (N : NM L n) {q q2 : Nat} (hq : q < n) (hq2 : q2 < n) (d k : Int32) : ∀ m j f, j + m = n → m < f → f_X8_strong_3 f am (nI q) (nI q2) d k (nI j) (pM am L h) = some (oi (fstF (stgB L n q q2 d k) j m)) := by
  intro m
  induction m with
  | zero =>
    intro j f h1 h2
    obtain ⟨f, rfl⟩ : ∃ f', f = f' + 1 := ⟨f - 1, by omega⟩
    rw [f_X8_strong_3]
    simp only [R.xgI, hp, Option.bind_some]
    rw [if_pos (nI_le (by omega) (by omega))]
    rfl
  | succ m ih =>
    intro j f h1 h2
    obtain ⟨f, rfl⟩ : ∃ f', f = f' + 1 := ⟨f - 1, by omega⟩
    have hj : j < 400 := by omega
    have hjn : j < n := by omega
    have ih2 := ih (j + 1) f (by omega) (by omega)
    rw [← nI_1] at ih2
    have e11 : L.1 6 j = 4 → f_X8_hasPaper am (nI q) (L.1 11 j) d k (pM am L h) = some (hasB L n q (L.1 11 j).toNatClampNeg d k) := by
      intro c
      obtain ⟨i, hi, e⟩ := N j hjn (by simp [c])
      rw [e, nIt (by omega)]
      exact M_hasPaper R L hp hn N (by omega) hq d k
    rw [f_X8_strong_3]
    simp only [R.xgI, hp, Option.bind_some]
    rw [if_neg (nI_ge (by omega) (by omega))]
    simp only [mR9 R, mL6 R L j hj, mR18 R, mL15 R L j hj, R.xck, M_hasPaper R L hp hn N hjn hq2, mR14 R, mL11 R L j hj, Option.bind_some, ih2, b2i_z]
    by_cases c0 : L.1 6 j = 4 <;> (try simp only [e11 c0, Option.bind_some, b2i_z]) <;> by_cases c1 : L.1 15 j = 0 <;> cases c2 : (hasB L n q2 j d k) <;> cases c3 : (hasB L n q (L.1 11 j).toNatClampNeg d k) <;> simp [c0, c1, c2, c3, fstF, oi, b2i, stgB]
theorem M_strong {am : Nat} {h : AH} (R : MOK am h) (L : LM) {n : Nat} (hp : L.1 0 8 = nI n) (hn : n ≤ 400) (N : NM L n) {q q2 : Nat} (hq : q < n) (hq2 : q2 < n) (d k : Int32) : f_X8_strong am (nI q) (nI q2) d k (pM am L h) = some (oi (stg L n q q2 d k)) := by
  unfold f_X8_strong
  have q := M_strong_3 R L hp hn N hq hq2 d k n 0 FU (by omega) (by unfold FU; omega)
  rw [nI_0] at q
  exact q
theorem M_leastTo_3 {am : Nat} {h : AH} (R : MOK am h) (L : LM) {n : Nat} (hp : L.1 0 8 = nI n) (hn : n ≤ 400) (N : NM L n) (sort x : Int32) {q : Nat} (hq : q < n) (d k : Int32) : ∀ m j f, j + m = n → m < f → f_X8_leastTo_3 f am sort x (nI q) d k (nI j) (pM am L h) = some (oi (fstF (lstB L n sort x q d k) j m)) := by
  intro m
  induction m with
  | zero =>
    intro j f h1 h2
    obtain ⟨f, rfl⟩ : ∃ f', f = f' + 1 := ⟨f - 1, by omega⟩
    rw [f_X8_leastTo_3]
    simp only [R.xgI, hp, Option.bind_some]
    rw [if_pos (nI_le (by omega) (by omega))]
    rfl
  | succ m ih =>
    intro j f h1 h2
    obtain ⟨f, rfl⟩ : ∃ f', f = f' + 1 := ⟨f - 1, by omega⟩
    have hj : j < 400 := by omega
    have hjn : j < n := by omega
    have ih2 := ih (j + 1) f (by omega) (by omega)
    rw [← nI_1] at ih2
    rw [f_X8_leastTo_3]
    simp only [R.xgI, hp, Option.bind_some]
    rw [if_neg (nI_ge (by omega) (by omega))]
    unfold f_X8_leastTo_50
    simp only [mR9 R, mL6 R L j hj, mR18 R, mL15 R L j hj, R.xck, M_hasPaper R L hp hn N hjn hq, mR14 R, mL11 R L j hj, Option.bind_some, ih2, b2i_z]
    by_cases c0 : L.1 6 j = sort <;> by_cases c1 : L.1 11 j = x <;> by_cases c2 : sort = 4 <;> by_cases c3 : L.1 15 j = 1 <;> cases c4 : (hasB L n q j d k) <;> (try rw [c2] at c0) <;> simp [c0, c1, c2, c3, c4, fstF, oi, b2i, lstB]
theorem M_leastTo {am : Nat} {h : AH} (R : MOK am h) (L : LM) {n : Nat} (hp : L.1 0 8 = nI n) (hn : n ≤ 400) (N : NM L n) (sort x : Int32) {q : Nat} (hq : q < n) (d k : Int32) : f_X8_leastTo am sort x (nI q) d k (pM am L h) = some (oi (lst L n sort x q d k)) := by
  unfold f_X8_leastTo
  have q := M_leastTo_3 R L hp hn N sort x hq d k n 0 FU (by omega) (by unfold FU; omega)
  rw [nI_0] at q
  exact q
theorem M_eff_12 {am : Nat} {h : AH} (R : MOK am h) (L : LM) {n : Nat} (hp : L.1 0 8 = nI n) (hn : n ≤ 400) (d : Int32) : ∀ m j f b, j + m = n → m < f → f_X8_effectBelow_12 f am d b (nI j) (pM am L h) = some (effF L d b j m) := by
  intro m
  induction m with
  | zero =>
    intro j f b h1 h2
    obtain ⟨f, rfl⟩ : ∃ f', f = f' + 1 := ⟨f - 1, by omega⟩
    rw [f_X8_effectBelow_12]
    simp only [R.xgI, hp, Option.bind_some]
    rw [if_pos (nI_le (by omega) (by omega))]
    rfl
  | succ m ih =>
    intro j f b h1 h2
    obtain ⟨f, rfl⟩ : ∃ f', f = f' + 1 := ⟨f - 1, by omega⟩
    have hj : j < 400 := by omega
    rw [f_X8_effectBelow_12]
    simp only [R.xgI, hp, Option.bind_some]
    rw [if_neg (nI_ge (by omega) (by omega))]
    simp only [mR13 R, mL10 R L j hj, Option.bind_some, nI_1, effF]
    rw [ih (j + 1) f _ (by omega) (by omega), ih (j + 1) f _ (by omega) (by omega)]
    by_cases c1 : d ≤ L.1 10 j
    · simp [c1]
    · by_cases c2 : L.1 10 j ≤ b <;> simp [c1, c2]
theorem M_effectBelow {am : Nat} {h : AH} (R : MOK am h) (L : LM) {n : Nat} (hp : L.1 0 8 = nI n) (hn : n ≤ 400) (d : Int32) : f_X8_effectBelow am d (pM am L h) = some (effB L n d) := by
  unfold f_X8_effectBelow f_X8_effectBelow_9 effB
  have q := fun b => M_eff_12 R L hp hn d n 0 FU b (by omega) (by unfold FU; omega)
  rw [nI_0] at q
  rw [q, q]
  by_cases c : d ≤ 0 <;> simp [c]
