/-! PURE 14: the program's register -/
theorem lstF_succ (p : Nat → Bool) (n : Nat) : lstF p (n + 1) = if p n = true then some n else lstF p n := rfl
section CR
variable {c : Nat} {L : LM} {n np ng : Nat} {A : Nat → Nat → Nat} {h : AH}
theorem WF.abv (F : WF L n np ng) {x : Nat} (hx : x < n) : L.1 8 x = -1 ∨ ∃ g, g < ng ∧ L.1 8 x = nI g := by
  obtain ⟨⟨-, h2, h3⟩, -⟩ := F x hx
  by_cases k : L.1 6 x = 9
  · exact Or.inl (h2 k).2
  · exact Or.inr (h3 k).2.1
theorem orag_eq (C : COK c L n np ng A h) (hng : ng ≤ 10) (F : WF L n np ng) {x : Nat} (hx : x < n) {g : Nat} (hg : g < ng) : ora (A 1) (L.1 8 x) = some (A 1 g) ↔ L.1 8 x = nI g := by
  rcases F.abv hx with e | ⟨i, hi, e⟩
  · rw [e, ora_m1]
    constructor
    · intro q; cases q
    · intro q; exact absurd q.symm (nI_m1 (by omega))
  · rw [e, ora_nI _ (by omega)]
    constructor
    · intro q
      have := C.inj1 hi hg (Option.some.inj q)
      rw [this]
    · intro q
      rw [nI_inj (by omega) (by omega) q]
theorem orag_none (hng : ng ≤ 10) (F : WF L n np ng) {x : Nat} (hx : x < n) : ora (A 1) (L.1 8 x) = none ↔ L.1 8 x = -1 := by
  rcases F.abv hx with e | ⟨i, hi, e⟩
  · simp [e, ora]
  · rw [e, ora_nI _ (by omega)]
    constructor
    · intro q; cases q
    · intro q; exact absurd q (nI_m1 (by omega))
theorem c_hasAny_2 (C : COK c L n np ng A h) (F : WF L n np ng) (hn : n ≤ 400) (hng : ng ≤ 10) {g : Nat} (hg : g < ng) : ∀ m j f, j + m = n → m < f → f_X4_hasAny_2 f (c + 2) (some (A 1 g)) (nI j) h = some (anyF (fun x => decide (L.1 8 x = nI g)) j m) := by
  intro m
  induction m with
  | zero =>
    intro j f h1 h2
    obtain ⟨f, rfl⟩ : ∃ f', f = f' + 1 := ⟨f - 1, by omega⟩
    rw [f_X4_hasAny_2]
    simp only [cR1 C, Option.bind_some]
    rw [if_pos (nI_le (by omega) (by omega))]
    rfl
  | succ m ih =>
    intro j f h1 h2
    obtain ⟨f, rfl⟩ : ∃ f', f = f' + 1 := ⟨f - 1, by omega⟩
    have hj : j < n := by omega
    have ih2 := ih (j + 1) f (by omega) (by omega)
    rw [← nI_1] at ih2
    rw [f_X4_hasAny_2]
    simp only [cR1 C, Option.bind_some]
    rw [if_neg (nI_ge (by omega) (by omega))]
    simp only [cck4 C, c_at C hn hj, Option.bind_some, cP3 C hj, orag_eq C hng F hj hg, ih2, b2i_z]
    rw [if_neg (by simp)]
    by_cases c0 : L.1 8 j = nI g <;> simp [c0, anyF]
theorem c_hasAny (C : COK c L n np ng A h) (F : WF L n np ng) (hn : n ≤ 400) (hng : ng ≤ 10) {g : Nat} (hg : g < ng) : f_X4_hasAny (c + 2) (some (A 1 g)) h = some (anyAb L n (nI g)) := by
  unfold f_X4_hasAny
  have q := c_hasAny_2 C F hn hng hg n 0 FU (by omega) (by unfold FU; omega)
  rw [nI_0] at q
  exact q
theorem c_hasSign_2 (C : COK c L n np ng A h) (F : WF L n np ng) (hn : n ≤ 400) (hng : ng ≤ 10) (p : Int32) {g : Nat} (hg : g < ng) : ∀ m j f, j + m = n → m < f → f_X4_hasSign_2 f (c + 2) p (some (A 1 g)) (nI j) h = some (anyF (fun x => decide (L.1 6 x = 0) && decide (L.1 7 x = p) && decide (L.1 8 x = nI g)) j m) := by
  intro m
  induction m with
  | zero =>
    intro j f h1 h2
    obtain ⟨f, rfl⟩ : ∃ f', f = f' + 1 := ⟨f - 1, by omega⟩
    rw [f_X4_hasSign_2]
    simp only [cR1 C, Option.bind_some]
    rw [if_pos (nI_le (by omega) (by omega))]
    rfl
  | succ m ih =>
    intro j f h1 h2
    obtain ⟨f, rfl⟩ : ∃ f', f = f' + 1 := ⟨f - 1, by omega⟩
    have hj : j < n := by omega
    have ih2 := ih (j + 1) f (by omega) (by omega)
    rw [← nI_1] at ih2
    rw [f_X4_hasSign_2]
    simp only [cR1 C, Option.bind_some]
    rw [if_neg (nI_ge (by omega) (by omega))]
    simp only [cck4 C, c_at C hn hj, Option.bind_some, cP1 C hj, cP2 C hj, cP3 C hj, orag_eq C hng F hj hg, ih2, b2i_z]
    rw [if_neg (by simp)]
    by_cases c0 : L.1 6 j = 0 <;> by_cases c1 : L.1 7 j = p <;> by_cases c2 : L.1 8 j = nI g <;> simp [c0, c1, c2, anyF]
theorem c_hasSign (C : COK c L n np ng A h) (F : WF L n np ng) (hn : n ≤ 400) (hng : ng ≤ 10) (p : Int32) {g : Nat} (hg : g < ng) : f_X4_hasSign (c + 2) p (some (A 1 g)) h = some (hsg L n p (nI g)) := by
  unfold f_X4_hasSign
  have q := c_hasSign_2 C F hn hng p hg n 0 FU (by omega) (by unfold FU; omega)
  rw [nI_0] at q
  exact q
def blP (L : LM) (n : Nat) (p g : Int32) (y : Nat) : Bool := decide (L.1 7 y = p) && decide (L.1 8 y = g) && isM L y && decide (endO L n y = none)
theorem c_bel_7 (C : COK c L n np ng A h) (F : WF L n np ng) (hn : n ≤ 400) (hng : ng ≤ 10) (p : Int32) {g : Nat} (hg : g < ng) : ∀ i f, i ≤ n → i < f → f_X4_belonging_7 f (c + 2) p (some (A 1 g)) (nI i + (-1)) h = some ((lstF (blP L n p (nI g)) i).map (A 0)) := by
  intro i
  induction i with
  | zero =>
    intro f h1 h2
    obtain ⟨f, rfl⟩ : ∃ f', f = f' + 1 := ⟨f - 1, by omega⟩
    rw [f_X4_belonging_7, nI_0m, if_pos m1_neg]
    rfl
  | succ i ih =>
    intro f h1 h2
    obtain ⟨f, rfl⟩ : ∃ f', f = f' + 1 := ⟨f - 1, by omega⟩
    have hi : i < n := by omega
    rw [f_X4_belonging_7, nI_m1', if_neg (nI_pos (by omega))]
    simp only [cck4 C, c_at C hn hi, Option.bind_some, cP2 C hi, cP3 C hi, cckP C hi, c_isM C hi, cP12 C hi, orag_eq C hng F hi hg, b2i_z, ih f (by omega) (by omega)]
    rw [if_neg (by simp)]
    have e : blP L n p (nI g) i = (decide (L.1 7 i = p) && decide (L.1 8 i = nI g) && isM L i && decide (endO L n i = none)) := rfl
    rw [lstF_succ, e]
    by_cases c1 : L.1 7 i = p
    · by_cases c2 : L.1 8 i = nI g
      · cases c3 : isM L i
        · simp [c1, c2]
        · cases c4 : endO L n i with
          | none => simp [c1, c2]
          | some y => simp [c1, c2]
      · simp [c1, c2]
    · simp [c1]
theorem blP_blg (F : WF L n np ng) (p g : Int32) : lstF (blP L n p g) n = blg L n p g := by
  have key : ∀ x, blP L n p g x = (isM L x && decide (L.1 7 x = p) && decide (L.1 8 x = g) && !nmd L n (nI x)) := by
    intro x
    unfold blP
    have e1 : (decide (endO L n x = none)) = !nmd L n (nI x) := by
      by_cases q : endO L n x = none
      · rw [decide_eq_true q, endO_none.mp q]; rfl
      · rw [decide_eq_false q]
        cases q2 : nmd L n (nI x)
        · exact absurd (endO_none.mpr q2) q
        · rfl
    rw [e1]
    cases isM L x <;> cases nmd L n (nI x) <;> simp
  cases c : blg L n p g with
  | none =>
    rw [lstF_none]
    intro y hy
    rw [key]
    exact (fstF_none _ _ _).mp c y (by omega) (by omega)
  | some x =>
    obtain ⟨h1, h2, h3, h4⟩ := fstF_some _ _ _ _ c
    refine lstF_eq _ (by omega) (by rw [key]; exact h3) (fun y g1 g2 => ?_)
    cases q : blP L n p g y with
    | false => rfl
    | true =>
      rw [key] at q
      simp only [Bool.and_eq_true, decide_eq_true_eq, Bool.not_eq_true'] at q h3
      have := blg_uniq F (show x < n by omega) g2 h3.1.1.1 h3.1.1.2 h3.1.2 h3.2 q.1.1.1 q.1.1.2 q.1.2 q.2
      omega
theorem c_bel (C : COK c L n np ng A h) (F : WF L n np ng) (hn : n ≤ 400) (hng : ng ≤ 10) (p : Int32) {g : Nat} (hg : g < ng) : f_X4_belonging (c + 2) p (some (A 1 g)) h = some ((blg L n p (nI g)).map (A 0)) := by
  unfold f_X4_belonging
  simp only [cR1 C, Option.bind_some, nI_sub1, c_bel_7 C F hn hng p hg n FU (Nat.le_refl _) (by unfold FU; omega), blP_blg F]
/-- the last EFFECT in the AGREEMENT up to d, or b -/
def eG (L : LM) (g d : Int32) : Int32 → Nat → Nat → Int32
  | b, _, 0 => b
  | b, j, m + 1 => eG L g d (if L.1 8 j = g then (if d < L.1 10 j then b else if L.1 10 j ≤ b then b else L.1 10 j) else b) (j + 1) m
theorem c_lat_5 (C : COK c L n np ng A h) (F : WF L n np ng) (hn : n ≤ 400) (hng : ng ≤ 10) {g : Nat} (hg : g < ng) (d : Int32) : ∀ m j f b, j + m = n → m < f → f_X4_latestEffect_5 f (c + 2) (some (A 1 g)) d b (nI j) h = some (eG L (nI g) d b j m) := by
  intro m
  induction m with
  | zero =>
    intro j f b h1 h2
    obtain ⟨f, rfl⟩ : ∃ f', f = f' + 1 := ⟨f - 1, by omega⟩
    rw [f_X4_latestEffect_5]
    simp only [cR1 C, Option.bind_some]
    rw [if_pos (nI_le (by omega) (by omega))]
    rfl
  | succ m ih =>
    intro j f b h1 h2
    obtain ⟨f, rfl⟩ : ∃ f', f = f' + 1 := ⟨f - 1, by omega⟩
    have hj : j < n := by omega
    rw [f_X4_latestEffect_5]
    simp only [cR1 C, Option.bind_some]
    rw [if_neg (nI_ge (by omega) (by omega))]
    simp only [cck4 C, c_at C hn hj, Option.bind_some, cP3 C hj, cP5 C hj, orag_eq C hng F hj hg, nI_1, eG]
    rw [if_neg (by simp), ih (j + 1) f _ (by omega) (by omega), ih (j + 1) f _ (by omega) (by omega)]
    by_cases c1 : L.1 8 j = nI g
    · by_cases c2 : d < L.1 10 j
      · simp [c1, c2]
      · by_cases c3 : L.1 10 j ≤ b <;> simp [c1, c2, c3]
    · simp [c1]
theorem c_lat (C : COK c L n np ng A h) (F : WF L n np ng) (hn : n ≤ 400) (hng : ng ≤ 10) {g : Nat} (hg : g < ng) (d : Int32) : f_X4_latestEffect (c + 2) (some (A 1 g)) d h = some (eG L (nI g) d 0 0 n) := by
  unfold f_X4_latestEffect
  have q := c_lat_5 C F hn hng hg d n 0 FU 0 (by omega) (by unfold FU; omega)
  rw [nI_0] at q
  exact q
/-- the i-th that satisfies -/
def nthN (p : Nat → Bool) : Int32 → Nat → Nat → Option Nat
  | _, _, 0 => none
  | i, j, m + 1 => if i < 0 then none else if p j = true then (if i = 0 then some j else nthN p (i + (-1)) (j + 1) m) else nthN p i (j + 1) m
theorem nth_nthN (p : Nat → Bool) : ∀ m i j, nth p i j m = oi (nthN p i j m) := by
  intro m
  induction m with
  | zero => intro i j; rfl
  | succ m ih =>
    intro i j
    unfold nth nthN
    by_cases c1 : i < 0
    · simp [c1, oi]
    · by_cases c2 : p j = true
      · by_cases c3 : i = 0
        · simp [c2, c3, oi]
        · simp [c1, c2, c3, ih]
      · simp [c1, c2, ih]
theorem nthN_lt (p : Nat → Bool) : ∀ m i j x, nthN p i j m = some x → x < j + m := by
  intro m
  induction m with
  | zero => intro i j x h; cases h
  | succ m ih =>
    intro i j x h
    unfold nthN at h
    by_cases c1 : i < 0
    · simp [c1] at h
    · by_cases c2 : p j = true
      · by_cases c3 : i = 0
        · simp [c2, c3] at h
          omega
        · simp [c1, c2, c3] at h
          have := ih _ _ _ h
          omega
      · simp [c1, c2] at h
        have := ih _ _ _ h
        omega
theorem c_nth_7 (C : COK c L n np ng A h) (F : WF L n np ng) (hn : n ≤ 400) {q : Nat} (hq : q < n) (d k : Int32) : ∀ m j f i, j + m = n → m < f → f_X4_nthOfMember_7 f (c + 2) (some (A 0 q)) d k i (nI j) h = some ((nthN (fun x => hasB L n q x d k) i j m).map (A 0)) := by
  intro m
  induction m with
  | zero =>
    intro j f i h1 h2
    obtain ⟨f, rfl⟩ : ∃ f', f = f' + 1 := ⟨f - 1, by omega⟩
    rw [f_X4_nthOfMember_7]
    simp only [cR1 C, Option.bind_some]
    rw [if_pos (nI_le (by omega) (by omega))]
    rfl
  | succ m ih =>
    intro j f i h1 h2
    obtain ⟨f, rfl⟩ : ∃ f', f = f' + 1 := ⟨f - 1, by omega⟩
    have hj : j < n := by omega
    rw [f_X4_nthOfMember_7]
    simp only [cR1 C, Option.bind_some]
    rw [if_neg (nI_ge (by omega) (by omega))]
    simp only [cck4 C, cckP C hj, c_at C hn hj, c_st C F hj, c_held C F hn hj hq, Option.bind_some, nI_1, nthN, b2i_z]
    rw [ih (j + 1) f _ (by omega) (by omega), ih (j + 1) f _ (by omega) (by omega)]
    have e : hasB L n q j d k = (!decide (L.1 12 j = -1) && stB L n j d k && hlB L n j q k) := rfl
    by_cases c1 : i < 0
    · simp [c1]
    · simp only [c1, if_false, e]
      by_cases c2 : stB L n j d k = false
      · simp [c2]
      · have c2' : stB L n j d k = true := by simpa using c2
        by_cases c3 : L.1 12 j = -1
        · simp [c2', c3]
        · by_cases c4 : hlB L n j q k = false
          · simp [c2', c3, c4]
          · have c4' : hlB L n j q k = true := by simpa using c4
            by_cases c5 : i = 0 <;> simp [c2', c3, c4', c5]
theorem c_nth (C : COK c L n np ng A h) (F : WF L n np ng) (hn : n ≤ 400) {q : Nat} (hq : q < n) (d k i : Int32) : f_X4_nthOfMember (c + 2) (some (A 0 q)) d k i h = some ((nthN (fun x => hasB L n q x d k) i 0 n).map (A 0)) := by
  unfold f_X4_nthOfMember
  have e := c_nth_7 C F hn hq d k n 0 FU i (by omega) (by unfold FU; omega)
  rw [nI_0] at e
  exact e
theorem c_nth0_7 (C : COK c L n np ng A h) (F : WF L n np ng) (hn : n ≤ 400) (d k i : Int32) : ∀ m j f, j + m = n → m < f → f_X4_nthOfMember_7 f (c + 2) none d k i (nI j) h = some none := by
  intro m
  induction m with
  | zero =>
    intro j f h1 h2
    obtain ⟨f, rfl⟩ : ∃ f', f = f' + 1 := ⟨f - 1, by omega⟩
    rw [f_X4_nthOfMember_7]
    simp only [cR1 C, Option.bind_some]
    rw [if_pos (nI_le (by omega) (by omega))]
  | succ m ih =>
    intro j f h1 h2
    obtain ⟨f, rfl⟩ : ∃ f', f = f' + 1 := ⟨f - 1, by omega⟩
    have hj : j < n := by omega
    rw [f_X4_nthOfMember_7]
    simp only [cR1 C, Option.bind_some]
    rw [if_neg (nI_ge (by omega) (by omega))]
    simp only [cck4 C, cckP C hj, c_at C hn hj, c_st C F hj, c_held0 C F hn hj, Option.bind_some, nI_1, b2i_z]
    rw [ih (j + 1) f (by omega) (by omega)]
    by_cases c1 : i < 0
    · simp [c1]
    · by_cases c2 : stB L n j d k = false <;> simp [c1, c2]
theorem c_nth0 (C : COK c L n np ng A h) (F : WF L n np ng) (hn : n ≤ 400) (d k i : Int32) : f_X4_nthOfMember (c + 2) none d k i h = some none := by
  unfold f_X4_nthOfMember
  have e := c_nth0_7 C F hn d k i n 0 FU (by omega) (by unfold FU; omega)
  rw [nI_0] at e
  exact e
theorem c_num (C : COK c L n np ng A h) {o : Option Nat} (ho : ∀ x, o = some x → x < n) : f_X7_numberOf (o.map (A 0)) h = some (oi o) := by
  unfold f_X7_numberOf
  cases o with
  | none => rfl
  | some x => simp [cP0 C (ho x rfl), oi]
theorem c_numo (C : COK c L n np ng A h) (hn : n ≤ 400) {v : Int32} (hv : v = -1 ∨ ∃ i, i < n ∧ v = nI i) : f_X7_numberOf (ora (A 0) v) h = some v := by
  rcases hv with rfl | ⟨i, hi, rfl⟩
  · rfl
  · rw [ora_nI _ (by omega)]
    exact c_num C (o := some i) (fun x q => by cases q; exact hi)
theorem earO_lt {y z : Nat} (e : earO L y = some z) : z < y := by
  unfold earO at e
  by_cases q : isA L y = true
  · rw [if_pos q] at e
    exact (lstF_some _ _ _ e).1
  · rw [if_neg q] at e; cases e
theorem c_ans_5 (C : COK c L n np ng A h) (F : WF L n np ng) (hn : n ≤ 400) {m : Nat} (hm : m < n) : ∀ f o, (∀ x, o = some x → x < n ∧ x + 1 < f) → 0 < f → f_X3_isAnsweredBy_5 f (some (A 0 m)) (o.map (A 0)) h = some (chn L (fun y => decide (L.1 12 y = nI m) && decide (endO L n y = none)) f o) := by
  intro f
  induction f with
  | zero => intro o _ h0; omega
  | succ f ih =>
    intro o ho h0
    rw [f_X3_isAnsweredBy_5]
    cases o with
    | none => simp [chn]
    | some y =>
      obtain ⟨hy, hf⟩ := ho y rfl
      unfold f_X3_isAnsweredBy_26
      simp only [Option.map_some, cP7 C hy, cP12 C hy, cP14 C hy, Option.bind_some]
      rw [if_neg (by simp), ih (earO L y) (fun z e => ⟨by have := earO_lt e; omega, by have := earO_lt e; omega⟩) (by omega)]
      have e1 : (ora (A 0) (L.1 12 y) = some (A 0 m)) ↔ L.1 12 y = nI m := by
        rw [eq_comm]
        exact ora_eq C hn (F.ofv hy) hm
      simp only [e1, chn]
      by_cases c1 : L.1 12 y = nI m
      · cases c2 : endO L n y <;> simp [c1]
      · simp [c1]
theorem c_ans (C : COK c L n np ng A h) (F : WF L n np ng) (hn : n ≤ 400) {x m : Nat} {s p : Int32} (hx : x < n) (hm : m < n) (hs : (s = 4 ∧ L.1 6 x = 3) ∨ (s = 7 ∧ L.1 6 x = 6)) (hp : L.1 7 m = p) : f_X3_isAnsweredBy (A 0 x) (some (A 0 m)) h = some (said L n s p (nI x) (nI m)) := by
  unfold f_X3_isAnsweredBy
  simp only [cP13 C hx, Option.bind_some]
  rw [c_ans_5 C F hn hm FU (latO L n x) (fun y e => ⟨(latO_some e).1, by have := (latO_some e).1; unfold FU; omega⟩) (by unfold FU; omega), chn_eq _ n FU (by unfold FU; omega), said_chn F hn hx hm hs hp]
theorem c_isW (C : COK c L n np ng A h) {x : Nat} (hx : x < n) : f_X3_isWithdrawable (A 0 x) h = some (isM L x || decide (L.1 6 x = 3) || decide (L.1 6 x = 4) || decide (L.1 6 x = 7)) := by
  unfold f_X3_isWithdrawable
  simp only [cckP C hx, c_isM C hx, cP1 C hx, Option.bind_some, b2i_z]
  cases c1 : isM L x
  · by_cases c2 : L.1 6 x = 3
    · simp [c2]
    by_cases c3 : L.1 6 x = 4
    · simp [c3]
    by_cases c4 : L.1 6 x = 7
    · simp [c4]
    simp [c2, c3, c4]
  · simp
theorem c_isFull (C : COK c L n np ng A h) (hn : n ≤ 400) : f_X4_isFull (c + 2) h = some (decide (n = 400)) := by
  unfold f_X4_isFull
  simp only [cR1 C, cR0 C, cal3 C, Option.bind_some, nIlt (show n < 2 ^ 31 by omega) (show 400 < 2 ^ 31 by omega)]
  by_cases q : n = 400
  · subst q; simp
  · simp [q, show n < 400 by omega]
theorem c_det (C : COK c L n np ng A h) (F : WF L n np ng) (hn : n ≤ 400) (hng : ng ≤ 10) {x : Nat} (hx : x < n) (w : Int32) : f_X3_detail (A 0 x) w h = some (dtl L x w) := by
  unfold f_X3_detail dtl
  have hnm : L.1 11 x = -1 ∨ ∃ i, i < n ∧ L.1 11 x = nI i := by
    rcases F.nmv hx with q | ⟨i, hi, e⟩
    · exact Or.inl q
    · exact Or.inr ⟨i, by omega, e⟩
  simp only [cP1 C hx, cP2 C hx, cP3 C hx, cP4 C hx, cP5 C hx, cP6 C hx, cP7 C hx, cP8 C hx, cP9 C hx, cP10 C hx, c_numo C hn hnm, c_numo C hn (F.ofv hx), Option.bind_some]
  by_cases q0 : w = 0
  · simp [q0]
  by_cases q1 : w = 1
  · simp [q1]
  by_cases q2 : w = 2
  · rcases F.abv hx with e | ⟨g, hg, e⟩
    · simp [q2, e, ora_m1]
    · simp [q2, e, ora_nI _ (show g < 1000 by omega), cG0 C hg]
  by_cases q3 : w = 3
  · simp [q3]
  by_cases q4 : w = 4
  · simp [q4]
  by_cases q5 : w = 5
  · simp [q5]
  by_cases q6 : w = 6
  · simp [q6]
  by_cases q7 : w = 7
  · simp [q7]
  by_cases q8 : w = 8
  · simp [q8]
  by_cases q9 : w = 9
  · obtain ⟨-, -, -, -, ⟨h5, -⟩⟩ := F x hx
    rcases h5 with e | ⟨e, -⟩ <;> simp [q9, e]
  simp [q0, q1, q2, q3, q4, q5, q6, q7, q8, q9]
end CR
