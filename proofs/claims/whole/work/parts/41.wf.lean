/-! PURE 12: what every list of lodged PAPERS keeps to -/
def kd (L : LM) (x : Nat) : Nat := (L.1 6 x).toNatClampNeg
def nmK (L : LM) (x : Nat) : Bool := decide (L.1 6 x = 4) || decide (L.1 6 x = 5) || decide (L.1 6 x = 7) || decide (L.1 6 x = 8)
def ofK (L : LM) (x : Nat) : Bool := decide (L.1 6 x = 3) || decide (L.1 6 x = 4) || decide (L.1 6 x = 6) || decide (L.1 6 x = 7)
def wtK (L : LM) (x : Nat) : Bool := isM L x || decide (L.1 6 x = 3) || decide (L.1 6 x = 5) || decide (L.1 6 x = 7)
def okN (L : LM) (x y : Nat) : Prop := (L.1 6 x = 4 → L.1 6 y = 3) ∧ (L.1 6 x = 7 → L.1 6 y = 6) ∧ (L.1 6 x = 8 → isM L y = true) ∧ (L.1 6 x = 5 → isM L y = true ∨ L.1 6 y = 3 ∨ L.1 6 y = 4 ∨ L.1 6 y = 7)
def lc1 (L : LM) (np ng x : Nat) : Prop := (∃ s, s ≤ 9 ∧ L.1 6 x = nI s) ∧ (L.1 6 x = 9 → L.1 7 x = -1 ∧ L.1 8 x = -1) ∧ (¬ L.1 6 x = 9 → (∃ p, p < np ∧ L.1 7 x = nI p) ∧ (∃ g, g < ng ∧ L.1 8 x = nI g) ∧ L.2 16 x = 0)
def lc2 (L : LM) (x : Nat) : Prop := (∃ t w, t ≤ 73000 ∧ w ≤ 1000 ∧ L.1 9 x = nI t ∧ L.1 10 x = nI (t + w) ∧ (wtK L x = true → L.1 3 (L.1 8 x).toNatClampNeg = nI w) ∧ (wtK L x = false → w = 0)) ∧ (∀ y, y < x → L.1 9 y ≤ L.1 9 x)
def lc3 (L : LM) (x : Nat) : Prop := (nmK L x = true → ∃ y, y < x ∧ L.1 11 x = nI y ∧ L.1 8 y = L.1 8 x ∧ okN L x y) ∧ (nmK L x = false → L.1 11 x = -1)
def lc4 (L : LM) (x : Nat) : Prop := (ofK L x = true → ∃ m, m < x ∧ L.1 12 x = nI m ∧ isM L m = true ∧ L.1 7 m = L.1 7 x ∧ L.1 8 m = L.1 8 x ∧ nmd L x (nI m) = false) ∧ (ofK L x = false → L.1 12 x = -1)
def lc5 (L : LM) (x : Nat) : Prop := (L.1 15 x = 0 ∨ (L.1 15 x = 1 ∧ (L.1 6 x = 4 ∨ L.1 6 x = 8))) ∧ (isE L x = true → nmd L x (L.1 11 x) = false) ∧ (isM L x = true → blg L x (L.1 7 x) (L.1 8 x) = none) ∧ (L.1 6 x = 4 → hlB L x (L.1 11 x).toNatClampNeg (L.1 12 x).toNatClampNeg (L.1 9 x) = false)
def LC (L : LM) (np ng x : Nat) : Prop := lc1 L np ng x ∧ lc2 L x ∧ lc3 L x ∧ lc4 L x ∧ lc5 L x
def WF (L : LM) (n np ng : Nat) : Prop := ∀ x, x < n → LC L np ng x
theorem WF.mono {L : LM} {n m np ng : Nat} (F : WF L n np ng) (h : m ≤ n) : WF L m np ng := fun x hx => F x (by omega)
theorem WF.nm {L : LM} {n np ng : Nat} (F : WF L n np ng) : NM L n := by
  intro j hj hk
  obtain ⟨-, -, h3, -, -⟩ := F j hj
  obtain ⟨y, h1, h2, -⟩ := h3.1 (by rcases hk with e | e | e | e <;> simp [nmK, e])
  exact ⟨y, h1, h2⟩
theorem WF.of {L : LM} {n np ng : Nat} (F : WF L n np ng) : OFv L n := by
  intro j hj
  obtain ⟨-, -, -, h4, -⟩ := F j hj
  cases c : ofK L j
  · exact Or.inl (h4.2 c)
  · obtain ⟨m, h1, h2, -⟩ := h4.1 c
    exact Or.inr ⟨m, h1, h2⟩
theorem WF.nmv {L : LM} {n np ng : Nat} (F : WF L n np ng) {j : Nat} (hj : j < n) : L.1 11 j = -1 ∨ ∃ i, i < j ∧ L.1 11 j = nI i := by
  obtain ⟨-, -, h3, -, -⟩ := F j hj
  cases c : nmK L j
  · exact Or.inl (h3.2 c)
  · obtain ⟨m, h1, h2, -⟩ := h3.1 c
    exact Or.inr ⟨m, h1, h2⟩
theorem WF.ef {L : LM} {n np ng : Nat} (F : WF L n np ng) : EF L n := by
  intro x hx
  obtain ⟨-, ⟨⟨t, w, h1, h2, h3, h4, -⟩, -⟩, -⟩ := F x hx
  exact ⟨t + w, by omega, h4⟩
theorem WF.ab {L : LM} {n np ng : Nat} (F : WF L n np ng) : AB L n ng := by
  intro x hx hk
  obtain ⟨⟨-, -, h3⟩, -⟩ := F x hx
  exact (h3 hk).2.1
theorem isM_k {L : LM} {x : Nat} : isM L x = true ↔ L.1 6 x = 1 ∨ L.1 6 x = 2 ∨ L.1 6 x = 8 := by
  simp only [isM, Bool.or_eq_true, decide_eq_true_eq, or_assoc]
theorem isE_k {L : LM} {x : Nat} : isE L x = true ↔ L.1 6 x = 5 ∨ L.1 6 x = 8 := by
  simp only [isE, Bool.or_eq_true, decide_eq_true_eq]
/-- the one that ends it -/
def endO (L : LM) (n x : Nat) : Option Nat := fstF (fun y => isE L y && decide (L.1 11 y = nI x)) 0 n
theorem end_uniq {L : LM} {n np ng : Nat} (F : WF L n np ng) {v : Int32} {y z : Nat} (hy : y < n) (hz : z < n) (h1 : isE L y = true) (h2 : L.1 11 y = v) (h3 : isE L z = true) (h4 : L.1 11 z = v) : y = z := by
  have key : ∀ a b, a < b → b < n → isE L a = true → L.1 11 a = v → isE L b = true → L.1 11 b = v → False := by
    intro a b h hb e1 e2 e3 e4
    obtain ⟨-, -, -, -, h5⟩ := F b hb
    have := h5.2.1 e3
    rw [e4] at this
    have h6 := (anyF_false _ b 0).mp this a (by omega) (by omega)
    simp [e1, e2] at h6
  rcases Nat.lt_trichotomy y z with q | q | q
  · exact absurd (key y z q hz h1 h2 h3 h4) id
  · exact q
  · exact absurd (key z y q hy h3 h4 h1 h2) id
theorem endO_some {L : LM} {n x y : Nat} (h : endO L n x = some y) : y < n ∧ isE L y = true ∧ L.1 11 y = nI x := by
  obtain ⟨-, h1, h2, -⟩ := fstF_some _ _ _ _ h
  simp only [Bool.and_eq_true, decide_eq_true_eq] at h2
  exact ⟨by omega, h2.1, h2.2⟩
theorem endO_none {L : LM} {n x : Nat} : endO L n x = none ↔ nmd L n (nI x) = false := by
  unfold endO nmd
  rw [fstF_none, anyF_false]
theorem st_end {L : LM} {n np ng : Nat} (F : WF L n np ng) (x : Nat) (d k : Int32) : stB L n x d k = (decide (¬ k < L.1 9 x) && decide (L.1 10 x ≤ d) && match endO L n x with
    | none => true
    | some y => decide (k < L.1 9 y) || decide (d < L.1 10 y)) := by
  unfold stB
  congr 1
  cases c : endO L n x with
  | none =>
    have h := endO_none.mp c
    unfold nmd at h
    rw [anyF_false] at h
    have : anyF (endK L (nI x) d k) 0 n = false := by
      rw [anyF_false]
      intro y h1 h2
      have := h y h1 h2
      simp only [endK]
      rw [this]
      rfl
    rw [this]
    rfl
  | some y =>
    obtain ⟨h1, h2, h3⟩ := endO_some c
    by_cases c1 : k < L.1 9 y
    · have : anyF (endK L (nI x) d k) 0 n = false := by
        rw [anyF_false]
        intro z g1 g2
        cases c3 : endK L (nI x) d k z with
        | false => rfl
        | true =>
          simp only [endK, Bool.and_eq_true, decide_eq_true_eq] at c3
          have := end_uniq F h1 (by omega) h2 h3 c3.1.1.1 c3.1.1.2
          subst this
          exact absurd c1 c3.1.2
      rw [this]
      simp [c1]
    · by_cases c2 : d < L.1 10 y
      · have : anyF (endK L (nI x) d k) 0 n = false := by
          rw [anyF_false]
          intro z g1 g2
          cases c3 : endK L (nI x) d k z with
          | false => rfl
          | true =>
            simp only [endK, Bool.and_eq_true, decide_eq_true_eq] at c3
            have := end_uniq F h1 (by omega) h2 h3 c3.1.1.1 c3.1.1.2
            subst this
            exact absurd c2 c3.2
        rw [this]
        simp [c2]
      · have : anyF (endK L (nI x) d k) 0 n = true := by
          rw [anyF_iff]
          exact ⟨y, by omega, by omega, by simp [endK, h2, h3, c1, c2]⟩
        rw [this]
        simp [c1, c2]
/-- at most one MEMBERSHIP of a PARTY in an AGREEMENT is not ended -/
theorem blg_uniq {L : LM} {n np ng : Nat} (F : WF L n np ng) {p g : Int32} {x y : Nat} (hx : x < n) (hy : y < n) (h1 : isM L x = true) (h2 : L.1 7 x = p) (h3 : L.1 8 x = g) (h4 : nmd L n (nI x) = false) (g1 : isM L y = true) (g2 : L.1 7 y = p) (g3 : L.1 8 y = g) (g4 : nmd L n (nI y) = false) : x = y := by
  have key : ∀ a b, a < b → b < n → isM L a = true → L.1 7 a = p → L.1 8 a = g → nmd L n (nI a) = false → isM L b = true → L.1 7 b = p → L.1 8 b = g → False := by
    intro a b h hb e1 e2 e3 e4 e5 e6 e7
    obtain ⟨-, -, -, -, h5⟩ := F b hb
    have := h5.2.2.1 e5
    rw [e6, e7] at this
    have h6 := (fstF_none _ b 0).mp this a (by omega) (by omega)
    have h7 : nmd L b (nI a) = false := by
      unfold nmd at e4 ⊢
      rw [anyF_false] at e4 ⊢
      intro z q1 q2
      exact e4 z q1 (by omega)
    simp [e1, e2, e3, h7] at h6
  rcases Nat.lt_trichotomy x y with q | q | q
  · exact absurd (key x y q hy h1 h2 h3 h4 g1 g2 g3) id
  · exact q
  · exact absurd (key y x q hx g1 g2 g3 g4 h1 h2 h3) id
theorem nIle32 {x y : Int32} {a b : Nat} (ha : a < 2 ^ 31) (hb : b < 2 ^ 31) (e1 : x = nI a) (e2 : y = nI b) : x ≤ y ↔ a ≤ b := by rw [e1, e2]; exact nIle ha hb
theorem le_tr {a b c : Int32} (h1 : a ≤ b) (h2 : b ≤ c) : a ≤ c := by
  rw [Int32.le_iff_toInt_le] at *
  omega
/-- at most one MEMBERSHIP of a PARTY in an AGREEMENT stands -/
theorem st_uniq {L : LM} {n np ng : Nat} (F : WF L n np ng) (hn : n ≤ 400) {d k : Int32} {x y : Nat} (hx : x < n) (hy : y < n) (h1 : isM L x = true) (g1 : isM L y = true) (h2 : L.1 7 x = L.1 7 y) (h3 : L.1 8 x = L.1 8 y) (h4 : stB L n x d k = true) (g4 : stB L n y d k = true) : x = y := by
  have key : ∀ a b, a < b → b < n → isM L a = true → isM L b = true → L.1 7 a = L.1 7 b → L.1 8 a = L.1 8 b → stB L n a d k = true → stB L n b d k = true → False := by
    intro a b h hb e1 e2 e3 e4 e5 e6
    obtain ⟨-, ⟨⟨t, w, t1, t2, t3, t4, t5, -⟩, -⟩, -, -, h5⟩ := F b hb
    have h6 := h5.2.2.1 e2
    have h7 := (fstF_none _ b 0).mp h6 a (by omega) (by omega)
    have h8 : nmd L b (nI a) = true := by
      cases c : nmd L b (nI a) with
      | true => rfl
      | false => simp [e1, e3, e4, c] at h7
    unfold nmd at h8
    rw [anyF_iff] at h8
    obtain ⟨z, z1, z2, z3⟩ := h8
    simp only [Bool.and_eq_true, decide_eq_true_eq] at z3
    have hzb : z < b := by omega
    obtain ⟨-, ⟨⟨t', w', q1, q2, q3, q4, q5, -⟩, -⟩, h3', -⟩ := F z (by omega)
    obtain ⟨-, ⟨-, mono⟩, -⟩ := F b hb
    have hlz := mono z hzb
    have hw : wtK L z = true := by
      rcases isE_k.mp z3.1 with e | e
      · simp [wtK, e]
      · simp [wtK, isM_k.mpr (Or.inr (Or.inr e))]
    have hwb : wtK L b = true := by simp [wtK, e2]
    have hab : L.1 8 a = L.1 8 z := by
      obtain ⟨y', y1, y2, y3, -⟩ := h3'.1 (by rcases isE_k.mp z3.1 with e | e <;> simp [nmK, e])
      rw [z3.2] at y2
      have := nI_inj (show a < 2 ^ 31 by omega) (by omega) y2
      rw [this]; exact y3
    have ew : w = w' := by
      have := t5 hwb
      rw [← e4, hab, q5 hw] at this
      exact (nI_inj (by omega) (by omega) this).symm
    have hl : t' ≤ t := (nIle32 (by omega) (by omega) q3 t3).mp hlz
    have sa := e5
    unfold stB at sa
    simp only [Bool.and_eq_true, Bool.not_eq_true', decide_eq_true_eq] at sa
    rw [anyF_false] at sa
    have sz := sa.2 z (by omega) (by omega)
    have sb := e6
    unfold stB at sb
    simp only [Bool.and_eq_true, Bool.not_eq_true', decide_eq_true_eq] at sb
    have r1 : ¬ k < L.1 9 z := by
      rw [not_lt_le, q3]
      have : L.1 9 b ≤ k := not_lt_le.mp sb.1.1
      rw [t3] at this
      exact le_tr (nI_le hl (by omega)) this
    have r2 : ¬ d < L.1 10 z := by
      rw [not_lt_le, q4]
      have : L.1 10 b ≤ d := sb.1.2
      rw [t4] at this
      exact le_tr (nI_le (by omega) (by omega)) this
    simp [endK, z3.1, z3.2, r1, r2] at sz
  rcases Nat.lt_trichotomy x y with q | q | q
  · exact absurd (key x y q hy h1 g1 h2 h3 h4 g4) id
  · exact q
  · exact absurd (key y x q hx g1 h1 h2.symm h3.symm g4 h4) id
/-- OBJECTs or CONSENTs -/
def isA (L : LM) (y : Nat) : Bool := decide (L.1 6 y = 4) || decide (L.1 6 y = 7)
def latO (L : LM) (n x : Nat) : Option Nat := lstF (fun y => isA L y && decide (L.1 11 y = nI x)) n
def earO (L : LM) (y : Nat) : Option Nat := if isA L y = true then lstF (fun z => isA L z && decide (L.1 11 z = L.1 11 y)) y else none
theorem isA_k {L : LM} {x : Nat} : isA L x = true ↔ L.1 6 x = 4 ∨ L.1 6 x = 7 := by
  simp only [isA, Bool.or_eq_true, decide_eq_true_eq]
theorem latO_some {L : LM} {n x y : Nat} (h : latO L n x = some y) : y < n ∧ isA L y = true ∧ L.1 11 y = nI x := by
  obtain ⟨h1, h2, -⟩ := lstF_some _ _ _ h
  simp only [Bool.and_eq_true, decide_eq_true_eq] at h2
  exact ⟨h1, h2.1, h2.2⟩
theorem earO_eq {L : LM} {x y : Nat} (h1 : isA L y = true) (h2 : L.1 11 y = nI x) : earO L y = latO L y x := by
  unfold earO latO
  rw [if_pos h1, h2]
/-- those of the kind that answer it have one kind -/
theorem ans_k {L : LM} {n np ng : Nat} (F : WF L n np ng) (hn : n ≤ 400) {x y : Nat} (hx : x < n) (hy : y < n) (h1 : isA L y = true) (h2 : L.1 11 y = nI x) : (L.1 6 x = 3 → L.1 6 y = 4) ∧ (L.1 6 x = 6 → L.1 6 y = 7) := by
  obtain ⟨-, -, h3, -⟩ := F y hy
  obtain ⟨z, z1, z2, -, z3⟩ := h3.1 (by rcases isA_k.mp h1 with e | e <;> simp [nmK, e])
  rw [h2] at z2
  have := nI_inj (by omega) (by omega) z2
  subst this
  constructor
  · intro k
    rcases isA_k.mp h1 with e | e
    · exact e
    · have := z3.2.1 e
      rw [k] at this
      exact absurd this (by decide)
  · intro k
    rcases isA_k.mp h1 with e | e
    · have := z3.1 e
      rw [k] at this
      exact absurd this (by decide)
    · exact e
/-- an answer is ended by a WITHDRAW alone -/
theorem end_wdn {L : LM} {n np ng : Nat} (F : WF L n np ng) (hn : n ≤ 400) {y : Nat} (hy : y < n) (hM : isM L y = false) : nmd L n (nI y) = wdn L n (nI y) := by
  unfold nmd wdn
  refine anyF_congr n 0 (fun z h1 h2 => ?_)
  by_cases c : L.1 11 z = nI y
  · simp only [c, decide_true, Bool.and_true, isE]
    by_cases c8 : L.1 6 z = 8
    · obtain ⟨-, -, h3, -⟩ := F z (by omega)
      obtain ⟨w, w1, w2, -, w3⟩ := h3.1 (by simp [nmK, c8])
      rw [c] at w2
      have := nI_inj (by omega) (by omega) w2
      subst this
      have := w3.2.2.1 c8
      rw [hM] at this
      cases this
    · simp [c8]
  · simp [c]
/-- the chain of answers -/
def chn (L : LM) (p : Nat → Bool) : Nat → Option Nat → Bool
  | 0, _ => false
  | _ + 1, none => false
  | f + 1, some y => p y || chn L p f (earO L y)
theorem chn_eq {L : LM} (p : Nat → Bool) {x : Nat} : ∀ n f, n < f → chn L p f (latO L n x) = anyF (fun y => isA L y && decide (L.1 11 y = nI x) && p y) 0 n := by
  intro n
  induction n using Nat.strongRecOn with
  | _ n ih =>
    intro f hf
    obtain ⟨f, rfl⟩ : ∃ f', f = f' + 1 := ⟨f - 1, by omega⟩
    cases c : latO L n x with
    | none =>
      have e : chn L p (f + 1) none = false := rfl
      rw [e]
      symm
      rw [anyF_false]
      intro y h1 h2
      have := show (isA L y && decide (L.1 11 y = nI x)) = false from (lstF_none _ _).mp c y (by omega)
      rw [this]
      rfl
    | some y =>
      obtain ⟨h1, h2, h3⟩ := latO_some c
      show (p y || chn L p f (earO L y)) = _
      rw [earO_eq h2 h3, ih y h1 f (by omega)]
      cases cp : p y with
      | true =>
        symm
        rw [Bool.true_or, anyF_iff]
        exact ⟨y, by omega, by omega, by simp [h2, h3, cp]⟩
      | false =>
        rw [Bool.false_or, Bool.eq_iff_iff, anyF_iff, anyF_iff]
        constructor
        · rintro ⟨z, z1, z2, z3⟩
          exact ⟨z, z1, by omega, z3⟩
        · rintro ⟨z, z1, z2, z3⟩
          refine ⟨z, z1, ?_, z3⟩
          simp only [Bool.and_eq_true, decide_eq_true_eq] at z3
          rcases Nat.lt_trichotomy z y with q | q | q
          · omega
          · subst q; rw [cp] at z3; cases z3.2
          · have := (lstF_some _ _ _ c).2.2 z q (by omega)
            simp [z3.1.1, z3.1.2] at this
theorem said_chn {L : LM} {n np ng : Nat} (F : WF L n np ng) (hn : n ≤ 400) {x m : Nat} {s p : Int32} (hx : x < n) (hm : m < n) (hs : (s = 4 ∧ L.1 6 x = 3) ∨ (s = 7 ∧ L.1 6 x = 6)) (hp : L.1 7 m = p) : said L n s p (nI x) (nI m) = anyF (fun y => isA L y && decide (L.1 11 y = nI x) && (decide (L.1 12 y = nI m) && decide (endO L n y = none))) 0 n := by
  unfold said
  refine anyF_congr n 0 (fun y h1 h2 => ?_)
  have hy : y < n := by omega
  by_cases c : L.1 11 y = nI x
  · by_cases ca : isA L y = true
    · have hk := ans_k F hn hx hy ca c
      have hk2 : L.1 6 y = s := by
        rcases hs with ⟨a, b⟩ | ⟨a, b⟩
        · rw [a]; exact hk.1 b
        · rw [a]; exact hk.2 b
      by_cases co : L.1 12 y = nI m
      · obtain ⟨-, -, -, h4, -⟩ := F y hy
        obtain ⟨z, z1, z2, -, z3, -⟩ := h4.1 (by rcases isA_k.mp ca with e | e <;> simp [ofK, e])
        rw [co] at z2
        have := nI_inj (by omega) (by omega) z2
        subst this
        have hM : isM L y = false := by
          rcases isA_k.mp ca with e | e <;> simp [isM, e]
        have e1 : (decide (endO L n y = none)) = !wdn L n (nI y) := by
          rw [← end_wdn F hn hy hM]
          by_cases q : endO L n y = none
          · rw [decide_eq_true q, endO_none.mp q]; rfl
          · rw [decide_eq_false q]
            cases q2 : nmd L n (nI y)
            · exact absurd (endO_none.mpr q2) q
            · rfl
        rw [e1]
        simp [hk2, c, co, ca, ← z3, hp]
      · simp [co]
    · have : ¬ L.1 6 y = s := by
        intro e
        apply ca
        rw [isA_k, e]
        rcases hs with ⟨a, b⟩ | ⟨a, b⟩
        · exact Or.inl a
        · exact Or.inr a
      simp [ca, this]
  · simp [c]
/-- the last of the chain that satisfies: the least -/
def chl (L : LM) (p : Nat → Bool) : Nat → Option Nat → Option Nat → Option Nat
  | 0, l, _ => l
  | _ + 1, l, none => l
  | f + 1, l, some y => chl L p f (if p y = true then some y else l) (earO L y)
theorem chl_eq {L : LM} (p : Nat → Bool) {x : Nat} : ∀ n f l, n < f → chl L p f l (latO L n x) = match fstF (fun y => isA L y && decide (L.1 11 y = nI x) && p y) 0 n with
    | some z => some z
    | none => l := by
  intro n
  induction n using Nat.strongRecOn with
  | _ n ih =>
    intro f l hf
    obtain ⟨f, rfl⟩ : ∃ f', f = f' + 1 := ⟨f - 1, by omega⟩
    cases c : latO L n x with
    | none =>
      have : fstF (fun y => isA L y && decide (L.1 11 y = nI x) && p y) 0 n = none := by
        rw [fstF_none]
        intro y h1 h2
        have := show (isA L y && decide (L.1 11 y = nI x)) = false from (lstF_none _ _).mp c y (by omega)
        rw [this]
        rfl
      rw [this]
      rfl
    | some y =>
      obtain ⟨h1, h2, h3⟩ := latO_some c
      show chl L p f (if p y = true then some y else l) (earO L y) = _
      rw [earO_eq h2 h3, ih y h1 f _ (by omega)]
      cases c2 : fstF (fun y => isA L y && decide (L.1 11 y = nI x) && p y) 0 y with
      | some z =>
        obtain ⟨g1, g2, g3, g4⟩ := fstF_some _ _ _ _ c2
        rw [fstF_eq _ g1 (show z < 0 + n by omega) g3 g4]
      | none =>
        have g := (fstF_none _ _ _).mp c2
        cases cp : p y with
        | true =>
          rw [fstF_eq _ (show 0 ≤ y by omega) (show y < 0 + n by omega) (by simp [h2, h3, cp]) (fun z z1 z2 => g z z1 (by omega))]
          simp
        | false =>
          have : fstF (fun y => isA L y && decide (L.1 11 y = nI x) && p y) 0 n = none := by
            rw [fstF_none]
            intro z z1 z2
            rcases Nat.lt_trichotomy z y with q | q | q
            · exact g z z1 (by omega)
            · subst q; simp [cp]
            · have := show (isA L z && decide (L.1 11 z = nI x)) = false from (lstF_some _ _ _ c).2.2 z q (by omega)
              rw [this]
              rfl
          rw [this]
          simp
