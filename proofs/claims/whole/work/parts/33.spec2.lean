/-! PURE 4: what finds leaves: the answer, its words, the papers of why -/
def SC (L : LM) (an wd : Int32) (w : Nat → Bool) : LM := (fun p k => if p = 0 ∧ k = 20 then an else if p = 0 ∧ k = 21 then wd else if p = 17 then b2i (w k) else L.1 p k, L.2)
def upw (w : Nat → Bool) (x : Nat) : Nat → Bool := fun y => if y = x then true else w y
def upo (w : Nat → Bool) (o : Option Nat) : Nat → Bool := match o with
  | none => w
  | some x => upw w x
def upi (w : Nat → Bool) (v : Int32) : Nat → Bool := if v = -1 then w else upw w v.toNatClampNeg
theorem SC_20 (L : LM) (an wd v : Int32) (w : Nat → Bool) : LI (SC L an wd w) 0 20 v = SC L v wd w := by
  refine Prod.ext ?_ rfl
  funext p k
  simp only [LI1, SC]
  by_cases c : p = 0 ∧ k = 20 <;> simp [c]
theorem SC_21 (L : LM) (an wd v : Int32) (w : Nat → Bool) : LI (SC L an wd w) 0 21 v = SC L an v w := by
  refine Prod.ext ?_ rfl
  funext p k
  simp only [LI1, SC]
  by_cases c : p = 0 ∧ k = 21
  · simp [c]
  · by_cases c2 : p = 0 ∧ k = 20 <;> simp [c, c2]
theorem SC_17 (L : LM) (an wd : Int32) (w : Nat → Bool) (x : Nat) : LI (SC L an wd w) 17 x 1 = SC L an wd (upw w x) := by
  refine Prod.ext ?_ rfl
  funext p k
  simp only [LI1, SC, upw]
  by_cases c : p = 17
  · by_cases c2 : k = x <;> simp [c, c2, b2i]
  · simp [c]
theorem SC_170 (L : LM) (an wd : Int32) (w : Nat → Bool) (x : Nat) : LI (SC L an wd w) 17 x 0 = SC L an wd (fun y => if y = x then false else w y) := by
  refine Prod.ext ?_ rfl
  funext p k
  simp only [LI1, SC]
  by_cases c : p = 17
  · by_cases c2 : k = x <;> simp [c, c2, b2i]
  · simp [c]
theorem SC_id {L : LM} {w : Nat → Bool} (hw : ∀ k, L.1 17 k = b2i (w k)) : SC L (L.1 0 20) (L.1 0 21) w = L := by
  refine Prod.ext ?_ rfl
  funext p k
  simp only [SC]
  by_cases c : p = 0 ∧ k = 20
  · rw [if_pos c, c.1, c.2]
  · rw [if_neg c]
    by_cases c2 : p = 0 ∧ k = 21
    · rw [if_pos c2, c2.1, c2.2]
    · rw [if_neg c2]
      by_cases c3 : p = 17
      · rw [if_pos c3, c3, hw]
      · rw [if_neg c3]
theorem SC_SC (L : LM) (an wd an' wd' : Int32) (w w' : Nat → Bool) : SC (SC L an wd w) an' wd' w' = SC L an' wd' w' := by
  refine Prod.ext ?_ rfl
  funext p k
  simp only [SC]
  by_cases c : p = 0 ∧ k = 20
  · simp [c]
  · by_cases c2 : p = 0 ∧ k = 21
    · simp [c2]
    · by_cases c3 : p = 17
      · simp [c3]
      · simp [c, c2, c3]
section SCs
variable (L : LM) (an wd : Int32) (w : Nat → Bool)
theorem SCr (p : Nat) (h0 : p ≠ 0) (h17 : p ≠ 17) : (SC L an wd w).1 p = L.1 p := by
  funext k
  simp [SC, h0, h17]
theorem SC_w (k : Nat) : (SC L an wd w).1 17 k = b2i (w k) := by simp [SC]
theorem SC_an : (SC L an wd w).1 0 20 = an := by simp [SC]
theorem SC_wd : (SC L an wd w).1 0 21 = wd := by simp [SC]
theorem SC_8 : (SC L an wd w).1 0 8 = L.1 0 8 := by simp [SC]
theorem SC_1 : (SC L an wd w).1 0 1 = L.1 0 1 := by simp [SC]
theorem SC_2 : (SC L an wd w).1 0 2 = L.1 0 2 := by simp [SC]
theorem SC_0 : (SC L an wd w).1 0 0 = L.1 0 0 := by simp [SC]
theorem SC_st (n x : Nat) (d k : Int32) : stB (SC L an wd w) n x d k = stB L n x d k := by
  simp only [stB, SCr L an wd w 9 (by decide) (by decide), SCr L an wd w 10 (by decide) (by decide)]
  rfl
theorem SC_hld (n x : Nat) (k : Int32) : ∀ f j, hld (SC L an wd w) n x k f j = hld L n x k f j := by
  intro f
  induction f with
  | zero => intro j; rfl
  | succ f ih =>
    intro j
    unfold hld
    simp only [ih, SC_st, SCr L an wd w 12 (by decide) (by decide), SCr L an wd w 6 (by decide) (by decide), SCr L an wd w 15 (by decide) (by decide), SCr L an wd w 10 (by decide) (by decide), SCr L an wd w 11 (by decide) (by decide)]
theorem SC_has (n m x : Nat) (d k : Int32) : hasB (SC L an wd w) n m x d k = hasB L n m x d k := by
  simp only [hasB, hlB, SC_hld, SC_st, SCr L an wd w 12 (by decide) (by decide)]
theorem SC_mof (n : Nat) (p g d k : Int32) : mof (SC L an wd w) n p g d k = mof L n p g d k := by
  simp only [mof, isM, SC_st, SCr L an wd w 6 (by decide) (by decide), SCr L an wd w 7 (by decide) (by decide), SCr L an wd w 8 (by decide) (by decide)]
theorem SC_many (n np : Nat) (g d k : Int32) : many (SC L an wd w) n np g d k = many L n np g d k := by
  simp only [many, SC_mof]
theorem SC_stg (n m m' : Nat) (d k : Int32) : stg (SC L an wd w) n m m' d k = stg L n m m' d k := by
  refine fstF_congr _ _ (fun y _ _ => ?_)
  simp only [stgB, SC_has, SCr L an wd w 6 (by decide) (by decide), SCr L an wd w 15 (by decide) (by decide), SCr L an wd w 11 (by decide) (by decide)]
theorem SC_lst (n : Nat) (s x : Int32) (m : Nat) (d k : Int32) : lst (SC L an wd w) n s x m d k = lst L n s x m d k := by
  refine fstF_congr _ _ (fun y _ _ => ?_)
  simp only [lstB, SC_has, SCr L an wd w 6 (by decide) (by decide), SCr L an wd w 15 (by decide) (by decide), SCr L an wd w 11 (by decide) (by decide)]
theorem SC_NM {n : Nat} (N : NM L n) : NM (SC L an wd w) n := by
  intro j hj h
  simp only [SCr L an wd w 6 (by decide) (by decide), SCr L an wd w 11 (by decide) (by decide)] at h ⊢
  exact N j hj h
end SCs
/-- 'and of each paper so far': downwards -/
def lean (L : LM) : Nat → (Nat → Bool) → (Nat → Bool)
  | 0, w => w
  | x + 1, w => lean L x (if w x = true then (if L.1 6 x = 8 then upi (upi w (L.1 12 x)) (L.1 11 x) else upi w (L.1 12 x)) else w)
def lasF (p : Nat → Bool) : Option Nat → Nat → Nat → Option Nat
  | c, _, 0 => c
  | c, j, m + 1 => lasF p (if p j = true then some j else c) (j + 1) m
theorem lasF_eq (p : Nat → Bool) : ∀ m c j, j + m = j + m → lasF p c j m = match lasF p none j m with
    | none => c
    | some x => some x := by
  intro m
  induction m with
  | zero => intro c j _; rfl
  | succ m ih =>
    intro c j _
    unfold lasF
    rw [ih _ (j + 1) rfl, ih (if p j = true then some j else none) (j + 1) rfl]
    cases lasF p none (j + 1) m with
    | some x => rfl
    | none => by_cases c : p j = true <;> simp [c]
theorem lasF_lst (p : Nat → Bool) : ∀ m j, lasF p none j m = lstF (fun y => decide (j ≤ y) && p y) (j + m) := by
  intro m
  induction m with
  | zero =>
    intro j
    symm
    refine (lstF_none _ _).mpr (fun y hy => ?_)
    simp
    intro h
    omega
  | succ m ih =>
    intro j
    unfold lasF
    rw [lasF_eq p m _ (j + 1) rfl, ih (j + 1)]
    have e : j + 1 + m = j + (m + 1) := by omega
    rw [e]
    cases h : lstF (fun y => decide (j + 1 ≤ y) && p y) (j + (m + 1)) with
    | some x =>
      obtain ⟨h1, h2, h3⟩ := lstF_some _ _ _ h
      simp at h2
      symm
      refine lstF_eq _ h1 (by simp [h2.2]; omega) (fun y q1 q2 => ?_)
      have := h3 y q1 q2
      simp at this ⊢
      intro q
      exact this (by omega)
    | none =>
      have h3 := (lstF_none _ _).mp h
      by_cases c : p j = true
      · rw [if_pos c]
        symm
        refine lstF_eq _ (by omega) (by simp [c]) (fun y q1 q2 => ?_)
        have := h3 y q2
        simp at this ⊢
        intro q
        exact this (by omega)
      · rw [if_neg c]
        symm
        refine (lstF_none _ _).mpr (fun y q2 => ?_)
        have := h3 y q2
        simp at this ⊢
        intro q
        by_cases hy : y = j
        · rw [hy]; simpa using c
        · exact this (by omega)
theorem lasF_0 (p : Nat → Bool) (n : Nat) : lasF p none 0 n = lstF p n := by
  rw [lasF_lst, Nat.zero_add]
  exact lstF_congr _ (fun y _ => by simp)
def chB (L : LM) (n m m' : Nat) (g a d k : Int32) (x : Nat) : Bool := decide (L.1 6 x = 6) && decide (L.1 8 x = g) && decide (L.1 13 x = a) && decide (¬ k < L.1 9 x) && (lst L n 7 (nI x) m d k).isSome && (lst L n 7 (nI x) m' d k).isSome
def chg (L : LM) (n m m' : Nat) (g a d k : Int32) : Option Nat := lstF (chB L n m m' g a d k) n
def rsB (L : LM) (n m m' : Nat) (a d k : Int32) (x : Nat) : Bool := decide (L.1 6 x = 3) && decide (L.1 13 x = a) && (hasB L n m x d k || hasB L n m' x d k)
def rsv (L : LM) (n m m' : Nat) (a d k : Int32) : Option Nat := lstF (rsB L n m m' a d k) n
def nee (L : LM) (n : Nat) (g d k : Int32) : Int32 → Nat → Nat → (Nat → Bool) → (Nat → Bool)
  | _, _, 0, w => w
  | l, j, m + 1, w => if l ≤ 0 then w else match mof L n (nI j) g d k with
    | none => nee L n g d k l (j + 1) m w
    | some x => nee L n g d k (l + (-1)) (j + 1) m (upw w x)
def mnO (a b : Option Nat) : Option Nat := match a, b with
  | none, b => b
  | a, none => a
  | some x, some y => some (min x y)
def mild (L : LM) (n m m' r : Nat) (d k : Int32) : Option Nat := if (hasB L n m r d k && hasB L n m' r d k) = true then none else lst L n 4 (nI r) (if hasB L n m r d k = true then m' else m) d k
def fnC (L : LM) (n m m' g' a' : Nat) (d k : Int32) (w : Nat → Bool) (c : Option Nat) : Int32 × Int32 × (Nat → Bool) := match c with
  | none => (1, L.1 5 (20 * g' + a'), w)
  | some c => (4, L.1 14 c, upo (upo (upw w c) (lst L n 7 (nI c) m d k)) (lst L n 7 (nI c) m' d k))
def fnM (L : LM) (r : Nat) (w : Nat → Bool) (o : Option Nat) : Int32 × Int32 × (Nat → Bool) := if L.1 14 r = 0 then (3, 0, w) else match o with
  | some o => (3, 0, upw w o)
  | none => (2, L.1 14 r, w)
def fnRr (L : LM) (n m m' g' a' : Nat) (d k : Int32) (w : Nat → Bool) (r : Option Nat) : Int32 × Int32 × (Nat → Bool) := match r with
  | some r => fnM L r (upw w r) (mild L n m m' r d k)
  | none => fnC L n m m' g' a' d k w (chg L n m m' (nI g') (nI a') d k)
/-- behind the strong objections: reserve, change or the agreement's own words -/
def fnR (L : LM) (n m m' g' a' : Nat) (d k : Int32) (w : Nat → Bool) : Int32 × Int32 × (Nat → Bool) := fnRr L n m m' g' a' d k w (rsv L n m m' (nI a') d k)
def clr (n : Nat) (w : Nat → Bool) : Nat → Bool := fun x => if x < n then false else w x
/-- behind the strong objections, whole -/
def fnO (L : LM) (n np m m' g' a' : Nat) (d k : Int32) (w : Nat → Bool) (o : Option Nat) : Int32 × Int32 × (Nat → Bool) := match o with
  | some o => (0, 0, lean L n (upi (upw w o) (L.1 11 o)))
  | none => let t := fnR L n m m' g' a' d k (nee L n (nI g') d k (L.1 2 g') 0 np w)
    (t.1, t.2.1, lean L n t.2.2)
def fnd (L : LM) (n np : Nat) (p q : Int32) (g' a' : Nat) (d k : Int32) (w : Nat → Bool) : Int32 × Int32 × (Nat → Bool) := match mof L n p (nI g') d k, mof L n q (nI g') d k with
  | some m, some m' => if L.1 2 g' ≤ nI (many L n np (nI g') d k) then fnO L n np m m' g' a' d k (upw (upw (clr n w) m) m') (mnO (stg L n m m' d k) (stg L n m' m d k)) else (0, 0, clr n w)
  | _, _ => (0, 0, clr n w)
/-- the membership that a paper is OF lies before it -/
def OFv (L : LM) (n : Nat) : Prop := ∀ j, j < n → L.1 12 j = -1 ∨ ∃ i, i < j ∧ L.1 12 j = nI i
