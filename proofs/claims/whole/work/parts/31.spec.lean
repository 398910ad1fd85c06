/-! PURE 2: what the reference's questions answer, of its memory L with n papers -/
def isE (L : LM) (y : Nat) : Bool := decide (L.1 6 y = 5) || decide (L.1 6 y = 8)
def isM (L : LM) (x : Nat) : Bool := decide (L.1 6 x = 1) || decide (L.1 6 x = 2) || decide (L.1 6 x = 8)
def nmd (L : LM) (n : Nat) (x : Int32) : Bool := anyF (fun y => isE L y && decide (L.1 11 y = x)) 0 n
def blg (L : LM) (n : Nat) (p g : Int32) : Option Nat := fstF (fun x => isM L x && decide (L.1 7 x = p) && decide (L.1 8 x = g) && !nmd L n (nI x)) 0 n
def endK (L : LM) (x d k : Int32) (y : Nat) : Bool := isE L y && decide (L.1 11 y = x) && decide (¬ k < L.1 9 y) && decide (¬ d < L.1 10 y)
def stB (L : LM) (n x : Nat) (d k : Int32) : Bool := decide (¬ k < L.1 9 x) && decide (L.1 10 x ≤ d) && !anyF (endK L (nI x) d k) 0 n
def hld (L : LM) (n x : Nat) (k : Int32) : Nat → Nat → Bool
  | 0, _ => false
  | f + 1, j => if L.1 12 x = nI j then true else if L.1 6 j = 8 then (if L.1 15 j = 0 then false else if stB L n x (L.1 10 j - 1) k = true then hld L n x k f (L.1 11 j).toNatClampNeg else false) else false
def hlB (L : LM) (n x m : Nat) (k : Int32) : Bool := hld L n x k (m + 1) m
def mof (L : LM) (n : Nat) (p g d k : Int32) : Option Nat := fstF (fun x => isM L x && decide (L.1 7 x = p) && decide (L.1 8 x = g) && stB L n x d k) 0 n
def many (L : LM) (n np : Nat) (g d k : Int32) : Nat := cntF (fun p => (mof L n (nI p) g d k).isSome) 0 np
def hasB (L : LM) (n m x : Nat) (d k : Int32) : Bool := !decide (L.1 12 x = -1) && stB L n x d k && hlB L n x m k
def hsg (L : LM) (n : Nat) (p g : Int32) : Bool := anyF (fun x => decide (L.1 6 x = 0) && decide (L.1 7 x = p) && decide (L.1 8 x = g)) 0 n
def wdn (L : LM) (n : Nat) (x : Int32) : Bool := anyF (fun y => decide (L.1 6 y = 5) && decide (L.1 11 y = x)) 0 n
def said (L : LM) (n : Nat) (sort p x m : Int32) : Bool := anyF (fun y => decide (L.1 6 y = sort) && decide (L.1 7 y = p) && decide (L.1 11 y = x) && decide (L.1 12 y = m) && !wdn L n (nI y)) 0 n
/-- what a paper names lies before it (memory safety of the chains) -/
def NM (L : LM) (n : Nat) : Prop := ∀ j, j < n → (L.1 6 j = 4 ∨ L.1 6 j = 5 ∨ L.1 6 j = 7 ∨ L.1 6 j = 8) → ∃ i, i < j ∧ L.1 11 j = nI i
theorem nIt {n : Nat} (h : n < 1000) : (nI n).toNatClampNeg = n := nI_clamp (by omega)
theorem hld_fuel {L : LM} {n x : Nat} {k : Int32} (hn : n ≤ 400) (N : NM L n) : ∀ f f' j, j < n → j < f → j < f' → hld L n x k f j = hld L n x k f' j := by
  intro f
  induction f with
  | zero => intro f' j h1 h2; omega
  | succ f ih =>
    intro f' j h1 h2 h3
    cases f' with
    | zero => omega
    | succ f' =>
      unfold hld
      by_cases c1 : L.1 12 x = nI j
      · rw [if_pos c1, if_pos c1]
      · rw [if_neg c1, if_neg c1]
        by_cases c2 : L.1 6 j = 8
        · rw [if_pos c2, if_pos c2]
          by_cases c3 : L.1 15 j = 0
          · rw [if_pos c3, if_pos c3]
          · rw [if_neg c3, if_neg c3]
            by_cases c4 : stB L n x (L.1 10 j - 1) k = true
            · rw [if_pos c4, if_pos c4]
              obtain ⟨i, hi, e⟩ := N j h1 (by simp [c2])
              rw [e, nIt (by omega)]
              exact ih f' i (by omega) (by omega) (by omega)
            · rw [if_neg c4, if_neg c4]
        · rw [if_neg c2, if_neg c2]
def stgB (L : LM) (n m m' : Nat) (d k : Int32) (x : Nat) : Bool := decide (L.1 6 x = 4) && decide (L.1 15 x = 0) && hasB L n m' x d k && hasB L n m (L.1 11 x).toNatClampNeg d k
/-- the first strong OBJECT that the side with m' has to a RESERVE that the side with m has -/
def stg (L : LM) (n m m' : Nat) (d k : Int32) : Option Nat := fstF (stgB L n m m' d k) 0 n
def lstB (L : LM) (n : Nat) (sort x : Int32) (m : Nat) (d k : Int32) (y : Nat) : Bool := decide (L.1 6 y = sort) && decide (L.1 11 y = x) && (decide (¬ sort = 4) || decide (L.1 15 y = 1)) && hasB L n m y d k
def lst (L : LM) (n : Nat) (sort x : Int32) (m : Nat) (d k : Int32) : Option Nat := fstF (lstB L n sort x m d k) 0 n
def effF (L : LM) (d : Int32) : Int32 → Nat → Nat → Int32
  | b, _, 0 => b
  | b, j, m + 1 => effF L d (if d ≤ L.1 10 j then b else if L.1 10 j ≤ b then b else L.1 10 j) (j + 1) m
def effB (L : LM) (n : Nat) (d : Int32) : Int32 := effF L d (if d ≤ 0 then -1 else 0) 0 n
theorem oi_m1 {o : Option Nat} (h : ∀ x, o = some x → x < 2 ^ 31) : oi o = -1 ↔ o = none := by
  cases o with
  | none => simp [oi]
  | some x =>
    simp only [oi]
    constructor
    · intro q; exact absurd q (nI_m1 (h x rfl))
    · intro q; cases q
theorem mof_lt {L : LM} {n : Nat} {p g d k : Int32} {x : Nat} (h : mof L n p g d k = some x) : x < n := by
  have := (fstF_some _ _ _ _ h).2.1
  omega
theorem blg_lt {L : LM} {n : Nat} {p g : Int32} {x : Nat} (h : blg L n p g = some x) : x < n := by
  have := (fstF_some _ _ _ _ h).2.1
  omega
theorem stg_lt {L : LM} {n m m' : Nat} {d k : Int32} {x : Nat} (h : stg L n m m' d k = some x) : x < n := by
  have := (fstF_some _ _ _ _ h).2.1
  omega
theorem lst_lt {L : LM} {n m : Nat} {s z d k : Int32} {x : Nat} (h : lst L n s z m d k = some x) : x < n := by
  have := (fstF_some _ _ _ _ h).2.1
  omega
