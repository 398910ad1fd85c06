/-! SHALLOW: what stands ahead of the methods -/
def FU : Nat := 1000
def b2i (b : Bool) : Int32 := match b with
  | true => 1
  | false => 0
theorem b2i_01 (b : Bool) : b2i b = 0 ∨ b2i b = 1 := by cases b <;> simp [b2i]
def zB (v : Int32) : Option Bool := if v = 1 then some true else if v = 0 then some false else none
theorem zB_spec {v : Int32} {b : Bool} (h : zB v = some b) : v = b2i b := by
  unfold zB at h
  by_cases h1 : v = 1
  · rw [if_pos h1] at h
    cases h
    exact h1
  · rw [if_neg h1] at h
    by_cases h0 : v = 0
    · rw [if_pos h0] at h
      cases h
      exact h0
    · rw [if_neg h0] at h
      cases h
theorem bd {α β : Type} {o : Option α} {f : α → Option β} {b : β} (h : o.bind f = some b) : ∃ a, o = some a ∧ f a = some b := Option.bind_eq_some_iff.mp h
theorem ift {c : Prop} {i : Decidable c} {α : Type} {a b : Option α} {x : α} (h : (@ite _ c i a b) = some x) (q : c) : a = some x := by rw [if_pos q] at h; exact h
theorem iff_ {c : Prop} {i : Decidable c} {α : Type} {a b : Option α} {x : α} (h : (@ite _ c i a b) = some x) (q : ¬ c) : b = some x := by rw [if_neg q] at h; exact h
def neqs (x : Int32) : Nat → Nat → Prop
  | _, 0 => True
  | k, n + 1 => ¬ x = nI k ∧ neqs x (k + 1) n
theorem neqs_of {x : Int32} : ∀ (n k : Nat), neqs x k n → ∀ j, k ≤ j → j < k + n → ¬ x = nI j := by
  intro n
  induction n with
  | zero => intro k _ j h1 h2; omega
  | succ n ih =>
    intro k h j h1 h2
    by_cases hj : j = k
    · rw [hj]
      exact h.1
    · exact ih (k + 1) h.2 j (by omega) (by omega)
theorem sw_def {x : Int32} (n : Nat) (h : neqs x 0 n) {hi : Int} (hn : n < 1000 := by decide) (hh : hi = (n : Int) - 1 := by decide) : x.toInt < 0 ∨ hi < x.toInt := by
  rcases Int.lt_or_le x.toInt 0 with q | q
  · exact Or.inl q
  · refine Or.inr ?_
    rcases Int.lt_or_le hi x.toInt with q2 | q2
    · exact q2
    · exfalso
      refine neqs_of n 0 h x.toInt.toNat (Nat.zero_le _) (by omega) ?_
      refine Int32.toInt_inj.mp ?_
      rw [nI_toInt (by omega)]
      omega
