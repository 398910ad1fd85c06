/-! CORE 1: words, the abstract heap, what a heap holds of it -/
def gw : List Cond := lw_tbl.filter goodWord
theorem gw_in {w : Cond} (h : w ∈ lw_tbl) (g : goodWord w = true) : w ∈ gw := List.mem_filter.mpr ⟨h, g⟩
theorem gw_t (k : Nat) {w : Cond} (h : tables_1[k]? = some w) (g : goodWord w = true) : w ∈ gw := gw_in (List.mem_append_right _ (List.mem_of_getElem? h)) g
theorem gw_p (k : Nat) {q : MethodName × Nat} (h : lw_privs[k]? = some q) (g : goodWord (Cond.selects q.1.cls q.1 q.1) = true) : Cond.selects q.1.cls q.1 q.1 ∈ gw :=
  gw_in (List.mem_append_left _ (List.mem_map.mpr ⟨q, List.mem_of_getElem? h, rfl⟩)) g
theorem gw_good : GoodIn gw gw := fun w h => ⟨h, good_of_word (List.mem_filter.mp h).2⟩
def fty (ci k : Nat) : FieldType := match ci with
  | 0 => tyX0 k
  | 1 => tyX1 k
  | 2 => tyX2 k
  | 3 => tyX3 k
  | 4 => tyX4 k
  | 5 => tyX5 k
  | 6 => tyX6 k
  | 7 => tyX7 k
  | 8 => tyX8 k
  | 10 => .int
  | 11 => .long
  | 12 => .boolean
  | 13 => .object RX3
  | 14 => .object RX0
  | _ => .object RX1
def fN (ci : Nat) : Nat := match ci with
  | 0 => 7
  | 1 => 2
  | 2 => 12
  | 3 => 15
  | 4 => 2
  | 5 => 2
  | 6 => 2
  | 7 => 7
  | _ => 28
/-- what stands in the tables of class ci -/
def CLk (ci : Nat) (C : String) (T : u_T) (N : Nat) : Prop := vwCl[ci]? = some (C, T, N) ∧ fN ci = N ∧ ci < 9 ∧ (∀ j, j < N → parseFieldDescriptor (T j).2.2.1 = some (fty ci j)) ∧ (∀ w ∈ u_ws C T N, w ∈ gw) ∧ ∀ a, a < N → ∀ b, b < N → a ≠ b → (T a).2.1 ≠ (T b).2.1
theorem CLk.of {ci : Nat} {C : String} {T : u_T} {N : Nat} (h1 : vwCl[ci]? = some (C, T, N)) (h2 : fN ci = N) (h3 : ci < 9) (h4 : ∀ j, j < N → parseFieldDescriptor (T j).2.2.1 = some (fty ci j)) (h5 : ((u_ws C T N).all (fun w => decide (w ∈ tables_1) && goodWord w)) = true) (h6 : ∀ a, a < N → ∀ b, b < N → a ≠ b → (T a).2.1 ≠ (T b).2.1) : CLk ci C T N :=
  ⟨h1, h2, h3, h4, fun w hw => by
    have := List.all_eq_true.mp h5 w hw
    simp only [Bool.and_eq_true, decide_eq_true_eq] at this
    exact gw_in (List.mem_append_right _ this.1) this.2, h6⟩
/-- entry idx of own's pool is the field k of class ci -/
def FLk (own : String) (idx ci k : Nat) (fin : Bool) : Prop := ∃ (C : String) (T : u_T) (N : Nat), CLk ci C T N ∧ k < N ∧ (T k).1 = C ∧ (T k).2.2.2 = fin ∧ Cond.fieldLink own idx C (T k).2.1 (T k).2.2.1 ∈ gw ∧ (fin = true → C = own ∨ True)
theorem FLk.of {own : String} {idx ci k : Nat} {fin : Bool} {C : String} {T : u_T} {N : Nat} (c : CLk ci C T N) (hk : k < N) (h1 : (T k).1 = C) (h2 : (T k).2.2.2 = fin) (j : Nat) (h3 : tables_1[j]? = some (Cond.fieldLink own idx C (T k).2.1 (T k).2.2.1)) : FLk own idx ci k fin :=
  ⟨C, T, N, c, hk, h1, h2, gw_t j h3 rfl, fun _ => Or.inr trivial⟩
theorem FLk.lt {own : String} {idx ci k : Nat} {fin : Bool} (F : FLk own idx ci k fin) : ci < 9 := by
  obtain ⟨C, T, N, c, -⟩ := F
  exact c.2.2.1
