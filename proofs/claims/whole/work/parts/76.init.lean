/-! PURE 47: the start -/
def lkR : List (Nat × Nat × Nat) → Nat → Nat → Option Nat
  | [], _, _ => none
  | (p, k, o) :: t, x, y => if x = p ∧ y = k then some o else lkR t x y
theorem lkR_none {R : List (Nat × Nat × Nat)} {x : Nat} (h : R.all (fun e => decide (e.1 < x)) = true) (y : Nat) : lkR R x y = none := by
  induction R with
  | nil => rfl
  | cons e t ih =>
    obtain ⟨p, k, o⟩ := e
    rw [List.all_cons, Bool.and_eq_true, decide_eq_true_eq] at h
    have h1 : p < x := h.1
    unfold lkR
    rw [if_neg (by omega)]
    exact ih h.2
/-- a heap of new cells: their kinds, their references -/
def FH (c : Nat) (K : List (Nat × Nat)) (R : List (Nat × Nat × Nat)) : AH := (c + K.length, fun a => if c ≤ a then K[a - c]? else none, fun _ _ => 0, fun _ _ => 0, fun a k => if c ≤ a then (lkR R (a - c) k).map (c + ·) else none)
theorem hz_FH (c : Nat) (K : List (Nat × Nat)) (R : List (Nat × Nat × Nat)) : hz (FH c K R) = c + K.length := rfl
theorem hk_FH (c : Nat) (K : List (Nat × Nat)) (R : List (Nat × Nat × Nat)) (p : Nat) : hk (FH c K R) (c + p) = K[p]? := by
  show (if c ≤ c + p then K[c + p - c]? else none) = _
  rw [if_pos (by omega), Nat.add_sub_cancel_left]
theorem hR_FH (c : Nat) (K : List (Nat × Nat)) (R : List (Nat × Nat × Nat)) (p k : Nat) : hR (FH c K R) (c + p) k = (lkR R p k).map (c + ·) := by
  show (if c ≤ c + p then (lkR R (c + p - c) k).map (c + ·) else none) = _
  rw [if_pos (by omega), Nat.add_sub_cancel_left]
theorem nw_FH (c : Nat) (K : List (Nat × Nat)) (R : List (Nat × Nat × Nat)) (ci n : Nat) (h : R.all (fun e => decide (e.1 < K.length)) = true) : nw (FH c K R) ci n = FH c (K ++ [(ci, n)]) R := by
  unfold nw FH
  refine Prod.ext ?_ (Prod.ext ?_ (Prod.ext ?_ (Prod.ext ?_ ?_)))
  · show c + K.length + 1 = c + (K ++ [(ci, n)]).length
    rw [List.length_append]
    rfl
  · funext x
    show (if x = c + K.length then some (ci, n) else if c ≤ x then K[x - c]? else none) = if c ≤ x then (K ++ [(ci, n)])[x - c]? else none
    by_cases q : x = c + K.length
    · rw [if_pos q, if_pos (by omega), q, Nat.add_sub_cancel_left, List.getElem?_append_right (Nat.le_refl _), Nat.sub_self]
      rfl
    · rw [if_neg q]
      by_cases q2 : c ≤ x
      · rw [if_pos q2, if_pos q2]
        by_cases q3 : x - c < K.length
        · rw [List.getElem?_append_left q3]
        · rw [List.getElem?_eq_none (by omega), List.getElem?_eq_none (by rw [List.length_append]; show K.length + 1 ≤ x - c; omega)]
      · rw [if_neg q2, if_neg q2]
  · funext x k
    show (if x = c + K.length then (fun _ => (0 : Int32)) else fun _ => 0) k = 0
    by_cases q : x = c + K.length
    · rw [if_pos q]
    · rw [if_neg q]
  · funext x k
    show (if x = c + K.length then (fun _ => (0 : Int64)) else fun _ => 0) k = 0
    by_cases q : x = c + K.length
    · rw [if_pos q]
    · rw [if_neg q]
  · funext x k
    show (if x = c + K.length then (fun _ => none) else fun k => if c ≤ x then (lkR R (x - c) k).map (c + ·) else none) k = if c ≤ x then (lkR R (x - c) k).map (c + ·) else none
    by_cases q : x = c + K.length
    · rw [if_pos q, if_pos (by omega), q, Nat.add_sub_cancel_left, lkR_none h]
      rfl
    · rw [if_neg q]
theorem sR_FH (c : Nat) (K : List (Nat × Nat)) (R : List (Nat × Nat × Nat)) (p k o : Nat) : sR (FH c K R) (c + p) k (some (c + o)) = FH c K ((p, k, o) :: R) := by
  unfold sR FH
  refine Prod.ext rfl (Prod.ext rfl (Prod.ext rfl (Prod.ext rfl ?_)))
  funext x y
  show (if x = c + p ∧ y = k then some (c + o) else if c ≤ x then (lkR R (x - c) y).map (c + ·) else none) = if c ≤ x then (lkR ((p, k, o) :: R) (x - c) y).map (c + ·) else none
  by_cases q : x = c + p ∧ y = k
  · rw [if_pos q, if_pos (by omega), q.1, Nat.add_sub_cancel_left]
    unfold lkR
    rw [if_pos ⟨rfl, q.2⟩]
    rfl
  · rw [if_neg q]
    by_cases q2 : c ≤ x
    · rw [if_pos q2, if_pos q2]
      unfold lkR
      rw [if_neg (by omega)]
      cases R <;> rfl
    · rw [if_neg q2, if_neg q2]
/-- a new array, kept in a field -/
theorem FH_arr {c : Nat} {K : List (Nat × Nat)} {R : List (Nat × Nat × Nat)} {t B p k ci : Nat} {v : Int32} (m : Nat) {α : Type} {f : AH → Option α} (hp : p < K.length ∧ K[p]? = some (ci, 0)) (hR : R.all (fun e => decide (e.1 < K.length)) = true) (hm : m ≤ B ∧ m < 10000) (hv : v = nI m) : ((na t B (FH c K R) v).bind fun h1 => (pR ci k h1 (some (c + p)) (some (hz (FH c K R)))).bind f) = f (FH c (K ++ [(t, m)]) ((p, k, K.length) :: R)) := by
  have e1 : na t B (FH c K R) v = some (FH c (K ++ [(t, m)]) R) := by
    unfold na
    rw [hv, nI_clamp (by omega), if_pos ⟨nI_pos (by omega), hm.1⟩, nw_FH c K R t m hR]
  have k1 : hk (FH c (K ++ [(t, m)]) R) (c + p) = some (ci, 0) := by
    rw [hk_FH, List.getElem?_append_left hp.1]
    exact hp.2
  rw [e1]
  simp only [Option.bind_some, pR_k k1, hz_FH, sR_FH]
/-- what an init made, kept in a field -/
theorem FH_fld {c : Nat} {K : List (Nat × Nat)} {R : List (Nat × Nat × Nat)} {p k ci o : Nat} {α : Type} {f : AH → Option α} (hp : K[p]? = some (ci, 0)) : ((pR ci k (FH c K R) (some (c + p)) (some (c + o))).bind f) = f (FH c K ((p, k, o) :: R)) := by
  have k1 : hk (FH c K R) (c + p) = some (ci, 0) := by
    rw [hk_FH]
    exact hp
  simp only [Option.bind_some, pR_k k1, sR_FH]
theorem i_X4 {c : Nat} {K : List (Nat × Nat)} {R : List (Nat × Nat × Nat)} {p : Nat} (hp : p < K.length ∧ K[p]? = some (4, 0)) (hR : R.all (fun e => decide (e.1 < K.length)) = true) : f_X4_init (c + p) (FH c K R) = some (FH c (K ++ [(13, 400)]) ((p, 0, K.length) :: R)) := FH_arr 400 hp hR ⟨Nat.le_refl _, by decide⟩ rfl
theorem i_X5 {c : Nat} {K : List (Nat × Nat)} {R : List (Nat × Nat × Nat)} {p : Nat} (hp : p < K.length ∧ K[p]? = some (5, 0)) (hR : R.all (fun e => decide (e.1 < K.length)) = true) : f_X5_init (c + p) (FH c K R) = some (FH c (K ++ [(13, 30)]) ((p, 0, K.length) :: R)) := FH_arr 30 hp hR ⟨Nat.le_refl _, by decide⟩ rfl
theorem i_X6 {c : Nat} {K : List (Nat × Nat)} {R : List (Nat × Nat × Nat)} {p : Nat} (hp : p < K.length ∧ K[p]? = some (6, 0)) (hR : R.all (fun e => decide (e.1 < K.length)) = true) : f_X6_init (c + p) (FH c K R) = some (FH c (K ++ [(12, 400)]) ((p, 0, K.length) :: R)) := FH_arr 400 hp hR ⟨Nat.le_refl _, by decide⟩ rfl
def K7a : List (Nat × Nat) := [(7, 0), (14, 10), (4, 0), (13, 400), (5, 0), (13, 30), (2, 0)]
def R7a : List (Nat × Nat × Nat) := [(0, 2, 4), (4, 0, 5), (0, 1, 2), (2, 0, 3), (0, 0, 1)]
def K7 : List (Nat × Nat) := [(7, 0), (14, 10), (4, 0), (13, 400), (5, 0), (13, 30), (2, 0), (5, 0), (13, 30), (6, 0), (12, 400), (6, 0), (12, 400), (12, 400)]
def R7 : List (Nat × Nat × Nat) := [(0, 3, 6), (6, 3, 13), (6, 2, 11), (11, 0, 12), (6, 1, 9), (9, 0, 10), (6, 0, 7), (7, 0, 8), (0, 2, 4), (4, 0, 5), (0, 1, 2), (2, 0, 3), (0, 0, 1)]
theorem i_X2 (c : Nat) : f_X2_init (c + 6) (FH c K7a R7a) = some (FH c K7 ((6, 3, 13) :: (6, 2, 11) :: (11, 0, 12) :: (6, 1, 9) :: (9, 0, 10) :: (6, 0, 7) :: (7, 0, 8) :: R7a)) := by
  unfold f_X2_init
  rw [nw_FH, hz_FH, i_X5, Option.bind_some, FH_fld, nw_FH, hz_FH, i_X6, Option.bind_some, FH_fld, nw_FH, hz_FH, i_X6, Option.bind_some, FH_fld]
  · refine (FH_arr 400 (by decide) (by decide) ⟨Nat.le_refl _, by decide⟩ rfl).trans ?_
    rfl
  all_goals decide
theorem i_X7 (c : Nat) : f_X7_init c (FH c [(7, 0)] []) = some (FH c K7 R7) := by
  have h0 : some c = some (c + 0) := rfl
  unfold f_X7_init
  rw [h0]
  refine (FH_arr 10 (by decide) (by decide) ⟨Nat.le_refl _, by decide⟩ rfl).trans ?_
  rw [nw_FH, hz_FH, i_X4, Option.bind_some, FH_fld, nw_FH, hz_FH, i_X5, Option.bind_some, FH_fld, nw_FH, hz_FH]
  · have e := i_X2 c
    refine (congrArg (fun o => Option.bind o _) e).trans ?_
    refine (FH_fld (by decide)).trans ?_
    rfl
  all_goals decide
def K8 : List (Nat × Nat) := K7 ++ [(8, 0), (10, 10), (10, 10), (10, 10), (10, 10), (10, 200), (10, 400), (10, 400), (10, 400), (10, 400), (10, 400), (10, 400), (10, 400), (10, 400), (10, 400), (10, 400), (11, 400), (12, 400), (10, 10), (10, 80), (10, 80), (11, 8000), (11, 100)]
def R8 : List (Nat × Nat × Nat) := [(14, 27, 36), (14, 26, 35), (14, 25, 34), (14, 24, 33), (14, 23, 32), (14, 22, 31), (14, 19, 30), (14, 18, 29), (14, 17, 28), (14, 16, 27), (14, 15, 26), (14, 14, 25), (14, 13, 24), (14, 12, 23), (14, 11, 22), (14, 10, 21), (14, 9, 20), (14, 7, 19), (14, 6, 18), (14, 5, 17), (14, 4, 16), (14, 3, 15)] ++ R7
theorem i_X8 (c : Nat) : f_X8_init (c + 14) (FH c (K7 ++ [(8, 0)]) R7) = some (FH c K8 R8) := by
  unfold f_X8_init
  refine (FH_arr 10 (by decide) (by decide) ⟨Nat.le_refl _, by decide⟩ rfl).trans ?_
  refine (FH_arr 10 (by decide) (by decide) ⟨Nat.le_refl _, by decide⟩ rfl).trans ?_
  refine (FH_arr 10 (by decide) (by decide) ⟨Nat.le_refl _, by decide⟩ rfl).trans ?_
  refine (FH_arr 10 (by decide) (by decide) ⟨Nat.le_refl _, by decide⟩ rfl).trans ?_
  refine (FH_arr 200 (by decide) (by decide) ⟨Nat.le_refl _, by decide⟩ rfl).trans ?_
  refine (FH_arr 400 (by decide) (by decide) ⟨Nat.le_refl _, by decide⟩ rfl).trans ?_
  refine (FH_arr 400 (by decide) (by decide) ⟨Nat.le_refl _, by decide⟩ rfl).trans ?_
  refine (FH_arr 400 (by decide) (by decide) ⟨Nat.le_refl _, by decide⟩ rfl).trans ?_
  refine (FH_arr 400 (by decide) (by decide) ⟨Nat.le_refl _, by decide⟩ rfl).trans ?_
  refine (FH_arr 400 (by decide) (by decide) ⟨Nat.le_refl _, by decide⟩ rfl).trans ?_
  refine (FH_arr 400 (by decide) (by decide) ⟨Nat.le_refl _, by decide⟩ rfl).trans ?_
  refine (FH_arr 400 (by decide) (by decide) ⟨Nat.le_refl _, by decide⟩ rfl).trans ?_
  refine (FH_arr 400 (by decide) (by decide) ⟨Nat.le_refl _, by decide⟩ rfl).trans ?_
  refine (FH_arr 400 (by decide) (by decide) ⟨Nat.le_refl _, by decide⟩ rfl).trans ?_
  refine (FH_arr 400 (by decide) (by decide) ⟨Nat.le_refl _, by decide⟩ rfl).trans ?_
  refine (FH_arr 400 (by decide) (by decide) ⟨Nat.le_refl _, by decide⟩ rfl).trans ?_
  refine (FH_arr 400 (by decide) (by decide) ⟨Nat.le_refl _, by decide⟩ rfl).trans ?_
  refine (FH_arr 10 (by decide) (by decide) ⟨Nat.le_refl _, by decide⟩ rfl).trans ?_
  refine (FH_arr 80 (by decide) (by decide) ⟨Nat.le_refl _, by decide⟩ rfl).trans ?_
  refine (FH_arr 80 (by decide) (by decide) ⟨Nat.le_refl _, by decide⟩ rfl).trans ?_
  refine (FH_arr 8000 (by decide) (by decide) ⟨Nat.le_refl _, by decide⟩ rfl).trans ?_
  refine (FH_arr 100 (by decide) (by decide) ⟨Nat.le_refl _, by decide⟩ rfl).trans ?_
  rfl
