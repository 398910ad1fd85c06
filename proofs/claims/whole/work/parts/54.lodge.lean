/-! PURE 25: one more PAPER -/
section LGs
variable {L : LM} {n : Nat} {v : Nat → Int32} {z : Int64}
theorem LG_lt {q k : Nat} (hk : k < n) (hq : q ≠ 0) : (LG L n v z).1 q k = L.1 q k := by
  show (if q = 0 ∧ k = 8 then nI (n + 1) else if (6 ≤ q ∧ q ≤ 15) ∧ k = n then v q else L.1 q k) = _
  rw [if_neg (by omega), if_neg (by omega)]
theorem LG_n {q : Nat} (h1 : 6 ≤ q) (h2 : q ≤ 15) : (LG L n v z).1 q n = v q := by
  show (if q = 0 ∧ n = 8 then nI (n + 1) else if (6 ≤ q ∧ q ≤ 15) ∧ n = n then v q else L.1 q n) = _
  rw [if_neg (by omega), if_pos ⟨⟨h1, h2⟩, rfl⟩]
theorem LG_o {q k : Nat} (hq : q < 6 ∨ 15 < q) (h8 : ¬ (q = 0 ∧ k = 8)) : (LG L n v z).1 q k = L.1 q k := by
  show (if q = 0 ∧ k = 8 then nI (n + 1) else if (6 ≤ q ∧ q ≤ 15) ∧ k = n then v q else L.1 q k) = _
  rw [if_neg h8, if_neg (by omega)]
theorem LG_8 : (LG L n v z).1 0 8 = nI (n + 1) := rfl
theorem LG_2n : (LG L n v z).2 16 n = z := by simp [LG]
theorem LG_2lt {k : Nat} (hk : k < n) : (LG L n v z).2 16 k = L.2 16 k := by
  show (if 16 = 16 ∧ k = n then z else L.2 16 k) = _
  rw [if_neg (by omega)]
theorem LG_2o {q k : Nat} (hq : q ≠ 16) : (LG L n v z).2 q k = L.2 q k := by
  show (if q = 16 ∧ k = n then z else L.2 q k) = _
  rw [if_neg (by omega)]
/-- alike in the first n PAPERS -/
def EqP (n : Nat) (L L' : LM) : Prop := (∀ q, 6 ≤ q → q ≤ 15 → ∀ k, k < n → L'.1 q k = L.1 q k) ∧ (∀ k, k < n → L'.2 16 k = L.2 16 k) ∧ ∀ x, x < n → ¬ L.1 6 x = 9 → L'.1 3 (L.1 8 x).toNatClampNeg = L.1 3 (L.1 8 x).toNatClampNeg
theorem LG_EqP : EqP n L (LG L n v z) := ⟨fun q h1 h2 k hk => LG_lt hk (by omega), fun k hk => LG_2lt hk, fun _ _ _ => LG_o (by omega) (by omega)⟩
end LGs
section EQ
variable {L L' : LM} {n : Nat}
theorem EqP.mono {m : Nat} (E : EqP n L L') (h : m ≤ n) : EqP m L L' := ⟨fun q h1 h2 k hk => E.1 q h1 h2 k (by omega), fun k hk => E.2.1 k (by omega), fun x hx => E.2.2 x (by omega)⟩
theorem EqP_isE (E : EqP n L L') {x : Nat} (hx : x < n) : isE L' x = isE L x := by unfold isE; rw [E.1 6 (by omega) (by omega) x hx]
theorem EqP_isM (E : EqP n L L') {x : Nat} (hx : x < n) : isM L' x = isM L x := by unfold isM; rw [E.1 6 (by omega) (by omega) x hx]
theorem EqP_isA (E : EqP n L L') {x : Nat} (hx : x < n) : isA L' x = isA L x := by unfold isA; rw [E.1 6 (by omega) (by omega) x hx]
theorem EqP_nmd (E : EqP n L L') (v : Int32) : nmd L' n v = nmd L n v := anyF_congr n 0 (fun y _ h => by rw [EqP_isE E (by omega), E.1 11 (by omega) (by omega) y (by omega)])
theorem EqP_endO (E : EqP n L L') (x : Nat) : endO L' n x = endO L n x := fstF_congr n 0 (fun y _ h => by rw [EqP_isE E (by omega), E.1 11 (by omega) (by omega) y (by omega)])
theorem EqP_latO (E : EqP n L L') (x : Nat) : latO L' n x = latO L n x := lstF_congr n (fun y h => by rw [EqP_isA E h, E.1 11 (by omega) (by omega) y h])
theorem EqP_earO (E : EqP n L L') {x : Nat} (hx : x < n) : earO L' x = earO L x := by
  unfold earO
  rw [EqP_isA E hx]
  rw [lstF_congr x (fun z hz => by rw [EqP_isA E (show z < n by omega), E.1 11 (by omega) (by omega) z (by omega), E.1 11 (by omega) (by omega) x hx])]
theorem EqP_blg (E : EqP n L L') (p g : Int32) : blg L' n p g = blg L n p g := fstF_congr n 0 (fun y _ h => by rw [EqP_isM E (by omega), E.1 7 (by omega) (by omega) y (by omega), E.1 8 (by omega) (by omega) y (by omega), EqP_nmd E])
theorem EqP_stB (E : EqP n L L') {x : Nat} (hx : x < n) (d k : Int32) : stB L' n x d k = stB L n x d k := by
  unfold stB
  rw [E.1 9 (by omega) (by omega) x hx, E.1 10 (by omega) (by omega) x hx]
  rw [anyF_congr n 0 (fun y _ h => by
    unfold endK
    rw [EqP_isE E (show y < n by omega), E.1 11 (by omega) (by omega) y (by omega), E.1 9 (by omega) (by omega) y (by omega), E.1 10 (by omega) (by omega) y (by omega)])]
  rfl
theorem EqP_hld (E : EqP n L L') (hn : n ≤ 400) (N : NM L n) {x : Nat} (hx : x < n) (k : Int32) : ∀ f j, j < n → hld L' n x k f j = hld L n x k f j := by
  intro f
  induction f with
  | zero => intro j _; rfl
  | succ f ih =>
    intro j hj
    unfold hld
    rw [E.1 12 (by omega) (by omega) x hx, E.1 6 (by omega) (by omega) j hj, E.1 15 (by omega) (by omega) j hj, E.1 10 (by omega) (by omega) j hj, E.1 11 (by omega) (by omega) j hj, EqP_stB E hx]
    by_cases c2 : L.1 6 j = 8
    · obtain ⟨i, hi, e⟩ := N j hj (by simp [c2])
      rw [e, nIt (by omega), ih i (by omega)]
    · simp [c2]
theorem EqP_hlB (E : EqP n L L') (hn : n ≤ 400) (N : NM L n) {x m : Nat} (hx : x < n) (hm : m < n) (k : Int32) : hlB L' n x m k = hlB L n x m k := EqP_hld E hn N hx k _ _ hm
/-- what the first n keep to, they keep to -/
theorem LC_EqP {np ng x : Nat} (hn : n ≤ 400) (E : EqP n L L') (F : WF L n np ng) (hx : x < n) : LC L' np ng x := by
  have Ex := E.mono (show x ≤ n by omega)
  obtain ⟨⟨a1, a2, a3⟩, ⟨⟨t, w, t1, t2, t3, t4, t5, t6⟩, b2⟩, ⟨c1, c2⟩, ⟨d1, d2⟩, ⟨e1, e2, e3, e4⟩⟩ := F x hx
  have r := fun q h1 h2 => E.1 q h1 h2 x hx
  have kM : isM L' x = isM L x := EqP_isM E hx
  have kE : isE L' x = isE L x := EqP_isE E hx
  have kw : wtK L' x = wtK L x := by unfold wtK; rw [kM, r 6 (by omega) (by omega)]
  have kn : nmK L' x = nmK L x := by unfold nmK; rw [r 6 (by omega) (by omega)]
  have ko : ofK L' x = ofK L x := by unfold ofK; rw [r 6 (by omega) (by omega)]
  refine ⟨⟨?_, ?_, ?_⟩, ⟨⟨t, w, t1, t2, ?_, ?_, ?_, ?_⟩, ?_⟩, ⟨?_, ?_⟩, ⟨?_, ?_⟩, ⟨?_, ?_, ?_, ?_⟩⟩
  · rw [r 6 (by omega) (by omega)]; exact a1
  · rw [r 6 (by omega) (by omega), r 7 (by omega) (by omega), r 8 (by omega) (by omega)]; exact a2
  · rw [r 6 (by omega) (by omega), r 7 (by omega) (by omega), r 8 (by omega) (by omega), E.2.1 x hx]; exact a3
  · rw [r 9 (by omega) (by omega)]; exact t3
  · rw [r 10 (by omega) (by omega)]; exact t4
  · rw [kw]
    intro hw
    have h9 : ¬ L.1 6 x = 9 := by
      intro e
      simp [wtK, isM, e] at hw
    rw [r 8 (by omega) (by omega), E.2.2 x hx h9]; exact t5 hw
  · rw [kw]; exact t6
  · intro y hy
    rw [r 9 (by omega) (by omega), E.1 9 (by omega) (by omega) y (by omega)]
    exact b2 y hy
  · rw [kn]
    intro h
    obtain ⟨y, y1, y2, y3, y4⟩ := c1 h
    refine ⟨y, y1, ?_, ?_, ?_⟩
    · rw [r 11 (by omega) (by omega)]; exact y2
    · rw [r 8 (by omega) (by omega), E.1 8 (by omega) (by omega) y (by omega)]; exact y3
    · unfold okN at y4 ⊢
      rw [r 6 (by omega) (by omega), E.1 6 (by omega) (by omega) y (by omega), EqP_isM E (show y < n by omega)]
      exact y4
  · rw [kn, r 11 (by omega) (by omega)]; exact c2
  · rw [ko]
    intro h
    obtain ⟨m, m1, m2, m3, m4, m5, m6⟩ := d1 h
    refine ⟨m, m1, ?_, ?_, ?_, ?_, ?_⟩
    · rw [r 12 (by omega) (by omega)]; exact m2
    · rw [EqP_isM E (show m < n by omega)]; exact m3
    · rw [r 7 (by omega) (by omega), E.1 7 (by omega) (by omega) m (by omega)]; exact m4
    · rw [r 8 (by omega) (by omega), E.1 8 (by omega) (by omega) m (by omega)]; exact m5
    · rw [EqP_nmd Ex]; exact m6
  · rw [ko, r 12 (by omega) (by omega)]; exact d2
  · rw [r 15 (by omega) (by omega), r 6 (by omega) (by omega)]; exact e1
  · rw [kE, r 11 (by omega) (by omega), EqP_nmd Ex]; exact e2
  · rw [kM, r 7 (by omega) (by omega), r 8 (by omega) (by omega), EqP_blg Ex]; exact e3
  · rw [r 6 (by omega) (by omega), r 11 (by omega) (by omega), r 12 (by omega) (by omega), r 9 (by omega) (by omega)]
    intro h
    obtain ⟨y, y1, y2, -⟩ := c1 (by simp [nmK, h])
    obtain ⟨m, m1, m2, -⟩ := d1 (by simp [ofK, h])
    have e4' := e4 h
    rw [y2, m2, nIt (by omega), nIt (by omega)] at e4' ⊢
    rw [EqP_hlB Ex (by omega) (F.mono (show x ≤ n by omega)).nm y1 m1]
    exact e4'
theorem WF_EqP {np ng : Nat} (hn : n ≤ 400) (E : EqP n L L') (F : WF L n np ng) : WF L' n np ng := fun _ hx => LC_EqP hn E F hx
end EQ
section LGe
variable {L : LM} {n : Nat} {v : Nat → Int32} {z : Int64}
theorem LG_endO (x : Nat) : endO (LG L n v z) (n + 1) x = match endO L n x with
    | some y => some y
    | none => if ((decide (v 6 = 5) || decide (v 6 = 8)) && decide (v 11 = nI x)) = true then some n else none := by
  have e : endO (LG L n v z) (n + 1) x = match endO (LG L n v z) n x with
    | some y => some y
    | none => if (isE (LG L n v z) n && decide ((LG L n v z).1 11 n = nI x)) = true then some n else none := fstF_snoc _ n
  rw [e, EqP_endO LG_EqP]
  unfold isE
  rw [LG_n (by omega) (by omega), LG_n (by omega) (by omega)]
theorem LG_latO (x : Nat) : latO (LG L n v z) (n + 1) x = if ((decide (v 6 = 4) || decide (v 6 = 7)) && decide (v 11 = nI x)) = true then some n else latO L n x := by
  have e : latO (LG L n v z) (n + 1) x = if (isA (LG L n v z) n && decide ((LG L n v z).1 11 n = nI x)) = true then some n else latO (LG L n v z) n x := lstF_succ _ n
  rw [e, EqP_latO LG_EqP]
  unfold isA
  rw [LG_n (by omega) (by omega), LG_n (by omega) (by omega)]
theorem LG_earO_n {y : Nat} (h : v 11 = nI y) : earO (LG L n v z) n = if (decide (v 6 = 4) || decide (v 6 = 7)) = true then latO L n y else none := by
  unfold earO
  have e : isA (LG L n v z) n = (decide (v 6 = 4) || decide (v 6 = 7)) := by
    unfold isA
    rw [LG_n (by omega) (by omega)]
  rw [e, LG_n (by omega) (by omega), h]
  have e2 : lstF (fun w => isA (LG L n v z) w && decide ((LG L n v z).1 11 w = nI y)) n = latO L n y := EqP_latO LG_EqP y
  rw [e2]
theorem LG_earO_0 (h : ¬ (v 6 = 4 ∨ v 6 = 7)) : earO (LG L n v z) n = none := by
  unfold earO
  have e : isA (LG L n v z) n = false := by
    unfold isA
    rw [LG_n (by omega) (by omega)]
    simp only [Bool.or_eq_false_iff, decide_eq_false_iff_not]
    exact ⟨fun q => h (Or.inl q), fun q => h (Or.inr q)⟩
  rw [e]
  rfl
end LGe
