/-! PURE 50: why, first, since -/
def agw (n : Nat) (w w' : Nat → Bool) : Prop := ∀ x, x < n → w x = w' x
section AW
variable {L : LM} {n : Nat} {w w' : Nat → Bool}
theorem agw_upw (h : agw n w w') (y : Nat) : agw n (upw w y) (upw w' y) := by
  intro x hx
  unfold upw
  rw [h x hx]
theorem agw_upo (h : agw n w w') (o : Option Nat) : agw n (upo w o) (upo w' o) := by
  cases o with
  | none => exact h
  | some y => exact agw_upw h y
theorem agw_upi (h : agw n w w') (v : Int32) : agw n (upi w v) (upi w' v) := by
  unfold upi
  by_cases q : v = -1
  · rw [if_pos q, if_pos q]; exact h
  · rw [if_neg q, if_neg q]; exact agw_upw h _
theorem agw_lean : ∀ i, i ≤ n → ∀ w w' : Nat → Bool, agw n w w' → agw n (lean L i w) (lean L i w') := by
  intro i
  induction i with
  | zero => intro _ w w' h; exact h
  | succ i ih =>
    intro hi w w' h
    unfold lean
    refine ih (by omega) _ _ ?_
    rw [h i (by omega)]
    by_cases q : w' i = true
    · rw [if_pos q, if_pos q]
      by_cases q2 : L.1 6 i = 8
      · rw [if_pos q2, if_pos q2]; exact agw_upi (agw_upi h _) _
      · rw [if_neg q2, if_neg q2]; exact agw_upi h _
    · rw [if_neg q, if_neg q]; exact h
theorem agw_nee (g d k : Int32) : ∀ m l j (w w' : Nat → Bool), agw n w w' → agw n (nee L n g d k l j m w) (nee L n g d k l j m w') := by
  intro m
  induction m with
  | zero => intro l j w w' h; exact h
  | succ m ih =>
    intro l j w w' h
    unfold nee
    by_cases q : l ≤ 0
    · rw [if_pos q, if_pos q]; exact h
    · rw [if_neg q, if_neg q]
      cases mof L n (nI j) g d k with
      | none => exact ih _ _ _ _ h
      | some x => exact ih _ _ _ _ (agw_upw h x)
theorem agw_fnC (m m' g' a' : Nat) (d k : Int32) (h : agw n w w') (c : Option Nat) : agw n (fnC L n m m' g' a' d k w c).2.2 (fnC L n m m' g' a' d k w' c).2.2 := by
  cases c with
  | none => exact h
  | some c => exact agw_upo (agw_upo (agw_upw h _) _) _
theorem agw_fnM (r : Nat) (h : agw n w w') (o : Option Nat) : agw n (fnM L r w o).2.2 (fnM L r w' o).2.2 := by
  unfold fnM
  by_cases q : L.1 14 r = 0
  · rw [if_pos q, if_pos q]; exact h
  · rw [if_neg q, if_neg q]
    cases o with
    | none => exact h
    | some o => exact agw_upw h _
theorem agw_fnR (m m' g' a' : Nat) (d k : Int32) (h : agw n w w') : agw n (fnR L n m m' g' a' d k w).2.2 (fnR L n m m' g' a' d k w').2.2 := by
  unfold fnR
  cases rsv L n m m' (nI a') d k with
  | none => exact agw_fnC m m' g' a' d k h _
  | some r => exact agw_fnM r (agw_upw h r) _
theorem agw_fnO (np m m' g' a' : Nat) (d k : Int32) (h : agw n w w') (o : Option Nat) : agw n (fnO L n np m m' g' a' d k w o).2.2 (fnO L n np m m' g' a' d k w' o).2.2 := by
  cases o with
  | some o => exact agw_lean n (Nat.le_refl _) _ _ (agw_upi (agw_upw h _) _)
  | none => exact agw_lean n (Nat.le_refl _) _ _ (agw_fnR m m' g' a' d k (agw_nee _ _ _ _ _ _ _ _ h))
theorem agw_clr (w w' : Nat → Bool) : agw n (clr n w) (clr n w') := by
  intro x hx
  unfold clr
  rw [if_pos hx, if_pos hx]
theorem agw_fnd (np : Nat) (p q : Int32) (g' a' : Nat) (d k : Int32) (w w' : Nat → Bool) : agw n (fnd L n np p q g' a' d k w).2.2 (fnd L n np p q g' a' d k w').2.2 := by
  unfold fnd
  cases mof L n p (nI g') d k with
  | none => exact agw_clr w w'
  | some m =>
    cases mof L n q (nI g') d k with
    | none => exact agw_clr w w'
    | some m' =>
      show agw n (ite _ _ _ : Int32 × Int32 × (Nat → Bool)).2.2 (ite _ _ _ : Int32 × Int32 × (Nat → Bool)).2.2
      by_cases c : L.1 2 g' ≤ nI (many L n np (nI g') d k)
      · rw [if_pos c, if_pos c]
        exact agw_fnO np m m' g' a' d k (agw_upw (agw_upw (agw_clr w w') _) _) _
      · rw [if_neg c, if_neg c]
        exact agw_clr w w'
end AW
section TU
variable {c : Nat} {h : AH}
theorem t_why (V : LXc c h) (p q g a d k i : Int32) : CALLc c h (f_X7_why c p q g a d k i) (f_X8_why (c + 14) p q g a d k i) := by
  obtain ⟨L, n, np, ng, A, V⟩ := V
  obtain ⟨an, wd, w, e⟩ := SCx V.I
  refine callSc V (fun T => c_why V.C V.F V.W T p q g a d k i) (fun h' R => ?_)
  have m := M_why R L an wd w V.W p q g a d k i
  rw [e] at m
  by_cases q1 : (asB L p q g a && dyB d && dyB k) = true
  · rw [if_pos q1] at m ⊢
    have e2 : nth (fndI L n np p q g a d k w).2.2 i 0 n = nth (fndI L n np p q g a d k (fun _ => false)).2.2 i 0 n := nth_cg n i 0 (fun x _ hx => agw_fnd np p q _ _ d k w (fun _ => false) x (by omega))
    rw [e2] at m
    exact ⟨_, _, _, m⟩
  · rw [if_neg q1] at m ⊢
    exact ⟨an, wd, w, by rw [e]; exact m⟩
theorem t_first (V : LXc c h) (p q g a : Int32) : CALLc c h (f_X7_first c p q g a) (f_X8_first (c + 14) p q g a) := by
  obtain ⟨L, n, np, ng, A, V⟩ := V
  obtain ⟨an, wd, w, e⟩ := SCx V.I
  obtain ⟨⟨t, t1, t2, -⟩, -⟩ := V.D
  refine callSc V (fun T => c_first V.C V.F V.W T p q g a t1 t2) (fun h' R => ?_)
  by_cases q1 : asB L p q g a = true
  · have hg : ∃ g', g' < 1000 ∧ g = nI g' := by
      obtain ⟨g', a', h1, h2, h3, h4, -⟩ := arB_of V.W (asB_ar q1)
      exact ⟨g', by omega, h4⟩
    obtain ⟨g', hg', rfl⟩ := hg
    obtain ⟨an', wd', w', m⟩ := M_first R L an wd w V.W V.F.ef p q (nI g') a t1 t2 (an_flat2 V.F V.W.2.1 hg' p q a t)
    rw [e] at m
    exact ⟨an', wd', w', m⟩
  · refine ⟨an, wd, w, ?_⟩
    rw [if_neg q1]
    have m := M_isAskedS R L an wd w V.W p q g a
    rw [e] at m ⊢
    unfold f_X8_first
    simp only [R.xck, m, Option.bind_some, b2i_z]
    rw [bf q1]
    simp
theorem M_since2 {am : Nat} {h : AH} (R : MOK am h) (L : LM) {n np ng : Nat} (W : MW L n np ng) (E : EF L n) (g : Int32) {t : Nat} (ht : t ≤ 73000) (hT : L.1 0 0 = nI t) (Fl : ∀ g', g' < 1000 → flat L n (sinF L n np g' t)) : f_X8_since am g (pM am L h) = some (if inR g (L.1 0 2) = true then (if sinF L n np g.toNatClampNeg t t = true then nI (dnT (sinF L n np g.toNatClampNeg t) t) else -1) else -1) := by
  unfold f_X8_since
  simp only [R.xck, M_isAgreement R L, Option.bind_some, b2i_z]
  cases c1 : inR g (L.1 0 2)
  · simp
  · rw [W.2.2.2.2.2.2.1] at c1
    obtain ⟨g', hg, rfl⟩ := inR_of (by have := W.2.2.2.2.2.2.2.1; omega) c1
    have hg' : g' < 10 := by have := W.2.2.2.2.2.2.2.1; omega
    have e1 : nI t + 1 = nI (t + 1) := by rw [nI_1]
    obtain ⟨e, e2, e3, e4, e5⟩ := effB_s E (show 0 < t + 1 by omega) (by omega)
    rw [if_neg (by simp), nIt (by omega), if_pos rfl]
    simp only [R.xck, R.xgI, hT, Option.bind_some, M_many R L W.1 W.2.1 W.2.2.2.2.1 W.2.2.2.2.2.1, mR4 R, mL2 R L g' hg', M_effectBelow R L W.1 W.2.1, e1, e2]
    by_cases c : sinF L n np g' t t = true
    · have c' := c
      unfold sinF at c'
      rw [decide_eq_true_eq] at c'
      rw [if_pos c', if_pos c]
      have e6 : dnT (sinF L n np g' t) t = dnT (sinF L n np g' t) e := by
        have hc : ∀ x, e ≤ x → x ≤ t → sinF L n np g' t x = sinF L n np g' t e := fun x h1 h2 => Fl g' (by omega) e x h1 (by omega) (fun y hy => by
          have := e5 y hy
          omega)
        obtain ⟨m, rfl⟩ : ∃ m, t = e + m := ⟨t - e, by omega⟩
        exact dnT_run _ m e (fun x h1 h2 => by rw [hc x h1 (by omega), ← hc (e + m) (by omega) (by omega)]; exact c)
      rw [e6]
      exact M_since_48 R L W E hg' ht hT (Fl g' (by omega)) FU e (nI e) (by omega) (by have := cntF_le (fun x => decide (efn L x < e)) n 0; have := W.2.1; unfold mu FU; omega)
    · have c' := c
      unfold sinF at c'
      rw [decide_eq_true_eq] at c'
      rw [if_neg c', if_neg c]
theorem t_since (V : LXc c h) (g : Int32) : ∃ a h1, f_X7_since c g h = some (a, h1) ∧ ck 8 h1 (some (c + 14)) = some (c + 14) ∧ f_X8_since (c + 14) g h1 = some a ∧ LXc c h1 := by
  obtain ⟨L, n, np, ng, A, V⟩ := V
  obtain ⟨⟨t, t1, t2, -⟩, -⟩ := V.D
  exact callTc V (fun T => c_since V.C V.F V.W T g t1 t2) (fun h' R => M_since2 R L V.W V.F.ef g t1 t2 (fun g' hg' => sin_flat2 V.F V.W.2.1 hg' t))
end TU
