/-! PURE 45: what is kept, and that each lodging keeps it -/
def INV (L : LM) (n np ng : Nat) : Prop := WF L n np ng ∧ MW L n np ng ∧ AX L ng ∧ TD L n ng ∧ (∀ g, g < ng → ∃ w, w ≤ 1000 ∧ L.1 3 g = nI w) ∧ ∃ w : Nat → Bool, ∀ k, L.1 17 k = b2i (w k)
def JV (L : LM) (np ng : Nat) : Prop := INV L (nn L) np ng
section IV
variable {L : LM} {n np ng : Nat} {v : Nat → Int32} {z : Int64}
theorem JV_same (I : INV L n np ng) : JV L np ng := by
  unfold JV
  rw [nn_eq I.2.1]
  exact I
def kM (s : Int32) : Bool := decide (s = 1) || decide (s = 2) || decide (s = 8)
def kE (s : Int32) : Bool := decide (s = 5) || decide (s = 8)
def kN (s : Int32) : Bool := decide (s = 4) || decide (s = 5) || decide (s = 7) || decide (s = 8)
def kO (s : Int32) : Bool := decide (s = 3) || decide (s = 4) || decide (s = 6) || decide (s = 7)
def kW (s : Int32) : Bool := kM s || decide (s = 3) || decide (s = 5) || decide (s = 7)
def okV (L : LM) (s : Int32) (y : Nat) : Prop := (s = 4 → L.1 6 y = 3) ∧ (s = 7 → L.1 6 y = 6) ∧ (s = 8 → isM L y = true) ∧ (s = 5 → isM L y = true ∨ L.1 6 y = 3 ∨ L.1 6 y = 4 ∨ L.1 6 y = 7)
theorem LC_n (F : WF L n np ng) (hn : n < 400) (D : TD L n ng) (a1 : ∃ s, s ≤ 9 ∧ v 6 = nI s) (a2 : v 6 = 9 → v 7 = -1 ∧ v 8 = -1) (a3 : ¬ v 6 = 9 → (∃ p, p < np ∧ v 7 = nI p) ∧ (∃ g, g < ng ∧ v 8 = nI g) ∧ z = 0) (a4 : v 9 = L.1 0 0) (a5 : ∃ w, w ≤ 1000 ∧ v 10 = L.1 0 0 + nI w ∧ (kW (v 6) = true → L.1 3 (v 8).toNatClampNeg = nI w) ∧ (kW (v 6) = false → w = 0)) (a6 : kN (v 6) = true → ∃ y, y < n ∧ v 11 = nI y ∧ L.1 8 y = v 8 ∧ okV L (v 6) y) (a6' : kN (v 6) = false → v 11 = -1) (a7 : kO (v 6) = true → ∃ m, m < n ∧ v 12 = nI m ∧ isM L m = true ∧ L.1 7 m = v 7 ∧ L.1 8 m = v 8 ∧ nmd L n (nI m) = false) (a7' : kO (v 6) = false → v 12 = -1) (a8 : v 15 = 0 ∨ (v 15 = 1 ∧ (v 6 = 4 ∨ v 6 = 8))) (a9 : kE (v 6) = true → nmd L n (v 11) = false) (a10 : kM (v 6) = true → blg L n (v 7) (v 8) = none) (a11 : v 6 = 4 → hlB L n (v 11).toNatClampNeg (v 12).toNatClampNeg (v 9) = false) : LC (LG L n v z) np ng n := by
  have E : EqP n L (LG L n v z) := LG_EqP
  have r : ∀ q, 6 ≤ q → q ≤ 15 → (LG L n v z).1 q n = v q := fun q h1 h2 => LG_n h1 h2
  have lt : ∀ q y, q ≠ 0 → y < n → (LG L n v z).1 q y = L.1 q y := fun q y h1 h2 => LG_lt h2 h1
  have tM : isM (LG L n v z) n = kM (v 6) := by unfold isM kM; rw [r 6 (by omega) (by omega)]
  have tE : isE (LG L n v z) n = kE (v 6) := by unfold isE kE; rw [r 6 (by omega) (by omega)]
  have tN : nmK (LG L n v z) n = kN (v 6) := by unfold nmK kN; rw [r 6 (by omega) (by omega)]
  have tO : ofK (LG L n v z) n = kO (v 6) := by unfold ofK kO; rw [r 6 (by omega) (by omega)]
  have tW : wtK (LG L n v z) n = kW (v 6) := by unfold wtK kW; rw [tM, r 6 (by omega) (by omega)]
  obtain ⟨⟨t, t1, t2, t3⟩, -⟩ := D
  obtain ⟨w, w1, w2, w3, w4⟩ := a5
  refine ⟨⟨?_, ?_, ?_⟩, ⟨⟨t, w, t1, w1, ?_, ?_, ?_, ?_⟩, ?_⟩, ⟨?_, ?_⟩, ⟨?_, ?_⟩, ⟨?_, ?_, ?_, ?_⟩⟩
  · rw [r 6 (by omega) (by omega)]; exact a1
  · rw [r 6 (by omega) (by omega), r 7 (by omega) (by omega), r 8 (by omega) (by omega)]; exact a2
  · rw [r 6 (by omega) (by omega), r 7 (by omega) (by omega), r 8 (by omega) (by omega), LG_2n]; exact a3
  · rw [r 9 (by omega) (by omega), a4]; exact t2
  · rw [r 10 (by omega) (by omega), w2, t2, nI_add]
  · rw [tW, r 8 (by omega) (by omega), LG_o (by omega) (by omega)]; exact w3
  · rw [tW]; exact w4
  · intro y hy
    rw [r 9 (by omega) (by omega), lt 9 y (by omega) hy, a4, t2]
    exact t3 y hy
  · rw [tN]
    intro q
    obtain ⟨y, y1, y2, y3, y4⟩ := a6 q
    refine ⟨y, y1, by rw [r 11 (by omega) (by omega)]; exact y2, by rw [r 8 (by omega) (by omega), lt 8 y (by omega) y1]; exact y3, ?_⟩
    unfold okN
    rw [r 6 (by omega) (by omega), lt 6 y (by omega) y1, EqP_isM E y1]
    exact y4
  · rw [tN, r 11 (by omega) (by omega)]; exact a6'
  · rw [tO]
    intro q
    obtain ⟨m, m1, m2, m3, m4, m5, m6⟩ := a7 q
    refine ⟨m, m1, by rw [r 12 (by omega) (by omega)]; exact m2, by rw [EqP_isM E m1]; exact m3, by rw [r 7 (by omega) (by omega), lt 7 m (by omega) m1]; exact m4, by rw [r 8 (by omega) (by omega), lt 8 m (by omega) m1]; exact m5, by rw [EqP_nmd E]; exact m6⟩
  · rw [tO, r 12 (by omega) (by omega)]; exact a7'
  · rw [r 15 (by omega) (by omega), r 6 (by omega) (by omega)]; exact a8
  · rw [tE, r 11 (by omega) (by omega), EqP_nmd E]; exact a9
  · rw [tM, r 7 (by omega) (by omega), r 8 (by omega) (by omega), EqP_blg E]; exact a10
  · rw [r 6 (by omega) (by omega), r 11 (by omega) (by omega), r 12 (by omega) (by omega), r 9 (by omega) (by omega)]
    intro q
    obtain ⟨y, y1, y2, -⟩ := a6 (by rw [q]; rfl)
    obtain ⟨m, m1, m2, -⟩ := a7 (by rw [q]; rfl)
    have := a11 q
    rw [y2, m2, nIt (by omega), nIt (by omega)] at this ⊢
    rw [EqP_hlB E (by omega) F.nm y1 m1]
    exact this
theorem INV_LG (I : INV L n np ng) (hn : n < 400) (h9 : v 9 = L.1 0 0) (l : LC (LG L n v z) np ng n) : JV (LG L n v z) np ng := by
  obtain ⟨F, W, X, D, wt, w, hw⟩ := I
  unfold JV
  rw [nn_LG hn]
  have F' := WF_LG F (by omega) l
  refine ⟨F', MW_LG W hn F', AX_LG X, TD_LG D h9, fun g hg => ?_, w, fun k => ?_⟩
  · rw [LG_o (by omega) (by omega)]; exact wt g hg
  · rw [LG_o (by omega) (by omega)]; exact hw k
theorem blg_v {p g : Int32} {m : Nat} (e : blg L n p g = some m) : m < n ∧ isM L m = true ∧ L.1 7 m = p ∧ L.1 8 m = g ∧ nmd L n (nI m) = false := by
  have h := (fstF_some _ _ _ _ e).2.2.1
  simp only [Bool.and_eq_true, decide_eq_true_eq, Bool.not_eq_true'] at h
  exact ⟨blg_lt e, h.1.1.1, h.1.1.2, h.1.2, h.2⟩
theorem inP (W : MW L n np ng) {p : Int32} (h : inR p (L.1 0 1) = true) : ∃ p', p' < np ∧ p = nI p' := by
  obtain ⟨w1, hn, w3, w4, w5, hnp, w7, hng, w9⟩ := W
  rw [w5] at h
  exact inR_of (by omega) h
theorem inG (W : MW L n np ng) {g : Int32} (h : inR g (L.1 0 2) = true) : ∃ g', g' < ng ∧ g = nI g' := by
  obtain ⟨w1, hn, w3, w4, w5, hnp, w7, hng, w9⟩ := W
  rw [w7] at h
  exact inR_of (by omega) h
theorem wt_v (I : INV L n np ng) {g : Int32} (h : ∃ g', g' < ng ∧ g = nI g') : ∃ w, w ≤ 1000 ∧ wt L g = nI w := by
  obtain ⟨g', hg, rfl⟩ := h
  have hng := I.2.1.2.2.2.2.2.2.2.1
  unfold wt
  rw [nIt (by omega)]
  exact I.2.2.2.2.1 g' hg
theorem add0 (x : Int32) : x = x + nI 0 := by rw [nI_0, Int32.add_zero]
theorem I_sign (I : INV L n np ng) (p g : Int32) : JV (U_sign L n p g).2 np ng := by
  unfold U_sign
  by_cases c1 : (inR p (L.1 0 1) && inR g (L.1 0 2)) = true
  · rw [if_pos c1]
    by_cases c2 : n = 400
    · rw [if_pos c2]; exact JV_same I
    · rw [if_neg c2]
      by_cases c3 : hsg L n p g = true
      · rw [if_pos c3]; exact JV_same I
      · rw [if_neg c3]
        rw [Bool.and_eq_true] at c1
        have hn : n < 400 := by have := I.2.1.2.1; omega
        refine INV_LG I hn rfl (LC_n I.1 hn I.2.2.2.1 ⟨0, by omega, rfl⟩ (fun q => absurd q (by show ¬ (0 : Int32) = 9; decide)) (fun _ => ⟨inP I.2.1 c1.1, inG I.2.1 c1.2, rfl⟩) rfl ⟨0, by omega, add0 _, fun q => absurd q (by show ¬ kW 0 = true; decide), fun _ => rfl⟩ (fun q => absurd q (by show ¬ kN 0 = true; decide)) (fun _ => rfl) (fun q => absurd q (by show ¬ kO 0 = true; decide)) (fun _ => rfl) (Or.inl rfl) (fun q => absurd q (by show ¬ kE 0 = true; decide)) (fun q => absurd q (by show ¬ kM 0 = true; decide)) (fun q => absurd q (by show ¬ (0 : Int32) = 4; decide)))
  · rw [if_neg c1]; exact JV_same I
theorem I_mem (I : INV L n np ng) (hn : n < 400) {s p g : Int32} (hs : s = 1 ∨ s = 2) (hp : inR p (L.1 0 1) = true) (hg : inR g (L.1 0 2) = true) (hb : blg L n p g = none) : JV (LG L n (row s p g (L.1 0 0) (L.1 0 0 + wt L g) (-1) (-1) (-1) (-1) 0) 0) np ng := by
  obtain ⟨w, w1, w2⟩ := wt_v I (inG I.2.1 hg)
  refine INV_LG I hn rfl (LC_n I.1 hn I.2.2.2.1 ?_ (fun q => ?_) (fun _ => ⟨inP I.2.1 hp, inG I.2.1 hg, rfl⟩) rfl ⟨w, w1, congrArg (L.1 0 0 + ·) w2, fun _ => w2, fun q => ?_⟩ (fun q => ?_) (fun _ => rfl) (fun q => ?_) (fun _ => rfl) (Or.inl rfl) (fun q => ?_) (fun _ => hb) (fun q => ?_))
  · rcases hs with rfl | rfl
    · exact ⟨1, by omega, rfl⟩
    · exact ⟨2, by omega, rfl⟩
  · have q' : s = 9 := q
    rcases hs with rfl | rfl <;> exact absurd q' (by decide)
  · have q' : kW s = false := q
    rcases hs with rfl | rfl <;> exact absurd q' (by decide)
  · have q' : kN s = true := q
    rcases hs with rfl | rfl <;> exact absurd q' (by decide)
  · have q' : kO s = true := q
    rcases hs with rfl | rfl <;> exact absurd q' (by decide)
  · have q' : kE s = true := q
    rcases hs with rfl | rfl <;> exact absurd q' (by decide)
  · have q' : s = 4 := q
    rcases hs with rfl | rfl <;> exact absurd q' (by decide)
theorem isN {o : Option Nat} (h : ¬ o.isSome = true) : o = none := by cases o <;> simp at h ⊢
theorem I_ratify (I : INV L n np ng) (p g : Int32) : JV (U_ratify L n p g).2 np ng := by
  unfold U_ratify
  by_cases c1 : (inR p (L.1 0 1) && inR g (L.1 0 2)) = true
  · rw [if_pos c1]
    by_cases c2 : n = 400
    · rw [if_pos c2]; exact JV_same I
    · rw [if_neg c2]
      by_cases c3 : hsg L n p g = true
      · rw [if_pos c3]
        by_cases c4 : (blg L n p g).isSome = true
        · rw [if_pos c4]; exact JV_same I
        · rw [if_neg c4]
          rw [Bool.and_eq_true] at c1
          have hn : n < 400 := by have := I.2.1.2.1; omega
          exact I_mem I hn (Or.inl rfl) c1.1 c1.2 (isN c4)
      · rw [if_neg c3]; exact JV_same I
  · rw [if_neg c1]; exact JV_same I
theorem I_join (I : INV L n np ng) (p g : Int32) : JV (U_join L n p g).2 np ng := by
  unfold U_join
  by_cases c1 : (inR p (L.1 0 1) && inR g (L.1 0 2)) = true
  · rw [if_pos c1]
    by_cases c2 : n = 400
    · rw [if_pos c2]; exact JV_same I
    · rw [if_neg c2]
      by_cases c4 : (blg L n p g).isSome = true
      · rw [if_pos c4]; exact JV_same I
      · rw [if_neg c4]
        rw [Bool.and_eq_true] at c1
        have hn : n < 400 := by have := I.2.1.2.1; omega
        exact I_mem I hn (Or.inr rfl) c1.1 c1.2 (isN c4)
  · rw [if_neg c1]; exact JV_same I
theorem I_reserve (I : INV L n np ng) (p g a s : Int32) : JV (U_reserve L n p g a s).2 np ng := by
  unfold U_reserve
  by_cases c1 : (inR p (L.1 0 1) && arB L g a && decide (¬ s < 0) && decide (s ≤ 1000000)) = true
  · rw [if_pos c1]
    by_cases c2 : n = 400
    · rw [if_pos c2]; exact JV_same I
    · rw [if_neg c2]
      cases c3 : blg L n p g with
      | none => exact JV_same I
      | some m =>
        rw [Bool.and_eq_true, Bool.and_eq_true, Bool.and_eq_true] at c1
        have hn : n < 400 := by have := I.2.1.2.1; omega
        have hg := inG I.2.1 (arB_g c1.1.1.2)
        obtain ⟨w, w1, w2⟩ := wt_v I hg
        obtain ⟨m1, m2, m3, m4, m5⟩ := blg_v c3
        exact INV_LG I hn rfl (LC_n I.1 hn I.2.2.2.1 ⟨3, by omega, rfl⟩ (fun q => absurd q (by show ¬ (3 : Int32) = 9; decide)) (fun _ => ⟨inP I.2.1 c1.1.1.1, hg, rfl⟩) rfl ⟨w, w1, congrArg (L.1 0 0 + ·) w2, fun _ => w2, fun q => absurd q (by show ¬ kW 3 = false; decide)⟩ (fun q => absurd q (by show ¬ kN 3 = true; decide)) (fun _ => rfl) (fun _ => ⟨m, m1, rfl, m2, m3, m4, m5⟩) (fun q => absurd q (by show ¬ kO 3 = false; decide)) (Or.inl rfl) (fun q => absurd q (by show ¬ kE 3 = true; decide)) (fun q => absurd q (by show ¬ kM 3 = true; decide)) (fun q => absurd q (by show ¬ (3 : Int32) = 4; decide)))
  · rw [if_neg c1]; exact JV_same I
theorem I_change (I : INV L n np ng) (p g a s : Int32) : JV (U_change L n p g a s).2 np ng := by
  unfold U_change
  by_cases c1 : (inR p (L.1 0 1) && arB L g a && decide (¬ s < 1) && decide (s ≤ 1000000)) = true
  · rw [if_pos c1]
    by_cases c2 : n = 400
    · rw [if_pos c2]; exact JV_same I
    · rw [if_neg c2]
      cases c3 : blg L n p g with
      | none => exact JV_same I
      | some m =>
        rw [Bool.and_eq_true, Bool.and_eq_true, Bool.and_eq_true] at c1
        have hn : n < 400 := by have := I.2.1.2.1; omega
        have hg := inG I.2.1 (arB_g c1.1.1.2)
        obtain ⟨m1, m2, m3, m4, m5⟩ := blg_v c3
        exact INV_LG I hn rfl (LC_n I.1 hn I.2.2.2.1 ⟨6, by omega, rfl⟩ (fun q => absurd q (by show ¬ (6 : Int32) = 9; decide)) (fun _ => ⟨inP I.2.1 c1.1.1.1, hg, rfl⟩) rfl ⟨0, by omega, add0 _, fun q => absurd q (by show ¬ kW 6 = true; decide), fun _ => rfl⟩ (fun q => absurd q (by show ¬ kN 6 = true; decide)) (fun _ => rfl) (fun _ => ⟨m, m1, rfl, m2, m3, m4, m5⟩) (fun q => absurd q (by show ¬ kO 6 = false; decide)) (Or.inl rfl) (fun q => absurd q (by show ¬ kE 6 = true; decide)) (fun q => absurd q (by show ¬ kM 6 = true; decide)) (fun q => absurd q (by show ¬ (6 : Int32) = 4; decide)))
  · rw [if_neg c1]; exact JV_same I
theorem inX (W : MW L n np ng) {x : Int32} (h : inR x (L.1 0 8) = true) : ∃ y, y < n ∧ x = nI y ∧ x.toNatClampNeg = y := by
  obtain ⟨w1, hn, w3, w4, w5, hnp, w7, hng, w9⟩ := W
  rw [w1] at h
  obtain ⟨y, hy, rfl⟩ := inR_of (by omega) h
  exact ⟨y, hy, rfl, nIt (by omega)⟩
theorem I_object (I : INV L n np ng) (p r : Int32) (fl : Bool) : JV (U_object L n p r (b2i fl)).2 np ng := by
  unfold U_object
  by_cases c1 : (inR p (L.1 0 1) && inR r (L.1 0 8)) = true
  · rw [if_pos c1]
    rw [Bool.and_eq_true] at c1
    obtain ⟨y, hy, rfl, ey⟩ := inX I.2.1 c1.2
    rw [ey]
    by_cases c2 : L.1 6 y = 3
    · rw [if_pos c2]
      by_cases c3 : n = 400
      · rw [if_pos c3]; exact JV_same I
      · rw [if_neg c3]
        have hn : n < 400 := by have := I.2.1.2.1; omega
        cases c4 : blg L n p (L.1 8 y) with
        | none => exact JV_same I
        | some m =>
          obtain ⟨m1, m2, m3, m4, m5⟩ := blg_v c4
          show JV (ite _ _ _ : Int32 × LM).2 np ng
          by_cases c5 : hlB L n y m (L.1 0 0) = true
          · rw [if_pos c5]; exact JV_same I
          · rw [if_neg c5]
            by_cases c6 : L.1 0 0 ≤ L.1 9 y + L.1 4 (L.1 8 y).toNatClampNeg
            · rw [if_pos c6]
              by_cases c7 : said L n 4 p (nI y) (nI m) = true
              · rw [if_pos c7]; exact JV_same I
              · rw [if_neg c7]
                have hg := I.1.ab y hy (by rw [c2]; decide)
                refine INV_LG I hn rfl (LC_n I.1 hn I.2.2.2.1 ⟨4, by omega, rfl⟩ (fun q => absurd q (by show ¬ (4 : Int32) = 9; decide)) (fun _ => ⟨inP I.2.1 c1.1, hg, rfl⟩) rfl ⟨0, by omega, add0 _, fun q => absurd q (by show ¬ kW 4 = true; decide), fun _ => rfl⟩ (fun _ => ⟨y, hy, rfl, rfl, fun _ => c2, fun q => absurd q (by show ¬ (4 : Int32) = 7; decide), fun q => absurd q (by show ¬ (4 : Int32) = 8; decide), fun q => absurd q (by show ¬ (4 : Int32) = 5; decide)⟩) (fun q => absurd q (by show ¬ kN 4 = false; decide)) (fun _ => ⟨m, m1, rfl, m2, m3, m4, m5⟩) (fun q => absurd q (by show ¬ kO 4 = false; decide)) ?_ (fun q => absurd q (by show ¬ kE 4 = true; decide)) (fun q => absurd q (by show ¬ kM 4 = true; decide)) (fun _ => ?_))
                · cases fl
                  · exact Or.inl rfl
                  · exact Or.inr ⟨rfl, Or.inl rfl⟩
                · show hlB L n (nI y).toNatClampNeg (nI m).toNatClampNeg (L.1 0 0) = false
                  rw [nIt (by omega), nIt (by omega)]
                  exact bf c5
            · rw [if_neg c6]; exact JV_same I
    · rw [if_neg c2]; exact JV_same I
  · rw [if_neg c1]; exact JV_same I
theorem wdn_nmd (F : WF L n np ng) (hn : n ≤ 400) {y m : Nat} (hy : y < n) (hm : nmd L n (nI m) = false) (hmn : m < n) (c : nI y = nI m ∨ ¬ L.1 12 y = -1) (w : wdn L n (nI y) = false) : nmd L n (nI y) = false := by
  rcases c with e | e
  · rw [e]; exact hm
  · have hM : isM L y = false := by
      cases q : isM L y
      · rfl
      · obtain ⟨-, -, -, h4, -⟩ := F y hy
        have : ofK L y = false := by
          rcases isM_k.mp q with w | w | w <;> simp [ofK, w]
        exact absurd (h4.2 this) e
    rw [end_wdn F hn hy hM]
    exact w
theorem I_withdraw (I : INV L n np ng) (p x : Int32) : JV (U_withdraw L n p x).2 np ng := by
  unfold U_withdraw
  by_cases c1 : (inR p (L.1 0 1) && inR x (L.1 0 8)) = true
  · rw [if_pos c1]
    rw [Bool.and_eq_true] at c1
    obtain ⟨y, hy, rfl, ey⟩ := inX I.2.1 c1.2
    rw [ey]
    by_cases c2 : (isM L y || decide (L.1 6 y = 3) || decide (L.1 6 y = 4) || decide (L.1 6 y = 7)) = true
    · rw [if_pos c2]
      by_cases c3 : n = 400
      · rw [if_pos c3]; exact JV_same I
      · rw [if_neg c3]
        have hn : n < 400 := by have := I.2.1.2.1; omega
        cases c4 : blg L n p (L.1 8 y) with
        | none => exact JV_same I
        | some m =>
          obtain ⟨m1, m2, m3, m4, m5⟩ := blg_v c4
          show JV (ite _ _ _ : Int32 × LM).2 np ng
          by_cases c5 : (decide (nI y = nI m) || (!decide (L.1 12 y = -1) && hlB L n y m (L.1 0 0))) = true
          · rw [if_pos c5]
            by_cases c7 : wdn L n (nI y) = true
            · rw [if_pos c7]; exact JV_same I
            · rw [if_neg c7]
              have h9 : ¬ L.1 6 y = 9 := by
                intro e
                simp [isM, e] at c2
              have hg := I.1.ab y hy h9
              obtain ⟨w, w1, w2⟩ := wt_v I hg
              have c5' : nI y = nI m ∨ ¬ L.1 12 y = -1 := by
                rw [Bool.or_eq_true, Bool.and_eq_true, decide_eq_true_eq, Bool.not_eq_true', decide_eq_false_iff_not] at c5
                rcases c5 with q | q
                · exact Or.inl q
                · exact Or.inr q.1
              have c2' : isM L y = true ∨ L.1 6 y = 3 ∨ L.1 6 y = 4 ∨ L.1 6 y = 7 := by
                simp only [Bool.or_eq_true, decide_eq_true_eq] at c2
                rcases c2 with ((q | q) | q) | q
                · exact Or.inl q
                · exact Or.inr (Or.inl q)
                · exact Or.inr (Or.inr (Or.inl q))
                · exact Or.inr (Or.inr (Or.inr q))
              exact INV_LG I hn rfl (LC_n I.1 hn I.2.2.2.1 ⟨5, by omega, rfl⟩ (fun q => absurd q (by show ¬ (5 : Int32) = 9; decide)) (fun _ => ⟨inP I.2.1 c1.1, hg, rfl⟩) rfl ⟨w, w1, congrArg (L.1 0 0 + ·) w2, fun _ => w2, fun q => absurd q (by show ¬ kW 5 = false; decide)⟩ (fun _ => ⟨y, hy, rfl, rfl, fun q => absurd q (by show ¬ (5 : Int32) = 4; decide), fun q => absurd q (by show ¬ (5 : Int32) = 7; decide), fun q => absurd q (by show ¬ (5 : Int32) = 8; decide), fun _ => c2'⟩) (fun q => absurd q (by show ¬ kN 5 = false; decide)) (fun q => absurd q (by show ¬ kO 5 = true; decide)) (fun _ => rfl) (Or.inl rfl) (fun _ => wdn_nmd I.1 (by omega) hy m5 m1 c5' (bf c7)) (fun q => absurd q (by show ¬ kM 5 = true; decide)) (fun q => absurd q (by show ¬ (5 : Int32) = 4; decide)))
          · rw [if_neg c5]; exact JV_same I
    · rw [if_neg c2]; exact JV_same I
  · rw [if_neg c1]; exact JV_same I
theorem I_consent (I : INV L n np ng) (p r : Int32) : JV (U_consent L n p r).2 np ng := by
  unfold U_consent
  by_cases c1 : (inR p (L.1 0 1) && inR r (L.1 0 8)) = true
  · rw [if_pos c1]
    rw [Bool.and_eq_true] at c1
    obtain ⟨y, hy, rfl, ey⟩ := inX I.2.1 c1.2
    rw [ey]
    by_cases c2 : L.1 6 y = 6
    · rw [if_pos c2]
      by_cases c3 : n = 400
      · rw [if_pos c3]; exact JV_same I
      · rw [if_neg c3]
        have hn : n < 400 := by have := I.2.1.2.1; omega
        cases c4 : blg L n p (L.1 8 y) with
        | none => exact JV_same I
        | some m =>
          obtain ⟨m1, m2, m3, m4, m5⟩ := blg_v c4
          show JV (ite _ _ _ : Int32 × LM).2 np ng
          by_cases c7 : said L n 7 p (nI y) (nI m) = true
          · rw [if_pos c7]; exact JV_same I
          · rw [if_neg c7]
            have hg := I.1.ab y hy (by rw [c2]; decide)
            obtain ⟨w, w1, w2⟩ := wt_v I hg
            exact INV_LG I hn rfl (LC_n I.1 hn I.2.2.2.1 ⟨7, by omega, rfl⟩ (fun q => absurd q (by show ¬ (7 : Int32) = 9; decide)) (fun _ => ⟨inP I.2.1 c1.1, hg, rfl⟩) rfl ⟨w, w1, congrArg (L.1 0 0 + ·) w2, fun _ => w2, fun q => absurd q (by show ¬ kW 7 = false; decide)⟩ (fun _ => ⟨y, hy, rfl, rfl, fun q => absurd q (by show ¬ (7 : Int32) = 4; decide), fun _ => c2, fun q => absurd q (by show ¬ (7 : Int32) = 8; decide), fun q => absurd q (by show ¬ (7 : Int32) = 5; decide)⟩) (fun q => absurd q (by show ¬ kN 7 = false; decide)) (fun _ => ⟨m, m1, rfl, m2, m3, m4, m5⟩) (fun q => absurd q (by show ¬ kO 7 = false; decide)) (Or.inl rfl) (fun q => absurd q (by show ¬ kE 7 = true; decide)) (fun q => absurd q (by show ¬ kM 7 = true; decide)) (fun q => absurd q (by show ¬ (7 : Int32) = 4; decide)))
    · rw [if_neg c2]; exact JV_same I
  · rw [if_neg c1]; exact JV_same I
theorem I_follow (I : INV L n np ng) (p q g : Int32) (fl : Bool) : JV (U_follow L n p q g (b2i fl)).2 np ng := by
  unfold U_follow
  by_cases c1 : (inR p (L.1 0 1) && inR q (L.1 0 1) && inR g (L.1 0 2)) = true
  · rw [if_pos c1]
    by_cases c2 : n = 400
    · rw [if_pos c2]; exact JV_same I
    · rw [if_neg c2]
      by_cases c3 : p = q
      · rw [if_pos c3]; exact JV_same I
      · rw [if_neg c3]
        by_cases c4 : (blg L n p g).isSome = true
        · rw [if_pos c4]; exact JV_same I
        · rw [if_neg c4]
          cases c5 : blg L n q g with
          | none => exact JV_same I
          | some m =>
            rw [Bool.and_eq_true, Bool.and_eq_true] at c1
            have hn : n < 400 := by have := I.2.1.2.1; omega
            have hg := inG I.2.1 c1.2
            obtain ⟨w, w1, w2⟩ := wt_v I hg
            obtain ⟨m1, m2, m3, m4, m5⟩ := blg_v c5
            refine INV_LG I hn rfl (LC_n I.1 hn I.2.2.2.1 ⟨8, by omega, rfl⟩ (fun q => absurd q (by show ¬ (8 : Int32) = 9; decide)) (fun _ => ⟨inP I.2.1 c1.1.1, hg, rfl⟩) rfl ⟨w, w1, congrArg (L.1 0 0 + ·) w2, fun _ => w2, fun q => absurd q (by show ¬ kW 8 = false; decide)⟩ (fun _ => ⟨m, m1, rfl, m4, fun q => absurd q (by show ¬ (8 : Int32) = 4; decide), fun q => absurd q (by show ¬ (8 : Int32) = 7; decide), fun _ => m2, fun q => absurd q (by show ¬ (8 : Int32) = 5; decide)⟩) (fun q => absurd q (by show ¬ kN 8 = false; decide)) (fun q => absurd q (by show ¬ kO 8 = true; decide)) (fun _ => rfl) ?_ (fun _ => m5) (fun _ => isN c4) (fun q => absurd q (by show ¬ (8 : Int32) = 4; decide)))
            cases fl
            · exact Or.inl rfl
            · exact Or.inr ⟨rfl, Or.inr rfl⟩
  · rw [if_neg c1]; exact JV_same I
theorem I_note (I : INV L n np ng) (x : Int64) : JV (U_note L n x).2 np ng := by
  unfold U_note
  by_cases c2 : n = 400
  · rw [if_pos c2]; exact JV_same I
  · rw [if_neg c2]
    have hn : n < 400 := by have := I.2.1.2.1; omega
    exact INV_LG I hn rfl (LC_n I.1 hn I.2.2.2.1 ⟨9, by omega, rfl⟩ (fun _ => ⟨rfl, rfl⟩) (fun q => absurd rfl q) rfl ⟨0, by omega, add0 _, fun q => absurd q (by show ¬ kW 9 = true; decide), fun _ => rfl⟩ (fun q => absurd q (by show ¬ kN 9 = true; decide)) (fun _ => rfl) (fun q => absurd q (by show ¬ kO 9 = true; decide)) (fun _ => rfl) (Or.inl rfl) (fun q => absurd q (by show ¬ kE 9 = true; decide)) (fun q => absurd q (by show ¬ kM 9 = true; decide)) (fun q => absurd q (by show ¬ (9 : Int32) = 4; decide)))
end IV
