/-! PURE 21: the program's asking calls -/
section CAs
variable {c : Nat} {L : LM} {n np ng : Nat} {A : Nat → Nat → Nat} {h : AH}
theorem clr_f (n : Nat) : clr n (fun _ => false) = fun _ => false := by
  funext x
  unfold clr
  split <;> rfl
theorem NB_f (n : Nat) : NB n (fun _ => false) := fun _ _ => rfl
/-- the clearing of what was cited -/
def ZT (T : TM) (u : Nat → Int32) (j : Nat) : TM := (fun q => if q = 13 then fun k => if k < j then 0 else u k else T.1 q, T.2)
theorem ZT_0 (T : TM) : ZT T (T.1 13) 0 = T := by
  refine Prod.ext ?_ rfl
  funext q
  by_cases c : q = 13
  · simp [ZT, c]
  · simp [ZT, c]
theorem ZT_s (T : TM) (u : Nat → Int32) (j : Nat) : TI (ZT T u j) 13 j 0 = ZT T u (j + 1) := by
  refine Prod.ext ?_ rfl
  funext q k
  simp only [TI1, ZT]
  by_cases c : q = 13
  · by_cases c2 : k = j
    · simp [c, c2]
    · have : (k < j + 1) = (k < j) := by
        apply propext
        omega
      simp [c, c2, this]
  · simp [c]
theorem ZT_e (T : TM) (u : Nat → Int32) : ZT T u 400 = VT T u (fun _ => false) := by
  refine Prod.ext ?_ rfl
  funext q
  simp only [ZT, VT, b2i]
theorem c_re_2 (C : COK c L n np ng A h) (T : TM) (u : Nat → Int32) (i : Int32) : ∀ m j f, j + m = 400 → m < f → f_X2_reason_2 f (c + 6) (some (c + 2)) i (nI j) (pS c (ZT T u j) h) = if T.1 6 4 = 0 then (if T.2 6 7 = none then some (-1, pS c (VT T u (fun _ => false)) h) else f_X2_reason_40 (c + 6) (some (c + 2)) i (pS c (VT T u (fun _ => false)) h)) else f_X2_reason_40 (c + 6) (some (c + 2)) i (pS c (VT T u (fun _ => false)) h) := by
  intro m
  induction m with
  | zero =>
    intro j f h1 h2
    obtain ⟨f, rfl⟩ : ∃ f', f = f' + 1 := ⟨f - 1, by omega⟩
    obtain rfl : j = 400 := by omega
    rw [f_X2_reason_2, ZT_e]
    simp only [sgR6 C.1, sfx, fx, sal13 C.1, Option.bind_some]
    rw [if_pos (nI_le (by omega) (by omega))]
    simp only [sgI6 C.1, VT_1 T u _ (show 6 ≠ 13 by decide), VT_2, sgR6 C.1, sfx, fx, Option.bind_some]
    by_cases z : T.1 6 4 = 0 <;> by_cases z2 : T.2 6 7 = none <;> simp [z, z2]
  | succ m ih =>
    intro j f h1 h2
    obtain ⟨f, rfl⟩ : ∃ f', f = f' + 1 := ⟨f - 1, by omega⟩
    rw [f_X2_reason_2]
    simp only [sgR6 C.1, sfx, fx, sal13 C.1, Option.bind_some]
    rw [if_neg (nI_ge (by omega) (by omega))]
    have b : (0 : Int32) = b2i false := rfl
    rw [b, sst13 C.1 _ (show j < 400 by omega), ← b]
    simp only [Option.bind_some, ZT_s, nI_1]
    exact ih (j + 1) f (by omega) (by omega)
theorem mof_none (F : WF L n np ng) (hnp : np ≤ 30) (g d k : Int32) {q : Nat} (h1 : np ≤ q) (h2 : q < 30) : mof L n (nI q) g d k = none := by
  unfold mof
  rw [fstF_none]
  intro x x1 x2
  cases c1 : isM L x
  · simp
  · obtain ⟨⟨-, -, h3⟩, -⟩ := F x (by omega)
    obtain ⟨⟨p, p1, p2⟩, -⟩ := h3 (by intro e; simp [isM, e] at c1)
    by_cases e : L.1 7 x = nI q
    · have := nI_inj (by omega) (by omega) (p2.symm.trans e)
      omega
    · simp [e]
theorem c_reason (C : COK c L n np ng A h) (F : WF L n np ng) (hn : n ≤ 400) (hnp : np ≤ 30) (T : TM) {p q : Int32} {g' a' : Nat} {d k : Int32} (S : STD L n np A p q g' a' d k T) (i : Int32) : ∃ T', f_X2_reason (c + 6) (some (c + 2)) i (pS c T h) = some (nth (fnd L n np p q g' a' d k (fun _ => false)).2.2 i 0 n, pS c T' h) := by
  obtain ⟨s6, s8, s⟩ := S
  unfold f_X2_reason
  have e1 := c_re_2 C T (T.1 13) i 400 0 FU (by omega) (by unfold FU; omega)
  rw [nI_0, ZT_0] at e1
  rw [e1]
  have nob : RD T 0 0 none none none none none → (fnd L n np p q g' a' d k (fun _ => false)).2.2 = (fun _ => false) → ∃ T', (if T.1 6 4 = 0 then (if T.2 6 7 = none then some ((-1 : Int32), pS c (VT T (T.1 13) (fun _ => false)) h) else f_X2_reason_40 (c + 6) (some (c + 2)) i (pS c (VT T (T.1 13) (fun _ => false)) h)) else f_X2_reason_40 (c + 6) (some (c + 2)) i (pS c (VT T (T.1 13) (fun _ => false)) h)) = some (nth (fnd L n np p q g' a' d k (fun _ => false)).2.2 i 0 n, pS c T' h) := by
    intro r e
    rw [if_pos r.1, if_pos r.2.2.1, e, nth_no _ n i 0 (fun _ _ _ => rfl)]
    exact ⟨_, rfl⟩
  unfold fnd at nob ⊢
  cases c1 : mof L n p (nI g') d k with
  | none =>
    rw [c1] at s nob
    exact nob s (clr_f n)
  | some m =>
    cases c2 : mof L n q (nI g') d k with
    | none =>
      rw [c1, c2] at s nob
      exact nob s (clr_f n)
    | some m' =>
      have hm := mof_lt c1
      have hm' := mof_lt c2
      rw [c1, c2] at s nob
      simp only at s nob ⊢
      by_cases c3 : L.1 2 g' ≤ nI (many L n np (nI g') d k)
      · rw [if_pos c3] at s ⊢
        clear nob
        obtain ⟨s9, s11, B⟩ := s
        rw [clr_f]
        have r40 : ∀ (v1 v2 : Int32) (o7 o8 o9 o10 o11 : Option Nat) (a8 : Int32), RD T v1 v2 (o7.map (A 0)) (ora (A 0) a8) (o9.map (A 0)) (o10.map (A 0)) (o11.map (A 0)) → (∀ x, o7 = some x → x < n) → (a8 = -1 ∨ ∃ i, i < n ∧ a8 = nI i) → (∀ x, o9 = some x → x < n) → (∀ x, o10 = some x → x < n) → (∀ x, o11 = some x → x < n) → ∀ W : Nat → Bool, W = (if v1 = 0 then upo (upo (upo (upi (upo (upw (upw (fun _ => false) m) m') o7) a8) o9) o10) o11 else nee L n (nI g') d k (L.1 2 g') 0 np (upo (upo (upo (upi (upo (upw (upw (fun _ => false) m) m') o7) a8) o9) o10) o11)) → ∃ T', f_X2_reason_40 (c + 6) (some (c + 2)) i (pS c (VT T (T.1 13) (fun _ => false)) h) = some (nth (lean L n W) i 0 n, pS c T' h) := by
          intro v1 v2 o7 o8 o9 o10 o11 a8 r h7 h8 h9 h10 h11 W hW
          obtain ⟨r4, r5, r7, r8, r9, r10, r11⟩ := r
          have nb : NB n (upo (upo (upo (upi (upo (upw (upw (fun _ => false) m) m') o7) a8) o9) o10) o11) := NB_upo (NB_upo (NB_upo (NB_upi hn (NB_upo (NB_upw (NB_upw (NB_f n) hm) hm') h7) h8) h9) h10) h11
          unfold f_X2_reason_40
          simp only [sgR6 C.1, sgR9 C.1, sgR11 C.1, sfx, fx, VT_2, s9, s11, r7, r8, r9, r10, r11, sck6 C.1, c_cite C hn T _ _ hm, c_cite C hn T _ _ hm', c_citeo C hn T _ _ h7, c_citei C hn T _ _ h8, c_citeo C hn T _ _ h9, c_citeo C hn T _ _ h10, c_citeo C hn T _ _ h11, sgI6 C.1, VT_1 T _ _ (show 6 ≠ 13 by decide), r4, Option.bind_some]
          by_cases z : v1 = 0
          · rw [if_pos z] at hW ⊢
            rw [c_r113 C F hn T _ nb i, hW]
            exact ⟨_, rfl⟩
          · rw [if_neg z] at hW ⊢
            unfold f_X2_citeNeeded
            have e2 := fun v => c_cn_7 C hn T (T.1 13) s8 30 0 FU (L.1 2 g') v (by omega) (by unfold FU; omega)
            rw [nI_0] at e2
            simp only [sgI6 C.1, VT_1 T _ _ (show 6 ≠ 13 by decide), s6, Option.bind_some, e2]
            obtain ⟨y, hy⟩ : ∃ y, 30 = np + y := ⟨30 - np, by omega⟩
            have e3 := fun v => nee_more L n (nI g') d k np y (L.1 2 g') 0 v (fun q h1 h2 => mof_none F hnp _ _ _ (by omega) (by omega))
            rw [← hy] at e3
            rw [e3, c_r113 C F hn T _ (NB_nee _ _ _ _ nb) i, hW]
            exact ⟨_, rfl⟩
        unfold BND at B
        unfold fnO
        cases c4 : mnO (stg L n m m' d k) (stg L n m' m d k) with
        | some o =>
          rw [c4] at B
          have ho : o < n := by
            have := mnO_fst (stgB L n m m' d k) (stgB L n m' m d k) n
            have e : mnO (stg L n m m' d k) (stg L n m' m d k) = fstF (fun x => stgB L n m m' d k x || stgB L n m' m d k x) 0 n := this
            rw [e] at c4
            have := (fstF_some _ _ _ _ c4).2.1
            omega
          rw [if_pos B.1, B.2.2.1, if_neg (by simp)]
          refine r40 0 0 (some o) none none none none (L.1 11 o) B (fun x q => by cases q; exact ho) ?_ (fun x q => by cases q) (fun x q => by cases q) (fun x q => by cases q) _ ?_
          · rcases F.nmv ho with q | ⟨j, j1, j2⟩
            · exact Or.inl q
            · exact Or.inr ⟨j, by omega, j2⟩
          · rw [if_pos rfl]
            rfl
        | none =>
          rw [c4] at B
          simp only at B ⊢
          have v1ne : ∀ {v1 : Int32}, T.1 6 4 = v1 → ¬ v1 = 0 → ∀ X Y : Option (Int32 × AH), (if T.1 6 4 = 0 then X else Y) = Y := fun e z X Y => if_neg (by rw [e]; exact z)
          unfold fnR fnRr
          cases c5 : rsv L n m m' (nI a') d k with
          | some r =>
            rw [c5] at B
            simp only at B ⊢
            have hr := (lstF_some _ _ _ c5).1
            have ne : ¬ (fnM L r (fun _ => false) (mild L n m m' r d k)).1 = 0 := by
              unfold fnM
              by_cases z : L.1 14 r = 0
              · rw [if_pos z]; decide
              · rw [if_neg z]
                cases mild L n m m' r d k with
                | none =>
                  show ¬ (2 : Int32) = 0
                  decide
                | some y =>
                  show ¬ (3 : Int32) = 0
                  decide
            rw [v1ne B.1 ne]
            have hmild : ∀ x, mild L n m m' r d k = some x → x < n := by
              intro x q
              unfold mild at q
              by_cases z : (hasB L n m r d k && hasB L n m' r d k) = true
              · rw [if_pos z] at q; cases q
              · rw [if_neg z] at q; exact lst_lt q
            have B' : RD T (fnM L r (fun _ => false) (mild L n m m' r d k)).1 (fnM L r (fun _ => false) (mild L n m m' r d k)).2.1 ((if L.1 14 r = 0 then none else mild L n m m' r d k).map (A 0)) (ora (A 0) (nI r)) none none none := by
              obtain ⟨b4, b5, b7, b8, b⟩ := B
              refine ⟨b4, b5, ?_, ?_, b⟩
              · rw [b7]
                split <;> rfl
              · rw [b8, ora_nI _ (by omega)]
            refine r40 _ _ (if L.1 14 r = 0 then none else mild L n m m' r d k) none none none none (nI r) B' (fun x q => ?_) (Or.inr ⟨r, hr, rfl⟩) (fun x q => by cases q) (fun x q => by cases q) (fun x q => by cases q) _ ?_
            · by_cases z : L.1 14 r = 0
              · rw [if_pos z] at q; cases q
              · rw [if_neg z] at q; exact hmild x q
            · rw [if_neg ne, upi_nI _ (by omega)]
              unfold fnM
              by_cases z : L.1 14 r = 0
              · rw [if_pos z, if_pos z]
                simp only [upo, nee_upw]
              · rw [if_neg z, if_neg z]
                cases mild L n m m' r d k with
                | none => simp only [upo, nee_upw]
                | some y =>
                  simp only [upo, nee_upw]
                  exact upw_comm _ _ _
          | none =>
            rw [c5] at B
            simp only at B ⊢
            unfold fnC
            cases c6 : chg L n m m' (nI g') (nI a') d k with
            | none =>
              rw [c6] at B
              simp only at B ⊢
              rw [v1ne B.1 (by decide)]
              refine r40 1 _ none none none none none (-1) B (fun x q => by cases q) (Or.inl rfl) (fun x q => by cases q) (fun x q => by cases q) (fun x q => by cases q) _ ?_
              rw [if_neg (by decide)]
              rfl
            | some x =>
              rw [c6] at B
              simp only at B ⊢
              have hx := (lstF_some _ _ _ c6).1
              rw [v1ne B.1 (by decide)]
              refine r40 4 _ none none (some x) (lst L n 7 (nI x) m d k) (lst L n 7 (nI x) m' d k) (-1) B (fun x q => by cases q) (Or.inl rfl) (fun x q => by cases q; exact hx) (fun x q => lst_lt q) (fun x q => lst_lt q) _ ?_
              rw [if_neg (by decide), nee_upo, nee_upo]
              have e := nee_upw L n (nI g') d k np (L.1 2 g') 0 (upw (upw (fun _ => false) m) m') x
              show _ = upo (upo (nee L n (nI g') d k (L.1 2 g') 0 np (upw (upw (upw (fun _ => false) m) m') x)) _) _
              rw [e]
      · rw [if_neg c3] at s nob ⊢
        exact nob s (clr_f n)
/-- what settle leaves is what is found -/
theorem STD_ans {p q : Int32} {g' a' : Nat} {d k : Int32} {T : TM} (S : STD L n np A p q g' a' d k T) : T.1 6 4 = (fnd L n np p q g' a' d k (fun _ => false)).1 ∧ T.1 6 5 = (fnd L n np p q g' a' d k (fun _ => false)).2.1 := by
  obtain ⟨-, -, s⟩ := S
  unfold fnd
  cases c1 : mof L n p (nI g') d k with
  | none => rw [c1] at s; exact ⟨s.1, s.2.1⟩
  | some m =>
    cases c2 : mof L n q (nI g') d k with
    | none => rw [c1, c2] at s; exact ⟨s.1, s.2.1⟩
    | some m' =>
      rw [c1, c2] at s
      simp only at s ⊢
      by_cases c3 : L.1 2 g' ≤ nI (many L n np (nI g') d k)
      · rw [if_pos c3] at s ⊢
        obtain ⟨-, -, B⟩ := s
        unfold BND at B
        unfold fnO
        cases c4 : mnO (stg L n m m' d k) (stg L n m' m d k) with
        | some o => rw [c4] at B; exact ⟨B.1, B.2.1⟩
        | none =>
          rw [c4] at B
          simp only [fnR, fnRr] at B ⊢
          cases c5 : rsv L n m m' (nI a') d k with
          | some r =>
            rw [c5] at B
            simp only at B ⊢
            refine ⟨B.1.trans ?_, B.2.1.trans ?_⟩
            · unfold fnM
              by_cases z : L.1 14 r = 0
              · simp [z]
              · cases mild L n m m' r d k <;> simp [z]
            · unfold fnM
              by_cases z : L.1 14 r = 0
              · simp [z]
              · cases mild L n m m' r d k <;> simp [z]
          | none =>
            rw [c5] at B
            simp only [fnC] at B ⊢
            cases c6 : chg L n m m' (nI g') (nI a') d k with
            | none => rw [c6] at B; exact ⟨B.1, B.2.1⟩
            | some x => rw [c6] at B; exact ⟨B.1, B.2.1⟩
      · rw [if_neg c3] at s ⊢
        exact ⟨s.1, s.2.1⟩
end CAs
