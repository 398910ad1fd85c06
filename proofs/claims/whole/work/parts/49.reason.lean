/-! PURE 20: why -/
theorem upw_comm (w : Nat → Bool) (x y : Nat) : upw (upw w x) y = upw (upw w y) x := by
  funext z
  unfold upw
  by_cases c1 : z = y <;> by_cases c2 : z = x <;> simp [c1, c2]
theorem upo_upw (w : Nat → Bool) (x : Nat) (o : Option Nat) : upo (upw w x) o = upw (upo w o) x := by
  cases o with
  | none => rfl
  | some y => exact upw_comm w x y
theorem nee_upw (L : LM) (n : Nat) (g d k : Int32) : ∀ m l j w x, nee L n g d k l j m (upw w x) = upw (nee L n g d k l j m w) x := by
  intro m
  induction m with
  | zero => intro l j w x; rfl
  | succ m ih =>
    intro l j w x
    unfold nee
    by_cases c : l ≤ 0
    · rw [if_pos c, if_pos c]
    · rw [if_neg c, if_neg c]
      cases mof L n (nI j) g d k with
      | none => exact ih _ _ _ _
      | some y =>
        simp only
        rw [upw_comm, ih]
theorem nee_upo (L : LM) (n : Nat) (g d k : Int32) (m : Nat) (l : Int32) (j : Nat) (w : Nat → Bool) (o : Option Nat) : nee L n g d k l j m (upo w o) = upo (nee L n g d k l j m w) o := by
  cases o with
  | none => rfl
  | some x => exact nee_upw L n g d k m l j w x
theorem nee_none (L : LM) (n : Nat) (g d k : Int32) : ∀ m l j w, (∀ q, j ≤ q → q < j + m → mof L n (nI q) g d k = none) → nee L n g d k l j m w = w := by
  intro m
  induction m with
  | zero => intro l j w _; rfl
  | succ m ih =>
    intro l j w h
    unfold nee
    rw [h j (by omega) (by omega)]
    simp only
    rw [ih _ _ _ (fun q h1 h2 => h q (by omega) (by omega))]
    split <;> rfl
theorem nee_more (L : LM) (n : Nat) (g d k : Int32) : ∀ m i l j w, (∀ q, j + m ≤ q → q < j + (m + i) → mof L n (nI q) g d k = none) → nee L n g d k l j (m + i) w = nee L n g d k l j m w := by
  intro m
  induction m with
  | zero =>
    intro i l j w h
    rw [Nat.zero_add, nee_none L n g d k i l j w (fun q h1 h2 => h q (by omega) (by omega))]
    rfl
  | succ m ih =>
    intro i l j w h
    have e : m + 1 + i = (m + i) + 1 := by omega
    rw [e]
    unfold nee
    by_cases c : l ≤ 0
    · rw [if_pos c, if_pos c]
    · rw [if_neg c, if_neg c]
      cases mof L n (nI j) g d k with
      | none => exact ih _ _ _ _ (fun q h1 h2 => h q (by omega) (by omega))
      | some y => exact ih _ _ _ _ (fun q h1 h2 => h q (by omega) (by omega))
/-- within the first n -/
def NB (n : Nat) (v : Nat → Bool) : Prop := ∀ x, n ≤ x → v x = false
theorem NB_upw {n x : Nat} {v : Nat → Bool} (h : NB n v) (hx : x < n) : NB n (upw v x) := by
  intro y hy
  unfold upw
  rw [if_neg (by omega)]
  exact h y hy
theorem NB_upo {n : Nat} {v : Nat → Bool} {o : Option Nat} (h : NB n v) (ho : ∀ x, o = some x → x < n) : NB n (upo v o) := by
  cases o with
  | none => exact h
  | some x => exact NB_upw h (ho x rfl)
theorem upi_nI (w : Nat → Bool) {i : Nat} (hi : i < 1000) : upi w (nI i) = upw w i := by
  unfold upi
  rw [if_neg (nI_m1 (by omega)), nIt hi]
theorem upi_m1 (w : Nat → Bool) : upi w (-1) = w := rfl
theorem NB_upi {n : Nat} {v : Nat → Bool} {a : Int32} (hn : n ≤ 400) (h : NB n v) (ha : a = -1 ∨ ∃ i, i < n ∧ a = nI i) : NB n (upi v a) := by
  rcases ha with rfl | ⟨i, hi, rfl⟩
  · exact h
  · rw [upi_nI v (by omega)]; exact NB_upw h hi
theorem NB_nee {L : LM} {n : Nat} {g d k : Int32} : ∀ m l j w, NB n w → NB n (nee L n g d k l j m w) := by
  intro m
  induction m with
  | zero => intro l j w h; exact h
  | succ m ih =>
    intro l j w h
    unfold nee
    by_cases c : l ≤ 0
    · rw [if_pos c]; exact h
    · rw [if_neg c]
      cases e : mof L n (nI j) g d k with
      | none => exact ih _ _ _ h
      | some y => exact ih _ _ _ (NB_upw h (mof_lt e))
theorem NB_lean {L : LM} {n np ng : Nat} (F : WF L n np ng) (hn : n ≤ 400) : ∀ x w, x ≤ n → NB n w → NB n (lean L x w) := by
  intro x
  induction x with
  | zero => intro w _ h; exact h
  | succ x ih =>
    intro w hx h
    unfold lean
    by_cases c : w x = true
    · rw [if_pos c]
      have h1 := NB_upi hn h (F.ofv (show x < n by omega))
      by_cases c2 : L.1 6 x = 8
      · rw [if_pos c2]
        refine ih _ (by omega) (NB_upi hn h1 ?_)
        rcases F.nmv (show x < n by omega) with q | ⟨i, i1, i2⟩
        · exact Or.inl q
        · exact Or.inr ⟨i, by omega, i2⟩
      · rw [if_neg c2]
        exact ih _ (by omega) h1
    · rw [if_neg c]
      exact ih _ (by omega) h
/-- alike within the first n -/
def EqN (n : Nat) (v w : Nat → Bool) : Prop := ∀ x, x < n → v x = w x
theorem EqN_upw {n x : Nat} {v w : Nat → Bool} (h : EqN n v w) : EqN n (upw v x) (upw w x) := by
  intro y hy
  unfold upw
  rw [h y hy]
theorem EqN_upo {n : Nat} {v w : Nat → Bool} {o : Option Nat} (h : EqN n v w) : EqN n (upo v o) (upo w o) := by
  cases o with
  | none => exact h
  | some x => exact EqN_upw h
theorem EqN_upi {n : Nat} {v w : Nat → Bool} {a : Int32} (h : EqN n v w) : EqN n (upi v a) (upi w a) := by
  unfold upi
  by_cases c : a = -1
  · rw [if_pos c, if_pos c]; exact h
  · rw [if_neg c, if_neg c]; exact EqN_upw h
theorem EqN_nee {L : LM} {n : Nat} {g d k : Int32} : ∀ m l j v w, EqN n v w → EqN n (nee L n g d k l j m v) (nee L n g d k l j m w) := by
  intro m
  induction m with
  | zero => intro l j v w h; exact h
  | succ m ih =>
    intro l j v w h
    unfold nee
    by_cases c : l ≤ 0
    · rw [if_pos c, if_pos c]; exact h
    · rw [if_neg c, if_neg c]
      cases e : mof L n (nI j) g d k with
      | none => exact ih _ _ _ _ h
      | some y => exact ih _ _ _ _ (EqN_upw h)
theorem EqN_lean {L : LM} {n : Nat} : ∀ x v w, x ≤ n → EqN n v w → EqN n (lean L x v) (lean L x w) := by
  intro x
  induction x with
  | zero => intro v w _ h; exact h
  | succ x ih =>
    intro v w hx h
    unfold lean
    rw [h x (by omega)]
    by_cases c : w x = true
    · rw [if_pos c, if_pos c]
      by_cases c2 : L.1 6 x = 8
      · rw [if_pos c2, if_pos c2]
        exact ih _ _ (by omega) (EqN_upi (EqN_upi h))
      · rw [if_neg c2, if_neg c2]
        exact ih _ _ (by omega) (EqN_upi h)
    · rw [if_neg c, if_neg c]
      exact ih _ _ (by omega) h
theorem EqN_clr (n : Nat) (v w : Nat → Bool) : EqN n (clr n v) (clr n w) := by
  intro x hx
  unfold clr
  rw [if_pos hx, if_pos hx]
theorem EqN_fnd {L : LM} {n np : Nat} {p q : Int32} {g' a' : Nat} {d k : Int32} (v w : Nat → Bool) : EqN n (fnd L n np p q g' a' d k v).2.2 (fnd L n np p q g' a' d k w).2.2 := by
  unfold fnd
  cases mof L n p (nI g') d k with
  | none => exact EqN_clr n v w
  | some m =>
    cases mof L n q (nI g') d k with
    | none => exact EqN_clr n v w
    | some m' =>
      simp only
      by_cases c : L.1 2 g' ≤ nI (many L n np (nI g') d k)
      · rw [if_pos c, if_pos c]
        have e := EqN_upw (x := m') (EqN_upw (x := m) (EqN_clr n v w))
        unfold fnO
        cases mnO (stg L n m m' d k) (stg L n m' m d k) with
        | some o => exact EqN_lean n _ _ (Nat.le_refl _) (EqN_upi (EqN_upw e))
        | none =>
          have e2 := EqN_nee (L := L) (g := nI g') (d := d) (k := k) np (L.1 2 g') 0 _ _ e
          simp only [fnR, fnRr]
          refine EqN_lean n _ _ (Nat.le_refl _) ?_
          cases rsv L n m m' (nI a') d k with
          | some r =>
            simp only [fnM]
            by_cases c2 : L.1 14 r = 0
            · rw [if_pos c2, if_pos c2]; exact EqN_upw e2
            · rw [if_neg c2, if_neg c2]
              cases mild L n m m' r d k with
              | none => exact EqN_upw e2
              | some z => exact EqN_upw (EqN_upw e2)
          | none =>
            simp only [fnC]
            cases chg L n m m' (nI g') (nI a') d k with
            | none => exact e2
            | some z => exact EqN_upo (EqN_upo (EqN_upw e2))
      · rw [if_neg c, if_neg c]
        exact EqN_clr n v w
theorem nth_EqN {n : Nat} {v w : Nat → Bool} (h : EqN n v w) : ∀ m i j, j + m ≤ n → nth v i j m = nth w i j m := by
  intro m
  induction m with
  | zero => intro i j _; rfl
  | succ m ih =>
    intro i j hj
    unfold nth
    rw [h j (by omega), ih _ _ (by omega), ih _ _ (by omega)]
theorem nth_no (p : Nat → Bool) : ∀ m i j, (∀ x, j ≤ x → x < j + m → p x = false) → nth p i j m = -1 := by
  intro m
  induction m with
  | zero => intro i j _; rfl
  | succ m ih =>
    intro i j h
    unfold nth
    rw [h j (by omega) (by omega), ih i (j + 1) (fun x h1 h2 => h x (by omega) (by omega))]
    simp
theorem nth_more (p : Nat → Bool) : ∀ m i z j, (∀ x, j + m ≤ x → x < j + (m + z) → p x = false) → nth p i j (m + z) = nth p i j m := by
  intro m
  induction m with
  | zero =>
    intro i z j h
    rw [Nat.zero_add, nth_no p z i j (fun x h1 h2 => h x (by omega) (by omega))]
    rfl
  | succ m ih =>
    intro i z j h
    have e : m + 1 + z = (m + z) + 1 := by omega
    rw [e]
    unfold nth
    rw [ih _ _ _ (fun x h1 h2 => h x (by omega) (by omega)), ih _ _ _ (fun x h1 h2 => h x (by omega) (by omega))]
def VT (T : TM) (u : Nat → Int32) (v : Nat → Bool) : TM := (fun q => if q = 13 then fun k => if k < 400 then b2i (v k) else u k else T.1 q, T.2)
theorem VT_2 (T : TM) (u : Nat → Int32) (v : Nat → Bool) : (VT T u v).2 = T.2 := rfl
theorem VT_1 (T : TM) (u : Nat → Int32) (v : Nat → Bool) {q : Nat} (hq : q ≠ 13) : (VT T u v).1 q = T.1 q := by simp [VT, hq]
theorem VT_13 (T : TM) (u : Nat → Int32) (v : Nat → Bool) {x : Nat} (hx : x < 400) : (VT T u v).1 13 x = b2i (v x) := by simp [VT, hx]
theorem VT_up (T : TM) (u : Nat → Int32) (v : Nat → Bool) {x : Nat} (hx : x < 400) : TI (VT T u v) 13 x 1 = VT T u (upw v x) := by
  refine Prod.ext ?_ rfl
  funext q k
  simp only [TI1, VT, upw]
  by_cases c : q = 13
  · by_cases c2 : k = x
    · simp [c, c2, hx, b2i]
    · simp [c, c2]
  · simp [c]
section CRe
variable {c : Nat} {L : LM} {n np ng : Nat} {A : Nat → Nat → Nat} {h : AH}
theorem c_cite (C : COK c L n np ng A h) (hn : n ≤ 400) (T : TM) (u : Nat → Int32) (v : Nat → Bool) {x : Nat} (hx : x < n) : f_X2_cite (c + 6) (some (A 0 x)) (pS c (VT T u v) h) = some (pS c (VT T u (upw v x)) h) := by
  have C' := COK_pS C (VT T u v)
  have b : b2i true = 1 := rfl
  unfold f_X2_cite
  simp only [cP0 C' hx, sgR6 C.1, sfx, fx, sal13 C.1, Option.bind_some]
  rw [if_neg (by simp), if_neg (nI_pos (by omega)), if_neg (nI_ge (show x < 400 by omega) (by omega)), ← b, sst13 C.1 _ (show x < 400 by omega), b, VT_up T u v (by omega)]
  rfl
theorem c_citeo (C : COK c L n np ng A h) (hn : n ≤ 400) (T : TM) (u : Nat → Int32) (v : Nat → Bool) {o : Option Nat} (ho : ∀ x, o = some x → x < n) : f_X2_cite (c + 6) (o.map (A 0)) (pS c (VT T u v) h) = some (pS c (VT T u (upo v o)) h) := by
  cases o with
  | none => rfl
  | some x => exact c_cite C hn T u v (ho x rfl)
theorem c_citei (C : COK c L n np ng A h) (hn : n ≤ 400) (T : TM) (u : Nat → Int32) (v : Nat → Bool) {a : Int32} (ha : a = -1 ∨ ∃ i, i < n ∧ a = nI i) : f_X2_cite (c + 6) (ora (A 0) a) (pS c (VT T u v) h) = some (pS c (VT T u (upi v a)) h) := by
  rcases ha with rfl | ⟨i, hi, rfl⟩
  · rfl
  · rw [ora_nI _ (by omega), c_cite C hn T u v hi, upi_nI v (by omega)]
theorem c_cn_7 (C : COK c L n np ng A h) (hn : n ≤ 400) (T : TM) (u : Nat → Int32) {g' : Nat} {d k : Int32} (h8 : ∀ x, x < 30 → T.2 8 x = (mof L n (nI x) (nI g') d k).map (A 0)) : ∀ m j f l v, j + m = 30 → m < f → f_X2_citeNeeded_7 f (c + 6) l (nI j) (pS c (VT T u v) h) = some (pS c (VT T u (nee L n (nI g') d k l j m v)) h) := by
  intro m
  induction m with
  | zero =>
    intro j f l v h1 h2
    obtain ⟨f, rfl⟩ : ∃ f', f = f' + 1 := ⟨f - 1, by omega⟩
    rw [f_X2_citeNeeded_7]
    have : (30 : Int32) ≤ nI j := by
      have e : (30 : Int32) = nI 30 := rfl
      rw [e]
      exact nI_le (by omega) (by omega)
    rw [if_pos this]
    rfl
  | succ m ih =>
    intro j f l v h1 h2
    obtain ⟨f, rfl⟩ : ∃ f', f = f' + 1 := ⟨f - 1, by omega⟩
    have hj : j < 30 := by omega
    rw [f_X2_citeNeeded_7]
    have : ¬ (30 : Int32) ≤ nI j := by
      have e : (30 : Int32) = nI 30 := rfl
      rw [e]
      exact nI_ge hj (by omega)
    rw [if_neg this]
    unfold nee
    by_cases c1 : l ≤ 0
    · rw [if_pos c1, if_pos c1]
    · rw [if_neg c1, if_neg c1]
      simp only [sgR6 C.1, sfx, fx, sck7 C.1, c_rat_7 C, inR_nI (show j < 2 ^ 31 by omega) (show 30 < 2 ^ 31 by omega), nIt (show j < 1000 by omega), VT_2, h8 j hj, Option.bind_some, nI_1, sck6 C.1]
      rw [decide_eq_true hj]
      simp only [if_true]
      cases e : mof L n (nI j) (nI g') d k with
      | none => exact ih (j + 1) f l v (by omega) (by omega)
      | some x =>
        simp only [Option.map_some, c_cite C hn T u v (mof_lt e), Option.bind_some]
        rw [if_neg (by simp)]
        exact ih (j + 1) f _ _ (by omega) (by omega)
theorem c_cs_8 (C : COK c L n np ng A h) (F : WF L n np ng) (hn : n ≤ 400) (T : TM) (u : Nat → Int32) : ∀ i f v, i ≤ 400 → i < f → NB n v → f_X2_citeSources_8 f (c + 6) (some (c + 2)) (nI i + (-1)) (pS c (VT T u v) h) = some (pS c (VT T u (lean L (min i n) v)) h) := by
  intro i
  induction i with
  | zero =>
    intro f v h1 h2 hv
    obtain ⟨f, rfl⟩ : ∃ f', f = f' + 1 := ⟨f - 1, by omega⟩
    rw [f_X2_citeSources_8, nI_0m, if_pos m1_neg, Nat.zero_min]
    rfl
  | succ i ih =>
    intro f v h1 h2 hv
    obtain ⟨f, rfl⟩ : ∃ f', f = f' + 1 := ⟨f - 1, by omega⟩
    have C' := fun v => COK_pS C (VT T u v)
    rw [f_X2_citeSources_8, nI_m1', if_neg (nI_pos (by omega))]
    simp only [sgR6 C.1, sfx, fx, slI13 C.1 _ (show i < 400 by omega), VT_13 T u v (show i < 400 by omega), cck4 (C' v), Option.bind_some, b2i_z]
    unfold f_X2_citeSources_30 f_X2_citeSources_61
    by_cases c1 : v i = false
    · rw [if_pos c1, if_pos rfl, ih f v (by omega) (by omega) hv]
      rcases Nat.lt_or_ge i n with q | q
      · rw [Nat.min_eq_left (show i ≤ n by omega), Nat.min_eq_left (show i + 1 ≤ n by omega)]
        show _ = some (pS c (VT T u (lean L i (if v i = true then _ else v))) h)
        rw [c1]
        simp
      · rw [Nat.min_eq_right q, Nat.min_eq_right (show n ≤ i + 1 by omega)]
    · rw [if_neg c1]
      have c1' := bt c1
      have hi : i < n := by
        rcases Nat.lt_or_ge i n with q | q
        · exact q
        · exact absurd (hv i q) c1
      have hnm : L.1 11 i = -1 ∨ ∃ j, j < n ∧ L.1 11 i = nI j := by
        rcases F.nmv hi with q | ⟨j, j1, j2⟩
        · exact Or.inl q
        · exact Or.inr ⟨j, by omega, j2⟩
      rw [Nat.min_eq_left (show i + 1 ≤ n by omega)]
      simp only [c_at (C' v) hn hi, cP7 (C' v) hi, sck6 C.1, c_citei C hn T u v (F.ofv hi), cP1 (C' _) hi, cP6 (C' _) hi, Option.bind_some]
      rw [if_neg (by simp)]
      show _ = some (pS c (VT T u (lean L i (if v i = true then (if L.1 6 i = 8 then upi (upi v (L.1 12 i)) (L.1 11 i) else upi v (L.1 12 i)) else v))) h)
      rw [if_pos c1']
      have n1 := NB_upi hn hv (F.ofv hi)
      by_cases c2 : L.1 6 i = 8
      · rw [if_pos c2, if_pos c2]
        simp only [sck6 C.1, c_citei C hn T u _ hnm, Option.bind_some]
        rw [ih f _ (by omega) (by omega) (NB_upi hn n1 hnm), Nat.min_eq_left (show i ≤ n by omega)]
      · rw [if_neg c2, if_neg c2]
        have e0 : ∀ v, f_X2_cite (c + 6) none (pS c (VT T u v) h) = some (pS c (VT T u v) h) := fun v => rfl
        simp only [sck6 C.1, e0, Option.bind_some]
        rw [ih f _ (by omega) (by omega) n1, Nat.min_eq_left (show i ≤ n by omega)]
theorem c_nc_4 (C : COK c L n np ng A h) (T : TM) (u : Nat → Int32) (v : Nat → Bool) : ∀ m j f i, j + m = 400 → m < f → f_X2_nthCited_4 f (c + 6) i (nI j) (pS c (VT T u v) h) = some (nth v i j m) := by
  intro m
  induction m with
  | zero =>
    intro j f i h1 h2
    obtain ⟨f, rfl⟩ : ∃ f', f = f' + 1 := ⟨f - 1, by omega⟩
    rw [f_X2_nthCited_4]
    simp only [sgR6 C.1, sfx, fx, sal13 C.1, Option.bind_some]
    rw [if_pos (nI_le (by omega) (by omega))]
    rfl
  | succ m ih =>
    intro j f i h1 h2
    obtain ⟨f, rfl⟩ : ∃ f', f = f' + 1 := ⟨f - 1, by omega⟩
    have hj : j < 400 := by omega
    rw [f_X2_nthCited_4]
    simp only [sgR6 C.1, sfx, fx, sal13 C.1, Option.bind_some]
    rw [if_neg (nI_ge hj (by omega))]
    simp only [sgR6 C.1, sfx, fx, slI13 C.1 _ hj, VT_13 T u v hj, Option.bind_some, b2i_z, nI_1, nth]
    rw [ih (j + 1) f _ (by omega) (by omega), ih (j + 1) f _ (by omega) (by omega)]
    by_cases c1 : i < 0
    · simp [c1]
    · by_cases c2 : v j = false
      · simp [c1, c2]
      · have c2' := bt c2
        by_cases c3 : i = 0 <;> simp [c1, c2', c3]
theorem c_r113 (C : COK c L n np ng A h) (F : WF L n np ng) (hn : n ≤ 400) (T : TM) (u : Nat → Int32) {v : Nat → Bool} (hv : NB n v) (i : Int32) : f_X2_reason_113 (c + 6) (some (c + 2)) i (pS c (VT T u v) h) = some (nth (lean L n v) i 0 n, pS c (VT T u (lean L n v)) h) := by
  unfold f_X2_reason_113 f_X2_citeSources f_X2_nthCited
  have e1 := c_cs_8 C F hn T u 400 FU v (by omega) (by unfold FU; omega) hv
  rw [Nat.min_eq_right hn] at e1
  have e2 := c_nc_4 C T u (lean L n v) 400 0 FU i (by omega) (by unfold FU; omega)
  rw [nI_0] at e2
  obtain ⟨z, hz⟩ : ∃ z, 400 = n + z := ⟨400 - n, by omega⟩
  have e3 := nth_more (lean L n v) n i z 0 (fun x h1 h2 => NB_lean F hn n v (Nat.le_refl _) hv x (by omega))
  rw [← hz] at e3
  simp only [sck6 C.1, sgR6 C.1, sfx, fx, sal13 C.1, Option.bind_some, nI_sub1, e1, e2, e3]
end CRe
