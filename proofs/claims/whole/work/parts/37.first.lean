/-! PURE 8: first, since, and what is read off -/
def dnT (F : Nat → Bool) : Nat → Nat
  | 0 => 0
  | d + 1 => if F d = true then dnT F d else d + 1
theorem dnT_run (F : Nat → Bool) : ∀ m e, (∀ d, e ≤ d → d < e + m → F d = true) → dnT F (e + m) = dnT F e := by
  intro m
  induction m with
  | zero => intro e _; rfl
  | succ m ih =>
    intro e h
    show (if F (e + m) = true then dnT F (e + m) else e + m + 1) = _
    rw [if_pos (h (e + m) (by omega) (by omega))]
    exact ih e (fun d h1 h2 => h d h1 (by omega))
theorem dnT_stop (F : Nat → Bool) {e : Nat} (he : 0 < e) (h : F (e - 1) = false) : dnT F e = e := by
  cases e with
  | zero => omega
  | succ e =>
    show (if F e = true then dnT F e else e + 1) = e + 1
    rw [if_neg (by simpa using h)]
theorem cntF_le (p : Nat → Bool) : ∀ m j, cntF p j m ≤ m := by
  intro m
  induction m with
  | zero => intro j; exact Nat.le_refl _
  | succ m ih =>
    intro j
    unfold cntF
    have := ih (j + 1)
    split <;> omega
theorem cntF_mono {p q : Nat → Bool} : ∀ m j, (∀ y, j ≤ y → y < j + m → p y = true → q y = true) → cntF p j m ≤ cntF q j m := by
  intro m
  induction m with
  | zero => intro j _; exact Nat.le_refl _
  | succ m ih =>
    intro j h
    unfold cntF
    have := ih (j + 1) (fun y h1 h2 => h y (by omega) (by omega))
    by_cases c : p j = true
    · rw [if_pos c, if_pos (h j (by omega) (by omega) c)]
      omega
    · rw [if_neg c]
      omega
theorem cntF_lt {p q : Nat → Bool} : ∀ m j x, j ≤ x → x < j + m → p x = false → q x = true → (∀ y, j ≤ y → y < j + m → p y = true → q y = true) → cntF p j m < cntF q j m := by
  intro m
  induction m with
  | zero => intro j x h1 h2; omega
  | succ m ih =>
    intro j x h1 h2 h3 h4 h
    unfold cntF
    by_cases c : x = j
    · rw [← c, if_neg (by simp [h3]), if_pos h4]
      have := cntF_mono m (x + 1) (fun y g1 g2 => h y (by omega) (by omega))
      omega
    · have := ih (j + 1) x (by omega) (by omega) h3 h4 (fun y g1 g2 => h y (by omega) (by omega))
      by_cases c2 : p j = true
      · rw [if_pos c2, if_pos (h j (by omega) (by omega) c2)]
        omega
      · rw [if_neg c2]
        omega
/-- every EFFECT is a day not far out -/
def EF (L : LM) (n : Nat) : Prop := ∀ x, x < n → ∃ e, e ≤ 74000 ∧ L.1 10 x = nI e
def efn (L : LM) (x : Nat) : Nat := (L.1 10 x).toNatClampNeg
theorem EF_v {L : LM} {n x : Nat} (E : EF L n) (hx : x < n) : efn L x ≤ 74000 ∧ L.1 10 x = nI (efn L x) := by
  obtain ⟨e, h1, h2⟩ := E x hx
  have : efn L x = e := by unfold efn; rw [h2]; exact nI_clamp (by omega)
  rw [this]
  exact ⟨h1, h2⟩
theorem nIle {a b : Nat} (ha : a < 2 ^ 31) (hb : b < 2 ^ 31) : nI a ≤ nI b ↔ a ≤ b := by
  constructor
  · intro h
    rcases Nat.lt_or_ge b a with q | q
    · exact absurd h (nI_ge q ha)
    · exact q
  · intro h; exact nI_le h hb
theorem nIlt {a b : Nat} (ha : a < 2 ^ 31) (hb : b < 2 ^ 31) : nI a < nI b ↔ a < b := by
  constructor
  · intro h
    rcases Nat.lt_or_ge a b with q | q
    · exact q
    · exact absurd h (nI_nlt q ha)
  · intro h; exact nI_lt h hb
/-- the greatest below d among b and those from j on -/
theorem effF_v {L : LM} {n : Nat} (E : EF L n) {d : Nat} (hd : d ≤ 80000) : ∀ m j b, j + m = n → b ≤ 80000 → ∃ e, effF L (nI d) (nI b) j m = nI e ∧ b ≤ e ∧ e ≤ 80000 ∧ (e = b ∨ ∃ x, j ≤ x ∧ x < n ∧ efn L x = e ∧ e < d) ∧ ∀ x, j ≤ x → x < n → efn L x < d → efn L x ≤ e := by
  intro m
  induction m with
  | zero =>
    intro j b h1 h2
    exact ⟨b, rfl, Nat.le_refl _, h2, Or.inl rfl, fun x g1 g2 => by omega⟩
  | succ m ih =>
    intro j b h1 h2
    obtain ⟨v1, v2⟩ := EF_v E (show j < n by omega)
    unfold effF
    rw [v2]
    simp only [nIle (show d < 2 ^ 31 by omega) (show efn L j < 2 ^ 31 by omega), nIle (show efn L j < 2 ^ 31 by omega) (show b < 2 ^ 31 by omega)]
    by_cases c : d ≤ efn L j
    · rw [if_pos c]
      obtain ⟨e, e1, e2, e3, e4, e5⟩ := ih (j + 1) b (by omega) h2
      refine ⟨e, e1, e2, e3, ?_, fun x g1 g2 g3 => ?_⟩
      · rcases e4 with q | ⟨x, q1, q2, q3, q4⟩
        · exact Or.inl q
        · exact Or.inr ⟨x, by omega, q2, q3, q4⟩
      · by_cases hx : x = j
        · subst hx; omega
        · exact e5 x (by omega) g2 g3
    · rw [if_neg c]
      by_cases c2 : efn L j ≤ b
      · rw [if_pos c2]
        obtain ⟨e, e1, e2, e3, e4, e5⟩ := ih (j + 1) b (by omega) h2
        refine ⟨e, e1, e2, e3, ?_, fun x g1 g2 g3 => ?_⟩
        · rcases e4 with q | ⟨x, q1, q2, q3, q4⟩
          · exact Or.inl q
          · exact Or.inr ⟨x, by omega, q2, q3, q4⟩
        · by_cases hx : x = j
          · subst hx; omega
          · exact e5 x (by omega) g2 g3
      · rw [if_neg c2]
        obtain ⟨e, e1, e2, e3, e4, e5⟩ := ih (j + 1) (efn L j) (by omega) (by omega)
        refine ⟨e, e1, by omega, e3, ?_, fun x g1 g2 g3 => ?_⟩
        · rcases e4 with q | ⟨x, q1, q2, q3, q4⟩
          · exact Or.inr ⟨j, by omega, by omega, q.symm, by omega⟩
          · exact Or.inr ⟨x, by omega, q2, q3, q4⟩
        · by_cases hx : x = j
          · subst hx; omega
          · exact e5 x (by omega) g2 g3
theorem effB_0 {L : LM} {n : Nat} (E : EF L n) : effB L n (nI 0) = -1 := by
  have : ∀ m j, j + m = n → effF L (nI 0) (-1) j m = -1 := by
    intro m
    induction m with
    | zero => intro j _; rfl
    | succ m ih =>
      intro j h
      obtain ⟨v1, v2⟩ := EF_v E (show j < n by omega)
      unfold effF
      rw [v2, if_pos (nI_le (by omega) (by omega))]
      exact ih (j + 1) (by omega)
  unfold effB
  rw [if_pos (by rw [nI_0]; decide)]
  exact this n 0 (by omega)
theorem effB_s {L : LM} {n d : Nat} (E : EF L n) (h0 : 0 < d) (hd : d ≤ 80000) : ∃ e, effB L n (nI d) = nI e ∧ e < d ∧ (e = 0 ∨ ∃ x, x < n ∧ efn L x = e) ∧ ∀ x, x < n → efn L x < d → efn L x ≤ e := by
  unfold effB
  rw [if_neg (by rw [← nI_0]; exact nI_ge h0 (by omega)), ← nI_0]
  obtain ⟨e, e1, e2, e3, e4, e5⟩ := effF_v E hd n 0 0 (by omega) (by omega)
  refine ⟨e, e1, ?_, ?_, fun x g1 g2 => e5 x (by omega) g1 g2⟩
  · rcases e4 with q | ⟨x, q1, q2, q3, q4⟩
    · omega
    · exact q4
  · rcases e4 with q | ⟨x, q1, q2, q3, q4⟩
    · exact Or.inl q
    · exact Or.inr ⟨x, q2, q3⟩
def mu (L : LM) (n d : Nat) : Nat := cntF (fun x => decide (efn L x < d)) 0 n
theorem mu_lt {L : LM} {n d e x : Nat} (hx : x < n) (h1 : efn L x = e) (h2 : e < d) : mu L n e < mu L n d := by
  refine cntF_lt n 0 x (by omega) (by omega) (by simp [h1]) (by simp [h1, h2]) (fun y _ _ h => ?_)
  simp only [decide_eq_true_eq] at h ⊢
  omega
theorem mu_le {L : LM} {n d e : Nat} (h2 : e ≤ d) : mu L n e ≤ mu L n d := by
  refine cntF_mono n 0 (fun y _ _ h => ?_)
  simp only [decide_eq_true_eq] at h ⊢
  omega
/-- nothing changes between two EFFECTS -/
def flat (L : LM) (n : Nat) (F : Nat → Bool) : Prop := ∀ e d, e ≤ d → d ≤ 73000 → (∀ x, x < n → efn L x ≤ e ∨ d < efn L x) → F d = F e
theorem dnT_eff {L : LM} {n : Nat} {F : Nat → Bool} (Fl : flat L n F) {d e : Nat} (hd : d ≤ 73001) (he : e < d) (h : ∀ x, x < n → efn L x < d → efn L x ≤ e) : dnT F d = if F e = true then dnT F e else d := by
  have hc : ∀ x, e ≤ x → x < d → F x = F e := fun x h1 h2 => Fl e x h1 (by omega) (fun y hy => by
    have := h y hy
    omega)
  by_cases c : F e = true
  · rw [if_pos c]
    obtain ⟨m, rfl⟩ : ∃ m, d = e + m := ⟨d - e, by omega⟩
    exact dnT_run F m e (fun x h1 h2 => by rw [hc x h1 h2, c])
  · rw [if_neg c]
    refine dnT_stop F (by omega) ?_
    rw [hc (d - 1) (by omega) (by omega)]
    simpa using c
theorem fnd_w {L : LM} (n np : Nat) (p q : Int32) (g' a' : Nat) (d k : Int32) (w w' : Nat → Bool) : (fnd L n np p q g' a' d k w).1 = (fnd L n np p q g' a' d k w').1 ∧ (fnd L n np p q g' a' d k w).2.1 = (fnd L n np p q g' a' d k w').2.1 := by
  unfold fnd
  cases mof L n p (nI g') d k with
  | none => simp
  | some m =>
    cases mof L n q (nI g') d k with
    | none => simp
    | some m' =>
      simp only
      by_cases c : L.1 2 g' ≤ nI (many L n np (nI g') d k)
      · rw [if_pos c, if_pos c]
        unfold fnO
        cases mnO (stg L n m m' d k) (stg L n m' m d k) with
        | some o => simp
        | none =>
          simp only [fnR, fnRr]
          cases rsv L n m m' (nI a') d k with
          | some r =>
            simp only [fnM]
            by_cases c2 : L.1 14 r = 0
            · simp [c2]
            · cases mild L n m m' r d k <;> simp [c2]
          | none =>
            simp only [fnC]
            cases chg L n m m' (nI g') (nI a') d k <;> simp
      · rw [if_neg c, if_neg c]
        simp
/-- what is answered, without the papers of why -/
def ans (L : LM) (n np : Nat) (p q g a d k : Int32) : Int32 × Int32 := ((fndI L n np p q g a d k (fun _ => false)).1, (fndI L n np p q g a d k (fun _ => false)).2.1)
theorem fndI_1 (L : LM) (n np : Nat) (p q g a d k : Int32) (w : Nat → Bool) : (fndI L n np p q g a d k w).1 = (ans L n np p q g a d k).1 := (fnd_w n np p q _ _ d k w _).1
theorem fndI_2 (L : LM) (n np : Nat) (p q g a d k : Int32) (w : Nat → Bool) : (fndI L n np p q g a d k w).2.1 = (ans L n np p q g a d k).2 := (fnd_w n np p q _ _ d k w _).2
def anF (L : LM) (n np : Nat) (p q g a : Int32) (t d : Nat) : Bool := decide (ans L n np p q g a (nI d) (nI t) = ans L n np p q g a (nI t) (nI t))
theorem SC_effB (L : LM) (an wd : Int32) (w : Nat → Bool) (n : Nat) (d : Int32) : effB (SC L an wd w) n d = effB L n d := by
  have : ∀ m b j, effF (SC L an wd w) d b j m = effF L d b j m := by
    intro m
    induction m with
    | zero => intro b j; rfl
    | succ m ih => intro b j; unfold effF; rw [ih, SCr L an wd w 10 (by decide) (by decide)]
  unfold effB
  rw [this]
theorem M_eff {am : Nat} {h : AH} (R : MOK am h) (L : LM) (an wd : Int32) (w : Nat → Bool) {n np ng : Nat} (W : MW L n np ng) (d : Int32) : f_X8_effectBelow am d (pM am (SC L an wd w) h) = some (effB L n d) := by
  rw [M_effectBelow R (SC L an wd w) (by rw [SC_8]; exact W.1) W.2.1, SC_effB]
theorem M_first_62 {am : Nat} {h : AH} (R : MOK am h) (L : LM) {n np ng : Nat} (W : MW L n np ng) (E : EF L n) {p q g a : Int32} (hA : arB L g a = true) {t : Nat} (ht : t ≤ 73000) (hT : L.1 0 0 = nI t) (Fl : flat L n (anF L n np p q g a t)) : ∀ f d b an wd w, d ≤ t → mu L n d + 3 ≤ f → ∃ an' wd' w', f_X8_first_62 f am p q g a (ans L n np p q g a (nI t) (nI t)).1 (ans L n np p q g a (nI t) (nI t)).2 (nI d) b 1 (pM am (SC L an wd w) h) = some (nI (dnT (anF L n np p q g a t) d), pM am (SC L an' wd' w') h) := by
  intro f
  induction f with
  | zero => intro d b an wd w h1 h2; omega
  | succ f ih =>
    intro d b an wd w h1 h2
    obtain ⟨f, rfl⟩ : ∃ f', f = f' + 1 := ⟨f - 1, by omega⟩
    rw [f_X8_first_62, if_neg (by decide)]
    simp only [R.xck, M_eff R L an wd w W, Option.bind_some]
    rcases Nat.eq_zero_or_pos d with h0 | h0
    · subst h0
      rw [effB_0 E, if_pos rfl]
      unfold f_X8_first_90
      rw [if_pos rfl, f_X8_first_62, if_pos rfl]
      exact ⟨an, wd, w, rfl⟩
    · obtain ⟨e, e1, e2, e3, e4⟩ := effB_s E h0 (show d ≤ 80000 by omega)
      rw [e1, if_neg (nI_m1 (by omega))]
      unfold f_X8_first_90
      rw [if_neg (by decide)]
      simp only [R.xck, R.xgI, SC_0, hT, Option.bind_some, M_fndI R L an wd w W (nI e) (nI t) hA, SR, SC_an, SC_wd, fndI_1, fndI_2]
      rw [dnT_eff Fl (show d ≤ 73001 by omega) e2 e4]
      by_cases c : anF L n np p q g a t e = true
      · rw [if_pos c]
        have c' := c
        unfold anF at c'
        rw [decide_eq_true_eq] at c'
        rw [c', if_pos rfl, if_pos rfl]
        unfold f_X8_first_135
        rcases e3 with q0 | ⟨x, q1, q2⟩
        · subst q0
          rw [f_X8_first_62, if_neg (by decide)]
          obtain ⟨f, rfl⟩ : ∃ f', f = f' + 1 := ⟨f - 1, by omega⟩
          simp only [R.xck, M_eff R L _ _ _ W, Option.bind_some]
          rw [effB_0 E, if_pos rfl]
          unfold f_X8_first_90
          rw [if_pos rfl, f_X8_first_62, if_pos rfl]
          exact ⟨_, _, _, rfl⟩
        · exact ih e _ _ _ _ (by omega) (by have := mu_lt q1 q2 e2; omega)
      · rw [if_neg c]
        have c' : ¬ ans L n np p q g a (nI e) (nI t) = ans L n np p q g a (nI t) (nI t) := by
          intro z
          exact c (by unfold anF; exact decide_eq_true z)
        by_cases c1 : (ans L n np p q g a (nI e) (nI t)).1 = (ans L n np p q g a (nI t) (nI t)).1
        · by_cases c2 : (ans L n np p q g a (nI e) (nI t)).2 = (ans L n np p q g a (nI t) (nI t)).2
          · exact absurd (Prod.ext c1 c2) c'
          · rw [if_pos c1, if_neg c2]
            unfold f_X8_first_134 f_X8_first_135
            rw [f_X8_first_62, if_pos rfl]
            exact ⟨_, _, _, rfl⟩
        · rw [if_neg c1]
          unfold f_X8_first_134 f_X8_first_135
          rw [f_X8_first_62, if_pos rfl]
          exact ⟨_, _, _, rfl⟩
theorem M_first {am : Nat} {h : AH} (R : MOK am h) (L : LM) (an wd : Int32) (w : Nat → Bool) {n np ng : Nat} (W : MW L n np ng) (E : EF L n) (p q g a : Int32) {t : Nat} (ht : t ≤ 73000) (hT : L.1 0 0 = nI t) (Fl : flat L n (anF L n np p q g a t)) : ∃ an' wd' w', f_X8_first am p q g a (pM am (SC L an wd w) h) = some (if asB L p q g a = true then nI (dnT (anF L n np p q g a t) t) else -1, pM am (SC L an' wd' w') h) := by
  unfold f_X8_first
  simp only [R.xck, M_isAskedS R L an wd w W, Option.bind_some, b2i_z]
  cases c1 : asB L p q g a
  · exact ⟨an, wd, w, by simp⟩
  · have e1 : nI t + 1 = nI (t + 1) := by rw [nI_1]
    obtain ⟨e, e2, e3, e4, e5⟩ := effB_s E (show 0 < t + 1 by omega) (by omega)
    simp only [R.xck, R.xgI, SC_0, hT, Option.bind_some, M_fndI R L an wd w W (nI t) (nI t) (asB_ar c1), SR, SC_an, SC_wd, fndI_1, fndI_2, M_eff R L _ _ _ W, e1, e2]
    have e6 : dnT (anF L n np p q g a t) t = dnT (anF L n np p q g a t) e := by
      have hc : ∀ x, e ≤ x → x ≤ t → anF L n np p q g a t x = anF L n np p q g a t e := fun x h1 h2 => Fl e x h1 (by omega) (fun y hy => by
        have := e5 y hy
        omega)
      have ht' : anF L n np p q g a t t = true := by unfold anF; exact decide_eq_true rfl
      obtain ⟨m, rfl⟩ : ∃ m, t = e + m := ⟨t - e, by omega⟩
      exact dnT_run _ m e (fun x h1 h2 => by rw [hc x h1 (by omega), ← hc (e + m) (by omega) (by omega)]; exact ht')
    rw [if_neg (by simp)]
    obtain ⟨an', wd', w', q'⟩ := M_first_62 R L W E (asB_ar c1) ht hT Fl FU e (nI e) (ans L n np p q g a (nI t) (nI t)).1 (ans L n np p q g a (nI t) (nI t)).2 (fndI L n np p q g a (nI t) (nI t) w).2.2 (by omega) (by have := cntF_le (fun x => decide (efn L x < e)) n 0; have := W.2.1; unfold mu FU; omega)
    refine ⟨an', wd', w', ?_⟩
    rw [q', if_pos trivial, e6]
def sinF (L : LM) (n np : Nat) (g : Nat) (t d : Nat) : Bool := decide (L.1 2 g ≤ nI (many L n np (nI g) (nI d) (nI t)))
theorem not_lt_le {a b : Int32} : ¬ a < b ↔ b ≤ a := by
  rw [Int32.lt_iff_toInt_lt, Int32.le_iff_toInt_le]
  omega
theorem M_since_48 {am : Nat} {h : AH} (R : MOK am h) (L : LM) {n np ng : Nat} (W : MW L n np ng) (E : EF L n) {g : Nat} (hg : g < 10) {t : Nat} (ht : t ≤ 73000) (hT : L.1 0 0 = nI t) (Fl : flat L n (sinF L n np g t)) : ∀ f d b, d ≤ t → mu L n d + 3 ≤ f → f_X8_since_48 f am (nI g) (nI d) b 1 (pM am L h) = some (nI (dnT (sinF L n np g t) d)) := by
  intro f
  induction f with
  | zero => intro d b h1 h2; omega
  | succ f ih =>
    intro d b h1 h2
    obtain ⟨f, rfl⟩ : ∃ f', f = f' + 1 := ⟨f - 1, by omega⟩
    rw [f_X8_since_48, if_neg (by decide)]
    simp only [R.xck, M_effectBelow R L W.1 W.2.1, Option.bind_some]
    rcases Nat.eq_zero_or_pos d with h0 | h0
    · subst h0
      rw [effB_0 E, if_pos rfl]
      unfold f_X8_since_89 f_X8_since_90
      rw [f_X8_since_48, if_pos rfl]
      rfl
    · obtain ⟨e, e1, e2, e3, e4⟩ := effB_s E h0 (show d ≤ 80000 by omega)
      rw [e1, if_neg (nI_m1 (by omega))]
      simp only [R.xck, R.xgI, hT, Option.bind_some, M_many R L W.1 W.2.1 W.2.2.2.2.1 W.2.2.2.2.2.1, mR4 R, mL2 R L g hg]
      rw [dnT_eff Fl (show d ≤ 73001 by omega) e2 e4]
      by_cases c : sinF L n np g t e = true
      · rw [if_pos c]
        have c' := c
        unfold sinF at c'
        rw [decide_eq_true_eq, ← not_lt_le] at c'
        rw [if_neg c']
        unfold f_X8_since_90
        rcases e3 with q0 | ⟨x, q1, q2⟩
        · subst q0
          rw [f_X8_since_48, if_neg (by decide)]
          obtain ⟨f, rfl⟩ : ∃ f', f = f' + 1 := ⟨f - 1, by omega⟩
          simp only [R.xck, M_effectBelow R L W.1 W.2.1, Option.bind_some]
          rw [effB_0 E, if_pos rfl]
          unfold f_X8_since_89 f_X8_since_90
          rw [f_X8_since_48, if_pos rfl]
          rfl
        · exact ih e _ (by omega) (by have := mu_lt q1 q2 e2; omega)
      · rw [if_neg c]
        have c' : nI (many L n np (nI g) (nI e) (nI t)) < L.1 2 g := by
          rcases Classical.em (nI (many L n np (nI g) (nI e) (nI t)) < L.1 2 g) with z | z
          · exact z
          · exact absurd (by unfold sinF; exact decide_eq_true (not_lt_le.mp z)) c
        rw [if_pos c']
        unfold f_X8_since_89 f_X8_since_90
        rw [f_X8_since_48, if_pos rfl]
theorem M_since {am : Nat} {h : AH} (R : MOK am h) (L : LM) {n np ng : Nat} (W : MW L n np ng) (E : EF L n) (g : Int32) {t : Nat} (ht : t ≤ 73000) (hT : L.1 0 0 = nI t) (Fl : ∀ g', flat L n (sinF L n np g' t)) : f_X8_since am g (pM am L h) = some (if inR g (L.1 0 2) = true then (if sinF L n np g.toNatClampNeg t t = true then nI (dnT (sinF L n np g.toNatClampNeg t) t) else -1) else -1) := by
  unfold f_X8_since
  simp only [R.xck, M_isAgreement R L, Option.bind_some, b2i_z]
  cases c1 : inR g (L.1 0 2)
  · simp
  · rw [W.2.2.2.2.2.2.1] at c1
    obtain ⟨g', hg, rfl⟩ := inR_of (by have := W.2.2.2.2.2.2.2.1; omega) c1
    have hg' : g' < 10 := by have := W.2.2.2.2.2.2.2.1; omega
    have e1 : nI t + 1 = nI (t + 1) := by rw [nI_1]
    obtain ⟨e, e2, e3, e4, e5⟩ := effB_s E (show 0 < t + 1 by omega) (by omega)
    rw [if_neg (by simp), nIt (by omega), if_pos rfl]
    simp only [R.xck, R.xgI, hT, Option.bind_some, M_many R L W.1 W.2.1 W.2.2.2.2.1 W.2.2.2.2.2.1, mR4 R, mL2 R L g' hg', M_effectBelow R L W.1 W.2.1, e1, e2]
    by_cases c : sinF L n np g' t t = true
    · have c' := c
      unfold sinF at c'
      rw [decide_eq_true_eq] at c'
      rw [if_pos c', if_pos c]
      have e6 : dnT (sinF L n np g' t) t = dnT (sinF L n np g' t) e := by
        have hc : ∀ x, e ≤ x → x ≤ t → sinF L n np g' t x = sinF L n np g' t e := fun x h1 h2 => Fl g' e x h1 (by omega) (fun y hy => by
          have := e5 y hy
          omega)
        obtain ⟨m, rfl⟩ : ∃ m, t = e + m := ⟨t - e, by omega⟩
        exact dnT_run _ m e (fun x h1 h2 => by rw [hc x h1 (by omega), ← hc (e + m) (by omega) (by omega)]; exact c)
      rw [e6]
      exact M_since_48 R L W E hg' ht hT (Fl g') FU e (nI e) (by omega) (by have := cntF_le (fun x => decide (efn L x < e)) n 0; have := W.2.1; unfold mu FU; omega)
    · have c' := c
      unfold sinF at c'
      rw [decide_eq_true_eq] at c'
      rw [if_neg c', if_neg c]
