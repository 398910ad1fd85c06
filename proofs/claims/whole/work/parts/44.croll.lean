/-! PURE 15: the program's rolls -/
theorem fstF_snoc (p : Nat → Bool) (j : Nat) : fstF p 0 (j + 1) = match fstF p 0 j with
    | some x => some x
    | none => if p j = true then some j else none := by
  cases c : fstF p 0 j with
  | some x =>
    obtain ⟨h1, h2, h3, h4⟩ := fstF_some _ _ _ _ c
    rw [fstF_eq p h1 (show x < 0 + (j + 1) by omega) h3 h4]
  | none =>
    have g := (fstF_none _ _ _).mp c
    by_cases q : p j = true
    · rw [fstF_eq p (show 0 ≤ j by omega) (show j < 0 + (j + 1) by omega) q (fun y y1 y2 => g y y1 (by omega))]
      simp [q]
    · have : fstF p 0 (j + 1) = none := by
        rw [fstF_none]
        intro y y1 y2
        by_cases e : y = j
        · rw [e]; simpa using q
        · exact g y y1 (by omega)
      rw [this]
      simp [q]
theorem cntF_one {p q : Nat → Bool} {x : Nat} : ∀ m j, j ≤ x → x < j + m → p x = false → q x = true → (∀ y, y ≠ x → q y = p y) → cntF q j m = cntF p j m + 1 := by
  intro m
  induction m with
  | zero => intro j h1 h2; omega
  | succ m ih =>
    intro j h1 h2 h3 h4 h5
    unfold cntF
    by_cases e : j = x
    · subst e
      rw [h3, h4, cntF_congr m (j + 1) (fun y y1 y2 => h5 y (by omega))]
      simp
      omega
    · rw [ih (j + 1) (by omega) (by omega) h3 h4 h5, h5 j e]
      omega
theorem cntF_0 (p : Nat → Bool) : ∀ i j, (∀ y, j ≤ y → y < j + i → p y = false) → cntF p j i = 0 := by
  intro i
  induction i with
  | zero => intro j _; rfl
  | succ i ih =>
    intro j h
    unfold cntF
    rw [ih (j + 1) (fun y h1 h2 => h y (by omega) (by omega)), h j (by omega) (by omega)]
    rfl
theorem cntF_more (p : Nat → Bool) : ∀ m j i, (∀ y, j + m ≤ y → y < j + (m + i) → p y = false) → cntF p j (m + i) = cntF p j m := by
  intro m
  induction m with
  | zero =>
    intro j i h
    rw [Nat.zero_add, cntF_0 p i j (fun y h1 h2 => h y (by omega) (by omega))]
    rfl
  | succ m ih =>
    intro j i h
    have e : m + 1 + i = (m + i) + 1 := by omega
    rw [e]
    unfold cntF
    rw [ih (j + 1) i (fun y h1 h2 => h y (by omega) (by omega))]
/-- the room for one answer apart, the program's memory is what it was -/
theorem COK_pS {c : Nat} {L : LM} {n np ng : Nat} {A : Nat → Nat → Nat} {h : AH} (C : COK c L n np ng A h) (T : TM) : COK c L n np ng A (pS c T h) := by
  obtain ⟨B, ⟨s1, s2, s3, s4⟩, P, G, D⟩ := C
  have hi : ∀ i x k, vld L n ng i x → hI (pS c T h) (A i x) k = hI h (A i x) k := fun i x k v => hI_pSo c T h (Or.inr (by have := (D.1 i x v).1; omega)) k
  have hr : ∀ i x k, vld L n ng i x → hR (pS c T h) (A i x) k = hR h (A i x) k := fun i x k v => hR_pSo c T h (Or.inr (by have := (D.1 i x v).1; omega)) k
  refine ⟨BOK_pS B, ⟨?_, ?_, ?_, ?_⟩, fun x hx => ?_, fun g hg => ?_, D⟩
  · rw [hI_pSo c T h (by omega)]; exact s1
  · rw [hI_pSo c T h (by omega)]; exact s2
  · rw [hI_pSo c T h (by omega)]; exact s3
  · rw [hI_pSo c T h (by omega)]; exact s4
  · obtain ⟨p1, p2⟩ := P x hx
    refine ⟨by rw [hR_pSo c T h (by omega)]; exact p1, ?_⟩
    have v : vld L n ng 0 x := Or.inl ⟨rfl, hx⟩
    unfold POK at p2 ⊢
    simp only [hk_pS, hJ_pS, hi 0 x _ v, hr 0 x _ v]
    exact p2
  · obtain ⟨g1, g2⟩ := G g hg
    refine ⟨by rw [hR_pSo c T h (by omega)]; exact g1, ?_⟩
    have v1 : vld L n ng 1 g := Or.inr (Or.inl ⟨Or.inl rfl, hg⟩)
    have v2 : vld L n ng 2 g := Or.inr (Or.inl ⟨Or.inr (Or.inl rfl), hg⟩)
    have v3 : vld L n ng 3 g := Or.inr (Or.inl ⟨Or.inr (Or.inr rfl), hg⟩)
    unfold GOK at g2 ⊢
    simp only [hk_pS, hi 1 g _ v1, hr 1 g _ v1, hi 2 g _ v2, hr 3 g _ v3]
    obtain ⟨e1, e2, e3, e4, e5, m, e6, e7, e8⟩ := g2
    refine ⟨e1, e2, e3, e4, e5, m, e6, e7, fun x hx => ?_⟩
    obtain ⟨f1, f2⟩ := e8 x hx
    have hm : (L.1 18 g).toNatClampNeg = m := by rw [e7]; exact nI_clamp (by omega)
    have v4 : vld L n ng 4 (8 * g + x) := Or.inr (Or.inr (Or.inl ⟨rfl, g, x, hg, rfl, by omega⟩))
    refine ⟨f1, ?_⟩
    unfold XOK at f2 ⊢
    simp only [hk_pS, hJ_pS, hi 4 _ _ v4, hr 4 _ _ v4]
    exact f2
def RT (p : Nat) (T : TM) (m : Nat → Option Nat) (l : Int32) : TM := (u2 T.1 p 1 l, fun q => if q = p + 1 then m else T.2 q)
theorem RT_l (p : Nat) (T : TM) (m : Nat → Option Nat) (l v : Int32) : TI (RT p T m l) p 1 v = RT p T m v := by
  refine Prod.ext ?_ rfl
  funext q k
  simp only [TI1, RT, u2]
  by_cases c : q = p ∧ k = 1 <;> simp [c]
theorem RT_m (p : Nat) (T : TM) (m : Nat → Option Nat) (l : Int32) (j : Nat) (v : Option Nat) : TR (RT p T m l) (p + 1) j v = RT p T (fun k => if k = j then v else m k) l := by
  refine Prod.ext rfl ?_
  funext q k
  simp only [TR2, RT]
  by_cases c : q = p + 1
  · by_cases c2 : k = j <;> simp [c, c2]
  · simp [c]
theorem RT_0 (p : Nat) (T : TM) (v : Int32) : TI T p 1 v = RT p T (T.2 (p + 1)) v := by
  refine Prod.ext rfl ?_
  funext q k
  simp only [TI2, RT]
  by_cases c : q = p + 1 <;> simp [c]
theorem RT1 (p : Nat) (T : TM) (m : Nat → Option Nat) (l : Int32) : (RT p T m l).1 p 1 = l := by simp [RT, u2]
theorem RT2 (p : Nat) (T : TM) (m : Nat → Option Nat) (l : Int32) : (RT p T m l).2 (p + 1) = m := by simp [RT]
theorem RT1o (p : Nat) (T : TM) (m : Nat → Option Nat) (l : Int32) {q : Nat} (hq : q ≠ p) : (RT p T m l).1 q = T.1 q := by
  funext k
  simp [RT, u2, hq]
theorem RT2o (p : Nat) (T : TM) (m : Nat → Option Nat) (l : Int32) {q : Nat} (hq : q ≠ p + 1) : (RT p T m l).2 q = T.2 q := by simp [RT, hq]
def mP (L : LM) (n : Nat) (g d k : Int32) (q : Nat) (x : Nat) : Bool := isM L x && decide (L.1 7 x = nI q) && decide (L.1 8 x = g) && stB L n x d k
section CL
variable {c : Nat} {L : LM} {n np ng : Nat} {A : Nat → Nat → Nat} {h : AH}
theorem many_30 (F : WF L n np ng) (hnp : np ≤ 30) (g d k : Int32) : cntF (fun q => (fstF (mP L n g d k q) 0 n).isSome) 0 30 = many L n np g d k := by
  obtain ⟨i, hi⟩ : ∃ i, 30 = np + i := ⟨30 - np, by omega⟩
  rw [hi]
  refine cntF_more _ np 0 i (fun q hq hq2 => ?_)
  have : fstF (mP L n g d k q) 0 n = none := by
    rw [fstF_none]
    intro x h1 h2
    unfold mP
    cases c1 : isM L x
    · simp
    · obtain ⟨⟨-, -, h3⟩, -⟩ := F x (by omega)
      obtain ⟨⟨p, p1, p2⟩, -⟩ := h3 (by intro e; simp [isM, e] at c1)
      by_cases e : L.1 7 x = nI q
      · have := nI_inj (by omega) (by omega) (p2.symm.trans e)
        omega
      · simp [e]
  simp [this]
end CL
section CM4
variable {c : Nat} {L : LM} {n np ng : Nat} {A : Nat → Nat → Nat} {h : AH}
theorem c_fill35_4 (C : COK c L n np ng A h) (F : WF L n np ng) (hn : n ≤ 400) (hnp : np ≤ 30) (hng : ng ≤ 10) (T : TM) {g : Nat} (hg : g < ng) (d k : Int32) : ∀ mm j f m l, j + mm = n → mm < f → (∀ q, q < 30 → m q = (fstF (mP L n (nI g) d k q) 0 j).map (A 0)) → l = nI (cntF (fun q => (fstF (mP L n (nI g) d k q) 0 j).isSome) 0 30) → ∃ m', (∀ q, q < 30 → m' q = (fstF (mP L n (nI g) d k q) 0 n).map (A 0)) ∧ f_X5_fill_35 f (c + 4) (some (c + 2)) (some (A 1 g)) d k (nI j) (pS c (RT 4 T m l) h) = some (pS c (RT 4 T m' (nI (cntF (fun q => (fstF (mP L n (nI g) d k q) 0 n).isSome) 0 30))) h) := by
  intro mm
  induction mm with
  | zero =>
    intro j f m l h1 h2 h3 h4
    obtain ⟨f, rfl⟩ : ∃ f', f = f' + 1 := ⟨f - 1, by omega⟩
    obtain rfl : j = n := by omega
    have C' := COK_pS C (RT 4 T m l)
    refine ⟨m, h3, ?_⟩
    rw [f_X5_fill_35]
    simp only [cR1 C', Option.bind_some]
    rw [if_pos (nI_le (by omega) (by omega)), h4]
  | succ mm ih =>
    intro j f m l h1 h2 h3 h4
    obtain ⟨f, rfl⟩ : ∃ f', f = f' + 1 := ⟨f - 1, by omega⟩
    have hj : j < n := by omega
    have C' := COK_pS C (RT 4 T m l)
    rw [f_X5_fill_35]
    simp only [cR1 C', Option.bind_some]
    rw [if_neg (nI_ge (by omega) (by omega))]
    simp only [cck4 C', c_at C' hn hj, cckP C' hj, cP3 C' hj, c_isM C' hj, c_st C' F hj, orag_eq C' hng F hj hg, Option.bind_some, b2i_z, nI_1]
    rw [if_neg (by simp)]
    have skip : (∀ q, q < 30 → mP L n (nI g) d k q j = false) → ∃ m', (∀ q, q < 30 → m' q = (fstF (mP L n (nI g) d k q) 0 n).map (A 0)) ∧ f_X5_fill_35 f (c + 4) (some (c + 2)) (some (A 1 g)) d k (nI (j + 1)) (pS c (RT 4 T m l) h) = some (pS c (RT 4 T m' (nI (cntF (fun q => (fstF (mP L n (nI g) d k q) 0 n).isSome) 0 30))) h) := by
      intro hs
      have e : ∀ q, q < 30 → fstF (mP L n (nI g) d k q) 0 (j + 1) = fstF (mP L n (nI g) d k q) 0 j := by
        intro q hq
        rw [fstF_snoc, hs q hq]
        cases fstF (mP L n (nI g) d k q) 0 j <;> simp
      refine ih (j + 1) f m l (by omega) (by omega) (fun q hq => by rw [e q hq, h3 q hq]) ?_
      rw [h4]
      exact congrArg nI (cntF_congr 30 0 (fun q _ hq => by rw [e q (by omega)]))
    by_cases c1 : L.1 8 j = nI g
    · rw [if_pos c1]
      by_cases c2 : isM L j = false
      · rw [if_pos c2]
        exact skip (fun q _ => by simp [mP, c2])
      · rw [if_neg c2]
        have c2' : isM L j = true := by simpa using c2
        by_cases c3 : stB L n j d k = false
        · rw [if_pos c3]
          exact skip (fun q _ => by simp [mP, c3])
        · rw [if_neg c3]
          have c3' : stB L n j d k = true := by simpa using c3
          obtain ⟨⟨-, -, b3⟩, -⟩ := F j hj
          obtain ⟨⟨p, p1, p2⟩, -⟩ := b3 (by intro e; simp [isM, e] at c2')
          have hp : p < 30 := by omega
          have enter : f_X5_enter (c + 4) (some (A 0 j)) (pS c (RT 4 T m l) h) = some (pS c (RT 4 T (fun q => if q = p then some (A 0 j) else m q) (l + 1)) h) := by
            unfold f_X5_enter
            simp only [cP2 C' hj, p2, Option.bind_some]
            rw [if_neg (nI_pos (by omega))]
            simp only [sgR4 C.1, sfx, fx, sal5 C.1, Option.bind_some]
            rw [if_neg (nI_ge hp (by omega))]
            simp only [sgR4 C.1, sfx, fx, ssts5 C.1 _ hp (C.kp hj), sgI4 C.1, spI4 C.1, RT_m, RT_l, RT1, Option.bind_some]
          simp only [sck4 C.1, enter, Option.bind_some]
          have hP : mP L n (nI g) d k p j = true := by simp [mP, c2', c3', c1, p2]
          have hN : fstF (mP L n (nI g) d k p) 0 j = none := by
            rw [fstF_none]
            intro x x1 x2
            cases cc : mP L n (nI g) d k p x with
            | false => rfl
            | true =>
              simp only [mP, Bool.and_eq_true, decide_eq_true_eq] at cc
              have := st_uniq F hn (show x < n by omega) hj cc.1.1.1 c2' (cc.1.1.2.trans p2.symm) (cc.1.2.trans c1.symm) cc.2 c3'
              omega
          have e : ∀ q, q ≠ p → q < 30 → fstF (mP L n (nI g) d k q) 0 (j + 1) = fstF (mP L n (nI g) d k q) 0 j := by
            intro q hq hq2
            have : mP L n (nI g) d k q j = false := by
              have : ¬ nI p = nI q := fun z => hq (nI_inj (by omega) (by omega) z).symm
              simp [mP, p2, this]
            rw [fstF_snoc, this]
            cases fstF (mP L n (nI g) d k q) 0 j <;> simp
          have e2 : fstF (mP L n (nI g) d k p) 0 (j + 1) = some j := by
            rw [fstF_snoc, hN, hP]
            simp
          refine ih (j + 1) f _ _ (by omega) (by omega) (fun q hq => ?_) ?_
          · by_cases z : q = p
            · subst z
              rw [if_pos rfl, e2]
              rfl
            · rw [if_neg z, e q z hq, h3 q hq]
          · rw [h4, nI_1]
            refine congrArg nI ?_
            have : ∀ z : Nat, cntF (fun q => (fstF (mP L n (nI g) d k q) 0 (j + 1)).isSome) 0 30 = cntF (fun q => if q < 30 then (fstF (mP L n (nI g) d k q) 0 (j + 1)).isSome else false) 0 30 := fun _ => cntF_congr 30 0 (fun q _ hq => by simp [show q < 30 by omega])
            rw [this 0]
            have t2 : cntF (fun q => (fstF (mP L n (nI g) d k q) 0 j).isSome) 0 30 = cntF (fun q => if q < 30 then (fstF (mP L n (nI g) d k q) 0 j).isSome else false) 0 30 := cntF_congr 30 0 (fun q _ hq => by simp [show q < 30 by omega])
            rw [t2]
            symm
            refine cntF_one (x := p) 30 0 (by omega) (by omega) (by simp [hp, hN]) (by simp [hp, e2]) (fun q hq => ?_)
            by_cases z : q < 30
            · simp [z, e q hq z]
            · simp [z]
    · rw [if_neg c1]
      exact skip (fun q _ => by simp [mP, c1])
theorem c_fill8_4 (C : COK c L n np ng A h) (F : WF L n np ng) (hn : n ≤ 400) (hnp : np ≤ 30) (hng : ng ≤ 10) (T : TM) {g : Nat} (hg : g < ng) (d k : Int32) : ∀ mm j f m, j + mm = 30 → mm < f → (∀ q, q < j → m q = none) → ∃ m', (∀ q, q < 30 → m' q = (mof L n (nI q) (nI g) d k).map (A 0)) ∧ f_X5_fill_8 f (c + 4) (some (c + 2)) (some (A 1 g)) d k (nI j) (pS c (RT 4 T m 0) h) = some (pS c (RT 4 T m' (nI (many L n np (nI g) d k))) h) := by
  intro mm
  induction mm with
  | zero =>
    intro j f m h1 h2 h3
    obtain ⟨f, rfl⟩ : ∃ f', f = f' + 1 := ⟨f - 1, by omega⟩
    rw [f_X5_fill_8]
    simp only [sgR4 C.1, sfx, fx, sal5 C.1, Option.bind_some]
    rw [if_pos (nI_le (by omega) (by omega))]
    obtain ⟨m', q1, q2⟩ := c_fill35_4 C F hn hnp hng T hg d k n 0 FU m 0 (by omega) (by unfold FU; omega) (fun q hq => by rw [h3 q (by omega)]; rfl) (by
      rw [cntF_0 (fun q => (fstF (mP L n (nI g) d k q) 0 0).isSome) 30 0 (fun y _ _ => rfl), nI_0])
    rw [nI_0] at q2
    rw [many_30 F hnp] at q2
    exact ⟨m', q1, q2⟩
  | succ mm ih =>
    intro j f m h1 h2 h3
    obtain ⟨f, rfl⟩ : ∃ f', f = f' + 1 := ⟨f - 1, by omega⟩
    rw [f_X5_fill_8]
    simp only [sgR4 C.1, sfx, fx, sal5 C.1, Option.bind_some]
    rw [if_neg (nI_ge (by omega) (by omega))]
    simp only [sgR4 C.1, sfx, fx, sstn5 C.1 _ (show j < 30 by omega), RT_m, Option.bind_some, nI_1]
    refine ih (j + 1) f _ (by omega) (by omega) (fun q hq => ?_)
    by_cases z : q = j
    · rw [if_pos z]
    · rw [if_neg z]; exact h3 q (by omega)
theorem c_fill_4 (C : COK c L n np ng A h) (F : WF L n np ng) (hn : n ≤ 400) (hnp : np ≤ 30) (hng : ng ≤ 10) (T : TM) {g : Nat} (hg : g < ng) (d k : Int32) : ∃ m', (∀ q, q < 30 → m' q = (mof L n (nI q) (nI g) d k).map (A 0)) ∧ f_X5_fill (c + 4) (some (c + 2)) (some (A 1 g)) d k (pS c T h) = some (pS c (RT 4 T m' (nI (many L n np (nI g) d k))) h) := by
  unfold f_X5_fill
  simp only [spI4 C.1, RT_0, Option.bind_some]
  have q := c_fill8_4 C F hn hnp hng T hg d k 30 0 FU (T.2 5) (by omega) (by unfold FU; omega) (fun q hq => by omega)
  rw [nI_0] at q
  exact q
theorem c_rat_4 (C : COK c L n np ng A h) (T : TM) (v : Int32) : f_X5_at (c + 4) v (pS c T h) = some (if inR v (nI 30) = true then T.2 5 v.toNatClampNeg else none) := by
  unfold f_X5_at
  by_cases c1 : v < 0
  · simp [c1, inR]
  · rw [if_neg c1]
    simp only [sgR4 C.1, sfx, fx, sal5 C.1, Option.bind_some]
    by_cases c2 : nI 30 ≤ v
    · simp [c2, inR]
    · rw [if_neg c2]
      obtain ⟨x, hx, rfl⟩ := inR_of (x := v) (n := 30) (by omega) (by simp [inR, c1, c2])
      simp only [sgR4 C.1, sfx, fx, slR5 C.1 T hx, Option.bind_some, inR_nI (show x < 2 ^ 31 by omega) (show 30 < 2 ^ 31 by omega), nIt (show x < 1000 by omega)]
      simp [hx]
end CM4
section CM7
variable {c : Nat} {L : LM} {n np ng : Nat} {A : Nat → Nat → Nat} {h : AH}
theorem c_fill35_7 (C : COK c L n np ng A h) (F : WF L n np ng) (hn : n ≤ 400) (hnp : np ≤ 30) (hng : ng ≤ 10) (T : TM) {g : Nat} (hg : g < ng) (d k : Int32) : ∀ mm j f m l, j + mm = n → mm < f → (∀ q, q < 30 → m q = (fstF (mP L n (nI g) d k q) 0 j).map (A 0)) → l = nI (cntF (fun q => (fstF (mP L n (nI g) d k q) 0 j).isSome) 0 30) → ∃ m', (∀ q, q < 30 → m' q = (fstF (mP L n (nI g) d k q) 0 n).map (A 0)) ∧ f_X5_fill_35 f (c + 7) (some (c + 2)) (some (A 1 g)) d k (nI j) (pS c (RT 7 T m l) h) = some (pS c (RT 7 T m' (nI (cntF (fun q => (fstF (mP L n (nI g) d k q) 0 n).isSome) 0 30))) h) := by
  intro mm
  induction mm with
  | zero =>
    intro j f m l h1 h2 h3 h4
    obtain ⟨f, rfl⟩ : ∃ f', f = f' + 1 := ⟨f - 1, by omega⟩
    obtain rfl : j = n := by omega
    have C' := COK_pS C (RT 7 T m l)
    refine ⟨m, h3, ?_⟩
    rw [f_X5_fill_35]
    simp only [cR1 C', Option.bind_some]
    rw [if_pos (nI_le (by omega) (by omega)), h4]
  | succ mm ih =>
    intro j f m l h1 h2 h3 h4
    obtain ⟨f, rfl⟩ : ∃ f', f = f' + 1 := ⟨f - 1, by omega⟩
    have hj : j < n := by omega
    have C' := COK_pS C (RT 7 T m l)
    rw [f_X5_fill_35]
    simp only [cR1 C', Option.bind_some]
    rw [if_neg (nI_ge (by omega) (by omega))]
    simp only [cck4 C', c_at C' hn hj, cckP C' hj, cP3 C' hj, c_isM C' hj, c_st C' F hj, orag_eq C' hng F hj hg, Option.bind_some, b2i_z, nI_1]
    rw [if_neg (by simp)]
    have skip : (∀ q, q < 30 → mP L n (nI g) d k q j = false) → ∃ m', (∀ q, q < 30 → m' q = (fstF (mP L n (nI g) d k q) 0 n).map (A 0)) ∧ f_X5_fill_35 f (c + 7) (some (c + 2)) (some (A 1 g)) d k (nI (j + 1)) (pS c (RT 7 T m l) h) = some (pS c (RT 7 T m' (nI (cntF (fun q => (fstF (mP L n (nI g) d k q) 0 n).isSome) 0 30))) h) := by
      intro hs
      have e : ∀ q, q < 30 → fstF (mP L n (nI g) d k q) 0 (j + 1) = fstF (mP L n (nI g) d k q) 0 j := by
        intro q hq
        rw [fstF_snoc, hs q hq]
        cases fstF (mP L n (nI g) d k q) 0 j <;> simp
      refine ih (j + 1) f m l (by omega) (by omega) (fun q hq => by rw [e q hq, h3 q hq]) ?_
      rw [h4]
      exact congrArg nI (cntF_congr 30 0 (fun q _ hq => by rw [e q (by omega)]))
    by_cases c1 : L.1 8 j = nI g
    · rw [if_pos c1]
      by_cases c2 : isM L j = false
      · rw [if_pos c2]
        exact skip (fun q _ => by simp [mP, c2])
      · rw [if_neg c2]
        have c2' : isM L j = true := by simpa using c2
        by_cases c3 : stB L n j d k = false
        · rw [if_pos c3]
          exact skip (fun q _ => by simp [mP, c3])
        · rw [if_neg c3]
          have c3' : stB L n j d k = true := by simpa using c3
          obtain ⟨⟨-, -, b3⟩, -⟩ := F j hj
          obtain ⟨⟨p, p1, p2⟩, -⟩ := b3 (by intro e; simp [isM, e] at c2')
          have hp : p < 30 := by omega
          have enter : f_X5_enter (c + 7) (some (A 0 j)) (pS c (RT 7 T m l) h) = some (pS c (RT 7 T (fun q => if q = p then some (A 0 j) else m q) (l + 1)) h) := by
            unfold f_X5_enter
            simp only [cP2 C' hj, p2, Option.bind_some]
            rw [if_neg (nI_pos (by omega))]
            simp only [sgR7 C.1, sfx, fx, sal8 C.1, Option.bind_some]
            rw [if_neg (nI_ge hp (by omega))]
            simp only [sgR7 C.1, sfx, fx, ssts8 C.1 _ hp (C.kp hj), sgI7 C.1, spI7 C.1, RT_m, RT_l, RT1, Option.bind_some]
          simp only [sck7 C.1, enter, Option.bind_some]
          have hP : mP L n (nI g) d k p j = true := by simp [mP, c2', c3', c1, p2]
          have hN : fstF (mP L n (nI g) d k p) 0 j = none := by
            rw [fstF_none]
            intro x x1 x2
            cases cc : mP L n (nI g) d k p x with
            | false => rfl
            | true =>
              simp only [mP, Bool.and_eq_true, decide_eq_true_eq] at cc
              have := st_uniq F hn (show x < n by omega) hj cc.1.1.1 c2' (cc.1.1.2.trans p2.symm) (cc.1.2.trans c1.symm) cc.2 c3'
              omega
          have e : ∀ q, q ≠ p → q < 30 → fstF (mP L n (nI g) d k q) 0 (j + 1) = fstF (mP L n (nI g) d k q) 0 j := by
            intro q hq hq2
            have : mP L n (nI g) d k q j = false := by
              have : ¬ nI p = nI q := fun z => hq (nI_inj (by omega) (by omega) z).symm
              simp [mP, p2, this]
            rw [fstF_snoc, this]
            cases fstF (mP L n (nI g) d k q) 0 j <;> simp
          have e2 : fstF (mP L n (nI g) d k p) 0 (j + 1) = some j := by
            rw [fstF_snoc, hN, hP]
            simp
          refine ih (j + 1) f _ _ (by omega) (by omega) (fun q hq => ?_) ?_
          · by_cases z : q = p
            · subst z
              rw [if_pos rfl, e2]
              rfl
            · rw [if_neg z, e q z hq, h3 q hq]
          · rw [h4, nI_1]
            refine congrArg nI ?_
            have : ∀ z : Nat, cntF (fun q => (fstF (mP L n (nI g) d k q) 0 (j + 1)).isSome) 0 30 = cntF (fun q => if q < 30 then (fstF (mP L n (nI g) d k q) 0 (j + 1)).isSome else false) 0 30 := fun _ => cntF_congr 30 0 (fun q _ hq => by simp [show q < 30 by omega])
            rw [this 0]
            have t2 : cntF (fun q => (fstF (mP L n (nI g) d k q) 0 j).isSome) 0 30 = cntF (fun q => if q < 30 then (fstF (mP L n (nI g) d k q) 0 j).isSome else false) 0 30 := cntF_congr 30 0 (fun q _ hq => by simp [show q < 30 by omega])
            rw [t2]
            symm
            refine cntF_one (x := p) 30 0 (by omega) (by omega) (by simp [hp, hN]) (by simp [hp, e2]) (fun q hq => ?_)
            by_cases z : q < 30
            · simp [z, e q hq z]
            · simp [z]
    · rw [if_neg c1]
      exact skip (fun q _ => by simp [mP, c1])
theorem c_fill8_7 (C : COK c L n np ng A h) (F : WF L n np ng) (hn : n ≤ 400) (hnp : np ≤ 30) (hng : ng ≤ 10) (T : TM) {g : Nat} (hg : g < ng) (d k : Int32) : ∀ mm j f m, j + mm = 30 → mm < f → (∀ q, q < j → m q = none) → ∃ m', (∀ q, q < 30 → m' q = (mof L n (nI q) (nI g) d k).map (A 0)) ∧ f_X5_fill_8 f (c + 7) (some (c + 2)) (some (A 1 g)) d k (nI j) (pS c (RT 7 T m 0) h) = some (pS c (RT 7 T m' (nI (many L n np (nI g) d k))) h) := by
  intro mm
  induction mm with
  | zero =>
    intro j f m h1 h2 h3
    obtain ⟨f, rfl⟩ : ∃ f', f = f' + 1 := ⟨f - 1, by omega⟩
    rw [f_X5_fill_8]
    simp only [sgR7 C.1, sfx, fx, sal8 C.1, Option.bind_some]
    rw [if_pos (nI_le (by omega) (by omega))]
    obtain ⟨m', q1, q2⟩ := c_fill35_7 C F hn hnp hng T hg d k n 0 FU m 0 (by omega) (by unfold FU; omega) (fun q hq => by rw [h3 q (by omega)]; rfl) (by
      rw [cntF_0 (fun q => (fstF (mP L n (nI g) d k q) 0 0).isSome) 30 0 (fun y _ _ => rfl), nI_0])
    rw [nI_0] at q2
    rw [many_30 F hnp] at q2
    exact ⟨m', q1, q2⟩
  | succ mm ih =>
    intro j f m h1 h2 h3
    obtain ⟨f, rfl⟩ : ∃ f', f = f' + 1 := ⟨f - 1, by omega⟩
    rw [f_X5_fill_8]
    simp only [sgR7 C.1, sfx, fx, sal8 C.1, Option.bind_some]
    rw [if_neg (nI_ge (by omega) (by omega))]
    simp only [sgR7 C.1, sfx, fx, sstn8 C.1 _ (show j < 30 by omega), RT_m, Option.bind_some, nI_1]
    refine ih (j + 1) f _ (by omega) (by omega) (fun q hq => ?_)
    by_cases z : q = j
    · rw [if_pos z]
    · rw [if_neg z]; exact h3 q (by omega)
theorem c_fill_7 (C : COK c L n np ng A h) (F : WF L n np ng) (hn : n ≤ 400) (hnp : np ≤ 30) (hng : ng ≤ 10) (T : TM) {g : Nat} (hg : g < ng) (d k : Int32) : ∃ m', (∀ q, q < 30 → m' q = (mof L n (nI q) (nI g) d k).map (A 0)) ∧ f_X5_fill (c + 7) (some (c + 2)) (some (A 1 g)) d k (pS c T h) = some (pS c (RT 7 T m' (nI (many L n np (nI g) d k))) h) := by
  unfold f_X5_fill
  simp only [spI7 C.1, RT_0, Option.bind_some]
  have q := c_fill8_7 C F hn hnp hng T hg d k 30 0 FU (T.2 8) (by omega) (by unfold FU; omega) (fun q hq => by omega)
  rw [nI_0] at q
  exact q
theorem c_rat_7 (C : COK c L n np ng A h) (T : TM) (v : Int32) : f_X5_at (c + 7) v (pS c T h) = some (if inR v (nI 30) = true then T.2 8 v.toNatClampNeg else none) := by
  unfold f_X5_at
  by_cases c1 : v < 0
  · simp [c1, inR]
  · rw [if_neg c1]
    simp only [sgR7 C.1, sfx, fx, sal8 C.1, Option.bind_some]
    by_cases c2 : nI 30 ≤ v
    · simp [c2, inR]
    · rw [if_neg c2]
      obtain ⟨x, hx, rfl⟩ := inR_of (x := v) (n := 30) (by omega) (by simp [inR, c1, c2])
      simp only [sgR7 C.1, sfx, fx, slR8 C.1 T hx, Option.bind_some, inR_nI (show x < 2 ^ 31 by omega) (show 30 < 2 ^ 31 by omega), nIt (show x < 1000 by omega)]
      simp [hx]
end CM7
