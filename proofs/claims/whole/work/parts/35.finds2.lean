/-! PURE 6: the reference's finds, whole; what is asked -/
theorem stgB_4 {L : LM} {n m m' : Nat} {d k : Int32} {x : Nat} (h : stg L n m m' d k = some x) : x < n ∧ L.1 6 x = 4 := by
  obtain ⟨-, h1, h2, -⟩ := fstF_some _ _ _ _ h
  simp only [stgB, Bool.and_eq_true, decide_eq_true_eq] at h2
  exact ⟨by omega, h2.1.1.1⟩
theorem M_f160 {am : Nat} {h : AH} (R : MOK am h) (L : LM) (w : Nat → Bool) {n : Nat} (hp : L.1 0 8 = nI n) (hn : n ≤ 400) (N : NM L n) (O : OFv L n) {np : Nat} (hq : L.1 0 1 = nI np) (hnp : np ≤ 30) {m m' g' a' : Nat} (hm : m < n) (hm' : m' < n) (hg : g' < 10) (ha : a' < 20) (d k : Int32) (o : Option Nat) (ho : ∀ x, o = some x → x < n ∧ L.1 6 x = 4) : f_X8_finds_160 am (nI g') (nI a') d k (nI m) (nI m') (oi o) (pM am (SC L 0 0 w) h) = some (pM am (SR L (fnO L n np m m' g' a' d k w o)) h) := by
  unfold f_X8_finds_160
  cases o with
  | none =>
    simp only [oi_n, if_true, mR4 R, fun L' => mL2 R L' g' hg, Option.bind_some, SCr L _ _ _ 2 (by decide) (by decide)]
    have q := M_f201 R L hp hn N O hq hnp hm hm' hg ha d k np 0 FU (L.1 2 g') w (by omega) (by unfold FU; omega)
    rw [nI_0] at q
    exact q
  | some x =>
    obtain ⟨hx, hk⟩ := ho x rfl
    have hx4 : x < 400 := by omega
    have h1 : ¬ nI x = -1 := nI_m1 (by omega)
    have e := NM_v N hn hx (by simp [hk])
    simp only [oi_s, h1, if_false, R.xck, M_bec R L _ _ _ hx4, mR14 R, fun L' => mL11 R L' x hx4, Option.bind_some, SCr L _ _ _ 11 (by decide) (by decide), M_beci R L _ _ _ e, M_leans R L _ _ hp hn N O]
    rfl
theorem clr_of {n : Nat} {w : Nat → Bool} (h : ∀ x, x < n → w x = false) : clr n w = w := by
  funext x
  unfold clr
  by_cases c : x < n
  · rw [if_pos c, h x c]
  · rw [if_neg c]
theorem fnd_clr {L : LM} {n np : Nat} {p q : Int32} {g' a' : Nat} {d k : Int32} {w w' : Nat → Bool} (h : clr n w = clr n w') : fnd L n np p q g' a' d k w = fnd L n np p q g' a' d k w' := by
  unfold fnd
  rw [h]
theorem min_i {x y : Nat} (hx : x < 2 ^ 31) (hy : y < 2 ^ 31) : (if nI y < nI x then nI y else nI x) = nI (min x y) := by
  by_cases c : y < x
  · rw [if_pos (nI_lt c hx), Nat.min_eq_right (by omega)]
  · rw [if_neg (nI_nlt (by omega) hy), Nat.min_eq_left (by omega)]
theorem M_f13 {am : Nat} {h : AH} (R : MOK am h) (L : LM) {n : Nat} (hp : L.1 0 8 = nI n) (hn : n ≤ 400) (N : NM L n) (O : OFv L n) {np : Nat} (hq : L.1 0 1 = nI np) (hnp : np ≤ 30) {g' a' : Nat} (hg : g' < 10) (ha : a' < 20) (p q d k : Int32) : ∀ mm j f w, j + mm = n → mm < f → (∀ x, x < j → w x = false) → f_X8_finds_13 f am p q (nI g') (nI a') d k (nI j) (pM am (SC L 0 0 w) h) = some (pM am (SR L (fnd L n np p q g' a' d k w)) h) := by
  intro mm
  induction mm with
  | zero =>
    intro j f w h1 h2 hw
    obtain ⟨f, rfl⟩ : ∃ f', f = f' + 1 := ⟨f - 1, by omega⟩
    rw [f_X8_finds_13]
    simp only [R.xgI, SC_8, hp, Option.bind_some]
    rw [if_pos (nI_le (by omega) (by omega))]
    simp only [R.xck, M_mof R L _ _ _ hp hn, Option.bind_some]
    unfold fnd
    rw [clr_of (fun x hx => hw x (by omega))]
    cases c1 : mof L n p (nI g') d k with
    | none => simp [oi]; rfl
    | some m =>
      have hm := mof_lt c1
      have e1 : ¬ nI m = -1 := nI_m1 (by omega)
      cases c2 : mof L n q (nI g') d k with
      | none => simp [oi, e1]; rfl
      | some m' =>
        have hm' := mof_lt c2
        have e2 : ¬ nI m' = -1 := nI_m1 (by omega)
        have eM := M_many R (SC L 0 0 w) (by rw [SC_8]; exact hp) hn (by rw [SC_1]; exact hq) hnp (nI g') d k
        rw [SC_many] at eM
        simp only [oi_s, e1, e2, if_false, eM, mR4 R, fun L' => mL2 R L' g' hg, Option.bind_some, SCr L _ _ _ 2 (by decide) (by decide)]
        by_cases c3 : L.1 2 g' ≤ nI (many L n np (nI g') d k)
        · simp only [c3, if_true, M_bec R L _ _ _ (show m < 400 by omega), M_bec R L _ _ _ (show m' < 400 by omega), Option.bind_some, R.xck]
          have s1 := M_strong R (SC L 0 0 (upw (upw w m) m')) (by rw [SC_8]; exact hp) hn (SC_NM L _ _ _ N) hm hm' d k
          have s2 := M_strong R (SC L 0 0 (upw (upw w m) m')) (by rw [SC_8]; exact hp) hn (SC_NM L _ _ _ N) hm' hm d k
          rw [SC_stg] at s1 s2
          simp only [s1, s2, Option.bind_some]
          have F := M_f160 R L (upw (upw w m) m') hp hn N O hq hnp hm hm' hg ha d k
          cases c4 : stg L n m m' d k with
          | none =>
            simp only [oi_n, if_true, mnO]
            exact F _ (fun x hx => stgB_4 hx)
          | some x =>
            have hx := stgB_4 c4
            have e4 : ¬ nI x = -1 := nI_m1 (by omega)
            cases c5 : stg L n m' m d k with
            | none =>
              simp only [oi_s, oi_n, e4, if_false, if_true, mnO]
              exact F (some x) (fun y hy => by cases hy; exact hx)
            | some y =>
              have hy := stgB_4 c5
              have e5 : ¬ nI y = -1 := nI_m1 (by omega)
              simp only [oi_s, e4, e5, if_false, mnO]
              by_cases c6 : y < x
              · have e6 := nI_lt c6 (show x < 2 ^ 31 by omega)
                simp only [e6, if_true]
                rw [Nat.min_eq_right (show y ≤ x by omega)]
                exact F (some y) (fun z hz => by cases hz; exact hy)
              · have e6 := nI_nlt (show x ≤ y by omega) (show y < 2 ^ 31 by omega)
                simp only [e6, if_false]
                rw [Nat.min_eq_left (show x ≤ y by omega)]
                exact F (some x) (fun z hz => by cases hz; exact hx)
        · simp only [c3, if_false]
          rfl
  | succ mm ih =>
    intro j f w h1 h2 hw
    obtain ⟨f, rfl⟩ : ∃ f', f = f' + 1 := ⟨f - 1, by omega⟩
    have hj : j < 400 := by omega
    rw [f_X8_finds_13]
    simp only [R.xgI, SC_8, hp, Option.bind_some]
    rw [if_neg (nI_ge (by omega) (by omega))]
    simp only [mR22 R, fun L' => mS17 R L' j 0 hj (Or.inl rfl), Option.bind_some, SC_170, nI_1]
    rw [ih (j + 1) f _ (by omega) (by omega) (fun x hx => ?_)]
    · rw [fnd_clr]
      funext x
      unfold clr
      by_cases c : x < n
      · rw [if_pos c, if_pos c]
      · rw [if_neg c, if_neg c]
        show (if x = j then false else w x) = w x
        rw [if_neg (by omega)]
    · by_cases c : x = j
      · simp [c]
      · simp only [c, if_false]
        exact hw x (by omega)
theorem M_finds {am : Nat} {h : AH} (R : MOK am h) (L : LM) (an wd : Int32) (w : Nat → Bool) {n : Nat} (hp : L.1 0 8 = nI n) (hn : n ≤ 400) (N : NM L n) (O : OFv L n) {np : Nat} (hq : L.1 0 1 = nI np) (hnp : np ≤ 30) {g' a' : Nat} (hg : g' < 10) (ha : a' < 20) (p q d k : Int32) : f_X8_finds am p q (nI g') (nI a') d k (pM am (SC L an wd w) h) = some (pM am (SR L (fnd L n np p q g' a' d k w)) h) := by
  unfold f_X8_finds
  simp only [R.xpI, SC_20, SC_21, Option.bind_some]
  have e := M_f13 R L hp hn N O hq hnp hg ha p q d k n 0 FU w (by omega) (by unfold FU; omega) (fun x hx => by omega)
  rw [nI_0] at e
  exact e
/-! what a call may be told -/
def inR (x : Int32) (n : Int32) : Bool := decide (¬ x < 0) && decide (¬ n ≤ x)
def dyB (d : Int32) : Bool := decide (¬ d < 0) && decide (¬ 73000 < d)
theorem inR_of {x : Int32} {n : Nat} (hn : n < 2 ^ 31) (h : inR x (nI n) = true) : ∃ j, j < n ∧ x = nI j := by
  simp only [inR, Bool.and_eq_true, decide_eq_true_eq] at h
  obtain ⟨j, hj, rfl⟩ := nI_of h.1
  refine ⟨j, ?_, rfl⟩
  rcases Nat.lt_or_ge j n with q | q
  · exact q
  · exact absurd (nI_le q hj) h.2
theorem inR_nI {j n : Nat} (hj : j < 2 ^ 31) (hn : n < 2 ^ 31) : inR (nI j) (nI n) = decide (j < n) := by
  unfold inR
  rw [decide_eq_true (nI_pos hj), Bool.true_and]
  by_cases c : j < n
  · rw [decide_eq_true c, decide_eq_true (nI_ge c hn)]
  · rw [decide_eq_false c, decide_eq_false (fun q => q (nI_le (by omega) hj))]
theorem M_isDay (d : Int32) (h : AH) : f_X8_isDay d h = some (dyB d) := by
  unfold f_X8_isDay dyB
  by_cases c1 : d < 0
  · simp [c1]
  · by_cases c2 : 73000 < d <;> simp [c1, c2]
theorem M_isParty {am : Nat} {h : AH} (R : MOK am h) (L : LM) (p : Int32) : f_X8_isParty am p (pM am L h) = some (inR p (L.1 0 1)) := by
  unfold f_X8_isParty inR
  simp only [R.xgI, Option.bind_some]
  by_cases c1 : p < 0
  · simp [c1]
  · by_cases c2 : L.1 0 1 ≤ p <;> simp [c1, c2]
theorem M_isAgreement {am : Nat} {h : AH} (R : MOK am h) (L : LM) (p : Int32) : f_X8_isAgreement am p (pM am L h) = some (inR p (L.1 0 2)) := by
  unfold f_X8_isAgreement inR
  simp only [R.xgI, Option.bind_some]
  by_cases c1 : p < 0
  · simp [c1]
  · by_cases c2 : L.1 0 2 ≤ p <;> simp [c1, c2]
theorem M_isPaper {am : Nat} {h : AH} (R : MOK am h) (L : LM) (p : Int32) : f_X8_isPaper am p (pM am L h) = some (inR p (L.1 0 8)) := by
  unfold f_X8_isPaper inR
  simp only [R.xgI, Option.bind_some]
  by_cases c1 : p < 0
  · simp [c1]
  · by_cases c2 : L.1 0 8 ≤ p <;> simp [c1, c2]
def arB (L : LM) (g a : Int32) : Bool := inR g (L.1 0 2) && inR a (L.1 1 g.toNatClampNeg)
theorem M_isArticle {am : Nat} {h : AH} (R : MOK am h) (L : LM) {ng : Nat} (hg : L.1 0 2 = nI ng) (hng : ng ≤ 10) (g a : Int32) : f_X8_isArticle am g a (pM am L h) = some (arB L g a) := by
  unfold f_X8_isArticle arB
  simp only [R.xck, M_isAgreement R L, Option.bind_some, b2i_z]
  cases c : inR g (L.1 0 2)
  · simp
  · rw [hg] at c
    obtain ⟨j, hj, rfl⟩ := inR_of (by omega) c
    simp only [mR3 R, mL1 R L j (by omega), Option.bind_some, nIt (show j < 1000 by omega), inR]
    by_cases c1 : a < 0
    · simp [c1]
    · by_cases c2 : L.1 1 j ≤ a <;> simp [c1, c2]
def asB (L : LM) (p q g a : Int32) : Bool := inR p (L.1 0 1) && inR q (L.1 0 1) && decide (¬ p = q) && arB L g a
theorem M_isAsked {am : Nat} {h : AH} (R : MOK am h) (L : LM) {ng : Nat} (hg : L.1 0 2 = nI ng) (hng : ng ≤ 10) (p q g a : Int32) : f_X8_isAsked am p q g a (pM am L h) = some (asB L p q g a) := by
  unfold f_X8_isAsked asB
  simp only [R.xck, M_isParty R L, M_isArticle R L hg hng, Option.bind_some, b2i_z]
  cases c1 : inR p (L.1 0 1)
  · simp
  · cases c2 : inR q (L.1 0 1)
    · simp
    · by_cases c3 : p = q
      · simp [c3]
      · cases c4 : arB L g a <;> simp [c3]
