/-! PURE 11: the reference's ANNEXES -/
theorem ix8 (g a : Nat) : (8 : Int32) * nI g + nI a = nI (8 * g + a) := by
  have : (8 : Int32) = nI 8 := rfl
  rw [this, pk_mul, nI_add]
theorem ix100 (g a : Nat) : (100 : Int32) * nI g + nI a = nI (100 * g + a) := by
  have : (100 : Int32) = nI 100 := rfl
  rw [this, pk_mul, nI_add]
/-- how many ANNEXES, and how long each is -/
def AX (L : LM) (ng : Nat) : Prop := ∀ g, g < ng → ∃ c, c ≤ 8 ∧ L.1 18 g = nI c ∧ ∀ x, x < c → L.1 20 (8 * g + x) = -1 ∨ ∃ s, s ≤ 100 ∧ L.1 20 (8 * g + x) = nI s
def anB (L : LM) (g x : Int32) : Bool := inR g (L.1 0 2) && inR x (L.1 18 g.toNatClampNeg)
theorem M_isAnnex {am : Nat} {h : AH} (R : MOK am h) (L : LM) {n np ng : Nat} (W : MW L n np ng) (g x : Int32) : f_X8_isAnnex am g x (pM am L h) = some (anB L g x) := by
  unfold f_X8_isAnnex anB
  simp only [R.xck, M_isAgreement R L, Option.bind_some, b2i_z]
  cases c1 : inR g (L.1 0 2)
  · simp
  · rw [W.2.2.2.2.2.2.1] at c1
    have hng := W.2.2.2.2.2.2.2.1
    obtain ⟨g', hg, rfl⟩ := inR_of (by omega) c1
    simp only [mR23 R, mL18 R L g' (by omega), Option.bind_some, nIt (show g' < 1000 by omega), inR]
    by_cases c2 : x < 0
    · simp [c2]
    · by_cases c3 : L.1 18 g' ≤ x <;> simp [c2, c3]
theorem anB_of {L : LM} {n np ng : Nat} (W : MW L n np ng) (A : AX L ng) {g x : Int32} (h : anB L g x = true) : ∃ g' x', g' < ng ∧ g' < 10 ∧ x' < 8 ∧ nI x' < L.1 18 g' ∧ g = nI g' ∧ x = nI x' ∧ (L.1 20 (8 * g' + x') = -1 ∨ ∃ s, s ≤ 100 ∧ L.1 20 (8 * g' + x') = nI s) := by
  unfold anB at h
  rw [Bool.and_eq_true, W.2.2.2.2.2.2.1] at h
  have hng := W.2.2.2.2.2.2.2.1
  obtain ⟨g', hg, rfl⟩ := inR_of (by omega) h.1
  obtain ⟨c, hc, e, a1⟩ := A g' hg
  have h2 := h.2
  rw [nIt (by omega), e] at h2
  obtain ⟨x', hx, rfl⟩ := inR_of (by omega) h2
  exact ⟨g', x', hg, by omega, by omega, by rw [e]; exact nI_lt hx (by omega), rfl, rfl, a1 x' hx⟩
def U_tear (L : LM) (g x : Int32) : Bool × LM := if anB L g x = true then (if 0 ≤ L.1 20 (8 * g.toNatClampNeg + x.toNatClampNeg) then (true, LI L 20 (8 * g.toNatClampNeg + x.toNatClampNeg) (-1)) else (false, L)) else (false, L)
theorem M_tear {am : Nat} {h : AH} (R : MOK am h) (L : LM) {n np ng : Nat} (W : MW L n np ng) (A : AX L ng) (g x : Int32) : f_X8_tear am g x (pM am L h) = some ((U_tear L g x).1, pM am (U_tear L g x).2 h) := by
  unfold f_X8_tear U_tear
  simp only [R.xck, M_isAnnex R L W, Option.bind_some, b2i_z]
  cases c1 : anB L g x
  · simp
  · obtain ⟨g', x', -, hg, hx, -, rfl, rfl, -⟩ := anB_of W A c1
    simp only [mR25 R, ix8, mL20 R L (8 * g' + x') (by omega), fun v => mS20 R L (8 * g' + x') v (by omega), Option.bind_some, nIt (show g' < 1000 by omega), nIt (show x' < 1000 by omega)]
    by_cases c2 : 0 ≤ L.1 20 (8 * g' + x') <;> simp [c2]
def wrg (L : LM) (g x i : Int32) : Int32 := if anB L g x = true then (if 0 ≤ L.1 20 (8 * g.toNatClampNeg + x.toNatClampNeg) then (if i < 0 then -6 else if i < L.1 20 (8 * g.toNatClampNeg + x.toNatClampNeg) then 0 else -6) else -5) else -2
theorem M_wrong {am : Nat} {h : AH} (R : MOK am h) (L : LM) {n np ng : Nat} (W : MW L n np ng) (A : AX L ng) (g x i : Int32) : f_X8_wrong am g x i (pM am L h) = some (wrg L g x i) := by
  unfold f_X8_wrong wrg
  simp only [R.xck, M_isAnnex R L W, Option.bind_some, b2i_z]
  cases c1 : anB L g x
  · simp
  · obtain ⟨g', x', -, hg, hx, -, rfl, rfl, -⟩ := anB_of W A c1
    simp only [mR25 R, ix8, mL20 R L (8 * g' + x') (by omega), Option.bind_some, nIt (show g' < 1000 by omega), nIt (show x' < 1000 by omega)]
    by_cases c2 : 0 ≤ L.1 20 (8 * g' + x')
    · by_cases c3 : i < 0
      · simp [c2, c3]
      · by_cases c4 : i < L.1 20 (8 * g' + x') <;> simp [c2, c3, c4]
    · simp [c2]
theorem wrg_0 {L : LM} {n np ng : Nat} (W : MW L n np ng) (A : AX L ng) {g x i : Int32} (h : wrg L g x i = 0) : ∃ g' x' i' s, g' < ng ∧ g' < 10 ∧ x' < 8 ∧ i' < s ∧ s ≤ 100 ∧ g = nI g' ∧ x = nI x' ∧ i = nI i' ∧ L.1 20 (8 * g' + x') = nI s ∧ anB L g x = true := by
  unfold wrg at h
  cases c1 : anB L g x
  · simp [c1] at h
  · obtain ⟨g', x', hg0, hg, hx, -, rfl, rfl, e⟩ := anB_of W A c1
    rw [c1, if_pos rfl, nIt (show g' < 1000 by omega), nIt (show x' < 1000 by omega)] at h
    rcases e with e | ⟨s, hs, e⟩
    · rw [e, if_neg (by decide)] at h
      exact absurd h (by decide)
    · rw [e] at h
      have c2 : 0 ≤ nI s := by rw [← nI_0]; exact nI_le (by omega) (by omega)
      rw [if_pos c2] at h
      by_cases c3 : i < 0
      · rw [if_pos c3] at h; exact absurd h (by decide)
      · rw [if_neg c3] at h
        by_cases c4 : i < nI s
        · obtain ⟨i', hi, rfl⟩ := nI_of c3
          exact ⟨g', x', i', s, hg0, hg, hx, (nIlt hi (by omega)).mp c4, hs, rfl, rfl, rfl, e, rfl⟩
        · rw [if_neg c4] at h; exact absurd h (by decide)
def cutJ (w : Int32) (v : Int64) : Int64 := if w = 0 then v.toInt32.toInt8.toInt32.toInt64 else if w = 1 then v.toInt32.toInt16.toInt32.toInt64 else if w = 2 then v.toInt32.toInt64 else v
def U_write (L : LM) (g x i : Int32) (v : Int64) : Int32 × LM := (wrg L g x i, if wrg L g x i = 0 then LJ L 21 (100 * (8 * g.toNatClampNeg + x.toNatClampNeg) + i.toNatClampNeg) (cutJ (L.1 19 (8 * g.toNatClampNeg + x.toNatClampNeg)) v) else L)
theorem M_write {am : Nat} {h : AH} (R : MOK am h) (L : LM) {n np ng : Nat} (W : MW L n np ng) (A : AX L ng) (g x i : Int32) (v : Int64) : f_X8_write am g x i v (pM am L h) = some ((U_write L g x i v).1, pM am (U_write L g x i v).2 h) := by
  unfold f_X8_write U_write f_X8_write_84
  simp only [R.xck, M_wrong R L W A, Option.bind_some]
  by_cases c : wrg L g x i = 0
  · obtain ⟨g', x', i', s, -, hg, hx, hi, hs, rfl, rfl, rfl, e, -⟩ := wrg_0 W A c
    simp only [c, if_true, mR24 R, mR26 R, ix8, ix100, mL19 R L (8 * g' + x') (by omega), fun v => mS21 R L (100 * (8 * g' + x') + i') v (by omega), Option.bind_some, nIt (show g' < 1000 by omega), nIt (show x' < 1000 by omega), nIt (show i' < 1000 by omega), cutJ]
    by_cases q0 : L.1 19 (8 * g' + x') = 0
    · simp [q0]
    by_cases q1 : L.1 19 (8 * g' + x') = 1
    · simp [q1]
    by_cases q2 : L.1 19 (8 * g' + x') = 2
    · simp [q2]
    simp [q0, q1, q2]
  · simp [c]
def rea (L : LM) (g x i : Int32) : Int64 := if wrg L g x i = 0 then L.2 21 (100 * (8 * g.toNatClampNeg + x.toNatClampNeg) + i.toNatClampNeg) else 0
theorem M_read {am : Nat} {h : AH} (R : MOK am h) (L : LM) {n np ng : Nat} (W : MW L n np ng) (A : AX L ng) (g x i : Int32) : f_X8_read am g x i (pM am L h) = some (rea L g x i) := by
  unfold f_X8_read rea
  simp only [R.xck, M_wrong R L W A, Option.bind_some]
  by_cases c : wrg L g x i = 0
  · obtain ⟨g', x', i', s, -, hg, hx, hi, hs, rfl, rfl, rfl, e, -⟩ := wrg_0 W A c
    simp only [c, if_true, mR26 R, ix8, ix100, fun L => mL21 R L (100 * (8 * g' + x') + i') (by omega), Option.bind_some, nIt (show g' < 1000 by omega), nIt (show x' < 1000 by omega), nIt (show i' < 1000 by omega)]
  · simp [c]
def siz (L : LM) (g x : Int32) : Int32 := if anB L g x = true then (if 0 ≤ L.1 20 (8 * g.toNatClampNeg + x.toNatClampNeg) then L.1 20 (8 * g.toNatClampNeg + x.toNatClampNeg) else -5) else -2
theorem M_size {am : Nat} {h : AH} (R : MOK am h) (L : LM) {n np ng : Nat} (W : MW L n np ng) (A : AX L ng) (g x : Int32) : f_X8_size am g x (pM am L h) = some (siz L g x) := by
  unfold f_X8_size siz
  simp only [R.xck, M_isAnnex R L W, Option.bind_some, b2i_z]
  cases c1 : anB L g x
  · simp
  · obtain ⟨g', x', -, hg, hx, -, rfl, rfl, -⟩ := anB_of W A c1
    simp only [mR25 R, ix8, mL20 R L (8 * g' + x') (by omega), Option.bind_some, nIt (show g' < 1000 by omega), nIt (show x' < 1000 by omega)]
    by_cases c2 : 0 ≤ L.1 20 (8 * g' + x') <;> simp [c2]
/-- zero from j on, m of them, at base b -/
def zrL (L : LM) (b : Nat) : Nat → Nat → LM
  | _, 0 => L
  | j, m + 1 => zrL (LJ L 21 (b + j) 0) b (j + 1) m
def U_annex (L : LM) (g w s : Int32) : Int32 × LM := if (inR g (L.1 0 2) && decide (¬ w < 0) && decide (¬ 3 < w) && decide (s ≤ 100)) = true then (if L.1 18 g.toNatClampNeg = 8 then (-8, L) else if 0 ≤ s then (L.1 18 g.toNatClampNeg, zrL (LI (LI (LI L 18 g.toNatClampNeg (L.1 18 g.toNatClampNeg + 1)) 19 (8 * g.toNatClampNeg + (L.1 18 g.toNatClampNeg).toNatClampNeg) w) 20 (8 * g.toNatClampNeg + (L.1 18 g.toNatClampNeg).toNatClampNeg) s) (100 * (8 * g.toNatClampNeg + (L.1 18 g.toNatClampNeg).toNatClampNeg)) 0 s.toNatClampNeg) else (-3, L)) else (-2, L)
theorem nI_mul8 (g c : Nat) : nI (8 * g + c) - 8 * nI g = nI c := by
  have e : (8 : Int32) * nI g = nI (8 * g) := by
    have : (8 : Int32) = nI 8 := rfl
    rw [this, pk_mul]
  rw [e, ← nI_add, Int32.sub_eq_add_neg, Int32.add_comm (nI (8 * g)), Int32.add_assoc, Int32.add_right_neg, Int32.add_zero]
theorem M_annex_89 {am : Nat} {h : AH} (R : MOK am h) {g c S : Nat} (hg : g < 10) (hc : c < 8) (hS : S ≤ 100) : ∀ m j f L, j + m = S → m < f → f_X8_annex_89 f am (nI g) (nI S) (nI (8 * g + c)) (nI j) (pM am L h) = some (nI c, pM am (zrL L (100 * (8 * g + c)) j m) h) := by
  intro m
  induction m with
  | zero =>
    intro j f L h1 h2
    obtain ⟨f, rfl⟩ : ∃ f', f = f' + 1 := ⟨f - 1, by omega⟩
    rw [f_X8_annex_89, if_pos (nI_le (by omega) (by omega)), nI_mul8]
    rfl
  | succ m ih =>
    intro j f L h1 h2
    obtain ⟨f, rfl⟩ : ∃ f', f = f' + 1 := ⟨f - 1, by omega⟩
    rw [f_X8_annex_89, if_neg (nI_ge (by omega) (by omega))]
    simp only [mR26 R, ix100, fun L v => mS21 R L (100 * (8 * g + c) + j) v (by omega), Option.bind_some, nI_1]
    rw [ih (j + 1) f _ (by omega) (by omega)]
    rfl
theorem M_annex {am : Nat} {h : AH} (R : MOK am h) (L : LM) {n np ng : Nat} (W : MW L n np ng) (A : AX L ng) (g w s : Int32) : f_X8_annex am g w s (pM am L h) = some ((U_annex L g w s).1, pM am (U_annex L g w s).2 h) := by
  unfold f_X8_annex U_annex
  simp only [R.xck, M_isAgreement R L, Option.bind_some, b2i_z]
  cases c1 : inR g (L.1 0 2)
  · simp
  · rw [W.2.2.2.2.2.2.1] at c1
    have hng := W.2.2.2.2.2.2.2.1
    obtain ⟨g', hg, rfl⟩ := inR_of (by omega) c1
    have hg' : g' < 10 := by omega
    obtain ⟨c, hc, e, -⟩ := A g' hg
    simp only [mR23 R, mR24 R, mR25 R, mL18 R L g' hg', fun L v => mS18 R L g' v hg', Option.bind_some, nIt (show g' < 1000 by omega), e, nIt (show c < 1000 by omega), ix8]
    by_cases c2 : w < 0
    · simp [c2]
    by_cases c3 : 3 < w
    · simp [c2, c3]
    by_cases c4 : s ≤ 100
    · by_cases c5 : c = 8
      · subst c5
        simp [c2, c3, c4, nI]
      · have c5' : ¬ nI c = 8 := fun e => c5 (nI_inj (b := 8) (by omega) (by omega) e)
        by_cases c6 : 0 ≤ s
        · have c6' : ¬ s < 0 := by rw [Int32.lt_iff_toInt_lt]; rw [Int32.le_iff_toInt_le] at c6; omega
          obtain ⟨S, hS, rfl⟩ := nI_of c6'
          have hS2 : S ≤ 100 := (nIle hS (b := 100) (by omega)).mp c4
          have e2 := fun L => M_annex_89 R hg' (show c < 8 by omega) hS2 S 0 FU L (by omega) (by unfold FU; omega)
          rw [nI_0] at e2
          simp [c2, c3, c4, c5', c6, mR24 R, mR25 R, fun L v => mS19 R L (8 * g' + c) v (by omega), fun L v => mS20 R L (8 * g' + c) v (by omega), e2, nIt (show S < 1000 by omega)]
        · simp [c2, c3, c4, c5', c6]
    · simp [c2, c3, c4]
def tkL (L : LM) (b : Nat) : Nat → Nat → LM
  | _, 0 => L
  | j, m + 1 => tkL (LJ L 22 j (L.2 21 (b + j))) b (j + 1) m
def gvL (L : LM) (b : Nat) : Nat → Nat → LM
  | _, 0 => L
  | j, m + 1 => gvL (LJ L 21 (b + j) (L.2 22 j)) b (j + 1) m
theorem ixc (b i j : Nat) : (100 : Int32) * nI b + nI i + nI j = nI (100 * b + i + j) := by rw [ix100, nI_add]
theorem M_copy_179 {am : Nat} {h : AH} (R : MOK am h) {b i S : Nat} (hb : b < 80) (hS : i + S ≤ 100) : ∀ m j f L, j + m = S → m < f → f_X8_copy_179 f am (nI i) (nI S) (nI b) (nI j) (pM am L h) = some (0, pM am (gvL L (100 * b + i) j m) h) := by
  intro m
  induction m with
  | zero =>
    intro j f L h1 h2
    obtain ⟨f, rfl⟩ : ∃ f', f = f' + 1 := ⟨f - 1, by omega⟩
    rw [f_X8_copy_179, if_pos (nI_le (by omega) (by omega))]
    rfl
  | succ m ih =>
    intro j f L h1 h2
    obtain ⟨f, rfl⟩ : ∃ f', f = f' + 1 := ⟨f - 1, by omega⟩
    rw [f_X8_copy_179, if_neg (nI_ge (by omega) (by omega))]
    simp only [mR26 R, mR27 R, ixc, mL22 R L j (by omega), fun L v => mS21 R L (100 * b + i + j) v (by omega), Option.bind_some, nI_1]
    rw [ih (j + 1) f _ (by omega) (by omega)]
    rfl
theorem M_copy_141 {am : Nat} {h : AH} (R : MOK am h) {b i b' i' S : Nat} (hb : b < 80) (hb' : b' < 80) (hS : i + S ≤ 100) (hS' : i' + S ≤ 100) : ∀ m j f L, j + m = S → m < f → f_X8_copy_141 f am (nI i) (nI i') (nI S) (nI b) (nI b') (nI j) (pM am L h) = some (0, pM am (gvL (tkL L (100 * b + i) j m) (100 * b' + i') 0 S) h) := by
  intro m
  induction m with
  | zero =>
    intro j f L h1 h2
    obtain ⟨f, rfl⟩ : ∃ f', f = f' + 1 := ⟨f - 1, by omega⟩
    have e := M_copy_179 R hb' hS' S 0 FU L (by omega) (by unfold FU; omega)
    rw [nI_0] at e
    rw [f_X8_copy_141, if_pos (nI_le (by omega) (by omega)), e]
    rfl
  | succ m ih =>
    intro j f L h1 h2
    obtain ⟨f, rfl⟩ : ∃ f', f = f' + 1 := ⟨f - 1, by omega⟩
    rw [f_X8_copy_141, if_neg (nI_ge (by omega) (by omega))]
    simp only [mR26 R, mR27 R, ixc, mL21 R L (100 * b + i + j) (by omega), fun L v => mS22 R L j v (by omega), Option.bind_some, nI_1]
    rw [ih (j + 1) f _ (by omega) (by omega)]
    rfl
theorem J_nI {a : Nat} (ha : a < 2 ^ 31) : (nI a).toInt64.toInt = (a : Int) := by rw [Int32.toInt_toInt64, nI_toInt ha]
theorem J_add {a b : Nat} (ha : a < 2 ^ 31) (hb : b < 2 ^ 31) : ((nI a).toInt64 + (nI b).toInt64).toInt = (a : Int) + (b : Int) := by
  rw [Int64.toInt_add, J_nI ha, J_nI hb]
  refine Int.bmod_eq_of_le ?_ ?_ <;> omega
theorem lgN {a b s : Nat} (ha : a < 2 ^ 31) (hb : b < 2 ^ 31) (hs : s < 2 ^ 31) : lg_cmp ((nI a).toInt64 + (nI b).toInt64) (nI s).toInt64 = if s < a + b then 1 else if a + b = s then 0 else -1 := by
  unfold lg_cmp
  have e1 : ((nI a).toInt64 + (nI b).toInt64 > (nI s).toInt64) ↔ s < a + b := by
    rw [gt_iff_lt, Int64.lt_iff_toInt_lt, J_add ha hb, J_nI hs]
    omega
  have e2 : ((nI a).toInt64 + (nI b).toInt64 = (nI s).toInt64) ↔ a + b = s := by
    rw [← Int64.toInt_inj, J_add ha hb, J_nI hs]
    omega
  simp only [e1, e2]
def U_copy (L : LM) (g x i h' y j k : Int32) : Int32 × LM := if (anB L g x && anB L h' y) = true then (if L.1 20 (8 * g.toNatClampNeg + x.toNatClampNeg) < 0 then (-5, L) else if 0 ≤ L.1 20 (8 * h'.toNatClampNeg + y.toNatClampNeg) then (if L.1 19 (8 * g.toNatClampNeg + x.toNatClampNeg) = L.1 19 (8 * h'.toNatClampNeg + y.toNatClampNeg) then (if (decide (¬ i < 0) && decide (¬ j < 0) && decide (¬ k < 0) && decide (i.toNatClampNeg + k.toNatClampNeg ≤ (L.1 20 (8 * g.toNatClampNeg + x.toNatClampNeg)).toNatClampNeg) && decide (j.toNatClampNeg + k.toNatClampNeg ≤ (L.1 20 (8 * h'.toNatClampNeg + y.toNatClampNeg)).toNatClampNeg)) = true then (0, gvL (tkL L (100 * (8 * g.toNatClampNeg + x.toNatClampNeg) + i.toNatClampNeg) 0 k.toNatClampNeg) (100 * (8 * h'.toNatClampNeg + y.toNatClampNeg) + j.toNatClampNeg) 0 k.toNatClampNeg) else (-6, L)) else (-7, L)) else (-5, L)) else (-2, L)
theorem M_copy {am : Nat} {h : AH} (R : MOK am h) (L : LM) {n np ng : Nat} (W : MW L n np ng) (A : AX L ng) (g x i h' y j k : Int32) : f_X8_copy am g x i h' y j k (pM am L h) = some ((U_copy L g x i h' y j k).1, pM am (U_copy L g x i h' y j k).2 h) := by
  unfold f_X8_copy U_copy
  simp only [R.xck, M_isAnnex R L W, Option.bind_some, b2i_z]
  cases c1 : anB L g x
  · simp
  · cases c2 : anB L h' y
    · simp
    · obtain ⟨g1, x1, -, hg, hx, -, rfl, rfl, e⟩ := anB_of W A c1
      obtain ⟨g2, x2, -, hg2, hx2, -, rfl, rfl, e'⟩ := anB_of W A c2
      simp only [mR24 R, mR25 R, ix8, mL19 R L (8 * g1 + x1) (by omega), mL19 R L (8 * g2 + x2) (by omega), mL20 R L (8 * g1 + x1) (by omega), mL20 R L (8 * g2 + x2) (by omega), Option.bind_some, nIt (show g1 < 1000 by omega), nIt (show x1 < 1000 by omega), nIt (show g2 < 1000 by omega), nIt (show x2 < 1000 by omega)]
      rcases e with e | ⟨s, hs, e⟩
      · have : (-1 : Int32) < 0 := by decide
        simp [e, this]
      · have e1 : ¬ nI s < 0 := nI_pos (by omega)
        rcases e' with e' | ⟨s', hs', e'⟩
        · have : ¬ (0 : Int32) ≤ -1 := by decide
          simp [e, e', e1, this]
        · have e2 : 0 ≤ nI s' := by rw [← nI_0]; exact nI_le (by omega) (by omega)
          simp only [e, e', e1, e2, if_false, if_true]
          by_cases c3 : L.1 19 (8 * g1 + x1) = L.1 19 (8 * g2 + x2)
          · by_cases c4 : i < 0
            · simp [c3, c4]
            by_cases c5 : j < 0
            · simp [c3, c4, c5]
            by_cases c6 : k < 0
            · simp [c3, c4, c5, c6]
            obtain ⟨i, hi, rfl⟩ := nI_of c4
            obtain ⟨j, hj, rfl⟩ := nI_of c5
            obtain ⟨k, hk, rfl⟩ := nI_of c6
            have t1 : (nI i).toNatClampNeg = i := nI_clamp (by omega)
            have t2 : (nI j).toNatClampNeg = j := nI_clamp (by omega)
            have t3 : (nI k).toNatClampNeg = k := nI_clamp (by omega)
            have t4 : (nI s).toNatClampNeg = s := nI_clamp (by omega)
            have t5 : (nI s').toNatClampNeg = s' := nI_clamp (by omega)
            simp only [c3, c4, c5, c6, if_true, if_false, lgN hi hk (show s < 2 ^ 31 by omega), lgN hj hk (show s' < 2 ^ 31 by omega), t1, t2, t3, t4, t5]
            by_cases c7 : s < i + k
            · have : (0 : Int32) < 1 := by decide
              have c7' : ¬ i + k ≤ s := by omega
              simp [c7, c7', this]
            · have c7' : i + k ≤ s := by omega
              have q1 : ¬ (0 : Int32) < (if s < i + k then 1 else if i + k = s then 0 else -1) := by
                rw [if_neg c7]
                by_cases q : i + k = s <;> simp [q] <;> decide
              rw [if_neg q1]
              by_cases c8 : s' < j + k
              · have c8' : ¬ j + k ≤ s' := by omega
                have : ¬ (1 : Int32) ≤ 0 := by decide
                simp [c8, c8', this]
              · have c8' : j + k ≤ s' := by omega
                have q2 : (if s' < j + k then 1 else if j + k = s' then 0 else -1) ≤ (0 : Int32) := by
                  rw [if_neg c8]
                  by_cases q : j + k = s' <;> simp [q] <;> decide
                have e3 := M_copy_141 R (show 8 * g1 + x1 < 80 by omega) (show 8 * g2 + x2 < 80 by omega) (show i + k ≤ 100 by omega) (show j + k ≤ 100 by omega) k 0 FU L (by omega) (by unfold FU; omega)
                rw [nI_0] at e3
                rw [if_pos q2, e3]
                simp [c7', c8']
          · simp [c3]
