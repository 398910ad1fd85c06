/-! PURE 10: the reference's other calls -/
def U_party (L : LM) (np : Nat) : Int32 × LM := if np = 30 then (-1, L) else (nI np, LI L 0 1 (nI (np + 1)))
theorem M_party {am : Nat} {h : AH} (R : MOK am h) (L : LM) {np : Nat} (hq : L.1 0 1 = nI np) (hnp : np ≤ 30) : f_X8_party am (pM am L h) = some ((U_party L np).1, pM am (U_party L np).2 h) := by
  unfold f_X8_party U_party
  simp only [R.xgI, R.xpI, hq, Option.bind_some]
  by_cases c : np = 30
  · subst c; simp [nI]
  · have : ¬ nI np = 30 := fun e => c (nI_inj (b := 30) (by omega) (by omega) e)
    simp only [this, c, if_false, LI1, nI_1]
    simp
    rw [nI_sub1, nI_m1']
def U_clock (L : LM) (d : Int32) : Bool × LM := if (decide (¬ d < L.1 0 0) && decide (d ≤ 73000)) = true then (true, LI L 0 0 d) else (false, L)
theorem M_clock {am : Nat} {h : AH} (R : MOK am h) (L : LM) (d : Int32) : f_X8_clock am d (pM am L h) = some ((U_clock L d).1, pM am (U_clock L d).2 h) := by
  unfold f_X8_clock U_clock
  simp only [R.xgI, R.xpI, Option.bind_some]
  by_cases c : d < L.1 0 0
  · simp [c]
  · by_cases c2 : d ≤ 73000 <;> simp [c, c2]
def okA (a b c d : Int32) : Bool := decide (¬ a < 1) && decide (¬ 20 < a) && decide (¬ b < 1) && decide (¬ 10 < b) && decide (¬ c < 0) && decide (¬ 1000 < c) && decide (¬ d < 0) && decide (¬ 1000 < d)
def agL (L : LM) (ng : Nat) (a b c d : Int32) : LM := LI (LI (LI (LI (LI L 0 2 (nI (ng + 1))) 1 ng a) 2 ng b) 3 ng c) 4 ng d
def agT (L : LM) (ng : Nat) : Nat → Nat → LM
  | _, 0 => LI L 18 ng 0
  | j, m + 1 => agT (LI L 5 (20 * ng + j) (nI (j + 1))) ng (j + 1) m
def U_agreement (L : LM) (ng : Nat) (a b c d : Int32) : Int32 × LM := if ng = 10 then (-1, L) else if okA a b c d = true then (nI ng, agT (agL L ng a b c d) ng 0 a.toNatClampNeg) else (-1, L)
theorem M_agr_133 {am : Nat} {h : AH} (R : MOK am h) {ng A : Nat} (hg : ng < 10) (hA : A ≤ 20) : ∀ m j f L, j + m = A → m < f → f_X8_agreement_133 f am (nI A) (nI ng) (nI j) (pM am L h) = some (nI ng, pM am (agT L ng j m) h) := by
  intro m
  induction m with
  | zero =>
    intro j f L h1 h2
    obtain ⟨f, rfl⟩ : ∃ f', f = f' + 1 := ⟨f - 1, by omega⟩
    rw [f_X8_agreement_133, if_pos (nI_le (by omega) (by omega))]
    simp only [mR23 R, mS18 R L ng 0 hg, Option.bind_some]
    rfl
  | succ m ih =>
    intro j f L h1 h2
    obtain ⟨f, rfl⟩ : ∃ f', f = f' + 1 := ⟨f - 1, by omega⟩
    rw [f_X8_agreement_133, if_neg (nI_ge (by omega) (by omega))]
    simp only [mR7 R, ix20, mS5 R L (20 * ng + j) _ (show 20 * ng + j < 200 by omega), Option.bind_some, nI_1]
    rw [ih (j + 1) f _ (by omega) (by omega)]
    rfl
theorem nI_rng {a : Int32} {n : Nat} (hn : n < 2 ^ 31) (h1 : ¬ a < 1) (h2 : ¬ nI n < a) : ∃ j, 1 ≤ j ∧ j ≤ n ∧ a = nI j := by
  have h0 : ¬ a < 0 := by
    intro q
    exact h1 (by
      rw [Int32.lt_iff_toInt_lt] at q ⊢
      have e0 : (0 : Int32).toInt = 0 := by decide
      have e1 : (1 : Int32).toInt = 1 := by decide
      omega)
  obtain ⟨j, hj, rfl⟩ := nI_of h0
  refine ⟨j, ?_, ?_, rfl⟩
  · cases j with
    | zero => exact absurd (by rw [nI_0]; decide) h1
    | succ j => omega
  · rcases Nat.lt_or_ge n j with q | q
    · exact absurd (nI_lt q hj) h2
    · exact q
theorem M_agreement {am : Nat} {h : AH} (R : MOK am h) (L : LM) {ng : Nat} (hg : L.1 0 2 = nI ng) (hng : ng ≤ 10) (a b c d : Int32) : f_X8_agreement am a b c d (pM am L h) = some ((U_agreement L ng a b c d).1, pM am (U_agreement L ng a b c d).2 h) := by
  have e62 : f_X8_agreement_62 am a b c d (pM am L h) = some (-1, pM am L h) := by
    unfold f_X8_agreement_62 f_X8_agreement_63
    simp only [R.xgI, Option.bind_some]
    by_cases q : L.1 0 2 = 10 <;> simp [q]
  have e63 : okA a b c d = true → f_X8_agreement_63 am a b c d 1 (pM am L h) = some ((U_agreement L ng a b c d).1, pM am (U_agreement L ng a b c d).2 h) := by
    intro ok
    unfold f_X8_agreement_63 U_agreement
    simp only [R.xgI, hg, Option.bind_some]
    by_cases q : ng = 10
    · subst q; simp [nI]
    · have q2 : ¬ nI ng = 10 := fun e => q (nI_inj (b := 10) (by omega) (by omega) e)
      have hg' : ng < 10 := by omega
      have ok2 := ok
      unfold okA at ok2
      simp only [Bool.and_eq_true, decide_eq_true_eq] at ok2
      obtain ⟨j, j1, j2, rfl⟩ := nI_rng (n := 20) (by omega) ok2.1.1.1.1.1.1.1 ok2.1.1.1.1.1.1.2
      have e := fun L => M_agr_133 R hg' j2 j 0 FU L (by omega) (by unfold FU; omega)
      rw [nI_0] at e
      simp only [q2, q, if_false, ok, if_true, R.xpI, nI_1, mR3 R, mR4 R, mR5 R, mR6 R, fun L' v => mS1 R L' ng v hg', fun L' v => mS2 R L' ng v hg', fun L' v => mS3 R L' ng v hg', fun L' v => mS4 R L' ng v hg', Option.bind_some, nIt (show j < 1000 by omega)]
      rw [if_neg (by decide), e]
      rfl
  have e0 : okA a b c d = false → U_agreement L ng a b c d = (-1, L) := by
    intro z
    unfold U_agreement
    simp [z]
  unfold f_X8_agreement f_X8_agreement_26 f_X8_agreement_27
  by_cases c1 : a < 1
  · simp [c1, e62, e0 (by simp [okA, c1])]
  by_cases c2 : (20 : Int32) < a
  · simp [c1, c2, e62, e0 (by simp [okA, c2])]
  by_cases c3 : b < 1
  · simp [c1, c2, c3, e62, e0 (by simp [okA, c3])]
  by_cases c4 : (10 : Int32) < b
  · simp [c1, c2, c3, c4, e62, e0 (by simp [okA, c4])]
  by_cases c5 : c < 0
  · simp [c1, c2, c3, c4, c5, e62, e0 (by simp [okA, c5])]
  by_cases c6 : (1000 : Int32) < c
  · simp [c1, c2, c3, c4, c5, c6, e62, e0 (by simp [okA, c6])]
  by_cases c7 : d < 0
  · simp [c1, c2, c3, c4, c5, c6, c7, e62, e0 (by simp [okA, c7])]
  by_cases c8 : (1000 : Int32) < d
  · simp [c1, c2, c3, c4, c5, c6, c7, c8, e62, e0 (by simp [okA, c8])]
  · simp [c1, c2, c3, c4, c5, c6, c7, c8, e63 (by simp [okA, c1, c2, c3, c4, c5, c6, c7, c8])]
def anyAb (L : LM) (n : Nat) (g : Int32) : Bool := anyF (fun x => decide (L.1 8 x = g)) 0 n
def U_article (L : LM) (n : Nat) (g a s : Int32) : Int32 × LM := if (arB L g a && decide (¬ s < 1) && decide (s ≤ 1000000)) = true then (if anyAb L n g = true then (-1, L) else (L.1 5 (20 * g.toNatClampNeg + a.toNatClampNeg), LI L 5 (20 * g.toNatClampNeg + a.toNatClampNeg) s)) else (-1, L)
theorem M_art_25 {am : Nat} {h : AH} (R : MOK am h) (L : LM) {n : Nat} (hp : L.1 0 8 = nI n) (hn : n ≤ 400) {g a : Nat} (hg : g < 10) (ha : a < 20) (s : Int32) : ∀ m j f, j + m = n → m < f → f_X8_article_25 f am (nI g) (nI a) s (nI j) (pM am L h) = some (if anyF (fun x => decide (L.1 8 x = nI g)) j m = true then (-1, pM am L h) else (L.1 5 (20 * g + a), pM am (LI L 5 (20 * g + a) s) h)) := by
  intro m
  induction m with
  | zero =>
    intro j f h1 h2
    obtain ⟨f, rfl⟩ : ∃ f', f = f' + 1 := ⟨f - 1, by omega⟩
    rw [f_X8_article_25]
    simp only [R.xgI, hp, Option.bind_some]
    rw [if_pos (nI_le (by omega) (by omega))]
    simp only [mR7 R, ix20, mL5 R L (20 * g + a) (by omega), mS5 R L (20 * g + a) s (by omega), Option.bind_some]
    rfl
  | succ m ih =>
    intro j f h1 h2
    obtain ⟨f, rfl⟩ : ∃ f', f = f' + 1 := ⟨f - 1, by omega⟩
    have hj : j < 400 := by omega
    rw [f_X8_article_25]
    simp only [R.xgI, hp, Option.bind_some]
    rw [if_neg (nI_ge (by omega) (by omega))]
    simp only [mR11 R, mL8 R L j hj, Option.bind_some, nI_1]
    by_cases c : L.1 8 j = nI g
    · simp [c, anyF]
    · rw [if_neg c, ih (j + 1) f (by omega) (by omega)]
      simp [c, anyF]
theorem M_article {am : Nat} {h : AH} (R : MOK am h) (L : LM) {n np ng : Nat} (W : MW L n np ng) (g a s : Int32) : f_X8_article am g a s (pM am L h) = some ((U_article L n g a s).1, pM am (U_article L n g a s).2 h) := by
  unfold f_X8_article U_article
  simp only [R.xck, M_isArt R L W, Option.bind_some, b2i_z]
  cases c1 : arB L g a
  · simp
  · by_cases c2 : s < 1
    · simp [c2]
    · by_cases c3 : s ≤ 1000000
      · obtain ⟨g', a', -, hg, ha, rfl, rfl, -⟩ := arB_of W c1
        have e := M_art_25 R L W.1 W.2.1 hg ha s n 0 FU (by omega) (by have := W.2.1; unfold FU; omega)
        rw [nI_0] at e
        simp only [c2, c3, if_true, if_false, e, nIt (show g' < 1000 by omega), nIt (show a' < 1000 by omega)]
        unfold anyAb
        by_cases c4 : anyF (fun x => decide (L.1 8 x = nI g')) 0 n = true
        · simp [c4]
        · have c4' : anyF (fun x => decide (L.1 8 x = nI g')) 0 n = false := by simpa using c4
          simp [c4']
      · simp [c2, c3]
def dtl (L : LM) (x : Nat) (w : Int32) : Int32 := if w = 0 then L.1 6 x else if w = 1 then L.1 7 x else if w = 2 then L.1 8 x else if w = 3 then L.1 9 x else if w = 4 then L.1 10 x else if w = 5 then L.1 11 x else if w = 6 then L.1 12 x else if w = 7 then L.1 13 x else if w = 8 then L.1 14 x else if w = 9 then L.1 15 x else -1
theorem M_paper {am : Nat} {h : AH} (R : MOK am h) (L : LM) {n np ng : Nat} (W : MW L n np ng) (x w : Int32) : f_X8_paper am x w (pM am L h) = some (if inR x (L.1 0 8) = true then dtl L x.toNatClampNeg w else -1) := by
  unfold f_X8_paper
  simp only [R.xck, M_isPaper R L, Option.bind_some, b2i_z]
  cases c1 : inR x (L.1 0 8)
  · simp
  · rw [W.1] at c1
    have hn4 := W.2.1
    obtain ⟨x, hx, rfl⟩ := inR_of (by omega) c1
    have hx4 : x < 400 := by omega
    simp only [mR9 R, mR10 R, mR11 R, mR12 R, mR13 R, mR14 R, mR15 R, mR16 R, mR17 R, mR18 R, mL6 R L x hx4, mL7 R L x hx4, mL8 R L x hx4, mL9 R L x hx4, mL10 R L x hx4, mL11 R L x hx4, mL12 R L x hx4, mL13 R L x hx4, mL14 R L x hx4, mL15 R L x hx4, Option.bind_some, nIt (show x < 1000 by omega), dtl]
    rw [if_neg (by decide), if_pos trivial]
    by_cases q0 : w = 0
    · simp [q0]
    by_cases q1 : w = 1
    · simp [q1]
    by_cases q2 : w = 2
    · simp [q2]
    by_cases q3 : w = 3
    · simp [q3]
    by_cases q4 : w = 4
    · simp [q4]
    by_cases q5 : w = 5
    · simp [q5]
    by_cases q6 : w = 6
    · simp [q6]
    by_cases q7 : w = 7
    · simp [q7]
    by_cases q8 : w = 8
    · simp [q8]
    by_cases q9 : w = 9
    · simp [q9]
    simp [q0, q1, q2, q3, q4, q5, q6, q7, q8, q9]
theorem M_noted {am : Nat} {h : AH} (R : MOK am h) (L : LM) {n np ng : Nat} (W : MW L n np ng) (x : Int32) : f_X8_noted am x (pM am L h) = some (if inR x (L.1 0 8) = true then (if L.1 6 x.toNatClampNeg = 9 then L.2 16 x.toNatClampNeg else 0) else 0) := by
  unfold f_X8_noted f_X8_noted_28
  simp only [R.xck, M_isPaper R L, Option.bind_some, b2i_z]
  cases c1 : inR x (L.1 0 8)
  · simp
  · rw [W.1] at c1
    have hn4 := W.2.1
    obtain ⟨x, hx, rfl⟩ := inR_of (by omega) c1
    have hx4 : x < 400 := by omega
    simp only [mR9 R, mR19 R, mL6 R L x hx4, mL16 R L x hx4, Option.bind_some, nIt (show x < 1000 by omega)]
    by_cases c : L.1 6 x = 9 <;> simp [c]
def cnt (L : LM) (w : Int32) : Int32 := if 10 ≤ w then (if inR (w / 10 - 1) (L.1 0 2) = true then (if w - w / 10 * 10 = 0 then L.1 1 (w / 10 - 1).toNatClampNeg else if w - w / 10 * 10 = 1 then L.1 2 (w / 10 - 1).toNatClampNeg else if w - w / 10 * 10 = 2 then L.1 3 (w / 10 - 1).toNatClampNeg else if w - w / 10 * 10 = 3 then L.1 4 (w / 10 - 1).toNatClampNeg else if w - w / 10 * 10 = 4 then L.1 18 (w / 10 - 1).toNatClampNeg else -1) else -1) else if w = 0 then L.1 0 1 else if w = 1 then L.1 0 2 else if w = 2 then L.1 0 8 else if w = 3 then L.1 0 0 else -1
theorem M_count {am : Nat} {h : AH} (R : MOK am h) (L : LM) {n np ng : Nat} (W : MW L n np ng) (w : Int32) : f_X8_count am w (pM am L h) = some (cnt L w) := by
  unfold f_X8_count cnt
  simp only [R.xck, R.xgI, M_isAgreement R L, Option.bind_some, b2i_z]
  by_cases c : 10 ≤ w
  · rw [if_pos c, if_pos c]
    cases c1 : inR (w / 10 - 1) (L.1 0 2)
    · simp
    · rw [W.2.2.2.2.2.2.1] at c1
      have hng := W.2.2.2.2.2.2.2.1
      obtain ⟨g, hg, e⟩ := inR_of (by omega) c1
      have hg' : g < 10 := by omega
      simp only [e, mR3 R, mR4 R, mR5 R, mR6 R, mR23 R, mL1 R L g hg', mL2 R L g hg', mL3 R L g hg', mL4 R L g hg', mL18 R L g hg', Option.bind_some, nIt (show g < 1000 by omega)]
      rw [if_neg (by decide), if_pos trivial]
      by_cases q0 : w - w / 10 * 10 = 0
      · simp [q0]
      by_cases q1 : w - w / 10 * 10 = 1
      · simp [q1]
      by_cases q2 : w - w / 10 * 10 = 2
      · simp [q2]
      by_cases q3 : w - w / 10 * 10 = 3
      · simp [q3]
      by_cases q4 : w - w / 10 * 10 = 4
      · simp [q4]
      simp [q0, q1, q2, q3, q4]
  · rw [if_neg c, if_neg c]
    by_cases q0 : w = 0
    · simp [q0]
    by_cases q1 : w = 1
    · simp [q1]
    by_cases q2 : w = 2
    · simp [q2]
    by_cases q3 : w = 3
    · simp [q3]
    simp [q0, q1, q2, q3]
