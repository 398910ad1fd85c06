/-! PURE 9: the reference's lodging calls -/
def LG (L : LM) (n : Nat) (v : Nat → Int32) (z : Int64) : LM := (fun q k => if q = 0 ∧ k = 8 then nI (n + 1) else if (6 ≤ q ∧ q ≤ 15) ∧ k = n then v q else L.1 q k, fun q k => if q = 16 ∧ k = n then z else L.2 q k)
def row (s p g t e nm o ar sa fl : Int32) : Nat → Int32 := fun q => if q = 6 then s else if q = 7 then p else if q = 8 then g else if q = 9 then t else if q = 10 then e else if q = 11 then nm else if q = 12 then o else if q = 13 then ar else if q = 14 then sa else fl
theorem row_13 (s p g t e nm o ar sa fl x : Int32) (L : LM) (n : Nat) (z : Int64) : LI (LG L n (row s p g t e nm o ar sa fl) z) 13 n x = LG L n (row s p g t e nm o x sa fl) z := by
  refine Prod.ext ?_ rfl
  funext q k
  simp only [LI1, LG, row]
  by_cases c : q = 13 ∧ k = n
  · rw [if_pos c, c.1, c.2]; simp
  · rw [if_neg c]
    by_cases c2 : q = 0 ∧ k = 8
    · rw [if_pos c2, if_pos c2]
    · rw [if_neg c2, if_neg c2]
      by_cases c3 : (6 ≤ q ∧ q ≤ 15) ∧ k = n
      · rw [if_pos c3, if_pos c3]
        have : ¬ q = 13 := fun e => c ⟨e, c3.2⟩
        simp [this]
      · rw [if_neg c3, if_neg c3]
theorem row_14 (s p g t e nm o ar sa fl x : Int32) (L : LM) (n : Nat) (z : Int64) : LI (LG L n (row s p g t e nm o ar sa fl) z) 14 n x = LG L n (row s p g t e nm o ar x fl) z := by
  refine Prod.ext ?_ rfl
  funext q k
  simp only [LI1, LG, row]
  by_cases c : q = 14 ∧ k = n
  · rw [if_pos c, c.1, c.2]; simp
  · rw [if_neg c]
    by_cases c2 : q = 0 ∧ k = 8
    · rw [if_pos c2, if_pos c2]
    · rw [if_neg c2, if_neg c2]
      by_cases c3 : (6 ≤ q ∧ q ≤ 15) ∧ k = n
      · rw [if_pos c3, if_pos c3]
        have : ¬ q = 14 := fun e => c ⟨e, c3.2⟩
        simp [this]
      · rw [if_neg c3, if_neg c3]
theorem row_15 (s p g t e nm o ar sa fl x : Int32) (L : LM) (n : Nat) (z : Int64) : LI (LG L n (row s p g t e nm o ar sa fl) z) 15 n x = LG L n (row s p g t e nm o ar sa x) z := by
  refine Prod.ext ?_ rfl
  funext q k
  simp only [LI1, LG, row]
  by_cases c : q = 15 ∧ k = n
  · rw [if_pos c, c.1, c.2]; simp
  · rw [if_neg c]
    by_cases c2 : q = 0 ∧ k = 8
    · rw [if_pos c2, if_pos c2]
    · rw [if_neg c2, if_neg c2]
      by_cases c3 : (6 ≤ q ∧ q ≤ 15) ∧ k = n
      · rw [if_pos c3, if_pos c3]
        have : ¬ q = 15 := fun e => c ⟨e, c3.2⟩
        by_cases c4 : q = 14
        · simp [c4]
        · by_cases c5 : q = 13
          · simp [c5]
          · have h3 := c3.1
            have h4 : q = 6 ∨ q = 7 ∨ q = 8 ∨ q = 9 ∨ q = 10 ∨ q = 11 ∨ q = 12 := by omega
            rcases h4 with e | e | e | e | e | e | e <;> simp [e]
      · rw [if_neg c3, if_neg c3]
theorem LG_z (L : LM) (n : Nat) (v : Nat → Int32) (z x : Int64) : LJ (LG L n v z) 16 n x = LG L n v x := by
  refine Prod.ext rfl ?_
  funext q k
  simp only [LJ2, LG]
  by_cases c : q = 16 ∧ k = n
  · rw [if_pos c, if_pos c]
  · rw [if_neg c, if_neg c, if_neg c]
theorem M_lodge {am : Nat} {h : AH} (R : MOK am h) (L : LM) {n : Nat} (hp : L.1 0 8 = nI n) (hn : n < 400) (s p g wt nm o : Int32) : f_X8_lodge am s p g wt nm o (pM am L h) = some (nI n, pM am (LG L n (row s p g (L.1 0 0) (L.1 0 0 + wt) nm o (-1) (-1) 0) 0) h) := by
  unfold f_X8_lodge
  simp only [R.xgI, R.xpI, hp, Option.bind_some, nI_1, mR9 R, mR10 R, mR11 R, mR12 R, mR13 R, mR14 R, mR15 R, mR16 R, mR17 R, mR18 R, mR19 R, fun L' v => mS6 R L' n v hn, fun L' v => mS7 R L' n v hn, fun L' v => mS8 R L' n v hn, fun L' v => mS9 R L' n v hn, fun L' v => mS10 R L' n v hn, fun L' v => mS11 R L' n v hn, fun L' v => mS12 R L' n v hn, fun L' v => mS13 R L' n v hn, fun L' v => mS14 R L' n v hn, fun L' v => mS15 R L' n v hn, fun L' v => mS16 R L' n v hn]
  congr 3
  refine Prod.ext ?_ ?_
  · funext q k
    simp only [LJ1, LI1, LG, row]
    by_cases c : k = n
    · by_cases c1 : q = 15
      · simp [c, c1]
      by_cases c2 : q = 14
      · simp [c, c2]
      by_cases c3 : q = 13
      · simp [c, c3]
      by_cases c4 : q = 12
      · simp [c, c4]
      by_cases c5 : q = 11
      · simp [c, c5]
      by_cases c6 : q = 10
      · simp [c, c6]
      by_cases c7 : q = 9
      · simp [c, c7]
      by_cases c8 : q = 8
      · simp [c, c8]
      by_cases c9 : q = 7
      · simp [c, c9]
      by_cases c10 : q = 6
      · simp [c, c10]
      have : ¬ (6 ≤ q ∧ q ≤ 15) := by omega
      simp [c, c1, c2, c3, c4, c5, c6, c7, c8, c9, c10, this]
    · simp [c]
  · funext q k
    simp only [LJ2, LI2, LG]
theorem M_isFull {am : Nat} {h : AH} (R : MOK am h) (L : LM) {n : Nat} (hp : L.1 0 8 = nI n) (hn : n ≤ 400) : f_X8_isFull am (pM am L h) = some (decide (n = 400)) := by
  unfold f_X8_isFull
  simp only [R.xgI, hp, Option.bind_some]
  by_cases c : n = 400
  · subst c; simp [nI]
  · have : ¬ nI n = 400 := fun e => c (nI_inj (b := 400) (by omega) (by omega) e)
    simp [c, this]
def wt (L : LM) (g : Int32) : Int32 := L.1 3 g.toNatClampNeg
def U_sign (L : LM) (n : Nat) (p g : Int32) : Int32 × LM := if (inR p (L.1 0 1) && inR g (L.1 0 2)) = true then (if n = 400 then (-8, L) else if hsg L n p g = true then (-4, L) else (nI n, LG L n (row 0 p g (L.1 0 0) (L.1 0 0) (-1) (-1) (-1) (-1) 0) 0)) else (-2, L)
theorem M_sign {am : Nat} {h : AH} (R : MOK am h) (L : LM) {n np ng : Nat} (W : MW L n np ng) (p g : Int32) : f_X8_sign am p g (pM am L h) = some ((U_sign L n p g).1, pM am (U_sign L n p g).2 h) := by
  unfold f_X8_sign U_sign
  simp only [R.xck, M_isParty R L, M_isAgreement R L, M_isFull R L W.1 W.2.1, M_hasSign R L W.1 W.2.1, Option.bind_some, b2i_z]
  cases c1 : inR p (L.1 0 1)
  · simp
  · cases c2 : inR g (L.1 0 2)
    · simp
    · by_cases c3 : n = 400
      · simp [c3]
      · have hn : n < 400 := by have := W.2.1; omega
        cases c4 : hsg L n p g
        · simp [c3, M_lodge R L W.1 hn]
        · simp [c3]
theorem M_wt {am : Nat} {h : AH} (R : MOK am h) (L : LM) {n np ng : Nat} (W : MW L n np ng) {g : Int32} (hg : inR g (L.1 0 2) = true) : lI 10 (pM am L h) (some (am + 3)) g = some (wt L g) := by
  rw [W.2.2.2.2.2.2.1] at hg
  have hng := W.2.2.2.2.2.2.2.1
  obtain ⟨g', h1, rfl⟩ := inR_of (by omega) hg
  rw [mL3 R L g' (by omega)]
  unfold wt
  rw [nIt (by omega)]
def U_ratify (L : LM) (n : Nat) (p g : Int32) : Int32 × LM := if (inR p (L.1 0 1) && inR g (L.1 0 2)) = true then (if n = 400 then (-8, L) else if hsg L n p g = true then (if (blg L n p g).isSome = true then (-4, L) else (nI n, LG L n (row 1 p g (L.1 0 0) (L.1 0 0 + wt L g) (-1) (-1) (-1) (-1) 0) 0)) else (-5, L)) else (-2, L)
theorem oi_blg {L : LM} {n : Nat} (hn : n ≤ 400) {p g : Int32} {x : Nat} (h : blg L n p g = some x) : ¬ nI x = -1 := nI_m1 (by have := blg_lt h; omega)
theorem M_ratify {am : Nat} {h : AH} (R : MOK am h) (L : LM) {n np ng : Nat} (W : MW L n np ng) (p g : Int32) : f_X8_ratify am p g (pM am L h) = some ((U_ratify L n p g).1, pM am (U_ratify L n p g).2 h) := by
  unfold f_X8_ratify U_ratify
  simp only [R.xck, M_isParty R L, M_isAgreement R L, M_isFull R L W.1 W.2.1, M_hasSign R L W.1 W.2.1, M_belongs R L W.1 W.2.1, mR5 R, Option.bind_some, b2i_z]
  cases c1 : inR p (L.1 0 1)
  · simp
  · cases c2 : inR g (L.1 0 2)
    · simp
    · by_cases c3 : n = 400
      · simp [c3]
      · have hn : n < 400 := by have := W.2.1; omega
        cases c4 : hsg L n p g
        · simp [c3]
        · cases c5 : blg L n p g with
          | none => simp [c3, oi_n, M_wt R L W c2, M_lodge R L W.1 hn]
          | some m => simp [c3, oi_s, oi_blg W.2.1 c5]
def U_join (L : LM) (n : Nat) (p g : Int32) : Int32 × LM := if (inR p (L.1 0 1) && inR g (L.1 0 2)) = true then (if n = 400 then (-8, L) else if (blg L n p g).isSome = true then (-4, L) else (nI n, LG L n (row 2 p g (L.1 0 0) (L.1 0 0 + wt L g) (-1) (-1) (-1) (-1) 0) 0)) else (-2, L)
theorem M_join {am : Nat} {h : AH} (R : MOK am h) (L : LM) {n np ng : Nat} (W : MW L n np ng) (p g : Int32) : f_X8_join am p g (pM am L h) = some ((U_join L n p g).1, pM am (U_join L n p g).2 h) := by
  unfold f_X8_join U_join
  simp only [R.xck, M_isParty R L, M_isAgreement R L, M_isFull R L W.1 W.2.1, M_belongs R L W.1 W.2.1, mR5 R, Option.bind_some, b2i_z]
  cases c1 : inR p (L.1 0 1)
  · simp
  · cases c2 : inR g (L.1 0 2)
    · simp
    · by_cases c3 : n = 400
      · simp [c3]
      · have hn : n < 400 := by have := W.2.1; omega
        cases c5 : blg L n p g with
        | none => simp [c3, oi_n, M_wt R L W c2, M_lodge R L W.1 hn]
        | some m => simp [c3, oi_s, oi_blg W.2.1 c5]
theorem arB_g {L : LM} {g a : Int32} (h : arB L g a = true) : inR g (L.1 0 2) = true := by
  unfold arB at h
  rw [Bool.and_eq_true] at h
  exact h.1
def U_reserve (L : LM) (n : Nat) (p g a s : Int32) : Int32 × LM := if (inR p (L.1 0 1) && arB L g a && decide (¬ s < 0) && decide (s ≤ 1000000)) = true then (if n = 400 then (-8, L) else match blg L n p g with
  | none => (-6, L)
  | some m => (nI n, LG L n (row 3 p g (L.1 0 0) (L.1 0 0 + wt L g) (-1) (nI m) a s 0) 0)) else (-2, L)
theorem M_isArt {am : Nat} {h : AH} (R : MOK am h) (L : LM) {n np ng : Nat} (W : MW L n np ng) (g a : Int32) : f_X8_isArticle am g a (pM am L h) = some (arB L g a) := M_isArticle R L W.2.2.2.2.2.2.1 W.2.2.2.2.2.2.2.1 g a
theorem M_reserve {am : Nat} {h : AH} (R : MOK am h) (L : LM) {n np ng : Nat} (W : MW L n np ng) (p g a s : Int32) : f_X8_reserve am p g a s (pM am L h) = some ((U_reserve L n p g a s).1, pM am (U_reserve L n p g a s).2 h) := by
  unfold f_X8_reserve U_reserve
  simp only [R.xck, M_isParty R L, M_isArt R L W, M_isFull R L W.1 W.2.1, M_belongs R L W.1 W.2.1, mR5 R, Option.bind_some, b2i_z]
  cases c1 : inR p (L.1 0 1)
  · simp
  · cases c2 : arB L g a
    · simp
    · by_cases c6 : s < 0
      · simp [c6]
      · by_cases c7 : s ≤ 1000000
        · by_cases c3 : n = 400
          · simp [c3, c6, c7]
          · have hn : n < 400 := by have := W.2.1; omega
            cases c5 : blg L n p g with
            | none => simp [c3, oi_n, c6, c7]
            | some m => simp [c3, c6, c7, oi_s, oi_blg W.2.1 c5, M_wt R L W (arB_g c2), M_lodge R L W.1 hn, mR16 R, mR17 R, fun L' v => mS13 R L' n v hn, fun L' v => mS14 R L' n v hn, row_13, row_14]
        · simp [c6, c7]
def U_change (L : LM) (n : Nat) (p g a s : Int32) : Int32 × LM := if (inR p (L.1 0 1) && arB L g a && decide (¬ s < 1) && decide (s ≤ 1000000)) = true then (if n = 400 then (-8, L) else match blg L n p g with
  | none => (-6, L)
  | some m => (nI n, LG L n (row 6 p g (L.1 0 0) (L.1 0 0) (-1) (nI m) a s 0) 0)) else (-2, L)
theorem M_change {am : Nat} {h : AH} (R : MOK am h) (L : LM) {n np ng : Nat} (W : MW L n np ng) (p g a s : Int32) : f_X8_change am p g a s (pM am L h) = some ((U_change L n p g a s).1, pM am (U_change L n p g a s).2 h) := by
  unfold f_X8_change U_change
  simp only [R.xck, M_isParty R L, M_isArt R L W, M_isFull R L W.1 W.2.1, M_belongs R L W.1 W.2.1, Option.bind_some, b2i_z]
  cases c1 : inR p (L.1 0 1)
  · simp
  · cases c2 : arB L g a
    · simp
    · by_cases c6 : s < 1
      · simp [c6]
      · by_cases c7 : s ≤ 1000000
        · by_cases c3 : n = 400
          · simp [c3, c6, c7]
          · have hn : n < 400 := by have := W.2.1; omega
            cases c5 : blg L n p g with
            | none => simp [c3, oi_n, c6, c7]
            | some m => simp [c3, c6, c7, oi_s, oi_blg W.2.1 c5, M_lodge R L W.1 hn, mR16 R, mR17 R, fun L' v => mS13 R L' n v hn, fun L' v => mS14 R L' n v hn, row_13, row_14]
        · simp [c6, c7]
/-- all but a NOTE is about an AGREEMENT -/
def AB (L : LM) (n ng : Nat) : Prop := ∀ x, x < n → ¬ L.1 6 x = 9 → ∃ g, g < ng ∧ L.1 8 x = nI g
theorem AB_in {L : LM} {n np ng : Nat} (W : MW L n np ng) (A : AB L n ng) {x : Nat} (hx : x < n) (hk : ¬ L.1 6 x = 9) : inR (L.1 8 x) (L.1 0 2) = true := by
  obtain ⟨g, h1, h2⟩ := A x hx hk
  have hng := W.2.2.2.2.2.2.2.1
  rw [h2, W.2.2.2.2.2.2.1, inR_nI (by omega) (by omega)]
  exact decide_eq_true h1
def U_object (L : LM) (n : Nat) (p r : Int32) (fl : Int32) : Int32 × LM := if (inR p (L.1 0 1) && inR r (L.1 0 8)) = true then (if L.1 6 r.toNatClampNeg = 3 then (if n = 400 then (-8, L) else match blg L n p (L.1 8 r.toNatClampNeg) with
  | none => (-6, L)
  | some m => if hlB L n r.toNatClampNeg m (L.1 0 0) = true then (-7, L) else if L.1 0 0 ≤ L.1 9 r.toNatClampNeg + L.1 4 (L.1 8 r.toNatClampNeg).toNatClampNeg then (if said L n 4 p r (nI m) = true then (-4, L) else (nI n, LG L n (row 4 p (L.1 8 r.toNatClampNeg) (L.1 0 0) (L.1 0 0) r (nI m) (-1) (-1) fl) 0)) else (-3, L)) else (-2, L)) else (-2, L)
theorem M_object {am : Nat} {h : AH} (R : MOK am h) (L : LM) {n np ng : Nat} (W : MW L n np ng) (A : AB L n ng) (p r : Int32) (fl : Bool) : f_X8_object am p r (b2i fl) (pM am L h) = some ((U_object L n p r (b2i fl)).1, pM am (U_object L n p r (b2i fl)).2 h) := by
  unfold f_X8_object U_object
  simp only [R.xck, M_isParty R L, M_isPaper R L, M_isFull R L W.1 W.2.1, M_belongs R L W.1 W.2.1, M_isSaid R L W.1 W.2.1, R.xgI, mR5 R, mR6 R, mR9 R, mR11 R, mR12 R, Option.bind_some, b2i_z]
  cases c1 : inR p (L.1 0 1)
  · simp
  · cases c2 : inR r (L.1 0 8)
    · simp
    · rw [W.1] at c2
      have hn4 := W.2.1
      obtain ⟨x, hx, rfl⟩ := inR_of (by omega) c2
      have hx4 : x < 400 := by omega
      simp only [mL6 R L x hx4, mL8 R L x hx4, mL9 R L x hx4, Option.bind_some, nIt (show x < 1000 by omega)]
      by_cases c4 : L.1 6 x = 3
      · by_cases c3 : n = 400
        · simp [c3, c4]
        · have hn : n < 400 := by omega
          obtain ⟨g, hg, eg⟩ := A x hx (by rw [c4]; decide)
          have hg' : g < 10 := by have := W.2.2.2.2.2.2.2.1; omega
          rw [eg]
          cases c5 : blg L n p (nI g) with
          | none => simp [c3, c4, oi_n]
          | some m =>
            have hm := blg_lt c5
            simp only [c4, c3, if_true, if_false, oi_s, oi_blg W.2.1 c5, M_isHeld R L W.1 W.2.1 W.2.2.1 hx hm, Option.bind_some, mL4 R L g hg', nIt (show g < 1000 by omega), b2i_z, decide_false]
            cases c6 : hlB L n x m (L.1 0 0)
            · by_cases c7 : L.1 0 0 ≤ L.1 9 x + L.1 4 g
              · by_cases c8 : said L n 4 p (nI x) (nI m) = true
                · simp [c7, c8]
                · have c8' : said L n 4 p (nI x) (nI m) = false := by simpa using c8
                  simp only [c7, c8', if_true, if_false, Option.bind_some, M_lodge R L W.1 hn, mR18 R, f_X8_object_150, Int32.add_zero]
                  cases fl <;> simp [b2i, fun L' v => mS15 R L' n v hn, row_15]
              · simp [c7]
            · simp
      · simp [c4]
def U_withdraw (L : LM) (n : Nat) (p x : Int32) : Int32 × LM := if (inR p (L.1 0 1) && inR x (L.1 0 8)) = true then (if (isM L x.toNatClampNeg || decide (L.1 6 x.toNatClampNeg = 3) || decide (L.1 6 x.toNatClampNeg = 4) || decide (L.1 6 x.toNatClampNeg = 7)) = true then (if n = 400 then (-8, L) else match blg L n p (L.1 8 x.toNatClampNeg) with
  | none => (-6, L)
  | some m => if (decide (x = nI m) || (!decide (L.1 12 x.toNatClampNeg = -1) && hlB L n x.toNatClampNeg m (L.1 0 0))) = true then (if wdn L n x = true then (-4, L) else (nI n, LG L n (row 5 p (L.1 8 x.toNatClampNeg) (L.1 0 0) (L.1 0 0 + wt L (L.1 8 x.toNatClampNeg)) x (-1) (-1) (-1) 0) 0)) else (-7, L)) else (-2, L)) else (-2, L)
theorem M_withdraw {am : Nat} {h : AH} (R : MOK am h) (L : LM) {n np ng : Nat} (W : MW L n np ng) (A : AB L n ng) (p x : Int32) : f_X8_withdraw am p x (pM am L h) = some ((U_withdraw L n p x).1, pM am (U_withdraw L n p x).2 h) := by
  unfold f_X8_withdraw U_withdraw
  simp only [R.xck, M_isParty R L, M_isPaper R L, Option.bind_some, b2i_z]
  unfold f_X8_withdraw_20 f_X8_withdraw_21
  cases c1 : inR p (L.1 0 1)
  · simp
  · cases c2 : inR x (L.1 0 8)
    · simp
    · rw [W.1] at c2
      have hn4 := W.2.1
      obtain ⟨x, hx, rfl⟩ := inR_of (by omega) c2
      have hx4 : x < 400 := by omega
      have h68 : isM L x = true ∨ L.1 6 x = 3 ∨ L.1 6 x = 4 ∨ L.1 6 x = 7 → f_X8_withdraw_68 am p (nI x) (pM am L h) = some (match blg L n p (L.1 8 x) with
          | none => if n = 400 then (-8, pM am L h) else (-6, pM am L h)
          | some m => if n = 400 then (-8, pM am L h) else if (decide (nI x = nI m) || (!decide (L.1 12 x = -1) && hlB L n x m (L.1 0 0))) = true then (if wdn L n (nI x) = true then (-4, pM am L h) else (nI n, pM am (LG L n (row 5 p (L.1 8 x) (L.1 0 0) (L.1 0 0 + wt L (L.1 8 x)) (nI x) (-1) (-1) (-1) 0) 0) h)) else (-7, pM am L h)) := by
        intro hk
        have hin : inR (L.1 8 x) (L.1 0 2) = true := AB_in W A hx (by
          intro e
          simp only [isM, e] at hk
          revert hk
          decide)
        unfold f_X8_withdraw_68 f_X8_withdraw_133
        simp only [R.xck, M_isFull R L W.1 W.2.1, mR11 R, mL8 R L x hx4, mR15 R, mL12 R L x hx4, R.xgI, M_belongs R L W.1 W.2.1, M_isWithdrawn R L W.1 W.2.1, mR5 R, M_wt R L W hin, Option.bind_some, b2i_z]
        by_cases c3 : n = 400
        · cases blg L n p (L.1 8 x) <;> simp [c3]
        · have hn : n < 400 := by omega
          cases c5 : blg L n p (L.1 8 x) with
          | none => simp [c3, oi_n]
          | some m =>
            have hm := blg_lt c5
            simp only [c3, oi_s, oi_blg W.2.1 c5, M_isHeld R L W.1 W.2.1 W.2.2.1 hx hm, M_lodge R L W.1 hn, Option.bind_some, b2i_z, if_false, decide_false]
            by_cases c6 : nI x = nI m
            · cases c7 : wdn L n (nI x)
              · simp [c6]
              · simp [c6]
            · by_cases c8 : L.1 12 x = -1
              · simp [c6, c8]
              · cases c9 : hlB L n x m (L.1 0 0)
                · simp [c6, c8]
                · cases c7 : wdn L n (nI x)
                  · simp [c6, c8]
                  · simp [c6, c8]
      have h68' : (isM L x = true ∨ L.1 6 x = 3 ∨ L.1 6 x = 4 ∨ L.1 6 x = 7) → f_X8_withdraw_68 am p (nI x) (pM am L h) = some ((if n = 400 then ((-8 : Int32), L) else match blg L n p (L.1 8 x) with
          | none => (-6, L)
          | some m => if (decide (nI x = nI m) || (!decide (L.1 12 x = -1) && hlB L n x m (L.1 0 0))) = true then (if wdn L n (nI x) = true then (-4, L) else (nI n, LG L n (row 5 p (L.1 8 x) (L.1 0 0) (L.1 0 0 + wt L (L.1 8 x)) (nI x) (-1) (-1) (-1) 0) 0)) else (-7, L)).1, pM am (if n = 400 then ((-8 : Int32), L) else match blg L n p (L.1 8 x) with
          | none => (-6, L)
          | some m => if (decide (nI x = nI m) || (!decide (L.1 12 x = -1) && hlB L n x m (L.1 0 0))) = true then (if wdn L n (nI x) = true then (-4, L) else (nI n, LG L n (row 5 p (L.1 8 x) (L.1 0 0) (L.1 0 0 + wt L (L.1 8 x)) (nI x) (-1) (-1) (-1) 0) 0)) else (-7, L)).2 h) := by
        intro hk
        rw [h68 hk]
        cases blg L n p (L.1 8 x) with
        | none => by_cases c3 : n = 400 <;> simp [c3]
        | some m =>
          by_cases c3 : n = 400
          · simp [c3]
          · simp only [c3, if_false]
            split
            · split <;> rfl
            · rfl
      simp only [R.xck, M_isMembership R L hx4, mR9 R, mL6 R L x hx4, Option.bind_some, nIt (show x < 1000 by omega), b2i_z]
      cases d1 : isM L x
      · by_cases d2 : L.1 6 x = 3
        · simp [d2, h68' (Or.inr (Or.inl d2))]
        · by_cases d3 : L.1 6 x = 4
          · simp [d3, h68' (Or.inr (Or.inr (Or.inl d3)))]
          · by_cases d4 : L.1 6 x = 7
            · simp [d4, h68' (Or.inr (Or.inr (Or.inr d4)))]
            · simp [d2, d3, d4]
      · simp [h68' (Or.inl d1)]
def U_consent (L : LM) (n : Nat) (p r : Int32) : Int32 × LM := if (inR p (L.1 0 1) && inR r (L.1 0 8)) = true then (if L.1 6 r.toNatClampNeg = 6 then (if n = 400 then (-8, L) else match blg L n p (L.1 8 r.toNatClampNeg) with
  | none => (-6, L)
  | some m => if said L n 7 p r (nI m) = true then (-4, L) else (nI n, LG L n (row 7 p (L.1 8 r.toNatClampNeg) (L.1 0 0) (L.1 0 0 + wt L (L.1 8 r.toNatClampNeg)) r (nI m) (-1) (-1) 0) 0)) else (-2, L)) else (-2, L)
theorem M_consent {am : Nat} {h : AH} (R : MOK am h) (L : LM) {n np ng : Nat} (W : MW L n np ng) (A : AB L n ng) (p r : Int32) : f_X8_consent am p r (pM am L h) = some ((U_consent L n p r).1, pM am (U_consent L n p r).2 h) := by
  unfold f_X8_consent U_consent
  simp only [R.xck, M_isParty R L, M_isPaper R L, M_isFull R L W.1 W.2.1, M_belongs R L W.1 W.2.1, M_isSaid R L W.1 W.2.1, R.xgI, mR5 R, mR9 R, mR11 R, Option.bind_some, b2i_z]
  cases c1 : inR p (L.1 0 1)
  · simp
  · cases c2 : inR r (L.1 0 8)
    · simp
    · rw [W.1] at c2
      have hn4 := W.2.1
      obtain ⟨x, hx, rfl⟩ := inR_of (by omega) c2
      have hx4 : x < 400 := by omega
      simp only [mL6 R L x hx4, mL8 R L x hx4, Option.bind_some, nIt (show x < 1000 by omega)]
      by_cases c4 : L.1 6 x = 6
      · by_cases c3 : n = 400
        · simp [c3, c4]
        · have hn : n < 400 := by omega
          have hin : inR (L.1 8 x) (L.1 0 2) = true := AB_in W A hx (by rw [c4]; decide)
          cases c5 : blg L n p (L.1 8 x) with
          | none => simp [c3, c4, oi_n]
          | some m =>
            simp only [c4, c3, if_true, if_false, oi_s, oi_blg W.2.1 c5, Option.bind_some, M_wt R L W hin, b2i_z, decide_false]
            cases c8 : said L n 7 p (nI x) (nI m)
            · simp [M_lodge R L W.1 hn]
            · simp
      · simp [c4]
def U_follow (L : LM) (n : Nat) (p q g fl : Int32) : Int32 × LM := if (inR p (L.1 0 1) && inR q (L.1 0 1) && inR g (L.1 0 2)) = true then (if n = 400 then (-8, L) else if p = q then (-4, L) else if (blg L n p g).isSome = true then (-4, L) else match blg L n q g with
  | none => (-6, L)
  | some m => (nI n, LG L n (row 8 p g (L.1 0 0) (L.1 0 0 + wt L g) (nI m) (-1) (-1) (-1) fl) 0)) else (-2, L)
theorem M_follow {am : Nat} {h : AH} (R : MOK am h) (L : LM) {n np ng : Nat} (W : MW L n np ng) (p q g : Int32) (fl : Bool) : f_X8_follow am p q g (b2i fl) (pM am L h) = some ((U_follow L n p q g (b2i fl)).1, pM am (U_follow L n p q g (b2i fl)).2 h) := by
  unfold f_X8_follow U_follow
  simp only [R.xck, M_isParty R L, M_isAgreement R L, M_isFull R L W.1 W.2.1, M_belongs R L W.1 W.2.1, mR5 R, Option.bind_some, b2i_z]
  cases c1 : inR p (L.1 0 1)
  · simp
  · cases c0 : inR q (L.1 0 1)
    · simp
    · cases c2 : inR g (L.1 0 2)
      · simp
      · by_cases c3 : n = 400
        · simp [c3]
        · have hn : n < 400 := by have := W.2.1; omega
          by_cases c4 : p = q
          · simp [c3, c4]
          · cases c5 : blg L n p g with
            | some m => simp [c3, c4, oi_s, oi_blg W.2.1 c5]
            | none =>
              cases c6 : blg L n q g with
              | none => simp [c3, c4, oi_n]
              | some m =>
                simp only [c3, c4, oi_s, oi_n, oi_blg W.2.1 c6, M_wt R L W c2, M_lodge R L W.1 hn, mR18 R, f_X8_follow_107, Option.bind_some, if_true, if_false]
                cases fl <;> simp [b2i, fun L' v => mS15 R L' n v hn, row_15]
def U_note (L : LM) (n : Nat) (v : Int64) : Int32 × LM := if n = 400 then (-8, L) else (nI n, LG L n (row 9 (-1) (-1) (L.1 0 0) (L.1 0 0) (-1) (-1) (-1) (-1) 0) v)
theorem M_note {am : Nat} {h : AH} (R : MOK am h) (L : LM) {n np ng : Nat} (W : MW L n np ng) (v : Int64) : f_X8_note am v (pM am L h) = some ((U_note L n v).1, pM am (U_note L n v).2 h) := by
  unfold f_X8_note U_note
  simp only [R.xck, M_isFull R L W.1 W.2.1, Option.bind_some, b2i_z]
  by_cases c3 : n = 400
  · simp [c3]
  · have hn : n < 400 := by have := W.2.1; omega
    simp [c3, M_lodge R L W.1 hn, mR19 R, fun L' v => mS16 R L' n v hn, LG_z]
def U_undo (L : LM) (n : Nat) : Int32 × LM := match n with
  | 0 => (-1, L)
  | n + 1 => if L.1 9 n = L.1 0 0 then (nI n, LI L 0 8 (nI n)) else (-1, L)
theorem M_undo {am : Nat} {h : AH} (R : MOK am h) (L : LM) {n np ng : Nat} (W : MW L n np ng) : f_X8_undo am (pM am L h) = some ((U_undo L n).1, pM am (U_undo L n).2 h) := by
  unfold f_X8_undo U_undo
  simp only [R.xgI, R.xpI, W.1, Option.bind_some]
  cases n with
  | zero => simp [nI_0]
  | succ n =>
    have hn : n < 400 := by have := W.2.1; omega
    have h0 : ¬ nI (n + 1) = 0 := by
      intro e
      have := nI_inj (b := 0) (show n + 1 < 2 ^ 31 by omega) (by omega) e
      omega
    simp only [h0, if_false, nI_sub1, nI_m1', mR12 R, mL9 R L n hn, Option.bind_some]
    by_cases c : L.1 9 n = L.1 0 0
    · simp [c, LI1]
    · simp [c]
