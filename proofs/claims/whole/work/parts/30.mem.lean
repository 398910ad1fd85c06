/-! PURE 1: the reference's own memory: 23 cells in a row, the object and its arrays. L.1 p k: the ints of cell p (0: the object's fields), L.2 p k: its longs.
 p: 0 object (0 clock, 1 parties, 2 agreements, 8 papers, 20 answer, 21 answerWords), 1 articles 2 needed 3 wait 4 span 5 text 6 kind 7 party 8 about 9 lodged 10 effect 11 names 12 of 13 article 14 said 15 flag 16 noted(long) 17 why 18 annexes 19 width 20 size 21 numbers(long) 22 taken(long) -/
abbrev LM : Type := (Nat → Nat → Int32) × (Nat → Nat → Int64)
def LI (L : LM) (p k : Nat) (v : Int32) : LM := (u2 L.1 p k v, L.2)
def LJ (L : LM) (p k : Nat) (v : Int64) : LM := (L.1, u2 L.2 p k v)
theorem LI1 (L : LM) (p k : Nat) (v : Int32) (q j : Nat) : (LI L p k v).1 q j = if q = p ∧ j = k then v else L.1 q j := rfl
theorem LI2 (L : LM) (p k : Nat) (v : Int32) : (LI L p k v).2 = L.2 := rfl
theorem LJ1 (L : LM) (p k : Nat) (v : Int64) : (LJ L p k v).1 = L.1 := rfl
theorem LJ2 (L : LM) (p k : Nat) (v : Int64) (q j : Nat) : (LJ L p k v).2 q j = if q = p ∧ j = k then v else L.2 q j := rfl
/-- the heap with the reference's cells holding L -/
def pM (am : Nat) (L : LM) (h : AH) : AH := (h.1, h.2.1, fun a k => if am ≤ a ∧ a < am + 23 then L.1 (a - am) k else hI h a k, fun a k => if am ≤ a ∧ a < am + 23 then L.2 (a - am) k else hJ h a k, h.2.2.2.2)
theorem pM_pM (am : Nat) (L L' : LM) (h : AH) : pM am L (pM am L' h) = pM am L h := by
  unfold pM hI hJ
  refine Prod.ext rfl (Prod.ext rfl (Prod.ext ?_ (Prod.ext ?_ rfl)))
  · funext a k
    by_cases c : am ≤ a ∧ a < am + 23 <;> simp [c]
  · funext a k
    by_cases c : am ≤ a ∧ a < am + 23 <;> simp [c]
theorem hk_pM (am : Nat) (L : LM) (h : AH) : hk (pM am L h) = hk h := rfl
theorem hR_pM (am : Nat) (L : LM) (h : AH) : hR (pM am L h) = hR h := rfl
theorem hz_pM (am : Nat) (L : LM) (h : AH) : hz (pM am L h) = hz h := rfl
theorem hI_pM (am : Nat) (L : LM) (h : AH) (a k : Nat) : hI (pM am L h) a k = if am ≤ a ∧ a < am + 23 then L.1 (a - am) k else hI h a k := rfl
theorem hJ_pM (am : Nat) (L : LM) (h : AH) (a k : Nat) : hJ (pM am L h) a k = if am ≤ a ∧ a < am + 23 then L.2 (a - am) k else hJ h a k := rfl
theorem sI_pM (am : Nat) (L : LM) (h : AH) (p k : Nat) (v : Int32) (hp : p < 23) : sI (pM am L h) (am + p) k v = pM am (LI L p k v) h := by
  unfold sI pM LI
  refine Prod.ext rfl (Prod.ext rfl (Prod.ext ?_ (Prod.ext rfl rfl)))
  funext a j
  simp only [u2]
  by_cases c : a = am + p ∧ j = k
  · rw [if_pos c, c.1, if_pos (by omega), if_pos ⟨by omega, c.2⟩]
  · rw [if_neg c]
    by_cases c2 : am ≤ a ∧ a < am + 23
    · rw [if_pos c2, if_pos c2, if_neg (by omega)]
    · rw [if_neg c2, if_neg c2]
theorem sJ_pM (am : Nat) (L : LM) (h : AH) (p k : Nat) (v : Int64) (hp : p < 23) : sJ (pM am L h) (am + p) k v = pM am (LJ L p k v) h := by
  unfold sJ pM LJ
  refine Prod.ext rfl (Prod.ext rfl (Prod.ext rfl (Prod.ext ?_ rfl)))
  funext a j
  simp only [u2]
  by_cases c : a = am + p ∧ j = k
  · rw [if_pos c, c.1, if_pos (by omega), if_pos ⟨by omega, c.2⟩]
  · rw [if_neg c]
    by_cases c2 : am ≤ a ∧ a < am + 23
    · rw [if_pos c2, if_pos c2, if_neg (by omega)]
    · rw [if_neg c2, if_neg c2]
/-- the reference's cells are there -/
def mty (p : Nat) : Nat × Nat := match p with
  | 1 => (10, 10)
  | 2 => (10, 10)
  | 3 => (10, 10)
  | 4 => (10, 10)
  | 5 => (10, 200)
  | 6 => (10, 400)
  | 7 => (10, 400)
  | 8 => (10, 400)
  | 9 => (10, 400)
  | 10 => (10, 400)
  | 11 => (10, 400)
  | 12 => (10, 400)
  | 13 => (10, 400)
  | 14 => (10, 400)
  | 15 => (10, 400)
  | 16 => (11, 400)
  | 17 => (12, 400)
  | 18 => (10, 10)
  | 19 => (10, 80)
  | 20 => (10, 80)
  | 21 => (11, 8000)
  | 22 => (11, 100)
  | _ => (8, 0)
def mfp (f : Nat) : Nat := match f with
  | 3 => 1
  | 4 => 2
  | 5 => 3
  | 6 => 4
  | 7 => 5
  | 9 => 6
  | 10 => 7
  | 11 => 8
  | 12 => 9
  | 13 => 10
  | 14 => 11
  | 15 => 12
  | 16 => 13
  | 17 => 14
  | 18 => 15
  | 19 => 16
  | 22 => 17
  | 23 => 18
  | 24 => 19
  | 25 => 20
  | 26 => 21
  | 27 => 22
  | _ => 0
def MOK (am : Nat) (h : AH) : Prop := (∀ p, p < 23 → hk h (am + p) = some (mty p)) ∧ ∀ f, f < 28 → 0 < mfp f → hR h am f = some (am + mfp f)
theorem MOK.xck {am : Nat} {h : AH} (R : MOK am h) (L : LM) : ck 8 (pM am L h) (some am) = some am := by
  have := R.1 0 (by omega)
  unfold ck
  rw [hk_pM]
  simp only [Nat.add_zero] at this
  simp [this, mty]
theorem MOK.xgI {am : Nat} {h : AH} (R : MOK am h) (L : LM) (f : Nat) : gI 8 f (pM am L h) (some am) = some (L.1 0 f) := by
  unfold gI
  rw [R.xck]
  simp [hI_pM]
theorem MOK.xpI {am : Nat} {h : AH} (R : MOK am h) (L : LM) (f : Nat) (v : Int32) : pI 8 f (pM am L h) (some am) v = some (pM am (LI L 0 f v) h) := by
  unfold pI
  rw [R.xck]
  have := sI_pM am L h 0 f v (by omega)
  simp only [Nat.add_zero] at this
  simp [this]
theorem MOK.xgR {am : Nat} {h : AH} (R : MOK am h) (L : LM) (f : Nat) (hf : f < 28) (h0 : 0 < mfp f) : gR 8 f (pM am L h) (some am) = some (some (am + mfp f)) := by
  unfold gR
  rw [R.xck]
  simp [hR_pM, R.2 f hf h0]
theorem MOK.xca {am : Nat} {h : AH} (R : MOK am h) (L : LM) (p x : Nat) (hp : p < 23) (t n : Nat) (hm : mty p = (t, n)) (hx : x < n) (hn : n < 10000) : ca t (pM am L h) (some (am + p)) (nI x) = some (am + p, x) := by
  unfold ca
  simp only [hk_pM, R.1 p hp, hm]
  have h1 : ¬ nI x < 0 := nI_pos (by omega)
  have h2 : (nI x).toNatClampNeg = x := nI_clamp (by omega)
  have h3 : ¬ (nI x < 0 ∨ n ≤ (nI x).toNatClampNeg) := by
    rw [h2]
    intro q
    rcases q with q | q
    · exact h1 q
    · omega
  rw [if_pos ⟨trivial, h3⟩, h2]

theorem mR3 {am : Nat} {h : AH} (R : MOK am h) (L : LM) : gR 8 3 (pM am L h) (some am) = some (some (am + 1)) := R.xgR L 3 (by decide) (by decide)
theorem mR4 {am : Nat} {h : AH} (R : MOK am h) (L : LM) : gR 8 4 (pM am L h) (some am) = some (some (am + 2)) := R.xgR L 4 (by decide) (by decide)
theorem mR5 {am : Nat} {h : AH} (R : MOK am h) (L : LM) : gR 8 5 (pM am L h) (some am) = some (some (am + 3)) := R.xgR L 5 (by decide) (by decide)
theorem mR6 {am : Nat} {h : AH} (R : MOK am h) (L : LM) : gR 8 6 (pM am L h) (some am) = some (some (am + 4)) := R.xgR L 6 (by decide) (by decide)
theorem mR7 {am : Nat} {h : AH} (R : MOK am h) (L : LM) : gR 8 7 (pM am L h) (some am) = some (some (am + 5)) := R.xgR L 7 (by decide) (by decide)
theorem mR9 {am : Nat} {h : AH} (R : MOK am h) (L : LM) : gR 8 9 (pM am L h) (some am) = some (some (am + 6)) := R.xgR L 9 (by decide) (by decide)
theorem mR10 {am : Nat} {h : AH} (R : MOK am h) (L : LM) : gR 8 10 (pM am L h) (some am) = some (some (am + 7)) := R.xgR L 10 (by decide) (by decide)
theorem mR11 {am : Nat} {h : AH} (R : MOK am h) (L : LM) : gR 8 11 (pM am L h) (some am) = some (some (am + 8)) := R.xgR L 11 (by decide) (by decide)
theorem mR12 {am : Nat} {h : AH} (R : MOK am h) (L : LM) : gR 8 12 (pM am L h) (some am) = some (some (am + 9)) := R.xgR L 12 (by decide) (by decide)
theorem mR13 {am : Nat} {h : AH} (R : MOK am h) (L : LM) : gR 8 13 (pM am L h) (some am) = some (some (am + 10)) := R.xgR L 13 (by decide) (by decide)
theorem mR14 {am : Nat} {h : AH} (R : MOK am h) (L : LM) : gR 8 14 (pM am L h) (some am) = some (some (am + 11)) := R.xgR L 14 (by decide) (by decide)
theorem mR15 {am : Nat} {h : AH} (R : MOK am h) (L : LM) : gR 8 15 (pM am L h) (some am) = some (some (am + 12)) := R.xgR L 15 (by decide) (by decide)
theorem mR16 {am : Nat} {h : AH} (R : MOK am h) (L : LM) : gR 8 16 (pM am L h) (some am) = some (some (am + 13)) := R.xgR L 16 (by decide) (by decide)
theorem mR17 {am : Nat} {h : AH} (R : MOK am h) (L : LM) : gR 8 17 (pM am L h) (some am) = some (some (am + 14)) := R.xgR L 17 (by decide) (by decide)
theorem mR18 {am : Nat} {h : AH} (R : MOK am h) (L : LM) : gR 8 18 (pM am L h) (some am) = some (some (am + 15)) := R.xgR L 18 (by decide) (by decide)
theorem mR19 {am : Nat} {h : AH} (R : MOK am h) (L : LM) : gR 8 19 (pM am L h) (some am) = some (some (am + 16)) := R.xgR L 19 (by decide) (by decide)
theorem mR22 {am : Nat} {h : AH} (R : MOK am h) (L : LM) : gR 8 22 (pM am L h) (some am) = some (some (am + 17)) := R.xgR L 22 (by decide) (by decide)
theorem mR23 {am : Nat} {h : AH} (R : MOK am h) (L : LM) : gR 8 23 (pM am L h) (some am) = some (some (am + 18)) := R.xgR L 23 (by decide) (by decide)
theorem mR24 {am : Nat} {h : AH} (R : MOK am h) (L : LM) : gR 8 24 (pM am L h) (some am) = some (some (am + 19)) := R.xgR L 24 (by decide) (by decide)
theorem mR25 {am : Nat} {h : AH} (R : MOK am h) (L : LM) : gR 8 25 (pM am L h) (some am) = some (some (am + 20)) := R.xgR L 25 (by decide) (by decide)
theorem mR26 {am : Nat} {h : AH} (R : MOK am h) (L : LM) : gR 8 26 (pM am L h) (some am) = some (some (am + 21)) := R.xgR L 26 (by decide) (by decide)
theorem mR27 {am : Nat} {h : AH} (R : MOK am h) (L : LM) : gR 8 27 (pM am L h) (some am) = some (some (am + 22)) := R.xgR L 27 (by decide) (by decide)
theorem mL1 {am : Nat} {h : AH} (R : MOK am h) (L : LM) (x : Nat) (hx : x < 10) : lI 10 (pM am L h) (some (am + 1)) (nI x) = some (L.1 1 x) := by
  unfold lI
  rw [R.xca L 1 x (by decide) 10 10 rfl hx (by decide)]
  simp [hI_pM]
theorem mS1 {am : Nat} {h : AH} (R : MOK am h) (L : LM) (x : Nat) (v : Int32) (hx : x < 10) : stI 10 (pM am L h) (some (am + 1)) (nI x) v = some (pM am (LI L 1 x v) h) := by
  unfold stI
  rw [R.xca L 1 x (by decide) 10 10 rfl hx (by decide)]
  simp [sI_pM]
theorem mL2 {am : Nat} {h : AH} (R : MOK am h) (L : LM) (x : Nat) (hx : x < 10) : lI 10 (pM am L h) (some (am + 2)) (nI x) = some (L.1 2 x) := by
  unfold lI
  rw [R.xca L 2 x (by decide) 10 10 rfl hx (by decide)]
  simp [hI_pM]
theorem mS2 {am : Nat} {h : AH} (R : MOK am h) (L : LM) (x : Nat) (v : Int32) (hx : x < 10) : stI 10 (pM am L h) (some (am + 2)) (nI x) v = some (pM am (LI L 2 x v) h) := by
  unfold stI
  rw [R.xca L 2 x (by decide) 10 10 rfl hx (by decide)]
  simp [sI_pM]
theorem mL3 {am : Nat} {h : AH} (R : MOK am h) (L : LM) (x : Nat) (hx : x < 10) : lI 10 (pM am L h) (some (am + 3)) (nI x) = some (L.1 3 x) := by
  unfold lI
  rw [R.xca L 3 x (by decide) 10 10 rfl hx (by decide)]
  simp [hI_pM]
theorem mS3 {am : Nat} {h : AH} (R : MOK am h) (L : LM) (x : Nat) (v : Int32) (hx : x < 10) : stI 10 (pM am L h) (some (am + 3)) (nI x) v = some (pM am (LI L 3 x v) h) := by
  unfold stI
  rw [R.xca L 3 x (by decide) 10 10 rfl hx (by decide)]
  simp [sI_pM]
theorem mL4 {am : Nat} {h : AH} (R : MOK am h) (L : LM) (x : Nat) (hx : x < 10) : lI 10 (pM am L h) (some (am + 4)) (nI x) = some (L.1 4 x) := by
  unfold lI
  rw [R.xca L 4 x (by decide) 10 10 rfl hx (by decide)]
  simp [hI_pM]
theorem mS4 {am : Nat} {h : AH} (R : MOK am h) (L : LM) (x : Nat) (v : Int32) (hx : x < 10) : stI 10 (pM am L h) (some (am + 4)) (nI x) v = some (pM am (LI L 4 x v) h) := by
  unfold stI
  rw [R.xca L 4 x (by decide) 10 10 rfl hx (by decide)]
  simp [sI_pM]
theorem mL5 {am : Nat} {h : AH} (R : MOK am h) (L : LM) (x : Nat) (hx : x < 200) : lI 10 (pM am L h) (some (am + 5)) (nI x) = some (L.1 5 x) := by
  unfold lI
  rw [R.xca L 5 x (by decide) 10 200 rfl hx (by decide)]
  simp [hI_pM]
theorem mS5 {am : Nat} {h : AH} (R : MOK am h) (L : LM) (x : Nat) (v : Int32) (hx : x < 200) : stI 10 (pM am L h) (some (am + 5)) (nI x) v = some (pM am (LI L 5 x v) h) := by
  unfold stI
  rw [R.xca L 5 x (by decide) 10 200 rfl hx (by decide)]
  simp [sI_pM]
theorem mL6 {am : Nat} {h : AH} (R : MOK am h) (L : LM) (x : Nat) (hx : x < 400) : lI 10 (pM am L h) (some (am + 6)) (nI x) = some (L.1 6 x) := by
  unfold lI
  rw [R.xca L 6 x (by decide) 10 400 rfl hx (by decide)]
  simp [hI_pM]
theorem mS6 {am : Nat} {h : AH} (R : MOK am h) (L : LM) (x : Nat) (v : Int32) (hx : x < 400) : stI 10 (pM am L h) (some (am + 6)) (nI x) v = some (pM am (LI L 6 x v) h) := by
  unfold stI
  rw [R.xca L 6 x (by decide) 10 400 rfl hx (by decide)]
  simp [sI_pM]
theorem mL7 {am : Nat} {h : AH} (R : MOK am h) (L : LM) (x : Nat) (hx : x < 400) : lI 10 (pM am L h) (some (am + 7)) (nI x) = some (L.1 7 x) := by
  unfold lI
  rw [R.xca L 7 x (by decide) 10 400 rfl hx (by decide)]
  simp [hI_pM]
theorem mS7 {am : Nat} {h : AH} (R : MOK am h) (L : LM) (x : Nat) (v : Int32) (hx : x < 400) : stI 10 (pM am L h) (some (am + 7)) (nI x) v = some (pM am (LI L 7 x v) h) := by
  unfold stI
  rw [R.xca L 7 x (by decide) 10 400 rfl hx (by decide)]
  simp [sI_pM]
theorem mL8 {am : Nat} {h : AH} (R : MOK am h) (L : LM) (x : Nat) (hx : x < 400) : lI 10 (pM am L h) (some (am + 8)) (nI x) = some (L.1 8 x) := by
  unfold lI
  rw [R.xca L 8 x (by decide) 10 400 rfl hx (by decide)]
  simp [hI_pM]
theorem mS8 {am : Nat} {h : AH} (R : MOK am h) (L : LM) (x : Nat) (v : Int32) (hx : x < 400) : stI 10 (pM am L h) (some (am + 8)) (nI x) v = some (pM am (LI L 8 x v) h) := by
  unfold stI
  rw [R.xca L 8 x (by decide) 10 400 rfl hx (by decide)]
  simp [sI_pM]
theorem mL9 {am : Nat} {h : AH} (R : MOK am h) (L : LM) (x : Nat) (hx : x < 400) : lI 10 (pM am L h) (some (am + 9)) (nI x) = some (L.1 9 x) := by
  unfold lI
  rw [R.xca L 9 x (by decide) 10 400 rfl hx (by decide)]
  simp [hI_pM]
theorem mS9 {am : Nat} {h : AH} (R : MOK am h) (L : LM) (x : Nat) (v : Int32) (hx : x < 400) : stI 10 (pM am L h) (some (am + 9)) (nI x) v = some (pM am (LI L 9 x v) h) := by
  unfold stI
  rw [R.xca L 9 x (by decide) 10 400 rfl hx (by decide)]
  simp [sI_pM]
theorem mL10 {am : Nat} {h : AH} (R : MOK am h) (L : LM) (x : Nat) (hx : x < 400) : lI 10 (pM am L h) (some (am + 10)) (nI x) = some (L.1 10 x) := by
  unfold lI
  rw [R.xca L 10 x (by decide) 10 400 rfl hx (by decide)]
  simp [hI_pM]
theorem mS10 {am : Nat} {h : AH} (R : MOK am h) (L : LM) (x : Nat) (v : Int32) (hx : x < 400) : stI 10 (pM am L h) (some (am + 10)) (nI x) v = some (pM am (LI L 10 x v) h) := by
  unfold stI
  rw [R.xca L 10 x (by decide) 10 400 rfl hx (by decide)]
  simp [sI_pM]
theorem mL11 {am : Nat} {h : AH} (R : MOK am h) (L : LM) (x : Nat) (hx : x < 400) : lI 10 (pM am L h) (some (am + 11)) (nI x) = some (L.1 11 x) := by
  unfold lI
  rw [R.xca L 11 x (by decide) 10 400 rfl hx (by decide)]
  simp [hI_pM]
theorem mS11 {am : Nat} {h : AH} (R : MOK am h) (L : LM) (x : Nat) (v : Int32) (hx : x < 400) : stI 10 (pM am L h) (some (am + 11)) (nI x) v = some (pM am (LI L 11 x v) h) := by
  unfold stI
  rw [R.xca L 11 x (by decide) 10 400 rfl hx (by decide)]
  simp [sI_pM]
theorem mL12 {am : Nat} {h : AH} (R : MOK am h) (L : LM) (x : Nat) (hx : x < 400) : lI 10 (pM am L h) (some (am + 12)) (nI x) = some (L.1 12 x) := by
  unfold lI
  rw [R.xca L 12 x (by decide) 10 400 rfl hx (by decide)]
  simp [hI_pM]
theorem mS12 {am : Nat} {h : AH} (R : MOK am h) (L : LM) (x : Nat) (v : Int32) (hx : x < 400) : stI 10 (pM am L h) (some (am + 12)) (nI x) v = some (pM am (LI L 12 x v) h) := by
  unfold stI
  rw [R.xca L 12 x (by decide) 10 400 rfl hx (by decide)]
  simp [sI_pM]
theorem mL13 {am : Nat} {h : AH} (R : MOK am h) (L : LM) (x : Nat) (hx : x < 400) : lI 10 (pM am L h) (some (am + 13)) (nI x) = some (L.1 13 x) := by
  unfold lI
  rw [R.xca L 13 x (by decide) 10 400 rfl hx (by decide)]
  simp [hI_pM]
theorem mS13 {am : Nat} {h : AH} (R : MOK am h) (L : LM) (x : Nat) (v : Int32) (hx : x < 400) : stI 10 (pM am L h) (some (am + 13)) (nI x) v = some (pM am (LI L 13 x v) h) := by
  unfold stI
  rw [R.xca L 13 x (by decide) 10 400 rfl hx (by decide)]
  simp [sI_pM]
theorem mL14 {am : Nat} {h : AH} (R : MOK am h) (L : LM) (x : Nat) (hx : x < 400) : lI 10 (pM am L h) (some (am + 14)) (nI x) = some (L.1 14 x) := by
  unfold lI
  rw [R.xca L 14 x (by decide) 10 400 rfl hx (by decide)]
  simp [hI_pM]
theorem mS14 {am : Nat} {h : AH} (R : MOK am h) (L : LM) (x : Nat) (v : Int32) (hx : x < 400) : stI 10 (pM am L h) (some (am + 14)) (nI x) v = some (pM am (LI L 14 x v) h) := by
  unfold stI
  rw [R.xca L 14 x (by decide) 10 400 rfl hx (by decide)]
  simp [sI_pM]
theorem mL15 {am : Nat} {h : AH} (R : MOK am h) (L : LM) (x : Nat) (hx : x < 400) : lI 10 (pM am L h) (some (am + 15)) (nI x) = some (L.1 15 x) := by
  unfold lI
  rw [R.xca L 15 x (by decide) 10 400 rfl hx (by decide)]
  simp [hI_pM]
theorem mS15 {am : Nat} {h : AH} (R : MOK am h) (L : LM) (x : Nat) (v : Int32) (hx : x < 400) : stI 10 (pM am L h) (some (am + 15)) (nI x) v = some (pM am (LI L 15 x v) h) := by
  unfold stI
  rw [R.xca L 15 x (by decide) 10 400 rfl hx (by decide)]
  simp [sI_pM]
theorem mL16 {am : Nat} {h : AH} (R : MOK am h) (L : LM) (x : Nat) (hx : x < 400) : lJ 11 (pM am L h) (some (am + 16)) (nI x) = some (L.2 16 x) := by
  unfold lJ
  rw [R.xca L 16 x (by decide) 11 400 rfl hx (by decide)]
  simp [hJ_pM]
theorem mS16 {am : Nat} {h : AH} (R : MOK am h) (L : LM) (x : Nat) (v : Int64) (hx : x < 400) : stJ 11 (pM am L h) (some (am + 16)) (nI x) v = some (pM am (LJ L 16 x v) h) := by
  unfold stJ
  rw [R.xca L 16 x (by decide) 11 400 rfl hx (by decide)]
  simp [sJ_pM]
theorem mL17 {am : Nat} {h : AH} (R : MOK am h) (L : LM) (x : Nat) (hx : x < 400) : lI 12 (pM am L h) (some (am + 17)) (nI x) = some (L.1 17 x) := by
  unfold lI
  rw [R.xca L 17 x (by decide) 12 400 rfl hx (by decide)]
  simp [hI_pM]
theorem mS17 {am : Nat} {h : AH} (R : MOK am h) (L : LM) (x : Nat) (v : Int32) (hx : x < 400) (hv : v = 0 ∨ v = 1) : stZ 12 (pM am L h) (some (am + 17)) (nI x) v = some (pM am (LI L 17 x v) h) := by
  unfold stZ
  rw [if_pos hv, R.xca L 17 x (by decide) 12 400 rfl hx (by decide)]
  simp [sI_pM]
theorem mL18 {am : Nat} {h : AH} (R : MOK am h) (L : LM) (x : Nat) (hx : x < 10) : lI 10 (pM am L h) (some (am + 18)) (nI x) = some (L.1 18 x) := by
  unfold lI
  rw [R.xca L 18 x (by decide) 10 10 rfl hx (by decide)]
  simp [hI_pM]
theorem mS18 {am : Nat} {h : AH} (R : MOK am h) (L : LM) (x : Nat) (v : Int32) (hx : x < 10) : stI 10 (pM am L h) (some (am + 18)) (nI x) v = some (pM am (LI L 18 x v) h) := by
  unfold stI
  rw [R.xca L 18 x (by decide) 10 10 rfl hx (by decide)]
  simp [sI_pM]
theorem mL19 {am : Nat} {h : AH} (R : MOK am h) (L : LM) (x : Nat) (hx : x < 80) : lI 10 (pM am L h) (some (am + 19)) (nI x) = some (L.1 19 x) := by
  unfold lI
  rw [R.xca L 19 x (by decide) 10 80 rfl hx (by decide)]
  simp [hI_pM]
theorem mS19 {am : Nat} {h : AH} (R : MOK am h) (L : LM) (x : Nat) (v : Int32) (hx : x < 80) : stI 10 (pM am L h) (some (am + 19)) (nI x) v = some (pM am (LI L 19 x v) h) := by
  unfold stI
  rw [R.xca L 19 x (by decide) 10 80 rfl hx (by decide)]
  simp [sI_pM]
theorem mL20 {am : Nat} {h : AH} (R : MOK am h) (L : LM) (x : Nat) (hx : x < 80) : lI 10 (pM am L h) (some (am + 20)) (nI x) = some (L.1 20 x) := by
  unfold lI
  rw [R.xca L 20 x (by decide) 10 80 rfl hx (by decide)]
  simp [hI_pM]
theorem mS20 {am : Nat} {h : AH} (R : MOK am h) (L : LM) (x : Nat) (v : Int32) (hx : x < 80) : stI 10 (pM am L h) (some (am + 20)) (nI x) v = some (pM am (LI L 20 x v) h) := by
  unfold stI
  rw [R.xca L 20 x (by decide) 10 80 rfl hx (by decide)]
  simp [sI_pM]
theorem mL21 {am : Nat} {h : AH} (R : MOK am h) (L : LM) (x : Nat) (hx : x < 8000) : lJ 11 (pM am L h) (some (am + 21)) (nI x) = some (L.2 21 x) := by
  unfold lJ
  rw [R.xca L 21 x (by decide) 11 8000 rfl hx (by decide)]
  simp [hJ_pM]
theorem mS21 {am : Nat} {h : AH} (R : MOK am h) (L : LM) (x : Nat) (v : Int64) (hx : x < 8000) : stJ 11 (pM am L h) (some (am + 21)) (nI x) v = some (pM am (LJ L 21 x v) h) := by
  unfold stJ
  rw [R.xca L 21 x (by decide) 11 8000 rfl hx (by decide)]
  simp [sJ_pM]
theorem mL22 {am : Nat} {h : AH} (R : MOK am h) (L : LM) (x : Nat) (hx : x < 100) : lJ 11 (pM am L h) (some (am + 22)) (nI x) = some (L.2 22 x) := by
  unfold lJ
  rw [R.xca L 22 x (by decide) 11 100 rfl hx (by decide)]
  simp [hJ_pM]
theorem mS22 {am : Nat} {h : AH} (R : MOK am h) (L : LM) (x : Nat) (v : Int64) (hx : x < 100) : stJ 11 (pM am L h) (some (am + 22)) (nI x) v = some (pM am (LJ L 22 x v) h) := by
  unfold stJ
  rw [R.xca L 22 x (by decide) 11 100 rfl hx (by decide)]
  simp [sJ_pM]

/-! scans over a stretch of numbers -/
def anyF (p : Nat → Bool) : Nat → Nat → Bool
  | _, 0 => false
  | j, m + 1 => p j || anyF p (j + 1) m
def fstF (p : Nat → Bool) : Nat → Nat → Option Nat
  | _, 0 => none
  | j, m + 1 => if p j = true then some j else fstF p (j + 1) m
def lstF (p : Nat → Bool) : Nat → Option Nat
  | 0 => none
  | n + 1 => if p n = true then some n else lstF p n
def cntF (p : Nat → Bool) : Nat → Nat → Nat
  | _, 0 => 0
  | j, m + 1 => (if p j = true then 1 else 0) + cntF p (j + 1) m
theorem anyF_iff (p : Nat → Bool) : ∀ m j, anyF p j m = true ↔ ∃ y, j ≤ y ∧ y < j + m ∧ p y = true := by
  intro m
  induction m with
  | zero => intro j; simp [anyF]; intro y h1 h2; omega
  | succ m ih =>
    intro j
    simp only [anyF, Bool.or_eq_true, ih]
    constructor
    · rintro (h | ⟨y, h1, h2, h3⟩)
      · exact ⟨j, by omega, by omega, h⟩
      · exact ⟨y, by omega, by omega, h3⟩
    · rintro ⟨y, h1, h2, h3⟩
      by_cases hy : y = j
      · exact Or.inl (hy ▸ h3)
      · exact Or.inr ⟨y, by omega, by omega, h3⟩
theorem anyF_false (p : Nat → Bool) (m j : Nat) : anyF p j m = false ↔ ∀ y, j ≤ y → y < j + m → p y = false := by
  constructor
  · intro h y h1 h2
    cases hp : p y with
    | false => rfl
    | true => rw [(anyF_iff p m j).mpr ⟨y, h1, h2, hp⟩] at h; cases h
  · intro h
    cases ha : anyF p j m with
    | false => rfl
    | true =>
      obtain ⟨y, h1, h2, h3⟩ := (anyF_iff p m j).mp ha
      rw [h y h1 h2] at h3
      cases h3
theorem fstF_some (p : Nat → Bool) : ∀ m j x, fstF p j m = some x → j ≤ x ∧ x < j + m ∧ p x = true ∧ ∀ y, j ≤ y → y < x → p y = false := by
  intro m
  induction m with
  | zero => intro j x h; cases h
  | succ m ih =>
    intro j x h
    unfold fstF at h
    by_cases hj : p j = true
    · rw [if_pos hj] at h
      cases h
      exact ⟨Nat.le_refl _, by omega, hj, fun y h1 h2 => by omega⟩
    · rw [if_neg hj] at h
      obtain ⟨h1, h2, h3, h4⟩ := ih (j + 1) x h
      refine ⟨by omega, by omega, h3, fun y g1 g2 => ?_⟩
      by_cases hy : y = j
      · rw [hy]; simpa using hj
      · exact h4 y (by omega) g2
theorem fstF_none (p : Nat → Bool) : ∀ m j, fstF p j m = none ↔ ∀ y, j ≤ y → y < j + m → p y = false := by
  intro m
  induction m with
  | zero => intro j; simp [fstF]; intro y h1 h2; omega
  | succ m ih =>
    intro j
    unfold fstF
    by_cases hj : p j = true
    · rw [if_pos hj]
      constructor
      · intro h; cases h
      · intro h; rw [h j (by omega) (by omega)] at hj; cases hj
    · rw [if_neg hj, ih]
      constructor
      · intro h y h1 h2
        by_cases hy : y = j
        · rw [hy]; simpa using hj
        · exact h y (by omega) (by omega)
      · intro h y h1 h2
        exact h y (by omega) (by omega)
theorem fstF_eq (p : Nat → Bool) {m j x : Nat} (h1 : j ≤ x) (h2 : x < j + m) (h3 : p x = true) (h4 : ∀ y, j ≤ y → y < x → p y = false) : fstF p j m = some x := by
  cases hf : fstF p j m with
  | none => rw [(fstF_none p m j).mp hf x h1 h2] at h3; cases h3
  | some z =>
    obtain ⟨g1, g2, g3, g4⟩ := fstF_some p m j z hf
    rcases Nat.lt_trichotomy x z with q | q | q
    · rw [g4 x h1 q] at h3; cases h3
    · rw [q]
    · rw [h4 z g1 q] at g3; cases g3
theorem lstF_some (p : Nat → Bool) : ∀ n x, lstF p n = some x → x < n ∧ p x = true ∧ ∀ y, x < y → y < n → p y = false := by
  intro n
  induction n with
  | zero => intro x h; cases h
  | succ n ih =>
    intro x h
    unfold lstF at h
    by_cases hj : p n = true
    · rw [if_pos hj] at h
      cases h
      exact ⟨by omega, hj, fun y h1 h2 => by omega⟩
    · rw [if_neg hj] at h
      obtain ⟨h2, h3, h4⟩ := ih x h
      refine ⟨by omega, h3, fun y g1 g2 => ?_⟩
      by_cases hy : y = n
      · rw [hy]; simpa using hj
      · exact h4 y g1 (by omega)
theorem lstF_none (p : Nat → Bool) : ∀ n, lstF p n = none ↔ ∀ y, y < n → p y = false := by
  intro n
  induction n with
  | zero => simp [lstF]
  | succ n ih =>
    unfold lstF
    by_cases hj : p n = true
    · rw [if_pos hj]
      constructor
      · intro h; cases h
      · intro h; rw [h n (by omega)] at hj; cases hj
    · rw [if_neg hj, ih]
      constructor
      · intro h y h1
        by_cases hy : y = n
        · rw [hy]; simpa using hj
        · exact h y (by omega)
      · intro h y h1
        exact h y (by omega)
theorem lstF_eq (p : Nat → Bool) {n x : Nat} (h2 : x < n) (h3 : p x = true) (h4 : ∀ y, x < y → y < n → p y = false) : lstF p n = some x := by
  cases hf : lstF p n with
  | none => rw [(lstF_none p n).mp hf x h2] at h3; cases h3
  | some z =>
    obtain ⟨g2, g3, g4⟩ := lstF_some p n z hf
    rcases Nat.lt_trichotomy x z with q | q | q
    · rw [h4 z q g2] at g3; cases g3
    · rw [q]
    · rw [g4 x q h2] at h3; cases h3
theorem anyF_congr {p q : Nat → Bool} : ∀ m j, (∀ y, j ≤ y → y < j + m → p y = q y) → anyF p j m = anyF q j m := by
  intro m
  induction m with
  | zero => intro j _; rfl
  | succ m ih =>
    intro j h
    unfold anyF
    rw [h j (by omega) (by omega), ih (j + 1) (fun y h1 h2 => h y (by omega) (by omega))]
theorem fstF_congr {p q : Nat → Bool} : ∀ m j, (∀ y, j ≤ y → y < j + m → p y = q y) → fstF p j m = fstF q j m := by
  intro m
  induction m with
  | zero => intro j _; rfl
  | succ m ih =>
    intro j h
    unfold fstF
    rw [h j (by omega) (by omega), ih (j + 1) (fun y h1 h2 => h y (by omega) (by omega))]
theorem lstF_congr {p q : Nat → Bool} : ∀ n, (∀ y, y < n → p y = q y) → lstF p n = lstF q n := by
  intro n
  induction n with
  | zero => intro _; rfl
  | succ n ih =>
    intro h
    unfold lstF
    rw [h n (by omega), ih (fun y h1 => h y (by omega))]
theorem cntF_congr {p q : Nat → Bool} : ∀ m j, (∀ y, j ≤ y → y < j + m → p y = q y) → cntF p j m = cntF q j m := by
  intro m
  induction m with
  | zero => intro j _; rfl
  | succ m ih =>
    intro j h
    unfold cntF
    rw [h j (by omega) (by omega), ih (j + 1) (fun y h1 h2 => h y (by omega) (by omega))]
/-- a number or NONE -/
def oi (o : Option Nat) : Int32 := match o with
  | none => -1
  | some x => nI x
theorem nI_inj {a b : Nat} (ha : a < 2 ^ 31) (hb : b < 2 ^ 31) (h : nI a = nI b) : a = b := (nI_eq ha hb).mp h
theorem nI_m1 {a : Nat} (ha : a < 2 ^ 31) : ¬ nI a = -1 := by
  intro h
  have := nI_toInt ha
  rw [h] at this
  have h2 : (-1 : Int32).toInt = -1 := by decide
  rw [h2] at this
  omega
theorem b2i_z (b : Bool) : (b2i b = 0) = (b = false) := by cases b <;> simp [b2i]

