/-! CORE 1: the abstract heap, what a heap holds of it -/
/-- values as a method sees them: an int, a long, a reference or null -/
abbrev LV : Type := Int32 ⊕ Int64 ⊕ Option Nat
abbrev vi (x : Int32) : LV := .inl x
abbrev vl (x : Int64) : LV := .inr (.inl x)
abbrev vr (r : Option Nat) : LV := .inr (.inr r)
def tv (v : LV) : Value := match v with
  | .inl x => .int x
  | .inr (.inl x) => .long x
  | .inr (.inr r) => va_rf r
def lcat (v : LV) : Nat := match v with
  | .inl _ => 1
  | .inr (.inl _) => 2
  | .inr (.inr _) => 1
theorem rf_cat (r : Option Nat) : (va_rf r).category = 1 := by cases r <;> rfl
theorem tv_cat (v : LV) : (tv v).category = lcat v := by
  rcases v with x | x | r
  · rfl
  · rfl
  · exact rf_cat r
def lvq (q : Nat × LV) : Nat × Value := (q.1, tv q.2)
abbrev LL : Type := List (Nat × LV)
/-- the locals behind a store at i -/
def lput (i : Nat) (v : LV) (L : LL) : LL := (i, v) :: L.filter (fun q => !(q.1 == i) && !(q.1 + 1 == i && lcat q.2 == 2))
theorem lput_map (i : Nat) (v : LV) (L : LL) : (i, tv v) :: (L.map lvq).filter (fun q => !(q.1 == i) && !(q.1 + 1 == i && q.2.category == 2)) = (lput i v L).map lvq := by
  simp only [lput, List.map_cons, lvq, List.filter_map]
  congr 2
  congr 1
  funext q
  simp [lvq, tv_cat]
def csum (st : List LV) : Nat := (st.map lcat).sum
theorem csum_map (st : List LV) : ((st.map tv).map fun v => v.category).sum = csum st := by
  unfold csum
  rw [List.map_map]
  congr 2
  funext v
  exact tv_cat v
/-- the abstract heap: how many cells; each known cell's kind (class 0..8, or 10 int[], 11 long[], 12 boolean[], 13 Paper[], 14 Agreement[], 15 Annex[]; length); its ints, longs, references -/
abbrev AH : Type := Nat × (Nat → Option (Nat × Nat)) × (Nat → Nat → Int32) × (Nat → Nat → Int64) × (Nat → Nat → Option Nat)
def hz (h : AH) : Nat := h.1
def hk (h : AH) : Nat → Option (Nat × Nat) := h.2.1
def hI (h : AH) : Nat → Nat → Int32 := h.2.2.1
def hJ (h : AH) : Nat → Nat → Int64 := h.2.2.2.1
def hR (h : AH) : Nat → Nat → Option Nat := h.2.2.2.2
def u2 {α : Type} (f : Nat → Nat → α) (a k : Nat) (v : α) : Nat → Nat → α := fun x y => if x = a ∧ y = k then v else f x y
def sI (h : AH) (a k : Nat) (v : Int32) : AH := (h.1, h.2.1, u2 h.2.2.1 a k v, h.2.2.2.1, h.2.2.2.2)
def sJ (h : AH) (a k : Nat) (v : Int64) : AH := (h.1, h.2.1, h.2.2.1, u2 h.2.2.2.1 a k v, h.2.2.2.2)
def sR (h : AH) (a k : Nat) (v : Option Nat) : AH := (h.1, h.2.1, h.2.2.1, h.2.2.2.1, u2 h.2.2.2.2 a k v)
/-- a new cell, all 0 and null -/
def nw (h : AH) (ci n : Nat) : AH := (h.1 + 1, fun x => if x = h.1 then some (ci, n) else h.2.1 x, fun x => if x = h.1 then fun _ => 0 else h.2.2.1 x, fun x => if x = h.1 then fun _ => 0 else h.2.2.2.1 x, fun x => if x = h.1 then fun _ => none else h.2.2.2.2 x)
/-- n longs of the array a from i on come to b from j on -/
def cpJ (h : AH) (a i b j n : Nat) : AH := (h.1, h.2.1, h.2.2.1, fun x => if x = b then va_cpy (h.2.2.2.1 a) (h.2.2.2.1 b) i j n else h.2.2.2.1 x, h.2.2.2.2)
def fval (t : FieldType) (h : AH) (a k : Nat) : Value := match t with
  | .long => .long (hJ h a k)
  | .object _ => va_rf (hR h a k)
  | .array _ => va_rf (hR h a k)
  | _ => .int (hI h a k)
theorem fval_congr (t : FieldType) {h h' : AH} {a k : Nat} (e1 : hI h' a k = hI h a k) (e2 : hJ h' a k = hJ h a k) (e3 : hR h' a k = hR h a k) : fval t h' a k = fval t h a k := by
  cases t <;> simp [fval, e1, e2, e3]
/-- what is fixed: the launch; the classes' numbers and slots; the arrays' classes; where the law's own cells begin, and the heap at its entry; the script -/
abbrev Gm : Type := Launch × va_G × (Nat → ClassId) × (Nat × Heap) × (Nat × Nat × (Nat → Int32))
def gl (G : Gm) : Launch := G.1
def gD (G : Gm) : va_G := G.2.1
def gA (G : Gm) : Nat → ClassId := G.2.2.1
def gb (G : Gm) : Nat := G.2.2.2.1.1
def gH (G : Gm) : Heap := G.2.2.2.1.2
def gsb (G : Gm) : Nat := G.2.2.2.2.1
def gsL (G : Gm) : Nat := G.2.2.2.2.2.1
def gsx (G : Gm) : Nat → Int32 := G.2.2.2.2.2.2
def cok (G : Gm) (h : AH) (a ci n : Nat) (H : Heap) : Prop :=
  if 9 ≤ ci then H[a]? = some (arrV (gA G ci) n (fun j => fval (fty ci j) h a j)) else t_OB a ((gD G).1 ci) (fN ci) ((gD G).2 ci) H (fun k => fval (fty ci k) h a k)
def HL (G : Gm) (h : AH) (H : Heap) : Prop := hz h = H.size ∧ (gb G ≤ H.size ∧ gsb G < gb G) ∧ (∀ q, q < gb G → H[q]? = (gH G)[q]?) ∧ ∀ a ci n, hk h a = some (ci, n) → gb G ≤ a ∧ a < hz h ∧ cok G h a ci n H
def gT (G : Gm) : List (ClassId × FieldType) := [(gA G 10, .int), (gA G 11, .long), (gA G 12, .boolean), (gA G 13, .object RX3), (gA G 14, .object RX0), (gA G 15, .object RX1)]
def nestW : Cond := .methodLinkNest RX3 68 yX7_numberOf RX7
def KK (G : Gm) (U : State) : Prop := va_K (gD G) vwCl (gT G) U ∧ va_X (gsb G) (gsL G) (gsx G) U (gH G) ∧ va_Nw nestW U ∧ va_AO RX3 U ∧ va_AO RX0 U ∧ va_AO RX1 U
theorem KK.warm {G : Gm} {s U : State} (hW : s.WarmedH U.vm) (h : KK G s) : KK G U :=
  ⟨va_K.moved hW.alike h.1, h.2.1.moved hW.alike, va_Nw.warmM hW h.2.2.1, h.2.2.2.1.moved hW.alike, h.2.2.2.2.1.moved hW.alike, h.2.2.2.2.2.moved hW.alike⟩
theorem KK.calling {G : Gm} {U : State} {g : JFrame} {mk : MethodId} {a : Array Value} (h : KK G U) : KK G (U.calling g mk a) :=
  ⟨va_K.moved (u := U) (U := U.calling g mk a) (Vm.Alike.refl U.vm) h.1, va_X.moved (u := U) (U := U.calling g mk a) (Vm.Alike.refl U.vm) h.2.1, va_Nw.same (u := U) (U := U.calling g mk a) rfl rfl h.2.2.1,
    va_AO.moved (u := U) (U := U.calling g mk a) (Vm.Alike.refl U.vm) h.2.2.2.1, va_AO.moved (u := U) (U := U.calling g mk a) (Vm.Alike.refl U.vm) h.2.2.2.2.1, va_AO.moved (u := U) (U := U.calling g mk a) (Vm.Alike.refl U.vm) h.2.2.2.2.2⟩
theorem cok.kept {G : Gm} {h h' : AH} {a ci n : Nat} {H H' : Heap} (c : cok G h a ci n H) (e : ∀ k, hI h' a k = hI h a k ∧ hJ h' a k = hJ h a k ∧ hR h' a k = hR h a k) (q : H'[a]? = H[a]?) : cok G h' a ci n H' := by
  unfold cok at *
  split
  · rename_i h9
    rw [if_pos h9] at c
    rw [q, c]
    congr 2
    funext j
    exact (fval_congr _ (e j).1 (e j).2.1 (e j).2.2).symm
  · rename_i h9
    rw [if_neg h9] at c
    exact (c.kept q).to (fun k _ => (fval_congr _ (e k).1 (e k).2.1 (e k).2.2).symm)
theorem HL.upd {G : Gm} {h h' : AH} {H H' : Heap} {a : Nat} (R : HL G h H) (e1 : hk h' = hk h) (e2 : hz h' = hz h) (ho : ∀ b, b ≠ a → ∀ k, hI h' b k = hI h b k ∧ hJ h' b k = hJ h b k ∧ hR h' b k = hR h b k)
    (z : H'.size = H.size) (o : ∀ q : Nat, q ≠ a → H'[q]? = H[q]?) (hb : gb G ≤ a) (hc : ∀ ci n, hk h a = some (ci, n) → cok G h' a ci n H') : HL G h' H' := by
  obtain ⟨r1, r2, r3, r4⟩ := R
  refine ⟨by rw [e2, z]; exact r1, by rw [z]; exact r2, fun q hq => ?_, fun b ci n hb2 => ?_⟩
  · rw [o q (by omega)]
    exact r3 q hq
  · rw [e1] at hb2
    obtain ⟨q1, q2, q3⟩ := r4 b ci n hb2
    refine ⟨q1, by rw [e2]; exact q2, ?_⟩
    by_cases hba : b = a
    · rw [hba] at hb2 ⊢
      exact hc ci n hb2
    · exact q3.kept (ho b hba) (o b hba)
theorem HL.push {G : Gm} {h : AH} {H H' : Heap} {ci n : Nat} (R : HL G h H) (z : H'.size = H.size + 1) (o : ∀ q : Nat, q < H.size → H'[q]? = H[q]?) (hc : cok G (nw h ci n) H.size ci n H') : HL G (nw h ci n) H' := by
  obtain ⟨r1, r2, r3, r4⟩ := R
  have r1' : h.1 = H.size := r1
  refine ⟨by rw [z, ← r1]; rfl, by rw [z]; omega, fun q hq => ?_, fun b ci' n' hb => ?_⟩
  · rw [o q (by omega)]
    exact r3 q hq
  · by_cases hbh : b = h.1
    · subst hbh
      have hb' : (if h.1 = h.1 then some (ci, n) else hk h h.1) = some (ci', n') := hb
      rw [if_pos rfl] at hb'
      cases hb'
      refine ⟨by rw [r1']; exact r2.1, Nat.lt_succ_self _, ?_⟩
      rw [← r1'] at hc
      exact hc
    · have hb' : (if b = h.1 then some (ci, n) else hk h b) = some (ci', n') := hb
      rw [if_neg hbh] at hb'
      obtain ⟨q1, q2, q3⟩ := r4 b ci' n' hb'
      refine ⟨q1, Nat.lt_succ_of_lt q2, q3.kept (fun k => ?_) (o b (by rw [← r1]; exact q2))⟩
      simp [hI, hJ, hR, nw, hbh]
theorem hI_sI (h : AH) (a k : Nat) (v : Int32) (b j : Nat) : hI (sI h a k v) b j = if b = a ∧ j = k then v else hI h b j := rfl
theorem hJ_sI (h : AH) (a k : Nat) (v : Int32) : hJ (sI h a k v) = hJ h := rfl
theorem hR_sI (h : AH) (a k : Nat) (v : Int32) : hR (sI h a k v) = hR h := rfl
theorem hk_sI (h : AH) (a k : Nat) (v : Int32) : hk (sI h a k v) = hk h := rfl
theorem hz_sI (h : AH) (a k : Nat) (v : Int32) : hz (sI h a k v) = hz h := rfl
theorem hJ_sJ (h : AH) (a k : Nat) (v : Int64) (b j : Nat) : hJ (sJ h a k v) b j = if b = a ∧ j = k then v else hJ h b j := rfl
theorem hI_sJ (h : AH) (a k : Nat) (v : Int64) : hI (sJ h a k v) = hI h := rfl
theorem hR_sJ (h : AH) (a k : Nat) (v : Int64) : hR (sJ h a k v) = hR h := rfl
theorem hk_sJ (h : AH) (a k : Nat) (v : Int64) : hk (sJ h a k v) = hk h := rfl
theorem hz_sJ (h : AH) (a k : Nat) (v : Int64) : hz (sJ h a k v) = hz h := rfl
theorem hR_sR (h : AH) (a k : Nat) (v : Option Nat) (b j : Nat) : hR (sR h a k v) b j = if b = a ∧ j = k then v else hR h b j := rfl
theorem hI_sR (h : AH) (a k : Nat) (v : Option Nat) : hI (sR h a k v) = hI h := rfl
theorem hJ_sR (h : AH) (a k : Nat) (v : Option Nat) : hJ (sR h a k v) = hJ h := rfl
theorem hk_sR (h : AH) (a k : Nat) (v : Option Nat) : hk (sR h a k v) = hk h := rfl
theorem hz_sR (h : AH) (a k : Nat) (v : Option Nat) : hz (sR h a k v) = hz h := rfl
theorem hk_nw (h : AH) (ci n b : Nat) : hk (nw h ci n) b = if b = hz h then some (ci, n) else hk h b := rfl
theorem hz_nw (h : AH) (ci n : Nat) : hz (nw h ci n) = hz h + 1 := rfl
theorem hI_nw (h : AH) (ci n b : Nat) : hI (nw h ci n) b = if b = hz h then (fun _ => 0) else hI h b := rfl
theorem hJ_nw (h : AH) (ci n b : Nat) : hJ (nw h ci n) b = if b = hz h then (fun _ => 0) else hJ h b := rfl
theorem hR_nw (h : AH) (ci n b : Nat) : hR (nw h ci n) b = if b = hz h then (fun _ => none) else hR h b := rfl
theorem fval_sI {t : FieldType} (ht : t = .int ∨ t = .boolean) (h : AH) (a k : Nat) (v : Int32) (j : Nat) (tt : FieldType) (htt : j = k → tt = t) : fval tt (sI h a k v) a j = if j = k then .int v else fval tt h a j := by
  by_cases hj : j = k
  · subst hj
    rw [htt rfl, if_pos rfl]
    rcases ht with rfl | rfl <;> simp [fval, hI_sI]
  · rw [if_neg hj]
    exact fval_congr _ (by simp [hI_sI, hj]) rfl rfl
theorem fval_sJ (h : AH) (a k : Nat) (v : Int64) (j : Nat) (tt : FieldType) (htt : j = k → tt = .long) : fval tt (sJ h a k v) a j = if j = k then .long v else fval tt h a j := by
  by_cases hj : j = k
  · subst hj
    rw [htt rfl, if_pos rfl]
    simp [fval, hJ_sJ]
  · rw [if_neg hj]
    exact fval_congr _ rfl (by simp [hJ_sJ, hj]) rfl
theorem fval_sR {t : FieldType} (ht : (∃ n, t = .object n) ∨ ∃ n, t = .array n) (h : AH) (a k : Nat) (v : Option Nat) (j : Nat) (tt : FieldType) (htt : j = k → tt = t) : fval tt (sR h a k v) a j = if j = k then va_rf v else fval tt h a j := by
  by_cases hj : j = k
  · subst hj
    rw [htt rfl, if_pos rfl]
    rcases ht with ⟨n, rfl⟩ | ⟨n, rfl⟩ <;> simp [fval, hR_sR]
  · rw [if_neg hj]
    exact fval_congr _ rfl rfl (by simp [hR_sR, hj])
