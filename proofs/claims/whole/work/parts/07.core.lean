/-! CORE 4: arrays, new cells, the script -/
theorem HL.ast {G : Gm} {h h' : AH} {H H' : Heap} (a1 : HL G h H) {a t n k : Nat} (hc : hk h a = some (t, n)) (h9 : 9 ≤ t) (e1 : hk h' = hk h) (e2 : hz h' = hz h) (ho : ∀ b, b ≠ a → ∀ k, hI h' b k = hI h b k ∧ hJ h' b k = hJ h b k ∧ hR h' b k = hR h b k) {v : Value}
    (hv : ∀ j, updV (fun k => fval (fty t k) h a k) k v j = fval (fty t j) h' a j) (x : H'[a]? = some ((arrV (gA G t) n (fun k => fval (fty t k) h a k)).setSlot k v)) (z : H'.size = H.size) (o : ∀ q : Nat, q ≠ a → H'[q]? = H[q]?) : HL G h' H' := by
  refine HL.upd a1 e1 e2 ho z o (a1.2.2.2 a t n hc).1 (fun ci' n' hc' => ?_)
  rw [hc] at hc'
  cases hc'
  unfold cok
  rw [if_pos h9, x, arrV_store]
  congr 2
  funext j
  exact hv j
def okty (t : FieldType) : Bool := match t with
  | .int => true
  | .boolean => true
  | .long => true
  | .object _ => true
  | .array _ => true
  | _ => false
theorem okty_def {t : FieldType} (ht : okty t = true) (h : AH) (ci n k : Nat) : defaultValue t = fval t (nw h ci n) (hz h) k := by
  cases t <;> first | (cases ht; done) | simp [fval, defaultValue, hI_nw, hJ_nw, hR_nw, va_rf]
theorem locs_of {G : Gm} {h : AH} {H : Heap} (a1 : HL G h H) {locs : List Loc} (a2 : ∀ q ∈ locs, gb G ≤ q.base) {a ci n i : Nat} (hc : hk h a = some (ci, n)) : ∀ q ∈ locs ++ [(⟨a, i⟩ : Loc)], gb G ≤ q.base := locs_add a2 (a1.2.2.2 a ci n hc).1
section G4
variable {G : Gm} {M : MI} {kc ks pc pc2 : Nat} {L L2 : LL} {st st2 : List LV} {h h2 h' : AH} {r : Option LV}
theorem g_alen {x : Option Nat} {v : Int32} (hd : decode (mcod M) pc = .ok (.arraylength, 1)) (hv : al h x = some v) (kk : GO G M kc ks (pc + 1) L (vi v :: st) h r h') : GO G M kc ks pc L (vr x :: st) h r h' := by
  intro p e R s m args below meth c mc ms Q C E H locs cells slots ls a1 a2 a3 a4 a5
  cases x with
  | none => cases hv
  | some a =>
    unfold al at hv
    cases hc : hk h a with
    | none => simp [hc] at hv
    | some tn =>
      obtain ⟨t, n⟩ := tn
      simp only [hc] at hv
      by_cases ht : 10 ≤ t ∧ t < 16
      · rw [if_pos ht] at hv
        cases hv
        have hA : ∃ ty, ArrOfT s (gA G t) ty := by
          obtain ⟨h1, h2⟩ := ht
          have hT := C.2.2.2.2.2.1.1.2
          match t, h1, h2 with
          | 10, _, _ => exact ⟨_, (hT 0 _ rfl).1⟩
          | 11, _, _ => exact ⟨_, (hT 1 _ rfl).1⟩
          | 12, _, _ => exact ⟨_, (hT 2 _ rfl).1⟩
          | 13, _, _ => exact ⟨_, (hT 3 _ rfl).1⟩
          | 14, _, _ => exact ⟨_, (hT 4 _ rfl).1⟩
          | 15, _, _ => exact ⟨_, (hT 5 _ rfl).1⟩
          | t + 16, _, h2 => omega
        obtain ⟨ty, hA⟩ := hA
        exact W.alen (n := nI n) C.1 C.2.1 (a1.ar hc (by omega)) (hA n _) (by rw [arrV_size]; rfl) rfl rfl hd (kk p e R s m args below meth c mc ms Q C E H locs cells slots ls a1 a2 a3 a4 a5)
      · rw [if_neg ht] at hv
        cases hv
theorem g_iald {x : Option Nat} {i v : Int32} (hd : decode (mcod M) pc = .ok (.iaload, 1)) (hv : lI 10 h x i = some v) (kk : GO G M kc ks (pc + 1) L (vi v :: st) h r h') : GO G M kc ks pc L (vi i :: vr x :: st) h r h' := by
  intro p e R s m args below meth c mc ms Q C E H locs cells slots ls a1 a2 a3 a4 a5
  obtain ⟨q, hq, rfl⟩ := Option.map_eq_some_iff.mp hv
  obtain ⟨a, n, rfl, hc, hin, rfl⟩ := ca_spec hq
  have hlt : i.toNatClampNeg < n := Nat.not_le.mp fun q => hin (Or.inr q)
  exact W.iald (v := .int (hI h a i.toNatClampNeg)) C.1 C.2.1 (a1.ar hc (by omega)) ((C.2.2.2.2.2.1.1.2 0 _ rfl).1 n _) (fun h => by cases h) (by rw [arrV_size]; exact hin) (by rw [arrV_read _ _ hlt]; rfl) rfl rfl hd (kk p e R s m args below meth c mc ms Q C E H locs cells slots ls a1 a2 a3 a4 a5)
theorem g_lald {x : Option Nat} {i : Int32} {v : Int64} (hd : decode (mcod M) pc = .ok (.laload, 1)) (hv : lJ 11 h x i = some v) (kk : GO G M kc ks (pc + 1) L (vl v :: st) h r h') : GO G M kc ks pc L (vi i :: vr x :: st) h r h' := by
  intro p e R s m args below meth c mc ms Q C E H locs cells slots ls a1 a2 a3 a4 a5
  obtain ⟨q, hq, rfl⟩ := Option.map_eq_some_iff.mp hv
  obtain ⟨a, n, rfl, hc, hin, rfl⟩ := ca_spec hq
  have hlt : i.toNatClampNeg < n := Nat.not_le.mp fun q => hin (Or.inr q)
  exact W.lald (v := .long (hJ h a i.toNatClampNeg)) C.1 C.2.1 (a1.ar hc (by omega)) ((C.2.2.2.2.2.1.1.2 1 _ rfl).1 n _) (fun h => by cases h) (by rw [arrV_size]; exact hin) (by rw [arrV_read _ _ hlt]; rfl) rfl rfl hd (kk p e R s m args below meth c mc ms Q C E H locs cells slots ls a1 a2 a3 a4 a5)
theorem g_zald {x : Option Nat} {i v : Int32} (hd : decode (mcod M) pc = .ok (.baload, 1)) (hv : lI 12 h x i = some v) (kk : GO G M kc ks (pc + 1) L (vi v :: st) h r h') : GO G M kc ks pc L (vi i :: vr x :: st) h r h' := by
  intro p e R s m args below meth c mc ms Q C E H locs cells slots ls a1 a2 a3 a4 a5
  obtain ⟨q, hq, rfl⟩ := Option.map_eq_some_iff.mp hv
  obtain ⟨a, n, rfl, hc, hin, rfl⟩ := ca_spec hq
  have hlt : i.toNatClampNeg < n := Nat.not_le.mp fun q => hin (Or.inr q)
  exact W.zald (v := .int (hI h a i.toNatClampNeg)) C.1 C.2.1 (a1.ar hc (by omega)) ((C.2.2.2.2.2.1.1.2 2 _ rfl).1 n _) (fun h => by cases h) (by rw [arrV_size]; exact hin) (by rw [arrV_read _ _ hlt]; rfl) rfl rfl hd (kk p e R s m args below meth c mc ms Q C E H locs cells slots ls a1 a2 a3 a4 a5)
theorem g_aald {t : Nat} {j : Nat} {cn : String} (hg : (gT G)[j]? = some (gA G t, .object cn)) (h9 : 9 ≤ t) (hft : ∀ a k, fval (fty t k) h a k = va_rf (hR h a k)) {x : Option Nat} {i : Int32} {v : Option Nat} (hd : decode (mcod M) pc = .ok (.aaload, 1)) (hv : lR t h x i = some v) (kk : GO G M kc ks (pc + 1) L (vr v :: st) h r h') : GO G M kc ks pc L (vi i :: vr x :: st) h r h' := by
  intro p e R s m args below meth c mc ms Q C E H locs cells slots ls a1 a2 a3 a4 a5
  obtain ⟨q, hq, rfl⟩ := Option.map_eq_some_iff.mp hv
  obtain ⟨a, n, rfl, hc, hin, rfl⟩ := ca_spec hq
  have hlt : i.toNatClampNeg < n := Nat.not_le.mp fun q => hin (Or.inr q)
  exact W.aald (v := va_rf (hR h a i.toNatClampNeg)) C.1 C.2.1 (a1.ar hc h9) ((C.2.2.2.2.2.1.1.2 j _ hg).1 n _) rfl (fun h => by cases h) (by rw [arrV_size]; exact hin) (by rw [arrV_read _ _ hlt, hft]) rfl rfl hd (kk p e R s m args below meth c mc ms Q C E H locs cells slots ls a1 a2 a3 a4 a5)
theorem g_iast {x : Option Nat} {i v : Int32} (hd : decode (mcod M) pc = .ok (.iastore, 1)) (hv : stI 10 h x i v = some h2) (kk : GO G M kc ks (pc + 1) L st h2 r h') : GO G M kc ks pc L (vi v :: vi i :: vr x :: st) h r h' := by
  intro p e R s m args below meth c mc ms Q C E H locs cells slots ls a1 a2 a3 a4 a5
  obtain ⟨q, hq, rfl⟩ := Option.map_eq_some_iff.mp hv
  obtain ⟨a, n, rfl, hc, hin, rfl⟩ := ca_spec hq
  refine W.iast C.1 C.2.1 (a1.ar hc (by omega)) ((C.2.2.2.2.2.1.1.2 0 _ rfl).1 n _) (fun h => by cases h) (by rw [arrV_size]; exact hin) rfl rfl hd (fun H' x z o => ?_)
  exact kk p e R s m args below meth c mc ms Q C E H' _ cells slots ls (a1.ast hc (by omega) rfl rfl (sI_off h a _ v) (fun j => (fval_sI (t := .int) (Or.inl rfl) h a _ v j _ (fun _ => rfl)).symm) x z o) (locs_of a1 a2 hc) a3 a4 a5
theorem g_last {x : Option Nat} {i : Int32} {v : Int64} (hd : decode (mcod M) pc = .ok (.lastore, 1)) (hv : stJ 11 h x i v = some h2) (kk : GO G M kc ks (pc + 1) L st h2 r h') : GO G M kc ks pc L (vl v :: vi i :: vr x :: st) h r h' := by
  intro p e R s m args below meth c mc ms Q C E H locs cells slots ls a1 a2 a3 a4 a5
  obtain ⟨q, hq, rfl⟩ := Option.map_eq_some_iff.mp hv
  obtain ⟨a, n, rfl, hc, hin, rfl⟩ := ca_spec hq
  refine W.last C.1 C.2.1 (a1.ar hc (by omega)) ((C.2.2.2.2.2.1.1.2 1 _ rfl).1 n _) (fun h => by cases h) (by rw [arrV_size]; exact hin) rfl rfl hd (fun H' x z o => ?_)
  exact kk p e R s m args below meth c mc ms Q C E H' _ cells slots ls (a1.ast hc (by omega) rfl rfl (sJ_off h a _ v) (fun j => (fval_sJ h a _ v j _ (fun _ => rfl)).symm) x z o) (locs_of a1 a2 hc) a3 a4 a5
theorem g_zast {x : Option Nat} {i v : Int32} (hd : decode (mcod M) pc = .ok (.bastore, 1)) (hv : stZ 12 h x i v = some h2) (kk : GO G M kc ks (pc + 1) L st h2 r h') : GO G M kc ks pc L (vi v :: vi i :: vr x :: st) h r h' := by
  intro p e R s m args below meth c mc ms Q C E H locs cells slots ls a1 a2 a3 a4 a5
  unfold stZ at hv
  by_cases hz1 : v = 0 ∨ v = 1
  · rw [if_pos hz1] at hv
    obtain ⟨q, hq, rfl⟩ := Option.map_eq_some_iff.mp hv
    obtain ⟨a, n, rfl, hc, hin, rfl⟩ := ca_spec hq
    have hn : narrow .boolean (.int v) = .int v := by rcases hz1 with q | q <;> rw [q] <;> rfl
    refine W.zast C.1 C.2.1 (a1.ar hc (by omega)) ((C.2.2.2.2.2.1.1.2 2 _ rfl).1 n _) (fun h => by cases h) (by rw [arrV_size]; exact hin) rfl rfl hd (fun H' x z o => ?_)
    rw [hn] at x
    exact kk p e R s m args below meth c mc ms Q C E H' _ cells slots ls (a1.ast hc (by omega) rfl rfl (sI_off h a _ v) (fun j => (fval_sI (t := .boolean) (Or.inr rfl) h a _ v j _ (fun _ => rfl)).symm) x z o) (locs_of a1 a2 hc) a3 a4 a5
  · rw [if_neg hz1] at hv
    cases hv
theorem g_aast {t : Nat} {j ci : Nat} {cn : String} {T : u_T} {N : Nat} (hg : (gT G)[j]? = some (gA G t, .object cn)) (hcl : vwCl[ci]? = some (cn, T, N)) (h9 : 9 ≤ t) (hci : ci < 9) (hft : ∀ k, fty t k = .object cn) {x : Option Nat} {i : Int32} {v : Option Nat} (hd : decode (mcod M) pc = .ok (.aastore, 1)) (hv : stR t ci h x i v = some h2) (kk : GO G M kc ks (pc + 1) L st h2 r h') : GO G M kc ks pc L (vr v :: vi i :: vr x :: st) h r h' := by
  intro p e R s m args below meth c mc ms Q C E H locs cells slots ls a1 a2 a3 a4 a5
  have hKj := C.2.2.2.2.2.1.1.2 j _ hg
  cases v with
  | none =>
    obtain ⟨q, hq, rfl⟩ := Option.map_eq_some_iff.mp hv
    obtain ⟨a, n, rfl, hc, hin, rfl⟩ := ca_spec hq
    refine va_WaastN (C := cn) C.1 C.2.1 (a1.ar hc h9) (hKj.1 n _) (fun h => by cases h) (by rw [arrV_size]; exact hin) rfl rfl hd (fun H' x z o => ?_)
    exact kk p e R s m args below meth c mc ms Q C E H' _ cells slots ls (a1.ast hc h9 rfl rfl (sR_off h a _ none) (fun j => (fval_sR (t := .object cn) (Or.inl ⟨_, rfl⟩) h a _ none j _ (fun _ => hft _)).symm) x z o) (locs_of a1 a2 hc) a3 a4 a5
  | some b =>
    unfold stR at hv
    by_cases hb : hk h b = some (ci, 0)
    · simp only [hb, if_true] at hv
      obtain ⟨q, hq, rfl⟩ := Option.map_eq_some_iff.mp hv
      obtain ⟨a, n, rfl, hc, hin, rfl⟩ := ca_spec hq
      have hlt : i.toNatClampNeg < n := Nat.not_le.mp fun q => hin (Or.inr q)
      have h0 : ¬ i < 0 := fun q => hin (Or.inl q)
      obtain ⟨cellV, g1, g2, g3, -⟩ := a1.ob hb hci
      have hcls := (C.2.2.2.2.2.1.1.1 ci _ hcl).2
      obtain ⟨kA, comp, k1, k2, k3, -⟩ := hKj.2
      have hcomp : comp = (gD G).1 ci := Option.some.inj (k3.symm.trans hcls.1)
      subst hcomp
      obtain ⟨kC, hkC, -⟩ := hcls.2
      refine W.aast C.1 C.2.1 (a1.ar hc h9) (fun q h => by cases h) (fun h => by cases h) k1 k2 rfl hkC ⟨h0, by rw [arrV_size]; exact hlt⟩ g1 (fun q h => by rw [g3] at h; cases h) (by rw [g2]; exact hkC) (by rw [g2]; exact va_assign hcls) rfl rfl hd (fun H' x z o => ?_)
      exact kk p e R s m args below meth c mc ms Q C E H' _ cells slots ls (a1.ast hc h9 rfl rfl (sR_off h a _ (some b)) (fun j => (fval_sR (t := .object cn) (Or.inl ⟨_, rfl⟩) h a _ (some b) j _ (fun _ => hft _)).symm) x z o) (locs_of a1 a2 hc) a3 a4 a5
    · simp only [hb, if_false] at hv
      cases hv
theorem g_new {idx ci N : Nat} {cn : String} {T : u_T} (hd : decode (mcod M) pc = .ok (.new idx, 3)) (F : CLk ci cn T N) (w1 : Cond.classLink (mown M) idx cn ∈ gw) (w2 : Cond.instantiable cn N ∈ gw) (w3 : Cond.initialized cn ∈ gw) (hty : ∀ k, k < N → okty (fty ci k) = true) (kk : GO G M kc ks (pc + 3) L (vr (some (hz h)) :: st) (nw h ci 0) r h') : GO G M (kc + 1) (ks + N) pc L st h r h' := by
  intro p e R s m args below meth c mc ms Q C E H locs cells slots ls a1 a2 a3 a4 a5
  obtain ⟨f1, f2, f3, f4, f5, f6⟩ := F
  have hKn := C.2.2.2.2.2.1.1.1 ci _ f1
  have hts := C.2.2.2.2.1
  have hmc := C.2.2.2.2.2.2.2.2.2
  refine W.newcK C.1 C.2.1 C.2.2.2.1 (hts _ w1) (hts _ w2) (hts _ w3) rfl hd (by omega) (by omega) hKn.2.1 a1.1.symm fun H1 kC hkC e1 z1 o1 => ?_
  refine kk p e R s m args below meth c mc ms Q C E H1 locs (cells + 1) (slots + N) ls (a1.push (by rw [z1, a1.1]) (fun q hq => o1 q (by rw [a1.1]; exact hq)) ?_) a2 (by omega) (by omega) a5
  unfold cok
  rw [if_neg (by omega), f2]
  have := u_born (fty ci) hts f5 hKn hkC e1 f4
  rw [a1.1] at this
  refine this.to (fun k hk => ?_)
  have e := okty_def (hty k hk) h ci 0 k
  rw [a1.1] at e
  exact e
theorem g_newa {atype : ArrayType} {t j B : Nat} {ty : FieldType} (hty : newarray.typeOf atype = ty) (hg : (gT G)[j]? = some (gA G t, ty)) (h9 : 9 ≤ t) (hft : ∀ k, fty t k = ty) (hok : okty ty = true) (hra : ∀ (U : State) (cA : ClassId), va_RA U cA ty → U.vm.findClass ("[" ++ ty.toString) = some cA) (hd : decode (mcod M) pc = .ok (.newarray atype, 2)) (w1 : Cond.arrayClass ty ∈ gw) {n : Int32} (hB : B * componentBytes ty ≤ 536870912) (hv : na t B h n = some h2) (kk : GO G M kc ks (pc + 2) L (vr (some (hz h)) :: st) h2 r h') : GO G M (kc + 1) (ks + B) pc L (vi n :: st) h r h' := by
  intro p e R s m args below meth c mc ms Q C E H locs cells slots ls a1 a2 a3 a4 a5
  subst hty
  unfold na at hv
  by_cases hn : ¬ n < 0 ∧ n.toNatClampNeg ≤ B
  · rw [if_pos hn] at hv
    cases hv
    have hts := C.2.2.2.2.1
    have hmc := C.2.2.2.2.2.2.2.2.2
    have hbb : n.toNatClampNeg * componentBytes (newarray.typeOf atype) ≤ 536870912 := Nat.le_trans (Nat.mul_le_mul_right _ hn.2) hB
    refine va_newaK C.1 C.2.1 (hts _ w1) rfl hd rfl hn.1 rfl hbb (by omega) (by omega) a1.1.symm fun H1 cA e1 z1 o1 hAr hNm => ?_
    have hcA : cA = gA G t := Option.some.inj (hNm.symm.trans (hra s _ (C.2.2.2.2.2.1.1.2 j _ hg).2))
    subst hcA
    refine kk p e R s m args below meth c mc ms Q C E H1 locs (cells + 1) (slots + n.toNatClampNeg) ls (a1.push (by rw [z1, a1.1]) (fun q hq => o1 q (by rw [a1.1]; exact hq)) ?_) a2 (by omega) (by omega) a5
    unfold cok
    rw [if_pos h9, ← a1.1, e1]
    congr 2
    funext k
    rw [hft]
    exact okty_def hok h t _ k
  · rw [if_neg hn] at hv
    cases hv
theorem g_anew {idx t j B : Nat} {cn : String} (hg : (gT G)[j]? = some (gA G t, .object cn)) (h9 : 9 ≤ t) (hft : ∀ k, fty t k = .object cn) (hao : ∀ U, KK G U → va_AO cn U) (hd : decode (mcod M) pc = .ok (.anewarray idx, 3)) (w1 : Cond.classLink (mown M) idx cn ∈ gw) {n : Int32} (hB : B * 4 ≤ 536870912) (hv : na t B h n = some h2) (kk : GO G M kc ks (pc + 3) L (vr (some (hz h)) :: st) h2 r h') : GO G M (kc + 1) (ks + B) pc L (vi n :: st) h r h' := by
  intro p e R s m args below meth c mc ms Q C E H locs cells slots ls a1 a2 a3 a4 a5
  unfold na at hv
  by_cases hn : ¬ n < 0 ∧ n.toNatClampNeg ≤ B
  · rw [if_pos hn] at hv
    cases hv
    have hts := C.2.2.2.2.1
    have hmc := C.2.2.2.2.2.2.2.2.2
    refine W.anew C.1 C.2.1 C.2.2.2.1 (hts _ w1) (va_AO.use (hao s C.2.2.2.2.2.1)) rfl hd rfl hn.1 (by omega) (by omega) (by omega) fun cA kA comp f1 f2 f3 f4 => ?_
    obtain ⟨kA', comp', -, -, -, f5⟩ := (C.2.2.2.2.2.1.1.2 j _ hg).2
    have hcA : cA = gA G t := Option.some.inj (f1.symm.trans f5)
    subst hcA
    rw [← a1.1]
    refine kk p e R s m args below meth c mc ms Q C E _ locs (cells + 1) (slots + n.toNatClampNeg) ls (a1.push (by rw [Array.size_push]) (fun q hq => by rw [Array.getElem?_push, if_neg (Nat.ne_of_lt hq)]) ?_) a2 (by omega) (by omega) a5
    unfold cok
    rw [if_pos h9, Array.getElem?_push_size, arrV_new]
    congr 2
    funext k
    rw [hft, ← a1.1]
    exact okty_def (t := .object cn) rfl h t _ k
  · rw [if_neg hn] at hv
    cases hv
theorem g_slen (hd : decode (mcod M) pc = .ok (.arraylength, 1)) (kk : GO G M kc ks (pc + 1) L (vi (nI (gsL G)) :: st) h r h') : GO G M kc ks pc L (vr (some (gsb G)) :: st) h r h' := by
  intro p e R s m args below meth c mc ms Q C E H locs cells slots ls a1 a2 a3 a4 a5
  obtain ⟨scr, h1, h2, h3, h4, h5⟩ := C.2.2.2.2.2.1.2.1
  exact W.alen (n := nI (gsL G)) C.1 C.2.1 (by rw [a1.2.2.1 _ a1.2.1.2]; exact h1) h2 (by rw [h4]; rfl) rfl rfl hd (kk p e R s m args below meth c mc ms Q C E H locs cells slots ls a1 a2 a3 a4 a5)
/-- the script's number at i -/
def lS (G : Gm) (i : Int32) : Option Int32 := if ¬ (i < 0 ∨ gsL G ≤ i.toNatClampNeg) then some (gsx G i.toNatClampNeg) else none
theorem g_sald {i v : Int32} (hd : decode (mcod M) pc = .ok (.iaload, 1)) (hv : lS G i = some v) (kk : GO G M kc ks (pc + 1) L (vi v :: st) h r h') : GO G M kc ks pc L (vi i :: vr (some (gsb G)) :: st) h r h' := by
  intro p e R s m args below meth c mc ms Q C E H locs cells slots ls a1 a2 a3 a4 a5
  obtain ⟨scr, h1, h2, h3, h4, h5⟩ := C.2.2.2.2.2.1.2.1
  unfold lS at hv
  by_cases hin : ¬ (i < 0 ∨ gsL G ≤ i.toNatClampNeg)
  · rw [if_pos hin] at hv
    cases hv
    have hlt : i.toNatClampNeg < gsL G := Nat.not_le.mp fun q => hin (Or.inr q)
    exact W.iald (v := .int (gsx G i.toNatClampNeg)) C.1 C.2.1 (by rw [a1.2.2.1 _ a1.2.1.2]; exact h1) h2 h3 (by rw [h4]; exact hin) (h5 _ hlt) rfl rfl hd (kk p e R s m args below meth c mc ms Q C E H locs cells slots ls a1 a2 a3 a4 a5)
  · rw [if_neg hin] at hv
    cases hv
end G4
