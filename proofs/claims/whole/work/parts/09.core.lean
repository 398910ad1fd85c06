/-! CORE 4: arrays, new cells, the script -/
theorem HL.ast {G : Gm} {h h' : AH} {H H' : Heap} (a1 : HL G h H) {a t n k : Nat} (hc : hk h a = some (t, n)) (h9 : 9 ≤ t) (e1 : hk h' = hk h) (e2 : hz h' = hz h) (ho : ∀ b, b ≠ a → ∀ k, hI h' b k = hI h b k ∧ hJ h' b k = hJ h b k ∧ hR h' b k = hR h b k) {v : Value}
    (hv : ∀ j, updV (fun k => fval (fty t k) h a k) k v j = fval (fty t j) h' a j) (x : H'[a]? = some ((arrV (gA G t) n (fun k => fval (fty t k) h a k)).setSlot k v)) (z : H'.size = H.size) (o : ∀ q : Nat, q ≠ a → H'[q]? = H[q]?) : HL G h' H' := by
  refine HL.upd a1 e1 e2 ho z o (a1.2.2.2 a t n hc).1 (fun ci' n' hc' => ?_)
  rw [hc] at hc'
  cases hc'
  unfold cok
  rw [if_pos h9, x, arrV_store]
  congr 2
  funext j
  exact hv j
def okty (t : FieldType) : Bool := match t with
  | .int => true
  | .boolean => true
  | .long => true
  | .object _ => true
  | .array _ => true
  | _ => false
theorem okty_def {t : FieldType} (ht : okty t = true) (h : AH) (ci n k : Nat) : defaultValue t = fval t (nw h ci n) (hz h) k := by
  cases t <;> first | (cases ht; done) | simp [fval, defaultValue, hI_nw, hJ_nw, hR_nw, va_rf]
theorem locs_of {G : Gm} {h : AH} {H : Heap} (a1 : HL G h H) {locs : List Loc} (a2 : ∀ q ∈ locs, gb G ≤ q.base) {a ci n i : Nat} (hc : hk h a = some (ci, n)) : ∀ q ∈ locs ++ [(⟨a, i⟩ : Loc)], gb G ≤ q.base := locs_add a2 (a1.2.2.2 a ci n hc).1
section G4
variable {G : Gm} {M : MI} {kc ks pc pc2 : Nat} {L L2 : LL} {st st2 : List LV} {h h2 h' : AH} {r : Option LV}
theorem g_alen {x : Option Nat} {v : Int32} (hd : decode (mcod M) pc = .ok (.arraylength, 1)) (hv : al h x = some v) (kk : GO G M kc ks (pc + 1) L (vi v :: st) h r h') : GO G M kc ks pc L (vr x :: st) h r h' := by
  intro p e R s m args below meth c mc ms Q C E H locs cells slots ls a1 a2 a3 a4 a5
  cases x with
  | none => cases hv
  | some a =>
    unfold al at hv
    cases hc : hk h a with
    | none => simp [hc] at hv
    | some tn =>
      obtain ⟨t, n⟩ := tn
      simp only [hc] at hv
      by_cases ht : 10 ≤ t ∧ t < 16
      · rw [if_pos ht] at hv
        cases hv
        have hA : ∃ ty, ArrOfT s (gA G t) ty := by
          obtain ⟨h1, h2⟩ := ht
          have hT := C.2.2.2.2.2.1.1.2
          match t, h1, h2 with
          | 10, _, _ => exact ⟨_, (hT 0 _ rfl).1⟩
          | 11, _, _ => exact ⟨_, (hT 1 _ rfl).1⟩
          | 12, _, _ => exact ⟨_, (hT 2 _ rfl).1⟩
          | 13, _, _ => exact ⟨_, (hT 3 _ rfl).1⟩
          | 14, _, _ => exact ⟨_, (hT 4 _ rfl).1⟩
          | 15, _, _ => exact ⟨_, (hT 5 _ rfl).1⟩
          | t + 16, _, h2 => omega
        obtain ⟨ty, hA⟩ := hA
        exact W.alen (n := nI n) C.1 C.2.1 (a1.ar hc (by omega)) (hA n _) (by rw [arrV_size]; rfl) rfl rfl hd (kk p e R s m args below meth c mc ms Q C E H locs cells slots ls a1 a2 a3 a4 a5)
      · rw [if_neg ht] at hv
        cases hv
theorem g_iald {x : Option Nat} {i v : Int32} (hd : decode (mcod M) pc = .ok (.iaload, 1)) (hv : lI 10 h x i = some v) (kk : GO G M kc ks (pc + 1) L (vi v :: st) h r h') : GO G M kc ks pc L (vi i :: vr x :: st) h r h' := by
  intro p e R s m args below meth c mc ms Q C E H locs cells slots ls a1 a2 a3 a4 a5
  obtain ⟨q, hq, rfl⟩ := Option.map_eq_some_iff.mp hv
  obtain ⟨a, n, rfl, hc, hin, rfl⟩ := ca_spec hq
  have hlt : i.toNatClampNeg < n := Nat.not_le.mp fun q => hin (Or.inr q)
  exact W.iald (v := .int (hI h a i.toNatClampNeg)) C.1 C.2.1 (a1.ar hc (by omega)) ((C.2.2.2.2.2.1.1.2 0 _ rfl).1 n _) (fun h => by cases h) (by rw [arrV_size]; exact hin) (by rw [arrV_read _ _ hlt]; rfl) rfl rfl hd (kk p e R s m args below meth c mc ms Q C E H locs cells slots ls a1 a2 a3 a4 a5)
theorem g_lald {x : Option Nat} {i : Int32} {v : Int64} (hd : decode (mcod M) pc = .ok (.laload, 1)) (hv : lJ 11 h x i = some v) (kk : GO G M kc ks (pc + 1) L (vl v :: st) h r h') : GO G M kc ks pc L (vi i :: vr x :: st) h r h' := by
  intro p e R s m args below meth c mc ms Q C E H locs cells slots ls a1 a2 a3 a4 a5
  obtain ⟨q, hq, rfl⟩ := Option.map_eq_some_iff.mp hv
  obtain ⟨a, n, rfl, hc, hin, rfl⟩ := ca_spec hq
  have hlt : i.toNatClampNeg < n := Nat.not_le.mp fun q => hin (Or.inr q)
  exact W.lald (v := .long (hJ h a i.toNatClampNeg)) C.1 C.2.1 (a1.ar hc (by omega)) ((C.2.2.2.2.2.1.1.2 1 _ rfl).1 n _) (fun h => by cases h) (by rw [arrV_size]; exact hin) (by rw [arrV_read _ _ hlt]; rfl) rfl rfl hd (kk p e R s m args below meth c mc ms Q C E H locs cells slots ls a1 a2 a3 a4 a5)
theorem g_zald {x : Option Nat} {i v : Int32} (hd : decode (mcod M) pc = .ok (.baload, 1)) (hv : lI 12 h x i = some v) (kk : GO G M kc ks (pc + 1) L (vi v :: st) h r h') : GO G M kc ks pc L (vi i :: vr x :: st) h r h' := by
  intro p e R s m args below meth c mc ms Q C E H locs cells slots ls a1 a2 a3 a4 a5
  obtain ⟨q, hq, rfl⟩ := Option.map_eq_some_iff.mp hv
  obtain ⟨a, n, rfl, hc, hin, rfl⟩ := ca_spec hq
  have hlt : i.toNatClampNeg < n := Nat.not_le.mp fun q => hin (Or.inr q)
  exact W.zald (v := .int (hI h a i.toNatClampNeg)) C.1 C.2.1 (a1.ar hc (by omega)) ((C.2.2.2.2.2.1.1.2 2 _ rfl).1 n _) (fun h => by cases h) (by rw [arrV_size]; exact hin) (by rw [arrV_read _ _ hlt]; rfl) rfl rfl hd (kk p e R s m args below meth c mc ms Q C E H locs cells slots ls a1 a2 a3 a4 a5)
theorem g_aald {t : Nat} {j : Nat} {cn : String} (hg : (gT G)[j]? = some (gA G t, .object cn)) (h9 : 9 ≤ t) (hft : ∀ a k, fval (fty t k) h a k = va_rf (hR h a k)) {x : Option Nat} {i : Int32} {v : Option Nat} (hd : decode (mcod M) pc = .ok (.aaload, 1)) (hv : lR t h x i = some v) (kk : GO G M kc ks (pc + 1) L (vr v :: st) h r h') : GO G M kc ks pc L (vi i :: vr x :: st) h r h' := by
  intro p e R s m args below meth c mc ms Q C E H locs cells slots ls a1 a2 a3 a4 a5
  obtain ⟨q, hq, rfl⟩ := Option.map_eq_some_iff.mp hv
  obtain ⟨a, n, rfl, hc, hin, rfl⟩ := ca_spec hq
  have hlt : i.toNatClampNeg < n := Nat.not_le.mp fun q => hin (Or.inr q)
  exact W.aald (v := va_rf (hR h a i.toNatClampNeg)) C.1 C.2.1 (a1.ar hc h9) ((C.2.2.2.2.2.1.1.2 j _ hg).1 n _) rfl (fun h => by cases h) (by rw [arrV_size]; exact hin) (by rw [arrV_read _ _ hlt, hft]) rfl rfl hd (kk p e R s m args below meth c mc ms Q C E H locs cells slots ls a1 a2 a3 a4 a5)
theorem g_iast {x : Option Nat} {i v : Int32} (hd : decode (mcod M) pc = .ok (.iastore, 1)) (hv : stI 10 h x i v = some h2) (kk : GO G M kc ks (pc + 1) L st h2 r h') : GO G M kc ks pc L (vi v :: vi i :: vr x :: st) h r h' := by
  intro p e R s m args below meth c mc ms Q C E H locs cells slots ls a1 a2 a3 a4 a5
  obtain ⟨q, hq, rfl⟩ := Option.map_eq_some_iff.mp hv
  obtain ⟨a, n, rfl, hc, hin, rfl⟩ := ca_spec hq
  refine W.iast C.1 C.2.1 (a1.ar hc (by omega)) ((C.2.2.2.2.2.1.1.2 0 _ rfl).1 n _) (fun h => by cases h) (by rw [arrV_size]; exact hin) rfl rfl hd (fun H' x z o => ?_)
  exact kk p e R s m args below meth c mc ms Q C E H' _ cells slots ls (a1.ast hc (by omega) rfl rfl (sI_off h a _ v) (fun j => (fval_sI (t := .int) (Or.inl rfl) h a _ v j _ (fun _ => rfl)).symm) x z o) (locs_of a1 a2 hc) a3 a4 a5
theorem g_last {x : Option Nat} {i : Int32} {v : Int64} (hd : decode (mcod M) pc = .ok (.lastore, 1)) (hv : stJ 11 h x i v = some h2) (kk : GO G M kc ks (pc + 1) L st h2 r h') : GO G M kc ks pc L (vl v :: vi i :: vr x :: st) h r h' := by
  intro p e R s m args below meth c mc ms Q C E H locs cells slots ls a1 a2 a3 a4 a5
  obtain ⟨q, hq, rfl⟩ := Option.map_eq_some_iff.mp hv
  obtain ⟨a, n, rfl, hc, hin, rfl⟩ := ca_spec hq
  refine W.last C.1 C.2.1 (a1.ar hc (by omega)) ((C.2.2.2.2.2.1.1.2 1 _ rfl).1 n _) (fun h => by cases h) (by rw [arrV_size]; exact hin) rfl rfl hd (fun H' x z o => ?_)
  exact kk p e R s m args below meth c mc ms Q C E H' _ cells slots ls (a1.ast hc (by omega) rfl rfl (sJ_off h a _ v) (fun j => (fval_sJ h a _ v j _ (fun _ => rfl)).symm) x z o) (locs_of a1 a2 hc) a3 a4 a5
theorem g_zast {x : Option Nat} {i v : Int32} (hd : decode (mcod M) pc = .ok (.bastore, 1)) (hv : stZ 12 h x i v = some h2) (kk : GO G M kc ks (pc + 1) L st h2 r h') : GO G M kc ks pc L (vi v :: vi i :: vr x :: st) h r h' := by
  intro p e R s m args below meth c mc ms Q C E H locs cells slots ls a1 a2 a3 a4 a5
  unfold stZ at hv
  by_cases hz1 : v = 0 ∨ v = 1
  · rw [if_pos hz1] at hv
    obtain ⟨q, hq, rfl⟩ := Option.map_eq_some_iff.mp hv
    obtain ⟨a, n, rfl, hc, hin, rfl⟩ := ca_spec hq
    have hn : narrow .boolean (.int v) = .int v := by rcases hz1 with q | q <;> rw [q] <;> rfl
    refine W.zast C.1 C.2.1 (a1.ar hc (by omega)) ((C.2.2.2.2.2.1.1.2 2 _ rfl).1 n _) (fun h => by cases h) (by rw [arrV_size]; exact hin) rfl rfl hd (fun H' x z o => ?_)
    rw [hn] at x
    exact kk p e R s m args below meth c mc ms Q C E H' _ cells slots ls (a1.ast hc (by omega) rfl rfl (sI_off h a _ v) (fun j => (fval_sI (t := .boolean) (Or.inr rfl) h a _ v j _ (fun _ => rfl)).symm) x z o) (locs_of a1 a2 hc) a3 a4 a5
  · rw [if_neg hz1] at hv
    cases hv
theorem g_aast {t : Nat} {j ci : Nat} {cn : String} {T : u_T} {N : Nat} (hg : (gT G)[j]? = some (gA G t, .object cn)) (hcl : vwCl[ci]? = some (cn, T, N)) (h9 : 9 ≤ t) (hci : ci < 9) (hft : ∀ k, fty t k = .object cn) {x : Option Nat} {i : Int32} {v : Option Nat} (hd : decode (mcod M) pc = .ok (.aastore, 1)) (hv : stR t ci h x i v = some h2) (kk : GO G M kc ks (pc + 1) L st h2 r h') : GO G M kc ks pc L (vr v :: vi i :: vr x :: st) h r h' := by
  intro p e R s m args below meth c mc ms Q C E H locs cells slots ls a1 a2 a3 a4 a5
  have hKj := C.2.2.2.2.2.1.1.2 j _ hg
  cases v with
  | none =>
    obtain ⟨q, hq, rfl⟩ := Option.map_eq_some_iff.mp hv
    obtain ⟨a, n, rfl, hc, hin, rfl⟩ := ca_spec hq
    refine va_WaastN (C := cn) C.1 C.2.1 (a1.ar hc h9) (hKj.1 n _) (fun h => by cases h) (by rw [arrV_size]; exact hin) rfl rfl hd (fun H' x z o => ?_)
    exact kk p e R s m args below meth c mc ms Q C E H' _ cells slots ls (a1.ast hc h9 rfl rfl (sR_off h a _ none) (fun j => (fval_sR (t := .object cn) (Or.inl ⟨_, rfl⟩) h a _ none j _ (fun _ => hft _)).symm) x z o) (locs_of a1 a2 hc) a3 a4 a5
  | some b =>
    unfold stR at hv
    by_cases hb : hk h b = some (ci, 0)
    · simp only [hb, if_true] at hv
      obtain ⟨q, hq, rfl⟩ := Option.map_eq_some_iff.mp hv
      obtain ⟨a, n, rfl, hc, hin, rfl⟩ := ca_spec hq
      have hlt : i.toNatClampNeg < n := Nat.not_le.mp fun q => hin (Or.inr q)
      have h0 : ¬ i < 0 := fun q => hin (Or.inl q)
      obtain ⟨cellV, g1, g2, g3, -⟩ := a1.ob hb hci
      have hcls := (C.2.2.2.2.2.1.1.1 ci _ hcl).2
      obtain ⟨kA, comp, k1, k2, k3, -⟩ := hKj.2
      have hcomp : comp = (gD G).1 ci := Option.some.inj (k3.symm.trans hcls.1)
      subst hcomp
      obtain ⟨kC, hkC, -⟩ := hcls.2
      refine W.aast C.1 C.2.1 (a1.ar hc h9) (fun q h => by cases h) (fun h => by cases h) k1 k2 rfl hkC ⟨h0, by rw [arrV_size]; exact hlt⟩ g1 (fun q h => by rw [g3] at h; cases h) (by rw [g2]; exact hkC) (by rw [g2]; exact va_assign hcls) rfl rfl hd (fun H' x z o => ?_)
      exact kk p e R s m args below meth c mc ms Q C E H' _ cells slots ls (a1.ast hc h9 rfl rfl (sR_off h a _ (some b)) (fun j => (fval_sR (t := .object cn) (Or.inl ⟨_, rfl⟩) h a _ (some b) j _ (fun _ => hft _)).symm) x z o) (locs_of a1 a2 hc) a3 a4 a5
    · simp only [hb, if_false] at hv
      cases hv
theorem g_new {idx ci N : Nat} {cn : String} {T : u_T} (hd : decode (mcod M) pc = .ok (.new idx, 3)) (F : CLk ci cn T N) (w1 : Cond.classLink (mown M) idx cn ∈ gw) (w2 : Cond.instantiable cn N ∈ gw) (w3 : Cond.initialized cn ∈ gw) (hty : ∀ k, k < N → okty (fty ci k) = true) (kk : GO G M kc ks (pc + 3) L (vr (some (hz h)) :: st) (nw h ci 0) r h') : GO G M (kc + 1) (ks + N) pc L st h r h' := by
  intro p e R s m args below meth c mc ms Q C E H locs cells slots ls a1 a2 a3 a4 a5
  obtain ⟨f1, f2, f3, f4, f5, f6⟩ := F
  have hKn := C.2.2.2.2.2.1.1.1 ci _ f1
  have hts := C.2.2.2.2.1
  have hmc := C.2.2.2.2.2.2.2.2.2
  refine W.newcK C.1 C.2.1 C.2.2.2.1 (hts _ w1) (hts _ w2) (hts _ w3) rfl hd (by omega) (by omega) hKn.2.1 a1.1.symm fun H1 kC hkC e1 z1 o1 => ?_
  refine kk p e R s m args below meth c mc ms Q C E H1 locs (cells + 1) (slots + N) ls (a1.push (by rw [z1, a1.1]) (fun q hq => o1 q (by rw [a1.1]; exact hq)) ?_) a2 (by omega) (by omega) a5
  unfold cok
  rw [if_neg (by omega), f2]
  have := u_born (fty ci) hts f5 hKn hkC e1 f4
  rw [a1.1] at this
  refine this.to (fun k hk => ?_)
  have e := okty_def (hty k hk) h ci 0 k
  rw [a1.1] at e
  exact e
theorem g_newa {atype : ArrayType} {t j B : Nat} {ty : FieldType} (hty : newarray.typeOf atype = ty) (hg : (gT G)[j]? = some (gA G t, ty)) (h9 : 9 ≤ t) (hft : ∀ k, fty t k = ty) (hok : okty ty = true) (hra : ∀ (U : State) (cA : ClassId), va_RA U cA ty → U.vm.findClass ("[" ++ ty.toString) = some cA) (hd : decode (mcod M) pc = .ok (.newarray atype, 2)) (w1 : Cond.arrayClass ty ∈ gw) {n : Int32} (hB : B ≤ 8000) (hcb : componentBytes ty ≤ 8) (hv : na t B h n = some h2) (kk : GO G M kc ks (pc + 2) L (vr (some (hz h)) :: st) h2 r h') : GO G M (kc + 1) (ks + B) pc L (vi n :: st) h r h' := by
  intro p e R s m args below meth c mc ms Q C E H locs cells slots ls a1 a2 a3 a4 a5
  subst hty
  unfold na at hv
  by_cases hn : ¬ n < 0 ∧ n.toNatClampNeg ≤ B
  · rw [if_pos hn] at hv
    cases hv
    have hts := C.2.2.2.2.1
    have hmc := C.2.2.2.2.2.2.2.2.2
    have hbb : n.toNatClampNeg * componentBytes (newarray.typeOf atype) ≤ 536870912 := Nat.le_trans (Nat.mul_le_mul (Nat.le_trans hn.2 hB) hcb) (by decide)
    refine va_newaK C.1 C.2.1 (hts _ w1) rfl hd rfl hn.1 rfl hbb (by omega) (by omega) a1.1.symm fun H1 cA e1 z1 o1 hAr hNm => ?_
    have hcA : cA = gA G t := Option.some.inj (hNm.symm.trans (hra s _ (C.2.2.2.2.2.1.1.2 j _ hg).2))
    subst hcA
    refine kk p e R s m args below meth c mc ms Q C E H1 locs (cells + 1) (slots + n.toNatClampNeg) ls (a1.push (by rw [z1, a1.1]) (fun q hq => o1 q (by rw [a1.1]; exact hq)) ?_) a2 (by omega) (by omega) a5
    unfold cok
    rw [if_pos h9, ← a1.1, e1]
    congr 2
    funext k
    rw [hft]
    exact okty_def hok h t _ k
  · rw [if_neg hn] at hv
    cases hv
theorem g_anew {idx t j B : Nat} {cn : String} (hg : (gT G)[j]? = some (gA G t, .object cn)) (h9 : 9 ≤ t) (hft : ∀ k, fty t k = .object cn) (hao : ∀ U, KK G U → va_AO cn U) (hd : decode (mcod M) pc = .ok (.anewarray idx, 3)) (w1 : Cond.classLink (mown M) idx cn ∈ gw) {n : Int32} (hB : B ≤ 8000) (hv : na t B h n = some h2) (kk : GO G M kc ks (pc + 3) L (vr (some (hz h)) :: st) h2 r h') : GO G M (kc + 1) (ks + B) pc L (vi n :: st) h r h' := by
  intro p e R s m args below meth c mc ms Q C E H locs cells slots ls a1 a2 a3 a4 a5
  unfold na at hv
  by_cases hn : ¬ n < 0 ∧ n.toNatClampNeg ≤ B
  · rw [if_pos hn] at hv
    cases hv
    have hts := C.2.2.2.2.1
    have hmc := C.2.2.2.2.2.2.2.2.2
    refine W.anew C.1 C.2.1 C.2.2.2.1 (hts _ w1) (va_AO.use (hao s C.2.2.2.2.2.1)) rfl hd rfl hn.1 (by omega) (by omega) (by omega) fun cA kA comp f1 f2 f3 f4 => ?_
    obtain ⟨kA', comp', -, -, -, f5⟩ := (C.2.2.2.2.2.1.1.2 j _ hg).2
    have hcA : cA = gA G t := Option.some.inj (f1.symm.trans f5)
    subst hcA
    rw [← a1.1]
    refine kk p e R s m args below meth c mc ms Q C E _ locs (cells + 1) (slots + n.toNatClampNeg) ls (a1.push (by rw [Array.size_push]) (fun q hq => by rw [Array.getElem?_push, if_neg (Nat.ne_of_lt hq)]) ?_) a2 (by omega) (by omega) a5
    unfold cok
    rw [if_pos h9, Array.getElem?_push_size, arrV_new]
    congr 2
    funext k
    rw [hft, ← a1.1]
    exact okty_def (t := .object cn) rfl h t _ k
  · rw [if_neg hn] at hv
    cases hv
theorem g_slen (hd : decode (mcod M) pc = .ok (.arraylength, 1)) (kk : GO G M kc ks (pc + 1) L (vi (nI (gsL G)) :: st) h r h') : GO G M kc ks pc L (vr (some (gsb G)) :: st) h r h' := by
  intro p e R s m args below meth c mc ms Q C E H locs cells slots ls a1 a2 a3 a4 a5
  obtain ⟨scr, h1, h2, h3, h4, h5⟩ := C.2.2.2.2.2.1.2.1
  exact W.alen (n := nI (gsL G)) C.1 C.2.1 (by rw [a1.2.2.1 _ a1.2.1.2]; exact h1) h2 (by rw [h4]; rfl) rfl rfl hd (kk p e R s m args below meth c mc ms Q C E H locs cells slots ls a1 a2 a3 a4 a5)
/-- the script's number at i -/
def lS (G : Gm) (i : Int32) : Option Int32 := if ¬ (i < 0 ∨ gsL G ≤ i.toNatClampNeg) then some (gsx G i.toNatClampNeg) else none
theorem g_sald {i v : Int32} (hd : decode (mcod M) pc = .ok (.iaload, 1)) (hv : lS G i = some v) (kk : GO G M kc ks (pc + 1) L (vi v :: st) h r h') : GO G M kc ks pc L (vi i :: vr (some (gsb G)) :: st) h r h' := by
  intro p e R s m args below meth c mc ms Q C E H locs cells slots ls a1 a2 a3 a4 a5
  obtain ⟨scr, h1, h2, h3, h4, h5⟩ := C.2.2.2.2.2.1.2.1
  unfold lS at hv
  by_cases hin : ¬ (i < 0 ∨ gsL G ≤ i.toNatClampNeg)
  · rw [if_pos hin] at hv
    cases hv
    have hlt : i.toNatClampNeg < gsL G := Nat.not_le.mp fun q => hin (Or.inr q)
    exact W.iald (v := .int (gsx G i.toNatClampNeg)) C.1 C.2.1 (by rw [a1.2.2.1 _ a1.2.1.2]; exact h1) h2 h3 (by rw [h4]; exact hin) (h5 _ hlt) rfl rfl hd (kk p e R s m args below meth c mc ms Q C E H locs cells slots ls a1 a2 a3 a4 a5)
  · rw [if_neg hin] at hv
    cases hv
end G4
/-! CORE 5: calls, the contract's start -/
def largs : Nat → List LV → LL
  | _, [] => []
  | i, v :: vs => (i, v) :: largs (if lcat v = 2 then i + 2 else i + 1) vs
theorem largs_map (as : List LV) : ∀ i, lv_args i (as.map tv) = (largs i as).map lvq := by
  induction as with
  | nil => intro i; rfl
  | cons v vs ih =>
    intro i
    simp only [List.map_cons, lv_args, largs, tv_cat, ih, lvq]
def lslots (as : List LV) : Nat := (as.map lcat).sum
theorem lslots_sl (as : List LV) : (lg_sl (as.map tv)).length = lslots as := by
  induction as with
  | nil => rfl
  | cons v vs ih =>
    have : lg_sl ((v :: vs).map tv) = (if (tv v).category = 2 then [Slot.val (tv v), .second] else [Slot.val (tv v)]) ++ lg_sl (vs.map tv) := rfl
    rw [this, List.length_append, ih, tv_cat]
    have h2 : lslots (v :: vs) = lcat v + lslots vs := rfl
    rw [h2]
    rcases v with x | x | x <;> simp [lcat]
theorem gw_mem {y : MethodName} {cc : ByteArray} {n : Nat} {ret : Option FieldType} (h : Cond.code y cc n ret ∈ gw) : ∀ w ∈ Cond.code y cc n ret :: gw, w ∈ gw ∧ ((w.onTables && w.keeps) = true ∨ ∃ ty, w = .arrayClass ty) := by
  intro w hw
  rcases List.mem_cons.mp hw with rfl | hw
  · exact gw_good _ h
  · exact gw_good _ hw
/-- a call's words -/
def CB (y : MethodName) (M' : MI) (ret' : Option FieldType) (n : Nat) : Prop := Cond.code y (mcod M') (mloc M') ret' ∈ gw ∧ Cond.initialized y.cls ∈ gw ∧ (y.cls ≠ "java/lang/invoke/MethodHandle" ∧ y.cls ≠ "java/lang/invoke/VarHandle") ∧ (parseMethodDescriptor y.desc).map (fun d => d.parameters.length) = some n ∧ mloc M' ≤ 16
def VWk (own : String) (idx ci : Nat) (y : MethodName) : Prop := Cond.methodLink own idx y ∈ gw ∧ Cond.instanceMethod y ∈ gw ∧ Cond.selects y.cls y y ∈ gw ∧ (vwCl[ci]?).map (fun q => q.1) = some y.cls ∧ ci < 9
section G5
variable {G : Gm} {M : MI} {kc ks pc pc2 : Nat} {L L2 : LL} {st st2 : List LV} {h h1 h2 h' : AH} {r : Option LV}
theorem pc_blind {as : List LV} : FrameBlind (va_Pc (as.map tv) (fun U => HL G h U.heap ∧ KK G U)) := fun a U g mk q => ⟨q.1, q.2.1, KK.calling q.2.2⟩
/-- what comes back from a call -/
theorem call_back {mc' ms' : Nat} {r1 : Option LV} {p : Program} {e : Env} {R : Room} {s : State} {m : MethodId} {args : Array Value} {below : List Frame} {meth : Method} {c : Code} {H : Heap} {locs : List Loc} {cells slots : Nat} {Q : State → Prop} {ls : Array Slot} {rest : List LV} {st0 : List Value}
    (run : va_Run p (gl G) e R s m args below meth c H locs cells slots mc' ms' (F0 m pc ls st0) (rest.map tv) (fun (_ : State) (o : Outcome) (t : State) => o = .returned (r1.map tv) ∧ HL G h1 t.heap) (fun a => gb G ≤ a)) (a2 : ∀ q ∈ locs, gb G ≤ q.base)
    (kk : ∀ (H1 : Heap) (locs1 : List Loc), HL G h1 H1 → (∀ q ∈ locs1, gb G ≤ q.base) → W p (gl G) e R s m args below meth c H1 locs1 (cells + mc') (slots + ms') Q (F0 m (pc + 3) ls ((r1.toList ++ rest).map tv))) : W p (gl G) e R s m args below meth c H locs cells slots Q (F0 m pc ls st0) := by
  intro T hT X
  obtain ⟨v, st₀, t, T', L', h0, X', hL, e1, e2, ⟨hv, hH⟩, st⟩ := run T hT X
  have hv' : v = r1.map tv := Outcome.returned.inj hv
  subst hv'
  obtain ⟨t2, b1, b2⟩ := kk T'.heap (locs ++ L') (by rw [e1]; exact hH) (fun q hq => by
    rcases List.mem_append.mp hq with h | h
    · exact a2 q h
    · exact hL q h) T' rfl X'
  refine ⟨t2, st t2 ?_, b2⟩
  have e : (r1.toList ++ rest).map tv = (r1.map tv).toList ++ rest.map tv := by cases r1 <;> rfl
  rw [e] at b1
  exact b1
theorem g_callV {idx ci n mc' ms' b : Nat} {y : MethodName} {M' : MI} {ret' : Option FieldType} {x : Option Nat} {as rest : List LV} {r1 : Option LV} (hd : decode (mcod M) pc = .ok (.invokevirtual idx, 3)) (B : CB y M' ret' n) (V : VWk (mown M) idx ci y) (hst : as.reverse ++ vr x :: rest = st) (hx : ck ci h x = some b) (hn : as.length = n) (hcs : csum rest ≤ 8) (hdp : mdep M' + 1 ≤ mdep M)
    (hc : CT G y M' ret' mc' ms' (vr (some b) :: as) h r1 h1) (kk : GO G M kc ks (pc + 3) L (r1.toList ++ rest) h1 r h') : GO G M (kc + mc') (ks + ms') pc L st h r h' := by
  intro p e R s m args below meth c mc ms Q C E H locs cells slots ls a1 a2 a3 a4 a5
  obtain ⟨rfl, hxb⟩ := ck_spec hx
  subst hst
  obtain ⟨b1, b2, b3, b4, b5⟩ := B
  obtain ⟨v1, v2, v3, v4, v5⟩ := V
  have hts := C.2.2.2.2.1
  have hC2 := C.2.2.2.2.2.2.2
  have hcw : CallW R s args (mown M) y.cls idx y (mcod M') (mloc M') ret' (Cond.code y (mcod M') (mloc M') ret' :: gw) { frames := mdep M', cells := mc', slots := ms', locals := 35 * mdep M' } mc' ms' n :=
    ⟨⟨rfl, rfl, by show mdep M' + 1 ≤ R.frames; omega, by show 8 + (mloc M' + 11) + 35 * mdep M' ≤ R.locals; omega, pay_in hts (gw_mem b1), List.mem_cons_self, hts _ b1, hts _ b2, b3, fun sig hs => by rw [hs] at b4; exact (Option.some.inj b4).symm, hts _ v1⟩, hts _ v2, hts _ v3⟩
  obtain ⟨cellB, g1, g2, g3, -⟩ := a1.ob hxb v5
  have hcl : s.vm.findClass y.cls = some cellB.cls := by
    cases hq : vwCl[ci]? with
    | none => rw [hq] at v4; cases v4
    | some q =>
      rw [hq] at v4
      have e1 : q.1 = y.cls := Option.some.inj v4
      have := (C.2.2.2.2.2.1.1.1 ci q hq).2.1
      rw [e1] at this
      rw [g2]
      exact this
  refine call_back (va_runV (n := n) (nL := mloc M) (Ts := gw) (As := as.map tv) (rest := rest.map tv) ⟨C.1, C.2.1, C.2.2.1, C.2.2.2.1, hts⟩ hc hcw ⟨pc_blind (as := vr (some b) :: as), ⟨cellB, g1, by rw [g3]; rfl, hcl⟩, fun U hU hW => ⟨rfl, by rw [hU]; exact a1, KK.warm hW C.2.2.2.2.2.1⟩⟩ rfl (by rw [List.length_map]; exact hn) a5.1 (by simp [tv, va_rf]) (by show 2 * 0 + _ ≤ 8; rw [csum_map]; omega) hd ⟨by omega, by omega⟩) a2 (fun H1 locs1 q1 q2 => ?_)
  exact kk p e R s m args below meth c mc ms Q C E H1 locs1 (cells + mc') (slots + ms') ls q1 q2 (by omega) (by omega) a5
theorem g_callS {idx n mc' ms' : Nat} {y : MethodName} {M' : MI} {ret' : Option FieldType} {as rest : List LV} {r1 : Option LV} (hd : decode (mcod M) pc = .ok (.invokestatic idx, 3)) (B : CB y M' ret' n) (v1 : Cond.methodLink (mown M) idx y ∈ gw) (v2 : Cond.static y ∈ gw) (hst : as.reverse ++ rest = st) (hn : as.length = n) (hcs : csum rest ≤ 8) (hdp : mdep M' + 1 ≤ mdep M)
    (hc : CT G y M' ret' mc' ms' as h r1 h1) (kk : GO G M kc ks (pc + 3) L (r1.toList ++ rest) h1 r h') : GO G M (kc + mc') (ks + ms') pc L st h r h' := by
  intro p e R s m args below meth c mc ms Q C E H locs cells slots ls a1 a2 a3 a4 a5
  subst hst
  obtain ⟨b1, b2, b3, b4, b5⟩ := B
  have hts := C.2.2.2.2.1
  have hC2 := C.2.2.2.2.2.2.2
  have hcw : CallB R s args (mown M) idx y (mcod M') (mloc M') ret' (Cond.code y (mcod M') (mloc M') ret' :: gw) { frames := mdep M', cells := mc', slots := ms', locals := 35 * mdep M' } mc' ms' n ∧ (Cond.static y).before args s = true :=
    ⟨⟨rfl, rfl, by show mdep M' + 1 ≤ R.frames; omega, by show 8 + (mloc M' + 11) + 35 * mdep M' ≤ R.locals; omega, pay_in hts (gw_mem b1), List.mem_cons_self, hts _ b1, hts _ b2, b3, fun sig hs => by rw [hs] at b4; exact (Option.some.inj b4).symm, hts _ v1⟩, hts _ v2⟩
  refine call_back (va_runS (n := n) (nL := mloc M) (Ts := gw) (As := as.map tv) (rest := rest.map tv) ⟨C.1, C.2.1, C.2.2.1, C.2.2.2.1, hts⟩ hc hcw ⟨pc_blind (as := as), fun U hU hW => ⟨rfl, by rw [hU]; exact a1, KK.warm hW C.2.2.2.2.2.1⟩⟩ rfl (by rw [List.length_map]; exact hn) a5.1 (by simp) (by show 2 * 0 + _ ≤ 8; rw [csum_map]; omega) hd ⟨by omega, by omega⟩) a2 (fun H1 locs1 q1 q2 => ?_)
  exact kk p e R s m args below meth c mc ms Q C E H1 locs1 (cells + mc') (slots + ms') ls q1 q2 (by omega) (by omega) a5
theorem g_callN {n mc' ms' : Nat} {M' : MI} {ret' : Option FieldType} {as rest : List LV} {r1 : Option LV} (hd : decode (mcod M) pc = .ok (.invokestatic 68, 3)) (hM : mown M = RX3) (B : CB yX7_numberOf M' ret' n) (v2 : Cond.static yX7_numberOf ∈ gw) (hst : as.reverse ++ rest = st) (hn : as.length = n) (hcs : csum rest ≤ 8) (hdp : mdep M' + 1 ≤ mdep M)
    (hc : CT G yX7_numberOf M' ret' mc' ms' as h r1 h1) (kk : GO G M kc ks (pc + 3) L (r1.toList ++ rest) h1 r h') : GO G M (kc + mc') (ks + ms') pc L st h r h' := by
  intro p e R s m args below meth c mc ms Q C E H locs cells slots ls a1 a2 a3 a4 a5
  subst hst
  obtain ⟨b1, b2, b3, b4, b5⟩ := B
  have hts := C.2.2.2.2.1
  have hC2 := C.2.2.2.2.2.2.2
  have hnw : (nestW).before args s = true := va_Nw.use rfl C.2.2.2.2.2.1.2.2.1
  have hcw : va_CN R s args (mown M) 68 yX7_numberOf RX7 (mcod M') (mloc M') ret' (Cond.code yX7_numberOf (mcod M') (mloc M') ret' :: gw) { frames := mdep M', cells := mc', slots := ms', locals := 35 * mdep M' } mc' ms' n ∧ (Cond.static yX7_numberOf).before args s = true ∧ True :=
    ⟨⟨⟨rfl, rfl, by show mdep M' + 1 ≤ R.frames; omega, by show 8 + (mloc M' + 11) + 35 * mdep M' ≤ R.locals; omega, pay_in hts (gw_mem b1), List.mem_cons_self⟩, hts _ b1, hts _ b2, b3, fun sig hs => by rw [hs] at b4; exact (Option.some.inj b4).symm, by rw [hM]; exact hnw⟩, hts _ v2, trivial⟩
  refine call_back (va_runSN (n := n) (nL := mloc M) (Ts := gw) (As := as.map tv) (rest := rest.map tv) ⟨C.1, C.2.1, C.2.2.1, C.2.2.2.1, hts⟩ hc hcw ⟨pc_blind (as := as), fun U hU hW => ⟨rfl, by rw [hU]; exact a1, KK.warm hW C.2.2.2.2.2.1⟩⟩ rfl (by rw [List.length_map]; exact hn) a5.1 (by simp) (by show 2 * 0 + _ ≤ 8; rw [csum_map]; omega) hd ⟨by omega, by omega⟩) a2 (fun H1 locs1 q1 q2 => ?_)
  exact kk p e R s m args below meth c mc ms Q C E H1 locs1 (cells + mc') (slots + ms') ls q1 q2 (by omega) (by omega) a5
theorem g_callI {idx n mc' ms' b : Nat} {y : MethodName} {M' : MI} {as rest : List LV} (hd : decode (mcod M) pc = .ok (.invokespecial idx, 3)) (B : CB y M' none n) (v1 : Cond.methodLink (mown M) idx y ∈ gw) (v2 : Cond.instanceMethod y ∈ gw) (hy : y.name = "<init>") (hst : as.reverse ++ vr (some b) :: rest = st) (hn : as.length = n) (hcs : csum rest ≤ 8) (hdp : mdep M' + 1 ≤ mdep M)
    (hc : CT G y M' none mc' ms' (vr (some b) :: as) h none h1) (kk : GO G M kc ks (pc + 3) L rest h1 r h') : GO G M (kc + mc') (ks + ms') pc L st h r h' := by
  intro p e R s m args below meth c mc ms Q C E H locs cells slots ls a1 a2 a3 a4 a5
  subst hst
  obtain ⟨b1, b2, b3, b4, b5⟩ := B
  have hts := C.2.2.2.2.1
  have hC2 := C.2.2.2.2.2.2.2
  have hcw : CallB R s args (mown M) idx y (mcod M') (mloc M') none (Cond.code y (mcod M') (mloc M') none :: gw) { frames := mdep M', cells := mc', slots := ms', locals := 35 * mdep M' } mc' ms' n ∧ y.name = "<init>" ∧ (Cond.instanceMethod y).before args s = true :=
    ⟨⟨rfl, rfl, by show mdep M' + 1 ≤ R.frames; omega, by show 8 + (mloc M' + 11) + 35 * mdep M' ≤ R.locals; omega, pay_in hts (gw_mem b1), List.mem_cons_self, hts _ b1, hts _ b2, b3, fun sig hs => by rw [hs] at b4; exact (Option.some.inj b4).symm, hts _ v1⟩, hy, hts _ v2⟩
  refine call_back (r1 := none) (va_runI (n := n) (nL := mloc M) (Ts := gw) (As := as.map tv) (rest := rest.map tv) (b := b) ⟨C.1, C.2.1, C.2.2.1, C.2.2.2.1, hts⟩ hc hcw ⟨pc_blind (as := vr (some b) :: as), fun U hU hW => ⟨rfl, by rw [hU]; exact a1, KK.warm hW C.2.2.2.2.2.1⟩⟩ rfl (by rw [List.length_map]; exact hn) a5.1 (by simp [tv, va_rf]) (by show 2 * 0 + _ ≤ 8; rw [csum_map]; omega) hd ⟨by omega, by omega⟩) a2 (fun H1 locs1 q1 q2 => ?_)
  exact kk p e R s m args below meth c mc ms Q C E H1 locs1 (cells + mc') (slots + ms') ls q1 q2 (by omega) (by omega) a5
theorem g_obj {idx a : Nat} (hd : decode (mcod M) pc = .ok (.invokespecial idx, 3)) (v1 : Cond.methodLink (mown M) idx objectInit ∈ gw) (v2 : Cond.instanceMethod objectInit ∈ gw) (v3 : Cond.code objectInit ⟨#[0xb1]⟩ 1 none ∈ gw) (hcs : csum st ≤ 8) (hdp : 1 ≤ mdep M) (kk : GO G M kc ks (pc + 3) L st h r h') : GO G M kc ks pc L (vr (some a) :: st) h r h' := by
  intro p e R s m args below meth c mc ms Q C E H locs cells slots ls a1 a2 a3 a4 a5
  have hts := C.2.2.2.2.1
  have hC2 := C.2.2.2.2.2.2.2
  exact W.objInit C.1 C.2.1 C.2.2.2.1 (hts _ v1) (hts _ v2) (hts _ v3) rfl (by rw [C.2.2.1]; exact a5.1) rfl hd (by omega) (by show 2 * 0 + _ + 12 ≤ _; rw [csum_map]; omega) (kk p e R s m args below meth c mc ms Q C E H locs cells slots ls a1 a2 a3 a4 a5)
theorem g_min {idx : Nat} {x y : Int32} (hd : decode (mcod M) pc = .ok (.invokestatic idx, 3)) (v1 : Cond.methodLink (mown M) idx Lib.Math.min.name ∈ gw) (v2 : Cond.static Lib.Math.min.name ∈ gw) (v3 : Cond.initialized "java/lang/Math" ∈ gw) (v4 : Cond.code Lib.Math.min.name Lib.Math.min.code 2 (some .int) ∈ gw) (hcs : csum st ≤ 8) (hdp : 1 ≤ mdep M) (kk : GO G M kc ks (pc + 3) L (vi (if y < x then y else x) :: st) h r h') : GO G M kc ks pc L (vi y :: vi x :: st) h r h' := by
  intro p e R s m args below meth c mc ms Q C E H locs cells slots ls a1 a2 a3 a4 a5
  have hts := C.2.2.2.2.1
  have hC2 := C.2.2.2.2.2.2.2
  exact va_mmin C.1 C.2.1 (C.2.2.1.trans a5.1.symm) C.2.2.2.1 (hts _ v1) (hts _ v2) (hts _ v3) (hts _ v4) (by omega) (by rw [csum_map]; omega) (by omega) (by omega) hd (kk p e R s m args below meth c mc ms Q C E H locs cells slots ls a1 a2 a3 a4 a5)
theorem g_acp {idx : Nat} {x x' : Option Nat} {i j n : Int32} (hd : decode (mcod M) pc = .ok (.invokestatic idx, 3)) (v1 : Cond.methodLink (mown M) idx arraycopyName ∈ gw) (v2 : Cond.native arraycopyName ∈ gw) (v3 : Cond.static arraycopyName ∈ gw) (v4 : Cond.initialized "java/lang/System" ∈ gw) (hnf : nativeFrameWords "java/lang/System" "arraycopy" 5 + 11 + 8 ≤ 35) (hcs : csum st ≤ 8) (hdp : 1 ≤ mdep M) (hv : acp h x i x' j n = some h2) (kk : GO G M kc ks (pc + 3) L st h2 r h') : GO G M kc ks pc L (vi n :: vi j :: vr x' :: vi i :: vr x :: st) h r h' := by
  intro p e R s m args below meth c mc ms Q C E H locs cells slots ls a1 a2 a3 a4 a5
  have hts := C.2.2.2.2.1
  have hC2 := C.2.2.2.2.2.2.2
  cases x with
  | none => cases hv
  | some a =>
  cases x' with
  | none => cases hv
  | some b =>
  unfold acp at hv
  cases hca : hk h a with
  | none => simp [hca] at hv
  | some tn =>
  cases hcb : hk h b with
  | none => simp [hca, hcb] at hv
  | some tn' =>
  obtain ⟨t, n0⟩ := tn
  obtain ⟨t', n1⟩ := tn'
  simp only [hca, hcb] at hv
  by_cases hcd : (t = 11 ∧ t' = 11) ∧ (¬ i < 0 ∧ ¬ j < 0 ∧ ¬ n < 0) ∧ i.toNatClampNeg + n.toNatClampNeg ≤ n0 ∧ j.toNatClampNeg + n.toNatClampNeg ≤ n1
  · rw [if_pos hcd] at hv
    cases hv
    obtain ⟨⟨rfl, rfl⟩, ⟨g1, g2, g3⟩, g4, g5⟩ := hcd
    have hc0 := a1.ar hca (by omega)
    have hc1 := a1.ar hcb (by omega)
    have nn : ∀ z : Int32, ¬ z < 0 → z.toInt = (z.toNatClampNeg : Int) := by
      intro z hz
      have hz0 : (0 : Int) ≤ z.toInt := by
        have := Int32.not_lt.mp hz
        simpa using Int32.le_iff_toInt_le.mp this
      show z.toInt = ((z.toInt.toNat : Nat) : Int)
      omega
    have hKl := C.2.2.2.2.2.1.1.2 1 _ rfl
    obtain ⟨-, k0, hk0, cm0, hkk0⟩ := hKl.1 n0 (fun k => fval (fty 11 k) h a k)
    obtain ⟨-, k1, hk1, cm1, hkk1⟩ := hKl.1 n1 (fun k => fval (fty 11 k) h b k)
    intro T hT X
    obtain ⟨vm', X', step⟩ := X.arraycopy C.1 C.2.2.2.1 (hts _ v1) (hts _ v2) (hts _ v3) (hts _ v4) (src := a) (dst := b) (cs := arrV (gA G 11) n0 (fun k => fval (fty 11 k) h a k)) (cd := arrV (gA G 11) n1 (fun k => fval (fty 11 k) h b k)) (srcPos := i) (destPos := j) (n := n) (by rw [hT]; exact hc0) (by rw [hT]; exact hc1)
      (fun _ h => by cases h) (fun _ h => by cases h) (fun h => by cases h) (fun h => by cases h) hk0 hk1 hkk0 hkk1 (by rfl) g1 g2 g3
      (by rw [nn i g1, nn n g3, arrV_size]; omega) (by rw [nn j g2, nn n g3, arrV_size]; omega)
      (fun vm₁ _ q hq => by
        have e : (arrV (gA G 11) n0 (fun k => fval (fty 11 k) h a k)).slots.getD (i.toNatClampNeg + q) .null = .long (hJ h a (i.toNatClampNeg + q)) := by
          rw [Array.getD_eq_getD_getElem?, arrV_read _ _ (by omega)]
          rfl
        refine ⟨?_, ?_⟩
        · rw [e]
          rfl
        · rw [e]
          exact trivial)
      (g := F0 m pc ls (.int n :: .int j :: .ref b :: .int i :: .ref a :: st.map tv)) rfl (by rw [C.2.2.1]; exact a5.1) (rest := st.map tv) rfl (by rw [C.2.1]; exact hd) (by omega) (by show 2 * 0 + _ + _ ≤ _; rw [csum_map]; omega)
    have e1 : copied (arrV (gA G 11) n0 (fun k => fval (fty 11 k) h a k)) (arrV (gA G 11) n1 (fun k => fval (fty 11 k) h b k)) i j n = arrV (gA G 11) n1 (fun k => .long (va_cpy (hJ h a) (hJ h b) i.toNatClampNeg j.toNatClampNeg n.toNatClampNeg k)) := va_copied (fun z => .long z) (gA G 11) (gA G 11) (hJ h a) (hJ h b) g4
    rw [e1] at X' step
    have hl : b < H.size := (Array.getElem?_eq_some_iff.mp hc1).1
    have hheap : ((T.setVm vm').setCell b (arrV (gA G 11) n1 (fun k => .long (va_cpy (hJ h a) (hJ h b) i.toNatClampNeg j.toNatClampNeg n.toNatClampNeg k)))).heap = H.setIfInBounds b (arrV (gA G 11) n1 (fun k => .long (va_cpy (hJ h a) (hJ h b) i.toNatClampNeg j.toNatClampNeg n.toNatClampNeg k))) := by rw [← hT]; rfl
    have hHL : HL G (cpJ h a i.toNatClampNeg b j.toNatClampNeg n.toNatClampNeg) (H.setIfInBounds b (arrV (gA G 11) n1 (fun k => .long (va_cpy (hJ h a) (hJ h b) i.toNatClampNeg j.toNatClampNeg n.toNatClampNeg k)))) := by
      refine HL.upd (a := b) a1 rfl rfl (fun b' hb' k => ⟨rfl, by simp [hJ, cpJ, hb'], rfl⟩) (by simp) (fun q hq => by simp [Array.getElem?_setIfInBounds, Ne.symm hq]) (a1.2.2.2 b _ _ hcb).1 (fun ci' n' hc' => ?_)
      rw [hcb] at hc'
      cases hc'
      unfold cok
      rw [if_pos (by omega)]
      simp only [Array.getElem?_setIfInBounds, hl, if_true]
      congr 2
      funext k
      simp [fty, fval, hJ, cpJ]
    obtain ⟨t, b1, b2⟩ := kk p e R s m args below meth c mc ms Q C E _ (locs ++ _) cells slots ls hHL (fun q hq => by
      rcases List.mem_append.mp hq with h | h
      · exact a2 q h
      · obtain ⟨z, -, hz⟩ := List.mem_map.mp h
        rw [← hz]
        exact (a1.2.2.2 b _ _ hcb).1) a3 a4 a5 _ hheap X'
    exact ⟨t, step t b1, b2⟩
  · rw [if_neg hcd] at hv
    cases hv
/-- a contract out of a walk from the method's entry -/
theorem CT.mk {y : MethodName} {ret : Option FieldType} {mc ms : Nat} {as : List LV} (hy : plainName y.cls = true) (hown : mown M = y.cls) (hnm : mnam M = y.name) (hlen : lslots as ≤ mloc M)
    (hq : ∀ (p : Program) (e : Env) (R : Room) (s : State) (m : MethodId) (args : Array Value) (below : List Frame) (meth : Method) (c : Code), p.tables.exec = Jvm.exec → c.code = mcod M → meth.sig.returnType = ret → meth.locks = false → EN G M p e R s m args below meth c mc ms (MQ below (fun _ _ o t => o = .returned (r.map tv) ∧ HL G h' t.heap) args s mc ms (fun a => gb G ≤ a)) r h')
    (k : GO G M mc ms 0 (largs 0 as) [] h r h') : CT G y M ret mc ms as h r h' := by
  refine Met.ofW (cc := mcod M) (maxL := mloc M) (ret := ret) hy rfl ?_
  intro p e s m args below meth c s₁ B hml hv
  obtain ⟨rfl, hH, hK⟩ := hv
  have hts := atoms_spec (ws := Cond.code y (mcod M) (mloc M) ret :: gw) B.pre
  rw [lg_entry_eq]
  have hl := lv_entry (as.map tv) (n := mloc M) (by rw [lslots_sl]; exact hlen)
  rw [largs_map] at hl
  exact k p e _ s m _ below meth c mc ms _ ⟨B.exec, B.bytes, hml, by rw [hown]; exact findClass_of_methodNamed B.named, fun w hw => hts w (List.mem_cons_of_mem _ hw), hK, fun hh => (name_of_methodNamed B.named B.method).1.trans (hnm.symm.trans hh), Nat.le_refl _, Nat.le_refl _, Nat.le_refl _, Nat.le_refl _⟩
    (hq p e _ s m _ below meth c B.exec B.bytes B.returns B.notSynchronized) s.heap [] 0 0 _ hH (fun _ h => by cases h) (by omega) (by omega) hl
theorem CT.int {y : MethodName} {mc ms : Nat} {as : List LV} {v : Int32} (hy : plainName y.cls = true) (hown : mown M = y.cls) (hnm : mnam M = y.name) (hri : mri M = .ireturn) (hlen : lslots as ≤ mloc M) (k : GO G M mc ms 0 (largs 0 as) [] h (some (vi v)) h') : CT G y M (some .int) mc ms as h (some (vi v)) h' :=
  CT.mk hy hown hnm hlen (fun p e R s m args below meth c hx hb hr hlk H locs ls pc hd hH hl => W.iret (v := v) hx hb hr (fun t ht hW => ⟨rfl, by rw [ht]; exact hH⟩) hl (by rw [← hri]; exact hd) hlk) k
theorem CT.bool {y : MethodName} {mc ms : Nat} {as : List LV} {v : Int32} (hy : plainName y.cls = true) (hown : mown M = y.cls) (hnm : mnam M = y.name) (hri : mri M = .ireturn) (hlen : lslots as ≤ mloc M) (hv : v = 0 ∨ v = 1) (k : GO G M mc ms 0 (largs 0 as) [] h (some (vi v)) h') : CT G y M (some .boolean) mc ms as h (some (vi v)) h' :=
  CT.mk hy hown hnm hlen (fun p e R s m args below meth c hx hb hr hlk H locs ls pc hd hH hl => W.zret (v := v) (ty := .boolean) hx hb hr (by rcases hv with q | q <;> rw [q] <;> rfl) (fun t ht hW => ⟨rfl, by rw [ht]; exact hH⟩) hl (by rw [← hri]; exact hd) hlk) k
theorem CT.long {y : MethodName} {mc ms : Nat} {as : List LV} {v : Int64} (hy : plainName y.cls = true) (hown : mown M = y.cls) (hnm : mnam M = y.name) (hri : mri M = .lreturn) (hlen : lslots as ≤ mloc M) (k : GO G M mc ms 0 (largs 0 as) [] h (some (vl v)) h') : CT G y M (some .long) mc ms as h (some (vl v)) h' :=
  CT.mk hy hown hnm hlen (fun p e R s m args below meth c hx hb hr hlk H locs ls pc hd hH hl => W.lret (v := v) hx hb hr (fun t ht hW => ⟨rfl, by rw [ht]; exact hH⟩) hl (by rw [← hri]; exact hd) hlk) k
theorem CT.void {y : MethodName} {mc ms : Nat} {as : List LV} (hy : plainName y.cls = true) (hown : mown M = y.cls) (hnm : mnam M = y.name) (hri : mri M = .return_) (hlen : lslots as ≤ mloc M) (k : GO G M mc ms 0 (largs 0 as) [] h none h') : CT G y M none mc ms as h none h' :=
  CT.mk hy hown hnm hlen (fun p e R s m args below meth c hx hb hr hlk H locs ls pc hd hH hl => W.vret hx hb hr (fun t ht hW => ⟨rfl, by rw [ht]; exact hH⟩) hl (by rw [← hri]; exact hd) hlk) k
theorem CT.ref {y : MethodName} {mc ms : Nat} {as : List LV} {v : Option Nat} {cn : String} (hy : plainName y.cls = true) (hown : mown M = y.cls) (hnm : mnam M = y.name) (hri : mri M = .areturn) (hlen : lslots as ≤ mloc M) (k : GO G M mc ms 0 (largs 0 as) [] h (some (vr v)) h') : CT G y M (some (.object cn)) mc ms as h (some (vr v)) h' :=
  CT.mk hy hown hnm hlen (fun p e R s m args below meth c hx hb hr hlk H locs ls pc hd hH hl => W.aret (v := va_rf v) (rt := .object cn) hx hb hr (Or.inl ⟨_, rfl⟩) (by cases v <;> simp [va_rf]) (fun t ht hW => ⟨rfl, by rw [ht]; exact hH⟩) hl (by rw [← hri]; exact hd) hlk) k
end G5
