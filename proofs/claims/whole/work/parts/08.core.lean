/-! CORE 5: calls, the contract's start -/
def largs : Nat → List LV → LL
  | _, [] => []
  | i, v :: vs => (i, v) :: largs (if lcat v = 2 then i + 2 else i + 1) vs
theorem largs_map (as : List LV) : ∀ i, lv_args i (as.map tv) = (largs i as).map lvq := by
  induction as with
  | nil => intro i; rfl
  | cons v vs ih =>
    intro i
    simp only [List.map_cons, lv_args, largs, tv_cat, ih, lvq]
def lslots (as : List LV) : Nat := (as.map lcat).sum
theorem lslots_sl (as : List LV) : (lg_sl (as.map tv)).length = lslots as := by
  induction as with
  | nil => rfl
  | cons v vs ih =>
    have : lg_sl ((v :: vs).map tv) = (if (tv v).category = 2 then [Slot.val (tv v), .second] else [Slot.val (tv v)]) ++ lg_sl (vs.map tv) := rfl
    rw [this, List.length_append, ih, tv_cat]
    have h2 : lslots (v :: vs) = lcat v + lslots vs := rfl
    rw [h2]
    rcases v with x | x | x <;> simp [lcat]
theorem gw_mem {y : MethodName} {cc : ByteArray} {n : Nat} {ret : Option FieldType} (h : Cond.code y cc n ret ∈ gw) : ∀ w ∈ Cond.code y cc n ret :: gw, w ∈ gw ∧ ((w.onTables && w.keeps) = true ∨ ∃ ty, w = .arrayClass ty) := by
  intro w hw
  rcases List.mem_cons.mp hw with rfl | hw
  · exact gw_good _ h
  · exact gw_good _ hw
/-- a call's words -/
def CB (y : MethodName) (M' : MI) (ret' : Option FieldType) (n : Nat) : Prop := Cond.code y (mcod M') (mloc M') ret' ∈ gw ∧ Cond.initialized y.cls ∈ gw ∧ (y.cls ≠ "java/lang/invoke/MethodHandle" ∧ y.cls ≠ "java/lang/invoke/VarHandle") ∧ (parseMethodDescriptor y.desc).map (fun d => d.parameters.length) = some n ∧ mloc M' ≤ 16
def VWk (own : String) (idx ci : Nat) (y : MethodName) : Prop := Cond.methodLink own idx y ∈ gw ∧ Cond.instanceMethod y ∈ gw ∧ Cond.selects y.cls y y ∈ gw ∧ (vwCl[ci]?).map (fun q => q.1) = some y.cls ∧ ci < 9
section G5
variable {G : Gm} {M : MI} {kc ks pc pc2 : Nat} {L L2 : LL} {st st2 : List LV} {h h1 h2 h' : AH} {r : Option LV}
theorem pc_blind {as : List LV} : FrameBlind (va_Pc (as.map tv) (fun U => HL G h U.heap ∧ KK G U)) := fun a U g mk q => ⟨q.1, q.2.1, KK.calling q.2.2⟩
/-- what comes back from a call -/
theorem call_back {mc' ms' : Nat} {r1 : Option LV} {p : Program} {e : Env} {R : Room} {s : State} {m : MethodId} {args : Array Value} {below : List Frame} {meth : Method} {c : Code} {H : Heap} {locs : List Loc} {cells slots : Nat} {Q : State → Prop} {ls : Array Slot} {rest : List LV} {st0 : List Value}
    (run : va_Run p (gl G) e R s m args below meth c H locs cells slots mc' ms' (F0 m pc ls st0) (rest.map tv) (fun (_ : State) (o : Outcome) (t : State) => o = .returned (r1.map tv) ∧ HL G h1 t.heap) (fun a => gb G ≤ a)) (a2 : ∀ q ∈ locs, gb G ≤ q.base)
    (kk : ∀ (H1 : Heap) (locs1 : List Loc), HL G h1 H1 → (∀ q ∈ locs1, gb G ≤ q.base) → W p (gl G) e R s m args below meth c H1 locs1 (cells + mc') (slots + ms') Q (F0 m (pc + 3) ls ((r1.toList ++ rest).map tv))) : W p (gl G) e R s m args below meth c H locs cells slots Q (F0 m pc ls st0) := by
  intro T hT X
  obtain ⟨v, st₀, t, T', L', h0, X', hL, e1, e2, ⟨hv, hH⟩, st⟩ := run T hT X
  have hv' : v = r1.map tv := Outcome.returned.inj hv
  subst hv'
  obtain ⟨t2, b1, b2⟩ := kk T'.heap (locs ++ L') (by rw [e1]; exact hH) (fun q hq => by
    rcases List.mem_append.mp hq with h | h
    · exact a2 q h
    · exact hL q h) T' rfl X'
  refine ⟨t2, st t2 ?_, b2⟩
  have e : (r1.toList ++ rest).map tv = (r1.map tv).toList ++ rest.map tv := by cases r1 <;> rfl
  rw [e] at b1
  exact b1
theorem g_callV {idx ci n mc' ms' b : Nat} {y : MethodName} {M' : MI} {ret' : Option FieldType} {x : Option Nat} {as rest : List LV} {r1 : Option LV} (hd : decode (mcod M) pc = .ok (.invokevirtual idx, 3)) (B : CB y M' ret' n) (V : VWk (mown M) idx ci y) (hst : as.reverse ++ vr x :: rest = st) (hx : ck ci h x = some b) (hn : as.length = n) (hcs : csum rest ≤ 8) (hdp : mdep M' + 1 ≤ mdep M)
    (hc : CT G y M' ret' mc' ms' (vr (some b) :: as) h r1 h1) (kk : GO G M kc ks (pc + 3) L (r1.toList ++ rest) h1 r h') : GO G M (kc + mc') (ks + ms') pc L st h r h' := by
  intro p e R s m args below meth c mc ms Q C E H locs cells slots ls a1 a2 a3 a4 a5
  obtain ⟨rfl, hxb⟩ := ck_spec hx
  subst hst
  obtain ⟨b1, b2, b3, b4, b5⟩ := B
  obtain ⟨v1, v2, v3, v4, v5⟩ := V
  have hts := C.2.2.2.2.1
  have hC2 := C.2.2.2.2.2.2.2
  have hcw : CallW R s args (mown M) y.cls idx y (mcod M') (mloc M') ret' (Cond.code y (mcod M') (mloc M') ret' :: gw) { frames := mdep M', cells := mc', slots := ms', locals := 35 * mdep M' } mc' ms' n :=
    ⟨⟨rfl, rfl, by show mdep M' + 1 ≤ R.frames; omega, by show 8 + (mloc M' + 11) + 35 * mdep M' ≤ R.locals; omega, pay_in hts (gw_mem b1), List.mem_cons_self, hts _ b1, hts _ b2, b3, fun sig hs => by rw [hs] at b4; exact (Option.some.inj b4).symm, hts _ v1⟩, hts _ v2, hts _ v3⟩
  obtain ⟨cellB, g1, g2, g3, -⟩ := a1.ob hxb v5
  have hcl : s.vm.findClass y.cls = some cellB.cls := by
    cases hq : vwCl[ci]? with
    | none => rw [hq] at v4; cases v4
    | some q =>
      rw [hq] at v4
      have e1 : q.1 = y.cls := Option.some.inj v4
      have := (C.2.2.2.2.2.1.1.1 ci q hq).2.1
      rw [e1] at this
      rw [g2]
      exact this
  refine call_back (va_runV (n := n) (nL := mloc M) (Ts := gw) (As := as.map tv) (rest := rest.map tv) ⟨C.1, C.2.1, C.2.2.1, C.2.2.2.1, hts⟩ hc hcw ⟨pc_blind (as := vr (some b) :: as), ⟨cellB, g1, by rw [g3]; rfl, hcl⟩, fun U hU hW => ⟨rfl, by rw [hU]; exact a1, KK.warm hW C.2.2.2.2.2.1⟩⟩ rfl (by rw [List.length_map]; exact hn) a5.1 (by simp [tv, va_rf]) (by show 2 * 0 + _ ≤ 8; rw [csum_map]; omega) hd ⟨by omega, by omega⟩) a2 (fun H1 locs1 q1 q2 => ?_)
  exact kk p e R s m args below meth c mc ms Q C E H1 locs1 (cells + mc') (slots + ms') ls q1 q2 (by omega) (by omega) a5
theorem g_callS {idx n mc' ms' : Nat} {y : MethodName} {M' : MI} {ret' : Option FieldType} {as rest : List LV} {r1 : Option LV} (hd : decode (mcod M) pc = .ok (.invokestatic idx, 3)) (B : CB y M' ret' n) (v1 : Cond.methodLink (mown M) idx y ∈ gw) (v2 : Cond.static y ∈ gw) (hst : as.reverse ++ rest = st) (hn : as.length = n) (hcs : csum rest ≤ 8) (hdp : mdep M' + 1 ≤ mdep M)
    (hc : CT G y M' ret' mc' ms' as h r1 h1) (kk : GO G M kc ks (pc + 3) L (r1.toList ++ rest) h1 r h') : GO G M (kc + mc') (ks + ms') pc L st h r h' := by
  intro p e R s m args below meth c mc ms Q C E H locs cells slots ls a1 a2 a3 a4 a5
  subst hst
  obtain ⟨b1, b2, b3, b4, b5⟩ := B
  have hts := C.2.2.2.2.1
  have hC2 := C.2.2.2.2.2.2.2
  have hcw : CallB R s args (mown M) idx y (mcod M') (mloc M') ret' (Cond.code y (mcod M') (mloc M') ret' :: gw) { frames := mdep M', cells := mc', slots := ms', locals := 35 * mdep M' } mc' ms' n ∧ (Cond.static y).before args s = true :=
    ⟨⟨rfl, rfl, by show mdep M' + 1 ≤ R.frames; omega, by show 8 + (mloc M' + 11) + 35 * mdep M' ≤ R.locals; omega, pay_in hts (gw_mem b1), List.mem_cons_self, hts _ b1, hts _ b2, b3, fun sig hs => by rw [hs] at b4; exact (Option.some.inj b4).symm, hts _ v1⟩, hts _ v2⟩
  refine call_back (va_runS (n := n) (nL := mloc M) (Ts := gw) (As := as.map tv) (rest := rest.map tv) ⟨C.1, C.2.1, C.2.2.1, C.2.2.2.1, hts⟩ hc hcw ⟨pc_blind (as := as), fun U hU hW => ⟨rfl, by rw [hU]; exact a1, KK.warm hW C.2.2.2.2.2.1⟩⟩ rfl (by rw [List.length_map]; exact hn) a5.1 (by simp) (by show 2 * 0 + _ ≤ 8; rw [csum_map]; omega) hd ⟨by omega, by omega⟩) a2 (fun H1 locs1 q1 q2 => ?_)
  exact kk p e R s m args below meth c mc ms Q C E H1 locs1 (cells + mc') (slots + ms') ls q1 q2 (by omega) (by omega) a5
theorem g_callN {n mc' ms' : Nat} {M' : MI} {ret' : Option FieldType} {as rest : List LV} {r1 : Option LV} (hd : decode (mcod M) pc = .ok (.invokestatic 68, 3)) (hM : mown M = RX3) (B : CB yX7_numberOf M' ret' n) (v2 : Cond.static yX7_numberOf ∈ gw) (hst : as.reverse ++ rest = st) (hn : as.length = n) (hcs : csum rest ≤ 8) (hdp : mdep M' + 1 ≤ mdep M)
    (hc : CT G yX7_numberOf M' ret' mc' ms' as h r1 h1) (kk : GO G M kc ks (pc + 3) L (r1.toList ++ rest) h1 r h') : GO G M (kc + mc') (ks + ms') pc L st h r h' := by
  intro p e R s m args below meth c mc ms Q C E H locs cells slots ls a1 a2 a3 a4 a5
  subst hst
  obtain ⟨b1, b2, b3, b4, b5⟩ := B
  have hts := C.2.2.2.2.1
  have hC2 := C.2.2.2.2.2.2.2
  have hnw : (nestW).before args s = true := va_Nw.use rfl C.2.2.2.2.2.1.2.2.1
  have hcw : va_CN R s args (mown M) 68 yX7_numberOf RX7 (mcod M') (mloc M') ret' (Cond.code yX7_numberOf (mcod M') (mloc M') ret' :: gw) { frames := mdep M', cells := mc', slots := ms', locals := 35 * mdep M' } mc' ms' n ∧ (Cond.static yX7_numberOf).before args s = true ∧ True :=
    ⟨⟨⟨rfl, rfl, by show mdep M' + 1 ≤ R.frames; omega, by show 8 + (mloc M' + 11) + 35 * mdep M' ≤ R.locals; omega, pay_in hts (gw_mem b1), List.mem_cons_self⟩, hts _ b1, hts _ b2, b3, fun sig hs => by rw [hs] at b4; exact (Option.some.inj b4).symm, by rw [hM]; exact hnw⟩, hts _ v2, trivial⟩
  refine call_back (va_runSN (n := n) (nL := mloc M) (Ts := gw) (As := as.map tv) (rest := rest.map tv) ⟨C.1, C.2.1, C.2.2.1, C.2.2.2.1, hts⟩ hc hcw ⟨pc_blind (as := as), fun U hU hW => ⟨rfl, by rw [hU]; exact a1, KK.warm hW C.2.2.2.2.2.1⟩⟩ rfl (by rw [List.length_map]; exact hn) a5.1 (by simp) (by show 2 * 0 + _ ≤ 8; rw [csum_map]; omega) hd ⟨by omega, by omega⟩) a2 (fun H1 locs1 q1 q2 => ?_)
  exact kk p e R s m args below meth c mc ms Q C E H1 locs1 (cells + mc') (slots + ms') ls q1 q2 (by omega) (by omega) a5
theorem g_callI {idx n mc' ms' b : Nat} {y : MethodName} {M' : MI} {as rest : List LV} (hd : decode (mcod M) pc = .ok (.invokespecial idx, 3)) (B : CB y M' none n) (v1 : Cond.methodLink (mown M) idx y ∈ gw) (v2 : Cond.instanceMethod y ∈ gw) (hy : y.name = "<init>") (hst : as.reverse ++ vr (some b) :: rest = st) (hn : as.length = n) (hcs : csum rest ≤ 8) (hdp : mdep M' + 1 ≤ mdep M)
    (hc : CT G y M' none mc' ms' (vr (some b) :: as) h none h1) (kk : GO G M kc ks (pc + 3) L rest h1 r h') : GO G M (kc + mc') (ks + ms') pc L st h r h' := by
  intro p e R s m args below meth c mc ms Q C E H locs cells slots ls a1 a2 a3 a4 a5
  subst hst
  obtain ⟨b1, b2, b3, b4, b5⟩ := B
  have hts := C.2.2.2.2.1
  have hC2 := C.2.2.2.2.2.2.2
  have hcw : CallB R s args (mown M) idx y (mcod M') (mloc M') none (Cond.code y (mcod M') (mloc M') none :: gw) { frames := mdep M', cells := mc', slots := ms', locals := 35 * mdep M' } mc' ms' n ∧ y.name = "<init>" ∧ (Cond.instanceMethod y).before args s = true :=
    ⟨⟨rfl, rfl, by show mdep M' + 1 ≤ R.frames; omega, by show 8 + (mloc M' + 11) + 35 * mdep M' ≤ R.locals; omega, pay_in hts (gw_mem b1), List.mem_cons_self, hts _ b1, hts _ b2, b3, fun sig hs => by rw [hs] at b4; exact (Option.some.inj b4).symm, hts _ v1⟩, hy, hts _ v2⟩
  refine call_back (r1 := none) (va_runI (n := n) (nL := mloc M) (Ts := gw) (As := as.map tv) (rest := rest.map tv) (b := b) ⟨C.1, C.2.1, C.2.2.1, C.2.2.2.1, hts⟩ hc hcw ⟨pc_blind (as := vr (some b) :: as), fun U hU hW => ⟨rfl, by rw [hU]; exact a1, KK.warm hW C.2.2.2.2.2.1⟩⟩ rfl (by rw [List.length_map]; exact hn) a5.1 (by simp [tv, va_rf]) (by show 2 * 0 + _ ≤ 8; rw [csum_map]; omega) hd ⟨by omega, by omega⟩) a2 (fun H1 locs1 q1 q2 => ?_)
  exact kk p e R s m args below meth c mc ms Q C E H1 locs1 (cells + mc') (slots + ms') ls q1 q2 (by omega) (by omega) a5
theorem g_obj {idx a : Nat} (hd : decode (mcod M) pc = .ok (.invokespecial idx, 3)) (v1 : Cond.methodLink (mown M) idx objectInit ∈ gw) (v2 : Cond.instanceMethod objectInit ∈ gw) (v3 : Cond.code objectInit ⟨#[0xb1]⟩ 1 none ∈ gw) (hcs : csum st ≤ 8) (hdp : 1 ≤ mdep M) (kk : GO G M kc ks (pc + 3) L st h r h') : GO G M kc ks pc L (vr (some a) :: st) h r h' := by
  intro p e R s m args below meth c mc ms Q C E H locs cells slots ls a1 a2 a3 a4 a5
  have hts := C.2.2.2.2.1
  have hC2 := C.2.2.2.2.2.2.2
  exact W.objInit C.1 C.2.1 C.2.2.2.1 (hts _ v1) (hts _ v2) (hts _ v3) rfl (by rw [C.2.2.1]; exact a5.1) rfl hd (by omega) (by show 2 * 0 + _ + 12 ≤ _; rw [csum_map]; omega) (kk p e R s m args below meth c mc ms Q C E H locs cells slots ls a1 a2 a3 a4 a5)
theorem g_min {idx : Nat} {x y : Int32} (hd : decode (mcod M) pc = .ok (.invokestatic idx, 3)) (v1 : Cond.methodLink (mown M) idx Lib.Math.min.name ∈ gw) (v2 : Cond.static Lib.Math.min.name ∈ gw) (v3 : Cond.initialized "java/lang/Math" ∈ gw) (v4 : Cond.code Lib.Math.min.name Lib.Math.min.code 2 (some .int) ∈ gw) (hcs : csum st ≤ 8) (hdp : 1 ≤ mdep M) (kk : GO G M kc ks (pc + 3) L (vi (if y < x then y else x) :: st) h r h') : GO G M kc ks pc L (vi y :: vi x :: st) h r h' := by
  intro p e R s m args below meth c mc ms Q C E H locs cells slots ls a1 a2 a3 a4 a5
  have hts := C.2.2.2.2.1
  have hC2 := C.2.2.2.2.2.2.2
  exact va_mmin C.1 C.2.1 (C.2.2.1.trans a5.1.symm) C.2.2.2.1 (hts _ v1) (hts _ v2) (hts _ v3) (hts _ v4) (by omega) (by rw [csum_map]; omega) (by omega) (by omega) hd (kk p e R s m args below meth c mc ms Q C E H locs cells slots ls a1 a2 a3 a4 a5)
theorem g_acp {idx : Nat} {x x' : Option Nat} {i j n : Int32} (hd : decode (mcod M) pc = .ok (.invokestatic idx, 3)) (v1 : Cond.methodLink (mown M) idx arraycopyName ∈ gw) (v2 : Cond.native arraycopyName ∈ gw) (v3 : Cond.static arraycopyName ∈ gw) (v4 : Cond.initialized "java/lang/System" ∈ gw) (hnf : nativeFrameWords "java/lang/System" "arraycopy" 5 + 11 + 8 ≤ 35) (hcs : csum st ≤ 8) (hdp : 1 ≤ mdep M) (hv : acp h x i x' j n = some h2) (kk : GO G M kc ks (pc + 3) L st h2 r h') : GO G M kc ks pc L (vi n :: vi j :: vr x' :: vi i :: vr x :: st) h r h' := by
  intro p e R s m args below meth c mc ms Q C E H locs cells slots ls a1 a2 a3 a4 a5
  have hts := C.2.2.2.2.1
  have hC2 := C.2.2.2.2.2.2.2
  cases x with
  | none => cases hv
  | some a =>
  cases x' with
  | none => cases hv
  | some b =>
  unfold acp at hv
  cases hca : hk h a with
  | none => simp [hca] at hv
  | some tn =>
  cases hcb : hk h b with
  | none => simp [hca, hcb] at hv
  | some tn' =>
  obtain ⟨t, n0⟩ := tn
  obtain ⟨t', n1⟩ := tn'
  simp only [hca, hcb] at hv
  by_cases hcd : (t = 11 ∧ t' = 11) ∧ (¬ i < 0 ∧ ¬ j < 0 ∧ ¬ n < 0) ∧ i.toNatClampNeg + n.toNatClampNeg ≤ n0 ∧ j.toNatClampNeg + n.toNatClampNeg ≤ n1
  · rw [if_pos hcd] at hv
    cases hv
    obtain ⟨⟨rfl, rfl⟩, ⟨g1, g2, g3⟩, g4, g5⟩ := hcd
    have hc0 := a1.ar hca (by omega)
    have hc1 := a1.ar hcb (by omega)
    have nn : ∀ z : Int32, ¬ z < 0 → z.toInt = (z.toNatClampNeg : Int) := by
      intro z hz
      have hz0 : (0 : Int) ≤ z.toInt := by
        have := Int32.not_lt.mp hz
        simpa using Int32.le_iff_toInt_le.mp this
      show z.toInt = ((z.toInt.toNat : Nat) : Int)
      omega
    have hKl := C.2.2.2.2.2.1.1.2 1 _ rfl
    obtain ⟨-, k0, hk0, cm0, hkk0⟩ := hKl.1 n0 (fun k => fval (fty 11 k) h a k)
    obtain ⟨-, k1, hk1, cm1, hkk1⟩ := hKl.1 n1 (fun k => fval (fty 11 k) h b k)
    intro T hT X
    obtain ⟨vm', X', step⟩ := X.arraycopy C.1 C.2.2.2.1 (hts _ v1) (hts _ v2) (hts _ v3) (hts _ v4) (src := a) (dst := b) (cs := arrV (gA G 11) n0 (fun k => fval (fty 11 k) h a k)) (cd := arrV (gA G 11) n1 (fun k => fval (fty 11 k) h b k)) (srcPos := i) (destPos := j) (n := n) (by rw [hT]; exact hc0) (by rw [hT]; exact hc1)
      (fun _ h => by cases h) (fun _ h => by cases h) (fun h => by cases h) (fun h => by cases h) hk0 hk1 hkk0 hkk1 (by rfl) g1 g2 g3
      (by rw [nn i g1, nn n g3, arrV_size]; omega) (by rw [nn j g2, nn n g3, arrV_size]; omega)
      (fun vm₁ _ q hq => by
        have e : (arrV (gA G 11) n0 (fun k => fval (fty 11 k) h a k)).slots.getD (i.toNatClampNeg + q) .null = .long (hJ h a (i.toNatClampNeg + q)) := by
          rw [Array.getD_eq_getD_getElem?, arrV_read _ _ (by omega)]
          rfl
        refine ⟨?_, ?_⟩
        · rw [e]
          rfl
        · rw [e]
          exact trivial)
      (g := F0 m pc ls (.int n :: .int j :: .ref b :: .int i :: .ref a :: st.map tv)) rfl (by rw [C.2.2.1]; exact a5.1) (rest := st.map tv) rfl (by rw [C.2.1]; exact hd) (by omega) (by show 2 * 0 + _ + _ ≤ _; rw [csum_map]; omega)
    have e1 : copied (arrV (gA G 11) n0 (fun k => fval (fty 11 k) h a k)) (arrV (gA G 11) n1 (fun k => fval (fty 11 k) h b k)) i j n = arrV (gA G 11) n1 (fun k => .long (va_cpy (hJ h a) (hJ h b) i.toNatClampNeg j.toNatClampNeg n.toNatClampNeg k)) := va_copied (fun z => .long z) (gA G 11) (gA G 11) (hJ h a) (hJ h b) g4
    rw [e1] at X' step
    have hl : b < H.size := (Array.getElem?_eq_some_iff.mp hc1).1
    have hheap : ((T.setVm vm').setCell b (arrV (gA G 11) n1 (fun k => .long (va_cpy (hJ h a) (hJ h b) i.toNatClampNeg j.toNatClampNeg n.toNatClampNeg k)))).heap = H.setIfInBounds b (arrV (gA G 11) n1 (fun k => .long (va_cpy (hJ h a) (hJ h b) i.toNatClampNeg j.toNatClampNeg n.toNatClampNeg k))) := by rw [← hT]; rfl
    have hHL : HL G (cpJ h a i.toNatClampNeg b j.toNatClampNeg n.toNatClampNeg) (H.setIfInBounds b (arrV (gA G 11) n1 (fun k => .long (va_cpy (hJ h a) (hJ h b) i.toNatClampNeg j.toNatClampNeg n.toNatClampNeg k)))) := by
      refine HL.upd (a := b) a1 rfl rfl (fun b' hb' k => ⟨rfl, by simp [hJ, cpJ, hb'], rfl⟩) (by simp) (fun q hq => by simp [Array.getElem?_setIfInBounds, Ne.symm hq]) (a1.2.2.2 b _ _ hcb).1 (fun ci' n' hc' => ?_)
      rw [hcb] at hc'
      cases hc'
      unfold cok
      rw [if_pos (by omega)]
      simp only [Array.getElem?_setIfInBounds, hl, if_true]
      congr 2
      funext k
      simp [fty, fval, hJ, cpJ]
    obtain ⟨t, b1, b2⟩ := kk p e R s m args below meth c mc ms Q C E _ (locs ++ _) cells slots ls hHL (fun q hq => by
      rcases List.mem_append.mp hq with h | h
      · exact a2 q h
      · obtain ⟨z, -, hz⟩ := List.mem_map.mp h
        rw [← hz]
        exact (a1.2.2.2 b _ _ hcb).1) a3 a4 a5 _ hheap X'
    exact ⟨t, step t b1, b2⟩
  · rw [if_neg hcd] at hv
    cases hv
/-- a contract out of a walk from the method's entry -/
theorem CT.mk {y : MethodName} {ret : Option FieldType} {mc ms : Nat} {as : List LV} (hy : plainName y.cls = true) (hown : mown M = y.cls) (hnm : mnam M = y.name) (hlen : lslots as ≤ mloc M)
    (hq : ∀ (p : Program) (e : Env) (R : Room) (s : State) (m : MethodId) (args : Array Value) (below : List Frame) (meth : Method) (c : Code), p.tables.exec = Jvm.exec → c.code = mcod M → meth.sig.returnType = ret → meth.locks = false → EN G M p e R s m args below meth c mc ms (MQ below (fun _ _ o t => o = .returned (r.map tv) ∧ HL G h' t.heap) args s mc ms (fun a => gb G ≤ a)) r h')
    (k : GO G M mc ms 0 (largs 0 as) [] h r h') : CT G y M ret mc ms as h r h' := by
  refine Met.ofW (cc := mcod M) (maxL := mloc M) (ret := ret) hy rfl ?_
  intro p e s m args below meth c s₁ B hml hv
  obtain ⟨rfl, hH, hK⟩ := hv
  have hts := atoms_spec (ws := Cond.code y (mcod M) (mloc M) ret :: gw) B.pre
  rw [lg_entry_eq]
  have hl := lv_entry (as.map tv) (n := mloc M) (by rw [lslots_sl]; exact hlen)
  rw [largs_map] at hl
  exact k p e _ s m _ below meth c mc ms _ ⟨B.exec, B.bytes, hml, by rw [hown]; exact findClass_of_methodNamed B.named, fun w hw => hts w (List.mem_cons_of_mem _ hw), hK, (name_of_methodNamed B.named B.method).1.trans hnm.symm, Nat.le_refl _, Nat.le_refl _, Nat.le_refl _, Nat.le_refl _⟩
    (hq p e _ s m _ below meth c B.exec B.bytes B.returns B.notSynchronized) s.heap [] 0 0 _ hH (fun _ h => by cases h) (by omega) (by omega) hl
theorem CT.int {y : MethodName} {mc ms : Nat} {as : List LV} {v : Int32} (hy : plainName y.cls = true) (hown : mown M = y.cls) (hnm : mnam M = y.name) (hri : mri M = .ireturn) (hlen : lslots as ≤ mloc M) (k : GO G M mc ms 0 (largs 0 as) [] h (some (vi v)) h') : CT G y M (some .int) mc ms as h (some (vi v)) h' :=
  CT.mk hy hown hnm hlen (fun p e R s m args below meth c hx hb hr hlk H locs ls pc hd hH hl => W.iret (v := v) hx hb hr (fun t ht hW => ⟨rfl, by rw [ht]; exact hH⟩) hl (by rw [← hri]; exact hd) hlk) k
theorem CT.bool {y : MethodName} {mc ms : Nat} {as : List LV} {v : Int32} (hy : plainName y.cls = true) (hown : mown M = y.cls) (hnm : mnam M = y.name) (hri : mri M = .ireturn) (hlen : lslots as ≤ mloc M) (hv : v = 0 ∨ v = 1) (k : GO G M mc ms 0 (largs 0 as) [] h (some (vi v)) h') : CT G y M (some .boolean) mc ms as h (some (vi v)) h' :=
  CT.mk hy hown hnm hlen (fun p e R s m args below meth c hx hb hr hlk H locs ls pc hd hH hl => W.zret (v := v) (ty := .boolean) hx hb hr (by rcases hv with q | q <;> rw [q] <;> rfl) (fun t ht hW => ⟨rfl, by rw [ht]; exact hH⟩) hl (by rw [← hri]; exact hd) hlk) k
theorem CT.long {y : MethodName} {mc ms : Nat} {as : List LV} {v : Int64} (hy : plainName y.cls = true) (hown : mown M = y.cls) (hnm : mnam M = y.name) (hri : mri M = .lreturn) (hlen : lslots as ≤ mloc M) (k : GO G M mc ms 0 (largs 0 as) [] h (some (vl v)) h') : CT G y M (some .long) mc ms as h (some (vl v)) h' :=
  CT.mk hy hown hnm hlen (fun p e R s m args below meth c hx hb hr hlk H locs ls pc hd hH hl => W.lret (v := v) hx hb hr (fun t ht hW => ⟨rfl, by rw [ht]; exact hH⟩) hl (by rw [← hri]; exact hd) hlk) k
theorem CT.void {y : MethodName} {mc ms : Nat} {as : List LV} (hy : plainName y.cls = true) (hown : mown M = y.cls) (hnm : mnam M = y.name) (hri : mri M = .return_) (hlen : lslots as ≤ mloc M) (k : GO G M mc ms 0 (largs 0 as) [] h none h') : CT G y M none mc ms as h none h' :=
  CT.mk hy hown hnm hlen (fun p e R s m args below meth c hx hb hr hlk H locs ls pc hd hH hl => W.vret hx hb hr (fun t ht hW => ⟨rfl, by rw [ht]; exact hH⟩) hl (by rw [← hri]; exact hd) hlk) k
theorem CT.ref {y : MethodName} {mc ms : Nat} {as : List LV} {v : Option Nat} {cn : String} (hy : plainName y.cls = true) (hown : mown M = y.cls) (hnm : mnam M = y.name) (hri : mri M = .areturn) (hlen : lslots as ≤ mloc M) (k : GO G M mc ms 0 (largs 0 as) [] h (some (vr v)) h') : CT G y M (some (.object cn)) mc ms as h (some (vr v)) h' :=
  CT.mk hy hown hnm hlen (fun p e R s m args below meth c hx hb hr hlk H locs ls pc hd hH hl => W.aret (v := va_rf v) (rt := .object cn) hx hb hr (Or.inl ⟨_, rfl⟩) (by cases v <;> simp [va_rf]) (fun t ht hW => ⟨rfl, by rw [ht]; exact hH⟩) hl (by rw [← hri]; exact hd) hlk) k
end G5
