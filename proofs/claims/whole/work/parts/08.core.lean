/-! CORE 3: fields, arrays, new cells -/
def ck (ci : Nat) (h : AH) (r : Option Nat) : Option Nat := match r with
  | none => none
  | some a => if hk h a = some (ci, 0) then some a else none
theorem ck_spec {ci : Nat} {h : AH} {r : Option Nat} {a : Nat} (e : ck ci h r = some a) : r = some a ∧ hk h a = some (ci, 0) := by
  cases r with
  | none => cases e
  | some b =>
    unfold ck at e
    by_cases hb : hk h b = some (ci, 0)
    · simp only [hb, if_true] at e
      cases e
      exact ⟨rfl, hb⟩
    · simp only [hb, if_false] at e
      cases e
def gI (ci k : Nat) (h : AH) (r : Option Nat) : Option Int32 := (ck ci h r).map (fun a => hI h a k)
def gJ (ci k : Nat) (h : AH) (r : Option Nat) : Option Int64 := (ck ci h r).map (fun a => hJ h a k)
def gR (ci k : Nat) (h : AH) (r : Option Nat) : Option (Option Nat) := (ck ci h r).map (fun a => hR h a k)
def pI (ci k : Nat) (h : AH) (r : Option Nat) (v : Int32) : Option AH := (ck ci h r).map (fun a => sI h a k v)
def pZ (ci k : Nat) (h : AH) (r : Option Nat) (v : Int32) : Option AH := if v = 0 ∨ v = 1 then (ck ci h r).map (fun a => sI h a k v) else none
def pJ (ci k : Nat) (h : AH) (r : Option Nat) (v : Int64) : Option AH := (ck ci h r).map (fun a => sJ h a k v)
def pR (ci k : Nat) (h : AH) (r : Option Nat) (v : Option Nat) : Option AH := (ck ci h r).map (fun a => sR h a k v)
def ca (t : Nat) (h : AH) (r : Option Nat) (i : Int32) : Option (Nat × Nat) := match r with
  | none => none
  | some a => match hk h a with
    | none => none
    | some (t', n) => if t' = t ∧ ¬ (i < 0 ∨ n ≤ i.toNatClampNeg) then some (a, i.toNatClampNeg) else none
theorem ca_spec {t : Nat} {h : AH} {r : Option Nat} {i : Int32} {q : Nat × Nat} (e : ca t h r i = some q) : ∃ a n, r = some a ∧ hk h a = some (t, n) ∧ vp_in i n ∧ q = (a, i.toNatClampNeg) := by
  cases r with
  | none => cases e
  | some a =>
    unfold ca at e
    cases hka : hk h a with
    | none => simp [hka] at e
    | some tn =>
      obtain ⟨t', n⟩ := tn
      simp only [hka] at e
      by_cases hc : t' = t ∧ ¬ (i < 0 ∨ n ≤ i.toNatClampNeg)
      · rw [if_pos hc] at e
        cases e
        exact ⟨a, n, rfl, by rw [hka, hc.1], hc.2, rfl⟩
      · rw [if_neg hc] at e
        cases e
def lI (t : Nat) (h : AH) (r : Option Nat) (i : Int32) : Option Int32 := (ca t h r i).map fun q => hI h q.1 q.2
def lJ (t : Nat) (h : AH) (r : Option Nat) (i : Int32) : Option Int64 := (ca t h r i).map fun q => hJ h q.1 q.2
def lR (t : Nat) (h : AH) (r : Option Nat) (i : Int32) : Option (Option Nat) := (ca t h r i).map fun q => hR h q.1 q.2
def stI (t : Nat) (h : AH) (r : Option Nat) (i v : Int32) : Option AH := (ca t h r i).map fun q => sI h q.1 q.2 v
def stZ (t : Nat) (h : AH) (r : Option Nat) (i v : Int32) : Option AH := if v = 0 ∨ v = 1 then (ca t h r i).map fun q => sI h q.1 q.2 v else none
def stJ (t : Nat) (h : AH) (r : Option Nat) (i : Int32) (v : Int64) : Option AH := (ca t h r i).map fun q => sJ h q.1 q.2 v
/-- v is null or an object of class ci -/
def nk (ci : Nat) (h : AH) (v : Option Nat) : Prop := match v with
  | none => True
  | some b => hk h b = some (ci, 0)
def stR (t ci : Nat) (h : AH) (r : Option Nat) (i : Int32) (v : Option Nat) : Option AH := match v with
  | none => (ca t h r i).map fun q => sR h q.1 q.2 none
  | some b => if hk h b = some (ci, 0) then (ca t h r i).map fun q => sR h q.1 q.2 (some b) else none
def al (h : AH) (r : Option Nat) : Option Int32 := match r with
  | none => none
  | some a => match hk h a with
    | none => none
    | some (t, n) => if 10 ≤ t ∧ t < 16 then some (nI n) else none
def na (t B : Nat) (h : AH) (n : Int32) : Option AH := if ¬ n < 0 ∧ n.toNatClampNeg ≤ B then some (nw h t n.toNatClampNeg) else none
def acp (h : AH) (r : Option Nat) (i : Int32) (r' : Option Nat) (j n : Int32) : Option AH := match r, r' with
  | some a, some b => match hk h a, hk h b with
    | some (t, n0), some (t', n1) => if (t = 11 ∧ t' = 11) ∧ (¬ i < 0 ∧ ¬ j < 0 ∧ ¬ n < 0) ∧ i.toNatClampNeg + n.toNatClampNeg ≤ n0 ∧ j.toNatClampNeg + n.toNatClampNeg ≤ n1 then some (cpJ h a i.toNatClampNeg b j.toNatClampNeg n.toNatClampNeg) else none
    | _, _ => none
  | _, _ => none
section W3
variable {G : Gm} {p : Program} {l : Launch} {e : Env} {R : Room} {s : State} {m : MethodId} {args : Array Value} {below : List Frame} {meth : Method} {c : Code} {H : Heap} {locs : List Loc} {cells slots : Nat} {Q : State → Prop} {cc : ByteArray} {pc : Nat} {ls : Array Slot} {rest : List Value} {own : String}
theorem w_get (hexec : p.tables.exec = Jvm.exec) (hb : c.code = cc) (hown : s.vm.findClass own = some m.cls) (hts : ∀ w ∈ gw, w.before args s = true) (hK : KK G s) {idx ci k : Nat} {fin : Bool} (F : FLk own idx ci k fin) {a : Nat} {V : Nat → Value} (X : t_OB a ((gD G).1 ci) (fN ci) ((gD G).2 ci) H V) {v : Value} (hv : V k = v) (hdg : decode cc pc = .ok (.getfield idx, 3))
    (kk : W p l e R s m args below meth c H locs cells slots Q (F0 m (pc + 3) ls (v :: rest))) : W p l e R s m args below meth c H locs cells slots Q (F0 m pc ls (.ref a :: rest)) := by
  obtain ⟨C, T, N, ⟨c1, c2, c3, c4, c5, c6⟩, hk, f1, f2, f3, -⟩ := F
  subst c2
  obtain ⟨cell, q1, q2, q3, q4⟩ := X
  obtain ⟨hS, hfc, kC, hkC, hkind⟩ := hK.1.1 ci _ c1
  obtain ⟨cf, kf, fi, f, hi, hsl⟩ := hS k hk
  refine W.getf hexec hb hown (hts _ f3) (by rw [← f1]; exact hi) (u_facts hfc hkC (u_lays hts c5 hk) hi).1 q1 (by rw [q3]; exact fun h => by cases h) (v := v) ?_ rfl rfl hdg kk
  rw [hsl, q4 k hk, hv]
theorem w_apart (hts : ∀ w ∈ gw, w.before args s = true) (hK : KK G s) {ci : Nat} {C : String} {T : u_T} {N : Nat} (F : CLk ci C T N) : ∀ a b, a < N → b < N → a ≠ b → (gD G).2 ci a ≠ (gD G).2 ci b :=
  va_apart (own := C) hts F.2.2.2.2.1 (fty ci) F.2.2.2.1 F.2.2.2.2.2 hK.1 F.1
theorem w_put (hexec : p.tables.exec = Jvm.exec) (hb : c.code = cc) (hown : s.vm.findClass own = some m.cls) (hts : ∀ w ∈ gw, w.before args s = true) (hK : KK G s) {idx ci k : Nat} (F : FLk own idx ci k false) {a : Nat} {V : Nat → Value} (X : t_OB a ((gD G).1 ci) (fN ci) ((gD G).2 ci) H V) {v : Value} (hn : narrow (fty ci k) v = v) (hfit : fits (fty ci k) v = true) (hdg : decode cc pc = .ok (.putfield idx, 3))
    (kk : ∀ H' : Heap, t_OB a ((gD G).1 ci) (fN ci) ((gD G).2 ci) H' (updV V k v) → H'.size = H.size → (∀ q : Nat, q ≠ a → H'[q]? = H[q]?) → W p l e R s m args below meth c H' (locs ++ [⟨a, (gD G).2 ci k⟩]) cells slots Q (F0 m (pc + 3) ls rest)) : W p l e R s m args below meth c H locs cells slots Q (F0 m pc ls (v :: .ref a :: rest)) := by
  obtain ⟨C, T, N, F0, hk, f1, f2, f3, -⟩ := F
  have hap := w_apart hts hK F0
  obtain ⟨c1, c2, c3, c4, c5, c6⟩ := F0
  subst c2
  obtain ⟨cell, q1, q2, q3, q4⟩ := X
  obtain ⟨hS, hfc, kC, hkC, hkind⟩ := hK.1.1 ci _ c1
  obtain ⟨cf, kf, fi, f, hi, hsl⟩ := hS k hk
  have hlay := hts _ (c5 _ (u_in_lay hk))
  unfold u_lay at hlay
  rw [if_neg (by rw [f2]; decide)] at hlay
  have hst := (u_facts hfc hkC (u_lays hts c5 hk) hi).1
  have h6 := u_store hfc hkC hkind hlay hi (c4 k hk) hn hfit
  refine W.putK hexec hb (f := f) ⟨hown, hts _ f3, ⟨_, _, _, by rw [← f1]; exact hi⟩, hst⟩ (by rw [q2]; exact h6) q1 q3 (by rw [hsl]; exact k2_hasslot (q4 k hk)) rfl rfl hdg fun H' e1 e2 e3 => ?_
  rw [hsl] at e1 ⊢
  exact kk H' ⟨_, e1, q2, q3, t_set q4 hap hk v⟩ e2 e3
theorem w_putF (hexec : p.tables.exec = Jvm.exec) (hb : c.code = cc) (hown : s.vm.findClass own = some m.cls) (hts : ∀ w ∈ gw, w.before args s = true) (hK : KK G s) (hin : meth.name = "<init>") {idx ci k : Nat} (F : FLk own idx ci k true) (hC : (vwCl[ci]?).map (fun q => q.1) = some own) {a : Nat} {V : Nat → Value} (X : t_OB a ((gD G).1 ci) (fN ci) ((gD G).2 ci) H V) {v : Value} (hn : narrow (fty ci k) v = v) (hfit : fits (fty ci k) v = true) (hdg : decode cc pc = .ok (.putfield idx, 3))
    (kk : ∀ H' : Heap, t_OB a ((gD G).1 ci) (fN ci) ((gD G).2 ci) H' (updV V k v) → H'.size = H.size → (∀ q : Nat, q ≠ a → H'[q]? = H[q]?) → W p l e R s m args below meth c H' (locs ++ [⟨a, (gD G).2 ci k⟩]) cells slots Q (F0 m (pc + 3) ls rest)) : W p l e R s m args below meth c H locs cells slots Q (F0 m pc ls (v :: .ref a :: rest)) := by
  obtain ⟨C, T, N, F0, hk, f1, f2, f3, -⟩ := F
  have hap := w_apart hts hK F0
  obtain ⟨c1, c2, c3, c4, c5, c6⟩ := F0
  subst c2
  rw [c1] at hC
  have hCo : C = own := Option.some.inj hC
  obtain ⟨cell, q1, q2, q3, q4⟩ := X
  obtain ⟨hS, hfc, kC, hkC, hkind⟩ := hK.1.1 ci _ c1
  obtain ⟨cf, kf, fi, f, hi, hsl⟩ := hS k hk
  have hlay := hts _ (c5 _ (u_in_lay hk))
  unfold u_lay at hlay
  rw [if_pos f2] at hlay
  have hst := (u_facts hfc hkC (u_lays hts c5 hk) hi).1
  have hcf : m.cls = cf := by
    obtain ⟨_, _, c', _, _, _, -, -, hf', -, -, -, hown2, -⟩ := Cond.laysFinal_spec hlay
    have e1 : c' = cf := by have := hi.symm.trans hf'; simp at this; exact this.1.symm
    rw [f1, hCo] at hown2
    rw [← e1]; exact Option.some.inj (hown.symm.trans hown2)
  have h6 := u_fits hfc hkC hkind (Or.inr hlay) hi (c4 k hk) hn hfit
  refine W.putFinK hexec hb hown (hts _ f3) (by rw [← f1]; exact hi) hst hcf hin (by rw [q2]; exact h6) q1 q3 (by rw [hsl]; exact k2_hasslot (q4 k hk)) rfl rfl hdg fun H' e1 e2 e3 => ?_
  rw [hsl] at e1 ⊢
  exact kk H' ⟨_, e1, q2, q3, t_set q4 hap hk v⟩ e2 e3
end W3
theorem HL.ob {G : Gm} {h : AH} {H : Heap} (a1 : HL G h H) {a ci n : Nat} (hc : hk h a = some (ci, n)) (h9 : ci < 9) : t_OB a ((gD G).1 ci) (fN ci) ((gD G).2 ci) H (fun k => fval (fty ci k) h a k) := by
  have := (a1.2.2.2 a ci n hc).2.2
  unfold cok at this
  rw [if_neg (by omega)] at this
  exact this
theorem HL.ar {G : Gm} {h : AH} {H : Heap} (a1 : HL G h H) {a ci n : Nat} (hc : hk h a = some (ci, n)) (h9 : 9 ≤ ci) : H[a]? = some (arrV (gA G ci) n (fun j => fval (fty ci j) h a j)) := by
  have := (a1.2.2.2 a ci n hc).2.2
  unfold cok at this
  rw [if_pos h9] at this
  exact this
/-- an object's field is set: the abstract heap follows -/
theorem HL.put {G : Gm} {h h' : AH} {H H' : Heap} (a1 : HL G h H) {a ci k : Nat} (hc : hk h a = some (ci, 0)) (h9 : ci < 9) (e1 : hk h' = hk h) (e2 : hz h' = hz h) (ho : ∀ b, b ≠ a → ∀ k, hI h' b k = hI h b k ∧ hJ h' b k = hJ h b k ∧ hR h' b k = hR h b k) {v : Value}
    (hv : ∀ j, j < fN ci → updV (fun k => fval (fty ci k) h a k) k v j = fval (fty ci j) h' a j) (x : t_OB a ((gD G).1 ci) (fN ci) ((gD G).2 ci) H' (updV (fun k => fval (fty ci k) h a k) k v)) (z : H'.size = H.size) (o : ∀ q : Nat, q ≠ a → H'[q]? = H[q]?) : HL G h' H' := by
  refine HL.upd a1 e1 e2 ho z o (a1.2.2.2 a ci 0 hc).1 (fun ci' n' hc' => ?_)
  rw [hc] at hc'
  cases hc'
  unfold cok
  rw [if_neg (by omega)]
  exact x.to hv
theorem sI_off (h : AH) (a k : Nat) (v : Int32) : ∀ b, b ≠ a → ∀ j, hI (sI h a k v) b j = hI h b j ∧ hJ (sI h a k v) b j = hJ h b j ∧ hR (sI h a k v) b j = hR h b j := fun b hb j => ⟨by simp [hI_sI, hb], rfl, rfl⟩
theorem sJ_off (h : AH) (a k : Nat) (v : Int64) : ∀ b, b ≠ a → ∀ j, hI (sJ h a k v) b j = hI h b j ∧ hJ (sJ h a k v) b j = hJ h b j ∧ hR (sJ h a k v) b j = hR h b j := fun b hb j => ⟨rfl, by simp [hJ_sJ, hb], rfl⟩
theorem sR_off (h : AH) (a k : Nat) (v : Option Nat) : ∀ b, b ≠ a → ∀ j, hI (sR h a k v) b j = hI h b j ∧ hJ (sR h a k v) b j = hJ h b j ∧ hR (sR h a k v) b j = hR h b j := fun b hb j => ⟨rfl, rfl, by simp [hR_sR, hb]⟩
theorem locs_add {b : Nat} {locs : List Loc} {a i : Nat} (h : ∀ q ∈ locs, b ≤ q.base) (ha : b ≤ a) : ∀ q ∈ locs ++ [(⟨a, i⟩ : Loc)], b ≤ q.base := by
  intro q hq
  rcases List.mem_append.mp hq with h1 | h1
  · exact h q h1
  · rw [List.mem_singleton.mp h1]
    exact ha
section G3
variable {G : Gm} {M : MI} {kc ks pc pc2 : Nat} {L L2 : LL} {st st2 : List LV} {h h2 h' : AH} {r : Option LV}
theorem g_getI {idx ci k : Nat} {fin : Bool} {x : Option Nat} {v : Int32} (hd : decode (mcod M) pc = .ok (.getfield idx, 3)) (F : FLk (mown M) idx ci k fin) (ht : ∀ a, fval (fty ci k) h a k = .int (hI h a k)) (hv : gI ci k h x = some v) (kk : GO G M kc ks (pc + 3) L (vi v :: st) h r h') : GO G M kc ks pc L (vr x :: st) h r h' := by
  intro p e R s m args below meth c mc ms Q C E H locs cells slots ls a1 a2 a3 a4 a5
  obtain ⟨a, ha, rfl⟩ := Option.map_eq_some_iff.mp hv
  obtain ⟨rfl, hc⟩ := ck_spec ha
  exact w_get C.1 C.2.1 C.2.2.2.1 C.2.2.2.2.1 C.2.2.2.2.2.1 F (a1.ob hc F.lt) (ht a) hd (kk p e R s m args below meth c mc ms Q C E H locs cells slots ls a1 a2 a3 a4 a5)
theorem g_getJ {idx ci k : Nat} {fin : Bool} {x : Option Nat} {v : Int64} (hd : decode (mcod M) pc = .ok (.getfield idx, 3)) (F : FLk (mown M) idx ci k fin) (ht : ∀ a, fval (fty ci k) h a k = .long (hJ h a k)) (hv : gJ ci k h x = some v) (kk : GO G M kc ks (pc + 3) L (vl v :: st) h r h') : GO G M kc ks pc L (vr x :: st) h r h' := by
  intro p e R s m args below meth c mc ms Q C E H locs cells slots ls a1 a2 a3 a4 a5
  obtain ⟨a, ha, rfl⟩ := Option.map_eq_some_iff.mp hv
  obtain ⟨rfl, hc⟩ := ck_spec ha
  exact w_get C.1 C.2.1 C.2.2.2.1 C.2.2.2.2.1 C.2.2.2.2.2.1 F (a1.ob hc F.lt) (ht a) hd (kk p e R s m args below meth c mc ms Q C E H locs cells slots ls a1 a2 a3 a4 a5)
theorem g_getR {idx ci k : Nat} {fin : Bool} {x : Option Nat} {v : Option Nat} (hd : decode (mcod M) pc = .ok (.getfield idx, 3)) (F : FLk (mown M) idx ci k fin) (ht : ∀ a, fval (fty ci k) h a k = va_rf (hR h a k)) (hv : gR ci k h x = some v) (kk : GO G M kc ks (pc + 3) L (vr v :: st) h r h') : GO G M kc ks pc L (vr x :: st) h r h' := by
  intro p e R s m args below meth c mc ms Q C E H locs cells slots ls a1 a2 a3 a4 a5
  obtain ⟨a, ha, rfl⟩ := Option.map_eq_some_iff.mp hv
  obtain ⟨rfl, hc⟩ := ck_spec ha
  exact w_get C.1 C.2.1 C.2.2.2.1 C.2.2.2.2.1 C.2.2.2.2.2.1 F (a1.ob hc F.lt) (ht a) hd (kk p e R s m args below meth c mc ms Q C E H locs cells slots ls a1 a2 a3 a4 a5)
theorem g_putI {idx ci k : Nat} {x : Option Nat} {v : Int32} (hd : decode (mcod M) pc = .ok (.putfield idx, 3)) (F : FLk (mown M) idx ci k false) (ht : fty ci k = .int) (hv : pI ci k h x v = some h2) (kk : GO G M kc ks (pc + 3) L st h2 r h') : GO G M kc ks pc L (vi v :: vr x :: st) h r h' := by
  intro p e R s m args below meth c mc ms Q C E H locs cells slots ls a1 a2 a3 a4 a5
  obtain ⟨a, ha, rfl⟩ := Option.map_eq_some_iff.mp hv
  obtain ⟨rfl, hc⟩ := ck_spec ha
  refine w_put C.1 C.2.1 C.2.2.2.1 C.2.2.2.2.1 C.2.2.2.2.2.1 F (a1.ob hc F.lt) (v := .int v) (by rw [ht]; rfl) (by rw [ht]; rfl) hd (fun H' x z o => ?_)
  exact kk p e R s m args below meth c mc ms Q C E H' _ cells slots ls (a1.put hc F.lt rfl rfl (sI_off h a k v) (fun j _ => (fval_sI (t := .int) (Or.inl rfl) h a k v j (fty ci j) (fun q => by rw [q]; exact ht)).symm) x z o) (locs_add a2 (a1.2.2.2 a ci 0 hc).1) a3 a4 a5
theorem g_putIF {idx ci k : Nat} {x : Option Nat} {v : Int32} (hd : decode (mcod M) pc = .ok (.putfield idx, 3)) (F : FLk (mown M) idx ci k true) (hin : mnam M = "<init>") (hC : (vwCl[ci]?).map (fun q => q.1) = some (mown M)) (ht : fty ci k = .int) (hv : pI ci k h x v = some h2) (kk : GO G M kc ks (pc + 3) L st h2 r h') : GO G M kc ks pc L (vi v :: vr x :: st) h r h' := by
  intro p e R s m args below meth c mc ms Q C E H locs cells slots ls a1 a2 a3 a4 a5
  obtain ⟨a, ha, rfl⟩ := Option.map_eq_some_iff.mp hv
  obtain ⟨rfl, hc⟩ := ck_spec ha
  refine w_putF C.1 C.2.1 C.2.2.2.1 C.2.2.2.2.1 C.2.2.2.2.2.1 (C.2.2.2.2.2.2.1 hin) F hC (a1.ob hc F.lt) (v := .int v) (by rw [ht]; rfl) (by rw [ht]; rfl) hd (fun H' x z o => ?_)
  exact kk p e R s m args below meth c mc ms Q C E H' _ cells slots ls (a1.put hc F.lt rfl rfl (sI_off h a k v) (fun j _ => (fval_sI (t := .int) (Or.inl rfl) h a k v j (fty ci j) (fun q => by rw [q]; exact ht)).symm) x z o) (locs_add a2 (a1.2.2.2 a ci 0 hc).1) a3 a4 a5
theorem g_putZ {idx ci k : Nat} {x : Option Nat} {v : Int32} (hd : decode (mcod M) pc = .ok (.putfield idx, 3)) (F : FLk (mown M) idx ci k false) (ht : fty ci k = .boolean) (hv : pZ ci k h x v = some h2) (kk : GO G M kc ks (pc + 3) L st h2 r h') : GO G M kc ks pc L (vi v :: vr x :: st) h r h' := by
  intro p e R s m args below meth c mc ms Q C E H locs cells slots ls a1 a2 a3 a4 a5
  unfold pZ at hv
  by_cases hz1 : v = 0 ∨ v = 1
  · rw [if_pos hz1] at hv
    obtain ⟨a, ha, rfl⟩ := Option.map_eq_some_iff.mp hv
    obtain ⟨rfl, hc⟩ := ck_spec ha
    refine w_put C.1 C.2.1 C.2.2.2.1 C.2.2.2.2.1 C.2.2.2.2.2.1 F (a1.ob hc F.lt) (v := .int v) (by rw [ht]; rcases hz1 with q | q <;> rw [q] <;> rfl) (by rw [ht]; rcases hz1 with q | q <;> rw [q] <;> rfl) hd (fun H' x z o => ?_)
    exact kk p e R s m args below meth c mc ms Q C E H' _ cells slots ls (a1.put hc F.lt rfl rfl (sI_off h a k v) (fun j _ => (fval_sI (t := .boolean) (Or.inr rfl) h a k v j (fty ci j) (fun q => by rw [q]; exact ht)).symm) x z o) (locs_add a2 (a1.2.2.2 a ci 0 hc).1) a3 a4 a5
  · rw [if_neg hz1] at hv
    cases hv
theorem g_putZF {idx ci k : Nat} {x : Option Nat} {v : Int32} (hd : decode (mcod M) pc = .ok (.putfield idx, 3)) (F : FLk (mown M) idx ci k true) (hin : mnam M = "<init>") (hC : (vwCl[ci]?).map (fun q => q.1) = some (mown M)) (ht : fty ci k = .boolean) (hv : pZ ci k h x v = some h2) (kk : GO G M kc ks (pc + 3) L st h2 r h') : GO G M kc ks pc L (vi v :: vr x :: st) h r h' := by
  intro p e R s m args below meth c mc ms Q C E H locs cells slots ls a1 a2 a3 a4 a5
  unfold pZ at hv
  by_cases hz1 : v = 0 ∨ v = 1
  · rw [if_pos hz1] at hv
    obtain ⟨a, ha, rfl⟩ := Option.map_eq_some_iff.mp hv
    obtain ⟨rfl, hc⟩ := ck_spec ha
    refine w_putF C.1 C.2.1 C.2.2.2.1 C.2.2.2.2.1 C.2.2.2.2.2.1 (C.2.2.2.2.2.2.1 hin) F hC (a1.ob hc F.lt) (v := .int v) (by rw [ht]; rcases hz1 with q | q <;> rw [q] <;> rfl) (by rw [ht]; rcases hz1 with q | q <;> rw [q] <;> rfl) hd (fun H' x z o => ?_)
    exact kk p e R s m args below meth c mc ms Q C E H' _ cells slots ls (a1.put hc F.lt rfl rfl (sI_off h a k v) (fun j _ => (fval_sI (t := .boolean) (Or.inr rfl) h a k v j (fty ci j) (fun q => by rw [q]; exact ht)).symm) x z o) (locs_add a2 (a1.2.2.2 a ci 0 hc).1) a3 a4 a5
  · rw [if_neg hz1] at hv
    cases hv
theorem g_putJ {idx ci k : Nat} {x : Option Nat} {v : Int64} (hd : decode (mcod M) pc = .ok (.putfield idx, 3)) (F : FLk (mown M) idx ci k false) (ht : fty ci k = .long) (hv : pJ ci k h x v = some h2) (kk : GO G M kc ks (pc + 3) L st h2 r h') : GO G M kc ks pc L (vl v :: vr x :: st) h r h' := by
  intro p e R s m args below meth c mc ms Q C E H locs cells slots ls a1 a2 a3 a4 a5
  obtain ⟨a, ha, rfl⟩ := Option.map_eq_some_iff.mp hv
  obtain ⟨rfl, hc⟩ := ck_spec ha
  refine w_put C.1 C.2.1 C.2.2.2.1 C.2.2.2.2.1 C.2.2.2.2.2.1 F (a1.ob hc F.lt) (v := .long v) (by rw [ht]; rfl) (by rw [ht]; rfl) hd (fun H' x z o => ?_)
  exact kk p e R s m args below meth c mc ms Q C E H' _ cells slots ls (a1.put hc F.lt rfl rfl (sJ_off h a k v) (fun j _ => (fval_sJ h a k v j (fty ci j) (fun q => by rw [q]; exact ht)).symm) x z o) (locs_add a2 (a1.2.2.2 a ci 0 hc).1) a3 a4 a5
theorem g_putJF {idx ci k : Nat} {x : Option Nat} {v : Int64} (hd : decode (mcod M) pc = .ok (.putfield idx, 3)) (F : FLk (mown M) idx ci k true) (hin : mnam M = "<init>") (hC : (vwCl[ci]?).map (fun q => q.1) = some (mown M)) (ht : fty ci k = .long) (hv : pJ ci k h x v = some h2) (kk : GO G M kc ks (pc + 3) L st h2 r h') : GO G M kc ks pc L (vl v :: vr x :: st) h r h' := by
  intro p e R s m args below meth c mc ms Q C E H locs cells slots ls a1 a2 a3 a4 a5
  obtain ⟨a, ha, rfl⟩ := Option.map_eq_some_iff.mp hv
  obtain ⟨rfl, hc⟩ := ck_spec ha
  refine w_putF C.1 C.2.1 C.2.2.2.1 C.2.2.2.2.1 C.2.2.2.2.2.1 (C.2.2.2.2.2.2.1 hin) F hC (a1.ob hc F.lt) (v := .long v) (by rw [ht]; rfl) (by rw [ht]; rfl) hd (fun H' x z o => ?_)
  exact kk p e R s m args below meth c mc ms Q C E H' _ cells slots ls (a1.put hc F.lt rfl rfl (sJ_off h a k v) (fun j _ => (fval_sJ h a k v j (fty ci j) (fun q => by rw [q]; exact ht)).symm) x z o) (locs_add a2 (a1.2.2.2 a ci 0 hc).1) a3 a4 a5
theorem g_putR {idx ci k : Nat} {x : Option Nat} {v : Option Nat} (hd : decode (mcod M) pc = .ok (.putfield idx, 3)) (F : FLk (mown M) idx ci k false) (ht : (∃ n, fty ci k = .object n) ∨ ∃ n, fty ci k = .array n) (hv : pR ci k h x v = some h2) (kk : GO G M kc ks (pc + 3) L st h2 r h') : GO G M kc ks pc L (vr v :: vr x :: st) h r h' := by
  intro p e R s m args below meth c mc ms Q C E H locs cells slots ls a1 a2 a3 a4 a5
  obtain ⟨a, ha, rfl⟩ := Option.map_eq_some_iff.mp hv
  obtain ⟨rfl, hc⟩ := ck_spec ha
  refine w_put C.1 C.2.1 C.2.2.2.1 C.2.2.2.2.1 C.2.2.2.2.2.1 F (a1.ob hc F.lt) (v := va_rf v) (by rcases ht with ⟨n, q⟩ | ⟨n, q⟩ <;> rw [q] <;> cases v <;> rfl) (by rcases ht with ⟨n, q⟩ | ⟨n, q⟩ <;> rw [q] <;> cases v <;> rfl) hd (fun H' x z o => ?_)
  exact kk p e R s m args below meth c mc ms Q C E H' _ cells slots ls (a1.put hc F.lt rfl rfl (sR_off h a k v) (fun j _ => (fval_sR (t := fty ci k) ht h a k v j (fty ci j) (fun q => by rw [q])).symm) x z o) (locs_add a2 (a1.2.2.2 a ci 0 hc).1) a3 a4 a5
theorem g_putRF {idx ci k : Nat} {x : Option Nat} {v : Option Nat} (hd : decode (mcod M) pc = .ok (.putfield idx, 3)) (F : FLk (mown M) idx ci k true) (hin : mnam M = "<init>") (hC : (vwCl[ci]?).map (fun q => q.1) = some (mown M)) (ht : (∃ n, fty ci k = .object n) ∨ ∃ n, fty ci k = .array n) (hv : pR ci k h x v = some h2) (kk : GO G M kc ks (pc + 3) L st h2 r h') : GO G M kc ks pc L (vr v :: vr x :: st) h r h' := by
  intro p e R s m args below meth c mc ms Q C E H locs cells slots ls a1 a2 a3 a4 a5
  obtain ⟨a, ha, rfl⟩ := Option.map_eq_some_iff.mp hv
  obtain ⟨rfl, hc⟩ := ck_spec ha
  refine w_putF C.1 C.2.1 C.2.2.2.1 C.2.2.2.2.1 C.2.2.2.2.2.1 (C.2.2.2.2.2.2.1 hin) F hC (a1.ob hc F.lt) (v := va_rf v) (by rcases ht with ⟨n, q⟩ | ⟨n, q⟩ <;> rw [q] <;> cases v <;> rfl) (by rcases ht with ⟨n, q⟩ | ⟨n, q⟩ <;> rw [q] <;> cases v <;> rfl) hd (fun H' x z o => ?_)
  exact kk p e R s m args below meth c mc ms Q C E H' _ cells slots ls (a1.put hc F.lt rfl rfl (sR_off h a k v) (fun j _ => (fval_sR (t := fty ci k) ht h a k v j (fty ci j) (fun q => by rw [q])).symm) x z o) (locs_add a2 (a1.2.2.2 a ci 0 hc).1) a3 a4 a5
end G3
