/-! CORE 2: the judgement GO (a method of ours, from a place in its code, comes to its end with this answer and this heap), and its contract CT -/
abbrev MI : Type := String × String × ByteArray × Nat × Instr × Nat
abbrev mown (M : MI) : String := M.1
abbrev mnam (M : MI) : String := M.2.1
abbrev mcod (M : MI) : ByteArray := M.2.2.1
abbrev mloc (M : MI) : Nat := M.2.2.2.1
abbrev mri (M : MI) : Instr := M.2.2.2.2.1
abbrev mdep (M : MI) : Nat := M.2.2.2.2.2
def CX (G : Gm) (M : MI) (p : Program) (R : Room) (s : State) (m : MethodId) (args : Array Value) (meth : Method) (c : Code) (mc ms : Nat) : Prop :=
  p.tables.exec = Jvm.exec ∧ c.code = mcod M ∧ c.maxLocals = mloc M ∧ s.vm.findClass (mown M) = some m.cls ∧ (∀ w ∈ gw, w.before args s = true) ∧ KK G s ∧ (mnam M = "<init>" → meth.name = "<init>") ∧ mdep M ≤ R.frames ∧ 35 * mdep M ≤ R.locals ∧ mc ≤ R.cells ∧ ms ≤ R.slots
def EN (G : Gm) (M : MI) (p : Program) (e : Env) (R : Room) (s : State) (m : MethodId) (args : Array Value) (below : List Frame) (meth : Method) (c : Code) (mc ms : Nat) (Q : State → Prop) (r : Option LV) (h' : AH) : Prop :=
  ∀ (H : Heap) (locs : List Loc) (ls : Array Slot) (pc : Nat), decode (mcod M) pc = .ok (mri M, 1) → HL G h' H → (∀ q ∈ locs, gb G ≤ q.base) → W p (gl G) e R s m args below meth c H locs mc ms Q (F0 m pc ls (r.map tv).toList)
def GO (G : Gm) (M : MI) (kc ks pc : Nat) (L : LL) (st : List LV) (h : AH) (r : Option LV) (h' : AH) : Prop :=
  ∀ (p : Program) (e : Env) (R : Room) (s : State) (m : MethodId) (args : Array Value) (below : List Frame) (meth : Method) (c : Code) (mc ms : Nat) (Q : State → Prop), CX G M p R s m args meth c mc ms → EN G M p e R s m args below meth c mc ms Q r h' →
    ∀ (H : Heap) (locs : List Loc) (cells slots : Nat) (ls : Array Slot), HL G h H → (∀ q ∈ locs, gb G ≤ q.base) → cells + kc ≤ mc → slots + ks ≤ ms → lv_has ls (mloc M) (L.map lvq) → W p (gl G) e R s m args below meth c H locs cells slots Q (F0 m pc ls (st.map tv))
def CT (G : Gm) (y : MethodName) (M : MI) (ret : Option FieldType) (mc ms : Nat) (as : List LV) (h : AH) (r : Option LV) (h' : AH) : Prop :=
  Met (gl G) y (Cond.code y (mcod M) (mloc M) ret :: gw) { frames := mdep M, cells := mc, slots := ms, locals := 35 * mdep M } (va_Pc (as.map tv) (fun U => HL G h U.heap ∧ KK G U)) (fun _ _ o t => o = .returned (r.map tv) ∧ HL G h' t.heap) mc ms (fun a => gb G ≤ a)
section G0
variable {G : Gm} {M : MI} {kc ks pc pc2 : Nat} {L L2 : LL} {st st2 : List LV} {h h2 h' : AH} {r : Option LV}
/-- a step that touches neither heap nor locals -/
theorem GO.loc (f : ∀ (p : Program) (e : Env) (R : Room) (s : State) (m : MethodId) (args : Array Value) (below : List Frame) (meth : Method) (c : Code) (H : Heap) (locs : List Loc) (cells slots mc ms : Nat) (Q : State → Prop) (ls : Array Slot), CX G M p R s m args meth c mc ms → lv_has ls (mloc M) (L.map lvq) →
    W p (gl G) e R s m args below meth c H locs cells slots Q (F0 m pc2 ls (st2.map tv)) → W p (gl G) e R s m args below meth c H locs cells slots Q (F0 m pc ls (st.map tv)))
    (k : GO G M kc ks pc2 L st2 h r h') : GO G M kc ks pc L st h r h' :=
  fun p e R s m args below meth c mc ms Q C E H locs cells slots ls a1 a2 a3 a4 a5 => f p e R s m args below meth c H locs cells slots mc ms Q ls C a5 (k p e R s m args below meth c mc ms Q C E H locs cells slots ls a1 a2 a3 a4 a5)
/-- .. that sets a local -/
theorem GO.sto (f : ∀ (p : Program) (e : Env) (R : Room) (s : State) (m : MethodId) (args : Array Value) (below : List Frame) (meth : Method) (c : Code) (H : Heap) (locs : List Loc) (cells slots mc ms : Nat) (Q : State → Prop) (ls : Array Slot), CX G M p R s m args meth c mc ms → lv_has ls (mloc M) (L.map lvq) →
    (∀ ls' : Array Slot, lv_has ls' (mloc M) (L2.map lvq) → W p (gl G) e R s m args below meth c H locs cells slots Q (F0 m pc2 ls' (st2.map tv))) → W p (gl G) e R s m args below meth c H locs cells slots Q (F0 m pc ls (st.map tv)))
    (k : GO G M kc ks pc2 L2 st2 h r h') : GO G M kc ks pc L st h r h' :=
  fun p e R s m args below meth c mc ms Q C E H locs cells slots ls a1 a2 a3 a4 a5 => f p e R s m args below meth c H locs cells slots mc ms Q ls C a5 (fun ls' a6 => k p e R s m args below meth c mc ms Q C E H locs cells slots ls' a1 a2 a3 a4 a6)
/-- .. that branches -/
theorem GO.br {c1 : Prop} {pca pcb : Nat} (f : ∀ (p : Program) (e : Env) (R : Room) (s : State) (m : MethodId) (args : Array Value) (below : List Frame) (meth : Method) (c : Code) (H : Heap) (locs : List Loc) (cells slots mc ms : Nat) (Q : State → Prop) (ls : Array Slot), CX G M p R s m args meth c mc ms →
    (c1 → W p (gl G) e R s m args below meth c H locs cells slots Q (F0 m pca ls (st2.map tv))) → (¬ c1 → W p (gl G) e R s m args below meth c H locs cells slots Q (F0 m pcb ls (st2.map tv))) → W p (gl G) e R s m args below meth c H locs cells slots Q (F0 m pc ls (st.map tv)))
    (ka : c1 → GO G M kc ks pca L st2 h r h') (kb : ¬ c1 → GO G M kc ks pcb L st2 h r h') : GO G M kc ks pc L st h r h' :=
  fun p e R s m args below meth c mc ms Q C E H locs cells slots ls a1 a2 a3 a4 a5 => f p e R s m args below meth c H locs cells slots mc ms Q ls C (fun q => ka q p e R s m args below meth c mc ms Q C E H locs cells slots ls a1 a2 a3 a4 a5) (fun q => kb q p e R s m args below meth c mc ms Q C E H locs cells slots ls a1 a2 a3 a4 a5)
theorem g_weak {kc' ks' : Nat} (h1 : kc ≤ kc') (h2 : ks ≤ ks') (k : GO G M kc ks pc L st h r h') : GO G M kc' ks' pc L st h r h' :=
  fun p e R s m args below meth c mc ms Q C E H locs cells slots ls a1 a2 a3 a4 a5 => k p e R s m args below meth c mc ms Q C E H locs cells slots ls a1 a2 (by omega) (by omega) a5
theorem g_sub (ps : List Nat) (hl : ps.filterMap (fun i => L[i]?) = L2) (k : GO G M kc ks pc L2 st h r h') : GO G M kc ks pc L st h r h' :=
  fun p e R s m args below meth c mc ms Q C E H locs cells slots ls a1 a2 a3 a4 a5 => k p e R s m args below meth c mc ms Q C E H locs cells slots ls a1 a2 a3 a4 (lv_sub a5 ps (by
    subst hl
    unfold lv_pick
    rw [List.map_filterMap]
    congr 1
    funext i
    rw [List.getElem?_map]))
theorem g_ret {pc : Nat} (hd : decode (mcod M) pc = .ok (mri M, 1)) (hs : st = r.toList) : GO G M 0 0 pc L st h r h := by
  intro p e R s m args below meth c mc ms Q C E H locs cells slots ls a1 a2 a3 a4 a5
  refine W.widen (k := mc) (n := ms) (by omega) (by omega) ?_
  have := E H locs ls pc hd a1 a2
  subst hs
  cases r <;> exact this
theorem lv_atL {ls : Array Slot} {n : Nat} (a : lv_has ls n (L.map lvq)) (j : Nat) {i : Nat} {v : LV} (hj : L[j]? = some (i, v)) : ls[i]? = some (.val (tv v)) :=
  lv_at a j (by rw [List.getElem?_map, hj]; rfl)
theorem g_iconst {n : Int} {v : Int32} (hd : decode (mcod M) pc = .ok (.iconst n, 1)) (hv : Int32.ofInt n = v) (k : GO G M kc ks (pc + 1) L (vi v :: st) h r h') : GO G M kc ks pc L (st) h r h' :=
  GO.loc (fun p e R s m args below meth c H locs cells slots mc ms Q ls C a k => lv_iconst C.1 C.2.1 hd hv k) k
theorem g_bipush {n : Int} {v : Int32} (hd : decode (mcod M) pc = .ok (.bipush n, 2)) (hv : (Int8.ofInt n).toInt32 = v) (k : GO G M kc ks (pc + 2) L (vi v :: st) h r h') : GO G M kc ks pc L (st) h r h' :=
  GO.loc (fun p e R s m args below meth c H locs cells slots mc ms Q ls C a k => lv_bipush C.1 C.2.1 hd hv k) k
theorem g_sipush {n : Int} {v : Int32} (hd : decode (mcod M) pc = .ok (.sipush n, 3)) (hv : (Int16.ofInt n).toInt32 = v) (k : GO G M kc ks (pc + 3) L (vi v :: st) h r h') : GO G M kc ks pc L (st) h r h' :=
  GO.loc (fun p e R s m args below meth c H locs cells slots mc ms Q ls C a k => lv_sipush C.1 C.2.1 hd hv k) k
theorem g_lconst {n : Fin 2} {v : Int64} (hd : decode (mcod M) pc = .ok (.lconst n, 1)) (hv : Int64.ofNat (n : Nat) = v) (k : GO G M kc ks (pc + 1) L (vl v :: st) h r h') : GO G M kc ks pc L (st) h r h' :=
  GO.loc (fun p e R s m args below meth c H locs cells slots mc ms Q ls C a k => lv_lconst C.1 C.2.1 hd hv k) k
theorem g_null (hd : decode (mcod M) pc = .ok (.aconst_null, 1)) (k : GO G M kc ks (pc + 1) L (vr none :: st) h r h') : GO G M kc ks pc L (st) h r h' :=
  GO.loc (fun p e R s m args below meth c H locs cells slots mc ms Q ls C a k => lv_null C.1 C.2.1 hd k) k
theorem g_iload_n {q : Fin 4} {i : Nat} {x : Int32} (hd : decode (mcod M) pc = .ok (.iload_n q, 1)) (hi : (q : Nat) = i) (j : Nat) (hj : L[j]? = some (i, vi x)) (k : GO G M kc ks (pc + 1) L (vi x :: st) h r h') : GO G M kc ks pc L (st) h r h' :=
  GO.loc (fun p e R s m args below meth c H locs cells slots mc ms Q ls C a k => lv_iload_n C.1 C.2.1 hd hi (lv_atL a j hj) k) k
theorem g_iload {i : Nat} {x : Int32} (hd : decode (mcod M) pc = .ok (.iload i, 2)) (j : Nat) (hj : L[j]? = some (i, vi x)) (k : GO G M kc ks (pc + 2) L (vi x :: st) h r h') : GO G M kc ks pc L (st) h r h' :=
  GO.loc (fun p e R s m args below meth c H locs cells slots mc ms Q ls C a k => lv_iload C.1 C.2.1 hd (lv_atL a j hj) k) k
theorem g_lload_n {q : Fin 4} {i : Nat} {x : Int64} (hd : decode (mcod M) pc = .ok (.lload_n q, 1)) (hi : (q : Nat) = i) (j : Nat) (hj : L[j]? = some (i, vl x)) (k : GO G M kc ks (pc + 1) L (vl x :: st) h r h') : GO G M kc ks pc L (st) h r h' :=
  GO.loc (fun p e R s m args below meth c H locs cells slots mc ms Q ls C a k => lv_lload_n C.1 C.2.1 hd hi (lv_atL a j hj) k) k
theorem g_lload {i : Nat} {x : Int64} (hd : decode (mcod M) pc = .ok (.lload i, 2)) (j : Nat) (hj : L[j]? = some (i, vl x)) (k : GO G M kc ks (pc + 2) L (vl x :: st) h r h') : GO G M kc ks pc L (st) h r h' :=
  GO.loc (fun p e R s m args below meth c H locs cells slots mc ms Q ls C a k => lv_lload C.1 C.2.1 hd (lv_atL a j hj) k) k
theorem g_aload_n {q : Fin 4} {i : Nat} {x : Option Nat} (hd : decode (mcod M) pc = .ok (.aload_n q, 1)) (hi : (q : Nat) = i) (j : Nat) (hj : L[j]? = some (i, vr x)) (k : GO G M kc ks (pc + 1) L (vr x :: st) h r h') : GO G M kc ks pc L st h r h' :=
  GO.loc (fun p e R s m args below meth c H locs cells slots mc ms Q ls C a k => by
    have hl := lv_atL a j hj
    cases x with
    | none => exact lv_aload_nN C.1 C.2.1 hd hi hl k
    | some x => exact lv_aload_n C.1 C.2.1 hd hi hl k) k
theorem g_aload {i : Nat} {x : Option Nat} (hd : decode (mcod M) pc = .ok (.aload i, 2)) (j : Nat) (hj : L[j]? = some (i, vr x)) (k : GO G M kc ks (pc + 2) L (vr x :: st) h r h') : GO G M kc ks pc L st h r h' :=
  GO.loc (fun p e R s m args below meth c H locs cells slots mc ms Q ls C a k => by
    have hl := lv_atL a j hj
    cases x with
    | none => exact lv_aloadN C.1 C.2.1 hd hl k
    | some x => exact lv_aload C.1 C.2.1 hd hl k) k
theorem g_iadd {x y : Int32} (hd : decode (mcod M) pc = .ok (.iadd, 1)) (k : GO G M kc ks (pc + 1) L (vi (x + y) :: st) h r h') : GO G M kc ks pc L (vi y :: vi x :: st) h r h' :=
  GO.loc (fun p e R s m args below meth c H locs cells slots mc ms Q ls C a k => lv_iadd C.1 C.2.1 hd k) k
theorem g_isub {x y : Int32} (hd : decode (mcod M) pc = .ok (.isub, 1)) (k : GO G M kc ks (pc + 1) L (vi (x - y) :: st) h r h') : GO G M kc ks pc L (vi y :: vi x :: st) h r h' :=
  GO.loc (fun p e R s m args below meth c H locs cells slots mc ms Q ls C a k => lv_isub C.1 C.2.1 hd k) k
theorem g_imul {x y : Int32} (hd : decode (mcod M) pc = .ok (.imul, 1)) (k : GO G M kc ks (pc + 1) L (vi (x * y) :: st) h r h') : GO G M kc ks pc L (vi y :: vi x :: st) h r h' :=
  GO.loc (fun p e R s m args below meth c H locs cells slots mc ms Q ls C a k => lv_imul C.1 C.2.1 hd k) k
theorem g_iand {x y : Int32} (hd : decode (mcod M) pc = .ok (.iand, 1)) (k : GO G M kc ks (pc + 1) L (vi (x &&& y) :: st) h r h') : GO G M kc ks pc L (vi y :: vi x :: st) h r h' :=
  GO.loc (fun p e R s m args below meth c H locs cells slots mc ms Q ls C a k => lv_iand C.1 C.2.1 hd k) k
theorem g_ladd {x y : Int64} (hd : decode (mcod M) pc = .ok (.ladd, 1)) (k : GO G M kc ks (pc + 1) L (vl (x + y) :: st) h r h') : GO G M kc ks pc L (vl y :: vl x :: st) h r h' :=
  GO.loc (fun p e R s m args below meth c H locs cells slots mc ms Q ls C a k => lv_ladd C.1 C.2.1 hd k) k
theorem g_land {x y : Int64} (hd : decode (mcod M) pc = .ok (.land, 1)) (k : GO G M kc ks (pc + 1) L (vl (x &&& y) :: st) h r h') : GO G M kc ks pc L (vl y :: vl x :: st) h r h' :=
  GO.loc (fun p e R s m args below meth c H locs cells slots mc ms Q ls C a k => lv_land C.1 C.2.1 hd k) k
theorem g_lor {x y : Int64} (hd : decode (mcod M) pc = .ok (.lor, 1)) (k : GO G M kc ks (pc + 1) L (vl (x ||| y) :: st) h r h') : GO G M kc ks pc L (vl y :: vl x :: st) h r h' :=
  GO.loc (fun p e R s m args below meth c H locs cells slots mc ms Q ls C a k => lv_lor C.1 C.2.1 hd k) k
theorem g_idiv {x y : Int32} (hd : decode (mcod M) pc = .ok (.idiv, 1)) (hne : ¬ y = 0) (k : GO G M kc ks (pc + 1) L (vi (x / y) :: st) h r h') : GO G M kc ks pc L (vi y :: vi x :: st) h r h' :=
  GO.loc (fun p e R s m args below meth c H locs cells slots mc ms Q ls C a k => lv_idiv C.1 C.2.1 hd hne k) k
theorem g_irem {x y : Int32} (hd : decode (mcod M) pc = .ok (.irem, 1)) (hne : ¬ y = 0) (k : GO G M kc ks (pc + 1) L (vi (x - x / y * y) :: st) h r h') : GO G M kc ks pc L (vi y :: vi x :: st) h r h' :=
  GO.loc (fun p e R s m args below meth c H locs cells slots mc ms Q ls C a k => lv_irem C.1 C.2.1 hd hne k) k
theorem g_lshl {x : Int64} {y : Int32} (hd : decode (mcod M) pc = .ok (.lshl, 1)) (k : GO G M kc ks (pc + 1) L (vl (x <<< (y.toInt64 &&& 63)) :: st) h r h') : GO G M kc ks pc L (vi y :: vl x :: st) h r h' :=
  GO.loc (fun p e R s m args below meth c H locs cells slots mc ms Q ls C a k => lv_lshl C.1 C.2.1 hd rfl k) k
theorem g_i2l {x : Int32} (hd : decode (mcod M) pc = .ok (.i2l, 1)) (k : GO G M kc ks (pc + 1) L (vl x.toInt64 :: st) h r h') : GO G M kc ks pc L (vi x :: st) h r h' :=
  GO.loc (fun p e R s m args below meth c H locs cells slots mc ms Q ls C a k => lv_i2l C.1 C.2.1 hd rfl k) k
theorem g_l2i {x : Int64} (hd : decode (mcod M) pc = .ok (.l2i, 1)) (k : GO G M kc ks (pc + 1) L (vi x.toInt32 :: st) h r h') : GO G M kc ks pc L (vl x :: st) h r h' :=
  GO.loc (fun p e R s m args below meth c H locs cells slots mc ms Q ls C a k => lv_l2i C.1 C.2.1 hd rfl k) k
theorem g_i2b {x : Int32} (hd : decode (mcod M) pc = .ok (.i2b, 1)) (k : GO G M kc ks (pc + 1) L (vi x.toInt8.toInt32 :: st) h r h') : GO G M kc ks pc L (vi x :: st) h r h' :=
  GO.loc (fun p e R s m args below meth c H locs cells slots mc ms Q ls C a k => lv_i2b C.1 C.2.1 hd rfl k) k
theorem g_i2s {x : Int32} (hd : decode (mcod M) pc = .ok (.i2s, 1)) (k : GO G M kc ks (pc + 1) L (vi x.toInt16.toInt32 :: st) h r h') : GO G M kc ks pc L (vi x :: st) h r h' :=
  GO.loc (fun p e R s m args below meth c H locs cells slots mc ms Q ls C a k => lv_i2s C.1 C.2.1 hd rfl k) k
theorem g_lcmp {x y : Int64} (hd : decode (mcod M) pc = .ok (.lcmp, 1)) (k : GO G M kc ks (pc + 1) L (vi (lg_cmp x y) :: st) h r h') : GO G M kc ks pc L (vl y :: vl x :: st) h r h' :=
  GO.loc (fun p e R s m args below meth c H locs cells slots mc ms Q ls C a k => W.lcmp C.1 C.2.1 hd k) k
theorem g_dup {v : LV} (hd : decode (mcod M) pc = .ok (.dup, 1)) (hv : lcat v = 1) (k : GO G M kc ks (pc + 1) L (v :: v :: st) h r h') : GO G M kc ks pc L (v :: st) h r h' :=
  GO.loc (fun p e R s m args below meth c H locs cells slots mc ms Q ls C a k => lv_dup C.1 C.2.1 hd (by rw [tv_cat]; exact hv) k) k
theorem g_pop {v : LV} (hd : decode (mcod M) pc = .ok (.pop, 1)) (hv : lcat v = 1) (k : GO G M kc ks (pc + 1) L (st) h r h') : GO G M kc ks pc L (v :: st) h r h' :=
  GO.loc (fun p e R s m args below meth c H locs cells slots mc ms Q ls C a k => lv_pop C.1 C.2.1 hd (by rw [tv_cat]; exact hv) k) k
theorem g_dup2 {v w : LV} (hd : decode (mcod M) pc = .ok (.dup2, 1)) (hv : lcat v = 1) (hw : lcat w = 1) (k : GO G M kc ks (pc + 1) L (v :: w :: v :: w :: st) h r h') : GO G M kc ks pc L (v :: w :: st) h r h' :=
  GO.loc (fun p e R s m args below meth c H locs cells slots mc ms Q ls C a k => lv_dup2_11 C.1 C.2.1 hd (by rw [tv_cat]; exact hv) (by rw [tv_cat]; exact hw) k) k
theorem g_ldc {idx : Nat} {v : Int32} (hd : decode (mcod M) pc = .ok (.ldc idx, 2)) (hw : Cond.constant (mown M) idx v ∈ gw) (k : GO G M kc ks (pc + 2) L (vi v :: st) h r h') : GO G M kc ks pc L st h r h' :=
  GO.loc (fun p e R s m args below meth c H locs cells slots mc ms Q ls C a k => lv_ldc C.1 C.2.1 C.2.2.2.1 (C.2.2.2.2.1 _ hw) hd k) k
theorem g_ldc2 {idx : Nat} {v : Int64} (hd : decode (mcod M) pc = .ok (.ldc2_w idx, 3)) (hw : Cond.constantLong (mown M) idx v ∈ gw) (k : GO G M kc ks (pc + 3) L (vl v :: st) h r h') : GO G M kc ks pc L st h r h' :=
  GO.loc (fun p e R s m args below meth c H locs cells slots mc ms Q ls C a k => lv_ldc2 C.1 C.2.1 C.2.2.2.1 (C.2.2.2.2.1 _ hw) hd k) k
theorem g_goto {off : Int} {tgt : Nat} (hd : decode (mcod M) pc = .ok (.goto off, 3)) (ht : (pc : Int) + off = (tgt : Int)) (k : GO G M kc ks tgt L st h r h') : GO G M kc ks pc L st h r h' :=
  GO.loc (fun p e R s m args below meth c H locs cells slots mc ms Q ls C a k => lv_goto C.1 C.2.1 hd ht k) k
theorem g_sw_out {dflt lo hi : Int} {offs : Array Int} {len : Nat} {x : Int32} {tgt : Nat} (hd : decode (mcod M) pc = .ok (.tableswitch dflt lo hi offs, len)) (hx : x.toInt < lo ∨ hi < x.toInt) (ht : (pc : Int) + dflt = (tgt : Int)) (k : GO G M kc ks tgt L st h r h') : GO G M kc ks pc L (vi x :: st) h r h' :=
  GO.loc (fun p e R s m args below meth c H locs cells slots mc ms Q ls C a k => lv_tableOut C.1 C.2.1 hd hx ht k) k
theorem g_sw_in {dflt lo hi : Int} {offs : Array Int} {len : Nat} {x : Int32} {off : Int} {tgt : Nat} (hd : decode (mcod M) pc = .ok (.tableswitch dflt lo hi offs, len)) (h1 : ¬ x.toInt < lo) (h2 : ¬ hi < x.toInt) (ho : offs[(x.toInt - lo).toNat]? = some off) (ht : (pc : Int) + off = (tgt : Int)) (k : GO G M kc ks tgt L st h r h') : GO G M kc ks pc L (vi x :: st) h r h' :=
  GO.loc (fun p e R s m args below meth c H locs cells slots mc ms Q ls C a k => lv_tableIn C.1 C.2.1 hd h1 h2 ho ht k) k
theorem g_istore_n {q : Fin 4} {i : Nat} {x : Int32} (hd : decode (mcod M) pc = .ok (.istore_n q, 1)) (hi : (q : Nat) = i) (hn : i < mloc M) (hl : lput i (vi x) L = L2) (k : GO G M kc ks (pc + 1) L2 st h r h') : GO G M kc ks pc L (vi x :: st) h r h' :=
  GO.sto (fun p e R s m args below meth c H locs cells slots mc ms Q ls C a k => lv_istore_n C.1 C.2.1 hd hi a hn (by rw [← hl]; exact lput_map i (vi x) L) k) k
theorem g_istore {i : Nat} {x : Int32} (hd : decode (mcod M) pc = .ok (.istore i, 2)) (hn : i < mloc M) (hl : lput i (vi x) L = L2) (k : GO G M kc ks (pc + 2) L2 st h r h') : GO G M kc ks pc L (vi x :: st) h r h' :=
  GO.sto (fun p e R s m args below meth c H locs cells slots mc ms Q ls C a k => lv_istore C.1 C.2.1 hd a hn (by rw [← hl]; exact lput_map i (vi x) L) k) k
theorem g_astore_n {q : Fin 4} {i : Nat} {x : Option Nat} (hd : decode (mcod M) pc = .ok (.astore_n q, 1)) (hi : (q : Nat) = i) (hn : i < mloc M) (hl : lput i (vr x) L = L2) (k : GO G M kc ks (pc + 1) L2 st h r h') : GO G M kc ks pc L (vr x :: st) h r h' :=
  GO.sto (fun p e R s m args below meth c H locs cells slots mc ms Q ls C a k => by
    have e := lput_map i (vr x) L
    rw [hl] at e
    cases x with
    | none => exact lv_astore_nN C.1 C.2.1 hd hi a hn e k
    | some x => exact lv_astore_n C.1 C.2.1 hd hi a hn e k) k
theorem g_astore {i : Nat} {x : Option Nat} (hd : decode (mcod M) pc = .ok (.astore i, 2)) (hn : i < mloc M) (hl : lput i (vr x) L = L2) (k : GO G M kc ks (pc + 2) L2 st h r h') : GO G M kc ks pc L (vr x :: st) h r h' :=
  GO.sto (fun p e R s m args below meth c H locs cells slots mc ms Q ls C a k => by
    have e := lput_map i (vr x) L
    rw [hl] at e
    cases x with
    | none => exact lv_astoreN C.1 C.2.1 hd a hn e k
    | some x => exact lv_astore C.1 C.2.1 hd a hn e k) k
theorem g_iinc {i j : Nat} {n : Int} {x v : Int32} (hd : decode (mcod M) pc = .ok (.iinc i n, 3)) (hj : L[j]? = some (i, vi x)) (hv : x + Int32.ofInt n = v) (hn : i < mloc M) (hl : lput i (vi v) L = L2) (k : GO G M kc ks (pc + 3) L2 st h r h') : GO G M kc ks pc L st h r h' :=
  GO.sto (fun p e R s m args below meth c H locs cells slots mc ms Q ls C a k => lv_iinc (k := j) C.1 C.2.1 hd a (by rw [List.getElem?_map, hj]; rfl) hv hn (by rw [← hl]; exact lput_map i (vi v) L) k) k
theorem g_if_eq {x : Int32} {off : Int} {tgt : Nat} (hd : decode (mcod M) pc = .ok (.ifCond .eq off, 3)) (ht : (pc : Int) + off = (tgt : Int)) (ka : x = 0 → GO G M kc ks tgt L st h r h') (kb : ¬ (x = 0) → GO G M kc ks (pc + 3) L st h r h') : GO G M kc ks pc L (vi x :: st) h r h' :=
  GO.br (fun p e R s m args below meth c H locs cells slots mc ms Q ls C a b => lv_if_eq C.1 C.2.1 hd ht a b) ka kb
theorem g_ic_eq {x y : Int32} {off : Int} {tgt : Nat} (hd : decode (mcod M) pc = .ok (.if_icmp .eq off, 3)) (ht : (pc : Int) + off = (tgt : Int)) (ka : x = y → GO G M kc ks tgt L st h r h') (kb : ¬ (x = y) → GO G M kc ks (pc + 3) L st h r h') : GO G M kc ks pc L (vi y :: vi x :: st) h r h' :=
  GO.br (fun p e R s m args below meth c H locs cells slots mc ms Q ls C a b => lv_icmp_eq C.1 C.2.1 hd ht a b) ka kb
theorem g_if_ne {x : Int32} {off : Int} {tgt : Nat} (hd : decode (mcod M) pc = .ok (.ifCond .ne off, 3)) (ht : (pc : Int) + off = (tgt : Int)) (ka : ¬ x = 0 → GO G M kc ks tgt L st h r h') (kb : x = 0 → GO G M kc ks (pc + 3) L st h r h') : GO G M kc ks pc L (vi x :: st) h r h' :=
  GO.br (c1 := ¬ x = 0) (fun p e R s m args below meth c H locs cells slots mc ms Q ls C a b => lv_if_ne C.1 C.2.1 hd ht a (fun z => b (fun w => w z))) ka (fun z => kb (Classical.not_not.mp z))
theorem g_ic_ne {x y : Int32} {off : Int} {tgt : Nat} (hd : decode (mcod M) pc = .ok (.if_icmp .ne off, 3)) (ht : (pc : Int) + off = (tgt : Int)) (ka : ¬ x = y → GO G M kc ks tgt L st h r h') (kb : x = y → GO G M kc ks (pc + 3) L st h r h') : GO G M kc ks pc L (vi y :: vi x :: st) h r h' :=
  GO.br (c1 := ¬ x = y) (fun p e R s m args below meth c H locs cells slots mc ms Q ls C a b => lv_icmp_ne C.1 C.2.1 hd ht a (fun z => b (fun w => w z))) ka (fun z => kb (Classical.not_not.mp z))
theorem g_if_lt {x : Int32} {off : Int} {tgt : Nat} (hd : decode (mcod M) pc = .ok (.ifCond .lt off, 3)) (ht : (pc : Int) + off = (tgt : Int)) (ka : x < 0 → GO G M kc ks tgt L st h r h') (kb : ¬ (x < 0) → GO G M kc ks (pc + 3) L st h r h') : GO G M kc ks pc L (vi x :: st) h r h' :=
  GO.br (fun p e R s m args below meth c H locs cells slots mc ms Q ls C a b => lv_if_lt C.1 C.2.1 hd ht a b) ka kb
theorem g_ic_lt {x y : Int32} {off : Int} {tgt : Nat} (hd : decode (mcod M) pc = .ok (.if_icmp .lt off, 3)) (ht : (pc : Int) + off = (tgt : Int)) (ka : x < y → GO G M kc ks tgt L st h r h') (kb : ¬ (x < y) → GO G M kc ks (pc + 3) L st h r h') : GO G M kc ks pc L (vi y :: vi x :: st) h r h' :=
  GO.br (fun p e R s m args below meth c H locs cells slots mc ms Q ls C a b => lv_icmp_lt C.1 C.2.1 hd ht a b) ka kb
theorem g_if_ge {x : Int32} {off : Int} {tgt : Nat} (hd : decode (mcod M) pc = .ok (.ifCond .ge off, 3)) (ht : (pc : Int) + off = (tgt : Int)) (ka : 0 ≤ x → GO G M kc ks tgt L st h r h') (kb : ¬ (0 ≤ x) → GO G M kc ks (pc + 3) L st h r h') : GO G M kc ks pc L (vi x :: st) h r h' :=
  GO.br (fun p e R s m args below meth c H locs cells slots mc ms Q ls C a b => lv_if_ge C.1 C.2.1 hd ht a b) ka kb
theorem g_ic_ge {x y : Int32} {off : Int} {tgt : Nat} (hd : decode (mcod M) pc = .ok (.if_icmp .ge off, 3)) (ht : (pc : Int) + off = (tgt : Int)) (ka : y ≤ x → GO G M kc ks tgt L st h r h') (kb : ¬ (y ≤ x) → GO G M kc ks (pc + 3) L st h r h') : GO G M kc ks pc L (vi y :: vi x :: st) h r h' :=
  GO.br (fun p e R s m args below meth c H locs cells slots mc ms Q ls C a b => lv_icmp_ge C.1 C.2.1 hd ht a b) ka kb
theorem g_if_gt {x : Int32} {off : Int} {tgt : Nat} (hd : decode (mcod M) pc = .ok (.ifCond .gt off, 3)) (ht : (pc : Int) + off = (tgt : Int)) (ka : 0 < x → GO G M kc ks tgt L st h r h') (kb : ¬ (0 < x) → GO G M kc ks (pc + 3) L st h r h') : GO G M kc ks pc L (vi x :: st) h r h' :=
  GO.br (fun p e R s m args below meth c H locs cells slots mc ms Q ls C a b => lv_if_gt C.1 C.2.1 hd ht a b) ka kb
theorem g_ic_gt {x y : Int32} {off : Int} {tgt : Nat} (hd : decode (mcod M) pc = .ok (.if_icmp .gt off, 3)) (ht : (pc : Int) + off = (tgt : Int)) (ka : y < x → GO G M kc ks tgt L st h r h') (kb : ¬ (y < x) → GO G M kc ks (pc + 3) L st h r h') : GO G M kc ks pc L (vi y :: vi x :: st) h r h' :=
  GO.br (fun p e R s m args below meth c H locs cells slots mc ms Q ls C a b => lv_icmp_gt C.1 C.2.1 hd ht a b) ka kb
theorem g_if_le {x : Int32} {off : Int} {tgt : Nat} (hd : decode (mcod M) pc = .ok (.ifCond .le off, 3)) (ht : (pc : Int) + off = (tgt : Int)) (ka : x ≤ 0 → GO G M kc ks tgt L st h r h') (kb : ¬ (x ≤ 0) → GO G M kc ks (pc + 3) L st h r h') : GO G M kc ks pc L (vi x :: st) h r h' :=
  GO.br (fun p e R s m args below meth c H locs cells slots mc ms Q ls C a b => lv_if_le C.1 C.2.1 hd ht a b) ka kb
theorem g_ic_le {x y : Int32} {off : Int} {tgt : Nat} (hd : decode (mcod M) pc = .ok (.if_icmp .le off, 3)) (ht : (pc : Int) + off = (tgt : Int)) (ka : x ≤ y → GO G M kc ks tgt L st h r h') (kb : ¬ (x ≤ y) → GO G M kc ks (pc + 3) L st h r h') : GO G M kc ks pc L (vi y :: vi x :: st) h r h' :=
  GO.br (fun p e R s m args below meth c H locs cells slots mc ms Q ls C a b => lv_icmp_le C.1 C.2.1 hd ht a b) ka kb
theorem g_ac_eq {x y : Option Nat} {off : Int} {tgt : Nat} (hd : decode (mcod M) pc = .ok (.if_acmp .eq off, 3)) (ht : (pc : Int) + off = (tgt : Int)) (ka : x = y → GO G M kc ks tgt L st h r h') (kb : ¬ x = y → GO G M kc ks (pc + 3) L st h r h') : GO G M kc ks pc L (vr y :: vr x :: st) h r h' :=
  GO.br (fun p e R s m args below meth c H locs cells slots mc ms Q ls C a b => lv_acmp_eq C.1 C.2.1 hd ht a b) ka kb
theorem g_ac_ne {x y : Option Nat} {off : Int} {tgt : Nat} (hd : decode (mcod M) pc = .ok (.if_acmp .ne off, 3)) (ht : (pc : Int) + off = (tgt : Int)) (ka : ¬ x = y → GO G M kc ks tgt L st h r h') (kb : x = y → GO G M kc ks (pc + 3) L st h r h') : GO G M kc ks pc L (vr y :: vr x :: st) h r h' :=
  GO.br (c1 := ¬ x = y) (fun p e R s m args below meth c H locs cells slots mc ms Q ls C a b => lv_acmp_ne C.1 C.2.1 hd ht a (fun z => b (fun w => w z))) ka (fun z => kb (Classical.not_not.mp z))
theorem g_ifnull {x : Option Nat} {off : Int} {tgt : Nat} (hd : decode (mcod M) pc = .ok (.ifnull off, 3)) (ht : (pc : Int) + off = (tgt : Int)) (ka : x = none → GO G M kc ks tgt L st h r h') (kb : ¬ x = none → GO G M kc ks (pc + 3) L st h r h') : GO G M kc ks pc L (vr x :: st) h r h' :=
  GO.br (c1 := x = none) (fun p e R s m args below meth c H locs cells slots mc ms Q ls C a b => by
    cases x with
    | none => exact lv_ifnullN C.1 C.2.1 hd ht (a rfl)
    | some x => exact lv_ifnull C.1 C.2.1 hd (b (fun z => by cases z))) ka kb
theorem g_ifnonnull {x : Option Nat} {off : Int} {tgt : Nat} (hd : decode (mcod M) pc = .ok (.ifnonnull off, 3)) (ht : (pc : Int) + off = (tgt : Int)) (ka : ¬ x = none → GO G M kc ks tgt L st h r h') (kb : x = none → GO G M kc ks (pc + 3) L st h r h') : GO G M kc ks pc L (vr x :: st) h r h' :=
  GO.br (c1 := x = none) (pca := pc + 3) (pcb := tgt) (fun p e R s m args below meth c H locs cells slots mc ms Q ls C a b => by
    cases x with
    | none => exact lv_ifnonnullN C.1 C.2.1 hd (a rfl)
    | some x => exact lv_ifnonnull C.1 C.2.1 hd ht (b (fun z => by cases z))) kb ka
end G0
