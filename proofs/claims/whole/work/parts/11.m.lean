abbrev mX0_init : MI := (RX0, "<init>", cX0_init, 7, .return_, 1)
def f_X0_init_53 : Nat → Nat → Int32 → AH → Option AH
  | 0, _, _, _ => none
  | n + 1, a0, a6, h =>
    (gR 0 4 h (some a0)).bind fun v1 =>
    (al h v1).bind fun v2 =>
    if v2 ≤ a6 then (
      some h
    ) else (
      (gR 0 4 h (some a0)).bind fun v3 =>
      (stI 10 h v3 a6 (a6 + (1 : Int32))).bind fun h4 =>
      f_X0_init_53 n a0 (a6 + (1)) h4
    )
theorem x_X0_init_53 (G : Gm) : ∀ (n : Nat) (a0 : Nat) (a6 : Int32) (h : AH) (o : AH), f_X0_init_53 n a0 a6 h = some o → GO G mX0_init 0 0 53 [(0, vr (some a0)), (6, vi a6)] [] h none o := by
  intro n
  induction n with
  | zero => intro a0 a6 h o hf; cases hf
  | succ n ih =>
    intro a0 a6 h o hf
    rw [f_X0_init_53] at hf
    refine g_iload (M := mX0_init) dX0_init_53 1 rfl ?_
    refine g_aload_n (M := mX0_init) dX0_init_55 rfl 0 rfl ?_
    obtain ⟨v1, ev1, hf⟩ := bd hf
    refine g_getR (M := mX0_init) dX0_init_56 flRX0_24 (fun _ => rfl) ev1 ?_
    obtain ⟨v2, ev2, hf⟩ := bd hf
    refine g_alen (M := mX0_init) dX0_init_59 ev2 ?_
    refine g_ic_ge (M := mX0_init) (tgt := 80) dX0_init_60 rfl (fun q60 => ?_) (fun q60 => ?_)
    · replace hf := ift hf q60
      cases hf
      exact g_ret (M := mX0_init) dX0_init_80 rfl
    · replace hf := iff_ hf q60
      refine g_aload_n (M := mX0_init) dX0_init_63 rfl 0 rfl ?_
      obtain ⟨v3, ev3, hf⟩ := bd hf
      refine g_getR (M := mX0_init) dX0_init_64 flRX0_24 (fun _ => rfl) ev3 ?_
      refine g_iload (M := mX0_init) dX0_init_67 1 rfl ?_
      refine g_iload (M := mX0_init) dX0_init_69 1 rfl ?_
      refine g_iconst (M := mX0_init) (v := 1) dX0_init_71 rfl ?_
      refine g_iadd (M := mX0_init) dX0_init_72 ?_
      obtain ⟨h4, eh4, hf⟩ := bd hf
      refine g_iast (M := mX0_init) dX0_init_73 eh4 ?_
      refine g_iinc (M := mX0_init) (j := 1) (L2 := [(6, vi (a6 + (1))), (0, vr (some a0))]) dX0_init_74 rfl rfl (Nat.le_of_ble_eq_true rfl) rfl ?_
      refine g_goto (M := mX0_init) (tgt := 53) dX0_init_77 rfl ?_
      exact g_sub (M := mX0_init) (L2 := [(0, vr (some a0)), (6, vi (a6 + (1)))]) [1, 0] rfl <| ih a0 (a6 + (1)) h4 _ hf
def f_X0_init_36 (a0 : Nat) (s0 : Option Nat) (s1 : Int32) (h : AH) : Option AH :=
  (na 10 20 h s1).bind fun h5 =>
  (pR 0 4 h5 s0 (some (hz h))).bind fun h6 =>
  (na 15 8 h6 (8 : Int32)).bind fun h7 =>
  (pR 0 5 h7 (some a0) (some (hz h6))).bind fun h8 =>
  f_X0_init_53 FU a0 (0 : Int32) h8
theorem x_X0_init_36 (G : Gm) (a0 : Nat) (s0 : Option Nat) (s1 : Int32) (h : AH) (o : AH) (hf : f_X0_init_36 a0 s0 s1 h = some o) : GO G mX0_init 2 28 36 [(0, vr (some a0))] [vi s1, vr s0] h none o := by
  unfold f_X0_init_36 at hf
  obtain ⟨h5, eh5, hf⟩ := bd hf
  refine g_newa (M := mX0_init) (kc := 1) (ks := 8) (t := 10) (j := 0) (ty := .int) rfl rfl (Nat.le_of_ble_eq_true rfl) (fun _ => rfl) rfl (fun _ _ z => z) dX0_init_36 ac_int (Nat.le_of_ble_eq_true rfl) (Nat.le_of_ble_eq_true rfl) eh5 ?_
  obtain ⟨h6, eh6, hf⟩ := bd hf
  refine g_putRF (M := mX0_init) dX0_init_38 flRX0_24 rfl rfl (Or.inr ⟨_, rfl⟩) eh6 ?_
  refine g_aload_n (M := mX0_init) dX0_init_41 rfl 0 rfl ?_
  refine g_bipush (M := mX0_init) (v := 8) dX0_init_42 rfl ?_
  obtain ⟨h7, eh7, hf⟩ := bd hf
  refine g_anew (M := mX0_init) (kc := 0) (ks := 0) (t := 15) (j := 5) (cn := RX1) rfl (Nat.le_of_ble_eq_true rfl) (fun _ => rfl) (fun _ z => z.2.2.2.2.2) dX0_init_44 clRX0_28 (Nat.le_of_ble_eq_true rfl) eh7 ?_
  obtain ⟨h8, eh8, hf⟩ := bd hf
  refine g_putRF (M := mX0_init) dX0_init_47 flRX0_30 rfl rfl (Or.inr ⟨_, rfl⟩) eh8 ?_
  refine g_iconst (M := mX0_init) (v := 0) dX0_init_50 rfl ?_
  refine g_istore (M := mX0_init) (L2 := [(6, vi (0 : Int32)), (0, vr (some a0))]) dX0_init_51 (Nat.le_of_ble_eq_true rfl) rfl ?_
  exact g_sub (M := mX0_init) (L2 := [(0, vr (some a0)), (6, vi (0 : Int32))]) [1, 0] rfl <| x_X0_init_53 G FU a0 (0 : Int32) h8 _ hf
def f_X0_init (a0 : Nat) (a1 : Int32) (a2 : Int32) (a3 : Int32) (a4 : Int32) (a5 : Int32) (h : AH) : Option AH :=
  (pI 0 0 h (some a0) a1).bind fun h9 =>
  (pI 0 1 h9 (some a0) a3).bind fun h10 =>
  (pI 0 2 h10 (some a0) a4).bind fun h11 =>
  (pI 0 3 h11 (some a0) a5).bind fun h12 =>
  if 0 ≤ a2 then (
    f_X0_init_36 a0 (some a0) a2 h12
  ) else (
    f_X0_init_36 a0 (some a0) (0 : Int32) h12
  )
theorem x_X0_init (G : Gm) (a0 : Nat) (a1 : Int32) (a2 : Int32) (a3 : Int32) (a4 : Int32) (a5 : Int32) (h : AH) (o : AH) (hf : f_X0_init a0 a1 a2 a3 a4 a5 h = some o) : GO G mX0_init 2 28 0 [(0, vr (some a0)), (1, vi a1), (2, vi a2), (3, vi a3), (4, vi a4), (5, vi a5)] [] h none o := by
  unfold f_X0_init at hf
  refine g_aload_n (M := mX0_init) dX0_init_0 rfl 0 rfl ?_
  refine g_obj (M := mX0_init) dX0_init_1 mlRX0_3 im_objectInit cd_objectInit (Nat.le_of_ble_eq_true rfl) (by decide) ?_
  refine g_aload_n (M := mX0_init) dX0_init_4 rfl 0 rfl ?_
  refine g_iload_n (M := mX0_init) dX0_init_5 rfl 1 rfl ?_
  obtain ⟨h9, eh9, hf⟩ := bd hf
  refine g_putIF (M := mX0_init) dX0_init_6 flRX0_9 rfl rfl rfl eh9 ?_
  refine g_aload_n (M := mX0_init) dX0_init_9 rfl 0 rfl ?_
  refine g_iload_n (M := mX0_init) dX0_init_10 rfl 3 rfl ?_
  obtain ⟨h10, eh10, hf⟩ := bd hf
  refine g_putIF (M := mX0_init) dX0_init_11 flRX0_15 rfl rfl rfl eh10 ?_
  refine g_aload_n (M := mX0_init) dX0_init_14 rfl 0 rfl ?_
  refine g_iload (M := mX0_init) dX0_init_15 4 rfl ?_
  obtain ⟨h11, eh11, hf⟩ := bd hf
  refine g_putIF (M := mX0_init) dX0_init_17 flRX0_18 rfl rfl rfl eh11 ?_
  refine g_aload_n (M := mX0_init) dX0_init_20 rfl 0 rfl ?_
  refine g_iload (M := mX0_init) dX0_init_21 5 rfl ?_
  obtain ⟨h12, eh12, hf⟩ := bd hf
  refine g_putIF (M := mX0_init) dX0_init_23 flRX0_21 rfl rfl rfl eh12 ?_
  refine g_aload_n (M := mX0_init) dX0_init_26 rfl 0 rfl ?_
  refine g_iload_n (M := mX0_init) dX0_init_27 rfl 2 rfl ?_
  refine g_if_ge (M := mX0_init) (tgt := 35) dX0_init_28 rfl (fun q28 => ?_) (fun q28 => ?_)
  · replace hf := ift hf q28
    refine g_iload_n (M := mX0_init) dX0_init_35 rfl 2 rfl ?_
    exact g_sub (M := mX0_init) (L2 := [(0, vr (some a0))]) [0] rfl <| x_X0_init_36 G a0 (some a0) a2 h12 _ hf
  · replace hf := iff_ hf q28
    refine g_iconst (M := mX0_init) (v := 0) dX0_init_31 rfl ?_
    refine g_goto (M := mX0_init) (tgt := 36) dX0_init_32 rfl ?_
    exact g_sub (M := mX0_init) (L2 := [(0, vr (some a0))]) [0] rfl <| x_X0_init_36 G a0 (some a0) (0 : Int32) h12 _ hf
theorem c_X0_init (G : Gm) (a0 : Nat) (a1 : Int32) (a2 : Int32) (a3 : Int32) (a4 : Int32) (a5 : Int32) (h : AH) (o : AH) (hf : f_X0_init a0 a1 a2 a3 a4 a5 h = some o) : CT G yX0_init mX0_init none 2 28 [vr (some a0), vi a1, vi a2, vi a3, vi a4, vi a5] h none o :=
  CT.void (by decide +kernel) rfl rfl rfl (Nat.le_of_ble_eq_true rfl) (x_X0_init G a0 a1 a2 a3 a4 a5 h o hf)
theorem cbX0_init : CB yX0_init mX0_init none 5 := ⟨cd_yX0_init, itRX0, ⟨by decide, by decide⟩, by decide +kernel, by decide⟩
abbrev mX0_hasArticle : MI := (RX0, "hasArticle", cX0_hasArticle, 2, .ireturn, 0)
def f_X0_hasArticle (a0 : Nat) (a1 : Int32) (h : AH) : Option Bool :=
  if a1 < 0 then (
    some false
  ) else (
    (gR 0 4 h (some a0)).bind fun v1 =>
    (al h v1).bind fun v2 =>
    if v2 ≤ a1 then (
      some false
    ) else (
      some true
    )
  )
theorem x_X0_hasArticle (G : Gm) (a0 : Nat) (a1 : Int32) (h : AH) (o : Bool) (hf : f_X0_hasArticle a0 a1 h = some o) : GO G mX0_hasArticle 0 0 0 [(0, vr (some a0)), (1, vi a1)] [] h (some (vi (b2i o))) h := by
  unfold f_X0_hasArticle at hf
  refine g_iload_n (M := mX0_hasArticle) dX0_hasArticle_0 rfl 1 rfl ?_
  refine g_if_lt (M := mX0_hasArticle) (tgt := 17) dX0_hasArticle_1 rfl (fun q1 => ?_) (fun q1 => ?_)
  · replace hf := ift hf q1
    refine g_iconst (M := mX0_hasArticle) (v := 0) dX0_hasArticle_17 rfl ?_
    cases hf
    exact g_ret (M := mX0_hasArticle) dX0_hasArticle_18 rfl
  · replace hf := iff_ hf q1
    refine g_iload_n (M := mX0_hasArticle) dX0_hasArticle_4 rfl 1 rfl ?_
    refine g_aload_n (M := mX0_hasArticle) dX0_hasArticle_5 rfl 0 rfl ?_
    obtain ⟨v1, ev1, hf⟩ := bd hf
    refine g_getR (M := mX0_hasArticle) dX0_hasArticle_6 flRX0_24 (fun _ => rfl) ev1 ?_
    obtain ⟨v2, ev2, hf⟩ := bd hf
    refine g_alen (M := mX0_hasArticle) dX0_hasArticle_9 ev2 ?_
    refine g_ic_ge (M := mX0_hasArticle) (tgt := 17) dX0_hasArticle_10 rfl (fun q10 => ?_) (fun q10 => ?_)
    · replace hf := ift hf q10
      refine g_iconst (M := mX0_hasArticle) (v := 0) dX0_hasArticle_17 rfl ?_
      cases hf
      exact g_ret (M := mX0_hasArticle) dX0_hasArticle_18 rfl
    · replace hf := iff_ hf q10
      refine g_iconst (M := mX0_hasArticle) (v := 1) dX0_hasArticle_13 rfl ?_
      refine g_goto (M := mX0_hasArticle) (tgt := 18) dX0_hasArticle_14 rfl ?_
      cases hf
      exact g_ret (M := mX0_hasArticle) dX0_hasArticle_18 rfl
theorem c_X0_hasArticle (G : Gm) (a0 : Nat) (a1 : Int32) (h : AH) (o : Bool) (hf : f_X0_hasArticle a0 a1 h = some o) : CT G yX0_hasArticle mX0_hasArticle (some .boolean) 0 0 [vr (some a0), vi a1] h (some (vi (b2i o))) h :=
  CT.bool (by decide +kernel) rfl rfl rfl (Nat.le_of_ble_eq_true rfl) (b2i_01 _) (x_X0_hasArticle G a0 a1 h o hf)
theorem cbX0_hasArticle : CB yX0_hasArticle mX0_hasArticle (some .boolean) 1 := ⟨cd_yX0_hasArticle, itRX0, ⟨by decide, by decide⟩, by decide +kernel, by decide⟩
abbrev mX0_wordsOf : MI := (RX0, "wordsOf", cX0_wordsOf, 2, .ireturn, 0)
def f_X0_wordsOf (a0 : Nat) (a1 : Int32) (h : AH) : Option Int32 :=
  if a1 < 0 then (
    some (-1 : Int32)
  ) else (
    (gR 0 4 h (some a0)).bind fun v1 =>
    (al h v1).bind fun v2 =>
    if v2 ≤ a1 then (
      some (-1 : Int32)
    ) else (
      (gR 0 4 h (some a0)).bind fun v3 =>
      (lI 10 h v3 a1).bind fun v4 =>
      some v4
    )
  )
theorem x_X0_wordsOf (G : Gm) (a0 : Nat) (a1 : Int32) (h : AH) (o : Int32) (hf : f_X0_wordsOf a0 a1 h = some o) : GO G mX0_wordsOf 0 0 0 [(0, vr (some a0)), (1, vi a1)] [] h (some (vi o)) h := by
  unfold f_X0_wordsOf at hf
  refine g_iload_n (M := mX0_wordsOf) dX0_wordsOf_0 rfl 1 rfl ?_
  refine g_if_lt (M := mX0_wordsOf) (tgt := 22) dX0_wordsOf_1 rfl (fun q1 => ?_) (fun q1 => ?_)
  · replace hf := ift hf q1
    refine g_iconst (M := mX0_wordsOf) (v := -1) dX0_wordsOf_22 rfl ?_
    cases hf
    exact g_ret (M := mX0_wordsOf) dX0_wordsOf_23 rfl
  · replace hf := iff_ hf q1
    refine g_iload_n (M := mX0_wordsOf) dX0_wordsOf_4 rfl 1 rfl ?_
    refine g_aload_n (M := mX0_wordsOf) dX0_wordsOf_5 rfl 0 rfl ?_
    obtain ⟨v1, ev1, hf⟩ := bd hf
    refine g_getR (M := mX0_wordsOf) dX0_wordsOf_6 flRX0_24 (fun _ => rfl) ev1 ?_
    obtain ⟨v2, ev2, hf⟩ := bd hf
    refine g_alen (M := mX0_wordsOf) dX0_wordsOf_9 ev2 ?_
    refine g_ic_ge (M := mX0_wordsOf) (tgt := 22) dX0_wordsOf_10 rfl (fun q10 => ?_) (fun q10 => ?_)
    · replace hf := ift hf q10
      refine g_iconst (M := mX0_wordsOf) (v := -1) dX0_wordsOf_22 rfl ?_
      cases hf
      exact g_ret (M := mX0_wordsOf) dX0_wordsOf_23 rfl
    · replace hf := iff_ hf q10
      refine g_aload_n (M := mX0_wordsOf) dX0_wordsOf_13 rfl 0 rfl ?_
      obtain ⟨v3, ev3, hf⟩ := bd hf
      refine g_getR (M := mX0_wordsOf) dX0_wordsOf_14 flRX0_24 (fun _ => rfl) ev3 ?_
      refine g_iload_n (M := mX0_wordsOf) dX0_wordsOf_17 rfl 1 rfl ?_
      obtain ⟨v4, ev4, hf⟩ := bd hf
      refine g_iald (M := mX0_wordsOf) dX0_wordsOf_18 ev4 ?_
      refine g_goto (M := mX0_wordsOf) (tgt := 23) dX0_wordsOf_19 rfl ?_
      cases hf
      exact g_ret (M := mX0_wordsOf) dX0_wordsOf_23 rfl
theorem c_X0_wordsOf (G : Gm) (a0 : Nat) (a1 : Int32) (h : AH) (o : Int32) (hf : f_X0_wordsOf a0 a1 h = some o) : CT G yX0_wordsOf mX0_wordsOf (some .int) 0 0 [vr (some a0), vi a1] h (some (vi o)) h :=
  CT.int (by decide +kernel) rfl rfl rfl (Nat.le_of_ble_eq_true rfl) (x_X0_wordsOf G a0 a1 h o hf)
theorem cbX0_wordsOf : CB yX0_wordsOf mX0_wordsOf (some .int) 1 := ⟨cd_yX0_wordsOf, itRX0, ⟨by decide, by decide⟩, by decide +kernel, by decide⟩
abbrev mX0_reword : MI := (RX0, "reword", cX0_reword, 4, .ireturn, 0)
def f_X0_reword (a0 : Nat) (a1 : Int32) (a2 : Int32) (h : AH) : Option (Int32 × AH) :=
  if a1 < 0 then (
    some ((-1 : Int32), h)
  ) else (
    (gR 0 4 h (some a0)).bind fun v1 =>
    (al h v1).bind fun v2 =>
    if a1 < v2 then (
      (gR 0 4 h (some a0)).bind fun v3 =>
      (lI 10 h v3 a1).bind fun v4 =>
      (gR 0 4 h (some a0)).bind fun v5 =>
      (stI 10 h v5 a1 a2).bind fun h6 =>
      some (v4, h6)
    ) else (
      some ((-1 : Int32), h)
    )
  )
theorem x_X0_reword (G : Gm) (a0 : Nat) (a1 : Int32) (a2 : Int32) (h : AH) (o : (Int32 × AH)) (hf : f_X0_reword a0 a1 a2 h = some o) : GO G mX0_reword 0 0 0 [(0, vr (some a0)), (1, vi a1), (2, vi a2)] [] h (some (vi o.1)) o.2 := by
  unfold f_X0_reword at hf
  refine g_iload_n (M := mX0_reword) dX0_reword_0 rfl 1 rfl ?_
  refine g_if_lt (M := mX0_reword) (tgt := 13) dX0_reword_1 rfl (fun q1 => ?_) (fun q1 => ?_)
  · replace hf := ift hf q1
    refine g_iconst (M := mX0_reword) (v := -1) dX0_reword_13 rfl ?_
    cases hf
    exact g_ret (M := mX0_reword) dX0_reword_14 rfl
  · replace hf := iff_ hf q1
    refine g_iload_n (M := mX0_reword) dX0_reword_4 rfl 1 rfl ?_
    refine g_aload_n (M := mX0_reword) dX0_reword_5 rfl 0 rfl ?_
    obtain ⟨v1, ev1, hf⟩ := bd hf
    refine g_getR (M := mX0_reword) dX0_reword_6 flRX0_24 (fun _ => rfl) ev1 ?_
    obtain ⟨v2, ev2, hf⟩ := bd hf
    refine g_alen (M := mX0_reword) dX0_reword_9 ev2 ?_
    refine g_ic_lt (M := mX0_reword) (tgt := 15) dX0_reword_10 rfl (fun q10 => ?_) (fun q10 => ?_)
    · replace hf := ift hf q10
      refine g_aload_n (M := mX0_reword) dX0_reword_15 rfl 0 rfl ?_
      obtain ⟨v3, ev3, hf⟩ := bd hf
      refine g_getR (M := mX0_reword) dX0_reword_16 flRX0_24 (fun _ => rfl) ev3 ?_
      refine g_iload_n (M := mX0_reword) dX0_reword_19 rfl 1 rfl ?_
      obtain ⟨v4, ev4, hf⟩ := bd hf
      refine g_iald (M := mX0_reword) dX0_reword_20 ev4 ?_
      refine g_istore_n (M := mX0_reword) (L2 := [(3, vi v4), (0, vr (some a0)), (1, vi a1), (2, vi a2)]) dX0_reword_21 rfl (Nat.le_of_ble_eq_true rfl) rfl ?_
      refine g_aload_n (M := mX0_reword) dX0_reword_22 rfl 1 rfl ?_
      obtain ⟨v5, ev5, hf⟩ := bd hf
      refine g_getR (M := mX0_reword) dX0_reword_23 flRX0_24 (fun _ => rfl) ev5 ?_
      refine g_iload_n (M := mX0_reword) dX0_reword_26 rfl 2 rfl ?_
      refine g_iload_n (M := mX0_reword) dX0_reword_27 rfl 3 rfl ?_
      obtain ⟨h6, eh6, hf⟩ := bd hf
      refine g_iast (M := mX0_reword) dX0_reword_28 eh6 ?_
      refine g_iload_n (M := mX0_reword) dX0_reword_29 rfl 0 rfl ?_
      cases hf
      exact g_ret (M := mX0_reword) dX0_reword_30 rfl
    · replace hf := iff_ hf q10
      refine g_iconst (M := mX0_reword) (v := -1) dX0_reword_13 rfl ?_
      cases hf
      exact g_ret (M := mX0_reword) dX0_reword_14 rfl
theorem c_X0_reword (G : Gm) (a0 : Nat) (a1 : Int32) (a2 : Int32) (h : AH) (o : (Int32 × AH)) (hf : f_X0_reword a0 a1 a2 h = some o) : CT G yX0_reword mX0_reword (some .int) 0 0 [vr (some a0), vi a1, vi a2] h (some (vi o.1)) o.2 :=
  CT.int (by decide +kernel) rfl rfl rfl (Nat.le_of_ble_eq_true rfl) (x_X0_reword G a0 a1 a2 h o hf)
theorem cbX0_reword : CB yX0_reword mX0_reword (some .int) 2 := ⟨cd_yX0_reword, itRX0, ⟨by decide, by decide⟩, by decide +kernel, by decide⟩
abbrev mX0_annexAt : MI := (RX0, "annexAt", cX0_annexAt, 2, .areturn, 0)
def f_X0_annexAt (a0 : Nat) (a1 : Int32) (h : AH) : Option (Option Nat) :=
  if a1 < 0 then (
    some none
  ) else (
    (gI 0 6 h (some a0)).bind fun v1 =>
    if v1 ≤ a1 then (
      some none
    ) else (
      (gR 0 5 h (some a0)).bind fun v2 =>
      (al h v2).bind fun v3 =>
      if v3 ≤ a1 then (
        some none
      ) else (
        (gR 0 5 h (some a0)).bind fun v4 =>
        (lR 15 h v4 a1).bind fun v5 =>
        some v5
      )
    )
  )
theorem x_X0_annexAt (G : Gm) (a0 : Nat) (a1 : Int32) (h : AH) (o : (Option Nat)) (hf : f_X0_annexAt a0 a1 h = some o) : GO G mX0_annexAt 0 0 0 [(0, vr (some a0)), (1, vi a1)] [] h (some (vr o)) h := by
  unfold f_X0_annexAt at hf
  refine g_iload_n (M := mX0_annexAt) dX0_annexAt_0 rfl 1 rfl ?_
  refine g_if_lt (M := mX0_annexAt) (tgt := 30) dX0_annexAt_1 rfl (fun q1 => ?_) (fun q1 => ?_)
  · replace hf := ift hf q1
    refine g_null (M := mX0_annexAt) dX0_annexAt_30 ?_
    cases hf
    exact g_ret (M := mX0_annexAt) dX0_annexAt_31 rfl
  · replace hf := iff_ hf q1
    refine g_iload_n (M := mX0_annexAt) dX0_annexAt_4 rfl 1 rfl ?_
    refine g_aload_n (M := mX0_annexAt) dX0_annexAt_5 rfl 0 rfl ?_
    obtain ⟨v1, ev1, hf⟩ := bd hf
    refine g_getI (M := mX0_annexAt) dX0_annexAt_6 flRX0_34 (fun _ => rfl) ev1 ?_
    refine g_ic_ge (M := mX0_annexAt) (tgt := 30) dX0_annexAt_9 rfl (fun q9 => ?_) (fun q9 => ?_)
    · replace hf := ift hf q9
      refine g_null (M := mX0_annexAt) dX0_annexAt_30 ?_
      cases hf
      exact g_ret (M := mX0_annexAt) dX0_annexAt_31 rfl
    · replace hf := iff_ hf q9
      refine g_iload_n (M := mX0_annexAt) dX0_annexAt_12 rfl 1 rfl ?_
      refine g_aload_n (M := mX0_annexAt) dX0_annexAt_13 rfl 0 rfl ?_
      obtain ⟨v2, ev2, hf⟩ := bd hf
      refine g_getR (M := mX0_annexAt) dX0_annexAt_14 flRX0_30 (fun _ => rfl) ev2 ?_
      obtain ⟨v3, ev3, hf⟩ := bd hf
      refine g_alen (M := mX0_annexAt) dX0_annexAt_17 ev3 ?_
      refine g_ic_ge (M := mX0_annexAt) (tgt := 30) dX0_annexAt_18 rfl (fun q18 => ?_) (fun q18 => ?_)
      · replace hf := ift hf q18
        refine g_null (M := mX0_annexAt) dX0_annexAt_30 ?_
        cases hf
        exact g_ret (M := mX0_annexAt) dX0_annexAt_31 rfl
      · replace hf := iff_ hf q18
        refine g_aload_n (M := mX0_annexAt) dX0_annexAt_21 rfl 0 rfl ?_
        obtain ⟨v4, ev4, hf⟩ := bd hf
        refine g_getR (M := mX0_annexAt) dX0_annexAt_22 flRX0_30 (fun _ => rfl) ev4 ?_
        refine g_iload_n (M := mX0_annexAt) dX0_annexAt_25 rfl 1 rfl ?_
        obtain ⟨v5, ev5, hf⟩ := bd hf
        refine g_aald (M := mX0_annexAt) (t := 15) (j := 5) (cn := RX1) rfl (Nat.le_of_ble_eq_true rfl) (fun _ _ => rfl) dX0_annexAt_26 ev5 ?_
        refine g_goto (M := mX0_annexAt) (tgt := 31) dX0_annexAt_27 rfl ?_
        cases hf
        exact g_ret (M := mX0_annexAt) dX0_annexAt_31 rfl
theorem c_X0_annexAt (G : Gm) (a0 : Nat) (a1 : Int32) (h : AH) (o : (Option Nat)) (hf : f_X0_annexAt a0 a1 h = some o) : CT G yX0_annexAt mX0_annexAt (some (.object RX1)) 0 0 [vr (some a0), vi a1] h (some (vr o)) h :=
  CT.ref (by decide +kernel) rfl rfl rfl (Nat.le_of_ble_eq_true rfl) (x_X0_annexAt G a0 a1 h o hf)
theorem cbX0_annexAt : CB yX0_annexAt mX0_annexAt (some (.object RX1)) 1 := ⟨cd_yX0_annexAt, itRX0, ⟨by decide, by decide⟩, by decide +kernel, by decide⟩
abbrev mX0_addAnnex : MI := (RX0, "addAnnex", cX0_addAnnex, 2, .ireturn, 0)
def f_X0_addAnnex (a0 : Nat) (a1 : Option Nat) (h : AH) : Option (Int32 × AH) :=
  (gI 0 6 h (some a0)).bind fun v1 =>
  if v1 < 0 then (
    some ((-8 : Int32), h)
  ) else (
    (gI 0 6 h (some a0)).bind fun v2 =>
    (gR 0 5 h (some a0)).bind fun v3 =>
    (al h v3).bind fun v4 =>
    if v2 < v4 then (
      (gR 0 5 h (some a0)).bind fun v5 =>
      (gI 0 6 h (some a0)).bind fun v6 =>
      (stR 15 1 h v5 v6 a1).bind fun h7 =>
      (gI 0 6 h7 (some a0)).bind fun v8 =>
      (pI 0 6 h7 (some a0) (v8 + (1 : Int32))).bind fun h9 =>
      (gI 0 6 h9 (some a0)).bind fun v10 =>
      some (v10 - (1 : Int32), h9)
    ) else (
      some ((-8 : Int32), h)
    )
  )
theorem x_X0_addAnnex (G : Gm) (a0 : Nat) (a1 : Option Nat) (h : AH) (o : (Int32 × AH)) (hf : f_X0_addAnnex a0 a1 h = some o) : GO G mX0_addAnnex 0 0 0 [(0, vr (some a0)), (1, vr a1)] [] h (some (vi o.1)) o.2 := by
  unfold f_X0_addAnnex at hf
  refine g_aload_n (M := mX0_addAnnex) dX0_addAnnex_0 rfl 0 rfl ?_
  obtain ⟨v1, ev1, hf⟩ := bd hf
  refine g_getI (M := mX0_addAnnex) dX0_addAnnex_1 flRX0_34 (fun _ => rfl) ev1 ?_
  refine g_if_lt (M := mX0_addAnnex) (tgt := 19) dX0_addAnnex_4 rfl (fun q4 => ?_) (fun q4 => ?_)
  · replace hf := ift hf q4
    refine g_bipush (M := mX0_addAnnex) (v := -8) dX0_addAnnex_19 rfl ?_
    cases hf
    exact g_ret (M := mX0_addAnnex) dX0_addAnnex_21 rfl
  · replace hf := iff_ hf q4
    refine g_aload_n (M := mX0_addAnnex) dX0_addAnnex_7 rfl 0 rfl ?_
    obtain ⟨v2, ev2, hf⟩ := bd hf
    refine g_getI (M := mX0_addAnnex) dX0_addAnnex_8 flRX0_34 (fun _ => rfl) ev2 ?_
    refine g_aload_n (M := mX0_addAnnex) dX0_addAnnex_11 rfl 0 rfl ?_
    obtain ⟨v3, ev3, hf⟩ := bd hf
    refine g_getR (M := mX0_addAnnex) dX0_addAnnex_12 flRX0_30 (fun _ => rfl) ev3 ?_
    obtain ⟨v4, ev4, hf⟩ := bd hf
    refine g_alen (M := mX0_addAnnex) dX0_addAnnex_15 ev4 ?_
    refine g_ic_lt (M := mX0_addAnnex) (tgt := 22) dX0_addAnnex_16 rfl (fun q16 => ?_) (fun q16 => ?_)
    · replace hf := ift hf q16
      refine g_aload_n (M := mX0_addAnnex) dX0_addAnnex_22 rfl 0 rfl ?_
      obtain ⟨v5, ev5, hf⟩ := bd hf
      refine g_getR (M := mX0_addAnnex) dX0_addAnnex_23 flRX0_30 (fun _ => rfl) ev5 ?_
      refine g_aload_n (M := mX0_addAnnex) dX0_addAnnex_26 rfl 0 rfl ?_
      obtain ⟨v6, ev6, hf⟩ := bd hf
      refine g_getI (M := mX0_addAnnex) dX0_addAnnex_27 flRX0_34 (fun _ => rfl) ev6 ?_
      refine g_aload_n (M := mX0_addAnnex) dX0_addAnnex_30 rfl 1 rfl ?_
      obtain ⟨h7, eh7, hf⟩ := bd hf
      refine g_aast (M := mX0_addAnnex) (t := 15) (j := 5) (ci := 1) (cn := RX1) (T := TX1) (N := 2) rfl rfl (Nat.le_of_ble_eq_true rfl) (Nat.le_of_ble_eq_true rfl) (fun _ => rfl) dX0_addAnnex_31 eh7 ?_
      refine g_aload_n (M := mX0_addAnnex) dX0_addAnnex_32 rfl 0 rfl ?_
      refine g_dup (M := mX0_addAnnex) dX0_addAnnex_33 rfl ?_
      obtain ⟨v8, ev8, hf⟩ := bd hf
      refine g_getI (M := mX0_addAnnex) dX0_addAnnex_34 flRX0_34 (fun _ => rfl) ev8 ?_
      refine g_iconst (M := mX0_addAnnex) (v := 1) dX0_addAnnex_37 rfl ?_
      refine g_iadd (M := mX0_addAnnex) dX0_addAnnex_38 ?_
      obtain ⟨h9, eh9, hf⟩ := bd hf
      refine g_putI (M := mX0_addAnnex) dX0_addAnnex_39 flRX0_34 rfl eh9 ?_
      refine g_aload_n (M := mX0_addAnnex) dX0_addAnnex_42 rfl 0 rfl ?_
      obtain ⟨v10, ev10, hf⟩ := bd hf
      refine g_getI (M := mX0_addAnnex) dX0_addAnnex_43 flRX0_34 (fun _ => rfl) ev10 ?_
      refine g_iconst (M := mX0_addAnnex) (v := 1) dX0_addAnnex_46 rfl ?_
      refine g_isub (M := mX0_addAnnex) dX0_addAnnex_47 ?_
      cases hf
      exact g_ret (M := mX0_addAnnex) dX0_addAnnex_48 rfl
    · replace hf := iff_ hf q16
      refine g_bipush (M := mX0_addAnnex) (v := -8) dX0_addAnnex_19 rfl ?_
      cases hf
      exact g_ret (M := mX0_addAnnex) dX0_addAnnex_21 rfl
theorem c_X0_addAnnex (G : Gm) (a0 : Nat) (a1 : Option Nat) (h : AH) (o : (Int32 × AH)) (hf : f_X0_addAnnex a0 a1 h = some o) : CT G yX0_addAnnex mX0_addAnnex (some .int) 0 0 [vr (some a0), vr a1] h (some (vi o.1)) o.2 :=
  CT.int (by decide +kernel) rfl rfl rfl (Nat.le_of_ble_eq_true rfl) (x_X0_addAnnex G a0 a1 h o hf)
theorem cbX0_addAnnex : CB yX0_addAnnex mX0_addAnnex (some .int) 1 := ⟨cd_yX0_addAnnex, itRX0, ⟨by decide, by decide⟩, by decide +kernel, by decide⟩
abbrev mX0_detail : MI := (RX0, "detail", cX0_detail, 2, .ireturn, 0)
def f_X0_detail (a0 : Nat) (a1 : Int32) (h : AH) : Option Int32 :=
  if a1 = 0 then (
    (gR 0 4 h (some a0)).bind fun v1 =>
    (al h v1).bind fun v2 =>
    some v2
  ) else (
    if a1 = 1 then (
      (gI 0 1 h (some a0)).bind fun v3 =>
      some v3
    ) else (
      if a1 = 2 then (
        (gI 0 2 h (some a0)).bind fun v4 =>
        some v4
      ) else (
        if a1 = 3 then (
          (gI 0 3 h (some a0)).bind fun v5 =>
          some v5
        ) else (
          if a1 = 4 then (
            (gI 0 6 h (some a0)).bind fun v6 =>
            some v6
          ) else (
            some (-1 : Int32)
          )
        )
      )
    )
  )
theorem x_X0_detail (G : Gm) (a0 : Nat) (a1 : Int32) (h : AH) (o : Int32) (hf : f_X0_detail a0 a1 h = some o) : GO G mX0_detail 0 0 0 [(0, vr (some a0)), (1, vi a1)] [] h (some (vi o)) h := by
  unfold f_X0_detail at hf
  refine g_iload_n (M := mX0_detail) dX0_detail_0 rfl 1 rfl ?_
  by_cases q1_0 : a1 = 0
  · replace hf := ift hf q1_0
    refine g_sw_in (M := mX0_detail) (off := 35) (tgt := 36) dX0_detail_1 (by rw [q1_0]; decide) (by rw [q1_0]; decide) (by rw [q1_0]; rfl) (by decide) ?_
    refine g_aload_n (M := mX0_detail) dX0_detail_36 rfl 0 rfl ?_
    obtain ⟨v1, ev1, hf⟩ := bd hf
    refine g_getR (M := mX0_detail) dX0_detail_37 flRX0_24 (fun _ => rfl) ev1 ?_
    obtain ⟨v2, ev2, hf⟩ := bd hf
    refine g_alen (M := mX0_detail) dX0_detail_40 ev2 ?_
    cases hf
    exact g_ret (M := mX0_detail) dX0_detail_41 rfl
  · replace hf := iff_ hf q1_0
    by_cases q1_1 : a1 = 1
    · replace hf := ift hf q1_1
      refine g_sw_in (M := mX0_detail) (off := 41) (tgt := 42) dX0_detail_1 (by rw [q1_1]; decide) (by rw [q1_1]; decide) (by rw [q1_1]; rfl) (by decide) ?_
      refine g_aload_n (M := mX0_detail) dX0_detail_42 rfl 0 rfl ?_
      obtain ⟨v3, ev3, hf⟩ := bd hf
      refine g_getI (M := mX0_detail) dX0_detail_43 flRX0_15 (fun _ => rfl) ev3 ?_
      cases hf
      exact g_ret (M := mX0_detail) dX0_detail_46 rfl
    · replace hf := iff_ hf q1_1
      by_cases q1_2 : a1 = 2
      · replace hf := ift hf q1_2
        refine g_sw_in (M := mX0_detail) (off := 46) (tgt := 47) dX0_detail_1 (by rw [q1_2]; decide) (by rw [q1_2]; decide) (by rw [q1_2]; rfl) (by decide) ?_
        refine g_aload_n (M := mX0_detail) dX0_detail_47 rfl 0 rfl ?_
        obtain ⟨v4, ev4, hf⟩ := bd hf
        refine g_getI (M := mX0_detail) dX0_detail_48 flRX0_18 (fun _ => rfl) ev4 ?_
        cases hf
        exact g_ret (M := mX0_detail) dX0_detail_51 rfl
      · replace hf := iff_ hf q1_2
        by_cases q1_3 : a1 = 3
        · replace hf := ift hf q1_3
          refine g_sw_in (M := mX0_detail) (off := 51) (tgt := 52) dX0_detail_1 (by rw [q1_3]; decide) (by rw [q1_3]; decide) (by rw [q1_3]; rfl) (by decide) ?_
          refine g_aload_n (M := mX0_detail) dX0_detail_52 rfl 0 rfl ?_
          obtain ⟨v5, ev5, hf⟩ := bd hf
          refine g_getI (M := mX0_detail) dX0_detail_53 flRX0_21 (fun _ => rfl) ev5 ?_
          cases hf
          exact g_ret (M := mX0_detail) dX0_detail_56 rfl
        · replace hf := iff_ hf q1_3
          by_cases q1_4 : a1 = 4
          · replace hf := ift hf q1_4
            refine g_sw_in (M := mX0_detail) (off := 56) (tgt := 57) dX0_detail_1 (by rw [q1_4]; decide) (by rw [q1_4]; decide) (by rw [q1_4]; rfl) (by decide) ?_
            refine g_aload_n (M := mX0_detail) dX0_detail_57 rfl 0 rfl ?_
            obtain ⟨v6, ev6, hf⟩ := bd hf
            refine g_getI (M := mX0_detail) dX0_detail_58 flRX0_34 (fun _ => rfl) ev6 ?_
            cases hf
            exact g_ret (M := mX0_detail) dX0_detail_61 rfl
          · replace hf := iff_ hf q1_4
            refine g_sw_out (M := mX0_detail) (tgt := 62) dX0_detail_1 (sw_def 5 ⟨q1_0, q1_1, q1_2, q1_3, q1_4, trivial⟩) (by decide) ?_
            refine g_iconst (M := mX0_detail) (v := -1) dX0_detail_62 rfl ?_
            cases hf
            exact g_ret (M := mX0_detail) dX0_detail_63 rfl
theorem c_X0_detail (G : Gm) (a0 : Nat) (a1 : Int32) (h : AH) (o : Int32) (hf : f_X0_detail a0 a1 h = some o) : CT G yX0_detail mX0_detail (some .int) 0 0 [vr (some a0), vi a1] h (some (vi o)) h :=
  CT.int (by decide +kernel) rfl rfl rfl (Nat.le_of_ble_eq_true rfl) (x_X0_detail G a0 a1 h o hf)
theorem cbX0_detail : CB yX0_detail mX0_detail (some .int) 1 := ⟨cd_yX0_detail, itRX0, ⟨by decide, by decide⟩, by decide +kernel, by decide⟩
abbrev mX1_init : MI := (RX1, "<init>", cX1_init, 3, .return_, 1)
def f_X1_init_19 (s0 : Option Nat) (s1 : Int32) (h : AH) : Option AH :=
  (na 11 100 h s1).bind fun h1 =>
  (pR 1 1 h1 s0 (some (hz h))).bind fun h2 =>
  some h2
theorem x_X1_init_19 (G : Gm) (s0 : Option Nat) (s1 : Int32) (h : AH) (o : AH) (hf : f_X1_init_19 s0 s1 h = some o) : GO G mX1_init 1 100 19 [] [vi s1, vr s0] h none o := by
  unfold f_X1_init_19 at hf
  obtain ⟨h1, eh1, hf⟩ := bd hf
  refine g_newa (M := mX1_init) (kc := 0) (ks := 0) (t := 11) (j := 1) (ty := .long) rfl rfl (Nat.le_of_ble_eq_true rfl) (fun _ => rfl) rfl (fun _ _ z => z) dX1_init_19 ac_long (Nat.le_of_ble_eq_true rfl) (Nat.le_of_ble_eq_true rfl) eh1 ?_
  obtain ⟨h2, eh2, hf⟩ := bd hf
  refine g_putR (M := mX1_init) dX1_init_21 flRX1_15 (Or.inr ⟨_, rfl⟩) eh2 ?_
  cases hf
  exact g_ret (M := mX1_init) dX1_init_24 rfl
def f_X1_init (a0 : Nat) (a1 : Int32) (a2 : Int32) (h : AH) : Option AH :=
  (pI 1 0 h (some a0) a1).bind fun h3 =>
  if 0 ≤ a2 then (
    f_X1_init_19 (some a0) a2 h3
  ) else (
    f_X1_init_19 (some a0) (0 : Int32) h3
  )
theorem x_X1_init (G : Gm) (a0 : Nat) (a1 : Int32) (a2 : Int32) (h : AH) (o : AH) (hf : f_X1_init a0 a1 a2 h = some o) : GO G mX1_init 1 100 0 [(0, vr (some a0)), (1, vi a1), (2, vi a2)] [] h none o := by
  unfold f_X1_init at hf
  refine g_aload_n (M := mX1_init) dX1_init_0 rfl 0 rfl ?_
  refine g_obj (M := mX1_init) dX1_init_1 mlRX1_3 im_objectInit cd_objectInit (Nat.le_of_ble_eq_true rfl) (by decide) ?_
  refine g_aload_n (M := mX1_init) dX1_init_4 rfl 0 rfl ?_
  refine g_iload_n (M := mX1_init) dX1_init_5 rfl 1 rfl ?_
  obtain ⟨h3, eh3, hf⟩ := bd hf
  refine g_putIF (M := mX1_init) dX1_init_6 flRX1_9 rfl rfl rfl eh3 ?_
  refine g_aload_n (M := mX1_init) dX1_init_9 rfl 0 rfl ?_
  refine g_iload_n (M := mX1_init) dX1_init_10 rfl 2 rfl ?_
  refine g_if_ge (M := mX1_init) (tgt := 18) dX1_init_11 rfl (fun q11 => ?_) (fun q11 => ?_)
  · replace hf := ift hf q11
    refine g_iload_n (M := mX1_init) dX1_init_18 rfl 2 rfl ?_
    exact g_sub (M := mX1_init) (L2 := []) [] rfl <| x_X1_init_19 G (some a0) a2 h3 _ hf
  · replace hf := iff_ hf q11
    refine g_iconst (M := mX1_init) (v := 0) dX1_init_14 rfl ?_
    refine g_goto (M := mX1_init) (tgt := 19) dX1_init_15 rfl ?_
    exact g_sub (M := mX1_init) (L2 := []) [] rfl <| x_X1_init_19 G (some a0) (0 : Int32) h3 _ hf
theorem c_X1_init (G : Gm) (a0 : Nat) (a1 : Int32) (a2 : Int32) (h : AH) (o : AH) (hf : f_X1_init a0 a1 a2 h = some o) : CT G yX1_init mX1_init none 1 100 [vr (some a0), vi a1, vi a2] h none o :=
  CT.void (by decide +kernel) rfl rfl rfl (Nat.le_of_ble_eq_true rfl) (x_X1_init G a0 a1 a2 h o hf)
theorem cbX1_init : CB yX1_init mX1_init none 2 := ⟨cd_yX1_init, itRX1, ⟨by decide, by decide⟩, by decide +kernel, by decide⟩
abbrev mX1_cut : MI := (RX1, "cut", cX1_cut, 3, .lreturn, 0)
def f_X1_cut (a0 : Nat) (a1 : Int64) (h : AH) : Option Int64 :=
  (gI 1 0 h (some a0)).bind fun v1 =>
  if v1 = 0 then (
    some a1.toInt32.toInt8.toInt32.toInt64
  ) else (
    if v1 = 1 then (
      some a1.toInt32.toInt16.toInt32.toInt64
    ) else (
      if v1 = 2 then (
        some a1.toInt32.toInt64
      ) else (
        some a1
      )
    )
  )
theorem x_X1_cut (G : Gm) (a0 : Nat) (a1 : Int64) (h : AH) (o : Int64) (hf : f_X1_cut a0 a1 h = some o) : GO G mX1_cut 0 0 0 [(0, vr (some a0)), (1, vl a1)] [] h (some (vl o)) h := by
  unfold f_X1_cut at hf
  refine g_aload_n (M := mX1_cut) dX1_cut_0 rfl 0 rfl ?_
  obtain ⟨v1, ev1, hf⟩ := bd hf
  refine g_getI (M := mX1_cut) dX1_cut_1 flRX1_9 (fun _ => rfl) ev1 ?_
  by_cases q4_0 : v1 = 0
  · replace hf := ift hf q4_0
    refine g_sw_in (M := mX1_cut) (off := 28) (tgt := 32) dX1_cut_4 (by rw [q4_0]; decide) (by rw [q4_0]; decide) (by rw [q4_0]; rfl) (by decide) ?_
    refine g_lload_n (M := mX1_cut) dX1_cut_32 rfl 1 rfl ?_
    refine g_l2i (M := mX1_cut) dX1_cut_33 ?_
    refine g_i2b (M := mX1_cut) dX1_cut_34 ?_
    refine g_i2l (M := mX1_cut) dX1_cut_35 ?_
    cases hf
    exact g_ret (M := mX1_cut) dX1_cut_36 rfl
  · replace hf := iff_ hf q4_0
    by_cases q4_1 : v1 = 1
    · replace hf := ift hf q4_1
      refine g_sw_in (M := mX1_cut) (off := 33) (tgt := 37) dX1_cut_4 (by rw [q4_1]; decide) (by rw [q4_1]; decide) (by rw [q4_1]; rfl) (by decide) ?_
      refine g_lload_n (M := mX1_cut) dX1_cut_37 rfl 1 rfl ?_
      refine g_l2i (M := mX1_cut) dX1_cut_38 ?_
      refine g_i2s (M := mX1_cut) dX1_cut_39 ?_
      refine g_i2l (M := mX1_cut) dX1_cut_40 ?_
      cases hf
      exact g_ret (M := mX1_cut) dX1_cut_41 rfl
    · replace hf := iff_ hf q4_1
      by_cases q4_2 : v1 = 2
      · replace hf := ift hf q4_2
        refine g_sw_in (M := mX1_cut) (off := 38) (tgt := 42) dX1_cut_4 (by rw [q4_2]; decide) (by rw [q4_2]; decide) (by rw [q4_2]; rfl) (by decide) ?_
        refine g_lload_n (M := mX1_cut) dX1_cut_42 rfl 1 rfl ?_
        refine g_l2i (M := mX1_cut) dX1_cut_43 ?_
        refine g_i2l (M := mX1_cut) dX1_cut_44 ?_
        cases hf
        exact g_ret (M := mX1_cut) dX1_cut_45 rfl
      · replace hf := iff_ hf q4_2
        refine g_sw_out (M := mX1_cut) (tgt := 46) dX1_cut_4 (sw_def 3 ⟨q4_0, q4_1, q4_2, trivial⟩) (by decide) ?_
        refine g_lload_n (M := mX1_cut) dX1_cut_46 rfl 1 rfl ?_
        cases hf
        exact g_ret (M := mX1_cut) dX1_cut_47 rfl
theorem c_X1_cut (G : Gm) (a0 : Nat) (a1 : Int64) (h : AH) (o : Int64) (hf : f_X1_cut a0 a1 h = some o) : CT G yX1_cut mX1_cut (some .long) 0 0 [vr (some a0), vl a1] h (some (vl o)) h :=
  CT.long (by decide +kernel) rfl rfl rfl (Nat.le_of_ble_eq_true rfl) (x_X1_cut G a0 a1 h o hf)
theorem cbX1_cut : CB yX1_cut mX1_cut (some .long) 1 := ⟨cd_yX1_cut, itRX1, ⟨by decide, by decide⟩, by decide +kernel, by decide⟩
abbrev mX1_put : MI := (RX1, "put", cX1_put, 4, .ireturn, 1)
def f_X1_put (a0 : Nat) (a1 : Int32) (a2 : Int64) (h : AH) : Option (Int32 × AH) :=
  (gR 1 1 h (some a0)).bind fun v1 =>
  if v1 = none then (
    some ((-5 : Int32), h)
  ) else (
    if a1 < 0 then (
      some ((-6 : Int32), h)
    ) else (
      (gR 1 1 h (some a0)).bind fun v2 =>
      (al h v2).bind fun v3 =>
      if a1 < v3 then (
        (gR 1 1 h (some a0)).bind fun v4 =>
        (ck 1 h (some a0)).bind fun b5 =>
        (f_X1_cut b5 a2 h).bind fun r6 =>
        (stJ 11 h v4 a1 r6).bind fun h7 =>
        some ((0 : Int32), h7)
      ) else (
        some ((-6 : Int32), h)
      )
    )
  )
theorem x_X1_put (G : Gm) (a0 : Nat) (a1 : Int32) (a2 : Int64) (h : AH) (o : (Int32 × AH)) (hf : f_X1_put a0 a1 a2 h = some o) : GO G mX1_put 0 0 0 [(0, vr (some a0)), (1, vi a1), (2, vl a2)] [] h (some (vi o.1)) o.2 := by
  unfold f_X1_put at hf
  refine g_aload_n (M := mX1_put) dX1_put_0 rfl 0 rfl ?_
  obtain ⟨v1, ev1, hf⟩ := bd hf
  refine g_getR (M := mX1_put) dX1_put_1 flRX1_15 (fun _ => rfl) ev1 ?_
  refine g_ifnonnull (M := mX1_put) (tgt := 10) dX1_put_4 rfl (fun q4 => ?_) (fun q4 => ?_)
  · replace hf := iff_ hf q4
    refine g_iload_n (M := mX1_put) dX1_put_10 rfl 1 rfl ?_
    refine g_if_lt (M := mX1_put) (tgt := 23) dX1_put_11 rfl (fun q11 => ?_) (fun q11 => ?_)
    · replace hf := ift hf q11
      refine g_bipush (M := mX1_put) (v := -6) dX1_put_23 rfl ?_
      cases hf
      exact g_ret (M := mX1_put) dX1_put_25 rfl
    · replace hf := iff_ hf q11
      refine g_iload_n (M := mX1_put) dX1_put_14 rfl 1 rfl ?_
      refine g_aload_n (M := mX1_put) dX1_put_15 rfl 0 rfl ?_
      obtain ⟨v2, ev2, hf⟩ := bd hf
      refine g_getR (M := mX1_put) dX1_put_16 flRX1_15 (fun _ => rfl) ev2 ?_
      obtain ⟨v3, ev3, hf⟩ := bd hf
      refine g_alen (M := mX1_put) dX1_put_19 ev3 ?_
      refine g_ic_lt (M := mX1_put) (tgt := 26) dX1_put_20 rfl (fun q20 => ?_) (fun q20 => ?_)
      · replace hf := ift hf q20
        refine g_aload_n (M := mX1_put) dX1_put_26 rfl 0 rfl ?_
        obtain ⟨v4, ev4, hf⟩ := bd hf
        refine g_getR (M := mX1_put) dX1_put_27 flRX1_15 (fun _ => rfl) ev4 ?_
        refine g_iload_n (M := mX1_put) dX1_put_30 rfl 1 rfl ?_
        refine g_aload_n (M := mX1_put) dX1_put_31 rfl 0 rfl ?_
        refine g_lload_n (M := mX1_put) dX1_put_32 rfl 2 rfl ?_
        obtain ⟨b5, eb5, hf⟩ := bd hf
        obtain ⟨r6, er6, hf⟩ := bd hf
        refine g_callV (M := mX1_put) (kc := 0) (ks := 0) (as := [vl a2]) (rest := [vi a1, vr v4]) dX1_put_33 cbX1_cut vwRX1_19 rfl eb5 rfl (Nat.le_of_ble_eq_true rfl) (Nat.le_of_ble_eq_true rfl) (c_X1_cut G b5 a2 h r6 er6) ?_
        obtain ⟨h7, eh7, hf⟩ := bd hf
        refine g_last (M := mX1_put) dX1_put_36 eh7 ?_
        refine g_iconst (M := mX1_put) (v := 0) dX1_put_37 rfl ?_
        cases hf
        exact g_ret (M := mX1_put) dX1_put_38 rfl
      · replace hf := iff_ hf q20
        refine g_bipush (M := mX1_put) (v := -6) dX1_put_23 rfl ?_
        cases hf
        exact g_ret (M := mX1_put) dX1_put_25 rfl
  · replace hf := ift hf q4
    refine g_bipush (M := mX1_put) (v := -5) dX1_put_7 rfl ?_
    cases hf
    exact g_ret (M := mX1_put) dX1_put_9 rfl
theorem c_X1_put (G : Gm) (a0 : Nat) (a1 : Int32) (a2 : Int64) (h : AH) (o : (Int32 × AH)) (hf : f_X1_put a0 a1 a2 h = some o) : CT G yX1_put mX1_put (some .int) 0 0 [vr (some a0), vi a1, vl a2] h (some (vi o.1)) o.2 :=
  CT.int (by decide +kernel) rfl rfl rfl (Nat.le_of_ble_eq_true rfl) (x_X1_put G a0 a1 a2 h o hf)
theorem cbX1_put : CB yX1_put mX1_put (some .int) 2 := ⟨cd_yX1_put, itRX1, ⟨by decide, by decide⟩, by decide +kernel, by decide⟩
abbrev mX1_get : MI := (RX1, "get", cX1_get, 2, .lreturn, 0)
def f_X1_get_29  (h : AH) : Option Int64 :=
  some (0 : Int64)
theorem x_X1_get_29 (G : Gm)  (h : AH) (o : Int64) (hf : f_X1_get_29  h = some o) : GO G mX1_get 0 0 29 [] [] h (some (vl o)) h := by
  unfold f_X1_get_29 at hf
  refine g_lconst (M := mX1_get) (v := 0) dX1_get_29 (by decide) ?_
  cases hf
  exact g_ret (M := mX1_get) dX1_get_30 rfl
def f_X1_get (a0 : Nat) (a1 : Int32) (h : AH) : Option Int64 :=
  (gR 1 1 h (some a0)).bind fun v1 =>
  if v1 = none then (
    f_X1_get_29 h
  ) else (
    if a1 < 0 then (
      f_X1_get_29 h
    ) else (
      (gR 1 1 h (some a0)).bind fun v2 =>
      (al h v2).bind fun v3 =>
      if v3 ≤ a1 then (
        f_X1_get_29 h
      ) else (
        (gR 1 1 h (some a0)).bind fun v4 =>
        (lJ 11 h v4 a1).bind fun v5 =>
        some v5
      )
    )
  )
theorem x_X1_get (G : Gm) (a0 : Nat) (a1 : Int32) (h : AH) (o : Int64) (hf : f_X1_get a0 a1 h = some o) : GO G mX1_get 0 0 0 [(0, vr (some a0)), (1, vi a1)] [] h (some (vl o)) h := by
  unfold f_X1_get at hf
  refine g_aload_n (M := mX1_get) dX1_get_0 rfl 0 rfl ?_
  obtain ⟨v1, ev1, hf⟩ := bd hf
  refine g_getR (M := mX1_get) dX1_get_1 flRX1_15 (fun _ => rfl) ev1 ?_
  refine g_ifnull (M := mX1_get) (tgt := 29) dX1_get_4 rfl (fun q4 => ?_) (fun q4 => ?_)
  · replace hf := ift hf q4
    exact g_sub (M := mX1_get) (L2 := []) [] rfl <| x_X1_get_29 G h _ hf
  · replace hf := iff_ hf q4
    refine g_iload_n (M := mX1_get) dX1_get_7 rfl 1 rfl ?_
    refine g_if_lt (M := mX1_get) (tgt := 29) dX1_get_8 rfl (fun q8 => ?_) (fun q8 => ?_)
    · replace hf := ift hf q8
      exact g_sub (M := mX1_get) (L2 := []) [] rfl <| x_X1_get_29 G h _ hf
    · replace hf := iff_ hf q8
      refine g_iload_n (M := mX1_get) dX1_get_11 rfl 1 rfl ?_
      refine g_aload_n (M := mX1_get) dX1_get_12 rfl 0 rfl ?_
      obtain ⟨v2, ev2, hf⟩ := bd hf
      refine g_getR (M := mX1_get) dX1_get_13 flRX1_15 (fun _ => rfl) ev2 ?_
      obtain ⟨v3, ev3, hf⟩ := bd hf
      refine g_alen (M := mX1_get) dX1_get_16 ev3 ?_
      refine g_ic_ge (M := mX1_get) (tgt := 29) dX1_get_17 rfl (fun q17 => ?_) (fun q17 => ?_)
      · replace hf := ift hf q17
        exact g_sub (M := mX1_get) (L2 := []) [] rfl <| x_X1_get_29 G h _ hf
      · replace hf := iff_ hf q17
        refine g_aload_n (M := mX1_get) dX1_get_20 rfl 0 rfl ?_
        obtain ⟨v4, ev4, hf⟩ := bd hf
        refine g_getR (M := mX1_get) dX1_get_21 flRX1_15 (fun _ => rfl) ev4 ?_
        refine g_iload_n (M := mX1_get) dX1_get_24 rfl 1 rfl ?_
        obtain ⟨v5, ev5, hf⟩ := bd hf
        refine g_lald (M := mX1_get) dX1_get_25 ev5 ?_
        refine g_goto (M := mX1_get) (tgt := 30) dX1_get_26 rfl ?_
        cases hf
        exact g_ret (M := mX1_get) dX1_get_30 rfl
theorem c_X1_get (G : Gm) (a0 : Nat) (a1 : Int32) (h : AH) (o : Int64) (hf : f_X1_get a0 a1 h = some o) : CT G yX1_get mX1_get (some .long) 0 0 [vr (some a0), vi a1] h (some (vl o)) h :=
  CT.long (by decide +kernel) rfl rfl rfl (Nat.le_of_ble_eq_true rfl) (x_X1_get G a0 a1 h o hf)
theorem cbX1_get : CB yX1_get mX1_get (some .long) 1 := ⟨cd_yX1_get, itRX1, ⟨by decide, by decide⟩, by decide +kernel, by decide⟩
abbrev mX1_hasRange : MI := (RX1, "hasRange", cX1_hasRange, 3, .ireturn, 0)
def f_X1_hasRange (a0 : Nat) (a1 : Int32) (a2 : Int32) (h : AH) : Option Bool :=
  (gR 1 1 h (some a0)).bind fun v1 =>
  if v1 = none then (
    some false
  ) else (
    if a1 < 0 then (
      some false
    ) else (
      if a2 < 0 then (
        some false
      ) else (
        (gR 1 1 h (some a0)).bind fun v2 =>
        (al h v2).bind fun v3 =>
        if v3 < a1 then (
          some false
        ) else (
          (gR 1 1 h (some a0)).bind fun v4 =>
          (al h v4).bind fun v5 =>
          if (v5 - a1) < a2 then (
            some false
          ) else (
            some true
          )
        )
      )
    )
  )
theorem x_X1_hasRange (G : Gm) (a0 : Nat) (a1 : Int32) (a2 : Int32) (h : AH) (o : Bool) (hf : f_X1_hasRange a0 a1 a2 h = some o) : GO G mX1_hasRange 0 0 0 [(0, vr (some a0)), (1, vi a1), (2, vi a2)] [] h (some (vi (b2i o))) h := by
  unfold f_X1_hasRange at hf
  refine g_aload_n (M := mX1_hasRange) dX1_hasRange_0 rfl 0 rfl ?_
  obtain ⟨v1, ev1, hf⟩ := bd hf
  refine g_getR (M := mX1_hasRange) dX1_hasRange_1 flRX1_15 (fun _ => rfl) ev1 ?_
  refine g_ifnull (M := mX1_hasRange) (tgt := 39) dX1_hasRange_4 rfl (fun q4 => ?_) (fun q4 => ?_)
  · replace hf := ift hf q4
    refine g_iconst (M := mX1_hasRange) (v := 0) dX1_hasRange_39 rfl ?_
    cases hf
    exact g_ret (M := mX1_hasRange) dX1_hasRange_40 rfl
  · replace hf := iff_ hf q4
    refine g_iload_n (M := mX1_hasRange) dX1_hasRange_7 rfl 1 rfl ?_
    refine g_if_lt (M := mX1_hasRange) (tgt := 39) dX1_hasRange_8 rfl (fun q8 => ?_) (fun q8 => ?_)
    · replace hf := ift hf q8
      refine g_iconst (M := mX1_hasRange) (v := 0) dX1_hasRange_39 rfl ?_
      cases hf
      exact g_ret (M := mX1_hasRange) dX1_hasRange_40 rfl
    · replace hf := iff_ hf q8
      refine g_iload_n (M := mX1_hasRange) dX1_hasRange_11 rfl 2 rfl ?_
      refine g_if_lt (M := mX1_hasRange) (tgt := 39) dX1_hasRange_12 rfl (fun q12 => ?_) (fun q12 => ?_)
      · replace hf := ift hf q12
        refine g_iconst (M := mX1_hasRange) (v := 0) dX1_hasRange_39 rfl ?_
        cases hf
        exact g_ret (M := mX1_hasRange) dX1_hasRange_40 rfl
      · replace hf := iff_ hf q12
        refine g_iload_n (M := mX1_hasRange) dX1_hasRange_15 rfl 1 rfl ?_
        refine g_aload_n (M := mX1_hasRange) dX1_hasRange_16 rfl 0 rfl ?_
        obtain ⟨v2, ev2, hf⟩ := bd hf
        refine g_getR (M := mX1_hasRange) dX1_hasRange_17 flRX1_15 (fun _ => rfl) ev2 ?_
        obtain ⟨v3, ev3, hf⟩ := bd hf
        refine g_alen (M := mX1_hasRange) dX1_hasRange_20 ev3 ?_
        refine g_ic_gt (M := mX1_hasRange) (tgt := 39) dX1_hasRange_21 rfl (fun q21 => ?_) (fun q21 => ?_)
        · replace hf := ift hf q21
          refine g_iconst (M := mX1_hasRange) (v := 0) dX1_hasRange_39 rfl ?_
          cases hf
          exact g_ret (M := mX1_hasRange) dX1_hasRange_40 rfl
        · replace hf := iff_ hf q21
          refine g_iload_n (M := mX1_hasRange) dX1_hasRange_24 rfl 2 rfl ?_
          refine g_aload_n (M := mX1_hasRange) dX1_hasRange_25 rfl 0 rfl ?_
          obtain ⟨v4, ev4, hf⟩ := bd hf
          refine g_getR (M := mX1_hasRange) dX1_hasRange_26 flRX1_15 (fun _ => rfl) ev4 ?_
          obtain ⟨v5, ev5, hf⟩ := bd hf
          refine g_alen (M := mX1_hasRange) dX1_hasRange_29 ev5 ?_
          refine g_iload_n (M := mX1_hasRange) dX1_hasRange_30 rfl 1 rfl ?_
          refine g_isub (M := mX1_hasRange) dX1_hasRange_31 ?_
          refine g_ic_gt (M := mX1_hasRange) (tgt := 39) dX1_hasRange_32 rfl (fun q32 => ?_) (fun q32 => ?_)
          · replace hf := ift hf q32
            refine g_iconst (M := mX1_hasRange) (v := 0) dX1_hasRange_39 rfl ?_
            cases hf
            exact g_ret (M := mX1_hasRange) dX1_hasRange_40 rfl
          · replace hf := iff_ hf q32
            refine g_iconst (M := mX1_hasRange) (v := 1) dX1_hasRange_35 rfl ?_
            refine g_goto (M := mX1_hasRange) (tgt := 40) dX1_hasRange_36 rfl ?_
            cases hf
            exact g_ret (M := mX1_hasRange) dX1_hasRange_40 rfl
theorem c_X1_hasRange (G : Gm) (a0 : Nat) (a1 : Int32) (a2 : Int32) (h : AH) (o : Bool) (hf : f_X1_hasRange a0 a1 a2 h = some o) : CT G yX1_hasRange mX1_hasRange (some .boolean) 0 0 [vr (some a0), vi a1, vi a2] h (some (vi (b2i o))) h :=
  CT.bool (by decide +kernel) rfl rfl rfl (Nat.le_of_ble_eq_true rfl) (b2i_01 _) (x_X1_hasRange G a0 a1 a2 h o hf)
theorem cbX1_hasRange : CB yX1_hasRange mX1_hasRange (some .boolean) 2 := ⟨cd_yX1_hasRange, itRX1, ⟨by decide, by decide⟩, by decide +kernel, by decide⟩
abbrev mX5_init : MI := (RX5, "<init>", cX5_init, 1, .return_, 1)
def f_X5_init (a0 : Nat) (h : AH) : Option AH :=
  (na 13 30 h (30 : Int32)).bind fun h1 =>
  (pR 5 0 h1 (some a0) (some (hz h))).bind fun h2 =>
  some h2
theorem x_X5_init (G : Gm) (a0 : Nat) (h : AH) (o : AH) (hf : f_X5_init a0 h = some o) : GO G mX5_init 1 30 0 [(0, vr (some a0))] [] h none o := by
  unfold f_X5_init at hf
  refine g_aload_n (M := mX5_init) dX5_init_0 rfl 0 rfl ?_
  refine g_obj (M := mX5_init) dX5_init_1 mlRX5_3 im_objectInit cd_objectInit (Nat.le_of_ble_eq_true rfl) (by decide) ?_
  refine g_aload_n (M := mX5_init) dX5_init_4 rfl 0 rfl ?_
  refine g_bipush (M := mX5_init) (v := 30) dX5_init_5 rfl ?_
  obtain ⟨h1, eh1, hf⟩ := bd hf
  refine g_anew (M := mX5_init) (kc := 0) (ks := 0) (t := 13) (j := 3) (cn := RX3) rfl (Nat.le_of_ble_eq_true rfl) (fun _ => rfl) (fun _ z => z.2.2.2.1) dX5_init_7 clRX5_9 (Nat.le_of_ble_eq_true rfl) eh1 ?_
  obtain ⟨h2, eh2, hf⟩ := bd hf
  refine g_putRF (M := mX5_init) dX5_init_10 flRX5_11 rfl rfl (Or.inr ⟨_, rfl⟩) eh2 ?_
  cases hf
  exact g_ret (M := mX5_init) dX5_init_13 rfl
theorem c_X5_init (G : Gm) (a0 : Nat) (h : AH) (o : AH) (hf : f_X5_init a0 h = some o) : CT G yX5_init mX5_init none 1 30 [vr (some a0)] h none o :=
  CT.void (by decide +kernel) rfl rfl rfl (Nat.le_of_ble_eq_true rfl) (x_X5_init G a0 h o hf)
theorem cbX5_init : CB yX5_init mX5_init none 0 := ⟨cd_yX5_init, itRX5, ⟨by decide, by decide⟩, by decide +kernel, by decide⟩
abbrev mX6_init : MI := (RX6, "<init>", cX6_init, 1, .return_, 1)
def f_X6_init (a0 : Nat) (h : AH) : Option AH :=
  (na 12 400 h (400 : Int32)).bind fun h1 =>
  (pR 6 0 h1 (some a0) (some (hz h))).bind fun h2 =>
  some h2
theorem x_X6_init (G : Gm) (a0 : Nat) (h : AH) (o : AH) (hf : f_X6_init a0 h = some o) : GO G mX6_init 1 400 0 [(0, vr (some a0))] [] h none o := by
  unfold f_X6_init at hf
  refine g_aload_n (M := mX6_init) dX6_init_0 rfl 0 rfl ?_
  refine g_obj (M := mX6_init) dX6_init_1 mlRX6_3 im_objectInit cd_objectInit (Nat.le_of_ble_eq_true rfl) (by decide) ?_
  refine g_aload_n (M := mX6_init) dX6_init_4 rfl 0 rfl ?_
  refine g_sipush (M := mX6_init) (v := 400) dX6_init_5 rfl ?_
  obtain ⟨h1, eh1, hf⟩ := bd hf
  refine g_newa (M := mX6_init) (kc := 0) (ks := 0) (t := 12) (j := 2) (ty := .boolean) rfl rfl (Nat.le_of_ble_eq_true rfl) (fun _ => rfl) rfl (fun _ _ z => z) dX6_init_8 ac_boolean (Nat.le_of_ble_eq_true rfl) (Nat.le_of_ble_eq_true rfl) eh1 ?_
  obtain ⟨h2, eh2, hf⟩ := bd hf
  refine g_putRF (M := mX6_init) dX6_init_10 flRX6_9 rfl rfl (Or.inr ⟨_, rfl⟩) eh2 ?_
  cases hf
  exact g_ret (M := mX6_init) dX6_init_13 rfl
theorem c_X6_init (G : Gm) (a0 : Nat) (h : AH) (o : AH) (hf : f_X6_init a0 h = some o) : CT G yX6_init mX6_init none 1 400 [vr (some a0)] h none o :=
  CT.void (by decide +kernel) rfl rfl rfl (Nat.le_of_ble_eq_true rfl) (x_X6_init G a0 h o hf)
theorem cbX6_init : CB yX6_init mX6_init none 0 := ⟨cd_yX6_init, itRX6, ⟨by decide, by decide⟩, by decide +kernel, by decide⟩
abbrev mX2_init : MI := (RX2, "<init>", cX2_init, 1, .return_, 2)
def f_X2_init (a0 : Nat) (h : AH) : Option AH :=
  (f_X5_init (hz h) (nw h 5 0)).bind fun r1 =>
  (pR 2 0 r1 (some a0) (some (hz h))).bind fun h2 =>
  (f_X6_init (hz h2) (nw h2 6 0)).bind fun r3 =>
  (pR 2 1 r3 (some a0) (some (hz h2))).bind fun h4 =>
  (f_X6_init (hz h4) (nw h4 6 0)).bind fun r5 =>
  (pR 2 2 r5 (some a0) (some (hz h4))).bind fun h6 =>
  (na 12 400 h6 (400 : Int32)).bind fun h7 =>
  (pR 2 3 h7 (some a0) (some (hz h6))).bind fun h8 =>
  some h8
theorem x_X2_init (G : Gm) (a0 : Nat) (h : AH) (o : AH) (hf : f_X2_init a0 h = some o) : GO G mX2_init 7 1236 0 [(0, vr (some a0))] [] h none o := by
  unfold f_X2_init at hf
  refine g_aload_n (M := mX2_init) dX2_init_0 rfl 0 rfl ?_
  refine g_obj (M := mX2_init) dX2_init_1 mlRX2_3 im_objectInit cd_objectInit (Nat.le_of_ble_eq_true rfl) (by decide) ?_
  refine g_aload_n (M := mX2_init) dX2_init_4 rfl 0 rfl ?_
  refine g_new (M := mX2_init) (kc := 6) (ks := 1234) dX2_init_5 ck5 clRX2_9 inRX5 itRX5 (by decide) ?_
  refine g_dup (M := mX2_init) dX2_init_8 rfl ?_
  obtain ⟨r1, er1, hf⟩ := bd hf
  refine g_callI (M := mX2_init) (kc := 5) (ks := 1204) (as := []) (rest := [vr (some (hz h)), vr (some a0)]) (b := (hz h)) dX2_init_9 cbX5_init mlRX2_11 im_yX5_init rfl rfl rfl (Nat.le_of_ble_eq_true rfl) (Nat.le_of_ble_eq_true rfl) (c_X5_init G (hz h) (nw h 5 0) r1 er1) ?_
  obtain ⟨h2, eh2, hf⟩ := bd hf
  refine g_putRF (M := mX2_init) dX2_init_12 flRX2_12 rfl rfl (Or.inl ⟨_, rfl⟩) eh2 ?_
  refine g_aload_n (M := mX2_init) dX2_init_15 rfl 0 rfl ?_
  refine g_new (M := mX2_init) (kc := 4) (ks := 1202) dX2_init_16 ck6 clRX2_18 inRX6 itRX6 (by decide) ?_
  refine g_dup (M := mX2_init) dX2_init_19 rfl ?_
  obtain ⟨r3, er3, hf⟩ := bd hf
  refine g_callI (M := mX2_init) (kc := 3) (ks := 802) (as := []) (rest := [vr (some (hz h2)), vr (some a0)]) (b := (hz h2)) dX2_init_20 cbX6_init mlRX2_20 im_yX6_init rfl rfl rfl (Nat.le_of_ble_eq_true rfl) (Nat.le_of_ble_eq_true rfl) (c_X6_init G (hz h2) (nw h2 6 0) r3 er3) ?_
  obtain ⟨h4, eh4, hf⟩ := bd hf
  refine g_putRF (M := mX2_init) dX2_init_23 flRX2_21 rfl rfl (Or.inl ⟨_, rfl⟩) eh4 ?_
  refine g_aload_n (M := mX2_init) dX2_init_26 rfl 0 rfl ?_
  refine g_new (M := mX2_init) (kc := 2) (ks := 800) dX2_init_27 ck6 clRX2_18 inRX6 itRX6 (by decide) ?_
  refine g_dup (M := mX2_init) dX2_init_30 rfl ?_
  obtain ⟨r5, er5, hf⟩ := bd hf
  refine g_callI (M := mX2_init) (kc := 1) (ks := 400) (as := []) (rest := [vr (some (hz h4)), vr (some a0)]) (b := (hz h4)) dX2_init_31 cbX6_init mlRX2_20 im_yX6_init rfl rfl rfl (Nat.le_of_ble_eq_true rfl) (Nat.le_of_ble_eq_true rfl) (c_X6_init G (hz h4) (nw h4 6 0) r5 er5) ?_
  obtain ⟨h6, eh6, hf⟩ := bd hf
  refine g_putRF (M := mX2_init) dX2_init_34 flRX2_25 rfl rfl (Or.inl ⟨_, rfl⟩) eh6 ?_
  refine g_aload_n (M := mX2_init) dX2_init_37 rfl 0 rfl ?_
  refine g_sipush (M := mX2_init) (v := 400) dX2_init_38 rfl ?_
  obtain ⟨h7, eh7, hf⟩ := bd hf
  refine g_newa (M := mX2_init) (kc := 0) (ks := 0) (t := 12) (j := 2) (ty := .boolean) rfl rfl (Nat.le_of_ble_eq_true rfl) (fun _ => rfl) rfl (fun _ _ z => z) dX2_init_41 ac_boolean (Nat.le_of_ble_eq_true rfl) (Nat.le_of_ble_eq_true rfl) eh7 ?_
  obtain ⟨h8, eh8, hf⟩ := bd hf
  refine g_putRF (M := mX2_init) dX2_init_43 flRX2_28 rfl rfl (Or.inr ⟨_, rfl⟩) eh8 ?_
  cases hf
  exact g_ret (M := mX2_init) dX2_init_46 rfl
theorem c_X2_init (G : Gm) (a0 : Nat) (h : AH) (o : AH) (hf : f_X2_init a0 h = some o) : CT G yX2_init mX2_init none 7 1236 [vr (some a0)] h none o :=
  CT.void (by decide +kernel) rfl rfl rfl (Nat.le_of_ble_eq_true rfl) (x_X2_init G a0 h o hf)
theorem cbX2_init : CB yX2_init mX2_init none 0 := ⟨cd_yX2_init, itRX2, ⟨by decide, by decide⟩, by decide +kernel, by decide⟩
abbrev mX2_forget : MI := (RX2, "forget", cX2_forget, 1, .return_, 0)
def f_X2_forget (a0 : Nat) (h : AH) : Option AH :=
  (pI 2 4 h (some a0) (0 : Int32)).bind fun h1 =>
  (pI 2 5 h1 (some a0) (0 : Int32)).bind fun h2 =>
  (pR 2 7 h2 (some a0) none).bind fun h3 =>
  (pR 2 8 h3 (some a0) none).bind fun h4 =>
  (pR 2 9 h4 (some a0) none).bind fun h5 =>
  (pR 2 10 h5 (some a0) none).bind fun h6 =>
  (pR 2 11 h6 (some a0) none).bind fun h7 =>
  some h7
theorem x_X2_forget (G : Gm) (a0 : Nat) (h : AH) (o : AH) (hf : f_X2_forget a0 h = some o) : GO G mX2_forget 0 0 0 [(0, vr (some a0))] [] h none o := by
  unfold f_X2_forget at hf
  refine g_aload_n (M := mX2_forget) dX2_forget_0 rfl 0 rfl ?_
  refine g_iconst (M := mX2_forget) (v := 0) dX2_forget_1 rfl ?_
  obtain ⟨h1, eh1, hf⟩ := bd hf
  refine g_putI (M := mX2_forget) dX2_forget_2 flRX2_85 rfl eh1 ?_
  refine g_aload_n (M := mX2_forget) dX2_forget_5 rfl 0 rfl ?_
  refine g_iconst (M := mX2_forget) (v := 0) dX2_forget_6 rfl ?_
  obtain ⟨h2, eh2, hf⟩ := bd hf
  refine g_putI (M := mX2_forget) dX2_forget_7 flRX2_95 rfl eh2 ?_
  refine g_aload_n (M := mX2_forget) dX2_forget_10 rfl 0 rfl ?_
  refine g_null (M := mX2_forget) dX2_forget_11 ?_
  obtain ⟨h3, eh3, hf⟩ := bd hf
  refine g_putR (M := mX2_forget) dX2_forget_12 flRX2_60 (Or.inl ⟨_, rfl⟩) eh3 ?_
  refine g_aload_n (M := mX2_forget) dX2_forget_15 rfl 0 rfl ?_
  refine g_null (M := mX2_forget) dX2_forget_16 ?_
  obtain ⟨h4, eh4, hf⟩ := bd hf
  refine g_putR (M := mX2_forget) dX2_forget_17 flRX2_69 (Or.inl ⟨_, rfl⟩) eh4 ?_
  refine g_aload_n (M := mX2_forget) dX2_forget_20 rfl 0 rfl ?_
  refine g_null (M := mX2_forget) dX2_forget_21 ?_
  obtain ⟨h5, eh5, hf⟩ := bd hf
  refine g_putR (M := mX2_forget) dX2_forget_22 flRX2_82 (Or.inl ⟨_, rfl⟩) eh5 ?_
  refine g_aload_n (M := mX2_forget) dX2_forget_25 rfl 0 rfl ?_
  refine g_null (M := mX2_forget) dX2_forget_26 ?_
  obtain ⟨h6, eh6, hf⟩ := bd hf
  refine g_putR (M := mX2_forget) dX2_forget_27 flRX2_96 (Or.inl ⟨_, rfl⟩) eh6 ?_
  refine g_aload_n (M := mX2_forget) dX2_forget_30 rfl 0 rfl ?_
  refine g_null (M := mX2_forget) dX2_forget_31 ?_
  obtain ⟨h7, eh7, hf⟩ := bd hf
  refine g_putR (M := mX2_forget) dX2_forget_32 flRX2_99 (Or.inl ⟨_, rfl⟩) eh7 ?_
  cases hf
  exact g_ret (M := mX2_forget) dX2_forget_35 rfl
theorem c_X2_forget (G : Gm) (a0 : Nat) (h : AH) (o : AH) (hf : f_X2_forget a0 h = some o) : CT G yX2_forget mX2_forget none 0 0 [vr (some a0)] h none o :=
  CT.void (by decide +kernel) rfl rfl rfl (Nat.le_of_ble_eq_true rfl) (x_X2_forget G a0 h o hf)
theorem cbX2_forget : CB yX2_forget mX2_forget none 0 := ⟨cd_yX2_forget, itRX2, ⟨by decide, by decide⟩, by decide +kernel, by decide⟩
