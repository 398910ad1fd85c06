abbrev mX4_at : MI := (RX4, "at", cX4_at, 2, .areturn, 0)
def f_X4_at (a0 : Nat) (a1 : Int32) (h : AH) : Option (Option Nat) :=
  if a1 < 0 then (
    some none
  ) else (
    (gI 4 1 h (some a0)).bind fun v1 =>
    if v1 ≤ a1 then (
      some none
    ) else (
      (gR 4 0 h (some a0)).bind fun v2 =>
      (al h v2).bind fun v3 =>
      if v3 ≤ a1 then (
        some none
      ) else (
        (gR 4 0 h (some a0)).bind fun v4 =>
        (lR 13 h v4 a1).bind fun v5 =>
        some v5
      )
    )
  )
theorem x_X4_at (G : Gm) (a0 : Nat) (a1 : Int32) (h : AH) (o : (Option Nat)) (hf : f_X4_at a0 a1 h = some o) : GO G mX4_at 0 0 0 [(0, vr (some a0)), (1, vi a1)] [] h (some (vr o)) h := by
  unfold f_X4_at at hf
  refine g_iload_n (M := mX4_at) dX4_at_0 rfl 1 rfl ?_
  refine g_if_lt (M := mX4_at) (tgt := 30) dX4_at_1 rfl (fun q1 => ?_) (fun q1 => ?_)
  · replace hf := ift hf q1
    refine g_null (M := mX4_at) dX4_at_30 ?_
    cases hf
    exact g_ret (M := mX4_at) dX4_at_31 rfl
  · replace hf := iff_ hf q1
    refine g_iload_n (M := mX4_at) dX4_at_4 rfl 1 rfl ?_
    refine g_aload_n (M := mX4_at) dX4_at_5 rfl 0 rfl ?_
    obtain ⟨v1, ev1, hf⟩ := bd hf
    refine g_getI (M := mX4_at) dX4_at_6 flRX4_17 (fun _ => rfl) ev1 ?_
    refine g_ic_ge (M := mX4_at) (tgt := 30) dX4_at_9 rfl (fun q9 => ?_) (fun q9 => ?_)
    · replace hf := ift hf q9
      refine g_null (M := mX4_at) dX4_at_30 ?_
      cases hf
      exact g_ret (M := mX4_at) dX4_at_31 rfl
    · replace hf := iff_ hf q9
      refine g_iload_n (M := mX4_at) dX4_at_12 rfl 1 rfl ?_
      refine g_aload_n (M := mX4_at) dX4_at_13 rfl 0 rfl ?_
      obtain ⟨v2, ev2, hf⟩ := bd hf
      refine g_getR (M := mX4_at) dX4_at_14 flRX4_11 (fun _ => rfl) ev2 ?_
      obtain ⟨v3, ev3, hf⟩ := bd hf
      refine g_alen (M := mX4_at) dX4_at_17 ev3 ?_
      refine g_ic_ge (M := mX4_at) (tgt := 30) dX4_at_18 rfl (fun q18 => ?_) (fun q18 => ?_)
      · replace hf := ift hf q18
        refine g_null (M := mX4_at) dX4_at_30 ?_
        cases hf
        exact g_ret (M := mX4_at) dX4_at_31 rfl
      · replace hf := iff_ hf q18
        refine g_aload_n (M := mX4_at) dX4_at_21 rfl 0 rfl ?_
        obtain ⟨v4, ev4, hf⟩ := bd hf
        refine g_getR (M := mX4_at) dX4_at_22 flRX4_11 (fun _ => rfl) ev4 ?_
        refine g_iload_n (M := mX4_at) dX4_at_25 rfl 1 rfl ?_
        obtain ⟨v5, ev5, hf⟩ := bd hf
        refine g_aald (M := mX4_at) (t := 13) (j := 3) (cn := RX3) rfl (Nat.le_of_ble_eq_true rfl) (fun _ _ => rfl) dX4_at_26 ev5 ?_
        refine g_goto (M := mX4_at) (tgt := 31) dX4_at_27 rfl ?_
        cases hf
        exact g_ret (M := mX4_at) dX4_at_31 rfl
theorem c_X4_at (G : Gm) (a0 : Nat) (a1 : Int32) (h : AH) (o : (Option Nat)) (hf : f_X4_at a0 a1 h = some o) : CT G yX4_at mX4_at (some (.object RX3)) 0 0 [vr (some a0), vi a1] h (some (vr o)) h :=
  CT.ref (by decide +kernel) rfl rfl rfl (Nat.le_of_ble_eq_true rfl) (x_X4_at G a0 a1 h o hf)
theorem cbX4_at : CB yX4_at mX4_at (some (.object RX3)) 1 := ⟨cd_yX4_at, itRX4, ⟨by decide, by decide⟩, by decide +kernel, by decide⟩
abbrev mX3_isMembership : MI := (RX3, "isMembership", cX3_isMembership, 1, .ireturn, 0)
def f_X3_isMembership (a0 : Nat) (h : AH) : Option Bool :=
  (gI 3 1 h (some a0)).bind fun v1 =>
  if v1 = (1 : Int32) then (
    some true
  ) else (
    (gI 3 1 h (some a0)).bind fun v2 =>
    if v2 = (2 : Int32) then (
      some true
    ) else (
      (gI 3 1 h (some a0)).bind fun v3 =>
      if v3 = (8 : Int32) then (
        some true
      ) else (
        some false
      )
    )
  )
theorem x_X3_isMembership (G : Gm) (a0 : Nat) (h : AH) (o : Bool) (hf : f_X3_isMembership a0 h = some o) : GO G mX3_isMembership 0 0 0 [(0, vr (some a0))] [] h (some (vi (b2i o))) h := by
  unfold f_X3_isMembership at hf
  refine g_aload_n (M := mX3_isMembership) dX3_isMembership_0 rfl 0 rfl ?_
  obtain ⟨v1, ev1, hf⟩ := bd hf
  refine g_getI (M := mX3_isMembership) dX3_isMembership_1 flRX3_21 (fun _ => rfl) ev1 ?_
  refine g_iconst (M := mX3_isMembership) (v := 1) dX3_isMembership_4 rfl ?_
  refine g_ic_eq (M := mX3_isMembership) (tgt := 25) dX3_isMembership_5 rfl (fun q5 => ?_) (fun q5 => ?_)
  · replace hf := ift hf q5
    refine g_iconst (M := mX3_isMembership) (v := 1) dX3_isMembership_25 rfl ?_
    refine g_goto (M := mX3_isMembership) (tgt := 30) dX3_isMembership_26 rfl ?_
    cases hf
    exact g_ret (M := mX3_isMembership) dX3_isMembership_30 rfl
  · replace hf := iff_ hf q5
    refine g_aload_n (M := mX3_isMembership) dX3_isMembership_8 rfl 0 rfl ?_
    obtain ⟨v2, ev2, hf⟩ := bd hf
    refine g_getI (M := mX3_isMembership) dX3_isMembership_9 flRX3_21 (fun _ => rfl) ev2 ?_
    refine g_iconst (M := mX3_isMembership) (v := 2) dX3_isMembership_12 rfl ?_
    refine g_ic_eq (M := mX3_isMembership) (tgt := 25) dX3_isMembership_13 rfl (fun q13 => ?_) (fun q13 => ?_)
    · replace hf := ift hf q13
      refine g_iconst (M := mX3_isMembership) (v := 1) dX3_isMembership_25 rfl ?_
      refine g_goto (M := mX3_isMembership) (tgt := 30) dX3_isMembership_26 rfl ?_
      cases hf
      exact g_ret (M := mX3_isMembership) dX3_isMembership_30 rfl
    · replace hf := iff_ hf q13
      refine g_aload_n (M := mX3_isMembership) dX3_isMembership_16 rfl 0 rfl ?_
      obtain ⟨v3, ev3, hf⟩ := bd hf
      refine g_getI (M := mX3_isMembership) dX3_isMembership_17 flRX3_21 (fun _ => rfl) ev3 ?_
      refine g_bipush (M := mX3_isMembership) (v := 8) dX3_isMembership_20 rfl ?_
      refine g_ic_ne (M := mX3_isMembership) (tgt := 29) dX3_isMembership_22 rfl (fun q22 => ?_) (fun q22 => ?_)
      · replace hf := iff_ hf q22
        refine g_iconst (M := mX3_isMembership) (v := 0) dX3_isMembership_29 rfl ?_
        cases hf
        exact g_ret (M := mX3_isMembership) dX3_isMembership_30 rfl
      · replace hf := ift hf q22
        refine g_iconst (M := mX3_isMembership) (v := 1) dX3_isMembership_25 rfl ?_
        refine g_goto (M := mX3_isMembership) (tgt := 30) dX3_isMembership_26 rfl ?_
        cases hf
        exact g_ret (M := mX3_isMembership) dX3_isMembership_30 rfl
theorem c_X3_isMembership (G : Gm) (a0 : Nat) (h : AH) (o : Bool) (hf : f_X3_isMembership a0 h = some o) : CT G yX3_isMembership mX3_isMembership (some .boolean) 0 0 [vr (some a0)] h (some (vi (b2i o))) h :=
  CT.bool (by decide +kernel) rfl rfl rfl (Nat.le_of_ble_eq_true rfl) (b2i_01 _) (x_X3_isMembership G a0 h o hf)
theorem cbX3_isMembership : CB yX3_isMembership mX3_isMembership (some .boolean) 0 := ⟨cd_yX3_isMembership, itRX3, ⟨by decide, by decide⟩, by decide +kernel, by decide⟩
abbrev mX3_stands : MI := (RX3, "stands", cX3_stands, 3, .ireturn, 0)
def f_X3_stands (a0 : Nat) (a1 : Int32) (a2 : Int32) (h : AH) : Option Bool :=
  (gI 3 4 h (some a0)).bind fun v1 =>
  if a2 < v1 then (
    some false
  ) else (
    (gI 3 5 h (some a0)).bind fun v2 =>
    if v2 ≤ a1 then (
      (gR 3 12 h (some a0)).bind fun v3 =>
      if v3 = none then (
        some true
      ) else (
        (gR 3 12 h (some a0)).bind fun v4 =>
        (gI 3 4 h v4).bind fun v5 =>
        if a2 < v5 then (
          some true
        ) else (
          (gR 3 12 h (some a0)).bind fun v6 =>
          (gI 3 5 h v6).bind fun v7 =>
          if v7 ≤ a1 then (
            some false
          ) else (
            some true
          )
        )
      )
    ) else (
      some false
    )
  )
theorem x_X3_stands (G : Gm) (a0 : Nat) (a1 : Int32) (a2 : Int32) (h : AH) (o : Bool) (hf : f_X3_stands a0 a1 a2 h = some o) : GO G mX3_stands 0 0 0 [(0, vr (some a0)), (1, vi a1), (2, vi a2)] [] h (some (vi (b2i o))) h := by
  unfold f_X3_stands at hf
  refine g_aload_n (M := mX3_stands) dX3_stands_0 rfl 0 rfl ?_
  obtain ⟨v1, ev1, hf⟩ := bd hf
  refine g_getI (M := mX3_stands) dX3_stands_1 flRX3_31 (fun _ => rfl) ev1 ?_
  refine g_iload_n (M := mX3_stands) dX3_stands_4 rfl 2 rfl ?_
  refine g_ic_gt (M := mX3_stands) (tgt := 16) dX3_stands_5 rfl (fun q5 => ?_) (fun q5 => ?_)
  · replace hf := ift hf q5
    refine g_iconst (M := mX3_stands) (v := 0) dX3_stands_16 rfl ?_
    cases hf
    exact g_ret (M := mX3_stands) dX3_stands_17 rfl
  · replace hf := iff_ hf q5
    refine g_aload_n (M := mX3_stands) dX3_stands_8 rfl 0 rfl ?_
    obtain ⟨v2, ev2, hf⟩ := bd hf
    refine g_getI (M := mX3_stands) dX3_stands_9 flRX3_34 (fun _ => rfl) ev2 ?_
    refine g_iload_n (M := mX3_stands) dX3_stands_12 rfl 1 rfl ?_
    refine g_ic_le (M := mX3_stands) (tgt := 18) dX3_stands_13 rfl (fun q13 => ?_) (fun q13 => ?_)
    · replace hf := ift hf q13
      refine g_aload_n (M := mX3_stands) dX3_stands_18 rfl 0 rfl ?_
      obtain ⟨v3, ev3, hf⟩ := bd hf
      refine g_getR (M := mX3_stands) dX3_stands_19 flRX3_45 (fun _ => rfl) ev3 ?_
      refine g_ifnull (M := mX3_stands) (tgt := 47) dX3_stands_22 rfl (fun q22 => ?_) (fun q22 => ?_)
      · replace hf := ift hf q22
        refine g_iconst (M := mX3_stands) (v := 1) dX3_stands_47 rfl ?_
        refine g_goto (M := mX3_stands) (tgt := 52) dX3_stands_48 rfl ?_
        cases hf
        exact g_ret (M := mX3_stands) dX3_stands_52 rfl
      · replace hf := iff_ hf q22
        refine g_aload_n (M := mX3_stands) dX3_stands_25 rfl 0 rfl ?_
        obtain ⟨v4, ev4, hf⟩ := bd hf
        refine g_getR (M := mX3_stands) dX3_stands_26 flRX3_45 (fun _ => rfl) ev4 ?_
        obtain ⟨v5, ev5, hf⟩ := bd hf
        refine g_getI (M := mX3_stands) dX3_stands_29 flRX3_31 (fun _ => rfl) ev5 ?_
        refine g_iload_n (M := mX3_stands) dX3_stands_32 rfl 2 rfl ?_
        refine g_ic_gt (M := mX3_stands) (tgt := 47) dX3_stands_33 rfl (fun q33 => ?_) (fun q33 => ?_)
        · replace hf := ift hf q33
          refine g_iconst (M := mX3_stands) (v := 1) dX3_stands_47 rfl ?_
          refine g_goto (M := mX3_stands) (tgt := 52) dX3_stands_48 rfl ?_
          cases hf
          exact g_ret (M := mX3_stands) dX3_stands_52 rfl
        · replace hf := iff_ hf q33
          refine g_aload_n (M := mX3_stands) dX3_stands_36 rfl 0 rfl ?_
          obtain ⟨v6, ev6, hf⟩ := bd hf
          refine g_getR (M := mX3_stands) dX3_stands_37 flRX3_45 (fun _ => rfl) ev6 ?_
          obtain ⟨v7, ev7, hf⟩ := bd hf
          refine g_getI (M := mX3_stands) dX3_stands_40 flRX3_34 (fun _ => rfl) ev7 ?_
          refine g_iload_n (M := mX3_stands) dX3_stands_43 rfl 1 rfl ?_
          refine g_ic_le (M := mX3_stands) (tgt := 51) dX3_stands_44 rfl (fun q44 => ?_) (fun q44 => ?_)
          · replace hf := ift hf q44
            refine g_iconst (M := mX3_stands) (v := 0) dX3_stands_51 rfl ?_
            cases hf
            exact g_ret (M := mX3_stands) dX3_stands_52 rfl
          · replace hf := iff_ hf q44
            refine g_iconst (M := mX3_stands) (v := 1) dX3_stands_47 rfl ?_
            refine g_goto (M := mX3_stands) (tgt := 52) dX3_stands_48 rfl ?_
            cases hf
            exact g_ret (M := mX3_stands) dX3_stands_52 rfl
    · replace hf := iff_ hf q13
      refine g_iconst (M := mX3_stands) (v := 0) dX3_stands_16 rfl ?_
      cases hf
      exact g_ret (M := mX3_stands) dX3_stands_17 rfl
theorem c_X3_stands (G : Gm) (a0 : Nat) (a1 : Int32) (a2 : Int32) (h : AH) (o : Bool) (hf : f_X3_stands a0 a1 a2 h = some o) : CT G yX3_stands mX3_stands (some .boolean) 0 0 [vr (some a0), vi a1, vi a2] h (some (vi (b2i o))) h :=
  CT.bool (by decide +kernel) rfl rfl rfl (Nat.le_of_ble_eq_true rfl) (b2i_01 _) (x_X3_stands G a0 a1 a2 h o hf)
theorem cbX3_stands : CB yX3_stands mX3_stands (some .boolean) 2 := ⟨cd_yX3_stands, itRX3, ⟨by decide, by decide⟩, by decide +kernel, by decide⟩
abbrev mX5_enter : MI := (RX5, "enter", cX5_enter, 3, .return_, 0)
def f_X5_enter (a0 : Nat) (a1 : Option Nat) (h : AH) : Option AH :=
  (gI 3 2 h a1).bind fun v1 =>
  if v1 < 0 then (
    some h
  ) else (
    (gR 5 0 h (some a0)).bind fun v2 =>
    (al h v2).bind fun v3 =>
    if v3 ≤ v1 then (
      some h
    ) else (
      (gR 5 0 h (some a0)).bind fun v4 =>
      (stR 13 3 h v4 v1 a1).bind fun h5 =>
      (gI 5 1 h5 (some a0)).bind fun v6 =>
      (pI 5 1 h5 (some a0) (v6 + (1 : Int32))).bind fun h7 =>
      some h7
    )
  )
theorem x_X5_enter (G : Gm) (a0 : Nat) (a1 : Option Nat) (h : AH) (o : AH) (hf : f_X5_enter a0 a1 h = some o) : GO G mX5_enter 0 0 0 [(0, vr (some a0)), (1, vr a1)] [] h none o := by
  unfold f_X5_enter at hf
  refine g_aload_n (M := mX5_enter) dX5_enter_0 rfl 1 rfl ?_
  obtain ⟨v1, ev1, hf⟩ := bd hf
  refine g_getI (M := mX5_enter) dX5_enter_1 flRX5_44 (fun _ => rfl) ev1 ?_
  refine g_istore_n (M := mX5_enter) (L2 := [(2, vi v1), (0, vr (some a0)), (1, vr a1)]) dX5_enter_4 rfl (Nat.le_of_ble_eq_true rfl) rfl ?_
  refine g_iload_n (M := mX5_enter) dX5_enter_5 rfl 0 rfl ?_
  refine g_if_lt (M := mX5_enter) (tgt := 35) dX5_enter_6 rfl (fun q6 => ?_) (fun q6 => ?_)
  · replace hf := ift hf q6
    cases hf
    exact g_ret (M := mX5_enter) dX5_enter_35 rfl
  · replace hf := iff_ hf q6
    refine g_iload_n (M := mX5_enter) dX5_enter_9 rfl 0 rfl ?_
    refine g_aload_n (M := mX5_enter) dX5_enter_10 rfl 1 rfl ?_
    obtain ⟨v2, ev2, hf⟩ := bd hf
    refine g_getR (M := mX5_enter) dX5_enter_11 flRX5_11 (fun _ => rfl) ev2 ?_
    obtain ⟨v3, ev3, hf⟩ := bd hf
    refine g_alen (M := mX5_enter) dX5_enter_14 ev3 ?_
    refine g_ic_ge (M := mX5_enter) (tgt := 35) dX5_enter_15 rfl (fun q15 => ?_) (fun q15 => ?_)
    · replace hf := ift hf q15
      cases hf
      exact g_ret (M := mX5_enter) dX5_enter_35 rfl
    · replace hf := iff_ hf q15
      refine g_aload_n (M := mX5_enter) dX5_enter_18 rfl 1 rfl ?_
      obtain ⟨v4, ev4, hf⟩ := bd hf
      refine g_getR (M := mX5_enter) dX5_enter_19 flRX5_11 (fun _ => rfl) ev4 ?_
      refine g_iload_n (M := mX5_enter) dX5_enter_22 rfl 0 rfl ?_
      refine g_aload_n (M := mX5_enter) dX5_enter_23 rfl 2 rfl ?_
      obtain ⟨h5, eh5, hf⟩ := bd hf
      refine g_aast (M := mX5_enter) (t := 13) (j := 3) (ci := 3) (cn := RX3) (T := TX3) (N := 15) rfl rfl (Nat.le_of_ble_eq_true rfl) (Nat.le_of_ble_eq_true rfl) (fun _ => rfl) dX5_enter_24 eh5 ?_
      refine g_aload_n (M := mX5_enter) dX5_enter_25 rfl 1 rfl ?_
      refine g_dup (M := mX5_enter) dX5_enter_26 rfl ?_
      obtain ⟨v6, ev6, hf⟩ := bd hf
      refine g_getI (M := mX5_enter) dX5_enter_27 flRX5_17 (fun _ => rfl) ev6 ?_
      refine g_iconst (M := mX5_enter) (v := 1) dX5_enter_30 rfl ?_
      refine g_iadd (M := mX5_enter) dX5_enter_31 ?_
      obtain ⟨h7, eh7, hf⟩ := bd hf
      refine g_putI (M := mX5_enter) dX5_enter_32 flRX5_17 rfl eh7 ?_
      cases hf
      exact g_ret (M := mX5_enter) dX5_enter_35 rfl
theorem c_X5_enter (G : Gm) (a0 : Nat) (a1 : Option Nat) (h : AH) (o : AH) (hf : f_X5_enter a0 a1 h = some o) : CT G yX5_enter mX5_enter none 0 0 [vr (some a0), vr a1] h none o :=
  CT.void (by decide +kernel) rfl rfl rfl (Nat.le_of_ble_eq_true rfl) (x_X5_enter G a0 a1 h o hf)
theorem cbX5_enter : CB yX5_enter mX5_enter none 1 := ⟨cd_yX5_enter, itRX5, ⟨by decide, by decide⟩, by decide +kernel, by decide⟩
abbrev mX5_fill : MI := (RX5, "fill", cX5_fill, 7, .return_, 1)
def f_X5_fill_35 : Nat → Nat → Option Nat → Option Nat → Int32 → Int32 → Int32 → AH → Option AH
  | 0, _, _, _, _, _, _, _ => none
  | n + 1, a0, a1, a2, a3, a4, a5, h =>
    (gI 4 1 h a1).bind fun v1 =>
    if v1 ≤ a5 then (
      some h
    ) else (
      (ck 4 h a1).bind fun b2 =>
      (f_X4_at b2 a5 h).bind fun r3 =>
      if r3 = none then (
        f_X5_fill_35 n a0 a1 a2 a3 a4 (a5 + (1)) h
      ) else (
        (gR 3 3 h r3).bind fun v4 =>
        if v4 = a2 then (
          (ck 3 h r3).bind fun b5 =>
          (f_X3_isMembership b5 h).bind fun r6 =>
          if (b2i r6) = 0 then (
            f_X5_fill_35 n a0 a1 a2 a3 a4 (a5 + (1)) h
          ) else (
            (ck 3 h r3).bind fun b7 =>
            (f_X3_stands b7 a3 a4 h).bind fun r8 =>
            if (b2i r8) = 0 then (
              f_X5_fill_35 n a0 a1 a2 a3 a4 (a5 + (1)) h
            ) else (
              (ck 5 h (some a0)).bind fun b9 =>
              (f_X5_enter b9 r3 h).bind fun r10 =>
              f_X5_fill_35 n a0 a1 a2 a3 a4 (a5 + (1)) r10
            )
          )
        ) else (
          f_X5_fill_35 n a0 a1 a2 a3 a4 (a5 + (1)) h
        )
      )
    )
theorem x_X5_fill_35 (G : Gm) : ∀ (n : Nat) (a0 : Nat) (a1 : Option Nat) (a2 : Option Nat) (a3 : Int32) (a4 : Int32) (a5 : Int32) (h : AH) (o : AH), f_X5_fill_35 n a0 a1 a2 a3 a4 a5 h = some o → GO G mX5_fill 0 0 35 [(0, vr (some a0)), (1, vr a1), (2, vr a2), (3, vi a3), (4, vi a4), (5, vi a5)] [] h none o := by
  intro n
  induction n with
  | zero => intro a0 a1 a2 a3 a4 a5 h o hf; cases hf
  | succ n ih =>
    intro a0 a1 a2 a3 a4 a5 h o hf
    rw [f_X5_fill_35] at hf
    refine g_iload (M := mX5_fill) dX5_fill_35 5 rfl ?_
    refine g_aload_n (M := mX5_fill) dX5_fill_37 rfl 1 rfl ?_
    obtain ⟨v1, ev1, hf⟩ := bd hf
    refine g_getI (M := mX5_fill) dX5_fill_38 flRX5_21 (fun _ => rfl) ev1 ?_
    refine g_ic_ge (M := mX5_fill) (tgt := 97) dX5_fill_41 rfl (fun q41 => ?_) (fun q41 => ?_)
    · replace hf := ift hf q41
      cases hf
      exact g_ret (M := mX5_fill) dX5_fill_97 rfl
    · replace hf := iff_ hf q41
      refine g_aload_n (M := mX5_fill) dX5_fill_44 rfl 1 rfl ?_
      refine g_iload (M := mX5_fill) dX5_fill_45 5 rfl ?_
      obtain ⟨b2, eb2, hf⟩ := bd hf
      obtain ⟨r3, er3, hf⟩ := bd hf
      refine g_callV (M := mX5_fill) (kc := 0) (ks := 0) (as := [vi a5]) (rest := []) dX5_fill_47 cbX4_at vwRX5_24 rfl eb2 rfl (Nat.le_of_ble_eq_true rfl) (Nat.le_of_ble_eq_true rfl) (c_X4_at G b2 a5 h r3 er3) ?_
      refine g_astore (M := mX5_fill) (L2 := [(6, vr r3), (0, vr (some a0)), (1, vr a1), (2, vr a2), (3, vi a3), (4, vi a4), (5, vi a5)]) dX5_fill_50 (Nat.le_of_ble_eq_true rfl) rfl ?_
      refine g_aload (M := mX5_fill) dX5_fill_52 0 rfl ?_
      refine g_ifnull (M := mX5_fill) (tgt := 91) dX5_fill_54 rfl (fun q54 => ?_) (fun q54 => ?_)
      · replace hf := ift hf q54
        refine g_iinc (M := mX5_fill) (j := 6) (L2 := [(5, vi (a5 + (1))), (6, vr r3), (0, vr (some a0)), (1, vr a1), (2, vr a2), (3, vi a3), (4, vi a4)]) dX5_fill_91 rfl rfl (Nat.le_of_ble_eq_true rfl) rfl ?_
        refine g_goto (M := mX5_fill) (tgt := 35) dX5_fill_94 rfl ?_
        exact g_sub (M := mX5_fill) (L2 := [(0, vr (some a0)), (1, vr a1), (2, vr a2), (3, vi a3), (4, vi a4), (5, vi (a5 + (1)))]) [2, 3, 4, 5, 6, 0] rfl <| ih a0 a1 a2 a3 a4 (a5 + (1)) h _ hf
      · replace hf := iff_ hf q54
        refine g_aload (M := mX5_fill) dX5_fill_57 0 rfl ?_
        obtain ⟨v4, ev4, hf⟩ := bd hf
        refine g_getR (M := mX5_fill) dX5_fill_59 flRX5_28 (fun _ => rfl) ev4 ?_
        refine g_aload_n (M := mX5_fill) dX5_fill_62 rfl 3 rfl ?_
        refine g_ac_ne (M := mX5_fill) (tgt := 91) dX5_fill_63 rfl (fun q63 => ?_) (fun q63 => ?_)
        · replace hf := iff_ hf q63
          refine g_iinc (M := mX5_fill) (j := 6) (L2 := [(5, vi (a5 + (1))), (6, vr r3), (0, vr (some a0)), (1, vr a1), (2, vr a2), (3, vi a3), (4, vi a4)]) dX5_fill_91 rfl rfl (Nat.le_of_ble_eq_true rfl) rfl ?_
          refine g_goto (M := mX5_fill) (tgt := 35) dX5_fill_94 rfl ?_
          exact g_sub (M := mX5_fill) (L2 := [(0, vr (some a0)), (1, vr a1), (2, vr a2), (3, vi a3), (4, vi a4), (5, vi (a5 + (1)))]) [2, 3, 4, 5, 6, 0] rfl <| ih a0 a1 a2 a3 a4 (a5 + (1)) h _ hf
        · replace hf := ift hf q63
          refine g_aload (M := mX5_fill) dX5_fill_66 0 rfl ?_
          obtain ⟨b5, eb5, hf⟩ := bd hf
          obtain ⟨r6, er6, hf⟩ := bd hf
          refine g_callV (M := mX5_fill) (kc := 0) (ks := 0) (as := []) (rest := []) dX5_fill_68 cbX3_isMembership vwRX5_32 rfl eb5 rfl (Nat.le_of_ble_eq_true rfl) (Nat.le_of_ble_eq_true rfl) (c_X3_isMembership G b5 h r6 er6) ?_
          refine g_if_eq (M := mX5_fill) (tgt := 91) dX5_fill_71 rfl (fun q71 => ?_) (fun q71 => ?_)
          · replace hf := ift hf q71
            refine g_iinc (M := mX5_fill) (j := 6) (L2 := [(5, vi (a5 + (1))), (6, vr r3), (0, vr (some a0)), (1, vr a1), (2, vr a2), (3, vi a3), (4, vi a4)]) dX5_fill_91 rfl rfl (Nat.le_of_ble_eq_true rfl) rfl ?_
            refine g_goto (M := mX5_fill) (tgt := 35) dX5_fill_94 rfl ?_
            exact g_sub (M := mX5_fill) (L2 := [(0, vr (some a0)), (1, vr a1), (2, vr a2), (3, vi a3), (4, vi a4), (5, vi (a5 + (1)))]) [2, 3, 4, 5, 6, 0] rfl <| ih a0 a1 a2 a3 a4 (a5 + (1)) h _ hf
          · replace hf := iff_ hf q71
            refine g_aload (M := mX5_fill) dX5_fill_74 0 rfl ?_
            refine g_iload_n (M := mX5_fill) dX5_fill_76 rfl 4 rfl ?_
            refine g_iload (M := mX5_fill) dX5_fill_77 5 rfl ?_
            obtain ⟨b7, eb7, hf⟩ := bd hf
            obtain ⟨r8, er8, hf⟩ := bd hf
            refine g_callV (M := mX5_fill) (kc := 0) (ks := 0) (as := [vi a3, vi a4]) (rest := []) dX5_fill_79 cbX3_stands vwRX5_36 rfl eb7 rfl (Nat.le_of_ble_eq_true rfl) (Nat.le_of_ble_eq_true rfl) (c_X3_stands G b7 a3 a4 h r8 er8) ?_
            refine g_if_eq (M := mX5_fill) (tgt := 91) dX5_fill_82 rfl (fun q82 => ?_) (fun q82 => ?_)
            · replace hf := ift hf q82
              refine g_iinc (M := mX5_fill) (j := 6) (L2 := [(5, vi (a5 + (1))), (6, vr r3), (0, vr (some a0)), (1, vr a1), (2, vr a2), (3, vi a3), (4, vi a4)]) dX5_fill_91 rfl rfl (Nat.le_of_ble_eq_true rfl) rfl ?_
              refine g_goto (M := mX5_fill) (tgt := 35) dX5_fill_94 rfl ?_
              exact g_sub (M := mX5_fill) (L2 := [(0, vr (some a0)), (1, vr a1), (2, vr a2), (3, vi a3), (4, vi a4), (5, vi (a5 + (1)))]) [2, 3, 4, 5, 6, 0] rfl <| ih a0 a1 a2 a3 a4 (a5 + (1)) h _ hf
            · replace hf := iff_ hf q82
              refine g_aload_n (M := mX5_fill) dX5_fill_85 rfl 1 rfl ?_
              refine g_aload (M := mX5_fill) dX5_fill_86 0 rfl ?_
              obtain ⟨b9, eb9, hf⟩ := bd hf
              obtain ⟨r10, er10, hf⟩ := bd hf
              refine g_callV (M := mX5_fill) (kc := 0) (ks := 0) (as := [vr r3]) (rest := []) dX5_fill_88 cbX5_enter vwRX5_40 rfl eb9 rfl (Nat.le_of_ble_eq_true rfl) (Nat.le_of_ble_eq_true rfl) (c_X5_enter G b9 r3 h r10 er10) ?_
              refine g_iinc (M := mX5_fill) (j := 6) (L2 := [(5, vi (a5 + (1))), (6, vr r3), (0, vr (some a0)), (1, vr a1), (2, vr a2), (3, vi a3), (4, vi a4)]) dX5_fill_91 rfl rfl (Nat.le_of_ble_eq_true rfl) rfl ?_
              refine g_goto (M := mX5_fill) (tgt := 35) dX5_fill_94 rfl ?_
              exact g_sub (M := mX5_fill) (L2 := [(0, vr (some a0)), (1, vr a1), (2, vr a2), (3, vi a3), (4, vi a4), (5, vi (a5 + (1)))]) [2, 3, 4, 5, 6, 0] rfl <| ih a0 a1 a2 a3 a4 (a5 + (1)) r10 _ hf
def f_X5_fill_8 : Nat → Nat → Option Nat → Option Nat → Int32 → Int32 → Int32 → AH → Option AH
  | 0, _, _, _, _, _, _, _ => none
  | n + 1, a0, a1, a2, a3, a4, a5, h =>
    (gR 5 0 h (some a0)).bind fun v11 =>
    (al h v11).bind fun v12 =>
    if v12 ≤ a5 then (
      f_X5_fill_35 FU a0 a1 a2 a3 a4 (0 : Int32) h
    ) else (
      (gR 5 0 h (some a0)).bind fun v13 =>
      (stR 13 3 h v13 a5 none).bind fun h14 =>
      f_X5_fill_8 n a0 a1 a2 a3 a4 (a5 + (1)) h14
    )
theorem x_X5_fill_8 (G : Gm) : ∀ (n : Nat) (a0 : Nat) (a1 : Option Nat) (a2 : Option Nat) (a3 : Int32) (a4 : Int32) (a5 : Int32) (h : AH) (o : AH), f_X5_fill_8 n a0 a1 a2 a3 a4 a5 h = some o → GO G mX5_fill 0 0 8 [(0, vr (some a0)), (1, vr a1), (2, vr a2), (3, vi a3), (4, vi a4), (5, vi a5)] [] h none o := by
  intro n
  induction n with
  | zero => intro a0 a1 a2 a3 a4 a5 h o hf; cases hf
  | succ n ih =>
    intro a0 a1 a2 a3 a4 a5 h o hf
    rw [f_X5_fill_8] at hf
    refine g_iload (M := mX5_fill) dX5_fill_8 5 rfl ?_
    refine g_aload_n (M := mX5_fill) dX5_fill_10 rfl 0 rfl ?_
    obtain ⟨v11, ev11, hf⟩ := bd hf
    refine g_getR (M := mX5_fill) dX5_fill_11 flRX5_11 (fun _ => rfl) ev11 ?_
    obtain ⟨v12, ev12, hf⟩ := bd hf
    refine g_alen (M := mX5_fill) dX5_fill_14 ev12 ?_
    refine g_ic_ge (M := mX5_fill) (tgt := 32) dX5_fill_15 rfl (fun q15 => ?_) (fun q15 => ?_)
    · replace hf := ift hf q15
      refine g_iconst (M := mX5_fill) (v := 0) dX5_fill_32 rfl ?_
      refine g_istore (M := mX5_fill) (L2 := [(5, vi (0 : Int32)), (0, vr (some a0)), (1, vr a1), (2, vr a2), (3, vi a3), (4, vi a4)]) dX5_fill_33 (Nat.le_of_ble_eq_true rfl) rfl ?_
      exact g_sub (M := mX5_fill) (L2 := [(0, vr (some a0)), (1, vr a1), (2, vr a2), (3, vi a3), (4, vi a4), (5, vi (0 : Int32))]) [1, 2, 3, 4, 5, 0] rfl <| x_X5_fill_35 G FU a0 a1 a2 a3 a4 (0 : Int32) h _ hf
    · replace hf := iff_ hf q15
      refine g_aload_n (M := mX5_fill) dX5_fill_18 rfl 0 rfl ?_
      obtain ⟨v13, ev13, hf⟩ := bd hf
      refine g_getR (M := mX5_fill) dX5_fill_19 flRX5_11 (fun _ => rfl) ev13 ?_
      refine g_iload (M := mX5_fill) dX5_fill_22 5 rfl ?_
      refine g_null (M := mX5_fill) dX5_fill_24 ?_
      obtain ⟨h14, eh14, hf⟩ := bd hf
      refine g_aast (M := mX5_fill) (t := 13) (j := 3) (ci := 3) (cn := RX3) (T := TX3) (N := 15) rfl rfl (Nat.le_of_ble_eq_true rfl) (Nat.le_of_ble_eq_true rfl) (fun _ => rfl) dX5_fill_25 eh14 ?_
      refine g_iinc (M := mX5_fill) (j := 5) (L2 := [(5, vi (a5 + (1))), (0, vr (some a0)), (1, vr a1), (2, vr a2), (3, vi a3), (4, vi a4)]) dX5_fill_26 rfl rfl (Nat.le_of_ble_eq_true rfl) rfl ?_
      refine g_goto (M := mX5_fill) (tgt := 8) dX5_fill_29 rfl ?_
      exact g_sub (M := mX5_fill) (L2 := [(0, vr (some a0)), (1, vr a1), (2, vr a2), (3, vi a3), (4, vi a4), (5, vi (a5 + (1)))]) [1, 2, 3, 4, 5, 0] rfl <| ih a0 a1 a2 a3 a4 (a5 + (1)) h14 _ hf
def f_X5_fill (a0 : Nat) (a1 : Option Nat) (a2 : Option Nat) (a3 : Int32) (a4 : Int32) (h : AH) : Option AH :=
  (pI 5 1 h (some a0) (0 : Int32)).bind fun h15 =>
  f_X5_fill_8 FU a0 a1 a2 a3 a4 (0 : Int32) h15
theorem x_X5_fill (G : Gm) (a0 : Nat) (a1 : Option Nat) (a2 : Option Nat) (a3 : Int32) (a4 : Int32) (h : AH) (o : AH) (hf : f_X5_fill a0 a1 a2 a3 a4 h = some o) : GO G mX5_fill 0 0 0 [(0, vr (some a0)), (1, vr a1), (2, vr a2), (3, vi a3), (4, vi a4)] [] h none o := by
  unfold f_X5_fill at hf
  refine g_aload_n (M := mX5_fill) dX5_fill_0 rfl 0 rfl ?_
  refine g_iconst (M := mX5_fill) (v := 0) dX5_fill_1 rfl ?_
  obtain ⟨h15, eh15, hf⟩ := bd hf
  refine g_putI (M := mX5_fill) dX5_fill_2 flRX5_17 rfl eh15 ?_
  refine g_iconst (M := mX5_fill) (v := 0) dX5_fill_5 rfl ?_
  refine g_istore (M := mX5_fill) (L2 := [(5, vi (0 : Int32)), (0, vr (some a0)), (1, vr a1), (2, vr a2), (3, vi a3), (4, vi a4)]) dX5_fill_6 (Nat.le_of_ble_eq_true rfl) rfl ?_
  exact g_sub (M := mX5_fill) (L2 := [(0, vr (some a0)), (1, vr a1), (2, vr a2), (3, vi a3), (4, vi a4), (5, vi (0 : Int32))]) [1, 2, 3, 4, 5, 0] rfl <| x_X5_fill_8 G FU a0 a1 a2 a3 a4 (0 : Int32) h15 _ hf
theorem c_X5_fill (G : Gm) (a0 : Nat) (a1 : Option Nat) (a2 : Option Nat) (a3 : Int32) (a4 : Int32) (h : AH) (o : AH) (hf : f_X5_fill a0 a1 a2 a3 a4 h = some o) : CT G yX5_fill mX5_fill none 0 0 [vr (some a0), vr a1, vr a2, vi a3, vi a4] h none o :=
  CT.void (by decide +kernel) rfl rfl rfl (Nat.le_of_ble_eq_true rfl) (x_X5_fill G a0 a1 a2 a3 a4 h o hf)
theorem cbX5_fill : CB yX5_fill mX5_fill none 4 := ⟨cd_yX5_fill, itRX5, ⟨by decide, by decide⟩, by decide +kernel, by decide⟩
abbrev mX5_at : MI := (RX5, "at", cX5_at, 2, .areturn, 0)
def f_X5_at (a0 : Nat) (a1 : Int32) (h : AH) : Option (Option Nat) :=
  if a1 < 0 then (
    some none
  ) else (
    (gR 5 0 h (some a0)).bind fun v1 =>
    (al h v1).bind fun v2 =>
    if v2 ≤ a1 then (
      some none
    ) else (
      (gR 5 0 h (some a0)).bind fun v3 =>
      (lR 13 h v3 a1).bind fun v4 =>
      some v4
    )
  )
theorem x_X5_at (G : Gm) (a0 : Nat) (a1 : Int32) (h : AH) (o : (Option Nat)) (hf : f_X5_at a0 a1 h = some o) : GO G mX5_at 0 0 0 [(0, vr (some a0)), (1, vi a1)] [] h (some (vr o)) h := by
  unfold f_X5_at at hf
  refine g_iload_n (M := mX5_at) dX5_at_0 rfl 1 rfl ?_
  refine g_if_lt (M := mX5_at) (tgt := 22) dX5_at_1 rfl (fun q1 => ?_) (fun q1 => ?_)
  · replace hf := ift hf q1
    refine g_null (M := mX5_at) dX5_at_22 ?_
    cases hf
    exact g_ret (M := mX5_at) dX5_at_23 rfl
  · replace hf := iff_ hf q1
    refine g_iload_n (M := mX5_at) dX5_at_4 rfl 1 rfl ?_
    refine g_aload_n (M := mX5_at) dX5_at_5 rfl 0 rfl ?_
    obtain ⟨v1, ev1, hf⟩ := bd hf
    refine g_getR (M := mX5_at) dX5_at_6 flRX5_11 (fun _ => rfl) ev1 ?_
    obtain ⟨v2, ev2, hf⟩ := bd hf
    refine g_alen (M := mX5_at) dX5_at_9 ev2 ?_
    refine g_ic_ge (M := mX5_at) (tgt := 22) dX5_at_10 rfl (fun q10 => ?_) (fun q10 => ?_)
    · replace hf := ift hf q10
      refine g_null (M := mX5_at) dX5_at_22 ?_
      cases hf
      exact g_ret (M := mX5_at) dX5_at_23 rfl
    · replace hf := iff_ hf q10
      refine g_aload_n (M := mX5_at) dX5_at_13 rfl 0 rfl ?_
      obtain ⟨v3, ev3, hf⟩ := bd hf
      refine g_getR (M := mX5_at) dX5_at_14 flRX5_11 (fun _ => rfl) ev3 ?_
      refine g_iload_n (M := mX5_at) dX5_at_17 rfl 1 rfl ?_
      obtain ⟨v4, ev4, hf⟩ := bd hf
      refine g_aald (M := mX5_at) (t := 13) (j := 3) (cn := RX3) rfl (Nat.le_of_ble_eq_true rfl) (fun _ _ => rfl) dX5_at_18 ev4 ?_
      refine g_goto (M := mX5_at) (tgt := 23) dX5_at_19 rfl ?_
      cases hf
      exact g_ret (M := mX5_at) dX5_at_23 rfl
theorem c_X5_at (G : Gm) (a0 : Nat) (a1 : Int32) (h : AH) (o : (Option Nat)) (hf : f_X5_at a0 a1 h = some o) : CT G yX5_at mX5_at (some (.object RX3)) 0 0 [vr (some a0), vi a1] h (some (vr o)) h :=
  CT.ref (by decide +kernel) rfl rfl rfl (Nat.le_of_ble_eq_true rfl) (x_X5_at G a0 a1 h o hf)
theorem cbX5_at : CB yX5_at mX5_at (some (.object RX3)) 1 := ⟨cd_yX5_at, itRX5, ⟨by decide, by decide⟩, by decide +kernel, by decide⟩
abbrev mX3_isHeldBy : MI := (RX3, "isHeldBy", cX3_isHeldBy, 4, .ireturn, 1)
def f_X3_isHeldBy_63 (a3 : Option Nat) (h : AH) : Option Bool :=
  if a3 = none then (
    some false
  ) else (
    some true
  )
theorem x_X3_isHeldBy_63 (G : Gm) (a3 : Option Nat) (h : AH) (o : Bool) (hf : f_X3_isHeldBy_63 a3 h = some o) : GO G mX3_isHeldBy 0 0 63 [(3, vr a3)] [] h (some (vi (b2i o))) h := by
  unfold f_X3_isHeldBy_63 at hf
  refine g_aload_n (M := mX3_isHeldBy) dX3_isHeldBy_63 rfl 0 rfl ?_
  refine g_ifnull (M := mX3_isHeldBy) (tgt := 71) dX3_isHeldBy_64 rfl (fun q64 => ?_) (fun q64 => ?_)
  · replace hf := ift hf q64
    refine g_iconst (M := mX3_isHeldBy) (v := 0) dX3_isHeldBy_71 rfl ?_
    cases hf
    exact g_ret (M := mX3_isHeldBy) dX3_isHeldBy_72 rfl
  · replace hf := iff_ hf q64
    refine g_iconst (M := mX3_isHeldBy) (v := 1) dX3_isHeldBy_67 rfl ?_
    refine g_goto (M := mX3_isHeldBy) (tgt := 72) dX3_isHeldBy_68 rfl ?_
    cases hf
    exact g_ret (M := mX3_isHeldBy) dX3_isHeldBy_72 rfl
def f_X3_isHeldBy_11 : Nat → Nat → Int32 → Option Nat → AH → Option Bool
  | 0, _, _, _, _ => none
  | n + 1, a0, a2, a3, h =>
    if a3 = none then (
      f_X3_isHeldBy_63 a3 h
    ) else (
      (gR 3 7 h (some a0)).bind fun v1 =>
      if a3 = v1 then (
        f_X3_isHeldBy_63 a3 h
      ) else (
        (gI 3 1 h a3).bind fun v2 =>
        if v2 = (8 : Int32) then (
          (gI 3 10 h a3).bind fun v3 =>
          if v3 = 0 then (
            some false
          ) else (
            (gI 3 5 h a3).bind fun v4 =>
            (ck 3 h (some a0)).bind fun b5 =>
            (f_X3_stands b5 (v4 - (1 : Int32)) a2 h).bind fun r6 =>
            if (b2i r6) = 0 then (
              some false
            ) else (
              (gR 3 6 h a3).bind fun v7 =>
              f_X3_isHeldBy_11 n a0 a2 v7 h
            )
          )
        ) else (
          some false
        )
      )
    )
theorem x_X3_isHeldBy_11 (G : Gm) : ∀ (n : Nat) (a0 : Nat) (a2 : Int32) (a3 : Option Nat) (h : AH) (o : Bool), f_X3_isHeldBy_11 n a0 a2 a3 h = some o → GO G mX3_isHeldBy 0 0 11 [(0, vr (some a0)), (2, vi a2), (3, vr a3)] [] h (some (vi (b2i o))) h := by
  intro n
  induction n with
  | zero => intro a0 a2 a3 h o hf; cases hf
  | succ n ih =>
    intro a0 a2 a3 h o hf
    rw [f_X3_isHeldBy_11] at hf
    refine g_aload_n (M := mX3_isHeldBy) dX3_isHeldBy_11 rfl 2 rfl ?_
    refine g_ifnull (M := mX3_isHeldBy) (tgt := 63) dX3_isHeldBy_12 rfl (fun q12 => ?_) (fun q12 => ?_)
    · replace hf := ift hf q12
      exact g_sub (M := mX3_isHeldBy) (L2 := [(3, vr a3)]) [2] rfl <| x_X3_isHeldBy_63 G a3 h _ hf
    · replace hf := iff_ hf q12
      refine g_aload_n (M := mX3_isHeldBy) dX3_isHeldBy_15 rfl 2 rfl ?_
      refine g_aload_n (M := mX3_isHeldBy) dX3_isHeldBy_16 rfl 0 rfl ?_
      obtain ⟨v1, ev1, hf⟩ := bd hf
      refine g_getR (M := mX3_isHeldBy) dX3_isHeldBy_17 flRX3_54 (fun _ => rfl) ev1 ?_
      refine g_ac_eq (M := mX3_isHeldBy) (tgt := 63) dX3_isHeldBy_20 rfl (fun q20 => ?_) (fun q20 => ?_)
      · replace hf := ift hf q20
        exact g_sub (M := mX3_isHeldBy) (L2 := [(3, vr a3)]) [2] rfl <| x_X3_isHeldBy_63 G a3 h _ hf
      · replace hf := iff_ hf q20
        refine g_aload_n (M := mX3_isHeldBy) dX3_isHeldBy_23 rfl 2 rfl ?_
        obtain ⟨v2, ev2, hf⟩ := bd hf
        refine g_getI (M := mX3_isHeldBy) dX3_isHeldBy_24 flRX3_21 (fun _ => rfl) ev2 ?_
        refine g_bipush (M := mX3_isHeldBy) (v := 8) dX3_isHeldBy_27 rfl ?_
        refine g_ic_ne (M := mX3_isHeldBy) (tgt := 53) dX3_isHeldBy_29 rfl (fun q29 => ?_) (fun q29 => ?_)
        · replace hf := iff_ hf q29
          refine g_iconst (M := mX3_isHeldBy) (v := 0) dX3_isHeldBy_53 rfl ?_
          cases hf
          exact g_ret (M := mX3_isHeldBy) dX3_isHeldBy_54 rfl
        · replace hf := ift hf q29
          refine g_aload_n (M := mX3_isHeldBy) dX3_isHeldBy_32 rfl 2 rfl ?_
          obtain ⟨v3, ev3, hf⟩ := bd hf
          refine g_getI (M := mX3_isHeldBy) dX3_isHeldBy_33 flRX3_57 (fun _ => rfl) ev3 ?_
          refine g_if_eq (M := mX3_isHeldBy) (tgt := 53) dX3_isHeldBy_36 rfl (fun q36 => ?_) (fun q36 => ?_)
          · replace hf := ift hf q36
            refine g_iconst (M := mX3_isHeldBy) (v := 0) dX3_isHeldBy_53 rfl ?_
            cases hf
            exact g_ret (M := mX3_isHeldBy) dX3_isHeldBy_54 rfl
          · replace hf := iff_ hf q36
            refine g_aload_n (M := mX3_isHeldBy) dX3_isHeldBy_39 rfl 0 rfl ?_
            refine g_aload_n (M := mX3_isHeldBy) dX3_isHeldBy_40 rfl 2 rfl ?_
            obtain ⟨v4, ev4, hf⟩ := bd hf
            refine g_getI (M := mX3_isHeldBy) dX3_isHeldBy_41 flRX3_34 (fun _ => rfl) ev4 ?_
            refine g_iconst (M := mX3_isHeldBy) (v := 1) dX3_isHeldBy_44 rfl ?_
            refine g_isub (M := mX3_isHeldBy) dX3_isHeldBy_45 ?_
            refine g_iload_n (M := mX3_isHeldBy) dX3_isHeldBy_46 rfl 1 rfl ?_
            obtain ⟨b5, eb5, hf⟩ := bd hf
            obtain ⟨r6, er6, hf⟩ := bd hf
            refine g_callV (M := mX3_isHeldBy) (kc := 0) (ks := 0) (as := [vi (v4 - (1 : Int32)), vi a2]) (rest := []) dX3_isHeldBy_47 cbX3_stands vwRX3_61 rfl eb5 rfl (Nat.le_of_ble_eq_true rfl) (Nat.le_of_ble_eq_true rfl) (c_X3_stands G b5 (v4 - (1 : Int32)) a2 h r6 er6) ?_
            refine g_if_ne (M := mX3_isHeldBy) (tgt := 55) dX3_isHeldBy_50 rfl (fun q50 => ?_) (fun q50 => ?_)
            · replace hf := iff_ hf q50
              refine g_aload_n (M := mX3_isHeldBy) dX3_isHeldBy_55 rfl 2 rfl ?_
              obtain ⟨v7, ev7, hf⟩ := bd hf
              refine g_getR (M := mX3_isHeldBy) dX3_isHeldBy_56 flRX3_41 (fun _ => rfl) ev7 ?_
              refine g_astore_n (M := mX3_isHeldBy) (L2 := [(3, vr v7), (0, vr (some a0)), (2, vi a2)]) dX3_isHeldBy_59 rfl (Nat.le_of_ble_eq_true rfl) rfl ?_
              refine g_goto (M := mX3_isHeldBy) (tgt := 11) dX3_isHeldBy_60 rfl ?_
              exact g_sub (M := mX3_isHeldBy) (L2 := [(0, vr (some a0)), (2, vi a2), (3, vr v7)]) [1, 2, 0] rfl <| ih a0 a2 v7 h _ hf
            · replace hf := ift hf q50
              refine g_iconst (M := mX3_isHeldBy) (v := 0) dX3_isHeldBy_53 rfl ?_
              cases hf
              exact g_ret (M := mX3_isHeldBy) dX3_isHeldBy_54 rfl
def f_X3_isHeldBy (a0 : Nat) (a1 : Option Nat) (a2 : Int32) (h : AH) : Option Bool :=
  (gR 3 7 h (some a0)).bind fun v8 =>
  if v8 = none then (
    some false
  ) else (
    f_X3_isHeldBy_11 FU a0 a2 a1 h
  )
theorem x_X3_isHeldBy (G : Gm) (a0 : Nat) (a1 : Option Nat) (a2 : Int32) (h : AH) (o : Bool) (hf : f_X3_isHeldBy a0 a1 a2 h = some o) : GO G mX3_isHeldBy 0 0 0 [(0, vr (some a0)), (1, vr a1), (2, vi a2)] [] h (some (vi (b2i o))) h := by
  unfold f_X3_isHeldBy at hf
  refine g_aload_n (M := mX3_isHeldBy) dX3_isHeldBy_0 rfl 0 rfl ?_
  obtain ⟨v8, ev8, hf⟩ := bd hf
  refine g_getR (M := mX3_isHeldBy) dX3_isHeldBy_1 flRX3_54 (fun _ => rfl) ev8 ?_
  refine g_ifnonnull (M := mX3_isHeldBy) (tgt := 9) dX3_isHeldBy_4 rfl (fun q4 => ?_) (fun q4 => ?_)
  · replace hf := iff_ hf q4
    refine g_aload_n (M := mX3_isHeldBy) dX3_isHeldBy_9 rfl 1 rfl ?_
    refine g_astore_n (M := mX3_isHeldBy) (L2 := [(3, vr a1), (0, vr (some a0)), (1, vr a1), (2, vi a2)]) dX3_isHeldBy_10 rfl (Nat.le_of_ble_eq_true rfl) rfl ?_
    exact g_sub (M := mX3_isHeldBy) (L2 := [(0, vr (some a0)), (2, vi a2), (3, vr a1)]) [1, 3, 0] rfl <| x_X3_isHeldBy_11 G FU a0 a2 a1 h _ hf
  · replace hf := ift hf q4
    refine g_iconst (M := mX3_isHeldBy) (v := 0) dX3_isHeldBy_7 rfl ?_
    cases hf
    exact g_ret (M := mX3_isHeldBy) dX3_isHeldBy_8 rfl
theorem c_X3_isHeldBy (G : Gm) (a0 : Nat) (a1 : Option Nat) (a2 : Int32) (h : AH) (o : Bool) (hf : f_X3_isHeldBy a0 a1 a2 h = some o) : CT G yX3_isHeldBy mX3_isHeldBy (some .boolean) 0 0 [vr (some a0), vr a1, vi a2] h (some (vi (b2i o))) h :=
  CT.bool (by decide +kernel) rfl rfl rfl (Nat.le_of_ble_eq_true rfl) (b2i_01 _) (x_X3_isHeldBy G a0 a1 a2 h o hf)
theorem cbX3_isHeldBy : CB yX3_isHeldBy mX3_isHeldBy (some .boolean) 2 := ⟨cd_yX3_isHeldBy, itRX3, ⟨by decide, by decide⟩, by decide +kernel, by decide⟩
abbrev mX6_fill : MI := (RX6, "fill", cX6_fill, 7, .return_, 2)
def f_X6_fill_73 (K0 : Nat → Option Nat → Option Nat → Int32 → Int32 → Int32 → AH → Option AH) (a0 : Nat) (a1 : Option Nat) (a2 : Option Nat) (a3 : Int32) (a4 : Int32) (a5 : Int32) (s0 : Option Nat) (s1 : Int32) (s2 : Int32) (h : AH) : Option AH :=
  (stZ 12 h s0 s1 s2).bind fun h1 =>
  K0 a0 a1 a2 a3 a4 (a5 + (1)) h1
theorem x_X6_fill_73 (G : Gm) (K0 : Nat → Option Nat → Option Nat → Int32 → Int32 → Int32 → AH → Option AH) (hK0 : ∀ (a0 : Nat) (a1 : Option Nat) (a2 : Option Nat) (a3 : Int32) (a4 : Int32) (a5 : Int32) (h : AH) (o : AH), K0 a0 a1 a2 a3 a4 a5 h = some o → GO G mX6_fill 0 0 8 [(0, vr (some a0)), (1, vr a1), (2, vr a2), (3, vi a3), (4, vi a4), (5, vi a5)] [] h none o) (a0 : Nat) (a1 : Option Nat) (a2 : Option Nat) (a3 : Int32) (a4 : Int32) (a5 : Int32) (s0 : Option Nat) (s1 : Int32) (s2 : Int32) (h : AH) (o : AH) (hf : f_X6_fill_73 K0 a0 a1 a2 a3 a4 a5 s0 s1 s2 h = some o) : GO G mX6_fill 0 0 73 [(0, vr (some a0)), (1, vr a1), (2, vr a2), (3, vi a3), (4, vi a4), (5, vi a5)] [vi s2, vi s1, vr s0] h none o := by
  unfold f_X6_fill_73 at hf
  obtain ⟨h1, eh1, hf⟩ := bd hf
  refine g_zast (M := mX6_fill) dX6_fill_73 eh1 ?_
  refine g_iinc (M := mX6_fill) (j := 5) (L2 := [(5, vi (a5 + (1))), (0, vr (some a0)), (1, vr a1), (2, vr a2), (3, vi a3), (4, vi a4)]) dX6_fill_74 rfl rfl (Nat.le_of_ble_eq_true rfl) rfl ?_
  refine g_goto (M := mX6_fill) (tgt := 8) dX6_fill_77 rfl ?_
  exact g_sub (M := mX6_fill) (L2 := [(0, vr (some a0)), (1, vr a1), (2, vr a2), (3, vi a3), (4, vi a4), (5, vi (a5 + (1)))]) [1, 2, 3, 4, 5, 0] rfl <| hK0 a0 a1 a2 a3 a4 (a5 + (1)) h1 _ hf
def f_X6_fill_72 (K0 : Nat → Option Nat → Option Nat → Int32 → Int32 → Int32 → AH → Option AH) (a0 : Nat) (a1 : Option Nat) (a2 : Option Nat) (a3 : Int32) (a4 : Int32) (a5 : Int32) (s0 : Option Nat) (s1 : Int32) (h : AH) : Option AH :=
  f_X6_fill_73 K0 a0 a1 a2 a3 a4 a5 s0 s1 (0 : Int32) h
theorem x_X6_fill_72 (G : Gm) (K0 : Nat → Option Nat → Option Nat → Int32 → Int32 → Int32 → AH → Option AH) (hK0 : ∀ (a0 : Nat) (a1 : Option Nat) (a2 : Option Nat) (a3 : Int32) (a4 : Int32) (a5 : Int32) (h : AH) (o : AH), K0 a0 a1 a2 a3 a4 a5 h = some o → GO G mX6_fill 0 0 8 [(0, vr (some a0)), (1, vr a1), (2, vr a2), (3, vi a3), (4, vi a4), (5, vi a5)] [] h none o) (a0 : Nat) (a1 : Option Nat) (a2 : Option Nat) (a3 : Int32) (a4 : Int32) (a5 : Int32) (s0 : Option Nat) (s1 : Int32) (h : AH) (o : AH) (hf : f_X6_fill_72 K0 a0 a1 a2 a3 a4 a5 s0 s1 h = some o) : GO G mX6_fill 0 0 72 [(0, vr (some a0)), (1, vr a1), (2, vr a2), (3, vi a3), (4, vi a4), (5, vi a5)] [vi s1, vr s0] h none o := by
  unfold f_X6_fill_72 at hf
  refine g_iconst (M := mX6_fill) (v := 0) dX6_fill_72 rfl ?_
  exact x_X6_fill_73 G K0 hK0 a0 a1 a2 a3 a4 a5 s0 s1 (0 : Int32) h _ hf
def f_X6_fill_8 : Nat → Nat → Option Nat → Option Nat → Int32 → Int32 → Int32 → AH → Option AH
  | 0, _, _, _, _, _, _, _ => none
  | n + 1, a0, a1, a2, a3, a4, a5, h =>
    (gI 4 1 h a1).bind fun v2 =>
    if v2 ≤ a5 then (
      some h
    ) else (
      (gR 6 0 h (some a0)).bind fun v3 =>
      (al h v3).bind fun v4 =>
      if v4 ≤ a5 then (
        some h
      ) else (
        (ck 4 h a1).bind fun b5 =>
        (f_X4_at b5 a5 h).bind fun r6 =>
        (gR 6 0 h (some a0)).bind fun v7 =>
        if r6 = none then (
          f_X6_fill_72 (f_X6_fill_8 n) a0 a1 a2 a3 a4 a5 v7 a5 h
        ) else (
          (ck 3 h r6).bind fun b8 =>
          (f_X3_stands b8 a3 a4 h).bind fun r9 =>
          if (b2i r9) = 0 then (
            f_X6_fill_72 (f_X6_fill_8 n) a0 a1 a2 a3 a4 a5 v7 a5 h
          ) else (
            (ck 3 h r6).bind fun b10 =>
            (f_X3_isHeldBy b10 a2 a4 h).bind fun r11 =>
            if (b2i r11) = 0 then (
              f_X6_fill_72 (f_X6_fill_8 n) a0 a1 a2 a3 a4 a5 v7 a5 h
            ) else (
              f_X6_fill_73 (f_X6_fill_8 n) a0 a1 a2 a3 a4 a5 v7 a5 (1 : Int32) h
            )
          )
        )
      )
    )
theorem x_X6_fill_8 (G : Gm) : ∀ (n : Nat) (a0 : Nat) (a1 : Option Nat) (a2 : Option Nat) (a3 : Int32) (a4 : Int32) (a5 : Int32) (h : AH) (o : AH), f_X6_fill_8 n a0 a1 a2 a3 a4 a5 h = some o → GO G mX6_fill 0 0 8 [(0, vr (some a0)), (1, vr a1), (2, vr a2), (3, vi a3), (4, vi a4), (5, vi a5)] [] h none o := by
  intro n
  induction n with
  | zero => intro a0 a1 a2 a3 a4 a5 h o hf; cases hf
  | succ n ih =>
    intro a0 a1 a2 a3 a4 a5 h o hf
    rw [f_X6_fill_8] at hf
    refine g_iload (M := mX6_fill) dX6_fill_8 5 rfl ?_
    refine g_aload_n (M := mX6_fill) dX6_fill_10 rfl 1 rfl ?_
    obtain ⟨v2, ev2, hf⟩ := bd hf
    refine g_getI (M := mX6_fill) dX6_fill_11 flRX6_19 (fun _ => rfl) ev2 ?_
    refine g_ic_ge (M := mX6_fill) (tgt := 80) dX6_fill_14 rfl (fun q14 => ?_) (fun q14 => ?_)
    · replace hf := ift hf q14
      cases hf
      exact g_ret (M := mX6_fill) dX6_fill_80 rfl
    · replace hf := iff_ hf q14
      refine g_iload (M := mX6_fill) dX6_fill_17 5 rfl ?_
      refine g_aload_n (M := mX6_fill) dX6_fill_19 rfl 0 rfl ?_
      obtain ⟨v3, ev3, hf⟩ := bd hf
      refine g_getR (M := mX6_fill) dX6_fill_20 flRX6_9 (fun _ => rfl) ev3 ?_
      obtain ⟨v4, ev4, hf⟩ := bd hf
      refine g_alen (M := mX6_fill) dX6_fill_23 ev4 ?_
      refine g_ic_ge (M := mX6_fill) (tgt := 80) dX6_fill_24 rfl (fun q24 => ?_) (fun q24 => ?_)
      · replace hf := ift hf q24
        cases hf
        exact g_ret (M := mX6_fill) dX6_fill_80 rfl
      · replace hf := iff_ hf q24
        refine g_aload_n (M := mX6_fill) dX6_fill_27 rfl 1 rfl ?_
        refine g_iload (M := mX6_fill) dX6_fill_28 5 rfl ?_
        obtain ⟨b5, eb5, hf⟩ := bd hf
        obtain ⟨r6, er6, hf⟩ := bd hf
        refine g_callV (M := mX6_fill) (kc := 0) (ks := 0) (as := [vi a5]) (rest := []) dX6_fill_30 cbX4_at vwRX6_25 rfl eb5 rfl (Nat.le_of_ble_eq_true rfl) (Nat.le_of_ble_eq_true rfl) (c_X4_at G b5 a5 h r6 er6) ?_
        refine g_astore (M := mX6_fill) (L2 := [(6, vr r6), (0, vr (some a0)), (1, vr a1), (2, vr a2), (3, vi a3), (4, vi a4), (5, vi a5)]) dX6_fill_33 (Nat.le_of_ble_eq_true rfl) rfl ?_
        refine g_aload_n (M := mX6_fill) dX6_fill_35 rfl 1 rfl ?_
        obtain ⟨v7, ev7, hf⟩ := bd hf
        refine g_getR (M := mX6_fill) dX6_fill_36 flRX6_9 (fun _ => rfl) ev7 ?_
        refine g_iload (M := mX6_fill) dX6_fill_39 6 rfl ?_
        refine g_aload (M := mX6_fill) dX6_fill_41 0 rfl ?_
        refine g_ifnull (M := mX6_fill) (tgt := 72) dX6_fill_43 rfl (fun q43 => ?_) (fun q43 => ?_)
        · replace hf := ift hf q43
          exact g_sub (M := mX6_fill) (L2 := [(0, vr (some a0)), (1, vr a1), (2, vr a2), (3, vi a3), (4, vi a4), (5, vi a5)]) [1, 2, 3, 4, 5, 6] rfl <| x_X6_fill_72 G (f_X6_fill_8 n) ih a0 a1 a2 a3 a4 a5 v7 a5 h _ hf
        · replace hf := iff_ hf q43
          refine g_aload (M := mX6_fill) dX6_fill_46 0 rfl ?_
          refine g_iload_n (M := mX6_fill) dX6_fill_48 rfl 4 rfl ?_
          refine g_iload (M := mX6_fill) dX6_fill_49 5 rfl ?_
          obtain ⟨b8, eb8, hf⟩ := bd hf
          obtain ⟨r9, er9, hf⟩ := bd hf
          refine g_callV (M := mX6_fill) (kc := 0) (ks := 0) (as := [vi a3, vi a4]) (rest := [vi a5, vr v7]) dX6_fill_51 cbX3_stands vwRX6_29 rfl eb8 rfl (Nat.le_of_ble_eq_true rfl) (Nat.le_of_ble_eq_true rfl) (c_X3_stands G b8 a3 a4 h r9 er9) ?_
          refine g_if_eq (M := mX6_fill) (tgt := 72) dX6_fill_54 rfl (fun q54 => ?_) (fun q54 => ?_)
          · replace hf := ift hf q54
            exact g_sub (M := mX6_fill) (L2 := [(0, vr (some a0)), (1, vr a1), (2, vr a2), (3, vi a3), (4, vi a4), (5, vi a5)]) [1, 2, 3, 4, 5, 6] rfl <| x_X6_fill_72 G (f_X6_fill_8 n) ih a0 a1 a2 a3 a4 a5 v7 a5 h _ hf
          · replace hf := iff_ hf q54
            refine g_aload (M := mX6_fill) dX6_fill_57 0 rfl ?_
            refine g_aload_n (M := mX6_fill) dX6_fill_59 rfl 3 rfl ?_
            refine g_iload (M := mX6_fill) dX6_fill_60 5 rfl ?_
            obtain ⟨b10, eb10, hf⟩ := bd hf
            obtain ⟨r11, er11, hf⟩ := bd hf
            refine g_callV (M := mX6_fill) (kc := 0) (ks := 0) (as := [vr a2, vi a4]) (rest := [vi a5, vr v7]) dX6_fill_62 cbX3_isHeldBy vwRX6_35 rfl eb10 rfl (Nat.le_of_ble_eq_true rfl) (Nat.le_of_ble_eq_true rfl) (c_X3_isHeldBy G b10 a2 a4 h r11 er11) ?_
            refine g_if_eq (M := mX6_fill) (tgt := 72) dX6_fill_65 rfl (fun q65 => ?_) (fun q65 => ?_)
            · replace hf := ift hf q65
              exact g_sub (M := mX6_fill) (L2 := [(0, vr (some a0)), (1, vr a1), (2, vr a2), (3, vi a3), (4, vi a4), (5, vi a5)]) [1, 2, 3, 4, 5, 6] rfl <| x_X6_fill_72 G (f_X6_fill_8 n) ih a0 a1 a2 a3 a4 a5 v7 a5 h _ hf
            · replace hf := iff_ hf q65
              refine g_iconst (M := mX6_fill) (v := 1) dX6_fill_68 rfl ?_
              refine g_goto (M := mX6_fill) (tgt := 73) dX6_fill_69 rfl ?_
              exact g_sub (M := mX6_fill) (L2 := [(0, vr (some a0)), (1, vr a1), (2, vr a2), (3, vi a3), (4, vi a4), (5, vi a5)]) [1, 2, 3, 4, 5, 6] rfl <| x_X6_fill_73 G (f_X6_fill_8 n) ih a0 a1 a2 a3 a4 a5 v7 a5 (1 : Int32) h _ hf
def f_X6_fill (a0 : Nat) (a1 : Option Nat) (a2 : Option Nat) (a3 : Int32) (a4 : Int32) (h : AH) : Option AH :=
  (pR 6 1 h (some a0) a2).bind fun h12 =>
  f_X6_fill_8 FU a0 a1 a2 a3 a4 (0 : Int32) h12
theorem x_X6_fill (G : Gm) (a0 : Nat) (a1 : Option Nat) (a2 : Option Nat) (a3 : Int32) (a4 : Int32) (h : AH) (o : AH) (hf : f_X6_fill a0 a1 a2 a3 a4 h = some o) : GO G mX6_fill 0 0 0 [(0, vr (some a0)), (1, vr a1), (2, vr a2), (3, vi a3), (4, vi a4)] [] h none o := by
  unfold f_X6_fill at hf
  refine g_aload_n (M := mX6_fill) dX6_fill_0 rfl 0 rfl ?_
  refine g_aload_n (M := mX6_fill) dX6_fill_1 rfl 2 rfl ?_
  obtain ⟨h12, eh12, hf⟩ := bd hf
  refine g_putR (M := mX6_fill) dX6_fill_2 flRX6_15 (Or.inl ⟨_, rfl⟩) eh12 ?_
  refine g_iconst (M := mX6_fill) (v := 0) dX6_fill_5 rfl ?_
  refine g_istore (M := mX6_fill) (L2 := [(5, vi (0 : Int32)), (0, vr (some a0)), (1, vr a1), (2, vr a2), (3, vi a3), (4, vi a4)]) dX6_fill_6 (Nat.le_of_ble_eq_true rfl) rfl ?_
  exact g_sub (M := mX6_fill) (L2 := [(0, vr (some a0)), (1, vr a1), (2, vr a2), (3, vi a3), (4, vi a4), (5, vi (0 : Int32))]) [1, 2, 3, 4, 5, 0] rfl <| x_X6_fill_8 G FU a0 a1 a2 a3 a4 (0 : Int32) h12 _ hf
theorem c_X6_fill (G : Gm) (a0 : Nat) (a1 : Option Nat) (a2 : Option Nat) (a3 : Int32) (a4 : Int32) (h : AH) (o : AH) (hf : f_X6_fill a0 a1 a2 a3 a4 h = some o) : CT G yX6_fill mX6_fill none 0 0 [vr (some a0), vr a1, vr a2, vi a3, vi a4] h none o :=
  CT.void (by decide +kernel) rfl rfl rfl (Nat.le_of_ble_eq_true rfl) (x_X6_fill G a0 a1 a2 a3 a4 h o hf)
theorem cbX6_fill : CB yX6_fill mX6_fill none 4 := ⟨cd_yX6_fill, itRX6, ⟨by decide, by decide⟩, by decide +kernel, by decide⟩
abbrev mX6_hasPaper : MI := (RX6, "hasPaper", cX6_hasPaper, 2, .ireturn, 0)
def f_X6_hasPaper (a0 : Nat) (a1 : Option Nat) (h : AH) : Option Bool :=
  if a1 = none then (
    some false
  ) else (
    (gI 3 0 h a1).bind fun v1 =>
    if v1 < 0 then (
      some false
    ) else (
      (gI 3 0 h a1).bind fun v2 =>
      (gR 6 0 h (some a0)).bind fun v3 =>
      (al h v3).bind fun v4 =>
      if v4 ≤ v2 then (
        some false
      ) else (
        (gR 6 0 h (some a0)).bind fun v5 =>
        (gI 3 0 h a1).bind fun v6 =>
        (lI 12 h v5 v6).bind fun v7 =>
        if v7 = 0 then (
          some false
        ) else (
          some true
        )
      )
    )
  )
theorem x_X6_hasPaper (G : Gm) (a0 : Nat) (a1 : Option Nat) (h : AH) (o : Bool) (hf : f_X6_hasPaper a0 a1 h = some o) : GO G mX6_hasPaper 0 0 0 [(0, vr (some a0)), (1, vr a1)] [] h (some (vi (b2i o))) h := by
  unfold f_X6_hasPaper at hf
  refine g_aload_n (M := mX6_hasPaper) dX6_hasPaper_0 rfl 1 rfl ?_
  refine g_ifnull (M := mX6_hasPaper) (tgt := 39) dX6_hasPaper_1 rfl (fun q1 => ?_) (fun q1 => ?_)
  · replace hf := ift hf q1
    refine g_iconst (M := mX6_hasPaper) (v := 0) dX6_hasPaper_39 rfl ?_
    cases hf
    exact g_ret (M := mX6_hasPaper) dX6_hasPaper_40 rfl
  · replace hf := iff_ hf q1
    refine g_aload_n (M := mX6_hasPaper) dX6_hasPaper_4 rfl 1 rfl ?_
    obtain ⟨v1, ev1, hf⟩ := bd hf
    refine g_getI (M := mX6_hasPaper) dX6_hasPaper_5 flRX6_39 (fun _ => rfl) ev1 ?_
    refine g_if_lt (M := mX6_hasPaper) (tgt := 39) dX6_hasPaper_8 rfl (fun q8 => ?_) (fun q8 => ?_)
    · replace hf := ift hf q8
      refine g_iconst (M := mX6_hasPaper) (v := 0) dX6_hasPaper_39 rfl ?_
      cases hf
      exact g_ret (M := mX6_hasPaper) dX6_hasPaper_40 rfl
    · replace hf := iff_ hf q8
      refine g_aload_n (M := mX6_hasPaper) dX6_hasPaper_11 rfl 1 rfl ?_
      obtain ⟨v2, ev2, hf⟩ := bd hf
      refine g_getI (M := mX6_hasPaper) dX6_hasPaper_12 flRX6_39 (fun _ => rfl) ev2 ?_
      refine g_aload_n (M := mX6_hasPaper) dX6_hasPaper_15 rfl 0 rfl ?_
      obtain ⟨v3, ev3, hf⟩ := bd hf
      refine g_getR (M := mX6_hasPaper) dX6_hasPaper_16 flRX6_9 (fun _ => rfl) ev3 ?_
      obtain ⟨v4, ev4, hf⟩ := bd hf
      refine g_alen (M := mX6_hasPaper) dX6_hasPaper_19 ev4 ?_
      refine g_ic_ge (M := mX6_hasPaper) (tgt := 39) dX6_hasPaper_20 rfl (fun q20 => ?_) (fun q20 => ?_)
      · replace hf := ift hf q20
        refine g_iconst (M := mX6_hasPaper) (v := 0) dX6_hasPaper_39 rfl ?_
        cases hf
        exact g_ret (M := mX6_hasPaper) dX6_hasPaper_40 rfl
      · replace hf := iff_ hf q20
        refine g_aload_n (M := mX6_hasPaper) dX6_hasPaper_23 rfl 0 rfl ?_
        obtain ⟨v5, ev5, hf⟩ := bd hf
        refine g_getR (M := mX6_hasPaper) dX6_hasPaper_24 flRX6_9 (fun _ => rfl) ev5 ?_
        refine g_aload_n (M := mX6_hasPaper) dX6_hasPaper_27 rfl 1 rfl ?_
        obtain ⟨v6, ev6, hf⟩ := bd hf
        refine g_getI (M := mX6_hasPaper) dX6_hasPaper_28 flRX6_39 (fun _ => rfl) ev6 ?_
        obtain ⟨v7, ev7, hf⟩ := bd hf
        refine g_zald (M := mX6_hasPaper) dX6_hasPaper_31 ev7 ?_
        refine g_if_eq (M := mX6_hasPaper) (tgt := 39) dX6_hasPaper_32 rfl (fun q32 => ?_) (fun q32 => ?_)
        · replace hf := ift hf q32
          refine g_iconst (M := mX6_hasPaper) (v := 0) dX6_hasPaper_39 rfl ?_
          cases hf
          exact g_ret (M := mX6_hasPaper) dX6_hasPaper_40 rfl
        · replace hf := iff_ hf q32
          refine g_iconst (M := mX6_hasPaper) (v := 1) dX6_hasPaper_35 rfl ?_
          refine g_goto (M := mX6_hasPaper) (tgt := 40) dX6_hasPaper_36 rfl ?_
          cases hf
          exact g_ret (M := mX6_hasPaper) dX6_hasPaper_40 rfl
theorem c_X6_hasPaper (G : Gm) (a0 : Nat) (a1 : Option Nat) (h : AH) (o : Bool) (hf : f_X6_hasPaper a0 a1 h = some o) : CT G yX6_hasPaper mX6_hasPaper (some .boolean) 0 0 [vr (some a0), vr a1] h (some (vi (b2i o))) h :=
  CT.bool (by decide +kernel) rfl rfl rfl (Nat.le_of_ble_eq_true rfl) (b2i_01 _) (x_X6_hasPaper G a0 a1 h o hf)
theorem cbX6_hasPaper : CB yX6_hasPaper mX6_hasPaper (some .boolean) 1 := ⟨cd_yX6_hasPaper, itRX6, ⟨by decide, by decide⟩, by decide +kernel, by decide⟩
abbrev mX2_dividesThem : MI := (RX2, "dividesThem", cX2_dividesThem, 2, .ireturn, 1)
def f_X2_dividesThem_25 (a0 : Nat) (a1 : Option Nat) (h : AH) : Option Bool :=
  (gR 2 2 h (some a0)).bind fun v1 =>
  (ck 6 h v1).bind fun b2 =>
  (f_X6_hasPaper b2 a1 h).bind fun r3 =>
  if (b2i r3) = 0 then (
    some false
  ) else (
    (gR 2 1 h (some a0)).bind fun v4 =>
    (gR 3 6 h a1).bind fun v5 =>
    (ck 6 h v4).bind fun b6 =>
    (f_X6_hasPaper b6 v5 h).bind fun r7 =>
    if (b2i r7) = 0 then (
      some false
    ) else (
      some true
    )
  )
theorem x_X2_dividesThem_25 (G : Gm) (a0 : Nat) (a1 : Option Nat) (h : AH) (o : Bool) (hf : f_X2_dividesThem_25 a0 a1 h = some o) : GO G mX2_dividesThem 0 0 25 [(0, vr (some a0)), (1, vr a1)] [] h (some (vi (b2i o))) h := by
  unfold f_X2_dividesThem_25 at hf
  refine g_aload_n (M := mX2_dividesThem) dX2_dividesThem_25 rfl 0 rfl ?_
  obtain ⟨v1, ev1, hf⟩ := bd hf
  refine g_getR (M := mX2_dividesThem) dX2_dividesThem_26 flRX2_25 (fun _ => rfl) ev1 ?_
  refine g_aload_n (M := mX2_dividesThem) dX2_dividesThem_29 rfl 1 rfl ?_
  obtain ⟨b2, eb2, hf⟩ := bd hf
  obtain ⟨r3, er3, hf⟩ := bd hf
  refine g_callV (M := mX2_dividesThem) (kc := 0) (ks := 0) (as := [vr a1]) (rest := []) dX2_dividesThem_30 cbX6_hasPaper vwRX2_117 rfl eb2 rfl (Nat.le_of_ble_eq_true rfl) (Nat.le_of_ble_eq_true rfl) (c_X6_hasPaper G b2 a1 h r3 er3) ?_
  refine g_if_eq (M := mX2_dividesThem) (tgt := 54) dX2_dividesThem_33 rfl (fun q33 => ?_) (fun q33 => ?_)
  · replace hf := ift hf q33
    refine g_iconst (M := mX2_dividesThem) (v := 0) dX2_dividesThem_54 rfl ?_
    cases hf
    exact g_ret (M := mX2_dividesThem) dX2_dividesThem_55 rfl
  · replace hf := iff_ hf q33
    refine g_aload_n (M := mX2_dividesThem) dX2_dividesThem_36 rfl 0 rfl ?_
    obtain ⟨v4, ev4, hf⟩ := bd hf
    refine g_getR (M := mX2_dividesThem) dX2_dividesThem_37 flRX2_21 (fun _ => rfl) ev4 ?_
    refine g_aload_n (M := mX2_dividesThem) dX2_dividesThem_40 rfl 1 rfl ?_
    obtain ⟨v5, ev5, hf⟩ := bd hf
    refine g_getR (M := mX2_dividesThem) dX2_dividesThem_41 flRX2_64 (fun _ => rfl) ev5 ?_
    obtain ⟨b6, eb6, hf⟩ := bd hf
    obtain ⟨r7, er7, hf⟩ := bd hf
    refine g_callV (M := mX2_dividesThem) (kc := 0) (ks := 0) (as := [vr v5]) (rest := []) dX2_dividesThem_44 cbX6_hasPaper vwRX2_117 rfl eb6 rfl (Nat.le_of_ble_eq_true rfl) (Nat.le_of_ble_eq_true rfl) (c_X6_hasPaper G b6 v5 h r7 er7) ?_
    refine g_if_eq (M := mX2_dividesThem) (tgt := 54) dX2_dividesThem_47 rfl (fun q47 => ?_) (fun q47 => ?_)
    · replace hf := ift hf q47
      refine g_iconst (M := mX2_dividesThem) (v := 0) dX2_dividesThem_54 rfl ?_
      cases hf
      exact g_ret (M := mX2_dividesThem) dX2_dividesThem_55 rfl
    · replace hf := iff_ hf q47
      refine g_iconst (M := mX2_dividesThem) (v := 1) dX2_dividesThem_50 rfl ?_
      refine g_goto (M := mX2_dividesThem) (tgt := 55) dX2_dividesThem_51 rfl ?_
      cases hf
      exact g_ret (M := mX2_dividesThem) dX2_dividesThem_55 rfl
def f_X2_dividesThem (a0 : Nat) (a1 : Option Nat) (h : AH) : Option Bool :=
  (gR 2 1 h (some a0)).bind fun v8 =>
  (ck 6 h v8).bind fun b9 =>
  (f_X6_hasPaper b9 a1 h).bind fun r10 =>
  if (b2i r10) = 0 then (
    f_X2_dividesThem_25 a0 a1 h
  ) else (
    (gR 2 2 h (some a0)).bind fun v11 =>
    (gR 3 6 h a1).bind fun v12 =>
    (ck 6 h v11).bind fun b13 =>
    (f_X6_hasPaper b13 v12 h).bind fun r14 =>
    if (b2i r14) = 0 then (
      f_X2_dividesThem_25 a0 a1 h
    ) else (
      some true
    )
  )
theorem x_X2_dividesThem (G : Gm) (a0 : Nat) (a1 : Option Nat) (h : AH) (o : Bool) (hf : f_X2_dividesThem a0 a1 h = some o) : GO G mX2_dividesThem 0 0 0 [(0, vr (some a0)), (1, vr a1)] [] h (some (vi (b2i o))) h := by
  unfold f_X2_dividesThem at hf
  refine g_aload_n (M := mX2_dividesThem) dX2_dividesThem_0 rfl 0 rfl ?_
  obtain ⟨v8, ev8, hf⟩ := bd hf
  refine g_getR (M := mX2_dividesThem) dX2_dividesThem_1 flRX2_21 (fun _ => rfl) ev8 ?_
  refine g_aload_n (M := mX2_dividesThem) dX2_dividesThem_4 rfl 1 rfl ?_
  obtain ⟨b9, eb9, hf⟩ := bd hf
  obtain ⟨r10, er10, hf⟩ := bd hf
  refine g_callV (M := mX2_dividesThem) (kc := 0) (ks := 0) (as := [vr a1]) (rest := []) dX2_dividesThem_5 cbX6_hasPaper vwRX2_117 rfl eb9 rfl (Nat.le_of_ble_eq_true rfl) (Nat.le_of_ble_eq_true rfl) (c_X6_hasPaper G b9 a1 h r10 er10) ?_
  refine g_if_eq (M := mX2_dividesThem) (tgt := 25) dX2_dividesThem_8 rfl (fun q8 => ?_) (fun q8 => ?_)
  · replace hf := ift hf q8
    exact x_X2_dividesThem_25 G a0 a1 h _ hf
  · replace hf := iff_ hf q8
    refine g_aload_n (M := mX2_dividesThem) dX2_dividesThem_11 rfl 0 rfl ?_
    obtain ⟨v11, ev11, hf⟩ := bd hf
    refine g_getR (M := mX2_dividesThem) dX2_dividesThem_12 flRX2_25 (fun _ => rfl) ev11 ?_
    refine g_aload_n (M := mX2_dividesThem) dX2_dividesThem_15 rfl 1 rfl ?_
    obtain ⟨v12, ev12, hf⟩ := bd hf
    refine g_getR (M := mX2_dividesThem) dX2_dividesThem_16 flRX2_64 (fun _ => rfl) ev12 ?_
    obtain ⟨b13, eb13, hf⟩ := bd hf
    obtain ⟨r14, er14, hf⟩ := bd hf
    refine g_callV (M := mX2_dividesThem) (kc := 0) (ks := 0) (as := [vr v12]) (rest := []) dX2_dividesThem_19 cbX6_hasPaper vwRX2_117 rfl eb13 rfl (Nat.le_of_ble_eq_true rfl) (Nat.le_of_ble_eq_true rfl) (c_X6_hasPaper G b13 v12 h r14 er14) ?_
    refine g_if_ne (M := mX2_dividesThem) (tgt := 50) dX2_dividesThem_22 rfl (fun q22 => ?_) (fun q22 => ?_)
    · replace hf := iff_ hf q22
      refine g_iconst (M := mX2_dividesThem) (v := 1) dX2_dividesThem_50 rfl ?_
      refine g_goto (M := mX2_dividesThem) (tgt := 55) dX2_dividesThem_51 rfl ?_
      cases hf
      exact g_ret (M := mX2_dividesThem) dX2_dividesThem_55 rfl
    · replace hf := ift hf q22
      exact x_X2_dividesThem_25 G a0 a1 h _ hf
theorem c_X2_dividesThem (G : Gm) (a0 : Nat) (a1 : Option Nat) (h : AH) (o : Bool) (hf : f_X2_dividesThem a0 a1 h = some o) : CT G yX2_dividesThem mX2_dividesThem (some .boolean) 0 0 [vr (some a0), vr a1] h (some (vi (b2i o))) h :=
  CT.bool (by decide +kernel) rfl rfl rfl (Nat.le_of_ble_eq_true rfl) (b2i_01 _) (x_X2_dividesThem G a0 a1 h o hf)
theorem cbX2_dividesThem : CB yX2_dividesThem mX2_dividesThem (some .boolean) 1 := ⟨cd_yX2_dividesThem, itRX2, ⟨by decide, by decide⟩, by decide +kernel, by decide⟩
