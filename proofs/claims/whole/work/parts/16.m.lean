abbrev mX7_init : MI := (RX7, "<init>", cX7_init, 1, .return_, 3)
def f_X7_init (a0 : Nat) (h : AH) : Option AH :=
  (na 14 10 h (10 : Int32)).bind fun h1 =>
  (pR 7 0 h1 (some a0) (some (hz h))).bind fun h2 =>
  (f_X4_init (hz h2) (nw h2 4 0)).bind fun r3 =>
  (pR 7 1 r3 (some a0) (some (hz h2))).bind fun h4 =>
  (f_X5_init (hz h4) (nw h4 5 0)).bind fun r5 =>
  (pR 7 2 r5 (some a0) (some (hz h4))).bind fun h6 =>
  (f_X2_init (hz h6) (nw h6 2 0)).bind fun r7 =>
  (pR 7 3 r7 (some a0) (some (hz h6))).bind fun h8 =>
  some h8
theorem x_X7_init (G : Gm) (a0 : Nat) (h : AH) (o : AH) (hf : f_X7_init a0 h = some o) : GO G mX7_init 13 1692 0 [(0, vr (some a0))] [] h none o := by
  unfold f_X7_init at hf
  refine g_aload_n (M := mX7_init) dX7_init_0 rfl 0 rfl ?_
  refine g_obj (M := mX7_init) dX7_init_1 mlRX7_1 im_objectInit cd_objectInit (Nat.le_of_ble_eq_true rfl) (by decide) ?_
  refine g_aload_n (M := mX7_init) dX7_init_4 rfl 0 rfl ?_
  refine g_bipush (M := mX7_init) (v := 10) dX7_init_5 rfl ?_
  obtain ⟨h1, eh1, hf⟩ := bd hf
  refine g_anew (M := mX7_init) (kc := 12) (ks := 1682) (t := 14) (j := 4) (cn := RX0) rfl (Nat.le_of_ble_eq_true rfl) (fun _ => rfl) (fun _ z => z.2.2.2.2.1) dX7_init_7 clRX7_9 (Nat.le_of_ble_eq_true rfl) eh1 ?_
  obtain ⟨h2, eh2, hf⟩ := bd hf
  refine g_putRF (M := mX7_init) dX7_init_10 flRX7_11 rfl rfl (Or.inr ⟨_, rfl⟩) eh2 ?_
  refine g_aload_n (M := mX7_init) dX7_init_13 rfl 0 rfl ?_
  refine g_new (M := mX7_init) (kc := 11) (ks := 1680) dX7_init_14 ck4 clRX7_15 inRX4 itRX4 (by decide) ?_
  refine g_dup (M := mX7_init) dX7_init_17 rfl ?_
  obtain ⟨r3, er3, hf⟩ := bd hf
  refine g_callI (M := mX7_init) (kc := 10) (ks := 1280) (as := []) (rest := [vr (some (hz h2)), vr (some a0)]) (b := (hz h2)) dX7_init_18 cbX4_init mlRX7_17 im_yX4_init rfl rfl rfl (Nat.le_of_ble_eq_true rfl) (Nat.le_of_ble_eq_true rfl) (c_X4_init G (hz h2) (nw h2 4 0) r3 er3) ?_
  obtain ⟨h4, eh4, hf⟩ := bd hf
  refine g_putRF (M := mX7_init) dX7_init_21 flRX7_18 rfl rfl (Or.inl ⟨_, rfl⟩) eh4 ?_
  refine g_aload_n (M := mX7_init) dX7_init_24 rfl 0 rfl ?_
  refine g_new (M := mX7_init) (kc := 9) (ks := 1278) dX7_init_25 ck5 clRX7_22 inRX5 itRX5 (by decide) ?_
  refine g_dup (M := mX7_init) dX7_init_28 rfl ?_
  obtain ⟨r5, er5, hf⟩ := bd hf
  refine g_callI (M := mX7_init) (kc := 8) (ks := 1248) (as := []) (rest := [vr (some (hz h4)), vr (some a0)]) (b := (hz h4)) dX7_init_29 cbX5_init mlRX7_24 im_yX5_init rfl rfl rfl (Nat.le_of_ble_eq_true rfl) (Nat.le_of_ble_eq_true rfl) (c_X5_init G (hz h4) (nw h4 5 0) r5 er5) ?_
  obtain ⟨h6, eh6, hf⟩ := bd hf
  refine g_putRF (M := mX7_init) dX7_init_32 flRX7_25 rfl rfl (Or.inl ⟨_, rfl⟩) eh6 ?_
  refine g_aload_n (M := mX7_init) dX7_init_35 rfl 0 rfl ?_
  refine g_new (M := mX7_init) (kc := 7) (ks := 1236) dX7_init_36 ck2 clRX7_29 inRX2 itRX2 (by decide) ?_
  refine g_dup (M := mX7_init) dX7_init_39 rfl ?_
  obtain ⟨r7, er7, hf⟩ := bd hf
  refine g_callI (M := mX7_init) (kc := 0) (ks := 0) (as := []) (rest := [vr (some (hz h6)), vr (some a0)]) (b := (hz h6)) dX7_init_40 cbX2_init mlRX7_31 im_yX2_init rfl rfl rfl (Nat.le_of_ble_eq_true rfl) (Nat.le_of_ble_eq_true rfl) (c_X2_init G (hz h6) (nw h6 2 0) r7 er7) ?_
  obtain ⟨h8, eh8, hf⟩ := bd hf
  refine g_putRF (M := mX7_init) dX7_init_43 flRX7_32 rfl rfl (Or.inl ⟨_, rfl⟩) eh8 ?_
  cases hf
  exact g_ret (M := mX7_init) dX7_init_46 rfl
theorem c_X7_init (G : Gm) (a0 : Nat) (h : AH) (o : AH) (hf : f_X7_init a0 h = some o) : CT G yX7_init mX7_init none 13 1692 [vr (some a0)] h none o :=
  CT.void (by decide +kernel) rfl rfl rfl (Nat.le_of_ble_eq_true rfl) (x_X7_init G a0 h o hf)
theorem cbX7_init : CB yX7_init mX7_init none 0 := ⟨cd_yX7_init, itRX7, ⟨by decide, by decide⟩, by decide +kernel, by decide⟩
abbrev mX7_party : MI := (RX7, "party", cX7_party, 1, .ireturn, 0)
def f_X7_party (a0 : Nat) (h : AH) : Option (Int32 × AH) :=
  (gI 7 5 h (some a0)).bind fun v1 =>
  if v1 < (30 : Int32) then (
    (gI 7 5 h (some a0)).bind fun v2 =>
    (pI 7 5 h (some a0) (v2 + (1 : Int32))).bind fun h3 =>
    (gI 7 5 h3 (some a0)).bind fun v4 =>
    some (v4 - (1 : Int32), h3)
  ) else (
    some ((-1 : Int32), h)
  )
theorem x_X7_party (G : Gm) (a0 : Nat) (h : AH) (o : (Int32 × AH)) (hf : f_X7_party a0 h = some o) : GO G mX7_party 0 0 0 [(0, vr (some a0))] [] h (some (vi o.1)) o.2 := by
  unfold f_X7_party at hf
  refine g_aload_n (M := mX7_party) dX7_party_0 rfl 0 rfl ?_
  obtain ⟨v1, ev1, hf⟩ := bd hf
  refine g_getI (M := mX7_party) dX7_party_1 flRX7_36 (fun _ => rfl) ev1 ?_
  refine g_bipush (M := mX7_party) (v := 30) dX7_party_4 rfl ?_
  refine g_ic_lt (M := mX7_party) (tgt := 11) dX7_party_6 rfl (fun q6 => ?_) (fun q6 => ?_)
  · replace hf := ift hf q6
    refine g_aload_n (M := mX7_party) dX7_party_11 rfl 0 rfl ?_
    refine g_dup (M := mX7_party) dX7_party_12 rfl ?_
    obtain ⟨v2, ev2, hf⟩ := bd hf
    refine g_getI (M := mX7_party) dX7_party_13 flRX7_36 (fun _ => rfl) ev2 ?_
    refine g_iconst (M := mX7_party) (v := 1) dX7_party_16 rfl ?_
    refine g_iadd (M := mX7_party) dX7_party_17 ?_
    obtain ⟨h3, eh3, hf⟩ := bd hf
    refine g_putI (M := mX7_party) dX7_party_18 flRX7_36 rfl eh3 ?_
    refine g_aload_n (M := mX7_party) dX7_party_21 rfl 0 rfl ?_
    obtain ⟨v4, ev4, hf⟩ := bd hf
    refine g_getI (M := mX7_party) dX7_party_22 flRX7_36 (fun _ => rfl) ev4 ?_
    refine g_iconst (M := mX7_party) (v := 1) dX7_party_25 rfl ?_
    refine g_isub (M := mX7_party) dX7_party_26 ?_
    cases hf
    exact g_ret (M := mX7_party) dX7_party_27 rfl
  · replace hf := iff_ hf q6
    refine g_iconst (M := mX7_party) (v := -1) dX7_party_9 rfl ?_
    cases hf
    exact g_ret (M := mX7_party) dX7_party_10 rfl
theorem c_X7_party (G : Gm) (a0 : Nat) (h : AH) (o : (Int32 × AH)) (hf : f_X7_party a0 h = some o) : CT G yX7_party mX7_party (some .int) 0 0 [vr (some a0)] h (some (vi o.1)) o.2 :=
  CT.int (by decide +kernel) rfl rfl rfl (Nat.le_of_ble_eq_true rfl) (x_X7_party G a0 h o hf)
theorem cbX7_party : CB yX7_party mX7_party (some .int) 0 := ⟨cd_yX7_party, itRX7, ⟨by decide, by decide⟩, by decide +kernel, by decide⟩
abbrev mX7_isFrom : MI := (RX7, "isFrom", cX7_isFrom, 3, .ireturn, 0)
def f_X7_isFrom (a0 : Int32) (a1 : Int32) (a2 : Int32) (h : AH) : Option Bool :=
  if a2 < a0 then (
    some false
  ) else (
    if a1 < a2 then (
      some false
    ) else (
      some true
    )
  )
theorem x_X7_isFrom (G : Gm) (a0 : Int32) (a1 : Int32) (a2 : Int32) (h : AH) (o : Bool) (hf : f_X7_isFrom a0 a1 a2 h = some o) : GO G mX7_isFrom 0 0 0 [(0, vi a0), (1, vi a1), (2, vi a2)] [] h (some (vi (b2i o))) h := by
  unfold f_X7_isFrom at hf
  refine g_iload_n (M := mX7_isFrom) dX7_isFrom_0 rfl 2 rfl ?_
  refine g_iload_n (M := mX7_isFrom) dX7_isFrom_1 rfl 0 rfl ?_
  refine g_ic_lt (M := mX7_isFrom) (tgt := 14) dX7_isFrom_2 rfl (fun q2 => ?_) (fun q2 => ?_)
  · replace hf := ift hf q2
    refine g_iconst (M := mX7_isFrom) (v := 0) dX7_isFrom_14 rfl ?_
    cases hf
    exact g_ret (M := mX7_isFrom) dX7_isFrom_15 rfl
  · replace hf := iff_ hf q2
    refine g_iload_n (M := mX7_isFrom) dX7_isFrom_5 rfl 2 rfl ?_
    refine g_iload_n (M := mX7_isFrom) dX7_isFrom_6 rfl 1 rfl ?_
    refine g_ic_gt (M := mX7_isFrom) (tgt := 14) dX7_isFrom_7 rfl (fun q7 => ?_) (fun q7 => ?_)
    · replace hf := ift hf q7
      refine g_iconst (M := mX7_isFrom) (v := 0) dX7_isFrom_14 rfl ?_
      cases hf
      exact g_ret (M := mX7_isFrom) dX7_isFrom_15 rfl
    · replace hf := iff_ hf q7
      refine g_iconst (M := mX7_isFrom) (v := 1) dX7_isFrom_10 rfl ?_
      refine g_goto (M := mX7_isFrom) (tgt := 15) dX7_isFrom_11 rfl ?_
      cases hf
      exact g_ret (M := mX7_isFrom) dX7_isFrom_15 rfl
theorem c_X7_isFrom (G : Gm) (a0 : Int32) (a1 : Int32) (a2 : Int32) (h : AH) (o : Bool) (hf : f_X7_isFrom a0 a1 a2 h = some o) : CT G yX7_isFrom mX7_isFrom (some .boolean) 0 0 [vi a0, vi a1, vi a2] h (some (vi (b2i o))) h :=
  CT.bool (by decide +kernel) rfl rfl rfl (Nat.le_of_ble_eq_true rfl) (b2i_01 _) (x_X7_isFrom G a0 a1 a2 h o hf)
theorem cbX7_isFrom : CB yX7_isFrom mX7_isFrom (some .boolean) 3 := ⟨cd_yX7_isFrom, itRX7, ⟨by decide, by decide⟩, by decide +kernel, by decide⟩
abbrev mX7_agreement : MI := (RX7, "agreement", cX7_agreement, 5, .ireturn, 2)
def f_X7_agreement (a0 : Nat) (a1 : Int32) (a2 : Int32) (a3 : Int32) (a4 : Int32) (h : AH) : Option (Int32 × AH) :=
  (gI 7 4 h (some a0)).bind fun v1 =>
  if v1 < 0 then (
    some ((-1 : Int32), h)
  ) else (
    (gI 7 4 h (some a0)).bind fun v2 =>
    (gR 7 0 h (some a0)).bind fun v3 =>
    (al h v3).bind fun v4 =>
    if v2 < v4 then (
      (f_X7_isFrom (1 : Int32) (20 : Int32) a1 h).bind fun r5 =>
      if (b2i r5) = 0 then (
        some ((-1 : Int32), h)
      ) else (
        (f_X7_isFrom (1 : Int32) (10 : Int32) a2 h).bind fun r6 =>
        if (b2i r6) = 0 then (
          some ((-1 : Int32), h)
        ) else (
          (f_X7_isFrom (0 : Int32) (1000 : Int32) a3 h).bind fun r7 =>
          if (b2i r7) = 0 then (
            some ((-1 : Int32), h)
          ) else (
            (f_X7_isFrom (0 : Int32) (1000 : Int32) a4 h).bind fun r8 =>
            if (b2i r8) = 0 then (
              some ((-1 : Int32), h)
            ) else (
              (gR 7 0 h (some a0)).bind fun v9 =>
              (gI 7 4 h (some a0)).bind fun v10 =>
              (gI 7 4 (nw h 0 0) (some a0)).bind fun v11 =>
              (f_X0_init (hz h) v11 a1 a2 a3 a4 (nw h 0 0)).bind fun r12 =>
              (stR 14 0 r12 v9 v10 (some (hz h))).bind fun h13 =>
              (gI 7 4 h13 (some a0)).bind fun v14 =>
              (pI 7 4 h13 (some a0) (v14 + (1 : Int32))).bind fun h15 =>
              (gI 7 4 h15 (some a0)).bind fun v16 =>
              some (v16 - (1 : Int32), h15)
            )
          )
        )
      )
    ) else (
      some ((-1 : Int32), h)
    )
  )
theorem x_X7_agreement (G : Gm) (a0 : Nat) (a1 : Int32) (a2 : Int32) (a3 : Int32) (a4 : Int32) (h : AH) (o : (Int32 × AH)) (hf : f_X7_agreement a0 a1 a2 a3 a4 h = some o) : GO G mX7_agreement 3 35 0 [(0, vr (some a0)), (1, vi a1), (2, vi a2), (3, vi a3), (4, vi a4)] [] h (some (vi o.1)) o.2 := by
  unfold f_X7_agreement at hf
  refine g_aload_n (M := mX7_agreement) dX7_agreement_0 rfl 0 rfl ?_
  obtain ⟨v1, ev1, hf⟩ := bd hf
  refine g_getI (M := mX7_agreement) dX7_agreement_1 flRX7_40 (fun _ => rfl) ev1 ?_
  refine g_if_lt (M := mX7_agreement) (tgt := 19) dX7_agreement_4 rfl (fun q4 => ?_) (fun q4 => ?_)
  · replace hf := ift hf q4
    refine g_iconst (M := mX7_agreement) (v := -1) dX7_agreement_19 rfl ?_
    cases hf
    exact g_weak (M := mX7_agreement) (Nat.zero_le _) (Nat.zero_le _) (g_ret (M := mX7_agreement) dX7_agreement_20 rfl)
  · replace hf := iff_ hf q4
    refine g_aload_n (M := mX7_agreement) dX7_agreement_7 rfl 0 rfl ?_
    obtain ⟨v2, ev2, hf⟩ := bd hf
    refine g_getI (M := mX7_agreement) dX7_agreement_8 flRX7_40 (fun _ => rfl) ev2 ?_
    refine g_aload_n (M := mX7_agreement) dX7_agreement_11 rfl 0 rfl ?_
    obtain ⟨v3, ev3, hf⟩ := bd hf
    refine g_getR (M := mX7_agreement) dX7_agreement_12 flRX7_11 (fun _ => rfl) ev3 ?_
    obtain ⟨v4, ev4, hf⟩ := bd hf
    refine g_alen (M := mX7_agreement) dX7_agreement_15 ev4 ?_
    refine g_ic_lt (M := mX7_agreement) (tgt := 21) dX7_agreement_16 rfl (fun q16 => ?_) (fun q16 => ?_)
    · replace hf := ift hf q16
      refine g_iconst (M := mX7_agreement) (v := 1) dX7_agreement_21 rfl ?_
      refine g_bipush (M := mX7_agreement) (v := 20) dX7_agreement_22 rfl ?_
      refine g_iload_n (M := mX7_agreement) dX7_agreement_24 rfl 1 rfl ?_
      obtain ⟨r5, er5, hf⟩ := bd hf
      refine g_callS (M := mX7_agreement) (kc := 3) (ks := 35) (as := [vi (1 : Int32), vi (20 : Int32), vi a1]) (rest := []) dX7_agreement_25 cbX7_isFrom mlRX7_43 st_yX7_isFrom rfl rfl (Nat.le_of_ble_eq_true rfl) (Nat.le_of_ble_eq_true rfl) (c_X7_isFrom G (1 : Int32) (20 : Int32) a1 h r5 er5) ?_
      refine g_if_eq (M := mX7_agreement) (tgt := 41) dX7_agreement_28 rfl (fun q28 => ?_) (fun q28 => ?_)
      · replace hf := ift hf q28
        refine g_iconst (M := mX7_agreement) (v := -1) dX7_agreement_41 rfl ?_
        cases hf
        exact g_weak (M := mX7_agreement) (Nat.zero_le _) (Nat.zero_le _) (g_ret (M := mX7_agreement) dX7_agreement_42 rfl)
      · replace hf := iff_ hf q28
        refine g_iconst (M := mX7_agreement) (v := 1) dX7_agreement_31 rfl ?_
        refine g_bipush (M := mX7_agreement) (v := 10) dX7_agreement_32 rfl ?_
        refine g_iload_n (M := mX7_agreement) dX7_agreement_34 rfl 2 rfl ?_
        obtain ⟨r6, er6, hf⟩ := bd hf
        refine g_callS (M := mX7_agreement) (kc := 3) (ks := 35) (as := [vi (1 : Int32), vi (10 : Int32), vi a2]) (rest := []) dX7_agreement_35 cbX7_isFrom mlRX7_43 st_yX7_isFrom rfl rfl (Nat.le_of_ble_eq_true rfl) (Nat.le_of_ble_eq_true rfl) (c_X7_isFrom G (1 : Int32) (10 : Int32) a2 h r6 er6) ?_
        refine g_if_ne (M := mX7_agreement) (tgt := 43) dX7_agreement_38 rfl (fun q38 => ?_) (fun q38 => ?_)
        · replace hf := iff_ hf q38
          refine g_iconst (M := mX7_agreement) (v := 0) dX7_agreement_43 rfl ?_
          refine g_sipush (M := mX7_agreement) (v := 1000) dX7_agreement_44 rfl ?_
          refine g_iload_n (M := mX7_agreement) dX7_agreement_47 rfl 3 rfl ?_
          obtain ⟨r7, er7, hf⟩ := bd hf
          refine g_callS (M := mX7_agreement) (kc := 3) (ks := 35) (as := [vi (0 : Int32), vi (1000 : Int32), vi a3]) (rest := []) dX7_agreement_48 cbX7_isFrom mlRX7_43 st_yX7_isFrom rfl rfl (Nat.le_of_ble_eq_true rfl) (Nat.le_of_ble_eq_true rfl) (c_X7_isFrom G (0 : Int32) (1000 : Int32) a3 h r7 er7) ?_
          refine g_if_eq (M := mX7_agreement) (tgt := 66) dX7_agreement_51 rfl (fun q51 => ?_) (fun q51 => ?_)
          · replace hf := ift hf q51
            refine g_iconst (M := mX7_agreement) (v := -1) dX7_agreement_66 rfl ?_
            cases hf
            exact g_weak (M := mX7_agreement) (Nat.zero_le _) (Nat.zero_le _) (g_ret (M := mX7_agreement) dX7_agreement_67 rfl)
          · replace hf := iff_ hf q51
            refine g_iconst (M := mX7_agreement) (v := 0) dX7_agreement_54 rfl ?_
            refine g_sipush (M := mX7_agreement) (v := 1000) dX7_agreement_55 rfl ?_
            refine g_iload (M := mX7_agreement) dX7_agreement_58 4 rfl ?_
            obtain ⟨r8, er8, hf⟩ := bd hf
            refine g_callS (M := mX7_agreement) (kc := 3) (ks := 35) (as := [vi (0 : Int32), vi (1000 : Int32), vi a4]) (rest := []) dX7_agreement_60 cbX7_isFrom mlRX7_43 st_yX7_isFrom rfl rfl (Nat.le_of_ble_eq_true rfl) (Nat.le_of_ble_eq_true rfl) (c_X7_isFrom G (0 : Int32) (1000 : Int32) a4 h r8 er8) ?_
            refine g_if_ne (M := mX7_agreement) (tgt := 68) dX7_agreement_63 rfl (fun q63 => ?_) (fun q63 => ?_)
            · replace hf := iff_ hf q63
              refine g_aload_n (M := mX7_agreement) dX7_agreement_68 rfl 0 rfl ?_
              obtain ⟨v9, ev9, hf⟩ := bd hf
              refine g_getR (M := mX7_agreement) dX7_agreement_69 flRX7_11 (fun _ => rfl) ev9 ?_
              refine g_aload_n (M := mX7_agreement) dX7_agreement_72 rfl 0 rfl ?_
              obtain ⟨v10, ev10, hf⟩ := bd hf
              refine g_getI (M := mX7_agreement) dX7_agreement_73 flRX7_40 (fun _ => rfl) ev10 ?_
              refine g_new (M := mX7_agreement) (kc := 2) (ks := 28) dX7_agreement_76 ck0 clRX7_9 inRX0 itRX0 (by decide) ?_
              refine g_dup (M := mX7_agreement) dX7_agreement_79 rfl ?_
              refine g_aload_n (M := mX7_agreement) dX7_agreement_80 rfl 0 rfl ?_
              obtain ⟨v11, ev11, hf⟩ := bd hf
              refine g_getI (M := mX7_agreement) dX7_agreement_81 flRX7_40 (fun _ => rfl) ev11 ?_
              refine g_iload_n (M := mX7_agreement) dX7_agreement_84 rfl 1 rfl ?_
              refine g_iload_n (M := mX7_agreement) dX7_agreement_85 rfl 2 rfl ?_
              refine g_iload_n (M := mX7_agreement) dX7_agreement_86 rfl 3 rfl ?_
              refine g_iload (M := mX7_agreement) dX7_agreement_87 4 rfl ?_
              obtain ⟨r12, er12, hf⟩ := bd hf
              refine g_callI (M := mX7_agreement) (kc := 0) (ks := 0) (as := [vi v11, vi a1, vi a2, vi a3, vi a4]) (rest := [vr (some (hz h)), vi v10, vr v9]) (b := (hz h)) dX7_agreement_89 cbX0_init mlRX7_47 im_yX0_init rfl rfl rfl (Nat.le_of_ble_eq_true rfl) (Nat.le_of_ble_eq_true rfl) (c_X0_init G (hz h) v11 a1 a2 a3 a4 (nw h 0 0) r12 er12) ?_
              obtain ⟨h13, eh13, hf⟩ := bd hf
              refine g_aast (M := mX7_agreement) (t := 14) (j := 4) (ci := 0) (cn := RX0) (T := TX0) (N := 7) rfl rfl (Nat.le_of_ble_eq_true rfl) (Nat.le_of_ble_eq_true rfl) (fun _ => rfl) dX7_agreement_92 eh13 ?_
              refine g_aload_n (M := mX7_agreement) dX7_agreement_93 rfl 0 rfl ?_
              refine g_dup (M := mX7_agreement) dX7_agreement_94 rfl ?_
              obtain ⟨v14, ev14, hf⟩ := bd hf
              refine g_getI (M := mX7_agreement) dX7_agreement_95 flRX7_40 (fun _ => rfl) ev14 ?_
              refine g_iconst (M := mX7_agreement) (v := 1) dX7_agreement_98 rfl ?_
              refine g_iadd (M := mX7_agreement) dX7_agreement_99 ?_
              obtain ⟨h15, eh15, hf⟩ := bd hf
              refine g_putI (M := mX7_agreement) dX7_agreement_100 flRX7_40 rfl eh15 ?_
              refine g_aload_n (M := mX7_agreement) dX7_agreement_103 rfl 0 rfl ?_
              obtain ⟨v16, ev16, hf⟩ := bd hf
              refine g_getI (M := mX7_agreement) dX7_agreement_104 flRX7_40 (fun _ => rfl) ev16 ?_
              refine g_iconst (M := mX7_agreement) (v := 1) dX7_agreement_107 rfl ?_
              refine g_isub (M := mX7_agreement) dX7_agreement_108 ?_
              cases hf
              exact g_ret (M := mX7_agreement) dX7_agreement_109 rfl
            · replace hf := ift hf q63
              refine g_iconst (M := mX7_agreement) (v := -1) dX7_agreement_66 rfl ?_
              cases hf
              exact g_weak (M := mX7_agreement) (Nat.zero_le _) (Nat.zero_le _) (g_ret (M := mX7_agreement) dX7_agreement_67 rfl)
        · replace hf := ift hf q38
          refine g_iconst (M := mX7_agreement) (v := -1) dX7_agreement_41 rfl ?_
          cases hf
          exact g_weak (M := mX7_agreement) (Nat.zero_le _) (Nat.zero_le _) (g_ret (M := mX7_agreement) dX7_agreement_42 rfl)
    · replace hf := iff_ hf q16
      refine g_iconst (M := mX7_agreement) (v := -1) dX7_agreement_19 rfl ?_
      cases hf
      exact g_weak (M := mX7_agreement) (Nat.zero_le _) (Nat.zero_le _) (g_ret (M := mX7_agreement) dX7_agreement_20 rfl)
theorem c_X7_agreement (G : Gm) (a0 : Nat) (a1 : Int32) (a2 : Int32) (a3 : Int32) (a4 : Int32) (h : AH) (o : (Int32 × AH)) (hf : f_X7_agreement a0 a1 a2 a3 a4 h = some o) : CT G yX7_agreement mX7_agreement (some .int) 3 35 [vr (some a0), vi a1, vi a2, vi a3, vi a4] h (some (vi o.1)) o.2 :=
  CT.int (by decide +kernel) rfl rfl rfl (Nat.le_of_ble_eq_true rfl) (x_X7_agreement G a0 a1 a2 a3 a4 h o hf)
theorem cbX7_agreement : CB yX7_agreement mX7_agreement (some .int) 4 := ⟨cd_yX7_agreement, itRX7, ⟨by decide, by decide⟩, by decide +kernel, by decide⟩
abbrev mX7_agreementAt : MI := (RX7, "agreementAt", cX7_agreementAt, 2, .areturn, 0)
def f_X7_agreementAt (a0 : Nat) (a1 : Int32) (h : AH) : Option (Option Nat) :=
  if a1 < 0 then (
    some none
  ) else (
    (gI 7 4 h (some a0)).bind fun v1 =>
    if v1 ≤ a1 then (
      some none
    ) else (
      (gR 7 0 h (some a0)).bind fun v2 =>
      (al h v2).bind fun v3 =>
      if v3 ≤ a1 then (
        some none
      ) else (
        (gR 7 0 h (some a0)).bind fun v4 =>
        (lR 14 h v4 a1).bind fun v5 =>
        some v5
      )
    )
  )
theorem x_X7_agreementAt (G : Gm) (a0 : Nat) (a1 : Int32) (h : AH) (o : (Option Nat)) (hf : f_X7_agreementAt a0 a1 h = some o) : GO G mX7_agreementAt 0 0 0 [(0, vr (some a0)), (1, vi a1)] [] h (some (vr o)) h := by
  unfold f_X7_agreementAt at hf
  refine g_iload_n (M := mX7_agreementAt) dX7_agreementAt_0 rfl 1 rfl ?_
  refine g_if_lt (M := mX7_agreementAt) (tgt := 30) dX7_agreementAt_1 rfl (fun q1 => ?_) (fun q1 => ?_)
  · replace hf := ift hf q1
    refine g_null (M := mX7_agreementAt) dX7_agreementAt_30 ?_
    cases hf
    exact g_ret (M := mX7_agreementAt) dX7_agreementAt_31 rfl
  · replace hf := iff_ hf q1
    refine g_iload_n (M := mX7_agreementAt) dX7_agreementAt_4 rfl 1 rfl ?_
    refine g_aload_n (M := mX7_agreementAt) dX7_agreementAt_5 rfl 0 rfl ?_
    obtain ⟨v1, ev1, hf⟩ := bd hf
    refine g_getI (M := mX7_agreementAt) dX7_agreementAt_6 flRX7_40 (fun _ => rfl) ev1 ?_
    refine g_ic_ge (M := mX7_agreementAt) (tgt := 30) dX7_agreementAt_9 rfl (fun q9 => ?_) (fun q9 => ?_)
    · replace hf := ift hf q9
      refine g_null (M := mX7_agreementAt) dX7_agreementAt_30 ?_
      cases hf
      exact g_ret (M := mX7_agreementAt) dX7_agreementAt_31 rfl
    · replace hf := iff_ hf q9
      refine g_iload_n (M := mX7_agreementAt) dX7_agreementAt_12 rfl 1 rfl ?_
      refine g_aload_n (M := mX7_agreementAt) dX7_agreementAt_13 rfl 0 rfl ?_
      obtain ⟨v2, ev2, hf⟩ := bd hf
      refine g_getR (M := mX7_agreementAt) dX7_agreementAt_14 flRX7_11 (fun _ => rfl) ev2 ?_
      obtain ⟨v3, ev3, hf⟩ := bd hf
      refine g_alen (M := mX7_agreementAt) dX7_agreementAt_17 ev3 ?_
      refine g_ic_ge (M := mX7_agreementAt) (tgt := 30) dX7_agreementAt_18 rfl (fun q18 => ?_) (fun q18 => ?_)
      · replace hf := ift hf q18
        refine g_null (M := mX7_agreementAt) dX7_agreementAt_30 ?_
        cases hf
        exact g_ret (M := mX7_agreementAt) dX7_agreementAt_31 rfl
      · replace hf := iff_ hf q18
        refine g_aload_n (M := mX7_agreementAt) dX7_agreementAt_21 rfl 0 rfl ?_
        obtain ⟨v4, ev4, hf⟩ := bd hf
        refine g_getR (M := mX7_agreementAt) dX7_agreementAt_22 flRX7_11 (fun _ => rfl) ev4 ?_
        refine g_iload_n (M := mX7_agreementAt) dX7_agreementAt_25 rfl 1 rfl ?_
        obtain ⟨v5, ev5, hf⟩ := bd hf
        refine g_aald (M := mX7_agreementAt) (t := 14) (j := 4) (cn := RX0) rfl (Nat.le_of_ble_eq_true rfl) (fun _ _ => rfl) dX7_agreementAt_26 ev5 ?_
        refine g_goto (M := mX7_agreementAt) (tgt := 31) dX7_agreementAt_27 rfl ?_
        cases hf
        exact g_ret (M := mX7_agreementAt) dX7_agreementAt_31 rfl
theorem c_X7_agreementAt (G : Gm) (a0 : Nat) (a1 : Int32) (h : AH) (o : (Option Nat)) (hf : f_X7_agreementAt a0 a1 h = some o) : CT G yX7_agreementAt mX7_agreementAt (some (.object RX0)) 0 0 [vr (some a0), vi a1] h (some (vr o)) h :=
  CT.ref (by decide +kernel) rfl rfl rfl (Nat.le_of_ble_eq_true rfl) (x_X7_agreementAt G a0 a1 h o hf)
theorem cbX7_agreementAt : CB yX7_agreementAt mX7_agreementAt (some (.object RX0)) 1 := ⟨cd_yX7_agreementAt, itRX7, ⟨by decide, by decide⟩, by decide +kernel, by decide⟩
abbrev mX7_article : MI := (RX7, "article", cX7_article, 5, .ireturn, 2)
def f_X7_article (a0 : Nat) (a1 : Int32) (a2 : Int32) (a3 : Int32) (h : AH) : Option (Int32 × AH) :=
  (ck 7 h (some a0)).bind fun b1 =>
  (f_X7_agreementAt b1 a1 h).bind fun r2 =>
  if r2 = none then (
    some ((-1 : Int32), h)
  ) else (
    (ck 0 h r2).bind fun b3 =>
    (f_X0_hasArticle b3 a2 h).bind fun r4 =>
    if (b2i r4) = 0 then (
      some ((-1 : Int32), h)
    ) else (
      (f_X7_isFrom (1 : Int32) (1000000 : Int32) a3 h).bind fun r5 =>
      if (b2i r5) = 0 then (
        some ((-1 : Int32), h)
      ) else (
        (gR 7 1 h (some a0)).bind fun v6 =>
        (ck 4 h v6).bind fun b7 =>
        (f_X4_hasAny b7 r2 h).bind fun r8 =>
        if (b2i r8) = 0 then (
          (ck 0 h r2).bind fun b9 =>
          (f_X0_reword b9 a2 a3 h).bind fun r10 =>
          some (r10.1, r10.2)
        ) else (
          some ((-1 : Int32), h)
        )
      )
    )
  )
theorem x_X7_article (G : Gm) (a0 : Nat) (a1 : Int32) (a2 : Int32) (a3 : Int32) (h : AH) (o : (Int32 × AH)) (hf : f_X7_article a0 a1 a2 a3 h = some o) : GO G mX7_article 0 0 0 [(0, vr (some a0)), (1, vi a1), (2, vi a2), (3, vi a3)] [] h (some (vi o.1)) o.2 := by
  unfold f_X7_article at hf
  refine g_aload_n (M := mX7_article) dX7_article_0 rfl 0 rfl ?_
  refine g_iload_n (M := mX7_article) dX7_article_1 rfl 1 rfl ?_
  obtain ⟨b1, eb1, hf⟩ := bd hf
  obtain ⟨r2, er2, hf⟩ := bd hf
  refine g_callV (M := mX7_article) (kc := 0) (ks := 0) (as := [vi a1]) (rest := []) dX7_article_2 cbX7_agreementAt vwRX7_50 rfl eb1 rfl (Nat.le_of_ble_eq_true rfl) (Nat.le_of_ble_eq_true rfl) (c_X7_agreementAt G b1 a1 h r2 er2) ?_
  refine g_astore (M := mX7_article) (L2 := [(4, vr r2), (0, vr (some a0)), (1, vi a1), (2, vi a2), (3, vi a3)]) dX7_article_5 (Nat.le_of_ble_eq_true rfl) rfl ?_
  refine g_aload (M := mX7_article) dX7_article_7 0 rfl ?_
  refine g_ifnull (M := mX7_article) (tgt := 31) dX7_article_9 rfl (fun q9 => ?_) (fun q9 => ?_)
  · replace hf := ift hf q9
    refine g_iconst (M := mX7_article) (v := -1) dX7_article_31 rfl ?_
    cases hf
    exact g_ret (M := mX7_article) dX7_article_32 rfl
  · replace hf := iff_ hf q9
    refine g_aload (M := mX7_article) dX7_article_12 0 rfl ?_
    refine g_iload_n (M := mX7_article) dX7_article_14 rfl 3 rfl ?_
    obtain ⟨b3, eb3, hf⟩ := bd hf
    obtain ⟨r4, er4, hf⟩ := bd hf
    refine g_callV (M := mX7_article) (kc := 0) (ks := 0) (as := [vi a2]) (rest := []) dX7_article_15 cbX0_hasArticle vwRX7_54 rfl eb3 rfl (Nat.le_of_ble_eq_true rfl) (Nat.le_of_ble_eq_true rfl) (c_X0_hasArticle G b3 a2 h r4 er4) ?_
    refine g_if_eq (M := mX7_article) (tgt := 31) dX7_article_18 rfl (fun q18 => ?_) (fun q18 => ?_)
    · replace hf := ift hf q18
      refine g_iconst (M := mX7_article) (v := -1) dX7_article_31 rfl ?_
      cases hf
      exact g_ret (M := mX7_article) dX7_article_32 rfl
    · replace hf := iff_ hf q18
      refine g_iconst (M := mX7_article) (v := 1) dX7_article_21 rfl ?_
      refine g_ldc (M := mX7_article) dX7_article_22 csRX7_58 ?_
      refine g_iload_n (M := mX7_article) dX7_article_24 rfl 4 rfl ?_
      obtain ⟨r5, er5, hf⟩ := bd hf
      refine g_callS (M := mX7_article) (kc := 0) (ks := 0) (as := [vi (1 : Int32), vi (1000000 : Int32), vi a3]) (rest := []) dX7_article_25 cbX7_isFrom mlRX7_43 st_yX7_isFrom rfl rfl (Nat.le_of_ble_eq_true rfl) (Nat.le_of_ble_eq_true rfl) (c_X7_isFrom G (1 : Int32) (1000000 : Int32) a3 h r5 er5) ?_
      refine g_if_ne (M := mX7_article) (tgt := 33) dX7_article_28 rfl (fun q28 => ?_) (fun q28 => ?_)
      · replace hf := iff_ hf q28
        refine g_aload_n (M := mX7_article) dX7_article_33 rfl 1 rfl ?_
        obtain ⟨v6, ev6, hf⟩ := bd hf
        refine g_getR (M := mX7_article) dX7_article_34 flRX7_18 (fun _ => rfl) ev6 ?_
        refine g_aload (M := mX7_article) dX7_article_37 0 rfl ?_
        obtain ⟨b7, eb7, hf⟩ := bd hf
        obtain ⟨r8, er8, hf⟩ := bd hf
        refine g_callV (M := mX7_article) (kc := 0) (ks := 0) (as := [vr r2]) (rest := []) dX7_article_39 cbX4_hasAny vwRX7_59 rfl eb7 rfl (Nat.le_of_ble_eq_true rfl) (Nat.le_of_ble_eq_true rfl) (c_X4_hasAny G b7 r2 h r8 er8) ?_
        refine g_if_eq (M := mX7_article) (tgt := 47) dX7_article_42 rfl (fun q42 => ?_) (fun q42 => ?_)
        · replace hf := ift hf q42
          refine g_aload (M := mX7_article) dX7_article_47 0 rfl ?_
          refine g_iload_n (M := mX7_article) dX7_article_49 rfl 3 rfl ?_
          refine g_iload_n (M := mX7_article) dX7_article_50 rfl 4 rfl ?_
          obtain ⟨b9, eb9, hf⟩ := bd hf
          obtain ⟨r10, er10, hf⟩ := bd hf
          refine g_callV (M := mX7_article) (kc := 0) (ks := 0) (as := [vi a2, vi a3]) (rest := []) dX7_article_51 cbX0_reword vwRX7_63 rfl eb9 rfl (Nat.le_of_ble_eq_true rfl) (Nat.le_of_ble_eq_true rfl) (c_X0_reword G b9 a2 a3 h r10 er10) ?_
          cases hf
          exact g_ret (M := mX7_article) dX7_article_54 rfl
        · replace hf := iff_ hf q42
          refine g_iconst (M := mX7_article) (v := -1) dX7_article_45 rfl ?_
          cases hf
          exact g_ret (M := mX7_article) dX7_article_46 rfl
      · replace hf := ift hf q28
        refine g_iconst (M := mX7_article) (v := -1) dX7_article_31 rfl ?_
        cases hf
        exact g_ret (M := mX7_article) dX7_article_32 rfl
theorem c_X7_article (G : Gm) (a0 : Nat) (a1 : Int32) (a2 : Int32) (a3 : Int32) (h : AH) (o : (Int32 × AH)) (hf : f_X7_article a0 a1 a2 a3 h = some o) : CT G yX7_article mX7_article (some .int) 0 0 [vr (some a0), vi a1, vi a2, vi a3] h (some (vi o.1)) o.2 :=
  CT.int (by decide +kernel) rfl rfl rfl (Nat.le_of_ble_eq_true rfl) (x_X7_article G a0 a1 a2 a3 h o hf)
theorem cbX7_article : CB yX7_article mX7_article (some .int) 3 := ⟨cd_yX7_article, itRX7, ⟨by decide, by decide⟩, by decide +kernel, by decide⟩
abbrev mX7_clock : MI := (RX7, "clock", cX7_clock, 2, .ireturn, 0)
def f_X7_clock (a0 : Nat) (a1 : Int32) (h : AH) : Option (Bool × AH) :=
  (gI 7 6 h (some a0)).bind fun v1 =>
  if a1 < v1 then (
    some (false, h)
  ) else (
    if a1 ≤ (73000 : Int32) then (
      (pI 7 6 h (some a0) a1).bind fun h2 =>
      some (true, h2)
    ) else (
      some (false, h)
    )
  )
theorem x_X7_clock (G : Gm) (a0 : Nat) (a1 : Int32) (h : AH) (o : (Bool × AH)) (hf : f_X7_clock a0 a1 h = some o) : GO G mX7_clock 0 0 0 [(0, vr (some a0)), (1, vi a1)] [] h (some (vi (b2i o.1))) o.2 := by
  unfold f_X7_clock at hf
  refine g_iload_n (M := mX7_clock) dX7_clock_0 rfl 1 rfl ?_
  refine g_aload_n (M := mX7_clock) dX7_clock_1 rfl 0 rfl ?_
  obtain ⟨v1, ev1, hf⟩ := bd hf
  refine g_getI (M := mX7_clock) dX7_clock_2 flRX7_67 (fun _ => rfl) ev1 ?_
  refine g_ic_lt (M := mX7_clock) (tgt := 14) dX7_clock_5 rfl (fun q5 => ?_) (fun q5 => ?_)
  · replace hf := ift hf q5
    refine g_iconst (M := mX7_clock) (v := 0) dX7_clock_14 rfl ?_
    cases hf
    exact g_ret (M := mX7_clock) dX7_clock_15 rfl
  · replace hf := iff_ hf q5
    refine g_iload_n (M := mX7_clock) dX7_clock_8 rfl 1 rfl ?_
    refine g_ldc (M := mX7_clock) dX7_clock_9 csRX7_70 ?_
    refine g_ic_le (M := mX7_clock) (tgt := 16) dX7_clock_11 rfl (fun q11 => ?_) (fun q11 => ?_)
    · replace hf := ift hf q11
      refine g_aload_n (M := mX7_clock) dX7_clock_16 rfl 0 rfl ?_
      refine g_iload_n (M := mX7_clock) dX7_clock_17 rfl 1 rfl ?_
      obtain ⟨h2, eh2, hf⟩ := bd hf
      refine g_putI (M := mX7_clock) dX7_clock_18 flRX7_67 rfl eh2 ?_
      refine g_iconst (M := mX7_clock) (v := 1) dX7_clock_21 rfl ?_
      cases hf
      exact g_ret (M := mX7_clock) dX7_clock_22 rfl
    · replace hf := iff_ hf q11
      refine g_iconst (M := mX7_clock) (v := 0) dX7_clock_14 rfl ?_
      cases hf
      exact g_ret (M := mX7_clock) dX7_clock_15 rfl
theorem c_X7_clock (G : Gm) (a0 : Nat) (a1 : Int32) (h : AH) (o : (Bool × AH)) (hf : f_X7_clock a0 a1 h = some o) : CT G yX7_clock mX7_clock (some .boolean) 0 0 [vr (some a0), vi a1] h (some (vi (b2i o.1))) o.2 :=
  CT.bool (by decide +kernel) rfl rfl rfl (Nat.le_of_ble_eq_true rfl) (b2i_01 _) (x_X7_clock G a0 a1 h o hf)
theorem cbX7_clock : CB yX7_clock mX7_clock (some .boolean) 1 := ⟨cd_yX7_clock, itRX7, ⟨by decide, by decide⟩, by decide +kernel, by decide⟩
abbrev mX7_isParty : MI := (RX7, "isParty", cX7_isParty, 2, .ireturn, 0)
def f_X7_isParty (a0 : Nat) (a1 : Int32) (h : AH) : Option Bool :=
  if a1 < 0 then (
    some false
  ) else (
    (gI 7 5 h (some a0)).bind fun v1 =>
    if v1 ≤ a1 then (
      some false
    ) else (
      some true
    )
  )
theorem x_X7_isParty (G : Gm) (a0 : Nat) (a1 : Int32) (h : AH) (o : Bool) (hf : f_X7_isParty a0 a1 h = some o) : GO G mX7_isParty 0 0 0 [(0, vr (some a0)), (1, vi a1)] [] h (some (vi (b2i o))) h := by
  unfold f_X7_isParty at hf
  refine g_iload_n (M := mX7_isParty) dX7_isParty_0 rfl 1 rfl ?_
  refine g_if_lt (M := mX7_isParty) (tgt := 16) dX7_isParty_1 rfl (fun q1 => ?_) (fun q1 => ?_)
  · replace hf := ift hf q1
    refine g_iconst (M := mX7_isParty) (v := 0) dX7_isParty_16 rfl ?_
    cases hf
    exact g_ret (M := mX7_isParty) dX7_isParty_17 rfl
  · replace hf := iff_ hf q1
    refine g_iload_n (M := mX7_isParty) dX7_isParty_4 rfl 1 rfl ?_
    refine g_aload_n (M := mX7_isParty) dX7_isParty_5 rfl 0 rfl ?_
    obtain ⟨v1, ev1, hf⟩ := bd hf
    refine g_getI (M := mX7_isParty) dX7_isParty_6 flRX7_36 (fun _ => rfl) ev1 ?_
    refine g_ic_ge (M := mX7_isParty) (tgt := 16) dX7_isParty_9 rfl (fun q9 => ?_) (fun q9 => ?_)
    · replace hf := ift hf q9
      refine g_iconst (M := mX7_isParty) (v := 0) dX7_isParty_16 rfl ?_
      cases hf
      exact g_ret (M := mX7_isParty) dX7_isParty_17 rfl
    · replace hf := iff_ hf q9
      refine g_iconst (M := mX7_isParty) (v := 1) dX7_isParty_12 rfl ?_
      refine g_goto (M := mX7_isParty) (tgt := 17) dX7_isParty_13 rfl ?_
      cases hf
      exact g_ret (M := mX7_isParty) dX7_isParty_17 rfl
theorem c_X7_isParty (G : Gm) (a0 : Nat) (a1 : Int32) (h : AH) (o : Bool) (hf : f_X7_isParty a0 a1 h = some o) : CT G yX7_isParty mX7_isParty (some .boolean) 0 0 [vr (some a0), vi a1] h (some (vi (b2i o))) h :=
  CT.bool (by decide +kernel) rfl rfl rfl (Nat.le_of_ble_eq_true rfl) (b2i_01 _) (x_X7_isParty G a0 a1 h o hf)
theorem cbX7_isParty : CB yX7_isParty mX7_isParty (some .boolean) 1 := ⟨cd_yX7_isParty, itRX7, ⟨by decide, by decide⟩, by decide +kernel, by decide⟩
abbrev mX7_sign : MI := (RX7, "sign", cX7_sign, 4, .ireturn, 3)
def f_X7_sign (a0 : Nat) (a1 : Int32) (a2 : Int32) (h : AH) : Option (Int32 × AH) :=
  (ck 7 h (some a0)).bind fun b1 =>
  (f_X7_agreementAt b1 a2 h).bind fun r2 =>
  (ck 7 h (some a0)).bind fun b3 =>
  (f_X7_isParty b3 a1 h).bind fun r4 =>
  if (b2i r4) = 0 then (
    some ((-2 : Int32), h)
  ) else (
    if r2 = none then (
      some ((-2 : Int32), h)
    ) else (
      (gR 7 1 h (some a0)).bind fun v5 =>
      (ck 4 h v5).bind fun b6 =>
      (f_X4_isFull b6 h).bind fun r7 =>
      if (b2i r7) = 0 then (
        (gR 7 1 h (some a0)).bind fun v8 =>
        (ck 4 h v8).bind fun b9 =>
        (f_X4_hasSign b9 a1 r2 h).bind fun r10 =>
        if (b2i r10) = 0 then (
          (gR 7 1 h (some a0)).bind fun v11 =>
          (gI 7 6 h (some a0)).bind fun v12 =>
          (gI 7 6 h (some a0)).bind fun v13 =>
          (ck 4 h v11).bind fun b14 =>
          (f_X4_lodge b14 (0 : Int32) a1 r2 v12 v13 h).bind fun r15 =>
          (gI 3 0 r15.2 r15.1).bind fun v16 =>
          some (v16, r15.2)
        ) else (
          some ((-4 : Int32), h)
        )
      ) else (
        some ((-8 : Int32), h)
      )
    )
  )
theorem x_X7_sign (G : Gm) (a0 : Nat) (a1 : Int32) (a2 : Int32) (h : AH) (o : (Int32 × AH)) (hf : f_X7_sign a0 a1 a2 h = some o) : GO G mX7_sign 1 15 0 [(0, vr (some a0)), (1, vi a1), (2, vi a2)] [] h (some (vi o.1)) o.2 := by
  unfold f_X7_sign at hf
  refine g_aload_n (M := mX7_sign) dX7_sign_0 rfl 0 rfl ?_
  refine g_iload_n (M := mX7_sign) dX7_sign_1 rfl 2 rfl ?_
  obtain ⟨b1, eb1, hf⟩ := bd hf
  obtain ⟨r2, er2, hf⟩ := bd hf
  refine g_callV (M := mX7_sign) (kc := 1) (ks := 15) (as := [vi a2]) (rest := []) dX7_sign_2 cbX7_agreementAt vwRX7_50 rfl eb1 rfl (Nat.le_of_ble_eq_true rfl) (Nat.le_of_ble_eq_true rfl) (c_X7_agreementAt G b1 a2 h r2 er2) ?_
  refine g_astore_n (M := mX7_sign) (L2 := [(3, vr r2), (0, vr (some a0)), (1, vi a1), (2, vi a2)]) dX7_sign_5 rfl (Nat.le_of_ble_eq_true rfl) rfl ?_
  refine g_aload_n (M := mX7_sign) dX7_sign_6 rfl 1 rfl ?_
  refine g_iload_n (M := mX7_sign) dX7_sign_7 rfl 2 rfl ?_
  obtain ⟨b3, eb3, hf⟩ := bd hf
  obtain ⟨r4, er4, hf⟩ := bd hf
  refine g_callV (M := mX7_sign) (kc := 1) (ks := 15) (as := [vi a1]) (rest := []) dX7_sign_8 cbX7_isParty vwRX7_71 rfl eb3 rfl (Nat.le_of_ble_eq_true rfl) (Nat.le_of_ble_eq_true rfl) (c_X7_isParty G b3 a1 h r4 er4) ?_
  refine g_if_eq (M := mX7_sign) (tgt := 18) dX7_sign_11 rfl (fun q11 => ?_) (fun q11 => ?_)
  · replace hf := ift hf q11
    refine g_bipush (M := mX7_sign) (v := -2) dX7_sign_18 rfl ?_
    cases hf
    exact g_weak (M := mX7_sign) (Nat.zero_le _) (Nat.zero_le _) (g_ret (M := mX7_sign) dX7_sign_20 rfl)
  · replace hf := iff_ hf q11
    refine g_aload_n (M := mX7_sign) dX7_sign_14 rfl 0 rfl ?_
    refine g_ifnonnull (M := mX7_sign) (tgt := 21) dX7_sign_15 rfl (fun q15 => ?_) (fun q15 => ?_)
    · replace hf := iff_ hf q15
      refine g_aload_n (M := mX7_sign) dX7_sign_21 rfl 1 rfl ?_
      obtain ⟨v5, ev5, hf⟩ := bd hf
      refine g_getR (M := mX7_sign) dX7_sign_22 flRX7_18 (fun _ => rfl) ev5 ?_
      obtain ⟨b6, eb6, hf⟩ := bd hf
      obtain ⟨r7, er7, hf⟩ := bd hf
      refine g_callV (M := mX7_sign) (kc := 1) (ks := 15) (as := []) (rest := []) dX7_sign_25 cbX4_isFull vwRX7_74 rfl eb6 rfl (Nat.le_of_ble_eq_true rfl) (Nat.le_of_ble_eq_true rfl) (c_X4_isFull G b6 h r7 er7) ?_
      refine g_if_eq (M := mX7_sign) (tgt := 34) dX7_sign_28 rfl (fun q28 => ?_) (fun q28 => ?_)
      · replace hf := ift hf q28
        refine g_aload_n (M := mX7_sign) dX7_sign_34 rfl 1 rfl ?_
        obtain ⟨v8, ev8, hf⟩ := bd hf
        refine g_getR (M := mX7_sign) dX7_sign_35 flRX7_18 (fun _ => rfl) ev8 ?_
        refine g_iload_n (M := mX7_sign) dX7_sign_38 rfl 2 rfl ?_
        refine g_aload_n (M := mX7_sign) dX7_sign_39 rfl 0 rfl ?_
        obtain ⟨b9, eb9, hf⟩ := bd hf
        obtain ⟨r10, er10, hf⟩ := bd hf
        refine g_callV (M := mX7_sign) (kc := 1) (ks := 15) (as := [vi a1, vr r2]) (rest := []) dX7_sign_40 cbX4_hasSign vwRX7_78 rfl eb9 rfl (Nat.le_of_ble_eq_true rfl) (Nat.le_of_ble_eq_true rfl) (c_X4_hasSign G b9 a1 r2 h r10 er10) ?_
        refine g_if_eq (M := mX7_sign) (tgt := 49) dX7_sign_43 rfl (fun q43 => ?_) (fun q43 => ?_)
        · replace hf := ift hf q43
          refine g_aload_n (M := mX7_sign) dX7_sign_49 rfl 1 rfl ?_
          obtain ⟨v11, ev11, hf⟩ := bd hf
          refine g_getR (M := mX7_sign) dX7_sign_50 flRX7_18 (fun _ => rfl) ev11 ?_
          refine g_iconst (M := mX7_sign) (v := 0) dX7_sign_53 rfl ?_
          refine g_iload_n (M := mX7_sign) dX7_sign_54 rfl 2 rfl ?_
          refine g_aload_n (M := mX7_sign) dX7_sign_55 rfl 0 rfl ?_
          refine g_aload_n (M := mX7_sign) dX7_sign_56 rfl 1 rfl ?_
          obtain ⟨v12, ev12, hf⟩ := bd hf
          refine g_getI (M := mX7_sign) dX7_sign_57 flRX7_67 (fun _ => rfl) ev12 ?_
          refine g_aload_n (M := mX7_sign) dX7_sign_60 rfl 1 rfl ?_
          obtain ⟨v13, ev13, hf⟩ := bd hf
          refine g_getI (M := mX7_sign) dX7_sign_61 flRX7_67 (fun _ => rfl) ev13 ?_
          obtain ⟨b14, eb14, hf⟩ := bd hf
          obtain ⟨r15, er15, hf⟩ := bd hf
          refine g_callV (M := mX7_sign) (kc := 0) (ks := 0) (as := [vi (0 : Int32), vi a1, vr r2, vi v12, vi v13]) (rest := []) dX7_sign_64 cbX4_lodge vwRX7_82 rfl eb14 rfl (Nat.le_of_ble_eq_true rfl) (Nat.le_of_ble_eq_true rfl) (c_X4_lodge G b14 (0 : Int32) a1 r2 v12 v13 h r15 er15) ?_
          obtain ⟨v16, ev16, hf⟩ := bd hf
          refine g_getI (M := mX7_sign) dX7_sign_67 flRX7_86 (fun _ => rfl) ev16 ?_
          cases hf
          exact g_ret (M := mX7_sign) dX7_sign_70 rfl
        · replace hf := iff_ hf q43
          refine g_bipush (M := mX7_sign) (v := -4) dX7_sign_46 rfl ?_
          cases hf
          exact g_weak (M := mX7_sign) (Nat.zero_le _) (Nat.zero_le _) (g_ret (M := mX7_sign) dX7_sign_48 rfl)
      · replace hf := iff_ hf q28
        refine g_bipush (M := mX7_sign) (v := -8) dX7_sign_31 rfl ?_
        cases hf
        exact g_weak (M := mX7_sign) (Nat.zero_le _) (Nat.zero_le _) (g_ret (M := mX7_sign) dX7_sign_33 rfl)
    · replace hf := ift hf q15
      refine g_bipush (M := mX7_sign) (v := -2) dX7_sign_18 rfl ?_
      cases hf
      exact g_weak (M := mX7_sign) (Nat.zero_le _) (Nat.zero_le _) (g_ret (M := mX7_sign) dX7_sign_20 rfl)
theorem c_X7_sign (G : Gm) (a0 : Nat) (a1 : Int32) (a2 : Int32) (h : AH) (o : (Int32 × AH)) (hf : f_X7_sign a0 a1 a2 h = some o) : CT G yX7_sign mX7_sign (some .int) 1 15 [vr (some a0), vi a1, vi a2] h (some (vi o.1)) o.2 :=
  CT.int (by decide +kernel) rfl rfl rfl (Nat.le_of_ble_eq_true rfl) (x_X7_sign G a0 a1 a2 h o hf)
theorem cbX7_sign : CB yX7_sign mX7_sign (some .int) 2 := ⟨cd_yX7_sign, itRX7, ⟨by decide, by decide⟩, by decide +kernel, by decide⟩
abbrev mX7_ratify : MI := (RX7, "ratify", cX7_ratify, 4, .ireturn, 3)
def f_X7_ratify (a0 : Nat) (a1 : Int32) (a2 : Int32) (h : AH) : Option (Int32 × AH) :=
  (ck 7 h (some a0)).bind fun b1 =>
  (f_X7_agreementAt b1 a2 h).bind fun r2 =>
  (ck 7 h (some a0)).bind fun b3 =>
  (f_X7_isParty b3 a1 h).bind fun r4 =>
  if (b2i r4) = 0 then (
    some ((-2 : Int32), h)
  ) else (
    if r2 = none then (
      some ((-2 : Int32), h)
    ) else (
      (gR 7 1 h (some a0)).bind fun v5 =>
      (ck 4 h v5).bind fun b6 =>
      (f_X4_isFull b6 h).bind fun r7 =>
      if (b2i r7) = 0 then (
        (gR 7 1 h (some a0)).bind fun v8 =>
        (ck 4 h v8).bind fun b9 =>
        (f_X4_hasSign b9 a1 r2 h).bind fun r10 =>
        if (b2i r10) = 0 then (
          some ((-5 : Int32), h)
        ) else (
          (gR 7 1 h (some a0)).bind fun v11 =>
          (ck 4 h v11).bind fun b12 =>
          (f_X4_belonging b12 a1 r2 h).bind fun r13 =>
          if r13 = none then (
            (gR 7 1 h (some a0)).bind fun v14 =>
            (gI 7 6 h (some a0)).bind fun v15 =>
            (gI 7 6 h (some a0)).bind fun v16 =>
            (gI 0 2 h r2).bind fun v17 =>
            (ck 4 h v14).bind fun b18 =>
            (f_X4_lodge b18 (1 : Int32) a1 r2 v15 (v16 + v17) h).bind fun r19 =>
            (gI 3 0 r19.2 r19.1).bind fun v20 =>
            some (v20, r19.2)
          ) else (
            some ((-4 : Int32), h)
          )
        )
      ) else (
        some ((-8 : Int32), h)
      )
    )
  )
theorem x_X7_ratify (G : Gm) (a0 : Nat) (a1 : Int32) (a2 : Int32) (h : AH) (o : (Int32 × AH)) (hf : f_X7_ratify a0 a1 a2 h = some o) : GO G mX7_ratify 1 15 0 [(0, vr (some a0)), (1, vi a1), (2, vi a2)] [] h (some (vi o.1)) o.2 := by
  unfold f_X7_ratify at hf
  refine g_aload_n (M := mX7_ratify) dX7_ratify_0 rfl 0 rfl ?_
  refine g_iload_n (M := mX7_ratify) dX7_ratify_1 rfl 2 rfl ?_
  obtain ⟨b1, eb1, hf⟩ := bd hf
  obtain ⟨r2, er2, hf⟩ := bd hf
  refine g_callV (M := mX7_ratify) (kc := 1) (ks := 15) (as := [vi a2]) (rest := []) dX7_ratify_2 cbX7_agreementAt vwRX7_50 rfl eb1 rfl (Nat.le_of_ble_eq_true rfl) (Nat.le_of_ble_eq_true rfl) (c_X7_agreementAt G b1 a2 h r2 er2) ?_
  refine g_astore_n (M := mX7_ratify) (L2 := [(3, vr r2), (0, vr (some a0)), (1, vi a1), (2, vi a2)]) dX7_ratify_5 rfl (Nat.le_of_ble_eq_true rfl) rfl ?_
  refine g_aload_n (M := mX7_ratify) dX7_ratify_6 rfl 1 rfl ?_
  refine g_iload_n (M := mX7_ratify) dX7_ratify_7 rfl 2 rfl ?_
  obtain ⟨b3, eb3, hf⟩ := bd hf
  obtain ⟨r4, er4, hf⟩ := bd hf
  refine g_callV (M := mX7_ratify) (kc := 1) (ks := 15) (as := [vi a1]) (rest := []) dX7_ratify_8 cbX7_isParty vwRX7_71 rfl eb3 rfl (Nat.le_of_ble_eq_true rfl) (Nat.le_of_ble_eq_true rfl) (c_X7_isParty G b3 a1 h r4 er4) ?_
  refine g_if_eq (M := mX7_ratify) (tgt := 18) dX7_ratify_11 rfl (fun q11 => ?_) (fun q11 => ?_)
  · replace hf := ift hf q11
    refine g_bipush (M := mX7_ratify) (v := -2) dX7_ratify_18 rfl ?_
    cases hf
    exact g_weak (M := mX7_ratify) (Nat.zero_le _) (Nat.zero_le _) (g_ret (M := mX7_ratify) dX7_ratify_20 rfl)
  · replace hf := iff_ hf q11
    refine g_aload_n (M := mX7_ratify) dX7_ratify_14 rfl 0 rfl ?_
    refine g_ifnonnull (M := mX7_ratify) (tgt := 21) dX7_ratify_15 rfl (fun q15 => ?_) (fun q15 => ?_)
    · replace hf := iff_ hf q15
      refine g_aload_n (M := mX7_ratify) dX7_ratify_21 rfl 1 rfl ?_
      obtain ⟨v5, ev5, hf⟩ := bd hf
      refine g_getR (M := mX7_ratify) dX7_ratify_22 flRX7_18 (fun _ => rfl) ev5 ?_
      obtain ⟨b6, eb6, hf⟩ := bd hf
      obtain ⟨r7, er7, hf⟩ := bd hf
      refine g_callV (M := mX7_ratify) (kc := 1) (ks := 15) (as := []) (rest := []) dX7_ratify_25 cbX4_isFull vwRX7_74 rfl eb6 rfl (Nat.le_of_ble_eq_true rfl) (Nat.le_of_ble_eq_true rfl) (c_X4_isFull G b6 h r7 er7) ?_
      refine g_if_eq (M := mX7_ratify) (tgt := 34) dX7_ratify_28 rfl (fun q28 => ?_) (fun q28 => ?_)
      · replace hf := ift hf q28
        refine g_aload_n (M := mX7_ratify) dX7_ratify_34 rfl 1 rfl ?_
        obtain ⟨v8, ev8, hf⟩ := bd hf
        refine g_getR (M := mX7_ratify) dX7_ratify_35 flRX7_18 (fun _ => rfl) ev8 ?_
        refine g_iload_n (M := mX7_ratify) dX7_ratify_38 rfl 2 rfl ?_
        refine g_aload_n (M := mX7_ratify) dX7_ratify_39 rfl 0 rfl ?_
        obtain ⟨b9, eb9, hf⟩ := bd hf
        obtain ⟨r10, er10, hf⟩ := bd hf
        refine g_callV (M := mX7_ratify) (kc := 1) (ks := 15) (as := [vi a1, vr r2]) (rest := []) dX7_ratify_40 cbX4_hasSign vwRX7_78 rfl eb9 rfl (Nat.le_of_ble_eq_true rfl) (Nat.le_of_ble_eq_true rfl) (c_X4_hasSign G b9 a1 r2 h r10 er10) ?_
        refine g_if_ne (M := mX7_ratify) (tgt := 49) dX7_ratify_43 rfl (fun q43 => ?_) (fun q43 => ?_)
        · replace hf := iff_ hf q43
          refine g_aload_n (M := mX7_ratify) dX7_ratify_49 rfl 1 rfl ?_
          obtain ⟨v11, ev11, hf⟩ := bd hf
          refine g_getR (M := mX7_ratify) dX7_ratify_50 flRX7_18 (fun _ => rfl) ev11 ?_
          refine g_iload_n (M := mX7_ratify) dX7_ratify_53 rfl 2 rfl ?_
          refine g_aload_n (M := mX7_ratify) dX7_ratify_54 rfl 0 rfl ?_
          obtain ⟨b12, eb12, hf⟩ := bd hf
          obtain ⟨r13, er13, hf⟩ := bd hf
          refine g_callV (M := mX7_ratify) (kc := 1) (ks := 15) (as := [vi a1, vr r2]) (rest := []) dX7_ratify_55 cbX4_belonging vwRX7_91 rfl eb12 rfl (Nat.le_of_ble_eq_true rfl) (Nat.le_of_ble_eq_true rfl) (c_X4_belonging G b12 a1 r2 h r13 er13) ?_
          refine g_ifnull (M := mX7_ratify) (tgt := 64) dX7_ratify_58 rfl (fun q58 => ?_) (fun q58 => ?_)
          · replace hf := ift hf q58
            refine g_aload_n (M := mX7_ratify) dX7_ratify_64 rfl 1 rfl ?_
            obtain ⟨v14, ev14, hf⟩ := bd hf
            refine g_getR (M := mX7_ratify) dX7_ratify_65 flRX7_18 (fun _ => rfl) ev14 ?_
            refine g_iconst (M := mX7_ratify) (v := 1) dX7_ratify_68 rfl ?_
            refine g_iload_n (M := mX7_ratify) dX7_ratify_69 rfl 2 rfl ?_
            refine g_aload_n (M := mX7_ratify) dX7_ratify_70 rfl 0 rfl ?_
            refine g_aload_n (M := mX7_ratify) dX7_ratify_71 rfl 1 rfl ?_
            obtain ⟨v15, ev15, hf⟩ := bd hf
            refine g_getI (M := mX7_ratify) dX7_ratify_72 flRX7_67 (fun _ => rfl) ev15 ?_
            refine g_aload_n (M := mX7_ratify) dX7_ratify_75 rfl 1 rfl ?_
            obtain ⟨v16, ev16, hf⟩ := bd hf
            refine g_getI (M := mX7_ratify) dX7_ratify_76 flRX7_67 (fun _ => rfl) ev16 ?_
            refine g_aload_n (M := mX7_ratify) dX7_ratify_79 rfl 0 rfl ?_
            obtain ⟨v17, ev17, hf⟩ := bd hf
            refine g_getI (M := mX7_ratify) dX7_ratify_80 flRX7_95 (fun _ => rfl) ev17 ?_
            refine g_iadd (M := mX7_ratify) dX7_ratify_83 ?_
            obtain ⟨b18, eb18, hf⟩ := bd hf
            obtain ⟨r19, er19, hf⟩ := bd hf
            refine g_callV (M := mX7_ratify) (kc := 0) (ks := 0) (as := [vi (1 : Int32), vi a1, vr r2, vi v15, vi (v16 + v17)]) (rest := []) dX7_ratify_84 cbX4_lodge vwRX7_82 rfl eb18 rfl (Nat.le_of_ble_eq_true rfl) (Nat.le_of_ble_eq_true rfl) (c_X4_lodge G b18 (1 : Int32) a1 r2 v15 (v16 + v17) h r19 er19) ?_
            obtain ⟨v20, ev20, hf⟩ := bd hf
            refine g_getI (M := mX7_ratify) dX7_ratify_87 flRX7_86 (fun _ => rfl) ev20 ?_
            cases hf
            exact g_ret (M := mX7_ratify) dX7_ratify_90 rfl
          · replace hf := iff_ hf q58
            refine g_bipush (M := mX7_ratify) (v := -4) dX7_ratify_61 rfl ?_
            cases hf
            exact g_weak (M := mX7_ratify) (Nat.zero_le _) (Nat.zero_le _) (g_ret (M := mX7_ratify) dX7_ratify_63 rfl)
        · replace hf := ift hf q43
          refine g_bipush (M := mX7_ratify) (v := -5) dX7_ratify_46 rfl ?_
          cases hf
          exact g_weak (M := mX7_ratify) (Nat.zero_le _) (Nat.zero_le _) (g_ret (M := mX7_ratify) dX7_ratify_48 rfl)
      · replace hf := iff_ hf q28
        refine g_bipush (M := mX7_ratify) (v := -8) dX7_ratify_31 rfl ?_
        cases hf
        exact g_weak (M := mX7_ratify) (Nat.zero_le _) (Nat.zero_le _) (g_ret (M := mX7_ratify) dX7_ratify_33 rfl)
    · replace hf := ift hf q15
      refine g_bipush (M := mX7_ratify) (v := -2) dX7_ratify_18 rfl ?_
      cases hf
      exact g_weak (M := mX7_ratify) (Nat.zero_le _) (Nat.zero_le _) (g_ret (M := mX7_ratify) dX7_ratify_20 rfl)
theorem c_X7_ratify (G : Gm) (a0 : Nat) (a1 : Int32) (a2 : Int32) (h : AH) (o : (Int32 × AH)) (hf : f_X7_ratify a0 a1 a2 h = some o) : CT G yX7_ratify mX7_ratify (some .int) 1 15 [vr (some a0), vi a1, vi a2] h (some (vi o.1)) o.2 :=
  CT.int (by decide +kernel) rfl rfl rfl (Nat.le_of_ble_eq_true rfl) (x_X7_ratify G a0 a1 a2 h o hf)
theorem cbX7_ratify : CB yX7_ratify mX7_ratify (some .int) 2 := ⟨cd_yX7_ratify, itRX7, ⟨by decide, by decide⟩, by decide +kernel, by decide⟩
abbrev mX7_join : MI := (RX7, "join", cX7_join, 4, .ireturn, 3)
def f_X7_join (a0 : Nat) (a1 : Int32) (a2 : Int32) (h : AH) : Option (Int32 × AH) :=
  (ck 7 h (some a0)).bind fun b1 =>
  (f_X7_agreementAt b1 a2 h).bind fun r2 =>
  (ck 7 h (some a0)).bind fun b3 =>
  (f_X7_isParty b3 a1 h).bind fun r4 =>
  if (b2i r4) = 0 then (
    some ((-2 : Int32), h)
  ) else (
    if r2 = none then (
      some ((-2 : Int32), h)
    ) else (
      (gR 7 1 h (some a0)).bind fun v5 =>
      (ck 4 h v5).bind fun b6 =>
      (f_X4_isFull b6 h).bind fun r7 =>
      if (b2i r7) = 0 then (
        (gR 7 1 h (some a0)).bind fun v8 =>
        (ck 4 h v8).bind fun b9 =>
        (f_X4_belonging b9 a1 r2 h).bind fun r10 =>
        if r10 = none then (
          (gR 7 1 h (some a0)).bind fun v11 =>
          (gI 7 6 h (some a0)).bind fun v12 =>
          (gI 7 6 h (some a0)).bind fun v13 =>
          (gI 0 2 h r2).bind fun v14 =>
          (ck 4 h v11).bind fun b15 =>
          (f_X4_lodge b15 (2 : Int32) a1 r2 v12 (v13 + v14) h).bind fun r16 =>
          (gI 3 0 r16.2 r16.1).bind fun v17 =>
          some (v17, r16.2)
        ) else (
          some ((-4 : Int32), h)
        )
      ) else (
        some ((-8 : Int32), h)
      )
    )
  )
theorem x_X7_join (G : Gm) (a0 : Nat) (a1 : Int32) (a2 : Int32) (h : AH) (o : (Int32 × AH)) (hf : f_X7_join a0 a1 a2 h = some o) : GO G mX7_join 1 15 0 [(0, vr (some a0)), (1, vi a1), (2, vi a2)] [] h (some (vi o.1)) o.2 := by
  unfold f_X7_join at hf
  refine g_aload_n (M := mX7_join) dX7_join_0 rfl 0 rfl ?_
  refine g_iload_n (M := mX7_join) dX7_join_1 rfl 2 rfl ?_
  obtain ⟨b1, eb1, hf⟩ := bd hf
  obtain ⟨r2, er2, hf⟩ := bd hf
  refine g_callV (M := mX7_join) (kc := 1) (ks := 15) (as := [vi a2]) (rest := []) dX7_join_2 cbX7_agreementAt vwRX7_50 rfl eb1 rfl (Nat.le_of_ble_eq_true rfl) (Nat.le_of_ble_eq_true rfl) (c_X7_agreementAt G b1 a2 h r2 er2) ?_
  refine g_astore_n (M := mX7_join) (L2 := [(3, vr r2), (0, vr (some a0)), (1, vi a1), (2, vi a2)]) dX7_join_5 rfl (Nat.le_of_ble_eq_true rfl) rfl ?_
  refine g_aload_n (M := mX7_join) dX7_join_6 rfl 1 rfl ?_
  refine g_iload_n (M := mX7_join) dX7_join_7 rfl 2 rfl ?_
  obtain ⟨b3, eb3, hf⟩ := bd hf
  obtain ⟨r4, er4, hf⟩ := bd hf
  refine g_callV (M := mX7_join) (kc := 1) (ks := 15) (as := [vi a1]) (rest := []) dX7_join_8 cbX7_isParty vwRX7_71 rfl eb3 rfl (Nat.le_of_ble_eq_true rfl) (Nat.le_of_ble_eq_true rfl) (c_X7_isParty G b3 a1 h r4 er4) ?_
  refine g_if_eq (M := mX7_join) (tgt := 18) dX7_join_11 rfl (fun q11 => ?_) (fun q11 => ?_)
  · replace hf := ift hf q11
    refine g_bipush (M := mX7_join) (v := -2) dX7_join_18 rfl ?_
    cases hf
    exact g_weak (M := mX7_join) (Nat.zero_le _) (Nat.zero_le _) (g_ret (M := mX7_join) dX7_join_20 rfl)
  · replace hf := iff_ hf q11
    refine g_aload_n (M := mX7_join) dX7_join_14 rfl 0 rfl ?_
    refine g_ifnonnull (M := mX7_join) (tgt := 21) dX7_join_15 rfl (fun q15 => ?_) (fun q15 => ?_)
    · replace hf := iff_ hf q15
      refine g_aload_n (M := mX7_join) dX7_join_21 rfl 1 rfl ?_
      obtain ⟨v5, ev5, hf⟩ := bd hf
      refine g_getR (M := mX7_join) dX7_join_22 flRX7_18 (fun _ => rfl) ev5 ?_
      obtain ⟨b6, eb6, hf⟩ := bd hf
      obtain ⟨r7, er7, hf⟩ := bd hf
      refine g_callV (M := mX7_join) (kc := 1) (ks := 15) (as := []) (rest := []) dX7_join_25 cbX4_isFull vwRX7_74 rfl eb6 rfl (Nat.le_of_ble_eq_true rfl) (Nat.le_of_ble_eq_true rfl) (c_X4_isFull G b6 h r7 er7) ?_
      refine g_if_eq (M := mX7_join) (tgt := 34) dX7_join_28 rfl (fun q28 => ?_) (fun q28 => ?_)
      · replace hf := ift hf q28
        refine g_aload_n (M := mX7_join) dX7_join_34 rfl 1 rfl ?_
        obtain ⟨v8, ev8, hf⟩ := bd hf
        refine g_getR (M := mX7_join) dX7_join_35 flRX7_18 (fun _ => rfl) ev8 ?_
        refine g_iload_n (M := mX7_join) dX7_join_38 rfl 2 rfl ?_
        refine g_aload_n (M := mX7_join) dX7_join_39 rfl 0 rfl ?_
        obtain ⟨b9, eb9, hf⟩ := bd hf
        obtain ⟨r10, er10, hf⟩ := bd hf
        refine g_callV (M := mX7_join) (kc := 1) (ks := 15) (as := [vi a1, vr r2]) (rest := []) dX7_join_40 cbX4_belonging vwRX7_91 rfl eb9 rfl (Nat.le_of_ble_eq_true rfl) (Nat.le_of_ble_eq_true rfl) (c_X4_belonging G b9 a1 r2 h r10 er10) ?_
        refine g_ifnull (M := mX7_join) (tgt := 49) dX7_join_43 rfl (fun q43 => ?_) (fun q43 => ?_)
        · replace hf := ift hf q43
          refine g_aload_n (M := mX7_join) dX7_join_49 rfl 1 rfl ?_
          obtain ⟨v11, ev11, hf⟩ := bd hf
          refine g_getR (M := mX7_join) dX7_join_50 flRX7_18 (fun _ => rfl) ev11 ?_
          refine g_iconst (M := mX7_join) (v := 2) dX7_join_53 rfl ?_
          refine g_iload_n (M := mX7_join) dX7_join_54 rfl 2 rfl ?_
          refine g_aload_n (M := mX7_join) dX7_join_55 rfl 0 rfl ?_
          refine g_aload_n (M := mX7_join) dX7_join_56 rfl 1 rfl ?_
          obtain ⟨v12, ev12, hf⟩ := bd hf
          refine g_getI (M := mX7_join) dX7_join_57 flRX7_67 (fun _ => rfl) ev12 ?_
          refine g_aload_n (M := mX7_join) dX7_join_60 rfl 1 rfl ?_
          obtain ⟨v13, ev13, hf⟩ := bd hf
          refine g_getI (M := mX7_join) dX7_join_61 flRX7_67 (fun _ => rfl) ev13 ?_
          refine g_aload_n (M := mX7_join) dX7_join_64 rfl 0 rfl ?_
          obtain ⟨v14, ev14, hf⟩ := bd hf
          refine g_getI (M := mX7_join) dX7_join_65 flRX7_95 (fun _ => rfl) ev14 ?_
          refine g_iadd (M := mX7_join) dX7_join_68 ?_
          obtain ⟨b15, eb15, hf⟩ := bd hf
          obtain ⟨r16, er16, hf⟩ := bd hf
          refine g_callV (M := mX7_join) (kc := 0) (ks := 0) (as := [vi (2 : Int32), vi a1, vr r2, vi v12, vi (v13 + v14)]) (rest := []) dX7_join_69 cbX4_lodge vwRX7_82 rfl eb15 rfl (Nat.le_of_ble_eq_true rfl) (Nat.le_of_ble_eq_true rfl) (c_X4_lodge G b15 (2 : Int32) a1 r2 v12 (v13 + v14) h r16 er16) ?_
          obtain ⟨v17, ev17, hf⟩ := bd hf
          refine g_getI (M := mX7_join) dX7_join_72 flRX7_86 (fun _ => rfl) ev17 ?_
          cases hf
          exact g_ret (M := mX7_join) dX7_join_75 rfl
        · replace hf := iff_ hf q43
          refine g_bipush (M := mX7_join) (v := -4) dX7_join_46 rfl ?_
          cases hf
          exact g_weak (M := mX7_join) (Nat.zero_le _) (Nat.zero_le _) (g_ret (M := mX7_join) dX7_join_48 rfl)
      · replace hf := iff_ hf q28
        refine g_bipush (M := mX7_join) (v := -8) dX7_join_31 rfl ?_
        cases hf
        exact g_weak (M := mX7_join) (Nat.zero_le _) (Nat.zero_le _) (g_ret (M := mX7_join) dX7_join_33 rfl)
    · replace hf := ift hf q15
      refine g_bipush (M := mX7_join) (v := -2) dX7_join_18 rfl ?_
      cases hf
      exact g_weak (M := mX7_join) (Nat.zero_le _) (Nat.zero_le _) (g_ret (M := mX7_join) dX7_join_20 rfl)
theorem c_X7_join (G : Gm) (a0 : Nat) (a1 : Int32) (a2 : Int32) (h : AH) (o : (Int32 × AH)) (hf : f_X7_join a0 a1 a2 h = some o) : CT G yX7_join mX7_join (some .int) 1 15 [vr (some a0), vi a1, vi a2] h (some (vi o.1)) o.2 :=
  CT.int (by decide +kernel) rfl rfl rfl (Nat.le_of_ble_eq_true rfl) (x_X7_join G a0 a1 a2 h o hf)
theorem cbX7_join : CB yX7_join mX7_join (some .int) 2 := ⟨cd_yX7_join, itRX7, ⟨by decide, by decide⟩, by decide +kernel, by decide⟩
abbrev mX7_reserve : MI := (RX7, "reserve", cX7_reserve, 8, .ireturn, 3)
def f_X7_reserve (a0 : Nat) (a1 : Int32) (a2 : Int32) (a3 : Int32) (a4 : Int32) (h : AH) : Option (Int32 × AH) :=
  (ck 7 h (some a0)).bind fun b1 =>
  (f_X7_agreementAt b1 a2 h).bind fun r2 =>
  (ck 7 h (some a0)).bind fun b3 =>
  (f_X7_isParty b3 a1 h).bind fun r4 =>
  if (b2i r4) = 0 then (
    some ((-2 : Int32), h)
  ) else (
    if r2 = none then (
      some ((-2 : Int32), h)
    ) else (
      (ck 0 h r2).bind fun b5 =>
      (f_X0_hasArticle b5 a3 h).bind fun r6 =>
      if (b2i r6) = 0 then (
        some ((-2 : Int32), h)
      ) else (
        (f_X7_isFrom (0 : Int32) (1000000 : Int32) a4 h).bind fun r7 =>
        if (b2i r7) = 0 then (
          some ((-2 : Int32), h)
        ) else (
          (gR 7 1 h (some a0)).bind fun v8 =>
          (ck 4 h v8).bind fun b9 =>
          (f_X4_isFull b9 h).bind fun r10 =>
          if (b2i r10) = 0 then (
            (gR 7 1 h (some a0)).bind fun v11 =>
            (ck 4 h v11).bind fun b12 =>
            (f_X4_belonging b12 a1 r2 h).bind fun r13 =>
            if r13 = none then (
              some ((-6 : Int32), h)
            ) else (
              (gR 7 1 h (some a0)).bind fun v14 =>
              (gI 7 6 h (some a0)).bind fun v15 =>
              (gI 7 6 h (some a0)).bind fun v16 =>
              (gI 0 2 h r2).bind fun v17 =>
              (ck 4 h v14).bind fun b18 =>
              (f_X4_lodge b18 (3 : Int32) a1 r2 v15 (v16 + v17) h).bind fun r19 =>
              (pR 3 7 r19.2 r19.1 r13).bind fun h20 =>
              (pI 3 8 h20 r19.1 a3).bind fun h21 =>
              (pI 3 9 h21 r19.1 a4).bind fun h22 =>
              (gI 3 0 h22 r19.1).bind fun v23 =>
              some (v23, h22)
            )
          ) else (
            some ((-8 : Int32), h)
          )
        )
      )
    )
  )
theorem x_X7_reserve (G : Gm) (a0 : Nat) (a1 : Int32) (a2 : Int32) (a3 : Int32) (a4 : Int32) (h : AH) (o : (Int32 × AH)) (hf : f_X7_reserve a0 a1 a2 a3 a4 h = some o) : GO G mX7_reserve 1 15 0 [(0, vr (some a0)), (1, vi a1), (2, vi a2), (3, vi a3), (4, vi a4)] [] h (some (vi o.1)) o.2 := by
  unfold f_X7_reserve at hf
  refine g_aload_n (M := mX7_reserve) dX7_reserve_0 rfl 0 rfl ?_
  refine g_iload_n (M := mX7_reserve) dX7_reserve_1 rfl 2 rfl ?_
  obtain ⟨b1, eb1, hf⟩ := bd hf
  obtain ⟨r2, er2, hf⟩ := bd hf
  refine g_callV (M := mX7_reserve) (kc := 1) (ks := 15) (as := [vi a2]) (rest := []) dX7_reserve_2 cbX7_agreementAt vwRX7_50 rfl eb1 rfl (Nat.le_of_ble_eq_true rfl) (Nat.le_of_ble_eq_true rfl) (c_X7_agreementAt G b1 a2 h r2 er2) ?_
  refine g_astore (M := mX7_reserve) (L2 := [(5, vr r2), (0, vr (some a0)), (1, vi a1), (2, vi a2), (3, vi a3), (4, vi a4)]) dX7_reserve_5 (Nat.le_of_ble_eq_true rfl) rfl ?_
  refine g_aload_n (M := mX7_reserve) dX7_reserve_7 rfl 1 rfl ?_
  refine g_iload_n (M := mX7_reserve) dX7_reserve_8 rfl 2 rfl ?_
  obtain ⟨b3, eb3, hf⟩ := bd hf
  obtain ⟨r4, er4, hf⟩ := bd hf
  refine g_callV (M := mX7_reserve) (kc := 1) (ks := 15) (as := [vi a1]) (rest := []) dX7_reserve_9 cbX7_isParty vwRX7_71 rfl eb3 rfl (Nat.le_of_ble_eq_true rfl) (Nat.le_of_ble_eq_true rfl) (c_X7_isParty G b3 a1 h r4 er4) ?_
  refine g_if_eq (M := mX7_reserve) (tgt := 40) dX7_reserve_12 rfl (fun q12 => ?_) (fun q12 => ?_)
  · replace hf := ift hf q12
    refine g_bipush (M := mX7_reserve) (v := -2) dX7_reserve_40 rfl ?_
    cases hf
    exact g_weak (M := mX7_reserve) (Nat.zero_le _) (Nat.zero_le _) (g_ret (M := mX7_reserve) dX7_reserve_42 rfl)
  · replace hf := iff_ hf q12
    refine g_aload (M := mX7_reserve) dX7_reserve_15 0 rfl ?_
    refine g_ifnull (M := mX7_reserve) (tgt := 40) dX7_reserve_17 rfl (fun q17 => ?_) (fun q17 => ?_)
    · replace hf := ift hf q17
      refine g_bipush (M := mX7_reserve) (v := -2) dX7_reserve_40 rfl ?_
      cases hf
      exact g_weak (M := mX7_reserve) (Nat.zero_le _) (Nat.zero_le _) (g_ret (M := mX7_reserve) dX7_reserve_42 rfl)
    · replace hf := iff_ hf q17
      refine g_aload (M := mX7_reserve) dX7_reserve_20 0 rfl ?_
      refine g_iload_n (M := mX7_reserve) dX7_reserve_22 rfl 4 rfl ?_
      obtain ⟨b5, eb5, hf⟩ := bd hf
      obtain ⟨r6, er6, hf⟩ := bd hf
      refine g_callV (M := mX7_reserve) (kc := 1) (ks := 15) (as := [vi a3]) (rest := []) dX7_reserve_23 cbX0_hasArticle vwRX7_54 rfl eb5 rfl (Nat.le_of_ble_eq_true rfl) (Nat.le_of_ble_eq_true rfl) (c_X0_hasArticle G b5 a3 h r6 er6) ?_
      refine g_if_eq (M := mX7_reserve) (tgt := 40) dX7_reserve_26 rfl (fun q26 => ?_) (fun q26 => ?_)
      · replace hf := ift hf q26
        refine g_bipush (M := mX7_reserve) (v := -2) dX7_reserve_40 rfl ?_
        cases hf
        exact g_weak (M := mX7_reserve) (Nat.zero_le _) (Nat.zero_le _) (g_ret (M := mX7_reserve) dX7_reserve_42 rfl)
      · replace hf := iff_ hf q26
        refine g_iconst (M := mX7_reserve) (v := 0) dX7_reserve_29 rfl ?_
        refine g_ldc (M := mX7_reserve) dX7_reserve_30 csRX7_58 ?_
        refine g_iload (M := mX7_reserve) dX7_reserve_32 5 rfl ?_
        obtain ⟨r7, er7, hf⟩ := bd hf
        refine g_callS (M := mX7_reserve) (kc := 1) (ks := 15) (as := [vi (0 : Int32), vi (1000000 : Int32), vi a4]) (rest := []) dX7_reserve_34 cbX7_isFrom mlRX7_43 st_yX7_isFrom rfl rfl (Nat.le_of_ble_eq_true rfl) (Nat.le_of_ble_eq_true rfl) (c_X7_isFrom G (0 : Int32) (1000000 : Int32) a4 h r7 er7) ?_
        refine g_if_ne (M := mX7_reserve) (tgt := 43) dX7_reserve_37 rfl (fun q37 => ?_) (fun q37 => ?_)
        · replace hf := iff_ hf q37
          refine g_aload_n (M := mX7_reserve) dX7_reserve_43 rfl 1 rfl ?_
          obtain ⟨v8, ev8, hf⟩ := bd hf
          refine g_getR (M := mX7_reserve) dX7_reserve_44 flRX7_18 (fun _ => rfl) ev8 ?_
          obtain ⟨b9, eb9, hf⟩ := bd hf
          obtain ⟨r10, er10, hf⟩ := bd hf
          refine g_callV (M := mX7_reserve) (kc := 1) (ks := 15) (as := []) (rest := []) dX7_reserve_47 cbX4_isFull vwRX7_74 rfl eb9 rfl (Nat.le_of_ble_eq_true rfl) (Nat.le_of_ble_eq_true rfl) (c_X4_isFull G b9 h r10 er10) ?_
          refine g_if_eq (M := mX7_reserve) (tgt := 56) dX7_reserve_50 rfl (fun q50 => ?_) (fun q50 => ?_)
          · replace hf := ift hf q50
            refine g_aload_n (M := mX7_reserve) dX7_reserve_56 rfl 1 rfl ?_
            obtain ⟨v11, ev11, hf⟩ := bd hf
            refine g_getR (M := mX7_reserve) dX7_reserve_57 flRX7_18 (fun _ => rfl) ev11 ?_
            refine g_iload_n (M := mX7_reserve) dX7_reserve_60 rfl 2 rfl ?_
            refine g_aload (M := mX7_reserve) dX7_reserve_61 0 rfl ?_
            obtain ⟨b12, eb12, hf⟩ := bd hf
            obtain ⟨r13, er13, hf⟩ := bd hf
            refine g_callV (M := mX7_reserve) (kc := 1) (ks := 15) (as := [vi a1, vr r2]) (rest := []) dX7_reserve_63 cbX4_belonging vwRX7_91 rfl eb12 rfl (Nat.le_of_ble_eq_true rfl) (Nat.le_of_ble_eq_true rfl) (c_X4_belonging G b12 a1 r2 h r13 er13) ?_
            refine g_astore (M := mX7_reserve) (L2 := [(6, vr r13), (5, vr r2), (0, vr (some a0)), (1, vi a1), (2, vi a2), (3, vi a3), (4, vi a4)]) dX7_reserve_66 (Nat.le_of_ble_eq_true rfl) rfl ?_
            refine g_aload (M := mX7_reserve) dX7_reserve_68 0 rfl ?_
            refine g_ifnonnull (M := mX7_reserve) (tgt := 76) dX7_reserve_70 rfl (fun q70 => ?_) (fun q70 => ?_)
            · replace hf := iff_ hf q70
              refine g_aload_n (M := mX7_reserve) dX7_reserve_76 rfl 2 rfl ?_
              obtain ⟨v14, ev14, hf⟩ := bd hf
              refine g_getR (M := mX7_reserve) dX7_reserve_77 flRX7_18 (fun _ => rfl) ev14 ?_
              refine g_iconst (M := mX7_reserve) (v := 3) dX7_reserve_80 rfl ?_
              refine g_iload_n (M := mX7_reserve) dX7_reserve_81 rfl 3 rfl ?_
              refine g_aload (M := mX7_reserve) dX7_reserve_82 1 rfl ?_
              refine g_aload_n (M := mX7_reserve) dX7_reserve_84 rfl 2 rfl ?_
              obtain ⟨v15, ev15, hf⟩ := bd hf
              refine g_getI (M := mX7_reserve) dX7_reserve_85 flRX7_67 (fun _ => rfl) ev15 ?_
              refine g_aload_n (M := mX7_reserve) dX7_reserve_88 rfl 2 rfl ?_
              obtain ⟨v16, ev16, hf⟩ := bd hf
              refine g_getI (M := mX7_reserve) dX7_reserve_89 flRX7_67 (fun _ => rfl) ev16 ?_
              refine g_aload (M := mX7_reserve) dX7_reserve_92 1 rfl ?_
              obtain ⟨v17, ev17, hf⟩ := bd hf
              refine g_getI (M := mX7_reserve) dX7_reserve_94 flRX7_95 (fun _ => rfl) ev17 ?_
              refine g_iadd (M := mX7_reserve) dX7_reserve_97 ?_
              obtain ⟨b18, eb18, hf⟩ := bd hf
              obtain ⟨r19, er19, hf⟩ := bd hf
              refine g_callV (M := mX7_reserve) (kc := 0) (ks := 0) (as := [vi (3 : Int32), vi a1, vr r2, vi v15, vi (v16 + v17)]) (rest := []) dX7_reserve_98 cbX4_lodge vwRX7_82 rfl eb18 rfl (Nat.le_of_ble_eq_true rfl) (Nat.le_of_ble_eq_true rfl) (c_X4_lodge G b18 (3 : Int32) a1 r2 v15 (v16 + v17) h r19 er19) ?_
              refine g_astore (M := mX7_reserve) (L2 := [(7, vr r19.1), (6, vr r13), (5, vr r2), (0, vr (some a0)), (1, vi a1), (2, vi a2), (3, vi a3), (4, vi a4)]) dX7_reserve_101 (Nat.le_of_ble_eq_true rfl) rfl ?_
              refine g_aload (M := mX7_reserve) dX7_reserve_103 0 rfl ?_
              refine g_aload (M := mX7_reserve) dX7_reserve_105 1 rfl ?_
              obtain ⟨h20, eh20, hf⟩ := bd hf
              refine g_putR (M := mX7_reserve) dX7_reserve_107 flRX7_98 (Or.inl ⟨_, rfl⟩) eh20 ?_
              refine g_aload (M := mX7_reserve) dX7_reserve_110 0 rfl ?_
              refine g_iload_n (M := mX7_reserve) dX7_reserve_112 rfl 6 rfl ?_
              obtain ⟨h21, eh21, hf⟩ := bd hf
              refine g_putI (M := mX7_reserve) dX7_reserve_113 flRX7_102 rfl eh21 ?_
              refine g_aload (M := mX7_reserve) dX7_reserve_116 0 rfl ?_
              refine g_iload (M := mX7_reserve) dX7_reserve_118 7 rfl ?_
              obtain ⟨h22, eh22, hf⟩ := bd hf
              refine g_putI (M := mX7_reserve) dX7_reserve_120 flRX7_105 rfl eh22 ?_
              refine g_aload (M := mX7_reserve) dX7_reserve_123 0 rfl ?_
              obtain ⟨v23, ev23, hf⟩ := bd hf
              refine g_getI (M := mX7_reserve) dX7_reserve_125 flRX7_86 (fun _ => rfl) ev23 ?_
              cases hf
              exact g_ret (M := mX7_reserve) dX7_reserve_128 rfl
            · replace hf := ift hf q70
              refine g_bipush (M := mX7_reserve) (v := -6) dX7_reserve_73 rfl ?_
              cases hf
              exact g_weak (M := mX7_reserve) (Nat.zero_le _) (Nat.zero_le _) (g_ret (M := mX7_reserve) dX7_reserve_75 rfl)
          · replace hf := iff_ hf q50
            refine g_bipush (M := mX7_reserve) (v := -8) dX7_reserve_53 rfl ?_
            cases hf
            exact g_weak (M := mX7_reserve) (Nat.zero_le _) (Nat.zero_le _) (g_ret (M := mX7_reserve) dX7_reserve_55 rfl)
        · replace hf := ift hf q37
          refine g_bipush (M := mX7_reserve) (v := -2) dX7_reserve_40 rfl ?_
          cases hf
          exact g_weak (M := mX7_reserve) (Nat.zero_le _) (Nat.zero_le _) (g_ret (M := mX7_reserve) dX7_reserve_42 rfl)
theorem c_X7_reserve (G : Gm) (a0 : Nat) (a1 : Int32) (a2 : Int32) (a3 : Int32) (a4 : Int32) (h : AH) (o : (Int32 × AH)) (hf : f_X7_reserve a0 a1 a2 a3 a4 h = some o) : CT G yX7_reserve mX7_reserve (some .int) 1 15 [vr (some a0), vi a1, vi a2, vi a3, vi a4] h (some (vi o.1)) o.2 :=
  CT.int (by decide +kernel) rfl rfl rfl (Nat.le_of_ble_eq_true rfl) (x_X7_reserve G a0 a1 a2 a3 a4 h o hf)
theorem cbX7_reserve : CB yX7_reserve mX7_reserve (some .int) 4 := ⟨cd_yX7_reserve, itRX7, ⟨by decide, by decide⟩, by decide +kernel, by decide⟩
