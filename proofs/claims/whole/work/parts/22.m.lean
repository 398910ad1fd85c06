abbrev mX8_join : MI := (RX8, "join", cX8_join, 3, .ireturn, 2)
def f_X8_join (a0 : Nat) (a1 : Int32) (a2 : Int32) (h : AH) : Option (Int32 × AH) :=
  (ck 8 h (some a0)).bind fun b1 =>
  (f_X8_isParty b1 a1 h).bind fun r2 =>
  if (b2i r2) = 0 then (
    some ((-2 : Int32), h)
  ) else (
    (ck 8 h (some a0)).bind fun b3 =>
    (f_X8_isAgreement b3 a2 h).bind fun r4 =>
    if (b2i r4) = 0 then (
      some ((-2 : Int32), h)
    ) else (
      (ck 8 h (some a0)).bind fun b5 =>
      (f_X8_isFull b5 h).bind fun r6 =>
      if (b2i r6) = 0 then (
        (ck 8 h (some a0)).bind fun b7 =>
        (f_X8_belongs b7 a1 a2 h).bind fun r8 =>
        if r8 = (-1 : Int32) then (
          (gR 8 5 h (some a0)).bind fun v9 =>
          (lI 10 h v9 a2).bind fun v10 =>
          (ck 8 h (some a0)).bind fun b11 =>
          (f_X8_lodge b11 (2 : Int32) a1 a2 v10 (-1 : Int32) (-1 : Int32) h).bind fun r12 =>
          some (r12.1, r12.2)
        ) else (
          some ((-4 : Int32), h)
        )
      ) else (
        some ((-8 : Int32), h)
      )
    )
  )
theorem x_X8_join (G : Gm) (a0 : Nat) (a1 : Int32) (a2 : Int32) (h : AH) (o : (Int32 × AH)) (hf : f_X8_join a0 a1 a2 h = some o) : GO G mX8_join 0 0 0 [(0, vr (some a0)), (1, vi a1), (2, vi a2)] [] h (some (vi o.1)) o.2 := by
  unfold f_X8_join at hf
  refine g_aload_n (M := mX8_join) dX8_join_0 rfl 0 rfl ?_
  refine g_iload_n (M := mX8_join) dX8_join_1 rfl 1 rfl ?_
  obtain ⟨b1, eb1, hf⟩ := bd hf
  obtain ⟨r2, er2, hf⟩ := bd hf
  refine g_callV (M := mX8_join) (kc := 0) (ks := 0) (as := [vi a1]) (rest := []) dX8_join_2 cbX8_isParty vwRX8_115 rfl eb1 rfl (Nat.le_of_ble_eq_true rfl) (Nat.le_of_ble_eq_true rfl) (c_X8_isParty G b1 a1 h r2 er2) ?_
  refine g_if_eq (M := mX8_join) (tgt := 16) dX8_join_5 rfl (fun q5 => ?_) (fun q5 => ?_)
  · replace hf := ift hf q5
    refine g_bipush (M := mX8_join) (v := -2) dX8_join_16 rfl ?_
    cases hf
    exact g_ret (M := mX8_join) dX8_join_18 rfl
  · replace hf := iff_ hf q5
    refine g_aload_n (M := mX8_join) dX8_join_8 rfl 0 rfl ?_
    refine g_iload_n (M := mX8_join) dX8_join_9 rfl 2 rfl ?_
    obtain ⟨b3, eb3, hf⟩ := bd hf
    obtain ⟨r4, er4, hf⟩ := bd hf
    refine g_callV (M := mX8_join) (kc := 0) (ks := 0) (as := [vi a2]) (rest := []) dX8_join_10 cbX8_isAgreement vwRX8_85 rfl eb3 rfl (Nat.le_of_ble_eq_true rfl) (Nat.le_of_ble_eq_true rfl) (c_X8_isAgreement G b3 a2 h r4 er4) ?_
    refine g_if_ne (M := mX8_join) (tgt := 19) dX8_join_13 rfl (fun q13 => ?_) (fun q13 => ?_)
    · replace hf := iff_ hf q13
      refine g_aload_n (M := mX8_join) dX8_join_19 rfl 0 rfl ?_
      obtain ⟨b5, eb5, hf⟩ := bd hf
      obtain ⟨r6, er6, hf⟩ := bd hf
      refine g_callV (M := mX8_join) (kc := 0) (ks := 0) (as := []) (rest := []) dX8_join_20 cbX8_isFull vwRX8_118 rfl eb5 rfl (Nat.le_of_ble_eq_true rfl) (Nat.le_of_ble_eq_true rfl) (c_X8_isFull G b5 h r6 er6) ?_
      refine g_if_eq (M := mX8_join) (tgt := 29) dX8_join_23 rfl (fun q23 => ?_) (fun q23 => ?_)
      · replace hf := ift hf q23
        refine g_aload_n (M := mX8_join) dX8_join_29 rfl 0 rfl ?_
        refine g_iload_n (M := mX8_join) dX8_join_30 rfl 1 rfl ?_
        refine g_iload_n (M := mX8_join) dX8_join_31 rfl 2 rfl ?_
        obtain ⟨b7, eb7, hf⟩ := bd hf
        obtain ⟨r8, er8, hf⟩ := bd hf
        refine g_callV (M := mX8_join) (kc := 0) (ks := 0) (as := [vi a1, vi a2]) (rest := []) dX8_join_32 cbX8_belongs vwRX8_129 rfl eb7 rfl (Nat.le_of_ble_eq_true rfl) (Nat.le_of_ble_eq_true rfl) (c_X8_belongs G b7 a1 a2 h r8 er8) ?_
        refine g_iconst (M := mX8_join) (v := -1) dX8_join_35 rfl ?_
        refine g_ic_eq (M := mX8_join) (tgt := 44) dX8_join_36 rfl (fun q36 => ?_) (fun q36 => ?_)
        · replace hf := ift hf q36
          refine g_aload_n (M := mX8_join) dX8_join_44 rfl 0 rfl ?_
          refine g_iconst (M := mX8_join) (v := 2) dX8_join_45 rfl ?_
          refine g_iload_n (M := mX8_join) dX8_join_46 rfl 1 rfl ?_
          refine g_iload_n (M := mX8_join) dX8_join_47 rfl 2 rfl ?_
          refine g_aload_n (M := mX8_join) dX8_join_48 rfl 0 rfl ?_
          obtain ⟨v9, ev9, hf⟩ := bd hf
          refine g_getR (M := mX8_join) dX8_join_49 flRX8_16 (fun _ => rfl) ev9 ?_
          refine g_iload_n (M := mX8_join) dX8_join_52 rfl 2 rfl ?_
          obtain ⟨v10, ev10, hf⟩ := bd hf
          refine g_iald (M := mX8_join) dX8_join_53 ev10 ?_
          refine g_iconst (M := mX8_join) (v := -1) dX8_join_54 rfl ?_
          refine g_iconst (M := mX8_join) (v := -1) dX8_join_55 rfl ?_
          obtain ⟨b11, eb11, hf⟩ := bd hf
          obtain ⟨r12, er12, hf⟩ := bd hf
          refine g_callV (M := mX8_join) (kc := 0) (ks := 0) (as := [vi (2 : Int32), vi a1, vi a2, vi v10, vi (-1 : Int32), vi (-1 : Int32)]) (rest := []) dX8_join_56 cbX8_lodge vwRX8_125 rfl eb11 rfl (Nat.le_of_ble_eq_true rfl) (Nat.le_of_ble_eq_true rfl) (c_X8_lodge G b11 (2 : Int32) a1 a2 v10 (-1 : Int32) (-1 : Int32) h r12 er12) ?_
          cases hf
          exact g_ret (M := mX8_join) dX8_join_59 rfl
        · replace hf := iff_ hf q36
          refine g_bipush (M := mX8_join) (v := -4) dX8_join_39 rfl ?_
          refine g_goto (M := mX8_join) (tgt := 59) dX8_join_41 rfl ?_
          cases hf
          exact g_ret (M := mX8_join) dX8_join_59 rfl
      · replace hf := iff_ hf q23
        refine g_bipush (M := mX8_join) (v := -8) dX8_join_26 rfl ?_
        cases hf
        exact g_ret (M := mX8_join) dX8_join_28 rfl
    · replace hf := ift hf q13
      refine g_bipush (M := mX8_join) (v := -2) dX8_join_16 rfl ?_
      cases hf
      exact g_ret (M := mX8_join) dX8_join_18 rfl
theorem c_X8_join (G : Gm) (a0 : Nat) (a1 : Int32) (a2 : Int32) (h : AH) (o : (Int32 × AH)) (hf : f_X8_join a0 a1 a2 h = some o) : CT G yX8_join mX8_join (some .int) 0 0 [vr (some a0), vi a1, vi a2] h (some (vi o.1)) o.2 :=
  CT.int (by decide +kernel) rfl rfl rfl (Nat.le_of_ble_eq_true rfl) (x_X8_join G a0 a1 a2 h o hf)
theorem cbX8_join : CB yX8_join mX8_join (some .int) 2 := ⟨cd_yX8_join, itRX8, ⟨by decide, by decide⟩, by decide +kernel, by decide⟩
abbrev mX8_reserve : MI := (RX8, "reserve", cX8_reserve, 7, .ireturn, 2)
def f_X8_reserve (a0 : Nat) (a1 : Int32) (a2 : Int32) (a3 : Int32) (a4 : Int32) (h : AH) : Option (Int32 × AH) :=
  (ck 8 h (some a0)).bind fun b1 =>
  (f_X8_isParty b1 a1 h).bind fun r2 =>
  if (b2i r2) = 0 then (
    some ((-2 : Int32), h)
  ) else (
    (ck 8 h (some a0)).bind fun b3 =>
    (f_X8_isArticle b3 a2 a3 h).bind fun r4 =>
    if (b2i r4) = 0 then (
      some ((-2 : Int32), h)
    ) else (
      if a4 < 0 then (
        some ((-2 : Int32), h)
      ) else (
        if a4 ≤ (1000000 : Int32) then (
          (ck 8 h (some a0)).bind fun b5 =>
          (f_X8_isFull b5 h).bind fun r6 =>
          if (b2i r6) = 0 then (
            (ck 8 h (some a0)).bind fun b7 =>
            (f_X8_belongs b7 a1 a2 h).bind fun r8 =>
            if r8 = (-1 : Int32) then (
              some ((-6 : Int32), h)
            ) else (
              (gR 8 5 h (some a0)).bind fun v9 =>
              (lI 10 h v9 a2).bind fun v10 =>
              (ck 8 h (some a0)).bind fun b11 =>
              (f_X8_lodge b11 (3 : Int32) a1 a2 v10 (-1 : Int32) r8 h).bind fun r12 =>
              (gR 8 16 r12.2 (some a0)).bind fun v13 =>
              (stI 10 r12.2 v13 r12.1 a3).bind fun h14 =>
              (gR 8 17 h14 (some a0)).bind fun v15 =>
              (stI 10 h14 v15 r12.1 a4).bind fun h16 =>
              some (r12.1, h16)
            )
          ) else (
            some ((-8 : Int32), h)
          )
        ) else (
          some ((-2 : Int32), h)
        )
      )
    )
  )
theorem x_X8_reserve (G : Gm) (a0 : Nat) (a1 : Int32) (a2 : Int32) (a3 : Int32) (a4 : Int32) (h : AH) (o : (Int32 × AH)) (hf : f_X8_reserve a0 a1 a2 a3 a4 h = some o) : GO G mX8_reserve 0 0 0 [(0, vr (some a0)), (1, vi a1), (2, vi a2), (3, vi a3), (4, vi a4)] [] h (some (vi o.1)) o.2 := by
  unfold f_X8_reserve at hf
  refine g_aload_n (M := mX8_reserve) dX8_reserve_0 rfl 0 rfl ?_
  refine g_iload_n (M := mX8_reserve) dX8_reserve_1 rfl 1 rfl ?_
  obtain ⟨b1, eb1, hf⟩ := bd hf
  obtain ⟨r2, er2, hf⟩ := bd hf
  refine g_callV (M := mX8_reserve) (kc := 0) (ks := 0) (as := [vi a1]) (rest := []) dX8_reserve_2 cbX8_isParty vwRX8_115 rfl eb1 rfl (Nat.le_of_ble_eq_true rfl) (Nat.le_of_ble_eq_true rfl) (c_X8_isParty G b1 a1 h r2 er2) ?_
  refine g_if_eq (M := mX8_reserve) (tgt := 29) dX8_reserve_5 rfl (fun q5 => ?_) (fun q5 => ?_)
  · replace hf := ift hf q5
    refine g_bipush (M := mX8_reserve) (v := -2) dX8_reserve_29 rfl ?_
    cases hf
    exact g_ret (M := mX8_reserve) dX8_reserve_31 rfl
  · replace hf := iff_ hf q5
    refine g_aload_n (M := mX8_reserve) dX8_reserve_8 rfl 0 rfl ?_
    refine g_iload_n (M := mX8_reserve) dX8_reserve_9 rfl 2 rfl ?_
    refine g_iload_n (M := mX8_reserve) dX8_reserve_10 rfl 3 rfl ?_
    obtain ⟨b3, eb3, hf⟩ := bd hf
    obtain ⟨r4, er4, hf⟩ := bd hf
    refine g_callV (M := mX8_reserve) (kc := 0) (ks := 0) (as := [vi a2, vi a3]) (rest := []) dX8_reserve_11 cbX8_isArticle vwRX8_93 rfl eb3 rfl (Nat.le_of_ble_eq_true rfl) (Nat.le_of_ble_eq_true rfl) (c_X8_isArticle G b3 a2 a3 h r4 er4) ?_
    refine g_if_eq (M := mX8_reserve) (tgt := 29) dX8_reserve_14 rfl (fun q14 => ?_) (fun q14 => ?_)
    · replace hf := ift hf q14
      refine g_bipush (M := mX8_reserve) (v := -2) dX8_reserve_29 rfl ?_
      cases hf
      exact g_ret (M := mX8_reserve) dX8_reserve_31 rfl
    · replace hf := iff_ hf q14
      refine g_iload (M := mX8_reserve) dX8_reserve_17 4 rfl ?_
      refine g_if_lt (M := mX8_reserve) (tgt := 29) dX8_reserve_19 rfl (fun q19 => ?_) (fun q19 => ?_)
      · replace hf := ift hf q19
        refine g_bipush (M := mX8_reserve) (v := -2) dX8_reserve_29 rfl ?_
        cases hf
        exact g_ret (M := mX8_reserve) dX8_reserve_31 rfl
      · replace hf := iff_ hf q19
        refine g_iload (M := mX8_reserve) dX8_reserve_22 4 rfl ?_
        refine g_ldc (M := mX8_reserve) dX8_reserve_24 csRX8_97 ?_
        refine g_ic_le (M := mX8_reserve) (tgt := 32) dX8_reserve_26 rfl (fun q26 => ?_) (fun q26 => ?_)
        · replace hf := ift hf q26
          refine g_aload_n (M := mX8_reserve) dX8_reserve_32 rfl 0 rfl ?_
          obtain ⟨b5, eb5, hf⟩ := bd hf
          obtain ⟨r6, er6, hf⟩ := bd hf
          refine g_callV (M := mX8_reserve) (kc := 0) (ks := 0) (as := []) (rest := []) dX8_reserve_33 cbX8_isFull vwRX8_118 rfl eb5 rfl (Nat.le_of_ble_eq_true rfl) (Nat.le_of_ble_eq_true rfl) (c_X8_isFull G b5 h r6 er6) ?_
          refine g_if_eq (M := mX8_reserve) (tgt := 42) dX8_reserve_36 rfl (fun q36 => ?_) (fun q36 => ?_)
          · replace hf := ift hf q36
            refine g_aload_n (M := mX8_reserve) dX8_reserve_42 rfl 0 rfl ?_
            refine g_iload_n (M := mX8_reserve) dX8_reserve_43 rfl 1 rfl ?_
            refine g_iload_n (M := mX8_reserve) dX8_reserve_44 rfl 2 rfl ?_
            obtain ⟨b7, eb7, hf⟩ := bd hf
            obtain ⟨r8, er8, hf⟩ := bd hf
            refine g_callV (M := mX8_reserve) (kc := 0) (ks := 0) (as := [vi a1, vi a2]) (rest := []) dX8_reserve_45 cbX8_belongs vwRX8_129 rfl eb7 rfl (Nat.le_of_ble_eq_true rfl) (Nat.le_of_ble_eq_true rfl) (c_X8_belongs G b7 a1 a2 h r8 er8) ?_
            refine g_istore (M := mX8_reserve) (L2 := [(5, vi r8), (0, vr (some a0)), (1, vi a1), (2, vi a2), (3, vi a3), (4, vi a4)]) dX8_reserve_48 (Nat.le_of_ble_eq_true rfl) rfl ?_
            refine g_iload (M := mX8_reserve) dX8_reserve_50 0 rfl ?_
            refine g_iconst (M := mX8_reserve) (v := -1) dX8_reserve_52 rfl ?_
            refine g_ic_ne (M := mX8_reserve) (tgt := 59) dX8_reserve_53 rfl (fun q53 => ?_) (fun q53 => ?_)
            · replace hf := iff_ hf q53
              refine g_aload_n (M := mX8_reserve) dX8_reserve_59 rfl 1 rfl ?_
              refine g_iconst (M := mX8_reserve) (v := 3) dX8_reserve_60 rfl ?_
              refine g_iload_n (M := mX8_reserve) dX8_reserve_61 rfl 2 rfl ?_
              refine g_iload_n (M := mX8_reserve) dX8_reserve_62 rfl 3 rfl ?_
              refine g_aload_n (M := mX8_reserve) dX8_reserve_63 rfl 1 rfl ?_
              obtain ⟨v9, ev9, hf⟩ := bd hf
              refine g_getR (M := mX8_reserve) dX8_reserve_64 flRX8_16 (fun _ => rfl) ev9 ?_
              refine g_iload_n (M := mX8_reserve) dX8_reserve_67 rfl 3 rfl ?_
              obtain ⟨v10, ev10, hf⟩ := bd hf
              refine g_iald (M := mX8_reserve) dX8_reserve_68 ev10 ?_
              refine g_iconst (M := mX8_reserve) (v := -1) dX8_reserve_69 rfl ?_
              refine g_iload (M := mX8_reserve) dX8_reserve_70 0 rfl ?_
              obtain ⟨b11, eb11, hf⟩ := bd hf
              obtain ⟨r12, er12, hf⟩ := bd hf
              refine g_callV (M := mX8_reserve) (kc := 0) (ks := 0) (as := [vi (3 : Int32), vi a1, vi a2, vi v10, vi (-1 : Int32), vi r8]) (rest := []) dX8_reserve_72 cbX8_lodge vwRX8_125 rfl eb11 rfl (Nat.le_of_ble_eq_true rfl) (Nat.le_of_ble_eq_true rfl) (c_X8_lodge G b11 (3 : Int32) a1 a2 v10 (-1 : Int32) r8 h r12 er12) ?_
              refine g_istore (M := mX8_reserve) (L2 := [(6, vi r12.1), (5, vi r8), (0, vr (some a0)), (1, vi a1), (2, vi a2), (3, vi a3), (4, vi a4)]) dX8_reserve_75 (Nat.le_of_ble_eq_true rfl) rfl ?_
              refine g_aload_n (M := mX8_reserve) dX8_reserve_77 rfl 2 rfl ?_
              obtain ⟨v13, ev13, hf⟩ := bd hf
              refine g_getR (M := mX8_reserve) dX8_reserve_78 flRX8_46 (fun _ => rfl) ev13 ?_
              refine g_iload (M := mX8_reserve) dX8_reserve_81 0 rfl ?_
              refine g_iload_n (M := mX8_reserve) dX8_reserve_83 rfl 5 rfl ?_
              obtain ⟨h14, eh14, hf⟩ := bd hf
              refine g_iast (M := mX8_reserve) dX8_reserve_84 eh14 ?_
              refine g_aload_n (M := mX8_reserve) dX8_reserve_85 rfl 2 rfl ?_
              obtain ⟨v15, ev15, hf⟩ := bd hf
              refine g_getR (M := mX8_reserve) dX8_reserve_86 flRX8_49 (fun _ => rfl) ev15 ?_
              refine g_iload (M := mX8_reserve) dX8_reserve_89 0 rfl ?_
              refine g_iload (M := mX8_reserve) dX8_reserve_91 6 rfl ?_
              obtain ⟨h16, eh16, hf⟩ := bd hf
              refine g_iast (M := mX8_reserve) dX8_reserve_93 eh16 ?_
              refine g_iload (M := mX8_reserve) dX8_reserve_94 0 rfl ?_
              cases hf
              exact g_ret (M := mX8_reserve) dX8_reserve_96 rfl
            · replace hf := ift hf q53
              refine g_bipush (M := mX8_reserve) (v := -6) dX8_reserve_56 rfl ?_
              cases hf
              exact g_ret (M := mX8_reserve) dX8_reserve_58 rfl
          · replace hf := iff_ hf q36
            refine g_bipush (M := mX8_reserve) (v := -8) dX8_reserve_39 rfl ?_
            cases hf
            exact g_ret (M := mX8_reserve) dX8_reserve_41 rfl
        · replace hf := iff_ hf q26
          refine g_bipush (M := mX8_reserve) (v := -2) dX8_reserve_29 rfl ?_
          cases hf
          exact g_ret (M := mX8_reserve) dX8_reserve_31 rfl
theorem c_X8_reserve (G : Gm) (a0 : Nat) (a1 : Int32) (a2 : Int32) (a3 : Int32) (a4 : Int32) (h : AH) (o : (Int32 × AH)) (hf : f_X8_reserve a0 a1 a2 a3 a4 h = some o) : CT G yX8_reserve mX8_reserve (some .int) 0 0 [vr (some a0), vi a1, vi a2, vi a3, vi a4] h (some (vi o.1)) o.2 :=
  CT.int (by decide +kernel) rfl rfl rfl (Nat.le_of_ble_eq_true rfl) (x_X8_reserve G a0 a1 a2 a3 a4 h o hf)
theorem cbX8_reserve : CB yX8_reserve mX8_reserve (some .int) 4 := ⟨cd_yX8_reserve, itRX8, ⟨by decide, by decide⟩, by decide +kernel, by decide⟩
abbrev mX8_isWithdrawn : MI := (RX8, "isWithdrawn", cX8_isWithdrawn, 3, .ireturn, 0)
def f_X8_isWithdrawn_2 : Nat → Nat → Int32 → Int32 → AH → Option Bool
  | 0, _, _, _, _ => none
  | n + 1, a0, a1, a2, h =>
    (gI 8 8 h (some a0)).bind fun v1 =>
    if v1 ≤ a2 then (
      some false
    ) else (
      (gR 8 9 h (some a0)).bind fun v2 =>
      (lI 10 h v2 a2).bind fun v3 =>
      if v3 = (5 : Int32) then (
        (gR 8 14 h (some a0)).bind fun v4 =>
        (lI 10 h v4 a2).bind fun v5 =>
        if v5 = a1 then (
          some true
        ) else (
          f_X8_isWithdrawn_2 n a0 a1 (a2 + (1)) h
        )
      ) else (
        f_X8_isWithdrawn_2 n a0 a1 (a2 + (1)) h
      )
    )
theorem x_X8_isWithdrawn_2 (G : Gm) : ∀ (n : Nat) (a0 : Nat) (a1 : Int32) (a2 : Int32) (h : AH) (o : Bool), f_X8_isWithdrawn_2 n a0 a1 a2 h = some o → GO G mX8_isWithdrawn 0 0 2 [(0, vr (some a0)), (1, vi a1), (2, vi a2)] [] h (some (vi (b2i o))) h := by
  intro n
  induction n with
  | zero => intro a0 a1 a2 h o hf; cases hf
  | succ n ih =>
    intro a0 a1 a2 h o hf
    rw [f_X8_isWithdrawn_2] at hf
    refine g_iload_n (M := mX8_isWithdrawn) dX8_isWithdrawn_2 rfl 2 rfl ?_
    refine g_aload_n (M := mX8_isWithdrawn) dX8_isWithdrawn_3 rfl 0 rfl ?_
    obtain ⟨v1, ev1, hf⟩ := bd hf
    refine g_getI (M := mX8_isWithdrawn) dX8_isWithdrawn_4 flRX8_89 (fun _ => rfl) ev1 ?_
    refine g_ic_ge (M := mX8_isWithdrawn) (tgt := 38) dX8_isWithdrawn_7 rfl (fun q7 => ?_) (fun q7 => ?_)
    · replace hf := ift hf q7
      refine g_iconst (M := mX8_isWithdrawn) (v := 0) dX8_isWithdrawn_38 rfl ?_
      cases hf
      exact g_ret (M := mX8_isWithdrawn) dX8_isWithdrawn_39 rfl
    · replace hf := iff_ hf q7
      refine g_aload_n (M := mX8_isWithdrawn) dX8_isWithdrawn_10 rfl 0 rfl ?_
      obtain ⟨v2, ev2, hf⟩ := bd hf
      refine g_getR (M := mX8_isWithdrawn) dX8_isWithdrawn_11 flRX8_25 (fun _ => rfl) ev2 ?_
      refine g_iload_n (M := mX8_isWithdrawn) dX8_isWithdrawn_14 rfl 2 rfl ?_
      obtain ⟨v3, ev3, hf⟩ := bd hf
      refine g_iald (M := mX8_isWithdrawn) dX8_isWithdrawn_15 ev3 ?_
      refine g_iconst (M := mX8_isWithdrawn) (v := 5) dX8_isWithdrawn_16 rfl ?_
      refine g_ic_ne (M := mX8_isWithdrawn) (tgt := 32) dX8_isWithdrawn_17 rfl (fun q17 => ?_) (fun q17 => ?_)
      · replace hf := iff_ hf q17
        refine g_iinc (M := mX8_isWithdrawn) (j := 2) (L2 := [(2, vi (a2 + (1))), (0, vr (some a0)), (1, vi a1)]) dX8_isWithdrawn_32 rfl rfl (Nat.le_of_ble_eq_true rfl) rfl ?_
        refine g_goto (M := mX8_isWithdrawn) (tgt := 2) dX8_isWithdrawn_35 rfl ?_
        exact g_sub (M := mX8_isWithdrawn) (L2 := [(0, vr (some a0)), (1, vi a1), (2, vi (a2 + (1)))]) [1, 2, 0] rfl <| ih a0 a1 (a2 + (1)) h _ hf
      · replace hf := ift hf q17
        refine g_aload_n (M := mX8_isWithdrawn) dX8_isWithdrawn_20 rfl 0 rfl ?_
        obtain ⟨v4, ev4, hf⟩ := bd hf
        refine g_getR (M := mX8_isWithdrawn) dX8_isWithdrawn_21 flRX8_40 (fun _ => rfl) ev4 ?_
        refine g_iload_n (M := mX8_isWithdrawn) dX8_isWithdrawn_24 rfl 2 rfl ?_
        obtain ⟨v5, ev5, hf⟩ := bd hf
        refine g_iald (M := mX8_isWithdrawn) dX8_isWithdrawn_25 ev5 ?_
        refine g_iload_n (M := mX8_isWithdrawn) dX8_isWithdrawn_26 rfl 1 rfl ?_
        refine g_ic_ne (M := mX8_isWithdrawn) (tgt := 32) dX8_isWithdrawn_27 rfl (fun q27 => ?_) (fun q27 => ?_)
        · replace hf := iff_ hf q27
          refine g_iinc (M := mX8_isWithdrawn) (j := 2) (L2 := [(2, vi (a2 + (1))), (0, vr (some a0)), (1, vi a1)]) dX8_isWithdrawn_32 rfl rfl (Nat.le_of_ble_eq_true rfl) rfl ?_
          refine g_goto (M := mX8_isWithdrawn) (tgt := 2) dX8_isWithdrawn_35 rfl ?_
          exact g_sub (M := mX8_isWithdrawn) (L2 := [(0, vr (some a0)), (1, vi a1), (2, vi (a2 + (1)))]) [1, 2, 0] rfl <| ih a0 a1 (a2 + (1)) h _ hf
        · replace hf := ift hf q27
          refine g_iconst (M := mX8_isWithdrawn) (v := 1) dX8_isWithdrawn_30 rfl ?_
          cases hf
          exact g_ret (M := mX8_isWithdrawn) dX8_isWithdrawn_31 rfl
def f_X8_isWithdrawn (a0 : Nat) (a1 : Int32) (h : AH) : Option Bool :=
  f_X8_isWithdrawn_2 FU a0 a1 (0 : Int32) h
theorem x_X8_isWithdrawn (G : Gm) (a0 : Nat) (a1 : Int32) (h : AH) (o : Bool) (hf : f_X8_isWithdrawn a0 a1 h = some o) : GO G mX8_isWithdrawn 0 0 0 [(0, vr (some a0)), (1, vi a1)] [] h (some (vi (b2i o))) h := by
  unfold f_X8_isWithdrawn at hf
  refine g_iconst (M := mX8_isWithdrawn) (v := 0) dX8_isWithdrawn_0 rfl ?_
  refine g_istore_n (M := mX8_isWithdrawn) (L2 := [(2, vi (0 : Int32)), (0, vr (some a0)), (1, vi a1)]) dX8_isWithdrawn_1 rfl (Nat.le_of_ble_eq_true rfl) rfl ?_
  exact g_sub (M := mX8_isWithdrawn) (L2 := [(0, vr (some a0)), (1, vi a1), (2, vi (0 : Int32))]) [1, 2, 0] rfl <| x_X8_isWithdrawn_2 G FU a0 a1 (0 : Int32) h _ hf
theorem c_X8_isWithdrawn (G : Gm) (a0 : Nat) (a1 : Int32) (h : AH) (o : Bool) (hf : f_X8_isWithdrawn a0 a1 h = some o) : CT G yX8_isWithdrawn mX8_isWithdrawn (some .boolean) 0 0 [vr (some a0), vi a1] h (some (vi (b2i o))) h :=
  CT.bool (by decide +kernel) rfl rfl rfl (Nat.le_of_ble_eq_true rfl) (b2i_01 _) (x_X8_isWithdrawn G a0 a1 h o hf)
theorem cbX8_isWithdrawn : CB yX8_isWithdrawn mX8_isWithdrawn (some .boolean) 1 := ⟨cd_yX8_isWithdrawn, itRX8, ⟨by decide, by decide⟩, by decide +kernel, by decide⟩
abbrev mX8_isSaid : MI := (RX8, "isSaid", cX8_isSaid, 6, .ireturn, 1)
def f_X8_isSaid_3 : Nat → Nat → Int32 → Int32 → Int32 → Int32 → Int32 → AH → Option Bool
  | 0, _, _, _, _, _, _, _ => none
  | n + 1, a0, a1, a2, a3, a4, a5, h =>
    (gI 8 8 h (some a0)).bind fun v1 =>
    if v1 ≤ a5 then (
      some false
    ) else (
      (gR 8 9 h (some a0)).bind fun v2 =>
      (lI 10 h v2 a5).bind fun v3 =>
      if v3 = a1 then (
        (gR 8 10 h (some a0)).bind fun v4 =>
        (lI 10 h v4 a5).bind fun v5 =>
        if v5 = a2 then (
          (gR 8 14 h (some a0)).bind fun v6 =>
          (lI 10 h v6 a5).bind fun v7 =>
          if v7 = a3 then (
            (gR 8 15 h (some a0)).bind fun v8 =>
            (lI 10 h v8 a5).bind fun v9 =>
            if v9 = a4 then (
              (ck 8 h (some a0)).bind fun b10 =>
              (f_X8_isWithdrawn b10 a5 h).bind fun r11 =>
              if (b2i r11) = 0 then (
                some true
              ) else (
                f_X8_isSaid_3 n a0 a1 a2 a3 a4 (a5 + (1)) h
              )
            ) else (
              f_X8_isSaid_3 n a0 a1 a2 a3 a4 (a5 + (1)) h
            )
          ) else (
            f_X8_isSaid_3 n a0 a1 a2 a3 a4 (a5 + (1)) h
          )
        ) else (
          f_X8_isSaid_3 n a0 a1 a2 a3 a4 (a5 + (1)) h
        )
      ) else (
        f_X8_isSaid_3 n a0 a1 a2 a3 a4 (a5 + (1)) h
      )
    )
theorem x_X8_isSaid_3 (G : Gm) : ∀ (n : Nat) (a0 : Nat) (a1 : Int32) (a2 : Int32) (a3 : Int32) (a4 : Int32) (a5 : Int32) (h : AH) (o : Bool), f_X8_isSaid_3 n a0 a1 a2 a3 a4 a5 h = some o → GO G mX8_isSaid 0 0 3 [(0, vr (some a0)), (1, vi a1), (2, vi a2), (3, vi a3), (4, vi a4), (5, vi a5)] [] h (some (vi (b2i o))) h := by
  intro n
  induction n with
  | zero => intro a0 a1 a2 a3 a4 a5 h o hf; cases hf
  | succ n ih =>
    intro a0 a1 a2 a3 a4 a5 h o hf
    rw [f_X8_isSaid_3] at hf
    refine g_iload (M := mX8_isSaid) dX8_isSaid_3 5 rfl ?_
    refine g_aload_n (M := mX8_isSaid) dX8_isSaid_5 rfl 0 rfl ?_
    obtain ⟨v1, ev1, hf⟩ := bd hf
    refine g_getI (M := mX8_isSaid) dX8_isSaid_6 flRX8_89 (fun _ => rfl) ev1 ?_
    refine g_ic_ge (M := mX8_isSaid) (tgt := 74) dX8_isSaid_9 rfl (fun q9 => ?_) (fun q9 => ?_)
    · replace hf := ift hf q9
      refine g_iconst (M := mX8_isSaid) (v := 0) dX8_isSaid_74 rfl ?_
      cases hf
      exact g_ret (M := mX8_isSaid) dX8_isSaid_75 rfl
    · replace hf := iff_ hf q9
      refine g_aload_n (M := mX8_isSaid) dX8_isSaid_12 rfl 0 rfl ?_
      obtain ⟨v2, ev2, hf⟩ := bd hf
      refine g_getR (M := mX8_isSaid) dX8_isSaid_13 flRX8_25 (fun _ => rfl) ev2 ?_
      refine g_iload (M := mX8_isSaid) dX8_isSaid_16 5 rfl ?_
      obtain ⟨v3, ev3, hf⟩ := bd hf
      refine g_iald (M := mX8_isSaid) dX8_isSaid_18 ev3 ?_
      refine g_iload_n (M := mX8_isSaid) dX8_isSaid_19 rfl 1 rfl ?_
      refine g_ic_ne (M := mX8_isSaid) (tgt := 68) dX8_isSaid_20 rfl (fun q20 => ?_) (fun q20 => ?_)
      · replace hf := iff_ hf q20
        refine g_iinc (M := mX8_isSaid) (j := 5) (L2 := [(5, vi (a5 + (1))), (0, vr (some a0)), (1, vi a1), (2, vi a2), (3, vi a3), (4, vi a4)]) dX8_isSaid_68 rfl rfl (Nat.le_of_ble_eq_true rfl) rfl ?_
        refine g_goto (M := mX8_isSaid) (tgt := 3) dX8_isSaid_71 rfl ?_
        exact g_sub (M := mX8_isSaid) (L2 := [(0, vr (some a0)), (1, vi a1), (2, vi a2), (3, vi a3), (4, vi a4), (5, vi (a5 + (1)))]) [1, 2, 3, 4, 5, 0] rfl <| ih a0 a1 a2 a3 a4 (a5 + (1)) h _ hf
      · replace hf := ift hf q20
        refine g_aload_n (M := mX8_isSaid) dX8_isSaid_23 rfl 0 rfl ?_
        obtain ⟨v4, ev4, hf⟩ := bd hf
        refine g_getR (M := mX8_isSaid) dX8_isSaid_24 flRX8_28 (fun _ => rfl) ev4 ?_
        refine g_iload (M := mX8_isSaid) dX8_isSaid_27 5 rfl ?_
        obtain ⟨v5, ev5, hf⟩ := bd hf
        refine g_iald (M := mX8_isSaid) dX8_isSaid_29 ev5 ?_
        refine g_iload_n (M := mX8_isSaid) dX8_isSaid_30 rfl 2 rfl ?_
        refine g_ic_ne (M := mX8_isSaid) (tgt := 68) dX8_isSaid_31 rfl (fun q31 => ?_) (fun q31 => ?_)
        · replace hf := iff_ hf q31
          refine g_iinc (M := mX8_isSaid) (j := 5) (L2 := [(5, vi (a5 + (1))), (0, vr (some a0)), (1, vi a1), (2, vi a2), (3, vi a3), (4, vi a4)]) dX8_isSaid_68 rfl rfl (Nat.le_of_ble_eq_true rfl) rfl ?_
          refine g_goto (M := mX8_isSaid) (tgt := 3) dX8_isSaid_71 rfl ?_
          exact g_sub (M := mX8_isSaid) (L2 := [(0, vr (some a0)), (1, vi a1), (2, vi a2), (3, vi a3), (4, vi a4), (5, vi (a5 + (1)))]) [1, 2, 3, 4, 5, 0] rfl <| ih a0 a1 a2 a3 a4 (a5 + (1)) h _ hf
        · replace hf := ift hf q31
          refine g_aload_n (M := mX8_isSaid) dX8_isSaid_34 rfl 0 rfl ?_
          obtain ⟨v6, ev6, hf⟩ := bd hf
          refine g_getR (M := mX8_isSaid) dX8_isSaid_35 flRX8_40 (fun _ => rfl) ev6 ?_
          refine g_iload (M := mX8_isSaid) dX8_isSaid_38 5 rfl ?_
          obtain ⟨v7, ev7, hf⟩ := bd hf
          refine g_iald (M := mX8_isSaid) dX8_isSaid_40 ev7 ?_
          refine g_iload_n (M := mX8_isSaid) dX8_isSaid_41 rfl 3 rfl ?_
          refine g_ic_ne (M := mX8_isSaid) (tgt := 68) dX8_isSaid_42 rfl (fun q42 => ?_) (fun q42 => ?_)
          · replace hf := iff_ hf q42
            refine g_iinc (M := mX8_isSaid) (j := 5) (L2 := [(5, vi (a5 + (1))), (0, vr (some a0)), (1, vi a1), (2, vi a2), (3, vi a3), (4, vi a4)]) dX8_isSaid_68 rfl rfl (Nat.le_of_ble_eq_true rfl) rfl ?_
            refine g_goto (M := mX8_isSaid) (tgt := 3) dX8_isSaid_71 rfl ?_
            exact g_sub (M := mX8_isSaid) (L2 := [(0, vr (some a0)), (1, vi a1), (2, vi a2), (3, vi a3), (4, vi a4), (5, vi (a5 + (1)))]) [1, 2, 3, 4, 5, 0] rfl <| ih a0 a1 a2 a3 a4 (a5 + (1)) h _ hf
          · replace hf := ift hf q42
            refine g_aload_n (M := mX8_isSaid) dX8_isSaid_45 rfl 0 rfl ?_
            obtain ⟨v8, ev8, hf⟩ := bd hf
            refine g_getR (M := mX8_isSaid) dX8_isSaid_46 flRX8_43 (fun _ => rfl) ev8 ?_
            refine g_iload (M := mX8_isSaid) dX8_isSaid_49 5 rfl ?_
            obtain ⟨v9, ev9, hf⟩ := bd hf
            refine g_iald (M := mX8_isSaid) dX8_isSaid_51 ev9 ?_
            refine g_iload (M := mX8_isSaid) dX8_isSaid_52 4 rfl ?_
            refine g_ic_ne (M := mX8_isSaid) (tgt := 68) dX8_isSaid_54 rfl (fun q54 => ?_) (fun q54 => ?_)
            · replace hf := iff_ hf q54
              refine g_iinc (M := mX8_isSaid) (j := 5) (L2 := [(5, vi (a5 + (1))), (0, vr (some a0)), (1, vi a1), (2, vi a2), (3, vi a3), (4, vi a4)]) dX8_isSaid_68 rfl rfl (Nat.le_of_ble_eq_true rfl) rfl ?_
              refine g_goto (M := mX8_isSaid) (tgt := 3) dX8_isSaid_71 rfl ?_
              exact g_sub (M := mX8_isSaid) (L2 := [(0, vr (some a0)), (1, vi a1), (2, vi a2), (3, vi a3), (4, vi a4), (5, vi (a5 + (1)))]) [1, 2, 3, 4, 5, 0] rfl <| ih a0 a1 a2 a3 a4 (a5 + (1)) h _ hf
            · replace hf := ift hf q54
              refine g_aload_n (M := mX8_isSaid) dX8_isSaid_57 rfl 0 rfl ?_
              refine g_iload (M := mX8_isSaid) dX8_isSaid_58 5 rfl ?_
              obtain ⟨b10, eb10, hf⟩ := bd hf
              obtain ⟨r11, er11, hf⟩ := bd hf
              refine g_callV (M := mX8_isSaid) (kc := 0) (ks := 0) (as := [vi a5]) (rest := []) dX8_isSaid_60 cbX8_isWithdrawn vwRX8_133 rfl eb10 rfl (Nat.le_of_ble_eq_true rfl) (Nat.le_of_ble_eq_true rfl) (c_X8_isWithdrawn G b10 a5 h r11 er11) ?_
              refine g_if_ne (M := mX8_isSaid) (tgt := 68) dX8_isSaid_63 rfl (fun q63 => ?_) (fun q63 => ?_)
              · replace hf := iff_ hf q63
                refine g_iinc (M := mX8_isSaid) (j := 5) (L2 := [(5, vi (a5 + (1))), (0, vr (some a0)), (1, vi a1), (2, vi a2), (3, vi a3), (4, vi a4)]) dX8_isSaid_68 rfl rfl (Nat.le_of_ble_eq_true rfl) rfl ?_
                refine g_goto (M := mX8_isSaid) (tgt := 3) dX8_isSaid_71 rfl ?_
                exact g_sub (M := mX8_isSaid) (L2 := [(0, vr (some a0)), (1, vi a1), (2, vi a2), (3, vi a3), (4, vi a4), (5, vi (a5 + (1)))]) [1, 2, 3, 4, 5, 0] rfl <| ih a0 a1 a2 a3 a4 (a5 + (1)) h _ hf
              · replace hf := ift hf q63
                refine g_iconst (M := mX8_isSaid) (v := 1) dX8_isSaid_66 rfl ?_
                cases hf
                exact g_ret (M := mX8_isSaid) dX8_isSaid_67 rfl
def f_X8_isSaid (a0 : Nat) (a1 : Int32) (a2 : Int32) (a3 : Int32) (a4 : Int32) (h : AH) : Option Bool :=
  f_X8_isSaid_3 FU a0 a1 a2 a3 a4 (0 : Int32) h
theorem x_X8_isSaid (G : Gm) (a0 : Nat) (a1 : Int32) (a2 : Int32) (a3 : Int32) (a4 : Int32) (h : AH) (o : Bool) (hf : f_X8_isSaid a0 a1 a2 a3 a4 h = some o) : GO G mX8_isSaid 0 0 0 [(0, vr (some a0)), (1, vi a1), (2, vi a2), (3, vi a3), (4, vi a4)] [] h (some (vi (b2i o))) h := by
  unfold f_X8_isSaid at hf
  refine g_iconst (M := mX8_isSaid) (v := 0) dX8_isSaid_0 rfl ?_
  refine g_istore (M := mX8_isSaid) (L2 := [(5, vi (0 : Int32)), (0, vr (some a0)), (1, vi a1), (2, vi a2), (3, vi a3), (4, vi a4)]) dX8_isSaid_1 (Nat.le_of_ble_eq_true rfl) rfl ?_
  exact g_sub (M := mX8_isSaid) (L2 := [(0, vr (some a0)), (1, vi a1), (2, vi a2), (3, vi a3), (4, vi a4), (5, vi (0 : Int32))]) [1, 2, 3, 4, 5, 0] rfl <| x_X8_isSaid_3 G FU a0 a1 a2 a3 a4 (0 : Int32) h _ hf
theorem c_X8_isSaid (G : Gm) (a0 : Nat) (a1 : Int32) (a2 : Int32) (a3 : Int32) (a4 : Int32) (h : AH) (o : Bool) (hf : f_X8_isSaid a0 a1 a2 a3 a4 h = some o) : CT G yX8_isSaid mX8_isSaid (some .boolean) 0 0 [vr (some a0), vi a1, vi a2, vi a3, vi a4] h (some (vi (b2i o))) h :=
  CT.bool (by decide +kernel) rfl rfl rfl (Nat.le_of_ble_eq_true rfl) (b2i_01 _) (x_X8_isSaid G a0 a1 a2 a3 a4 h o hf)
theorem cbX8_isSaid : CB yX8_isSaid mX8_isSaid (some .boolean) 4 := ⟨cd_yX8_isSaid, itRX8, ⟨by decide, by decide⟩, by decide +kernel, by decide⟩
abbrev mX8_object : MI := (RX8, "object", cX8_object, 7, .ireturn, 2)
def f_X8_object_150 (a6 : Int32) (s0 : Option Nat) (s1 : Int32) (s2 : Int32) (h : AH) : Option (Int32 × AH) :=
  (stI 10 h s0 s1 s2).bind fun h1 =>
  some (a6, h1)
theorem x_X8_object_150 (G : Gm) (a6 : Int32) (s0 : Option Nat) (s1 : Int32) (s2 : Int32) (h : AH) (o : (Int32 × AH)) (hf : f_X8_object_150 a6 s0 s1 s2 h = some o) : GO G mX8_object 0 0 150 [(6, vi a6)] [vi s2, vi s1, vr s0] h (some (vi o.1)) o.2 := by
  unfold f_X8_object_150 at hf
  obtain ⟨h1, eh1, hf⟩ := bd hf
  refine g_iast (M := mX8_object) dX8_object_150 eh1 ?_
  refine g_iload (M := mX8_object) dX8_object_151 0 rfl ?_
  cases hf
  exact g_ret (M := mX8_object) dX8_object_153 rfl
def f_X8_object (a0 : Nat) (a1 : Int32) (a2 : Int32) (a3 : Int32) (h : AH) : Option (Int32 × AH) :=
  (ck 8 h (some a0)).bind fun b2 =>
  (f_X8_isParty b2 a1 h).bind fun r3 =>
  if (b2i r3) = 0 then (
    some ((-2 : Int32), h)
  ) else (
    (ck 8 h (some a0)).bind fun b4 =>
    (f_X8_isPaper b4 a2 h).bind fun r5 =>
    if (b2i r5) = 0 then (
      some ((-2 : Int32), h)
    ) else (
      (gR 8 9 h (some a0)).bind fun v6 =>
      (lI 10 h v6 a2).bind fun v7 =>
      if v7 = (3 : Int32) then (
        (ck 8 h (some a0)).bind fun b8 =>
        (f_X8_isFull b8 h).bind fun r9 =>
        if (b2i r9) = 0 then (
          (gR 8 11 h (some a0)).bind fun v10 =>
          (lI 10 h v10 a2).bind fun v11 =>
          (ck 8 h (some a0)).bind fun b12 =>
          (f_X8_belongs b12 a1 v11 h).bind fun r13 =>
          if r13 = (-1 : Int32) then (
            some ((-6 : Int32), h)
          ) else (
            (gI 8 0 h (some a0)).bind fun v14 =>
            (ck 8 h (some a0)).bind fun b15 =>
            (f_X8_isHeld b15 a2 r13 v14 h).bind fun r16 =>
            if (b2i r16) = 0 then (
              (gI 8 0 h (some a0)).bind fun v17 =>
              (gR 8 12 h (some a0)).bind fun v18 =>
              (lI 10 h v18 a2).bind fun v19 =>
              (gR 8 6 h (some a0)).bind fun v20 =>
              (lI 10 h v20 v11).bind fun v21 =>
              if v17 ≤ (v19 + v21) then (
                (ck 8 h (some a0)).bind fun b22 =>
                (f_X8_isSaid b22 (4 : Int32) a1 a2 r13 h).bind fun r23 =>
                if (b2i r23) = 0 then (
                  (ck 8 h (some a0)).bind fun b24 =>
                  (f_X8_lodge b24 (4 : Int32) a1 v11 (0 : Int32) a2 r13 h).bind fun r25 =>
                  (gR 8 18 r25.2 (some a0)).bind fun v26 =>
                  if a3 = 0 then (
                    f_X8_object_150 r25.1 v26 r25.1 (0 : Int32) r25.2
                  ) else (
                    f_X8_object_150 r25.1 v26 r25.1 (1 : Int32) r25.2
                  )
                ) else (
                  some ((-4 : Int32), h)
                )
              ) else (
                some ((-3 : Int32), h)
              )
            ) else (
              some ((-7 : Int32), h)
            )
          )
        ) else (
          some ((-8 : Int32), h)
        )
      ) else (
        some ((-2 : Int32), h)
      )
    )
  )
theorem x_X8_object (G : Gm) (a0 : Nat) (a1 : Int32) (a2 : Int32) (a3 : Int32) (h : AH) (o : (Int32 × AH)) (hf : f_X8_object a0 a1 a2 a3 h = some o) : GO G mX8_object 0 0 0 [(0, vr (some a0)), (1, vi a1), (2, vi a2), (3, vi a3)] [] h (some (vi o.1)) o.2 := by
  unfold f_X8_object at hf
  refine g_aload_n (M := mX8_object) dX8_object_0 rfl 0 rfl ?_
  refine g_iload_n (M := mX8_object) dX8_object_1 rfl 1 rfl ?_
  obtain ⟨b2, eb2, hf⟩ := bd hf
  obtain ⟨r3, er3, hf⟩ := bd hf
  refine g_callV (M := mX8_object) (kc := 0) (ks := 0) (as := [vi a1]) (rest := []) dX8_object_2 cbX8_isParty vwRX8_115 rfl eb2 rfl (Nat.le_of_ble_eq_true rfl) (Nat.le_of_ble_eq_true rfl) (c_X8_isParty G b2 a1 h r3 er3) ?_
  refine g_if_eq (M := mX8_object) (tgt := 26) dX8_object_5 rfl (fun q5 => ?_) (fun q5 => ?_)
  · replace hf := ift hf q5
    refine g_bipush (M := mX8_object) (v := -2) dX8_object_26 rfl ?_
    cases hf
    exact g_ret (M := mX8_object) dX8_object_28 rfl
  · replace hf := iff_ hf q5
    refine g_aload_n (M := mX8_object) dX8_object_8 rfl 0 rfl ?_
    refine g_iload_n (M := mX8_object) dX8_object_9 rfl 2 rfl ?_
    obtain ⟨b4, eb4, hf⟩ := bd hf
    obtain ⟨r5, er5, hf⟩ := bd hf
    refine g_callV (M := mX8_object) (kc := 0) (ks := 0) (as := [vi a2]) (rest := []) dX8_object_10 cbX8_isPaper vwRX8_136 rfl eb4 rfl (Nat.le_of_ble_eq_true rfl) (Nat.le_of_ble_eq_true rfl) (c_X8_isPaper G b4 a2 h r5 er5) ?_
    refine g_if_eq (M := mX8_object) (tgt := 26) dX8_object_13 rfl (fun q13 => ?_) (fun q13 => ?_)
    · replace hf := ift hf q13
      refine g_bipush (M := mX8_object) (v := -2) dX8_object_26 rfl ?_
      cases hf
      exact g_ret (M := mX8_object) dX8_object_28 rfl
    · replace hf := iff_ hf q13
      refine g_aload_n (M := mX8_object) dX8_object_16 rfl 0 rfl ?_
      obtain ⟨v6, ev6, hf⟩ := bd hf
      refine g_getR (M := mX8_object) dX8_object_17 flRX8_25 (fun _ => rfl) ev6 ?_
      refine g_iload_n (M := mX8_object) dX8_object_20 rfl 2 rfl ?_
      obtain ⟨v7, ev7, hf⟩ := bd hf
      refine g_iald (M := mX8_object) dX8_object_21 ev7 ?_
      refine g_iconst (M := mX8_object) (v := 3) dX8_object_22 rfl ?_
      refine g_ic_eq (M := mX8_object) (tgt := 29) dX8_object_23 rfl (fun q23 => ?_) (fun q23 => ?_)
      · replace hf := ift hf q23
        refine g_aload_n (M := mX8_object) dX8_object_29 rfl 0 rfl ?_
        obtain ⟨b8, eb8, hf⟩ := bd hf
        obtain ⟨r9, er9, hf⟩ := bd hf
        refine g_callV (M := mX8_object) (kc := 0) (ks := 0) (as := []) (rest := []) dX8_object_30 cbX8_isFull vwRX8_118 rfl eb8 rfl (Nat.le_of_ble_eq_true rfl) (Nat.le_of_ble_eq_true rfl) (c_X8_isFull G b8 h r9 er9) ?_
        refine g_if_eq (M := mX8_object) (tgt := 39) dX8_object_33 rfl (fun q33 => ?_) (fun q33 => ?_)
        · replace hf := ift hf q33
          refine g_aload_n (M := mX8_object) dX8_object_39 rfl 0 rfl ?_
          obtain ⟨v10, ev10, hf⟩ := bd hf
          refine g_getR (M := mX8_object) dX8_object_40 flRX8_31 (fun _ => rfl) ev10 ?_
          refine g_iload_n (M := mX8_object) dX8_object_43 rfl 2 rfl ?_
          obtain ⟨v11, ev11, hf⟩ := bd hf
          refine g_iald (M := mX8_object) dX8_object_44 ev11 ?_
          refine g_istore (M := mX8_object) (L2 := [(4, vi v11), (0, vr (some a0)), (1, vi a1), (2, vi a2), (3, vi a3)]) dX8_object_45 (Nat.le_of_ble_eq_true rfl) rfl ?_
          refine g_aload_n (M := mX8_object) dX8_object_47 rfl 1 rfl ?_
          refine g_iload_n (M := mX8_object) dX8_object_48 rfl 2 rfl ?_
          refine g_iload (M := mX8_object) dX8_object_49 0 rfl ?_
          obtain ⟨b12, eb12, hf⟩ := bd hf
          obtain ⟨r13, er13, hf⟩ := bd hf
          refine g_callV (M := mX8_object) (kc := 0) (ks := 0) (as := [vi a1, vi v11]) (rest := []) dX8_object_51 cbX8_belongs vwRX8_129 rfl eb12 rfl (Nat.le_of_ble_eq_true rfl) (Nat.le_of_ble_eq_true rfl) (c_X8_belongs G b12 a1 v11 h r13 er13) ?_
          refine g_istore (M := mX8_object) (L2 := [(5, vi r13), (4, vi v11), (0, vr (some a0)), (1, vi a1), (2, vi a2), (3, vi a3)]) dX8_object_54 (Nat.le_of_ble_eq_true rfl) rfl ?_
          refine g_iload (M := mX8_object) dX8_object_56 0 rfl ?_
          refine g_iconst (M := mX8_object) (v := -1) dX8_object_58 rfl ?_
          refine g_ic_ne (M := mX8_object) (tgt := 65) dX8_object_59 rfl (fun q59 => ?_) (fun q59 => ?_)
          · replace hf := iff_ hf q59
            refine g_aload_n (M := mX8_object) dX8_object_65 rfl 2 rfl ?_
            refine g_iload_n (M := mX8_object) dX8_object_66 rfl 4 rfl ?_
            refine g_iload (M := mX8_object) dX8_object_67 0 rfl ?_
            refine g_aload_n (M := mX8_object) dX8_object_69 rfl 2 rfl ?_
            obtain ⟨v14, ev14, hf⟩ := bd hf
            refine g_getI (M := mX8_object) dX8_object_70 flRX8_98 (fun _ => rfl) ev14 ?_
            obtain ⟨b15, eb15, hf⟩ := bd hf
            obtain ⟨r16, er16, hf⟩ := bd hf
            refine g_callV (M := mX8_object) (kc := 0) (ks := 0) (as := [vi a2, vi r13, vi v14]) (rest := []) dX8_object_73 cbX8_isHeld vwRX8_112 rfl eb15 rfl (Nat.le_of_ble_eq_true rfl) (Nat.le_of_ble_eq_true rfl) (c_X8_isHeld G b15 a2 r13 v14 h r16 er16) ?_
            refine g_if_eq (M := mX8_object) (tgt := 82) dX8_object_76 rfl (fun q76 => ?_) (fun q76 => ?_)
            · replace hf := ift hf q76
              refine g_aload_n (M := mX8_object) dX8_object_82 rfl 2 rfl ?_
              obtain ⟨v17, ev17, hf⟩ := bd hf
              refine g_getI (M := mX8_object) dX8_object_83 flRX8_98 (fun _ => rfl) ev17 ?_
              refine g_aload_n (M := mX8_object) dX8_object_86 rfl 2 rfl ?_
              obtain ⟨v18, ev18, hf⟩ := bd hf
              refine g_getR (M := mX8_object) dX8_object_87 flRX8_34 (fun _ => rfl) ev18 ?_
              refine g_iload_n (M := mX8_object) dX8_object_90 rfl 4 rfl ?_
              obtain ⟨v19, ev19, hf⟩ := bd hf
              refine g_iald (M := mX8_object) dX8_object_91 ev19 ?_
              refine g_aload_n (M := mX8_object) dX8_object_92 rfl 2 rfl ?_
              obtain ⟨v20, ev20, hf⟩ := bd hf
              refine g_getR (M := mX8_object) dX8_object_93 flRX8_19 (fun _ => rfl) ev20 ?_
              refine g_iload (M := mX8_object) dX8_object_96 1 rfl ?_
              obtain ⟨v21, ev21, hf⟩ := bd hf
              refine g_iald (M := mX8_object) dX8_object_98 ev21 ?_
              refine g_iadd (M := mX8_object) dX8_object_99 ?_
              refine g_ic_le (M := mX8_object) (tgt := 106) dX8_object_100 rfl (fun q100 => ?_) (fun q100 => ?_)
              · replace hf := ift hf q100
                refine g_aload_n (M := mX8_object) dX8_object_106 rfl 2 rfl ?_
                refine g_iconst (M := mX8_object) (v := 4) dX8_object_107 rfl ?_
                refine g_iload_n (M := mX8_object) dX8_object_108 rfl 3 rfl ?_
                refine g_iload_n (M := mX8_object) dX8_object_109 rfl 4 rfl ?_
                refine g_iload (M := mX8_object) dX8_object_110 0 rfl ?_
                obtain ⟨b22, eb22, hf⟩ := bd hf
                obtain ⟨r23, er23, hf⟩ := bd hf
                refine g_callV (M := mX8_object) (kc := 0) (ks := 0) (as := [vi (4 : Int32), vi a1, vi a2, vi r13]) (rest := []) dX8_object_112 cbX8_isSaid vwRX8_139 rfl eb22 rfl (Nat.le_of_ble_eq_true rfl) (Nat.le_of_ble_eq_true rfl) (c_X8_isSaid G b22 (4 : Int32) a1 a2 r13 h r23 er23) ?_
                refine g_if_eq (M := mX8_object) (tgt := 121) dX8_object_115 rfl (fun q115 => ?_) (fun q115 => ?_)
                · replace hf := ift hf q115
                  refine g_aload_n (M := mX8_object) dX8_object_121 rfl 2 rfl ?_
                  refine g_iconst (M := mX8_object) (v := 4) dX8_object_122 rfl ?_
                  refine g_iload_n (M := mX8_object) dX8_object_123 rfl 3 rfl ?_
                  refine g_iload (M := mX8_object) dX8_object_124 1 rfl ?_
                  refine g_iconst (M := mX8_object) (v := 0) dX8_object_126 rfl ?_
                  refine g_iload_n (M := mX8_object) dX8_object_127 rfl 4 rfl ?_
                  refine g_iload (M := mX8_object) dX8_object_128 0 rfl ?_
                  obtain ⟨b24, eb24, hf⟩ := bd hf
                  obtain ⟨r25, er25, hf⟩ := bd hf
                  refine g_callV (M := mX8_object) (kc := 0) (ks := 0) (as := [vi (4 : Int32), vi a1, vi v11, vi (0 : Int32), vi a2, vi r13]) (rest := []) dX8_object_130 cbX8_lodge vwRX8_125 rfl eb24 rfl (Nat.le_of_ble_eq_true rfl) (Nat.le_of_ble_eq_true rfl) (c_X8_lodge G b24 (4 : Int32) a1 v11 (0 : Int32) a2 r13 h r25 er25) ?_
                  refine g_istore (M := mX8_object) (L2 := [(6, vi r25.1), (5, vi r13), (4, vi v11), (0, vr (some a0)), (1, vi a1), (2, vi a2), (3, vi a3)]) dX8_object_133 (Nat.le_of_ble_eq_true rfl) rfl ?_
                  refine g_aload_n (M := mX8_object) dX8_object_135 rfl 3 rfl ?_
                  obtain ⟨v26, ev26, hf⟩ := bd hf
                  refine g_getR (M := mX8_object) dX8_object_136 flRX8_52 (fun _ => rfl) ev26 ?_
                  refine g_iload (M := mX8_object) dX8_object_139 0 rfl ?_
                  refine g_iload_n (M := mX8_object) dX8_object_141 rfl 6 rfl ?_
                  refine g_if_eq (M := mX8_object) (tgt := 149) dX8_object_142 rfl (fun q142 => ?_) (fun q142 => ?_)
                  · replace hf := ift hf q142
                    refine g_iconst (M := mX8_object) (v := 0) dX8_object_149 rfl ?_
                    exact g_sub (M := mX8_object) (L2 := [(6, vi r25.1)]) [0] rfl <| x_X8_object_150 G r25.1 v26 r25.1 (0 : Int32) r25.2 _ hf
                  · replace hf := iff_ hf q142
                    refine g_iconst (M := mX8_object) (v := 1) dX8_object_145 rfl ?_
                    refine g_goto (M := mX8_object) (tgt := 150) dX8_object_146 rfl ?_
                    exact g_sub (M := mX8_object) (L2 := [(6, vi r25.1)]) [0] rfl <| x_X8_object_150 G r25.1 v26 r25.1 (1 : Int32) r25.2 _ hf
                · replace hf := iff_ hf q115
                  refine g_bipush (M := mX8_object) (v := -4) dX8_object_118 rfl ?_
                  cases hf
                  exact g_ret (M := mX8_object) dX8_object_120 rfl
              · replace hf := iff_ hf q100
                refine g_bipush (M := mX8_object) (v := -3) dX8_object_103 rfl ?_
                cases hf
                exact g_ret (M := mX8_object) dX8_object_105 rfl
            · replace hf := iff_ hf q76
              refine g_bipush (M := mX8_object) (v := -7) dX8_object_79 rfl ?_
              cases hf
              exact g_ret (M := mX8_object) dX8_object_81 rfl
          · replace hf := ift hf q59
            refine g_bipush (M := mX8_object) (v := -6) dX8_object_62 rfl ?_
            cases hf
            exact g_ret (M := mX8_object) dX8_object_64 rfl
        · replace hf := iff_ hf q33
          refine g_bipush (M := mX8_object) (v := -8) dX8_object_36 rfl ?_
          cases hf
          exact g_ret (M := mX8_object) dX8_object_38 rfl
      · replace hf := iff_ hf q23
        refine g_bipush (M := mX8_object) (v := -2) dX8_object_26 rfl ?_
        cases hf
        exact g_ret (M := mX8_object) dX8_object_28 rfl
theorem c_X8_object (G : Gm) (a0 : Nat) (a1 : Int32) (a2 : Int32) (a3 : Int32) (h : AH) (o : (Int32 × AH)) (hf : f_X8_object a0 a1 a2 a3 h = some o) : CT G yX8_object mX8_object (some .int) 0 0 [vr (some a0), vi a1, vi a2, vi a3] h (some (vi o.1)) o.2 :=
  CT.int (by decide +kernel) rfl rfl rfl (Nat.le_of_ble_eq_true rfl) (x_X8_object G a0 a1 a2 a3 h o hf)
theorem cbX8_object : CB yX8_object mX8_object (some .int) 3 := ⟨cd_yX8_object, itRX8, ⟨by decide, by decide⟩, by decide +kernel, by decide⟩
abbrev mX8_withdraw : MI := (RX8, "withdraw", cX8_withdraw, 5, .ireturn, 2)
def f_X8_withdraw_133 (a0 : Nat) (a1 : Int32) (a2 : Int32) (h : AH) : Option (Int32 × AH) :=
  (ck 8 h (some a0)).bind fun b1 =>
  (f_X8_isWithdrawn b1 a2 h).bind fun r2 =>
  if (b2i r2) = 0 then (
    (gR 8 11 h (some a0)).bind fun v3 =>
    (lI 10 h v3 a2).bind fun v4 =>
    (gR 8 5 h (some a0)).bind fun v5 =>
    (gR 8 11 h (some a0)).bind fun v6 =>
    (lI 10 h v6 a2).bind fun v7 =>
    (lI 10 h v5 v7).bind fun v8 =>
    (ck 8 h (some a0)).bind fun b9 =>
    (f_X8_lodge b9 (5 : Int32) a1 v4 v8 a2 (-1 : Int32) h).bind fun r10 =>
    some (r10.1, r10.2)
  ) else (
    some ((-4 : Int32), h)
  )
theorem x_X8_withdraw_133 (G : Gm) (a0 : Nat) (a1 : Int32) (a2 : Int32) (h : AH) (o : (Int32 × AH)) (hf : f_X8_withdraw_133 a0 a1 a2 h = some o) : GO G mX8_withdraw 0 0 133 [(0, vr (some a0)), (1, vi a1), (2, vi a2)] [] h (some (vi o.1)) o.2 := by
  unfold f_X8_withdraw_133 at hf
  refine g_aload_n (M := mX8_withdraw) dX8_withdraw_133 rfl 0 rfl ?_
  refine g_iload_n (M := mX8_withdraw) dX8_withdraw_134 rfl 2 rfl ?_
  obtain ⟨b1, eb1, hf⟩ := bd hf
  obtain ⟨r2, er2, hf⟩ := bd hf
  refine g_callV (M := mX8_withdraw) (kc := 0) (ks := 0) (as := [vi a2]) (rest := []) dX8_withdraw_135 cbX8_isWithdrawn vwRX8_133 rfl eb1 rfl (Nat.le_of_ble_eq_true rfl) (Nat.le_of_ble_eq_true rfl) (c_X8_isWithdrawn G b1 a2 h r2 er2) ?_
  refine g_if_eq (M := mX8_withdraw) (tgt := 146) dX8_withdraw_138 rfl (fun q138 => ?_) (fun q138 => ?_)
  · replace hf := ift hf q138
    refine g_aload_n (M := mX8_withdraw) dX8_withdraw_146 rfl 0 rfl ?_
    refine g_iconst (M := mX8_withdraw) (v := 5) dX8_withdraw_147 rfl ?_
    refine g_iload_n (M := mX8_withdraw) dX8_withdraw_148 rfl 1 rfl ?_
    refine g_aload_n (M := mX8_withdraw) dX8_withdraw_149 rfl 0 rfl ?_
    obtain ⟨v3, ev3, hf⟩ := bd hf
    refine g_getR (M := mX8_withdraw) dX8_withdraw_150 flRX8_31 (fun _ => rfl) ev3 ?_
    refine g_iload_n (M := mX8_withdraw) dX8_withdraw_153 rfl 2 rfl ?_
    obtain ⟨v4, ev4, hf⟩ := bd hf
    refine g_iald (M := mX8_withdraw) dX8_withdraw_154 ev4 ?_
    refine g_aload_n (M := mX8_withdraw) dX8_withdraw_155 rfl 0 rfl ?_
    obtain ⟨v5, ev5, hf⟩ := bd hf
    refine g_getR (M := mX8_withdraw) dX8_withdraw_156 flRX8_16 (fun _ => rfl) ev5 ?_
    refine g_aload_n (M := mX8_withdraw) dX8_withdraw_159 rfl 0 rfl ?_
    obtain ⟨v6, ev6, hf⟩ := bd hf
    refine g_getR (M := mX8_withdraw) dX8_withdraw_160 flRX8_31 (fun _ => rfl) ev6 ?_
    refine g_iload_n (M := mX8_withdraw) dX8_withdraw_163 rfl 2 rfl ?_
    obtain ⟨v7, ev7, hf⟩ := bd hf
    refine g_iald (M := mX8_withdraw) dX8_withdraw_164 ev7 ?_
    obtain ⟨v8, ev8, hf⟩ := bd hf
    refine g_iald (M := mX8_withdraw) dX8_withdraw_165 ev8 ?_
    refine g_iload_n (M := mX8_withdraw) dX8_withdraw_166 rfl 2 rfl ?_
    refine g_iconst (M := mX8_withdraw) (v := -1) dX8_withdraw_167 rfl ?_
    obtain ⟨b9, eb9, hf⟩ := bd hf
    obtain ⟨r10, er10, hf⟩ := bd hf
    refine g_callV (M := mX8_withdraw) (kc := 0) (ks := 0) (as := [vi (5 : Int32), vi a1, vi v4, vi v8, vi a2, vi (-1 : Int32)]) (rest := []) dX8_withdraw_168 cbX8_lodge vwRX8_125 rfl eb9 rfl (Nat.le_of_ble_eq_true rfl) (Nat.le_of_ble_eq_true rfl) (c_X8_lodge G b9 (5 : Int32) a1 v4 v8 a2 (-1 : Int32) h r10 er10) ?_
    cases hf
    exact g_ret (M := mX8_withdraw) dX8_withdraw_171 rfl
  · replace hf := iff_ hf q138
    refine g_bipush (M := mX8_withdraw) (v := -4) dX8_withdraw_141 rfl ?_
    refine g_goto (M := mX8_withdraw) (tgt := 171) dX8_withdraw_143 rfl ?_
    cases hf
    exact g_ret (M := mX8_withdraw) dX8_withdraw_171 rfl
def f_X8_withdraw_68 (a0 : Nat) (a1 : Int32) (a2 : Int32) (h : AH) : Option (Int32 × AH) :=
  (ck 8 h (some a0)).bind fun b11 =>
  (f_X8_isFull b11 h).bind fun r12 =>
  if (b2i r12) = 0 then (
    (gR 8 11 h (some a0)).bind fun v13 =>
    (lI 10 h v13 a2).bind fun v14 =>
    (ck 8 h (some a0)).bind fun b15 =>
    (f_X8_belongs b15 a1 v14 h).bind fun r16 =>
    if r16 = (-1 : Int32) then (
      some ((-6 : Int32), h)
    ) else (
      if a2 = r16 then (
        f_X8_withdraw_133 a0 a1 a2 h
      ) else (
        (gR 8 15 h (some a0)).bind fun v17 =>
        (lI 10 h v17 a2).bind fun v18 =>
        if v18 = (-1 : Int32) then (
          some ((-7 : Int32), h)
        ) else (
          (gI 8 0 h (some a0)).bind fun v19 =>
          (ck 8 h (some a0)).bind fun b20 =>
          (f_X8_isHeld b20 a2 r16 v19 h).bind fun r21 =>
          if (b2i r21) = 0 then (
            some ((-7 : Int32), h)
          ) else (
            f_X8_withdraw_133 a0 a1 a2 h
          )
        )
      )
    )
  ) else (
    some ((-8 : Int32), h)
  )
theorem x_X8_withdraw_68 (G : Gm) (a0 : Nat) (a1 : Int32) (a2 : Int32) (h : AH) (o : (Int32 × AH)) (hf : f_X8_withdraw_68 a0 a1 a2 h = some o) : GO G mX8_withdraw 0 0 68 [(0, vr (some a0)), (1, vi a1), (2, vi a2)] [] h (some (vi o.1)) o.2 := by
  unfold f_X8_withdraw_68 at hf
  refine g_aload_n (M := mX8_withdraw) dX8_withdraw_68 rfl 0 rfl ?_
  obtain ⟨b11, eb11, hf⟩ := bd hf
  obtain ⟨r12, er12, hf⟩ := bd hf
  refine g_callV (M := mX8_withdraw) (kc := 0) (ks := 0) (as := []) (rest := []) dX8_withdraw_69 cbX8_isFull vwRX8_118 rfl eb11 rfl (Nat.le_of_ble_eq_true rfl) (Nat.le_of_ble_eq_true rfl) (c_X8_isFull G b11 h r12 er12) ?_
  refine g_if_eq (M := mX8_withdraw) (tgt := 78) dX8_withdraw_72 rfl (fun q72 => ?_) (fun q72 => ?_)
  · replace hf := ift hf q72
    refine g_aload_n (M := mX8_withdraw) dX8_withdraw_78 rfl 0 rfl ?_
    refine g_iload_n (M := mX8_withdraw) dX8_withdraw_79 rfl 1 rfl ?_
    refine g_aload_n (M := mX8_withdraw) dX8_withdraw_80 rfl 0 rfl ?_
    obtain ⟨v13, ev13, hf⟩ := bd hf
    refine g_getR (M := mX8_withdraw) dX8_withdraw_81 flRX8_31 (fun _ => rfl) ev13 ?_
    refine g_iload_n (M := mX8_withdraw) dX8_withdraw_84 rfl 2 rfl ?_
    obtain ⟨v14, ev14, hf⟩ := bd hf
    refine g_iald (M := mX8_withdraw) dX8_withdraw_85 ev14 ?_
    obtain ⟨b15, eb15, hf⟩ := bd hf
    obtain ⟨r16, er16, hf⟩ := bd hf
    refine g_callV (M := mX8_withdraw) (kc := 0) (ks := 0) (as := [vi a1, vi v14]) (rest := []) dX8_withdraw_86 cbX8_belongs vwRX8_129 rfl eb15 rfl (Nat.le_of_ble_eq_true rfl) (Nat.le_of_ble_eq_true rfl) (c_X8_belongs G b15 a1 v14 h r16 er16) ?_
    refine g_istore (M := mX8_withdraw) (L2 := [(4, vi r16), (0, vr (some a0)), (1, vi a1), (2, vi a2)]) dX8_withdraw_89 (Nat.le_of_ble_eq_true rfl) rfl ?_
    refine g_iload (M := mX8_withdraw) dX8_withdraw_91 0 rfl ?_
    refine g_iconst (M := mX8_withdraw) (v := -1) dX8_withdraw_93 rfl ?_
    refine g_ic_ne (M := mX8_withdraw) (tgt := 100) dX8_withdraw_94 rfl (fun q94 => ?_) (fun q94 => ?_)
    · replace hf := iff_ hf q94
      refine g_iload_n (M := mX8_withdraw) dX8_withdraw_100 rfl 3 rfl ?_
      refine g_iload (M := mX8_withdraw) dX8_withdraw_101 0 rfl ?_
      refine g_ic_eq (M := mX8_withdraw) (tgt := 133) dX8_withdraw_103 rfl (fun q103 => ?_) (fun q103 => ?_)
      · replace hf := ift hf q103
        exact g_sub (M := mX8_withdraw) (L2 := [(0, vr (some a0)), (1, vi a1), (2, vi a2)]) [1, 2, 3] rfl <| x_X8_withdraw_133 G a0 a1 a2 h _ hf
      · replace hf := iff_ hf q103
        refine g_aload_n (M := mX8_withdraw) dX8_withdraw_106 rfl 1 rfl ?_
        obtain ⟨v17, ev17, hf⟩ := bd hf
        refine g_getR (M := mX8_withdraw) dX8_withdraw_107 flRX8_43 (fun _ => rfl) ev17 ?_
        refine g_iload_n (M := mX8_withdraw) dX8_withdraw_110 rfl 3 rfl ?_
        obtain ⟨v18, ev18, hf⟩ := bd hf
        refine g_iald (M := mX8_withdraw) dX8_withdraw_111 ev18 ?_
        refine g_iconst (M := mX8_withdraw) (v := -1) dX8_withdraw_112 rfl ?_
        refine g_ic_eq (M := mX8_withdraw) (tgt := 130) dX8_withdraw_113 rfl (fun q113 => ?_) (fun q113 => ?_)
        · replace hf := ift hf q113
          refine g_bipush (M := mX8_withdraw) (v := -7) dX8_withdraw_130 rfl ?_
          cases hf
          exact g_ret (M := mX8_withdraw) dX8_withdraw_132 rfl
        · replace hf := iff_ hf q113
          refine g_aload_n (M := mX8_withdraw) dX8_withdraw_116 rfl 1 rfl ?_
          refine g_iload_n (M := mX8_withdraw) dX8_withdraw_117 rfl 3 rfl ?_
          refine g_iload (M := mX8_withdraw) dX8_withdraw_118 0 rfl ?_
          refine g_aload_n (M := mX8_withdraw) dX8_withdraw_120 rfl 1 rfl ?_
          obtain ⟨v19, ev19, hf⟩ := bd hf
          refine g_getI (M := mX8_withdraw) dX8_withdraw_121 flRX8_98 (fun _ => rfl) ev19 ?_
          obtain ⟨b20, eb20, hf⟩ := bd hf
          obtain ⟨r21, er21, hf⟩ := bd hf
          refine g_callV (M := mX8_withdraw) (kc := 0) (ks := 0) (as := [vi a2, vi r16, vi v19]) (rest := []) dX8_withdraw_124 cbX8_isHeld vwRX8_112 rfl eb20 rfl (Nat.le_of_ble_eq_true rfl) (Nat.le_of_ble_eq_true rfl) (c_X8_isHeld G b20 a2 r16 v19 h r21 er21) ?_
          refine g_if_ne (M := mX8_withdraw) (tgt := 133) dX8_withdraw_127 rfl (fun q127 => ?_) (fun q127 => ?_)
          · replace hf := iff_ hf q127
            exact g_sub (M := mX8_withdraw) (L2 := [(0, vr (some a0)), (1, vi a1), (2, vi a2)]) [1, 2, 3] rfl <| x_X8_withdraw_133 G a0 a1 a2 h _ hf
          · replace hf := ift hf q127
            refine g_bipush (M := mX8_withdraw) (v := -7) dX8_withdraw_130 rfl ?_
            cases hf
            exact g_ret (M := mX8_withdraw) dX8_withdraw_132 rfl
    · replace hf := ift hf q94
      refine g_bipush (M := mX8_withdraw) (v := -6) dX8_withdraw_97 rfl ?_
      cases hf
      exact g_ret (M := mX8_withdraw) dX8_withdraw_99 rfl
  · replace hf := iff_ hf q72
    refine g_bipush (M := mX8_withdraw) (v := -8) dX8_withdraw_75 rfl ?_
    cases hf
    exact g_ret (M := mX8_withdraw) dX8_withdraw_77 rfl
def f_X8_withdraw_21 (a0 : Nat) (a1 : Int32) (a2 : Int32) (s0 : Int32) (h : AH) : Option (Int32 × AH) :=
  if s0 = 0 then (
    some ((-2 : Int32), h)
  ) else (
    (ck 8 h (some a0)).bind fun b22 =>
    (f_X8_isMembership b22 a2 h).bind fun r23 =>
    if (b2i r23) = 0 then (
      (gR 8 9 h (some a0)).bind fun v24 =>
      (lI 10 h v24 a2).bind fun v25 =>
      if v25 = (3 : Int32) then (
        f_X8_withdraw_68 a0 a1 a2 h
      ) else (
        (gR 8 9 h (some a0)).bind fun v26 =>
        (lI 10 h v26 a2).bind fun v27 =>
        if v27 = (4 : Int32) then (
          f_X8_withdraw_68 a0 a1 a2 h
        ) else (
          (gR 8 9 h (some a0)).bind fun v28 =>
          (lI 10 h v28 a2).bind fun v29 =>
          if v29 = (7 : Int32) then (
            f_X8_withdraw_68 a0 a1 a2 h
          ) else (
            some ((-2 : Int32), h)
          )
        )
      )
    ) else (
      f_X8_withdraw_68 a0 a1 a2 h
    )
  )
theorem x_X8_withdraw_21 (G : Gm) (a0 : Nat) (a1 : Int32) (a2 : Int32) (s0 : Int32) (h : AH) (o : (Int32 × AH)) (hf : f_X8_withdraw_21 a0 a1 a2 s0 h = some o) : GO G mX8_withdraw 0 0 21 [(0, vr (some a0)), (1, vi a1), (2, vi a2)] [vi s0] h (some (vi o.1)) o.2 := by
  unfold f_X8_withdraw_21 at hf
  refine g_istore_n (M := mX8_withdraw) (L2 := [(3, vi s0), (0, vr (some a0)), (1, vi a1), (2, vi a2)]) dX8_withdraw_21 rfl (Nat.le_of_ble_eq_true rfl) rfl ?_
  refine g_iload_n (M := mX8_withdraw) dX8_withdraw_22 rfl 0 rfl ?_
  refine g_if_eq (M := mX8_withdraw) (tgt := 65) dX8_withdraw_23 rfl (fun q23 => ?_) (fun q23 => ?_)
  · replace hf := ift hf q23
    refine g_bipush (M := mX8_withdraw) (v := -2) dX8_withdraw_65 rfl ?_
    cases hf
    exact g_ret (M := mX8_withdraw) dX8_withdraw_67 rfl
  · replace hf := iff_ hf q23
    refine g_aload_n (M := mX8_withdraw) dX8_withdraw_26 rfl 1 rfl ?_
    refine g_iload_n (M := mX8_withdraw) dX8_withdraw_27 rfl 3 rfl ?_
    obtain ⟨b22, eb22, hf⟩ := bd hf
    obtain ⟨r23, er23, hf⟩ := bd hf
    refine g_callV (M := mX8_withdraw) (kc := 0) (ks := 0) (as := [vi a2]) (rest := []) dX8_withdraw_28 cbX8_isMembership vwRX8_101 rfl eb22 rfl (Nat.le_of_ble_eq_true rfl) (Nat.le_of_ble_eq_true rfl) (c_X8_isMembership G b22 a2 h r23 er23) ?_
    refine g_if_ne (M := mX8_withdraw) (tgt := 68) dX8_withdraw_31 rfl (fun q31 => ?_) (fun q31 => ?_)
    · replace hf := iff_ hf q31
      exact g_sub (M := mX8_withdraw) (L2 := [(0, vr (some a0)), (1, vi a1), (2, vi a2)]) [1, 2, 3] rfl <| x_X8_withdraw_68 G a0 a1 a2 h _ hf
    · replace hf := ift hf q31
      refine g_aload_n (M := mX8_withdraw) dX8_withdraw_34 rfl 1 rfl ?_
      obtain ⟨v24, ev24, hf⟩ := bd hf
      refine g_getR (M := mX8_withdraw) dX8_withdraw_35 flRX8_25 (fun _ => rfl) ev24 ?_
      refine g_iload_n (M := mX8_withdraw) dX8_withdraw_38 rfl 3 rfl ?_
      obtain ⟨v25, ev25, hf⟩ := bd hf
      refine g_iald (M := mX8_withdraw) dX8_withdraw_39 ev25 ?_
      refine g_iconst (M := mX8_withdraw) (v := 3) dX8_withdraw_40 rfl ?_
      refine g_ic_eq (M := mX8_withdraw) (tgt := 68) dX8_withdraw_41 rfl (fun q41 => ?_) (fun q41 => ?_)
      · replace hf := ift hf q41
        exact g_sub (M := mX8_withdraw) (L2 := [(0, vr (some a0)), (1, vi a1), (2, vi a2)]) [1, 2, 3] rfl <| x_X8_withdraw_68 G a0 a1 a2 h _ hf
      · replace hf := iff_ hf q41
        refine g_aload_n (M := mX8_withdraw) dX8_withdraw_44 rfl 1 rfl ?_
        obtain ⟨v26, ev26, hf⟩ := bd hf
        refine g_getR (M := mX8_withdraw) dX8_withdraw_45 flRX8_25 (fun _ => rfl) ev26 ?_
        refine g_iload_n (M := mX8_withdraw) dX8_withdraw_48 rfl 3 rfl ?_
        obtain ⟨v27, ev27, hf⟩ := bd hf
        refine g_iald (M := mX8_withdraw) dX8_withdraw_49 ev27 ?_
        refine g_iconst (M := mX8_withdraw) (v := 4) dX8_withdraw_50 rfl ?_
        refine g_ic_eq (M := mX8_withdraw) (tgt := 68) dX8_withdraw_51 rfl (fun q51 => ?_) (fun q51 => ?_)
        · replace hf := ift hf q51
          exact g_sub (M := mX8_withdraw) (L2 := [(0, vr (some a0)), (1, vi a1), (2, vi a2)]) [1, 2, 3] rfl <| x_X8_withdraw_68 G a0 a1 a2 h _ hf
        · replace hf := iff_ hf q51
          refine g_aload_n (M := mX8_withdraw) dX8_withdraw_54 rfl 1 rfl ?_
          obtain ⟨v28, ev28, hf⟩ := bd hf
          refine g_getR (M := mX8_withdraw) dX8_withdraw_55 flRX8_25 (fun _ => rfl) ev28 ?_
          refine g_iload_n (M := mX8_withdraw) dX8_withdraw_58 rfl 3 rfl ?_
          obtain ⟨v29, ev29, hf⟩ := bd hf
          refine g_iald (M := mX8_withdraw) dX8_withdraw_59 ev29 ?_
          refine g_bipush (M := mX8_withdraw) (v := 7) dX8_withdraw_60 rfl ?_
          refine g_ic_eq (M := mX8_withdraw) (tgt := 68) dX8_withdraw_62 rfl (fun q62 => ?_) (fun q62 => ?_)
          · replace hf := ift hf q62
            exact g_sub (M := mX8_withdraw) (L2 := [(0, vr (some a0)), (1, vi a1), (2, vi a2)]) [1, 2, 3] rfl <| x_X8_withdraw_68 G a0 a1 a2 h _ hf
          · replace hf := iff_ hf q62
            refine g_bipush (M := mX8_withdraw) (v := -2) dX8_withdraw_65 rfl ?_
            cases hf
            exact g_ret (M := mX8_withdraw) dX8_withdraw_67 rfl
def f_X8_withdraw_20 (a0 : Nat) (a1 : Int32) (a2 : Int32) (h : AH) : Option (Int32 × AH) :=
  f_X8_withdraw_21 a0 a1 a2 (0 : Int32) h
theorem x_X8_withdraw_20 (G : Gm) (a0 : Nat) (a1 : Int32) (a2 : Int32) (h : AH) (o : (Int32 × AH)) (hf : f_X8_withdraw_20 a0 a1 a2 h = some o) : GO G mX8_withdraw 0 0 20 [(0, vr (some a0)), (1, vi a1), (2, vi a2)] [] h (some (vi o.1)) o.2 := by
  unfold f_X8_withdraw_20 at hf
  refine g_iconst (M := mX8_withdraw) (v := 0) dX8_withdraw_20 rfl ?_
  exact x_X8_withdraw_21 G a0 a1 a2 (0 : Int32) h _ hf
def f_X8_withdraw (a0 : Nat) (a1 : Int32) (a2 : Int32) (h : AH) : Option (Int32 × AH) :=
  (ck 8 h (some a0)).bind fun b30 =>
  (f_X8_isParty b30 a1 h).bind fun r31 =>
  if (b2i r31) = 0 then (
    f_X8_withdraw_20 a0 a1 a2 h
  ) else (
    (ck 8 h (some a0)).bind fun b32 =>
    (f_X8_isPaper b32 a2 h).bind fun r33 =>
    if (b2i r33) = 0 then (
      f_X8_withdraw_20 a0 a1 a2 h
    ) else (
      f_X8_withdraw_21 a0 a1 a2 (1 : Int32) h
    )
  )
theorem x_X8_withdraw (G : Gm) (a0 : Nat) (a1 : Int32) (a2 : Int32) (h : AH) (o : (Int32 × AH)) (hf : f_X8_withdraw a0 a1 a2 h = some o) : GO G mX8_withdraw 0 0 0 [(0, vr (some a0)), (1, vi a1), (2, vi a2)] [] h (some (vi o.1)) o.2 := by
  unfold f_X8_withdraw at hf
  refine g_aload_n (M := mX8_withdraw) dX8_withdraw_0 rfl 0 rfl ?_
  refine g_iload_n (M := mX8_withdraw) dX8_withdraw_1 rfl 1 rfl ?_
  obtain ⟨b30, eb30, hf⟩ := bd hf
  obtain ⟨r31, er31, hf⟩ := bd hf
  refine g_callV (M := mX8_withdraw) (kc := 0) (ks := 0) (as := [vi a1]) (rest := []) dX8_withdraw_2 cbX8_isParty vwRX8_115 rfl eb30 rfl (Nat.le_of_ble_eq_true rfl) (Nat.le_of_ble_eq_true rfl) (c_X8_isParty G b30 a1 h r31 er31) ?_
  refine g_if_eq (M := mX8_withdraw) (tgt := 20) dX8_withdraw_5 rfl (fun q5 => ?_) (fun q5 => ?_)
  · replace hf := ift hf q5
    exact x_X8_withdraw_20 G a0 a1 a2 h _ hf
  · replace hf := iff_ hf q5
    refine g_aload_n (M := mX8_withdraw) dX8_withdraw_8 rfl 0 rfl ?_
    refine g_iload_n (M := mX8_withdraw) dX8_withdraw_9 rfl 2 rfl ?_
    obtain ⟨b32, eb32, hf⟩ := bd hf
    obtain ⟨r33, er33, hf⟩ := bd hf
    refine g_callV (M := mX8_withdraw) (kc := 0) (ks := 0) (as := [vi a2]) (rest := []) dX8_withdraw_10 cbX8_isPaper vwRX8_136 rfl eb32 rfl (Nat.le_of_ble_eq_true rfl) (Nat.le_of_ble_eq_true rfl) (c_X8_isPaper G b32 a2 h r33 er33) ?_
    refine g_if_eq (M := mX8_withdraw) (tgt := 20) dX8_withdraw_13 rfl (fun q13 => ?_) (fun q13 => ?_)
    · replace hf := ift hf q13
      exact x_X8_withdraw_20 G a0 a1 a2 h _ hf
    · replace hf := iff_ hf q13
      refine g_iconst (M := mX8_withdraw) (v := 1) dX8_withdraw_16 rfl ?_
      refine g_goto (M := mX8_withdraw) (tgt := 21) dX8_withdraw_17 rfl ?_
      exact x_X8_withdraw_21 G a0 a1 a2 (1 : Int32) h _ hf
theorem c_X8_withdraw (G : Gm) (a0 : Nat) (a1 : Int32) (a2 : Int32) (h : AH) (o : (Int32 × AH)) (hf : f_X8_withdraw a0 a1 a2 h = some o) : CT G yX8_withdraw mX8_withdraw (some .int) 0 0 [vr (some a0), vi a1, vi a2] h (some (vi o.1)) o.2 :=
  CT.int (by decide +kernel) rfl rfl rfl (Nat.le_of_ble_eq_true rfl) (x_X8_withdraw G a0 a1 a2 h o hf)
theorem cbX8_withdraw : CB yX8_withdraw mX8_withdraw (some .int) 2 := ⟨cd_yX8_withdraw, itRX8, ⟨by decide, by decide⟩, by decide +kernel, by decide⟩
