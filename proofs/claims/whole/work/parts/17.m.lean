abbrev mX7_object : MI := (RX7, "object", cX7_object, 7, .ireturn, 3)
def f_X7_object (a0 : Nat) (a1 : Int32) (a2 : Int32) (a3 : Int32) (h : AH) : Option (Int32 × AH) :=
  (gR 7 1 h (some a0)).bind fun v1 =>
  (ck 4 h v1).bind fun b2 =>
  (f_X4_at b2 a2 h).bind fun r3 =>
  (ck 7 h (some a0)).bind fun b4 =>
  (f_X7_isParty b4 a1 h).bind fun r5 =>
  if (b2i r5) = 0 then (
    some ((-2 : Int32), h)
  ) else (
    if r3 = none then (
      some ((-2 : Int32), h)
    ) else (
      (gI 3 1 h r3).bind fun v6 =>
      if v6 = (3 : Int32) then (
        (gR 3 3 h r3).bind fun v7 =>
        if v7 = none then (
          some ((-2 : Int32), h)
        ) else (
          (gR 7 1 h (some a0)).bind fun v8 =>
          (ck 4 h v8).bind fun b9 =>
          (f_X4_isFull b9 h).bind fun r10 =>
          if (b2i r10) = 0 then (
            (gR 7 1 h (some a0)).bind fun v11 =>
            (gR 3 3 h r3).bind fun v12 =>
            (ck 4 h v11).bind fun b13 =>
            (f_X4_belonging b13 a1 v12 h).bind fun r14 =>
            if r14 = none then (
              some ((-6 : Int32), h)
            ) else (
              (gI 7 6 h (some a0)).bind fun v15 =>
              (ck 3 h r3).bind fun b16 =>
              (f_X3_isHeldBy b16 r14 v15 h).bind fun r17 =>
              if (b2i r17) = 0 then (
                (gI 7 6 h (some a0)).bind fun v18 =>
                (gI 3 4 h r3).bind fun v19 =>
                (gR 3 3 h r3).bind fun v20 =>
                (gI 0 3 h v20).bind fun v21 =>
                if (v18 - v19) ≤ v21 then (
                  (ck 3 h r3).bind fun b22 =>
                  (f_X3_isAnsweredBy b22 r14 h).bind fun r23 =>
                  if (b2i r23) = 0 then (
                    (gR 7 1 h (some a0)).bind fun v24 =>
                    (gR 3 3 h r3).bind fun v25 =>
                    (gI 7 6 h (some a0)).bind fun v26 =>
                    (gI 7 6 h (some a0)).bind fun v27 =>
                    (ck 4 h v24).bind fun b28 =>
                    (f_X4_lodge b28 (4 : Int32) a1 v25 v26 v27 h).bind fun r29 =>
                    (pR 3 7 r29.2 r29.1 r14).bind fun h30 =>
                    (pZ 3 10 h30 r29.1 a3).bind fun h31 =>
                    (ck 3 h31 r29.1).bind fun b32 =>
                    (f_X3_answer b32 r3 h31).bind fun r33 =>
                    (gI 3 0 r33 r29.1).bind fun v34 =>
                    some (v34, r33)
                  ) else (
                    some ((-4 : Int32), h)
                  )
                ) else (
                  some ((-3 : Int32), h)
                )
              ) else (
                some ((-7 : Int32), h)
              )
            )
          ) else (
            some ((-8 : Int32), h)
          )
        )
      ) else (
        some ((-2 : Int32), h)
      )
    )
  )
theorem x_X7_object (G : Gm) (a0 : Nat) (a1 : Int32) (a2 : Int32) (a3 : Int32) (h : AH) (o : (Int32 × AH)) (hf : f_X7_object a0 a1 a2 a3 h = some o) : GO G mX7_object 1 15 0 [(0, vr (some a0)), (1, vi a1), (2, vi a2), (3, vi a3)] [] h (some (vi o.1)) o.2 := by
  unfold f_X7_object at hf
  refine g_aload_n (M := mX7_object) dX7_object_0 rfl 0 rfl ?_
  obtain ⟨v1, ev1, hf⟩ := bd hf
  refine g_getR (M := mX7_object) dX7_object_1 flRX7_18 (fun _ => rfl) ev1 ?_
  refine g_iload_n (M := mX7_object) dX7_object_4 rfl 2 rfl ?_
  obtain ⟨b2, eb2, hf⟩ := bd hf
  obtain ⟨r3, er3, hf⟩ := bd hf
  refine g_callV (M := mX7_object) (kc := 1) (ks := 15) (as := [vi a2]) (rest := []) dX7_object_5 cbX4_at vwRX7_108 rfl eb2 rfl (Nat.le_of_ble_eq_true rfl) (Nat.le_of_ble_eq_true rfl) (c_X4_at G b2 a2 h r3 er3) ?_
  refine g_astore (M := mX7_object) (L2 := [(4, vr r3), (0, vr (some a0)), (1, vi a1), (2, vi a2), (3, vi a3)]) dX7_object_8 (Nat.le_of_ble_eq_true rfl) rfl ?_
  refine g_aload_n (M := mX7_object) dX7_object_10 rfl 1 rfl ?_
  refine g_iload_n (M := mX7_object) dX7_object_11 rfl 2 rfl ?_
  obtain ⟨b4, eb4, hf⟩ := bd hf
  obtain ⟨r5, er5, hf⟩ := bd hf
  refine g_callV (M := mX7_object) (kc := 1) (ks := 15) (as := [vi a1]) (rest := []) dX7_object_12 cbX7_isParty vwRX7_71 rfl eb4 rfl (Nat.le_of_ble_eq_true rfl) (Nat.le_of_ble_eq_true rfl) (c_X7_isParty G b4 a1 h r5 er5) ?_
  refine g_if_eq (M := mX7_object) (tgt := 40) dX7_object_15 rfl (fun q15 => ?_) (fun q15 => ?_)
  · replace hf := ift hf q15
    refine g_bipush (M := mX7_object) (v := -2) dX7_object_40 rfl ?_
    cases hf
    exact g_weak (M := mX7_object) (Nat.zero_le _) (Nat.zero_le _) (g_ret (M := mX7_object) dX7_object_42 rfl)
  · replace hf := iff_ hf q15
    refine g_aload (M := mX7_object) dX7_object_18 0 rfl ?_
    refine g_ifnull (M := mX7_object) (tgt := 40) dX7_object_20 rfl (fun q20 => ?_) (fun q20 => ?_)
    · replace hf := ift hf q20
      refine g_bipush (M := mX7_object) (v := -2) dX7_object_40 rfl ?_
      cases hf
      exact g_weak (M := mX7_object) (Nat.zero_le _) (Nat.zero_le _) (g_ret (M := mX7_object) dX7_object_42 rfl)
    · replace hf := iff_ hf q20
      refine g_aload (M := mX7_object) dX7_object_23 0 rfl ?_
      obtain ⟨v6, ev6, hf⟩ := bd hf
      refine g_getI (M := mX7_object) dX7_object_25 flRX7_112 (fun _ => rfl) ev6 ?_
      refine g_iconst (M := mX7_object) (v := 3) dX7_object_28 rfl ?_
      refine g_ic_ne (M := mX7_object) (tgt := 40) dX7_object_29 rfl (fun q29 => ?_) (fun q29 => ?_)
      · replace hf := iff_ hf q29
        refine g_bipush (M := mX7_object) (v := -2) dX7_object_40 rfl ?_
        cases hf
        exact g_weak (M := mX7_object) (Nat.zero_le _) (Nat.zero_le _) (g_ret (M := mX7_object) dX7_object_42 rfl)
      · replace hf := ift hf q29
        refine g_aload (M := mX7_object) dX7_object_32 0 rfl ?_
        obtain ⟨v7, ev7, hf⟩ := bd hf
        refine g_getR (M := mX7_object) dX7_object_34 flRX7_115 (fun _ => rfl) ev7 ?_
        refine g_ifnonnull (M := mX7_object) (tgt := 43) dX7_object_37 rfl (fun q37 => ?_) (fun q37 => ?_)
        · replace hf := iff_ hf q37
          refine g_aload_n (M := mX7_object) dX7_object_43 rfl 1 rfl ?_
          obtain ⟨v8, ev8, hf⟩ := bd hf
          refine g_getR (M := mX7_object) dX7_object_44 flRX7_18 (fun _ => rfl) ev8 ?_
          obtain ⟨b9, eb9, hf⟩ := bd hf
          obtain ⟨r10, er10, hf⟩ := bd hf
          refine g_callV (M := mX7_object) (kc := 1) (ks := 15) (as := []) (rest := []) dX7_object_47 cbX4_isFull vwRX7_74 rfl eb9 rfl (Nat.le_of_ble_eq_true rfl) (Nat.le_of_ble_eq_true rfl) (c_X4_isFull G b9 h r10 er10) ?_
          refine g_if_eq (M := mX7_object) (tgt := 56) dX7_object_50 rfl (fun q50 => ?_) (fun q50 => ?_)
          · replace hf := ift hf q50
            refine g_aload_n (M := mX7_object) dX7_object_56 rfl 1 rfl ?_
            obtain ⟨v11, ev11, hf⟩ := bd hf
            refine g_getR (M := mX7_object) dX7_object_57 flRX7_18 (fun _ => rfl) ev11 ?_
            refine g_iload_n (M := mX7_object) dX7_object_60 rfl 2 rfl ?_
            refine g_aload (M := mX7_object) dX7_object_61 0 rfl ?_
            obtain ⟨v12, ev12, hf⟩ := bd hf
            refine g_getR (M := mX7_object) dX7_object_63 flRX7_115 (fun _ => rfl) ev12 ?_
            obtain ⟨b13, eb13, hf⟩ := bd hf
            obtain ⟨r14, er14, hf⟩ := bd hf
            refine g_callV (M := mX7_object) (kc := 1) (ks := 15) (as := [vi a1, vr v12]) (rest := []) dX7_object_66 cbX4_belonging vwRX7_91 rfl eb13 rfl (Nat.le_of_ble_eq_true rfl) (Nat.le_of_ble_eq_true rfl) (c_X4_belonging G b13 a1 v12 h r14 er14) ?_
            refine g_astore (M := mX7_object) (L2 := [(5, vr r14), (4, vr r3), (0, vr (some a0)), (1, vi a1), (2, vi a2), (3, vi a3)]) dX7_object_69 (Nat.le_of_ble_eq_true rfl) rfl ?_
            refine g_aload (M := mX7_object) dX7_object_71 0 rfl ?_
            refine g_ifnonnull (M := mX7_object) (tgt := 79) dX7_object_73 rfl (fun q73 => ?_) (fun q73 => ?_)
            · replace hf := iff_ hf q73
              refine g_aload (M := mX7_object) dX7_object_79 1 rfl ?_
              refine g_aload (M := mX7_object) dX7_object_81 0 rfl ?_
              refine g_aload_n (M := mX7_object) dX7_object_83 rfl 2 rfl ?_
              obtain ⟨v15, ev15, hf⟩ := bd hf
              refine g_getI (M := mX7_object) dX7_object_84 flRX7_67 (fun _ => rfl) ev15 ?_
              obtain ⟨b16, eb16, hf⟩ := bd hf
              obtain ⟨r17, er17, hf⟩ := bd hf
              refine g_callV (M := mX7_object) (kc := 1) (ks := 15) (as := [vr r14, vi v15]) (rest := []) dX7_object_87 cbX3_isHeldBy vwRX7_119 rfl eb16 rfl (Nat.le_of_ble_eq_true rfl) (Nat.le_of_ble_eq_true rfl) (c_X3_isHeldBy G b16 r14 v15 h r17 er17) ?_
              refine g_if_eq (M := mX7_object) (tgt := 96) dX7_object_90 rfl (fun q90 => ?_) (fun q90 => ?_)
              · replace hf := ift hf q90
                refine g_aload_n (M := mX7_object) dX7_object_96 rfl 2 rfl ?_
                obtain ⟨v18, ev18, hf⟩ := bd hf
                refine g_getI (M := mX7_object) dX7_object_97 flRX7_67 (fun _ => rfl) ev18 ?_
                refine g_aload (M := mX7_object) dX7_object_100 1 rfl ?_
                obtain ⟨v19, ev19, hf⟩ := bd hf
                refine g_getI (M := mX7_object) dX7_object_102 flRX7_123 (fun _ => rfl) ev19 ?_
                refine g_isub (M := mX7_object) dX7_object_105 ?_
                refine g_aload (M := mX7_object) dX7_object_106 1 rfl ?_
                obtain ⟨v20, ev20, hf⟩ := bd hf
                refine g_getR (M := mX7_object) dX7_object_108 flRX7_115 (fun _ => rfl) ev20 ?_
                obtain ⟨v21, ev21, hf⟩ := bd hf
                refine g_getI (M := mX7_object) dX7_object_111 flRX7_126 (fun _ => rfl) ev21 ?_
                refine g_ic_le (M := mX7_object) (tgt := 120) dX7_object_114 rfl (fun q114 => ?_) (fun q114 => ?_)
                · replace hf := ift hf q114
                  refine g_aload (M := mX7_object) dX7_object_120 1 rfl ?_
                  refine g_aload (M := mX7_object) dX7_object_122 0 rfl ?_
                  obtain ⟨b22, eb22, hf⟩ := bd hf
                  obtain ⟨r23, er23, hf⟩ := bd hf
                  refine g_callV (M := mX7_object) (kc := 1) (ks := 15) (as := [vr r14]) (rest := []) dX7_object_124 cbX3_isAnsweredBy vwRX7_129 rfl eb22 rfl (Nat.le_of_ble_eq_true rfl) (Nat.le_of_ble_eq_true rfl) (c_X3_isAnsweredBy G b22 r14 h r23 er23) ?_
                  refine g_if_eq (M := mX7_object) (tgt := 133) dX7_object_127 rfl (fun q127 => ?_) (fun q127 => ?_)
                  · replace hf := ift hf q127
                    refine g_aload_n (M := mX7_object) dX7_object_133 rfl 2 rfl ?_
                    obtain ⟨v24, ev24, hf⟩ := bd hf
                    refine g_getR (M := mX7_object) dX7_object_134 flRX7_18 (fun _ => rfl) ev24 ?_
                    refine g_iconst (M := mX7_object) (v := 4) dX7_object_137 rfl ?_
                    refine g_iload_n (M := mX7_object) dX7_object_138 rfl 3 rfl ?_
                    refine g_aload (M := mX7_object) dX7_object_139 1 rfl ?_
                    obtain ⟨v25, ev25, hf⟩ := bd hf
                    refine g_getR (M := mX7_object) dX7_object_141 flRX7_115 (fun _ => rfl) ev25 ?_
                    refine g_aload_n (M := mX7_object) dX7_object_144 rfl 2 rfl ?_
                    obtain ⟨v26, ev26, hf⟩ := bd hf
                    refine g_getI (M := mX7_object) dX7_object_145 flRX7_67 (fun _ => rfl) ev26 ?_
                    refine g_aload_n (M := mX7_object) dX7_object_148 rfl 2 rfl ?_
                    obtain ⟨v27, ev27, hf⟩ := bd hf
                    refine g_getI (M := mX7_object) dX7_object_149 flRX7_67 (fun _ => rfl) ev27 ?_
                    obtain ⟨b28, eb28, hf⟩ := bd hf
                    obtain ⟨r29, er29, hf⟩ := bd hf
                    refine g_callV (M := mX7_object) (kc := 0) (ks := 0) (as := [vi (4 : Int32), vi a1, vr v25, vi v26, vi v27]) (rest := []) dX7_object_152 cbX4_lodge vwRX7_82 rfl eb28 rfl (Nat.le_of_ble_eq_true rfl) (Nat.le_of_ble_eq_true rfl) (c_X4_lodge G b28 (4 : Int32) a1 v25 v26 v27 h r29 er29) ?_
                    refine g_astore (M := mX7_object) (L2 := [(6, vr r29.1), (5, vr r14), (4, vr r3), (0, vr (some a0)), (1, vi a1), (2, vi a2), (3, vi a3)]) dX7_object_155 (Nat.le_of_ble_eq_true rfl) rfl ?_
                    refine g_aload (M := mX7_object) dX7_object_157 0 rfl ?_
                    refine g_aload (M := mX7_object) dX7_object_159 1 rfl ?_
                    obtain ⟨h30, eh30, hf⟩ := bd hf
                    refine g_putR (M := mX7_object) dX7_object_161 flRX7_98 (Or.inl ⟨_, rfl⟩) eh30 ?_
                    refine g_aload (M := mX7_object) dX7_object_164 0 rfl ?_
                    refine g_iload_n (M := mX7_object) dX7_object_166 rfl 6 rfl ?_
                    obtain ⟨h31, eh31, hf⟩ := bd hf
                    refine g_putZ (M := mX7_object) dX7_object_167 flRX7_133 rfl eh31 ?_
                    refine g_aload (M := mX7_object) dX7_object_170 0 rfl ?_
                    refine g_aload (M := mX7_object) dX7_object_172 2 rfl ?_
                    obtain ⟨b32, eb32, hf⟩ := bd hf
                    obtain ⟨r33, er33, hf⟩ := bd hf
                    refine g_callV (M := mX7_object) (kc := 0) (ks := 0) (as := [vr r3]) (rest := []) dX7_object_174 cbX3_answer vwRX7_137 rfl eb32 rfl (Nat.le_of_ble_eq_true rfl) (Nat.le_of_ble_eq_true rfl) (c_X3_answer G b32 r3 h31 r33 er33) ?_
                    refine g_aload (M := mX7_object) dX7_object_177 0 rfl ?_
                    obtain ⟨v34, ev34, hf⟩ := bd hf
                    refine g_getI (M := mX7_object) dX7_object_179 flRX7_86 (fun _ => rfl) ev34 ?_
                    cases hf
                    exact g_ret (M := mX7_object) dX7_object_182 rfl
                  · replace hf := iff_ hf q127
                    refine g_bipush (M := mX7_object) (v := -4) dX7_object_130 rfl ?_
                    cases hf
                    exact g_weak (M := mX7_object) (Nat.zero_le _) (Nat.zero_le _) (g_ret (M := mX7_object) dX7_object_132 rfl)
                · replace hf := iff_ hf q114
                  refine g_bipush (M := mX7_object) (v := -3) dX7_object_117 rfl ?_
                  cases hf
                  exact g_weak (M := mX7_object) (Nat.zero_le _) (Nat.zero_le _) (g_ret (M := mX7_object) dX7_object_119 rfl)
              · replace hf := iff_ hf q90
                refine g_bipush (M := mX7_object) (v := -7) dX7_object_93 rfl ?_
                cases hf
                exact g_weak (M := mX7_object) (Nat.zero_le _) (Nat.zero_le _) (g_ret (M := mX7_object) dX7_object_95 rfl)
            · replace hf := ift hf q73
              refine g_bipush (M := mX7_object) (v := -6) dX7_object_76 rfl ?_
              cases hf
              exact g_weak (M := mX7_object) (Nat.zero_le _) (Nat.zero_le _) (g_ret (M := mX7_object) dX7_object_78 rfl)
          · replace hf := iff_ hf q50
            refine g_bipush (M := mX7_object) (v := -8) dX7_object_53 rfl ?_
            cases hf
            exact g_weak (M := mX7_object) (Nat.zero_le _) (Nat.zero_le _) (g_ret (M := mX7_object) dX7_object_55 rfl)
        · replace hf := ift hf q37
          refine g_bipush (M := mX7_object) (v := -2) dX7_object_40 rfl ?_
          cases hf
          exact g_weak (M := mX7_object) (Nat.zero_le _) (Nat.zero_le _) (g_ret (M := mX7_object) dX7_object_42 rfl)
theorem c_X7_object (G : Gm) (a0 : Nat) (a1 : Int32) (a2 : Int32) (a3 : Int32) (h : AH) (o : (Int32 × AH)) (hf : f_X7_object a0 a1 a2 a3 h = some o) : CT G yX7_object mX7_object (some .int) 1 15 [vr (some a0), vi a1, vi a2, vi a3] h (some (vi o.1)) o.2 :=
  CT.int (by decide +kernel) rfl rfl rfl (Nat.le_of_ble_eq_true rfl) (x_X7_object G a0 a1 a2 a3 h o hf)
theorem cbX7_object : CB yX7_object mX7_object (some .int) 3 := ⟨cd_yX7_object, itRX7, ⟨by decide, by decide⟩, by decide +kernel, by decide⟩
abbrev mX7_withdraw : MI := (RX7, "withdraw", cX7_withdraw, 6, .ireturn, 3)
def f_X7_withdraw_95 (a0 : Nat) (a1 : Int32) (a3 : Option Nat) (h : AH) : Option (Int32 × AH) :=
  (gR 3 12 h a3).bind fun v1 =>
  if v1 = none then (
    (gR 7 1 h (some a0)).bind fun v2 =>
    (gR 3 3 h a3).bind fun v3 =>
    (gI 7 6 h (some a0)).bind fun v4 =>
    (gI 7 6 h (some a0)).bind fun v5 =>
    (gR 3 3 h a3).bind fun v6 =>
    (gI 0 2 h v6).bind fun v7 =>
    (ck 4 h v2).bind fun b8 =>
    (f_X4_lodge b8 (5 : Int32) a1 v3 v4 (v5 + v7) h).bind fun r9 =>
    (ck 3 r9.2 r9.1).bind fun b10 =>
    (f_X3_end b10 a3 r9.2).bind fun r11 =>
    (gI 3 0 r11 r9.1).bind fun v12 =>
    some (v12, r11)
  ) else (
    some ((-4 : Int32), h)
  )
theorem x_X7_withdraw_95 (G : Gm) (a0 : Nat) (a1 : Int32) (a3 : Option Nat) (h : AH) (o : (Int32 × AH)) (hf : f_X7_withdraw_95 a0 a1 a3 h = some o) : GO G mX7_withdraw 1 15 95 [(0, vr (some a0)), (1, vi a1), (3, vr a3)] [] h (some (vi o.1)) o.2 := by
  unfold f_X7_withdraw_95 at hf
  refine g_aload_n (M := mX7_withdraw) dX7_withdraw_95 rfl 2 rfl ?_
  obtain ⟨v1, ev1, hf⟩ := bd hf
  refine g_getR (M := mX7_withdraw) dX7_withdraw_96 flRX7_144 (fun _ => rfl) ev1 ?_
  refine g_ifnull (M := mX7_withdraw) (tgt := 105) dX7_withdraw_99 rfl (fun q99 => ?_) (fun q99 => ?_)
  · replace hf := ift hf q99
    refine g_aload_n (M := mX7_withdraw) dX7_withdraw_105 rfl 0 rfl ?_
    obtain ⟨v2, ev2, hf⟩ := bd hf
    refine g_getR (M := mX7_withdraw) dX7_withdraw_106 flRX7_18 (fun _ => rfl) ev2 ?_
    refine g_iconst (M := mX7_withdraw) (v := 5) dX7_withdraw_109 rfl ?_
    refine g_iload_n (M := mX7_withdraw) dX7_withdraw_110 rfl 1 rfl ?_
    refine g_aload_n (M := mX7_withdraw) dX7_withdraw_111 rfl 2 rfl ?_
    obtain ⟨v3, ev3, hf⟩ := bd hf
    refine g_getR (M := mX7_withdraw) dX7_withdraw_112 flRX7_115 (fun _ => rfl) ev3 ?_
    refine g_aload_n (M := mX7_withdraw) dX7_withdraw_115 rfl 0 rfl ?_
    obtain ⟨v4, ev4, hf⟩ := bd hf
    refine g_getI (M := mX7_withdraw) dX7_withdraw_116 flRX7_67 (fun _ => rfl) ev4 ?_
    refine g_aload_n (M := mX7_withdraw) dX7_withdraw_119 rfl 0 rfl ?_
    obtain ⟨v5, ev5, hf⟩ := bd hf
    refine g_getI (M := mX7_withdraw) dX7_withdraw_120 flRX7_67 (fun _ => rfl) ev5 ?_
    refine g_aload_n (M := mX7_withdraw) dX7_withdraw_123 rfl 2 rfl ?_
    obtain ⟨v6, ev6, hf⟩ := bd hf
    refine g_getR (M := mX7_withdraw) dX7_withdraw_124 flRX7_115 (fun _ => rfl) ev6 ?_
    obtain ⟨v7, ev7, hf⟩ := bd hf
    refine g_getI (M := mX7_withdraw) dX7_withdraw_127 flRX7_95 (fun _ => rfl) ev7 ?_
    refine g_iadd (M := mX7_withdraw) dX7_withdraw_130 ?_
    obtain ⟨b8, eb8, hf⟩ := bd hf
    obtain ⟨r9, er9, hf⟩ := bd hf
    refine g_callV (M := mX7_withdraw) (kc := 0) (ks := 0) (as := [vi (5 : Int32), vi a1, vr v3, vi v4, vi (v5 + v7)]) (rest := []) dX7_withdraw_131 cbX4_lodge vwRX7_82 rfl eb8 rfl (Nat.le_of_ble_eq_true rfl) (Nat.le_of_ble_eq_true rfl) (c_X4_lodge G b8 (5 : Int32) a1 v3 v4 (v5 + v7) h r9 er9) ?_
    refine g_astore (M := mX7_withdraw) (L2 := [(5, vr r9.1), (0, vr (some a0)), (1, vi a1), (3, vr a3)]) dX7_withdraw_134 (Nat.le_of_ble_eq_true rfl) rfl ?_
    refine g_aload (M := mX7_withdraw) dX7_withdraw_136 0 rfl ?_
    refine g_aload_n (M := mX7_withdraw) dX7_withdraw_138 rfl 3 rfl ?_
    obtain ⟨b10, eb10, hf⟩ := bd hf
    obtain ⟨r11, er11, hf⟩ := bd hf
    refine g_callV (M := mX7_withdraw) (kc := 0) (ks := 0) (as := [vr a3]) (rest := []) dX7_withdraw_139 cbX3_end vwRX7_147 rfl eb10 rfl (Nat.le_of_ble_eq_true rfl) (Nat.le_of_ble_eq_true rfl) (c_X3_end G b10 a3 r9.2 r11 er11) ?_
    refine g_aload (M := mX7_withdraw) dX7_withdraw_142 0 rfl ?_
    obtain ⟨v12, ev12, hf⟩ := bd hf
    refine g_getI (M := mX7_withdraw) dX7_withdraw_144 flRX7_86 (fun _ => rfl) ev12 ?_
    cases hf
    exact g_ret (M := mX7_withdraw) dX7_withdraw_147 rfl
  · replace hf := iff_ hf q99
    refine g_bipush (M := mX7_withdraw) (v := -4) dX7_withdraw_102 rfl ?_
    cases hf
    exact g_weak (M := mX7_withdraw) (Nat.zero_le _) (Nat.zero_le _) (g_ret (M := mX7_withdraw) dX7_withdraw_104 rfl)
def f_X7_withdraw (a0 : Nat) (a1 : Int32) (a2 : Int32) (h : AH) : Option (Int32 × AH) :=
  (gR 7 1 h (some a0)).bind fun v13 =>
  (ck 4 h v13).bind fun b14 =>
  (f_X4_at b14 a2 h).bind fun r15 =>
  (ck 7 h (some a0)).bind fun b16 =>
  (f_X7_isParty b16 a1 h).bind fun r17 =>
  if (b2i r17) = 0 then (
    some ((-2 : Int32), h)
  ) else (
    if r15 = none then (
      some ((-2 : Int32), h)
    ) else (
      (ck 3 h r15).bind fun b18 =>
      (f_X3_isWithdrawable b18 h).bind fun r19 =>
      if (b2i r19) = 0 then (
        some ((-2 : Int32), h)
      ) else (
        (gR 3 3 h r15).bind fun v20 =>
        if v20 = none then (
          some ((-2 : Int32), h)
        ) else (
          (gR 7 1 h (some a0)).bind fun v21 =>
          (ck 4 h v21).bind fun b22 =>
          (f_X4_isFull b22 h).bind fun r23 =>
          if (b2i r23) = 0 then (
            (gR 7 1 h (some a0)).bind fun v24 =>
            (gR 3 3 h r15).bind fun v25 =>
            (ck 4 h v24).bind fun b26 =>
            (f_X4_belonging b26 a1 v25 h).bind fun r27 =>
            if r27 = none then (
              some ((-6 : Int32), h)
            ) else (
              if r15 = r27 then (
                f_X7_withdraw_95 a0 a1 r15 h
              ) else (
                (gI 7 6 h (some a0)).bind fun v28 =>
                (ck 3 h r15).bind fun b29 =>
                (f_X3_isHeldBy b29 r27 v28 h).bind fun r30 =>
                if (b2i r30) = 0 then (
                  some ((-7 : Int32), h)
                ) else (
                  f_X7_withdraw_95 a0 a1 r15 h
                )
              )
            )
          ) else (
            some ((-8 : Int32), h)
          )
        )
      )
    )
  )
theorem x_X7_withdraw (G : Gm) (a0 : Nat) (a1 : Int32) (a2 : Int32) (h : AH) (o : (Int32 × AH)) (hf : f_X7_withdraw a0 a1 a2 h = some o) : GO G mX7_withdraw 1 15 0 [(0, vr (some a0)), (1, vi a1), (2, vi a2)] [] h (some (vi o.1)) o.2 := by
  unfold f_X7_withdraw at hf
  refine g_aload_n (M := mX7_withdraw) dX7_withdraw_0 rfl 0 rfl ?_
  obtain ⟨v13, ev13, hf⟩ := bd hf
  refine g_getR (M := mX7_withdraw) dX7_withdraw_1 flRX7_18 (fun _ => rfl) ev13 ?_
  refine g_iload_n (M := mX7_withdraw) dX7_withdraw_4 rfl 2 rfl ?_
  obtain ⟨b14, eb14, hf⟩ := bd hf
  obtain ⟨r15, er15, hf⟩ := bd hf
  refine g_callV (M := mX7_withdraw) (kc := 1) (ks := 15) (as := [vi a2]) (rest := []) dX7_withdraw_5 cbX4_at vwRX7_108 rfl eb14 rfl (Nat.le_of_ble_eq_true rfl) (Nat.le_of_ble_eq_true rfl) (c_X4_at G b14 a2 h r15 er15) ?_
  refine g_astore_n (M := mX7_withdraw) (L2 := [(3, vr r15), (0, vr (some a0)), (1, vi a1), (2, vi a2)]) dX7_withdraw_8 rfl (Nat.le_of_ble_eq_true rfl) rfl ?_
  refine g_aload_n (M := mX7_withdraw) dX7_withdraw_9 rfl 1 rfl ?_
  refine g_iload_n (M := mX7_withdraw) dX7_withdraw_10 rfl 2 rfl ?_
  obtain ⟨b16, eb16, hf⟩ := bd hf
  obtain ⟨r17, er17, hf⟩ := bd hf
  refine g_callV (M := mX7_withdraw) (kc := 1) (ks := 15) (as := [vi a1]) (rest := []) dX7_withdraw_11 cbX7_isParty vwRX7_71 rfl eb16 rfl (Nat.le_of_ble_eq_true rfl) (Nat.le_of_ble_eq_true rfl) (c_X7_isParty G b16 a1 h r17 er17) ?_
  refine g_if_eq (M := mX7_withdraw) (tgt := 35) dX7_withdraw_14 rfl (fun q14 => ?_) (fun q14 => ?_)
  · replace hf := ift hf q14
    refine g_bipush (M := mX7_withdraw) (v := -2) dX7_withdraw_35 rfl ?_
    cases hf
    exact g_weak (M := mX7_withdraw) (Nat.zero_le _) (Nat.zero_le _) (g_ret (M := mX7_withdraw) dX7_withdraw_37 rfl)
  · replace hf := iff_ hf q14
    refine g_aload_n (M := mX7_withdraw) dX7_withdraw_17 rfl 0 rfl ?_
    refine g_ifnull (M := mX7_withdraw) (tgt := 35) dX7_withdraw_18 rfl (fun q18 => ?_) (fun q18 => ?_)
    · replace hf := ift hf q18
      refine g_bipush (M := mX7_withdraw) (v := -2) dX7_withdraw_35 rfl ?_
      cases hf
      exact g_weak (M := mX7_withdraw) (Nat.zero_le _) (Nat.zero_le _) (g_ret (M := mX7_withdraw) dX7_withdraw_37 rfl)
    · replace hf := iff_ hf q18
      refine g_aload_n (M := mX7_withdraw) dX7_withdraw_21 rfl 0 rfl ?_
      obtain ⟨b18, eb18, hf⟩ := bd hf
      obtain ⟨r19, er19, hf⟩ := bd hf
      refine g_callV (M := mX7_withdraw) (kc := 1) (ks := 15) (as := []) (rest := []) dX7_withdraw_22 cbX3_isWithdrawable vwRX7_141 rfl eb18 rfl (Nat.le_of_ble_eq_true rfl) (Nat.le_of_ble_eq_true rfl) (c_X3_isWithdrawable G b18 h r19 er19) ?_
      refine g_if_eq (M := mX7_withdraw) (tgt := 35) dX7_withdraw_25 rfl (fun q25 => ?_) (fun q25 => ?_)
      · replace hf := ift hf q25
        refine g_bipush (M := mX7_withdraw) (v := -2) dX7_withdraw_35 rfl ?_
        cases hf
        exact g_weak (M := mX7_withdraw) (Nat.zero_le _) (Nat.zero_le _) (g_ret (M := mX7_withdraw) dX7_withdraw_37 rfl)
      · replace hf := iff_ hf q25
        refine g_aload_n (M := mX7_withdraw) dX7_withdraw_28 rfl 0 rfl ?_
        obtain ⟨v20, ev20, hf⟩ := bd hf
        refine g_getR (M := mX7_withdraw) dX7_withdraw_29 flRX7_115 (fun _ => rfl) ev20 ?_
        refine g_ifnonnull (M := mX7_withdraw) (tgt := 38) dX7_withdraw_32 rfl (fun q32 => ?_) (fun q32 => ?_)
        · replace hf := iff_ hf q32
          refine g_aload_n (M := mX7_withdraw) dX7_withdraw_38 rfl 1 rfl ?_
          obtain ⟨v21, ev21, hf⟩ := bd hf
          refine g_getR (M := mX7_withdraw) dX7_withdraw_39 flRX7_18 (fun _ => rfl) ev21 ?_
          obtain ⟨b22, eb22, hf⟩ := bd hf
          obtain ⟨r23, er23, hf⟩ := bd hf
          refine g_callV (M := mX7_withdraw) (kc := 1) (ks := 15) (as := []) (rest := []) dX7_withdraw_42 cbX4_isFull vwRX7_74 rfl eb22 rfl (Nat.le_of_ble_eq_true rfl) (Nat.le_of_ble_eq_true rfl) (c_X4_isFull G b22 h r23 er23) ?_
          refine g_if_eq (M := mX7_withdraw) (tgt := 51) dX7_withdraw_45 rfl (fun q45 => ?_) (fun q45 => ?_)
          · replace hf := ift hf q45
            refine g_aload_n (M := mX7_withdraw) dX7_withdraw_51 rfl 1 rfl ?_
            obtain ⟨v24, ev24, hf⟩ := bd hf
            refine g_getR (M := mX7_withdraw) dX7_withdraw_52 flRX7_18 (fun _ => rfl) ev24 ?_
            refine g_iload_n (M := mX7_withdraw) dX7_withdraw_55 rfl 2 rfl ?_
            refine g_aload_n (M := mX7_withdraw) dX7_withdraw_56 rfl 0 rfl ?_
            obtain ⟨v25, ev25, hf⟩ := bd hf
            refine g_getR (M := mX7_withdraw) dX7_withdraw_57 flRX7_115 (fun _ => rfl) ev25 ?_
            obtain ⟨b26, eb26, hf⟩ := bd hf
            obtain ⟨r27, er27, hf⟩ := bd hf
            refine g_callV (M := mX7_withdraw) (kc := 1) (ks := 15) (as := [vi a1, vr v25]) (rest := []) dX7_withdraw_60 cbX4_belonging vwRX7_91 rfl eb26 rfl (Nat.le_of_ble_eq_true rfl) (Nat.le_of_ble_eq_true rfl) (c_X4_belonging G b26 a1 v25 h r27 er27) ?_
            refine g_astore (M := mX7_withdraw) (L2 := [(4, vr r27), (3, vr r15), (0, vr (some a0)), (1, vi a1), (2, vi a2)]) dX7_withdraw_63 (Nat.le_of_ble_eq_true rfl) rfl ?_
            refine g_aload (M := mX7_withdraw) dX7_withdraw_65 0 rfl ?_
            refine g_ifnonnull (M := mX7_withdraw) (tgt := 73) dX7_withdraw_67 rfl (fun q67 => ?_) (fun q67 => ?_)
            · replace hf := iff_ hf q67
              refine g_aload_n (M := mX7_withdraw) dX7_withdraw_73 rfl 1 rfl ?_
              refine g_aload (M := mX7_withdraw) dX7_withdraw_74 0 rfl ?_
              refine g_ac_eq (M := mX7_withdraw) (tgt := 95) dX7_withdraw_76 rfl (fun q76 => ?_) (fun q76 => ?_)
              · replace hf := ift hf q76
                exact g_sub (M := mX7_withdraw) (L2 := [(0, vr (some a0)), (1, vi a1), (3, vr r15)]) [2, 3, 1] rfl <| x_X7_withdraw_95 G a0 a1 r15 h _ hf
              · replace hf := iff_ hf q76
                refine g_aload_n (M := mX7_withdraw) dX7_withdraw_79 rfl 1 rfl ?_
                refine g_aload (M := mX7_withdraw) dX7_withdraw_80 0 rfl ?_
                refine g_aload_n (M := mX7_withdraw) dX7_withdraw_82 rfl 2 rfl ?_
                obtain ⟨v28, ev28, hf⟩ := bd hf
                refine g_getI (M := mX7_withdraw) dX7_withdraw_83 flRX7_67 (fun _ => rfl) ev28 ?_
                obtain ⟨b29, eb29, hf⟩ := bd hf
                obtain ⟨r30, er30, hf⟩ := bd hf
                refine g_callV (M := mX7_withdraw) (kc := 1) (ks := 15) (as := [vr r27, vi v28]) (rest := []) dX7_withdraw_86 cbX3_isHeldBy vwRX7_119 rfl eb29 rfl (Nat.le_of_ble_eq_true rfl) (Nat.le_of_ble_eq_true rfl) (c_X3_isHeldBy G b29 r27 v28 h r30 er30) ?_
                refine g_if_ne (M := mX7_withdraw) (tgt := 95) dX7_withdraw_89 rfl (fun q89 => ?_) (fun q89 => ?_)
                · replace hf := iff_ hf q89
                  exact g_sub (M := mX7_withdraw) (L2 := [(0, vr (some a0)), (1, vi a1), (3, vr r15)]) [2, 3, 1] rfl <| x_X7_withdraw_95 G a0 a1 r15 h _ hf
                · replace hf := ift hf q89
                  refine g_bipush (M := mX7_withdraw) (v := -7) dX7_withdraw_92 rfl ?_
                  cases hf
                  exact g_weak (M := mX7_withdraw) (Nat.zero_le _) (Nat.zero_le _) (g_ret (M := mX7_withdraw) dX7_withdraw_94 rfl)
            · replace hf := ift hf q67
              refine g_bipush (M := mX7_withdraw) (v := -6) dX7_withdraw_70 rfl ?_
              cases hf
              exact g_weak (M := mX7_withdraw) (Nat.zero_le _) (Nat.zero_le _) (g_ret (M := mX7_withdraw) dX7_withdraw_72 rfl)
          · replace hf := iff_ hf q45
            refine g_bipush (M := mX7_withdraw) (v := -8) dX7_withdraw_48 rfl ?_
            cases hf
            exact g_weak (M := mX7_withdraw) (Nat.zero_le _) (Nat.zero_le _) (g_ret (M := mX7_withdraw) dX7_withdraw_50 rfl)
        · replace hf := ift hf q32
          refine g_bipush (M := mX7_withdraw) (v := -2) dX7_withdraw_35 rfl ?_
          cases hf
          exact g_weak (M := mX7_withdraw) (Nat.zero_le _) (Nat.zero_le _) (g_ret (M := mX7_withdraw) dX7_withdraw_37 rfl)
theorem c_X7_withdraw (G : Gm) (a0 : Nat) (a1 : Int32) (a2 : Int32) (h : AH) (o : (Int32 × AH)) (hf : f_X7_withdraw a0 a1 a2 h = some o) : CT G yX7_withdraw mX7_withdraw (some .int) 1 15 [vr (some a0), vi a1, vi a2] h (some (vi o.1)) o.2 :=
  CT.int (by decide +kernel) rfl rfl rfl (Nat.le_of_ble_eq_true rfl) (x_X7_withdraw G a0 a1 a2 h o hf)
theorem cbX7_withdraw : CB yX7_withdraw mX7_withdraw (some .int) 2 := ⟨cd_yX7_withdraw, itRX7, ⟨by decide, by decide⟩, by decide +kernel, by decide⟩
abbrev mX7_change : MI := (RX7, "change", cX7_change, 8, .ireturn, 3)
def f_X7_change (a0 : Nat) (a1 : Int32) (a2 : Int32) (a3 : Int32) (a4 : Int32) (h : AH) : Option (Int32 × AH) :=
  (ck 7 h (some a0)).bind fun b1 =>
  (f_X7_agreementAt b1 a2 h).bind fun r2 =>
  (ck 7 h (some a0)).bind fun b3 =>
  (f_X7_isParty b3 a1 h).bind fun r4 =>
  if (b2i r4) = 0 then (
    some ((-2 : Int32), h)
  ) else (
    if r2 = none then (
      some ((-2 : Int32), h)
    ) else (
      (ck 0 h r2).bind fun b5 =>
      (f_X0_hasArticle b5 a3 h).bind fun r6 =>
      if (b2i r6) = 0 then (
        some ((-2 : Int32), h)
      ) else (
        (f_X7_isFrom (1 : Int32) (1000000 : Int32) a4 h).bind fun r7 =>
        if (b2i r7) = 0 then (
          some ((-2 : Int32), h)
        ) else (
          (gR 7 1 h (some a0)).bind fun v8 =>
          (ck 4 h v8).bind fun b9 =>
          (f_X4_isFull b9 h).bind fun r10 =>
          if (b2i r10) = 0 then (
            (gR 7 1 h (some a0)).bind fun v11 =>
            (ck 4 h v11).bind fun b12 =>
            (f_X4_belonging b12 a1 r2 h).bind fun r13 =>
            if r13 = none then (
              some ((-6 : Int32), h)
            ) else (
              (gR 7 1 h (some a0)).bind fun v14 =>
              (gI 7 6 h (some a0)).bind fun v15 =>
              (gI 7 6 h (some a0)).bind fun v16 =>
              (ck 4 h v14).bind fun b17 =>
              (f_X4_lodge b17 (6 : Int32) a1 r2 v15 v16 h).bind fun r18 =>
              (pR 3 7 r18.2 r18.1 r13).bind fun h19 =>
              (pI 3 8 h19 r18.1 a3).bind fun h20 =>
              (pI 3 9 h20 r18.1 a4).bind fun h21 =>
              (gI 3 0 h21 r18.1).bind fun v22 =>
              some (v22, h21)
            )
          ) else (
            some ((-8 : Int32), h)
          )
        )
      )
    )
  )
theorem x_X7_change (G : Gm) (a0 : Nat) (a1 : Int32) (a2 : Int32) (a3 : Int32) (a4 : Int32) (h : AH) (o : (Int32 × AH)) (hf : f_X7_change a0 a1 a2 a3 a4 h = some o) : GO G mX7_change 1 15 0 [(0, vr (some a0)), (1, vi a1), (2, vi a2), (3, vi a3), (4, vi a4)] [] h (some (vi o.1)) o.2 := by
  unfold f_X7_change at hf
  refine g_aload_n (M := mX7_change) dX7_change_0 rfl 0 rfl ?_
  refine g_iload_n (M := mX7_change) dX7_change_1 rfl 2 rfl ?_
  obtain ⟨b1, eb1, hf⟩ := bd hf
  obtain ⟨r2, er2, hf⟩ := bd hf
  refine g_callV (M := mX7_change) (kc := 1) (ks := 15) (as := [vi a2]) (rest := []) dX7_change_2 cbX7_agreementAt vwRX7_50 rfl eb1 rfl (Nat.le_of_ble_eq_true rfl) (Nat.le_of_ble_eq_true rfl) (c_X7_agreementAt G b1 a2 h r2 er2) ?_
  refine g_astore (M := mX7_change) (L2 := [(5, vr r2), (0, vr (some a0)), (1, vi a1), (2, vi a2), (3, vi a3), (4, vi a4)]) dX7_change_5 (Nat.le_of_ble_eq_true rfl) rfl ?_
  refine g_aload_n (M := mX7_change) dX7_change_7 rfl 1 rfl ?_
  refine g_iload_n (M := mX7_change) dX7_change_8 rfl 2 rfl ?_
  obtain ⟨b3, eb3, hf⟩ := bd hf
  obtain ⟨r4, er4, hf⟩ := bd hf
  refine g_callV (M := mX7_change) (kc := 1) (ks := 15) (as := [vi a1]) (rest := []) dX7_change_9 cbX7_isParty vwRX7_71 rfl eb3 rfl (Nat.le_of_ble_eq_true rfl) (Nat.le_of_ble_eq_true rfl) (c_X7_isParty G b3 a1 h r4 er4) ?_
  refine g_if_eq (M := mX7_change) (tgt := 40) dX7_change_12 rfl (fun q12 => ?_) (fun q12 => ?_)
  · replace hf := ift hf q12
    refine g_bipush (M := mX7_change) (v := -2) dX7_change_40 rfl ?_
    cases hf
    exact g_weak (M := mX7_change) (Nat.zero_le _) (Nat.zero_le _) (g_ret (M := mX7_change) dX7_change_42 rfl)
  · replace hf := iff_ hf q12
    refine g_aload (M := mX7_change) dX7_change_15 0 rfl ?_
    refine g_ifnull (M := mX7_change) (tgt := 40) dX7_change_17 rfl (fun q17 => ?_) (fun q17 => ?_)
    · replace hf := ift hf q17
      refine g_bipush (M := mX7_change) (v := -2) dX7_change_40 rfl ?_
      cases hf
      exact g_weak (M := mX7_change) (Nat.zero_le _) (Nat.zero_le _) (g_ret (M := mX7_change) dX7_change_42 rfl)
    · replace hf := iff_ hf q17
      refine g_aload (M := mX7_change) dX7_change_20 0 rfl ?_
      refine g_iload_n (M := mX7_change) dX7_change_22 rfl 4 rfl ?_
      obtain ⟨b5, eb5, hf⟩ := bd hf
      obtain ⟨r6, er6, hf⟩ := bd hf
      refine g_callV (M := mX7_change) (kc := 1) (ks := 15) (as := [vi a3]) (rest := []) dX7_change_23 cbX0_hasArticle vwRX7_54 rfl eb5 rfl (Nat.le_of_ble_eq_true rfl) (Nat.le_of_ble_eq_true rfl) (c_X0_hasArticle G b5 a3 h r6 er6) ?_
      refine g_if_eq (M := mX7_change) (tgt := 40) dX7_change_26 rfl (fun q26 => ?_) (fun q26 => ?_)
      · replace hf := ift hf q26
        refine g_bipush (M := mX7_change) (v := -2) dX7_change_40 rfl ?_
        cases hf
        exact g_weak (M := mX7_change) (Nat.zero_le _) (Nat.zero_le _) (g_ret (M := mX7_change) dX7_change_42 rfl)
      · replace hf := iff_ hf q26
        refine g_iconst (M := mX7_change) (v := 1) dX7_change_29 rfl ?_
        refine g_ldc (M := mX7_change) dX7_change_30 csRX7_58 ?_
        refine g_iload (M := mX7_change) dX7_change_32 5 rfl ?_
        obtain ⟨r7, er7, hf⟩ := bd hf
        refine g_callS (M := mX7_change) (kc := 1) (ks := 15) (as := [vi (1 : Int32), vi (1000000 : Int32), vi a4]) (rest := []) dX7_change_34 cbX7_isFrom mlRX7_43 st_yX7_isFrom rfl rfl (Nat.le_of_ble_eq_true rfl) (Nat.le_of_ble_eq_true rfl) (c_X7_isFrom G (1 : Int32) (1000000 : Int32) a4 h r7 er7) ?_
        refine g_if_ne (M := mX7_change) (tgt := 43) dX7_change_37 rfl (fun q37 => ?_) (fun q37 => ?_)
        · replace hf := iff_ hf q37
          refine g_aload_n (M := mX7_change) dX7_change_43 rfl 1 rfl ?_
          obtain ⟨v8, ev8, hf⟩ := bd hf
          refine g_getR (M := mX7_change) dX7_change_44 flRX7_18 (fun _ => rfl) ev8 ?_
          obtain ⟨b9, eb9, hf⟩ := bd hf
          obtain ⟨r10, er10, hf⟩ := bd hf
          refine g_callV (M := mX7_change) (kc := 1) (ks := 15) (as := []) (rest := []) dX7_change_47 cbX4_isFull vwRX7_74 rfl eb9 rfl (Nat.le_of_ble_eq_true rfl) (Nat.le_of_ble_eq_true rfl) (c_X4_isFull G b9 h r10 er10) ?_
          refine g_if_eq (M := mX7_change) (tgt := 56) dX7_change_50 rfl (fun q50 => ?_) (fun q50 => ?_)
          · replace hf := ift hf q50
            refine g_aload_n (M := mX7_change) dX7_change_56 rfl 1 rfl ?_
            obtain ⟨v11, ev11, hf⟩ := bd hf
            refine g_getR (M := mX7_change) dX7_change_57 flRX7_18 (fun _ => rfl) ev11 ?_
            refine g_iload_n (M := mX7_change) dX7_change_60 rfl 2 rfl ?_
            refine g_aload (M := mX7_change) dX7_change_61 0 rfl ?_
            obtain ⟨b12, eb12, hf⟩ := bd hf
            obtain ⟨r13, er13, hf⟩ := bd hf
            refine g_callV (M := mX7_change) (kc := 1) (ks := 15) (as := [vi a1, vr r2]) (rest := []) dX7_change_63 cbX4_belonging vwRX7_91 rfl eb12 rfl (Nat.le_of_ble_eq_true rfl) (Nat.le_of_ble_eq_true rfl) (c_X4_belonging G b12 a1 r2 h r13 er13) ?_
            refine g_astore (M := mX7_change) (L2 := [(6, vr r13), (5, vr r2), (0, vr (some a0)), (1, vi a1), (2, vi a2), (3, vi a3), (4, vi a4)]) dX7_change_66 (Nat.le_of_ble_eq_true rfl) rfl ?_
            refine g_aload (M := mX7_change) dX7_change_68 0 rfl ?_
            refine g_ifnonnull (M := mX7_change) (tgt := 76) dX7_change_70 rfl (fun q70 => ?_) (fun q70 => ?_)
            · replace hf := iff_ hf q70
              refine g_aload_n (M := mX7_change) dX7_change_76 rfl 2 rfl ?_
              obtain ⟨v14, ev14, hf⟩ := bd hf
              refine g_getR (M := mX7_change) dX7_change_77 flRX7_18 (fun _ => rfl) ev14 ?_
              refine g_bipush (M := mX7_change) (v := 6) dX7_change_80 rfl ?_
              refine g_iload_n (M := mX7_change) dX7_change_82 rfl 3 rfl ?_
              refine g_aload (M := mX7_change) dX7_change_83 1 rfl ?_
              refine g_aload_n (M := mX7_change) dX7_change_85 rfl 2 rfl ?_
              obtain ⟨v15, ev15, hf⟩ := bd hf
              refine g_getI (M := mX7_change) dX7_change_86 flRX7_67 (fun _ => rfl) ev15 ?_
              refine g_aload_n (M := mX7_change) dX7_change_89 rfl 2 rfl ?_
              obtain ⟨v16, ev16, hf⟩ := bd hf
              refine g_getI (M := mX7_change) dX7_change_90 flRX7_67 (fun _ => rfl) ev16 ?_
              obtain ⟨b17, eb17, hf⟩ := bd hf
              obtain ⟨r18, er18, hf⟩ := bd hf
              refine g_callV (M := mX7_change) (kc := 0) (ks := 0) (as := [vi (6 : Int32), vi a1, vr r2, vi v15, vi v16]) (rest := []) dX7_change_93 cbX4_lodge vwRX7_82 rfl eb17 rfl (Nat.le_of_ble_eq_true rfl) (Nat.le_of_ble_eq_true rfl) (c_X4_lodge G b17 (6 : Int32) a1 r2 v15 v16 h r18 er18) ?_
              refine g_astore (M := mX7_change) (L2 := [(7, vr r18.1), (6, vr r13), (5, vr r2), (0, vr (some a0)), (1, vi a1), (2, vi a2), (3, vi a3), (4, vi a4)]) dX7_change_96 (Nat.le_of_ble_eq_true rfl) rfl ?_
              refine g_aload (M := mX7_change) dX7_change_98 0 rfl ?_
              refine g_aload (M := mX7_change) dX7_change_100 1 rfl ?_
              obtain ⟨h19, eh19, hf⟩ := bd hf
              refine g_putR (M := mX7_change) dX7_change_102 flRX7_98 (Or.inl ⟨_, rfl⟩) eh19 ?_
              refine g_aload (M := mX7_change) dX7_change_105 0 rfl ?_
              refine g_iload_n (M := mX7_change) dX7_change_107 rfl 6 rfl ?_
              obtain ⟨h20, eh20, hf⟩ := bd hf
              refine g_putI (M := mX7_change) dX7_change_108 flRX7_102 rfl eh20 ?_
              refine g_aload (M := mX7_change) dX7_change_111 0 rfl ?_
              refine g_iload (M := mX7_change) dX7_change_113 7 rfl ?_
              obtain ⟨h21, eh21, hf⟩ := bd hf
              refine g_putI (M := mX7_change) dX7_change_115 flRX7_105 rfl eh21 ?_
              refine g_aload (M := mX7_change) dX7_change_118 0 rfl ?_
              obtain ⟨v22, ev22, hf⟩ := bd hf
              refine g_getI (M := mX7_change) dX7_change_120 flRX7_86 (fun _ => rfl) ev22 ?_
              cases hf
              exact g_ret (M := mX7_change) dX7_change_123 rfl
            · replace hf := ift hf q70
              refine g_bipush (M := mX7_change) (v := -6) dX7_change_73 rfl ?_
              cases hf
              exact g_weak (M := mX7_change) (Nat.zero_le _) (Nat.zero_le _) (g_ret (M := mX7_change) dX7_change_75 rfl)
          · replace hf := iff_ hf q50
            refine g_bipush (M := mX7_change) (v := -8) dX7_change_53 rfl ?_
            cases hf
            exact g_weak (M := mX7_change) (Nat.zero_le _) (Nat.zero_le _) (g_ret (M := mX7_change) dX7_change_55 rfl)
        · replace hf := ift hf q37
          refine g_bipush (M := mX7_change) (v := -2) dX7_change_40 rfl ?_
          cases hf
          exact g_weak (M := mX7_change) (Nat.zero_le _) (Nat.zero_le _) (g_ret (M := mX7_change) dX7_change_42 rfl)
theorem c_X7_change (G : Gm) (a0 : Nat) (a1 : Int32) (a2 : Int32) (a3 : Int32) (a4 : Int32) (h : AH) (o : (Int32 × AH)) (hf : f_X7_change a0 a1 a2 a3 a4 h = some o) : CT G yX7_change mX7_change (some .int) 1 15 [vr (some a0), vi a1, vi a2, vi a3, vi a4] h (some (vi o.1)) o.2 :=
  CT.int (by decide +kernel) rfl rfl rfl (Nat.le_of_ble_eq_true rfl) (x_X7_change G a0 a1 a2 a3 a4 h o hf)
theorem cbX7_change : CB yX7_change mX7_change (some .int) 4 := ⟨cd_yX7_change, itRX7, ⟨by decide, by decide⟩, by decide +kernel, by decide⟩
abbrev mX7_consent : MI := (RX7, "consent", cX7_consent, 6, .ireturn, 3)
def f_X7_consent (a0 : Nat) (a1 : Int32) (a2 : Int32) (h : AH) : Option (Int32 × AH) :=
  (gR 7 1 h (some a0)).bind fun v1 =>
  (ck 4 h v1).bind fun b2 =>
  (f_X4_at b2 a2 h).bind fun r3 =>
  (ck 7 h (some a0)).bind fun b4 =>
  (f_X7_isParty b4 a1 h).bind fun r5 =>
  if (b2i r5) = 0 then (
    some ((-2 : Int32), h)
  ) else (
    if r3 = none then (
      some ((-2 : Int32), h)
    ) else (
      (gI 3 1 h r3).bind fun v6 =>
      if v6 = (6 : Int32) then (
        (gR 3 3 h r3).bind fun v7 =>
        if v7 = none then (
          some ((-2 : Int32), h)
        ) else (
          (gR 7 1 h (some a0)).bind fun v8 =>
          (ck 4 h v8).bind fun b9 =>
          (f_X4_isFull b9 h).bind fun r10 =>
          if (b2i r10) = 0 then (
            (gR 7 1 h (some a0)).bind fun v11 =>
            (gR 3 3 h r3).bind fun v12 =>
            (ck 4 h v11).bind fun b13 =>
            (f_X4_belonging b13 a1 v12 h).bind fun r14 =>
            if r14 = none then (
              some ((-6 : Int32), h)
            ) else (
              (ck 3 h r3).bind fun b15 =>
              (f_X3_isAnsweredBy b15 r14 h).bind fun r16 =>
              if (b2i r16) = 0 then (
                (gR 7 1 h (some a0)).bind fun v17 =>
                (gR 3 3 h r3).bind fun v18 =>
                (gI 7 6 h (some a0)).bind fun v19 =>
                (gI 7 6 h (some a0)).bind fun v20 =>
                (gR 3 3 h r3).bind fun v21 =>
                (gI 0 2 h v21).bind fun v22 =>
                (ck 4 h v17).bind fun b23 =>
                (f_X4_lodge b23 (7 : Int32) a1 v18 v19 (v20 + v22) h).bind fun r24 =>
                (pR 3 7 r24.2 r24.1 r14).bind fun h25 =>
                (ck 3 h25 r24.1).bind fun b26 =>
                (f_X3_answer b26 r3 h25).bind fun r27 =>
                (gI 3 0 r27 r24.1).bind fun v28 =>
                some (v28, r27)
              ) else (
                some ((-4 : Int32), h)
              )
            )
          ) else (
            some ((-8 : Int32), h)
          )
        )
      ) else (
        some ((-2 : Int32), h)
      )
    )
  )
theorem x_X7_consent (G : Gm) (a0 : Nat) (a1 : Int32) (a2 : Int32) (h : AH) (o : (Int32 × AH)) (hf : f_X7_consent a0 a1 a2 h = some o) : GO G mX7_consent 1 15 0 [(0, vr (some a0)), (1, vi a1), (2, vi a2)] [] h (some (vi o.1)) o.2 := by
  unfold f_X7_consent at hf
  refine g_aload_n (M := mX7_consent) dX7_consent_0 rfl 0 rfl ?_
  obtain ⟨v1, ev1, hf⟩ := bd hf
  refine g_getR (M := mX7_consent) dX7_consent_1 flRX7_18 (fun _ => rfl) ev1 ?_
  refine g_iload_n (M := mX7_consent) dX7_consent_4 rfl 2 rfl ?_
  obtain ⟨b2, eb2, hf⟩ := bd hf
  obtain ⟨r3, er3, hf⟩ := bd hf
  refine g_callV (M := mX7_consent) (kc := 1) (ks := 15) (as := [vi a2]) (rest := []) dX7_consent_5 cbX4_at vwRX7_108 rfl eb2 rfl (Nat.le_of_ble_eq_true rfl) (Nat.le_of_ble_eq_true rfl) (c_X4_at G b2 a2 h r3 er3) ?_
  refine g_astore_n (M := mX7_consent) (L2 := [(3, vr r3), (0, vr (some a0)), (1, vi a1), (2, vi a2)]) dX7_consent_8 rfl (Nat.le_of_ble_eq_true rfl) rfl ?_
  refine g_aload_n (M := mX7_consent) dX7_consent_9 rfl 1 rfl ?_
  refine g_iload_n (M := mX7_consent) dX7_consent_10 rfl 2 rfl ?_
  obtain ⟨b4, eb4, hf⟩ := bd hf
  obtain ⟨r5, er5, hf⟩ := bd hf
  refine g_callV (M := mX7_consent) (kc := 1) (ks := 15) (as := [vi a1]) (rest := []) dX7_consent_11 cbX7_isParty vwRX7_71 rfl eb4 rfl (Nat.le_of_ble_eq_true rfl) (Nat.le_of_ble_eq_true rfl) (c_X7_isParty G b4 a1 h r5 er5) ?_
  refine g_if_eq (M := mX7_consent) (tgt := 37) dX7_consent_14 rfl (fun q14 => ?_) (fun q14 => ?_)
  · replace hf := ift hf q14
    refine g_bipush (M := mX7_consent) (v := -2) dX7_consent_37 rfl ?_
    cases hf
    exact g_weak (M := mX7_consent) (Nat.zero_le _) (Nat.zero_le _) (g_ret (M := mX7_consent) dX7_consent_39 rfl)
  · replace hf := iff_ hf q14
    refine g_aload_n (M := mX7_consent) dX7_consent_17 rfl 0 rfl ?_
    refine g_ifnull (M := mX7_consent) (tgt := 37) dX7_consent_18 rfl (fun q18 => ?_) (fun q18 => ?_)
    · replace hf := ift hf q18
      refine g_bipush (M := mX7_consent) (v := -2) dX7_consent_37 rfl ?_
      cases hf
      exact g_weak (M := mX7_consent) (Nat.zero_le _) (Nat.zero_le _) (g_ret (M := mX7_consent) dX7_consent_39 rfl)
    · replace hf := iff_ hf q18
      refine g_aload_n (M := mX7_consent) dX7_consent_21 rfl 0 rfl ?_
      obtain ⟨v6, ev6, hf⟩ := bd hf
      refine g_getI (M := mX7_consent) dX7_consent_22 flRX7_112 (fun _ => rfl) ev6 ?_
      refine g_bipush (M := mX7_consent) (v := 6) dX7_consent_25 rfl ?_
      refine g_ic_ne (M := mX7_consent) (tgt := 37) dX7_consent_27 rfl (fun q27 => ?_) (fun q27 => ?_)
      · replace hf := iff_ hf q27
        refine g_bipush (M := mX7_consent) (v := -2) dX7_consent_37 rfl ?_
        cases hf
        exact g_weak (M := mX7_consent) (Nat.zero_le _) (Nat.zero_le _) (g_ret (M := mX7_consent) dX7_consent_39 rfl)
      · replace hf := ift hf q27
        refine g_aload_n (M := mX7_consent) dX7_consent_30 rfl 0 rfl ?_
        obtain ⟨v7, ev7, hf⟩ := bd hf
        refine g_getR (M := mX7_consent) dX7_consent_31 flRX7_115 (fun _ => rfl) ev7 ?_
        refine g_ifnonnull (M := mX7_consent) (tgt := 40) dX7_consent_34 rfl (fun q34 => ?_) (fun q34 => ?_)
        · replace hf := iff_ hf q34
          refine g_aload_n (M := mX7_consent) dX7_consent_40 rfl 1 rfl ?_
          obtain ⟨v8, ev8, hf⟩ := bd hf
          refine g_getR (M := mX7_consent) dX7_consent_41 flRX7_18 (fun _ => rfl) ev8 ?_
          obtain ⟨b9, eb9, hf⟩ := bd hf
          obtain ⟨r10, er10, hf⟩ := bd hf
          refine g_callV (M := mX7_consent) (kc := 1) (ks := 15) (as := []) (rest := []) dX7_consent_44 cbX4_isFull vwRX7_74 rfl eb9 rfl (Nat.le_of_ble_eq_true rfl) (Nat.le_of_ble_eq_true rfl) (c_X4_isFull G b9 h r10 er10) ?_
          refine g_if_eq (M := mX7_consent) (tgt := 53) dX7_consent_47 rfl (fun q47 => ?_) (fun q47 => ?_)
          · replace hf := ift hf q47
            refine g_aload_n (M := mX7_consent) dX7_consent_53 rfl 1 rfl ?_
            obtain ⟨v11, ev11, hf⟩ := bd hf
            refine g_getR (M := mX7_consent) dX7_consent_54 flRX7_18 (fun _ => rfl) ev11 ?_
            refine g_iload_n (M := mX7_consent) dX7_consent_57 rfl 2 rfl ?_
            refine g_aload_n (M := mX7_consent) dX7_consent_58 rfl 0 rfl ?_
            obtain ⟨v12, ev12, hf⟩ := bd hf
            refine g_getR (M := mX7_consent) dX7_consent_59 flRX7_115 (fun _ => rfl) ev12 ?_
            obtain ⟨b13, eb13, hf⟩ := bd hf
            obtain ⟨r14, er14, hf⟩ := bd hf
            refine g_callV (M := mX7_consent) (kc := 1) (ks := 15) (as := [vi a1, vr v12]) (rest := []) dX7_consent_62 cbX4_belonging vwRX7_91 rfl eb13 rfl (Nat.le_of_ble_eq_true rfl) (Nat.le_of_ble_eq_true rfl) (c_X4_belonging G b13 a1 v12 h r14 er14) ?_
            refine g_astore (M := mX7_consent) (L2 := [(4, vr r14), (3, vr r3), (0, vr (some a0)), (1, vi a1), (2, vi a2)]) dX7_consent_65 (Nat.le_of_ble_eq_true rfl) rfl ?_
            refine g_aload (M := mX7_consent) dX7_consent_67 0 rfl ?_
            refine g_ifnonnull (M := mX7_consent) (tgt := 75) dX7_consent_69 rfl (fun q69 => ?_) (fun q69 => ?_)
            · replace hf := iff_ hf q69
              refine g_aload_n (M := mX7_consent) dX7_consent_75 rfl 1 rfl ?_
              refine g_aload (M := mX7_consent) dX7_consent_76 0 rfl ?_
              obtain ⟨b15, eb15, hf⟩ := bd hf
              obtain ⟨r16, er16, hf⟩ := bd hf
              refine g_callV (M := mX7_consent) (kc := 1) (ks := 15) (as := [vr r14]) (rest := []) dX7_consent_78 cbX3_isAnsweredBy vwRX7_129 rfl eb15 rfl (Nat.le_of_ble_eq_true rfl) (Nat.le_of_ble_eq_true rfl) (c_X3_isAnsweredBy G b15 r14 h r16 er16) ?_
              refine g_if_eq (M := mX7_consent) (tgt := 87) dX7_consent_81 rfl (fun q81 => ?_) (fun q81 => ?_)
              · replace hf := ift hf q81
                refine g_aload_n (M := mX7_consent) dX7_consent_87 rfl 2 rfl ?_
                obtain ⟨v17, ev17, hf⟩ := bd hf
                refine g_getR (M := mX7_consent) dX7_consent_88 flRX7_18 (fun _ => rfl) ev17 ?_
                refine g_bipush (M := mX7_consent) (v := 7) dX7_consent_91 rfl ?_
                refine g_iload_n (M := mX7_consent) dX7_consent_93 rfl 3 rfl ?_
                refine g_aload_n (M := mX7_consent) dX7_consent_94 rfl 1 rfl ?_
                obtain ⟨v18, ev18, hf⟩ := bd hf
                refine g_getR (M := mX7_consent) dX7_consent_95 flRX7_115 (fun _ => rfl) ev18 ?_
                refine g_aload_n (M := mX7_consent) dX7_consent_98 rfl 2 rfl ?_
                obtain ⟨v19, ev19, hf⟩ := bd hf
                refine g_getI (M := mX7_consent) dX7_consent_99 flRX7_67 (fun _ => rfl) ev19 ?_
                refine g_aload_n (M := mX7_consent) dX7_consent_102 rfl 2 rfl ?_
                obtain ⟨v20, ev20, hf⟩ := bd hf
                refine g_getI (M := mX7_consent) dX7_consent_103 flRX7_67 (fun _ => rfl) ev20 ?_
                refine g_aload_n (M := mX7_consent) dX7_consent_106 rfl 1 rfl ?_
                obtain ⟨v21, ev21, hf⟩ := bd hf
                refine g_getR (M := mX7_consent) dX7_consent_107 flRX7_115 (fun _ => rfl) ev21 ?_
                obtain ⟨v22, ev22, hf⟩ := bd hf
                refine g_getI (M := mX7_consent) dX7_consent_110 flRX7_95 (fun _ => rfl) ev22 ?_
                refine g_iadd (M := mX7_consent) dX7_consent_113 ?_
                obtain ⟨b23, eb23, hf⟩ := bd hf
                obtain ⟨r24, er24, hf⟩ := bd hf
                refine g_callV (M := mX7_consent) (kc := 0) (ks := 0) (as := [vi (7 : Int32), vi a1, vr v18, vi v19, vi (v20 + v22)]) (rest := []) dX7_consent_114 cbX4_lodge vwRX7_82 rfl eb23 rfl (Nat.le_of_ble_eq_true rfl) (Nat.le_of_ble_eq_true rfl) (c_X4_lodge G b23 (7 : Int32) a1 v18 v19 (v20 + v22) h r24 er24) ?_
                refine g_astore (M := mX7_consent) (L2 := [(5, vr r24.1), (4, vr r14), (3, vr r3), (0, vr (some a0)), (1, vi a1), (2, vi a2)]) dX7_consent_117 (Nat.le_of_ble_eq_true rfl) rfl ?_
                refine g_aload (M := mX7_consent) dX7_consent_119 0 rfl ?_
                refine g_aload (M := mX7_consent) dX7_consent_121 1 rfl ?_
                obtain ⟨h25, eh25, hf⟩ := bd hf
                refine g_putR (M := mX7_consent) dX7_consent_123 flRX7_98 (Or.inl ⟨_, rfl⟩) eh25 ?_
                refine g_aload (M := mX7_consent) dX7_consent_126 0 rfl ?_
                refine g_aload_n (M := mX7_consent) dX7_consent_128 rfl 2 rfl ?_
                obtain ⟨b26, eb26, hf⟩ := bd hf
                obtain ⟨r27, er27, hf⟩ := bd hf
                refine g_callV (M := mX7_consent) (kc := 0) (ks := 0) (as := [vr r3]) (rest := []) dX7_consent_129 cbX3_answer vwRX7_137 rfl eb26 rfl (Nat.le_of_ble_eq_true rfl) (Nat.le_of_ble_eq_true rfl) (c_X3_answer G b26 r3 h25 r27 er27) ?_
                refine g_aload (M := mX7_consent) dX7_consent_132 0 rfl ?_
                obtain ⟨v28, ev28, hf⟩ := bd hf
                refine g_getI (M := mX7_consent) dX7_consent_134 flRX7_86 (fun _ => rfl) ev28 ?_
                cases hf
                exact g_ret (M := mX7_consent) dX7_consent_137 rfl
              · replace hf := iff_ hf q81
                refine g_bipush (M := mX7_consent) (v := -4) dX7_consent_84 rfl ?_
                cases hf
                exact g_weak (M := mX7_consent) (Nat.zero_le _) (Nat.zero_le _) (g_ret (M := mX7_consent) dX7_consent_86 rfl)
            · replace hf := ift hf q69
              refine g_bipush (M := mX7_consent) (v := -6) dX7_consent_72 rfl ?_
              cases hf
              exact g_weak (M := mX7_consent) (Nat.zero_le _) (Nat.zero_le _) (g_ret (M := mX7_consent) dX7_consent_74 rfl)
          · replace hf := iff_ hf q47
            refine g_bipush (M := mX7_consent) (v := -8) dX7_consent_50 rfl ?_
            cases hf
            exact g_weak (M := mX7_consent) (Nat.zero_le _) (Nat.zero_le _) (g_ret (M := mX7_consent) dX7_consent_52 rfl)
        · replace hf := ift hf q34
          refine g_bipush (M := mX7_consent) (v := -2) dX7_consent_37 rfl ?_
          cases hf
          exact g_weak (M := mX7_consent) (Nat.zero_le _) (Nat.zero_le _) (g_ret (M := mX7_consent) dX7_consent_39 rfl)
theorem c_X7_consent (G : Gm) (a0 : Nat) (a1 : Int32) (a2 : Int32) (h : AH) (o : (Int32 × AH)) (hf : f_X7_consent a0 a1 a2 h = some o) : CT G yX7_consent mX7_consent (some .int) 1 15 [vr (some a0), vi a1, vi a2] h (some (vi o.1)) o.2 :=
  CT.int (by decide +kernel) rfl rfl rfl (Nat.le_of_ble_eq_true rfl) (x_X7_consent G a0 a1 a2 h o hf)
theorem cbX7_consent : CB yX7_consent mX7_consent (some .int) 2 := ⟨cd_yX7_consent, itRX7, ⟨by decide, by decide⟩, by decide +kernel, by decide⟩
abbrev mX7_follow : MI := (RX7, "follow", cX7_follow, 8, .ireturn, 3)
def f_X7_follow (a0 : Nat) (a1 : Int32) (a2 : Int32) (a3 : Int32) (a4 : Int32) (h : AH) : Option (Int32 × AH) :=
  (ck 7 h (some a0)).bind fun b1 =>
  (f_X7_agreementAt b1 a3 h).bind fun r2 =>
  (ck 7 h (some a0)).bind fun b3 =>
  (f_X7_isParty b3 a1 h).bind fun r4 =>
  if (b2i r4) = 0 then (
    some ((-2 : Int32), h)
  ) else (
    (ck 7 h (some a0)).bind fun b5 =>
    (f_X7_isParty b5 a2 h).bind fun r6 =>
    if (b2i r6) = 0 then (
      some ((-2 : Int32), h)
    ) else (
      if r2 = none then (
        some ((-2 : Int32), h)
      ) else (
        (gR 7 1 h (some a0)).bind fun v7 =>
        (ck 4 h v7).bind fun b8 =>
        (f_X4_isFull b8 h).bind fun r9 =>
        if (b2i r9) = 0 then (
          if a1 = a2 then (
            some ((-4 : Int32), h)
          ) else (
            (gR 7 1 h (some a0)).bind fun v10 =>
            (ck 4 h v10).bind fun b11 =>
            (f_X4_belonging b11 a1 r2 h).bind fun r12 =>
            if r12 = none then (
              (gR 7 1 h (some a0)).bind fun v13 =>
              (ck 4 h v13).bind fun b14 =>
              (f_X4_belonging b14 a2 r2 h).bind fun r15 =>
              if r15 = none then (
                some ((-6 : Int32), h)
              ) else (
                (gR 7 1 h (some a0)).bind fun v16 =>
                (gI 7 6 h (some a0)).bind fun v17 =>
                (gI 7 6 h (some a0)).bind fun v18 =>
                (gI 0 2 h r2).bind fun v19 =>
                (ck 4 h v16).bind fun b20 =>
                (f_X4_lodge b20 (8 : Int32) a1 r2 v17 (v18 + v19) h).bind fun r21 =>
                (pZ 3 10 r21.2 r21.1 a4).bind fun h22 =>
                (ck 3 h22 r21.1).bind fun b23 =>
                (f_X3_end b23 r15 h22).bind fun r24 =>
                (gI 3 0 r24 r21.1).bind fun v25 =>
                some (v25, r24)
              )
            ) else (
              some ((-4 : Int32), h)
            )
          )
        ) else (
          some ((-8 : Int32), h)
        )
      )
    )
  )
theorem x_X7_follow (G : Gm) (a0 : Nat) (a1 : Int32) (a2 : Int32) (a3 : Int32) (a4 : Int32) (h : AH) (o : (Int32 × AH)) (hf : f_X7_follow a0 a1 a2 a3 a4 h = some o) : GO G mX7_follow 1 15 0 [(0, vr (some a0)), (1, vi a1), (2, vi a2), (3, vi a3), (4, vi a4)] [] h (some (vi o.1)) o.2 := by
  unfold f_X7_follow at hf
  refine g_aload_n (M := mX7_follow) dX7_follow_0 rfl 0 rfl ?_
  refine g_iload_n (M := mX7_follow) dX7_follow_1 rfl 3 rfl ?_
  obtain ⟨b1, eb1, hf⟩ := bd hf
  obtain ⟨r2, er2, hf⟩ := bd hf
  refine g_callV (M := mX7_follow) (kc := 1) (ks := 15) (as := [vi a3]) (rest := []) dX7_follow_2 cbX7_agreementAt vwRX7_50 rfl eb1 rfl (Nat.le_of_ble_eq_true rfl) (Nat.le_of_ble_eq_true rfl) (c_X7_agreementAt G b1 a3 h r2 er2) ?_
  refine g_astore (M := mX7_follow) (L2 := [(5, vr r2), (0, vr (some a0)), (1, vi a1), (2, vi a2), (3, vi a3), (4, vi a4)]) dX7_follow_5 (Nat.le_of_ble_eq_true rfl) rfl ?_
  refine g_aload_n (M := mX7_follow) dX7_follow_7 rfl 1 rfl ?_
  refine g_iload_n (M := mX7_follow) dX7_follow_8 rfl 2 rfl ?_
  obtain ⟨b3, eb3, hf⟩ := bd hf
  obtain ⟨r4, er4, hf⟩ := bd hf
  refine g_callV (M := mX7_follow) (kc := 1) (ks := 15) (as := [vi a1]) (rest := []) dX7_follow_9 cbX7_isParty vwRX7_71 rfl eb3 rfl (Nat.le_of_ble_eq_true rfl) (Nat.le_of_ble_eq_true rfl) (c_X7_isParty G b3 a1 h r4 er4) ?_
  refine g_if_eq (M := mX7_follow) (tgt := 28) dX7_follow_12 rfl (fun q12 => ?_) (fun q12 => ?_)
  · replace hf := ift hf q12
    refine g_bipush (M := mX7_follow) (v := -2) dX7_follow_28 rfl ?_
    cases hf
    exact g_weak (M := mX7_follow) (Nat.zero_le _) (Nat.zero_le _) (g_ret (M := mX7_follow) dX7_follow_30 rfl)
  · replace hf := iff_ hf q12
    refine g_aload_n (M := mX7_follow) dX7_follow_15 rfl 1 rfl ?_
    refine g_iload_n (M := mX7_follow) dX7_follow_16 rfl 3 rfl ?_
    obtain ⟨b5, eb5, hf⟩ := bd hf
    obtain ⟨r6, er6, hf⟩ := bd hf
    refine g_callV (M := mX7_follow) (kc := 1) (ks := 15) (as := [vi a2]) (rest := []) dX7_follow_17 cbX7_isParty vwRX7_71 rfl eb5 rfl (Nat.le_of_ble_eq_true rfl) (Nat.le_of_ble_eq_true rfl) (c_X7_isParty G b5 a2 h r6 er6) ?_
    refine g_if_eq (M := mX7_follow) (tgt := 28) dX7_follow_20 rfl (fun q20 => ?_) (fun q20 => ?_)
    · replace hf := ift hf q20
      refine g_bipush (M := mX7_follow) (v := -2) dX7_follow_28 rfl ?_
      cases hf
      exact g_weak (M := mX7_follow) (Nat.zero_le _) (Nat.zero_le _) (g_ret (M := mX7_follow) dX7_follow_30 rfl)
    · replace hf := iff_ hf q20
      refine g_aload (M := mX7_follow) dX7_follow_23 0 rfl ?_
      refine g_ifnonnull (M := mX7_follow) (tgt := 31) dX7_follow_25 rfl (fun q25 => ?_) (fun q25 => ?_)
      · replace hf := iff_ hf q25
        refine g_aload_n (M := mX7_follow) dX7_follow_31 rfl 1 rfl ?_
        obtain ⟨v7, ev7, hf⟩ := bd hf
        refine g_getR (M := mX7_follow) dX7_follow_32 flRX7_18 (fun _ => rfl) ev7 ?_
        obtain ⟨b8, eb8, hf⟩ := bd hf
        obtain ⟨r9, er9, hf⟩ := bd hf
        refine g_callV (M := mX7_follow) (kc := 1) (ks := 15) (as := []) (rest := []) dX7_follow_35 cbX4_isFull vwRX7_74 rfl eb8 rfl (Nat.le_of_ble_eq_true rfl) (Nat.le_of_ble_eq_true rfl) (c_X4_isFull G b8 h r9 er9) ?_
        refine g_if_eq (M := mX7_follow) (tgt := 44) dX7_follow_38 rfl (fun q38 => ?_) (fun q38 => ?_)
        · replace hf := ift hf q38
          refine g_iload_n (M := mX7_follow) dX7_follow_44 rfl 2 rfl ?_
          refine g_iload_n (M := mX7_follow) dX7_follow_45 rfl 3 rfl ?_
          refine g_ic_eq (M := mX7_follow) (tgt := 62) dX7_follow_46 rfl (fun q46 => ?_) (fun q46 => ?_)
          · replace hf := ift hf q46
            refine g_bipush (M := mX7_follow) (v := -4) dX7_follow_62 rfl ?_
            cases hf
            exact g_weak (M := mX7_follow) (Nat.zero_le _) (Nat.zero_le _) (g_ret (M := mX7_follow) dX7_follow_64 rfl)
          · replace hf := iff_ hf q46
            refine g_aload_n (M := mX7_follow) dX7_follow_49 rfl 1 rfl ?_
            obtain ⟨v10, ev10, hf⟩ := bd hf
            refine g_getR (M := mX7_follow) dX7_follow_50 flRX7_18 (fun _ => rfl) ev10 ?_
            refine g_iload_n (M := mX7_follow) dX7_follow_53 rfl 2 rfl ?_
            refine g_aload (M := mX7_follow) dX7_follow_54 0 rfl ?_
            obtain ⟨b11, eb11, hf⟩ := bd hf
            obtain ⟨r12, er12, hf⟩ := bd hf
            refine g_callV (M := mX7_follow) (kc := 1) (ks := 15) (as := [vi a1, vr r2]) (rest := []) dX7_follow_56 cbX4_belonging vwRX7_91 rfl eb11 rfl (Nat.le_of_ble_eq_true rfl) (Nat.le_of_ble_eq_true rfl) (c_X4_belonging G b11 a1 r2 h r12 er12) ?_
            refine g_ifnull (M := mX7_follow) (tgt := 65) dX7_follow_59 rfl (fun q59 => ?_) (fun q59 => ?_)
            · replace hf := ift hf q59
              refine g_aload_n (M := mX7_follow) dX7_follow_65 rfl 1 rfl ?_
              obtain ⟨v13, ev13, hf⟩ := bd hf
              refine g_getR (M := mX7_follow) dX7_follow_66 flRX7_18 (fun _ => rfl) ev13 ?_
              refine g_iload_n (M := mX7_follow) dX7_follow_69 rfl 3 rfl ?_
              refine g_aload (M := mX7_follow) dX7_follow_70 0 rfl ?_
              obtain ⟨b14, eb14, hf⟩ := bd hf
              obtain ⟨r15, er15, hf⟩ := bd hf
              refine g_callV (M := mX7_follow) (kc := 1) (ks := 15) (as := [vi a2, vr r2]) (rest := []) dX7_follow_72 cbX4_belonging vwRX7_91 rfl eb14 rfl (Nat.le_of_ble_eq_true rfl) (Nat.le_of_ble_eq_true rfl) (c_X4_belonging G b14 a2 r2 h r15 er15) ?_
              refine g_astore (M := mX7_follow) (L2 := [(6, vr r15), (5, vr r2), (0, vr (some a0)), (1, vi a1), (2, vi a2), (3, vi a3), (4, vi a4)]) dX7_follow_75 (Nat.le_of_ble_eq_true rfl) rfl ?_
              refine g_aload (M := mX7_follow) dX7_follow_77 0 rfl ?_
              refine g_ifnonnull (M := mX7_follow) (tgt := 85) dX7_follow_79 rfl (fun q79 => ?_) (fun q79 => ?_)
              · replace hf := iff_ hf q79
                refine g_aload_n (M := mX7_follow) dX7_follow_85 rfl 2 rfl ?_
                obtain ⟨v16, ev16, hf⟩ := bd hf
                refine g_getR (M := mX7_follow) dX7_follow_86 flRX7_18 (fun _ => rfl) ev16 ?_
                refine g_bipush (M := mX7_follow) (v := 8) dX7_follow_89 rfl ?_
                refine g_iload_n (M := mX7_follow) dX7_follow_91 rfl 3 rfl ?_
                refine g_aload (M := mX7_follow) dX7_follow_92 1 rfl ?_
                refine g_aload_n (M := mX7_follow) dX7_follow_94 rfl 2 rfl ?_
                obtain ⟨v17, ev17, hf⟩ := bd hf
                refine g_getI (M := mX7_follow) dX7_follow_95 flRX7_67 (fun _ => rfl) ev17 ?_
                refine g_aload_n (M := mX7_follow) dX7_follow_98 rfl 2 rfl ?_
                obtain ⟨v18, ev18, hf⟩ := bd hf
                refine g_getI (M := mX7_follow) dX7_follow_99 flRX7_67 (fun _ => rfl) ev18 ?_
                refine g_aload (M := mX7_follow) dX7_follow_102 1 rfl ?_
                obtain ⟨v19, ev19, hf⟩ := bd hf
                refine g_getI (M := mX7_follow) dX7_follow_104 flRX7_95 (fun _ => rfl) ev19 ?_
                refine g_iadd (M := mX7_follow) dX7_follow_107 ?_
                obtain ⟨b20, eb20, hf⟩ := bd hf
                obtain ⟨r21, er21, hf⟩ := bd hf
                refine g_callV (M := mX7_follow) (kc := 0) (ks := 0) (as := [vi (8 : Int32), vi a1, vr r2, vi v17, vi (v18 + v19)]) (rest := []) dX7_follow_108 cbX4_lodge vwRX7_82 rfl eb20 rfl (Nat.le_of_ble_eq_true rfl) (Nat.le_of_ble_eq_true rfl) (c_X4_lodge G b20 (8 : Int32) a1 r2 v17 (v18 + v19) h r21 er21) ?_
                refine g_astore (M := mX7_follow) (L2 := [(7, vr r21.1), (6, vr r15), (5, vr r2), (0, vr (some a0)), (1, vi a1), (2, vi a2), (3, vi a3), (4, vi a4)]) dX7_follow_111 (Nat.le_of_ble_eq_true rfl) rfl ?_
                refine g_aload (M := mX7_follow) dX7_follow_113 0 rfl ?_
                refine g_iload (M := mX7_follow) dX7_follow_115 7 rfl ?_
                obtain ⟨h22, eh22, hf⟩ := bd hf
                refine g_putZ (M := mX7_follow) dX7_follow_117 flRX7_133 rfl eh22 ?_
                refine g_aload (M := mX7_follow) dX7_follow_120 0 rfl ?_
                refine g_aload (M := mX7_follow) dX7_follow_122 1 rfl ?_
                obtain ⟨b23, eb23, hf⟩ := bd hf
                obtain ⟨r24, er24, hf⟩ := bd hf
                refine g_callV (M := mX7_follow) (kc := 0) (ks := 0) (as := [vr r15]) (rest := []) dX7_follow_124 cbX3_end vwRX7_147 rfl eb23 rfl (Nat.le_of_ble_eq_true rfl) (Nat.le_of_ble_eq_true rfl) (c_X3_end G b23 r15 h22 r24 er24) ?_
                refine g_aload (M := mX7_follow) dX7_follow_127 0 rfl ?_
                obtain ⟨v25, ev25, hf⟩ := bd hf
                refine g_getI (M := mX7_follow) dX7_follow_129 flRX7_86 (fun _ => rfl) ev25 ?_
                cases hf
                exact g_ret (M := mX7_follow) dX7_follow_132 rfl
              · replace hf := ift hf q79
                refine g_bipush (M := mX7_follow) (v := -6) dX7_follow_82 rfl ?_
                cases hf
                exact g_weak (M := mX7_follow) (Nat.zero_le _) (Nat.zero_le _) (g_ret (M := mX7_follow) dX7_follow_84 rfl)
            · replace hf := iff_ hf q59
              refine g_bipush (M := mX7_follow) (v := -4) dX7_follow_62 rfl ?_
              cases hf
              exact g_weak (M := mX7_follow) (Nat.zero_le _) (Nat.zero_le _) (g_ret (M := mX7_follow) dX7_follow_64 rfl)
        · replace hf := iff_ hf q38
          refine g_bipush (M := mX7_follow) (v := -8) dX7_follow_41 rfl ?_
          cases hf
          exact g_weak (M := mX7_follow) (Nat.zero_le _) (Nat.zero_le _) (g_ret (M := mX7_follow) dX7_follow_43 rfl)
      · replace hf := ift hf q25
        refine g_bipush (M := mX7_follow) (v := -2) dX7_follow_28 rfl ?_
        cases hf
        exact g_weak (M := mX7_follow) (Nat.zero_le _) (Nat.zero_le _) (g_ret (M := mX7_follow) dX7_follow_30 rfl)
theorem c_X7_follow (G : Gm) (a0 : Nat) (a1 : Int32) (a2 : Int32) (a3 : Int32) (a4 : Int32) (h : AH) (o : (Int32 × AH)) (hf : f_X7_follow a0 a1 a2 a3 a4 h = some o) : CT G yX7_follow mX7_follow (some .int) 1 15 [vr (some a0), vi a1, vi a2, vi a3, vi a4] h (some (vi o.1)) o.2 :=
  CT.int (by decide +kernel) rfl rfl rfl (Nat.le_of_ble_eq_true rfl) (x_X7_follow G a0 a1 a2 a3 a4 h o hf)
theorem cbX7_follow : CB yX7_follow mX7_follow (some .int) 4 := ⟨cd_yX7_follow, itRX7, ⟨by decide, by decide⟩, by decide +kernel, by decide⟩
