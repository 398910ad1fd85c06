abbrev mX3_detail : MI := (RX3, "detail", cX3_detail, 2, .ireturn, 1)
def f_X3_detail (a0 : Nat) (a1 : Int32) (h : AH) : Option Int32 :=
  if a1 = 0 then (
    (gI 3 1 h (some a0)).bind fun v1 =>
    some v1
  ) else (
    if a1 = 1 then (
      (gI 3 2 h (some a0)).bind fun v2 =>
      some v2
    ) else (
      if a1 = 2 then (
        (gR 3 3 h (some a0)).bind fun v3 =>
        if v3 = none then (
          some (-1 : Int32)
        ) else (
          (gR 3 3 h (some a0)).bind fun v4 =>
          (gI 0 0 h v4).bind fun v5 =>
          some v5
        )
      ) else (
        if a1 = 3 then (
          (gI 3 4 h (some a0)).bind fun v6 =>
          some v6
        ) else (
          if a1 = 4 then (
            (gI 3 5 h (some a0)).bind fun v7 =>
            some v7
          ) else (
            if a1 = 5 then (
              (gR 3 6 h (some a0)).bind fun v8 =>
              (f_X7_numberOf v8 h).bind fun r9 =>
              some r9
            ) else (
              if a1 = 6 then (
                (gR 3 7 h (some a0)).bind fun v10 =>
                (f_X7_numberOf v10 h).bind fun r11 =>
                some r11
              ) else (
                if a1 = 7 then (
                  (gI 3 8 h (some a0)).bind fun v12 =>
                  some v12
                ) else (
                  if a1 = 8 then (
                    (gI 3 9 h (some a0)).bind fun v13 =>
                    some v13
                  ) else (
                    if a1 = 9 then (
                      (gI 3 10 h (some a0)).bind fun v14 =>
                      if v14 = 0 then (
                        some (0 : Int32)
                      ) else (
                        some (1 : Int32)
                      )
                    ) else (
                      some (-1 : Int32)
                    )
                  )
                )
              )
            )
          )
        )
      )
    )
  )
theorem x_X3_detail (G : Gm) (a0 : Nat) (a1 : Int32) (h : AH) (o : Int32) (hf : f_X3_detail a0 a1 h = some o) : GO G mX3_detail 0 0 0 [(0, vr (some a0)), (1, vi a1)] [] h (some (vi o)) h := by
  unfold f_X3_detail at hf
  refine g_iload_n (M := mX3_detail) dX3_detail_0 rfl 1 rfl ?_
  by_cases q1_0 : a1 = 0
  · replace hf := ift hf q1_0
    refine g_sw_in (M := mX3_detail) (off := 55) (tgt := 56) dX3_detail_1 (by rw [q1_0]; decide) (by rw [q1_0]; decide) (by rw [q1_0]; rfl) (by decide) ?_
    refine g_aload_n (M := mX3_detail) dX3_detail_56 rfl 0 rfl ?_
    obtain ⟨v1, ev1, hf⟩ := bd hf
    refine g_getI (M := mX3_detail) dX3_detail_57 flRX3_21 (fun _ => rfl) ev1 ?_
    cases hf
    exact g_ret (M := mX3_detail) dX3_detail_60 rfl
  · replace hf := iff_ hf q1_0
    by_cases q1_1 : a1 = 1
    · replace hf := ift hf q1_1
      refine g_sw_in (M := mX3_detail) (off := 60) (tgt := 61) dX3_detail_1 (by rw [q1_1]; decide) (by rw [q1_1]; decide) (by rw [q1_1]; rfl) (by decide) ?_
      refine g_aload_n (M := mX3_detail) dX3_detail_61 rfl 0 rfl ?_
      obtain ⟨v2, ev2, hf⟩ := bd hf
      refine g_getI (M := mX3_detail) dX3_detail_62 flRX3_24 (fun _ => rfl) ev2 ?_
      cases hf
      exact g_ret (M := mX3_detail) dX3_detail_65 rfl
    · replace hf := iff_ hf q1_1
      by_cases q1_2 : a1 = 2
      · replace hf := ift hf q1_2
        refine g_sw_in (M := mX3_detail) (off := 65) (tgt := 66) dX3_detail_1 (by rw [q1_2]; decide) (by rw [q1_2]; decide) (by rw [q1_2]; rfl) (by decide) ?_
        refine g_aload_n (M := mX3_detail) dX3_detail_66 rfl 0 rfl ?_
        obtain ⟨v3, ev3, hf⟩ := bd hf
        refine g_getR (M := mX3_detail) dX3_detail_67 flRX3_27 (fun _ => rfl) ev3 ?_
        refine g_ifnonnull (M := mX3_detail) (tgt := 77) dX3_detail_70 rfl (fun q70 => ?_) (fun q70 => ?_)
        · replace hf := iff_ hf q70
          refine g_aload_n (M := mX3_detail) dX3_detail_77 rfl 0 rfl ?_
          obtain ⟨v4, ev4, hf⟩ := bd hf
          refine g_getR (M := mX3_detail) dX3_detail_78 flRX3_27 (fun _ => rfl) ev4 ?_
          obtain ⟨v5, ev5, hf⟩ := bd hf
          refine g_getI (M := mX3_detail) dX3_detail_81 flRX3_65 (fun _ => rfl) ev5 ?_
          cases hf
          exact g_ret (M := mX3_detail) dX3_detail_84 rfl
        · replace hf := ift hf q70
          refine g_iconst (M := mX3_detail) (v := -1) dX3_detail_73 rfl ?_
          refine g_goto (M := mX3_detail) (tgt := 84) dX3_detail_74 rfl ?_
          cases hf
          exact g_ret (M := mX3_detail) dX3_detail_84 rfl
      · replace hf := iff_ hf q1_2
        by_cases q1_3 : a1 = 3
        · replace hf := ift hf q1_3
          refine g_sw_in (M := mX3_detail) (off := 84) (tgt := 85) dX3_detail_1 (by rw [q1_3]; decide) (by rw [q1_3]; decide) (by rw [q1_3]; rfl) (by decide) ?_
          refine g_aload_n (M := mX3_detail) dX3_detail_85 rfl 0 rfl ?_
          obtain ⟨v6, ev6, hf⟩ := bd hf
          refine g_getI (M := mX3_detail) dX3_detail_86 flRX3_31 (fun _ => rfl) ev6 ?_
          cases hf
          exact g_ret (M := mX3_detail) dX3_detail_89 rfl
        · replace hf := iff_ hf q1_3
          by_cases q1_4 : a1 = 4
          · replace hf := ift hf q1_4
            refine g_sw_in (M := mX3_detail) (off := 89) (tgt := 90) dX3_detail_1 (by rw [q1_4]; decide) (by rw [q1_4]; decide) (by rw [q1_4]; rfl) (by decide) ?_
            refine g_aload_n (M := mX3_detail) dX3_detail_90 rfl 0 rfl ?_
            obtain ⟨v7, ev7, hf⟩ := bd hf
            refine g_getI (M := mX3_detail) dX3_detail_91 flRX3_34 (fun _ => rfl) ev7 ?_
            cases hf
            exact g_ret (M := mX3_detail) dX3_detail_94 rfl
          · replace hf := iff_ hf q1_4
            by_cases q1_5 : a1 = 5
            · replace hf := ift hf q1_5
              refine g_sw_in (M := mX3_detail) (off := 94) (tgt := 95) dX3_detail_1 (by rw [q1_5]; decide) (by rw [q1_5]; decide) (by rw [q1_5]; rfl) (by decide) ?_
              refine g_aload_n (M := mX3_detail) dX3_detail_95 rfl 0 rfl ?_
              obtain ⟨v8, ev8, hf⟩ := bd hf
              refine g_getR (M := mX3_detail) dX3_detail_96 flRX3_41 (fun _ => rfl) ev8 ?_
              obtain ⟨r9, er9, hf⟩ := bd hf
              refine g_callN (M := mX3_detail) (kc := 0) (ks := 0) (as := [vr v8]) (rest := []) dX3_detail_99 rfl cbX7_numberOf st_yX7_numberOf rfl rfl (Nat.le_of_ble_eq_true rfl) (Nat.le_of_ble_eq_true rfl) (c_X7_numberOf G v8 h r9 er9) ?_
              cases hf
              exact g_ret (M := mX3_detail) dX3_detail_102 rfl
            · replace hf := iff_ hf q1_5
              by_cases q1_6 : a1 = 6
              · replace hf := ift hf q1_6
                refine g_sw_in (M := mX3_detail) (off := 102) (tgt := 103) dX3_detail_1 (by rw [q1_6]; decide) (by rw [q1_6]; decide) (by rw [q1_6]; rfl) (by decide) ?_
                refine g_aload_n (M := mX3_detail) dX3_detail_103 rfl 0 rfl ?_
                obtain ⟨v10, ev10, hf⟩ := bd hf
                refine g_getR (M := mX3_detail) dX3_detail_104 flRX3_54 (fun _ => rfl) ev10 ?_
                obtain ⟨r11, er11, hf⟩ := bd hf
                refine g_callN (M := mX3_detail) (kc := 0) (ks := 0) (as := [vr v10]) (rest := []) dX3_detail_107 rfl cbX7_numberOf st_yX7_numberOf rfl rfl (Nat.le_of_ble_eq_true rfl) (Nat.le_of_ble_eq_true rfl) (c_X7_numberOf G v10 h r11 er11) ?_
                cases hf
                exact g_ret (M := mX3_detail) dX3_detail_110 rfl
              · replace hf := iff_ hf q1_6
                by_cases q1_7 : a1 = 7
                · replace hf := ift hf q1_7
                  refine g_sw_in (M := mX3_detail) (off := 110) (tgt := 111) dX3_detail_1 (by rw [q1_7]; decide) (by rw [q1_7]; decide) (by rw [q1_7]; rfl) (by decide) ?_
                  refine g_aload_n (M := mX3_detail) dX3_detail_111 rfl 0 rfl ?_
                  obtain ⟨v12, ev12, hf⟩ := bd hf
                  refine g_getI (M := mX3_detail) dX3_detail_112 flRX3_9 (fun _ => rfl) ev12 ?_
                  cases hf
                  exact g_ret (M := mX3_detail) dX3_detail_115 rfl
                · replace hf := iff_ hf q1_7
                  by_cases q1_8 : a1 = 8
                  · replace hf := ift hf q1_8
                    refine g_sw_in (M := mX3_detail) (off := 115) (tgt := 116) dX3_detail_1 (by rw [q1_8]; decide) (by rw [q1_8]; decide) (by rw [q1_8]; rfl) (by decide) ?_
                    refine g_aload_n (M := mX3_detail) dX3_detail_116 rfl 0 rfl ?_
                    obtain ⟨v13, ev13, hf⟩ := bd hf
                    refine g_getI (M := mX3_detail) dX3_detail_117 flRX3_15 (fun _ => rfl) ev13 ?_
                    cases hf
                    exact g_ret (M := mX3_detail) dX3_detail_120 rfl
                  · replace hf := iff_ hf q1_8
                    by_cases q1_9 : a1 = 9
                    · replace hf := ift hf q1_9
                      refine g_sw_in (M := mX3_detail) (off := 120) (tgt := 121) dX3_detail_1 (by rw [q1_9]; decide) (by rw [q1_9]; decide) (by rw [q1_9]; rfl) (by decide) ?_
                      refine g_aload_n (M := mX3_detail) dX3_detail_121 rfl 0 rfl ?_
                      obtain ⟨v14, ev14, hf⟩ := bd hf
                      refine g_getI (M := mX3_detail) dX3_detail_122 flRX3_57 (fun _ => rfl) ev14 ?_
                      refine g_if_eq (M := mX3_detail) (tgt := 132) dX3_detail_125 rfl (fun q125 => ?_) (fun q125 => ?_)
                      · replace hf := ift hf q125
                        refine g_iconst (M := mX3_detail) (v := 0) dX3_detail_132 rfl ?_
                        cases hf
                        exact g_ret (M := mX3_detail) dX3_detail_133 rfl
                      · replace hf := iff_ hf q125
                        refine g_iconst (M := mX3_detail) (v := 1) dX3_detail_128 rfl ?_
                        refine g_goto (M := mX3_detail) (tgt := 133) dX3_detail_129 rfl ?_
                        cases hf
                        exact g_ret (M := mX3_detail) dX3_detail_133 rfl
                    · replace hf := iff_ hf q1_9
                      refine g_sw_out (M := mX3_detail) (tgt := 134) dX3_detail_1 (sw_def 10 ⟨q1_0, q1_1, q1_2, q1_3, q1_4, q1_5, q1_6, q1_7, q1_8, q1_9, trivial⟩) (by decide) ?_
                      refine g_iconst (M := mX3_detail) (v := -1) dX3_detail_134 rfl ?_
                      cases hf
                      exact g_ret (M := mX3_detail) dX3_detail_135 rfl
theorem c_X3_detail (G : Gm) (a0 : Nat) (a1 : Int32) (h : AH) (o : Int32) (hf : f_X3_detail a0 a1 h = some o) : CT G yX3_detail mX3_detail (some .int) 0 0 [vr (some a0), vi a1] h (some (vi o)) h :=
  CT.int (by decide +kernel) rfl rfl rfl (Nat.le_of_ble_eq_true rfl) (x_X3_detail G a0 a1 h o hf)
theorem cbX3_detail : CB yX3_detail mX3_detail (some .int) 1 := ⟨cd_yX3_detail, itRX3, ⟨by decide, by decide⟩, by decide +kernel, by decide⟩
abbrev mX4_init : MI := (RX4, "<init>", cX4_init, 1, .return_, 1)
def f_X4_init (a0 : Nat) (h : AH) : Option AH :=
  (na 13 400 h (400 : Int32)).bind fun h1 =>
  (pR 4 0 h1 (some a0) (some (hz h))).bind fun h2 =>
  some h2
theorem x_X4_init (G : Gm) (a0 : Nat) (h : AH) (o : AH) (hf : f_X4_init a0 h = some o) : GO G mX4_init 1 400 0 [(0, vr (some a0))] [] h none o := by
  unfold f_X4_init at hf
  refine g_aload_n (M := mX4_init) dX4_init_0 rfl 0 rfl ?_
  refine g_obj (M := mX4_init) dX4_init_1 mlRX4_3 im_objectInit cd_objectInit (Nat.le_of_ble_eq_true rfl) (by decide) ?_
  refine g_aload_n (M := mX4_init) dX4_init_4 rfl 0 rfl ?_
  refine g_sipush (M := mX4_init) (v := 400) dX4_init_5 rfl ?_
  obtain ⟨h1, eh1, hf⟩ := bd hf
  refine g_anew (M := mX4_init) (kc := 0) (ks := 0) (t := 13) (j := 3) (cn := RX3) rfl (Nat.le_of_ble_eq_true rfl) (fun _ => rfl) (fun _ z => z.2.2.2.1) dX4_init_8 clRX4_9 (Nat.le_of_ble_eq_true rfl) eh1 ?_
  obtain ⟨h2, eh2, hf⟩ := bd hf
  refine g_putRF (M := mX4_init) dX4_init_11 flRX4_11 rfl rfl (Or.inr ⟨_, rfl⟩) eh2 ?_
  cases hf
  exact g_ret (M := mX4_init) dX4_init_14 rfl
theorem c_X4_init (G : Gm) (a0 : Nat) (h : AH) (o : AH) (hf : f_X4_init a0 h = some o) : CT G yX4_init mX4_init none 1 400 [vr (some a0)] h none o :=
  CT.void (by decide +kernel) rfl rfl rfl (Nat.le_of_ble_eq_true rfl) (x_X4_init G a0 h o hf)
theorem cbX4_init : CB yX4_init mX4_init none 0 := ⟨cd_yX4_init, itRX4, ⟨by decide, by decide⟩, by decide +kernel, by decide⟩
abbrev mX4_isFull : MI := (RX4, "isFull", cX4_isFull, 1, .ireturn, 0)
def f_X4_isFull (a0 : Nat) (h : AH) : Option Bool :=
  (gI 4 1 h (some a0)).bind fun v1 =>
  (gR 4 0 h (some a0)).bind fun v2 =>
  (al h v2).bind fun v3 =>
  if v1 < v3 then (
    some false
  ) else (
    some true
  )
theorem x_X4_isFull (G : Gm) (a0 : Nat) (h : AH) (o : Bool) (hf : f_X4_isFull a0 h = some o) : GO G mX4_isFull 0 0 0 [(0, vr (some a0))] [] h (some (vi (b2i o))) h := by
  unfold f_X4_isFull at hf
  refine g_aload_n (M := mX4_isFull) dX4_isFull_0 rfl 0 rfl ?_
  obtain ⟨v1, ev1, hf⟩ := bd hf
  refine g_getI (M := mX4_isFull) dX4_isFull_1 flRX4_17 (fun _ => rfl) ev1 ?_
  refine g_aload_n (M := mX4_isFull) dX4_isFull_4 rfl 0 rfl ?_
  obtain ⟨v2, ev2, hf⟩ := bd hf
  refine g_getR (M := mX4_isFull) dX4_isFull_5 flRX4_11 (fun _ => rfl) ev2 ?_
  obtain ⟨v3, ev3, hf⟩ := bd hf
  refine g_alen (M := mX4_isFull) dX4_isFull_8 ev3 ?_
  refine g_ic_lt (M := mX4_isFull) (tgt := 16) dX4_isFull_9 rfl (fun q9 => ?_) (fun q9 => ?_)
  · replace hf := ift hf q9
    refine g_iconst (M := mX4_isFull) (v := 0) dX4_isFull_16 rfl ?_
    cases hf
    exact g_ret (M := mX4_isFull) dX4_isFull_17 rfl
  · replace hf := iff_ hf q9
    refine g_iconst (M := mX4_isFull) (v := 1) dX4_isFull_12 rfl ?_
    refine g_goto (M := mX4_isFull) (tgt := 17) dX4_isFull_13 rfl ?_
    cases hf
    exact g_ret (M := mX4_isFull) dX4_isFull_17 rfl
theorem c_X4_isFull (G : Gm) (a0 : Nat) (h : AH) (o : Bool) (hf : f_X4_isFull a0 h = some o) : CT G yX4_isFull mX4_isFull (some .boolean) 0 0 [vr (some a0)] h (some (vi (b2i o))) h :=
  CT.bool (by decide +kernel) rfl rfl rfl (Nat.le_of_ble_eq_true rfl) (b2i_01 _) (x_X4_isFull G a0 h o hf)
theorem cbX4_isFull : CB yX4_isFull mX4_isFull (some .boolean) 0 := ⟨cd_yX4_isFull, itRX4, ⟨by decide, by decide⟩, by decide +kernel, by decide⟩
abbrev mX4_lodge : MI := (RX4, "lodge", cX4_lodge, 7, .areturn, 2)
def f_X4_lodge (a0 : Nat) (a1 : Int32) (a2 : Int32) (a3 : Option Nat) (a4 : Int32) (a5 : Int32) (h : AH) : Option (Option Nat × AH) :=
  (gI 4 1 (nw h 3 0) (some a0)).bind fun v1 =>
  (f_X3_init (hz h) v1 a1 a2 a3 a4 a5 (nw h 3 0)).bind fun r2 =>
  (gI 4 1 r2 (some a0)).bind fun v3 =>
  if v3 < 0 then (
    some ((some (hz h)), r2)
  ) else (
    (gI 4 1 r2 (some a0)).bind fun v4 =>
    (gR 4 0 r2 (some a0)).bind fun v5 =>
    (al r2 v5).bind fun v6 =>
    if v6 ≤ v4 then (
      some ((some (hz h)), r2)
    ) else (
      (gR 4 0 r2 (some a0)).bind fun v7 =>
      (gI 4 1 r2 (some a0)).bind fun v8 =>
      (stR 13 3 r2 v7 v8 (some (hz h))).bind fun h9 =>
      (gI 4 1 h9 (some a0)).bind fun v10 =>
      (pI 4 1 h9 (some a0) (v10 + (1 : Int32))).bind fun h11 =>
      some ((some (hz h)), h11)
    )
  )
theorem x_X4_lodge (G : Gm) (a0 : Nat) (a1 : Int32) (a2 : Int32) (a3 : Option Nat) (a4 : Int32) (a5 : Int32) (h : AH) (o : (Option Nat × AH)) (hf : f_X4_lodge a0 a1 a2 a3 a4 a5 h = some o) : GO G mX4_lodge 1 15 0 [(0, vr (some a0)), (1, vi a1), (2, vi a2), (3, vr a3), (4, vi a4), (5, vi a5)] [] h (some (vr o.1)) o.2 := by
  unfold f_X4_lodge at hf
  refine g_new (M := mX4_lodge) (kc := 0) (ks := 0) dX4_lodge_0 ck3 clRX4_9 inRX3 itRX3 (by decide) ?_
  refine g_dup (M := mX4_lodge) dX4_lodge_3 rfl ?_
  refine g_aload_n (M := mX4_lodge) dX4_lodge_4 rfl 0 rfl ?_
  obtain ⟨v1, ev1, hf⟩ := bd hf
  refine g_getI (M := mX4_lodge) dX4_lodge_5 flRX4_17 (fun _ => rfl) ev1 ?_
  refine g_iload_n (M := mX4_lodge) dX4_lodge_8 rfl 1 rfl ?_
  refine g_iload_n (M := mX4_lodge) dX4_lodge_9 rfl 2 rfl ?_
  refine g_aload_n (M := mX4_lodge) dX4_lodge_10 rfl 3 rfl ?_
  refine g_iload (M := mX4_lodge) dX4_lodge_11 4 rfl ?_
  refine g_iload (M := mX4_lodge) dX4_lodge_13 5 rfl ?_
  obtain ⟨r2, er2, hf⟩ := bd hf
  refine g_callI (M := mX4_lodge) (kc := 0) (ks := 0) (as := [vi v1, vi a1, vi a2, vr a3, vi a4, vi a5]) (rest := [vr (some (hz h))]) (b := (hz h)) dX4_lodge_15 cbX3_init mlRX4_21 im_yX3_init rfl rfl rfl (Nat.le_of_ble_eq_true rfl) (Nat.le_of_ble_eq_true rfl) (c_X3_init G (hz h) v1 a1 a2 a3 a4 a5 (nw h 3 0) r2 er2) ?_
  refine g_astore (M := mX4_lodge) (L2 := [(6, vr (some (hz h))), (0, vr (some a0)), (1, vi a1), (2, vi a2), (3, vr a3), (4, vi a4), (5, vi a5)]) dX4_lodge_18 (Nat.le_of_ble_eq_true rfl) rfl ?_
  refine g_aload_n (M := mX4_lodge) dX4_lodge_20 rfl 1 rfl ?_
  obtain ⟨v3, ev3, hf⟩ := bd hf
  refine g_getI (M := mX4_lodge) dX4_lodge_21 flRX4_17 (fun _ => rfl) ev3 ?_
  refine g_if_lt (M := mX4_lodge) (tgt := 60) dX4_lodge_24 rfl (fun q24 => ?_) (fun q24 => ?_)
  · replace hf := ift hf q24
    refine g_aload (M := mX4_lodge) dX4_lodge_60 0 rfl ?_
    cases hf
    exact g_ret (M := mX4_lodge) dX4_lodge_62 rfl
  · replace hf := iff_ hf q24
    refine g_aload_n (M := mX4_lodge) dX4_lodge_27 rfl 1 rfl ?_
    obtain ⟨v4, ev4, hf⟩ := bd hf
    refine g_getI (M := mX4_lodge) dX4_lodge_28 flRX4_17 (fun _ => rfl) ev4 ?_
    refine g_aload_n (M := mX4_lodge) dX4_lodge_31 rfl 1 rfl ?_
    obtain ⟨v5, ev5, hf⟩ := bd hf
    refine g_getR (M := mX4_lodge) dX4_lodge_32 flRX4_11 (fun _ => rfl) ev5 ?_
    obtain ⟨v6, ev6, hf⟩ := bd hf
    refine g_alen (M := mX4_lodge) dX4_lodge_35 ev6 ?_
    refine g_ic_ge (M := mX4_lodge) (tgt := 60) dX4_lodge_36 rfl (fun q36 => ?_) (fun q36 => ?_)
    · replace hf := ift hf q36
      refine g_aload (M := mX4_lodge) dX4_lodge_60 0 rfl ?_
      cases hf
      exact g_ret (M := mX4_lodge) dX4_lodge_62 rfl
    · replace hf := iff_ hf q36
      refine g_aload_n (M := mX4_lodge) dX4_lodge_39 rfl 1 rfl ?_
      obtain ⟨v7, ev7, hf⟩ := bd hf
      refine g_getR (M := mX4_lodge) dX4_lodge_40 flRX4_11 (fun _ => rfl) ev7 ?_
      refine g_aload_n (M := mX4_lodge) dX4_lodge_43 rfl 1 rfl ?_
      obtain ⟨v8, ev8, hf⟩ := bd hf
      refine g_getI (M := mX4_lodge) dX4_lodge_44 flRX4_17 (fun _ => rfl) ev8 ?_
      refine g_aload (M := mX4_lodge) dX4_lodge_47 0 rfl ?_
      obtain ⟨h9, eh9, hf⟩ := bd hf
      refine g_aast (M := mX4_lodge) (t := 13) (j := 3) (ci := 3) (cn := RX3) (T := TX3) (N := 15) rfl rfl (Nat.le_of_ble_eq_true rfl) (Nat.le_of_ble_eq_true rfl) (fun _ => rfl) dX4_lodge_49 eh9 ?_
      refine g_aload_n (M := mX4_lodge) dX4_lodge_50 rfl 1 rfl ?_
      refine g_dup (M := mX4_lodge) dX4_lodge_51 rfl ?_
      obtain ⟨v10, ev10, hf⟩ := bd hf
      refine g_getI (M := mX4_lodge) dX4_lodge_52 flRX4_17 (fun _ => rfl) ev10 ?_
      refine g_iconst (M := mX4_lodge) (v := 1) dX4_lodge_55 rfl ?_
      refine g_iadd (M := mX4_lodge) dX4_lodge_56 ?_
      obtain ⟨h11, eh11, hf⟩ := bd hf
      refine g_putI (M := mX4_lodge) dX4_lodge_57 flRX4_17 rfl eh11 ?_
      refine g_aload (M := mX4_lodge) dX4_lodge_60 0 rfl ?_
      cases hf
      exact g_ret (M := mX4_lodge) dX4_lodge_62 rfl
theorem c_X4_lodge (G : Gm) (a0 : Nat) (a1 : Int32) (a2 : Int32) (a3 : Option Nat) (a4 : Int32) (a5 : Int32) (h : AH) (o : (Option Nat × AH)) (hf : f_X4_lodge a0 a1 a2 a3 a4 a5 h = some o) : CT G yX4_lodge mX4_lodge (some (.object RX3)) 1 15 [vr (some a0), vi a1, vi a2, vr a3, vi a4, vi a5] h (some (vr o.1)) o.2 :=
  CT.ref (by decide +kernel) rfl rfl rfl (Nat.le_of_ble_eq_true rfl) (x_X4_lodge G a0 a1 a2 a3 a4 a5 h o hf)
theorem cbX4_lodge : CB yX4_lodge mX4_lodge (some (.object RX3)) 5 := ⟨cd_yX4_lodge, itRX4, ⟨by decide, by decide⟩, by decide +kernel, by decide⟩
abbrev mX4_dropLatest : MI := (RX4, "dropLatest", cX4_dropLatest, 1, .return_, 0)
def f_X4_dropLatest (a0 : Nat) (h : AH) : Option AH :=
  (gI 4 1 h (some a0)).bind fun v1 =>
  if v1 ≤ 0 then (
    some h
  ) else (
    (gI 4 1 h (some a0)).bind fun v2 =>
    (gR 4 0 h (some a0)).bind fun v3 =>
    (al h v3).bind fun v4 =>
    if v4 < v2 then (
      some h
    ) else (
      (gI 4 1 h (some a0)).bind fun v5 =>
      (pI 4 1 h (some a0) (v5 - (1 : Int32))).bind fun h6 =>
      (gR 4 0 h6 (some a0)).bind fun v7 =>
      (gI 4 1 h6 (some a0)).bind fun v8 =>
      (stR 13 3 h6 v7 v8 none).bind fun h9 =>
      some h9
    )
  )
theorem x_X4_dropLatest (G : Gm) (a0 : Nat) (h : AH) (o : AH) (hf : f_X4_dropLatest a0 h = some o) : GO G mX4_dropLatest 0 0 0 [(0, vr (some a0))] [] h none o := by
  unfold f_X4_dropLatest at hf
  refine g_aload_n (M := mX4_dropLatest) dX4_dropLatest_0 rfl 0 rfl ?_
  obtain ⟨v1, ev1, hf⟩ := bd hf
  refine g_getI (M := mX4_dropLatest) dX4_dropLatest_1 flRX4_17 (fun _ => rfl) ev1 ?_
  refine g_if_le (M := mX4_dropLatest) (tgt := 39) dX4_dropLatest_4 rfl (fun q4 => ?_) (fun q4 => ?_)
  · replace hf := ift hf q4
    cases hf
    exact g_ret (M := mX4_dropLatest) dX4_dropLatest_39 rfl
  · replace hf := iff_ hf q4
    refine g_aload_n (M := mX4_dropLatest) dX4_dropLatest_7 rfl 0 rfl ?_
    obtain ⟨v2, ev2, hf⟩ := bd hf
    refine g_getI (M := mX4_dropLatest) dX4_dropLatest_8 flRX4_17 (fun _ => rfl) ev2 ?_
    refine g_aload_n (M := mX4_dropLatest) dX4_dropLatest_11 rfl 0 rfl ?_
    obtain ⟨v3, ev3, hf⟩ := bd hf
    refine g_getR (M := mX4_dropLatest) dX4_dropLatest_12 flRX4_11 (fun _ => rfl) ev3 ?_
    obtain ⟨v4, ev4, hf⟩ := bd hf
    refine g_alen (M := mX4_dropLatest) dX4_dropLatest_15 ev4 ?_
    refine g_ic_gt (M := mX4_dropLatest) (tgt := 39) dX4_dropLatest_16 rfl (fun q16 => ?_) (fun q16 => ?_)
    · replace hf := ift hf q16
      cases hf
      exact g_ret (M := mX4_dropLatest) dX4_dropLatest_39 rfl
    · replace hf := iff_ hf q16
      refine g_aload_n (M := mX4_dropLatest) dX4_dropLatest_19 rfl 0 rfl ?_
      refine g_dup (M := mX4_dropLatest) dX4_dropLatest_20 rfl ?_
      obtain ⟨v5, ev5, hf⟩ := bd hf
      refine g_getI (M := mX4_dropLatest) dX4_dropLatest_21 flRX4_17 (fun _ => rfl) ev5 ?_
      refine g_iconst (M := mX4_dropLatest) (v := 1) dX4_dropLatest_24 rfl ?_
      refine g_isub (M := mX4_dropLatest) dX4_dropLatest_25 ?_
      obtain ⟨h6, eh6, hf⟩ := bd hf
      refine g_putI (M := mX4_dropLatest) dX4_dropLatest_26 flRX4_17 rfl eh6 ?_
      refine g_aload_n (M := mX4_dropLatest) dX4_dropLatest_29 rfl 0 rfl ?_
      obtain ⟨v7, ev7, hf⟩ := bd hf
      refine g_getR (M := mX4_dropLatest) dX4_dropLatest_30 flRX4_11 (fun _ => rfl) ev7 ?_
      refine g_aload_n (M := mX4_dropLatest) dX4_dropLatest_33 rfl 0 rfl ?_
      obtain ⟨v8, ev8, hf⟩ := bd hf
      refine g_getI (M := mX4_dropLatest) dX4_dropLatest_34 flRX4_17 (fun _ => rfl) ev8 ?_
      refine g_null (M := mX4_dropLatest) dX4_dropLatest_37 ?_
      obtain ⟨h9, eh9, hf⟩ := bd hf
      refine g_aast (M := mX4_dropLatest) (t := 13) (j := 3) (ci := 3) (cn := RX3) (T := TX3) (N := 15) rfl rfl (Nat.le_of_ble_eq_true rfl) (Nat.le_of_ble_eq_true rfl) (fun _ => rfl) dX4_dropLatest_38 eh9 ?_
      cases hf
      exact g_ret (M := mX4_dropLatest) dX4_dropLatest_39 rfl
theorem c_X4_dropLatest (G : Gm) (a0 : Nat) (h : AH) (o : AH) (hf : f_X4_dropLatest a0 h = some o) : CT G yX4_dropLatest mX4_dropLatest none 0 0 [vr (some a0)] h none o :=
  CT.void (by decide +kernel) rfl rfl rfl (Nat.le_of_ble_eq_true rfl) (x_X4_dropLatest G a0 h o hf)
theorem cbX4_dropLatest : CB yX4_dropLatest mX4_dropLatest none 0 := ⟨cd_yX4_dropLatest, itRX4, ⟨by decide, by decide⟩, by decide +kernel, by decide⟩
abbrev mX4_hasAny : MI := (RX4, "hasAny", cX4_hasAny, 4, .ireturn, 1)
def f_X4_hasAny_2 : Nat → Nat → Option Nat → Int32 → AH → Option Bool
  | 0, _, _, _, _ => none
  | n + 1, a0, a1, a2, h =>
    (gI 4 1 h (some a0)).bind fun v1 =>
    if v1 ≤ a2 then (
      some false
    ) else (
      (ck 4 h (some a0)).bind fun b2 =>
      (f_X4_at b2 a2 h).bind fun r3 =>
      if r3 = none then (
        f_X4_hasAny_2 n a0 a1 (a2 + (1)) h
      ) else (
        (gR 3 3 h r3).bind fun v4 =>
        if v4 = a1 then (
          some true
        ) else (
          f_X4_hasAny_2 n a0 a1 (a2 + (1)) h
        )
      )
    )
theorem x_X4_hasAny_2 (G : Gm) : ∀ (n : Nat) (a0 : Nat) (a1 : Option Nat) (a2 : Int32) (h : AH) (o : Bool), f_X4_hasAny_2 n a0 a1 a2 h = some o → GO G mX4_hasAny 0 0 2 [(0, vr (some a0)), (1, vr a1), (2, vi a2)] [] h (some (vi (b2i o))) h := by
  intro n
  induction n with
  | zero => intro a0 a1 a2 h o hf; cases hf
  | succ n ih =>
    intro a0 a1 a2 h o hf
    rw [f_X4_hasAny_2] at hf
    refine g_iload_n (M := mX4_hasAny) dX4_hasAny_2 rfl 2 rfl ?_
    refine g_aload_n (M := mX4_hasAny) dX4_hasAny_3 rfl 0 rfl ?_
    obtain ⟨v1, ev1, hf⟩ := bd hf
    refine g_getI (M := mX4_hasAny) dX4_hasAny_4 flRX4_17 (fun _ => rfl) ev1 ?_
    refine g_ic_ge (M := mX4_hasAny) (tgt := 36) dX4_hasAny_7 rfl (fun q7 => ?_) (fun q7 => ?_)
    · replace hf := ift hf q7
      refine g_iconst (M := mX4_hasAny) (v := 0) dX4_hasAny_36 rfl ?_
      cases hf
      exact g_ret (M := mX4_hasAny) dX4_hasAny_37 rfl
    · replace hf := iff_ hf q7
      refine g_aload_n (M := mX4_hasAny) dX4_hasAny_10 rfl 0 rfl ?_
      refine g_iload_n (M := mX4_hasAny) dX4_hasAny_11 rfl 2 rfl ?_
      obtain ⟨b2, eb2, hf⟩ := bd hf
      obtain ⟨r3, er3, hf⟩ := bd hf
      refine g_callV (M := mX4_hasAny) (kc := 0) (ks := 0) (as := [vi a2]) (rest := []) dX4_hasAny_12 cbX4_at vwRX4_24 rfl eb2 rfl (Nat.le_of_ble_eq_true rfl) (Nat.le_of_ble_eq_true rfl) (c_X4_at G b2 a2 h r3 er3) ?_
      refine g_astore_n (M := mX4_hasAny) (L2 := [(3, vr r3), (0, vr (some a0)), (1, vr a1), (2, vi a2)]) dX4_hasAny_15 rfl (Nat.le_of_ble_eq_true rfl) rfl ?_
      refine g_aload_n (M := mX4_hasAny) dX4_hasAny_16 rfl 0 rfl ?_
      refine g_ifnull (M := mX4_hasAny) (tgt := 30) dX4_hasAny_17 rfl (fun q17 => ?_) (fun q17 => ?_)
      · replace hf := ift hf q17
        refine g_iinc (M := mX4_hasAny) (j := 3) (L2 := [(2, vi (a2 + (1))), (3, vr r3), (0, vr (some a0)), (1, vr a1)]) dX4_hasAny_30 rfl rfl (Nat.le_of_ble_eq_true rfl) rfl ?_
        refine g_goto (M := mX4_hasAny) (tgt := 2) dX4_hasAny_33 rfl ?_
        exact g_sub (M := mX4_hasAny) (L2 := [(0, vr (some a0)), (1, vr a1), (2, vi (a2 + (1)))]) [2, 3, 0] rfl <| ih a0 a1 (a2 + (1)) h _ hf
      · replace hf := iff_ hf q17
        refine g_aload_n (M := mX4_hasAny) dX4_hasAny_20 rfl 0 rfl ?_
        obtain ⟨v4, ev4, hf⟩ := bd hf
        refine g_getR (M := mX4_hasAny) dX4_hasAny_21 flRX4_28 (fun _ => rfl) ev4 ?_
        refine g_aload_n (M := mX4_hasAny) dX4_hasAny_24 rfl 2 rfl ?_
        refine g_ac_ne (M := mX4_hasAny) (tgt := 30) dX4_hasAny_25 rfl (fun q25 => ?_) (fun q25 => ?_)
        · replace hf := iff_ hf q25
          refine g_iinc (M := mX4_hasAny) (j := 3) (L2 := [(2, vi (a2 + (1))), (3, vr r3), (0, vr (some a0)), (1, vr a1)]) dX4_hasAny_30 rfl rfl (Nat.le_of_ble_eq_true rfl) rfl ?_
          refine g_goto (M := mX4_hasAny) (tgt := 2) dX4_hasAny_33 rfl ?_
          exact g_sub (M := mX4_hasAny) (L2 := [(0, vr (some a0)), (1, vr a1), (2, vi (a2 + (1)))]) [2, 3, 0] rfl <| ih a0 a1 (a2 + (1)) h _ hf
        · replace hf := ift hf q25
          refine g_iconst (M := mX4_hasAny) (v := 1) dX4_hasAny_28 rfl ?_
          cases hf
          exact g_ret (M := mX4_hasAny) dX4_hasAny_29 rfl
def f_X4_hasAny (a0 : Nat) (a1 : Option Nat) (h : AH) : Option Bool :=
  f_X4_hasAny_2 FU a0 a1 (0 : Int32) h
theorem x_X4_hasAny (G : Gm) (a0 : Nat) (a1 : Option Nat) (h : AH) (o : Bool) (hf : f_X4_hasAny a0 a1 h = some o) : GO G mX4_hasAny 0 0 0 [(0, vr (some a0)), (1, vr a1)] [] h (some (vi (b2i o))) h := by
  unfold f_X4_hasAny at hf
  refine g_iconst (M := mX4_hasAny) (v := 0) dX4_hasAny_0 rfl ?_
  refine g_istore_n (M := mX4_hasAny) (L2 := [(2, vi (0 : Int32)), (0, vr (some a0)), (1, vr a1)]) dX4_hasAny_1 rfl (Nat.le_of_ble_eq_true rfl) rfl ?_
  exact g_sub (M := mX4_hasAny) (L2 := [(0, vr (some a0)), (1, vr a1), (2, vi (0 : Int32))]) [1, 2, 0] rfl <| x_X4_hasAny_2 G FU a0 a1 (0 : Int32) h _ hf
theorem c_X4_hasAny (G : Gm) (a0 : Nat) (a1 : Option Nat) (h : AH) (o : Bool) (hf : f_X4_hasAny a0 a1 h = some o) : CT G yX4_hasAny mX4_hasAny (some .boolean) 0 0 [vr (some a0), vr a1] h (some (vi (b2i o))) h :=
  CT.bool (by decide +kernel) rfl rfl rfl (Nat.le_of_ble_eq_true rfl) (b2i_01 _) (x_X4_hasAny G a0 a1 h o hf)
theorem cbX4_hasAny : CB yX4_hasAny mX4_hasAny (some .boolean) 1 := ⟨cd_yX4_hasAny, itRX4, ⟨by decide, by decide⟩, by decide +kernel, by decide⟩
abbrev mX4_hasSign : MI := (RX4, "hasSign", cX4_hasSign, 5, .ireturn, 1)
def f_X4_hasSign_2 : Nat → Nat → Int32 → Option Nat → Int32 → AH → Option Bool
  | 0, _, _, _, _, _ => none
  | n + 1, a0, a1, a2, a3, h =>
    (gI 4 1 h (some a0)).bind fun v1 =>
    if v1 ≤ a3 then (
      some false
    ) else (
      (ck 4 h (some a0)).bind fun b2 =>
      (f_X4_at b2 a3 h).bind fun r3 =>
      if r3 = none then (
        f_X4_hasSign_2 n a0 a1 a2 (a3 + (1)) h
      ) else (
        (gI 3 1 h r3).bind fun v4 =>
        if v4 = 0 then (
          (gI 3 2 h r3).bind fun v5 =>
          if v5 = a1 then (
            (gR 3 3 h r3).bind fun v6 =>
            if v6 = a2 then (
              some true
            ) else (
              f_X4_hasSign_2 n a0 a1 a2 (a3 + (1)) h
            )
          ) else (
            f_X4_hasSign_2 n a0 a1 a2 (a3 + (1)) h
          )
        ) else (
          f_X4_hasSign_2 n a0 a1 a2 (a3 + (1)) h
        )
      )
    )
theorem x_X4_hasSign_2 (G : Gm) : ∀ (n : Nat) (a0 : Nat) (a1 : Int32) (a2 : Option Nat) (a3 : Int32) (h : AH) (o : Bool), f_X4_hasSign_2 n a0 a1 a2 a3 h = some o → GO G mX4_hasSign 0 0 2 [(0, vr (some a0)), (1, vi a1), (2, vr a2), (3, vi a3)] [] h (some (vi (b2i o))) h := by
  intro n
  induction n with
  | zero => intro a0 a1 a2 a3 h o hf; cases hf
  | succ n ih =>
    intro a0 a1 a2 a3 h o hf
    rw [f_X4_hasSign_2] at hf
    refine g_iload_n (M := mX4_hasSign) dX4_hasSign_2 rfl 3 rfl ?_
    refine g_aload_n (M := mX4_hasSign) dX4_hasSign_3 rfl 0 rfl ?_
    obtain ⟨v1, ev1, hf⟩ := bd hf
    refine g_getI (M := mX4_hasSign) dX4_hasSign_4 flRX4_17 (fun _ => rfl) ev1 ?_
    refine g_ic_ge (M := mX4_hasSign) (tgt := 56) dX4_hasSign_7 rfl (fun q7 => ?_) (fun q7 => ?_)
    · replace hf := ift hf q7
      refine g_iconst (M := mX4_hasSign) (v := 0) dX4_hasSign_56 rfl ?_
      cases hf
      exact g_ret (M := mX4_hasSign) dX4_hasSign_57 rfl
    · replace hf := iff_ hf q7
      refine g_aload_n (M := mX4_hasSign) dX4_hasSign_10 rfl 0 rfl ?_
      refine g_iload_n (M := mX4_hasSign) dX4_hasSign_11 rfl 3 rfl ?_
      obtain ⟨b2, eb2, hf⟩ := bd hf
      obtain ⟨r3, er3, hf⟩ := bd hf
      refine g_callV (M := mX4_hasSign) (kc := 0) (ks := 0) (as := [vi a3]) (rest := []) dX4_hasSign_12 cbX4_at vwRX4_24 rfl eb2 rfl (Nat.le_of_ble_eq_true rfl) (Nat.le_of_ble_eq_true rfl) (c_X4_at G b2 a3 h r3 er3) ?_
      refine g_astore (M := mX4_hasSign) (L2 := [(4, vr r3), (0, vr (some a0)), (1, vi a1), (2, vr a2), (3, vi a3)]) dX4_hasSign_15 (Nat.le_of_ble_eq_true rfl) rfl ?_
      refine g_aload (M := mX4_hasSign) dX4_hasSign_17 0 rfl ?_
      refine g_ifnull (M := mX4_hasSign) (tgt := 50) dX4_hasSign_19 rfl (fun q19 => ?_) (fun q19 => ?_)
      · replace hf := ift hf q19
        refine g_iinc (M := mX4_hasSign) (j := 4) (L2 := [(3, vi (a3 + (1))), (4, vr r3), (0, vr (some a0)), (1, vi a1), (2, vr a2)]) dX4_hasSign_50 rfl rfl (Nat.le_of_ble_eq_true rfl) rfl ?_
        refine g_goto (M := mX4_hasSign) (tgt := 2) dX4_hasSign_53 rfl ?_
        exact g_sub (M := mX4_hasSign) (L2 := [(0, vr (some a0)), (1, vi a1), (2, vr a2), (3, vi (a3 + (1)))]) [2, 3, 4, 0] rfl <| ih a0 a1 a2 (a3 + (1)) h _ hf
      · replace hf := iff_ hf q19
        refine g_aload (M := mX4_hasSign) dX4_hasSign_22 0 rfl ?_
        obtain ⟨v4, ev4, hf⟩ := bd hf
        refine g_getI (M := mX4_hasSign) dX4_hasSign_24 flRX4_32 (fun _ => rfl) ev4 ?_
        refine g_if_ne (M := mX4_hasSign) (tgt := 50) dX4_hasSign_27 rfl (fun q27 => ?_) (fun q27 => ?_)
        · replace hf := iff_ hf q27
          refine g_iinc (M := mX4_hasSign) (j := 4) (L2 := [(3, vi (a3 + (1))), (4, vr r3), (0, vr (some a0)), (1, vi a1), (2, vr a2)]) dX4_hasSign_50 rfl rfl (Nat.le_of_ble_eq_true rfl) rfl ?_
          refine g_goto (M := mX4_hasSign) (tgt := 2) dX4_hasSign_53 rfl ?_
          exact g_sub (M := mX4_hasSign) (L2 := [(0, vr (some a0)), (1, vi a1), (2, vr a2), (3, vi (a3 + (1)))]) [2, 3, 4, 0] rfl <| ih a0 a1 a2 (a3 + (1)) h _ hf
        · replace hf := ift hf q27
          refine g_aload (M := mX4_hasSign) dX4_hasSign_30 0 rfl ?_
          obtain ⟨v5, ev5, hf⟩ := bd hf
          refine g_getI (M := mX4_hasSign) dX4_hasSign_32 flRX4_35 (fun _ => rfl) ev5 ?_
          refine g_iload_n (M := mX4_hasSign) dX4_hasSign_35 rfl 2 rfl ?_
          refine g_ic_ne (M := mX4_hasSign) (tgt := 50) dX4_hasSign_36 rfl (fun q36 => ?_) (fun q36 => ?_)
          · replace hf := iff_ hf q36
            refine g_iinc (M := mX4_hasSign) (j := 4) (L2 := [(3, vi (a3 + (1))), (4, vr r3), (0, vr (some a0)), (1, vi a1), (2, vr a2)]) dX4_hasSign_50 rfl rfl (Nat.le_of_ble_eq_true rfl) rfl ?_
            refine g_goto (M := mX4_hasSign) (tgt := 2) dX4_hasSign_53 rfl ?_
            exact g_sub (M := mX4_hasSign) (L2 := [(0, vr (some a0)), (1, vi a1), (2, vr a2), (3, vi (a3 + (1)))]) [2, 3, 4, 0] rfl <| ih a0 a1 a2 (a3 + (1)) h _ hf
          · replace hf := ift hf q36
            refine g_aload (M := mX4_hasSign) dX4_hasSign_39 0 rfl ?_
            obtain ⟨v6, ev6, hf⟩ := bd hf
            refine g_getR (M := mX4_hasSign) dX4_hasSign_41 flRX4_28 (fun _ => rfl) ev6 ?_
            refine g_aload_n (M := mX4_hasSign) dX4_hasSign_44 rfl 3 rfl ?_
            refine g_ac_ne (M := mX4_hasSign) (tgt := 50) dX4_hasSign_45 rfl (fun q45 => ?_) (fun q45 => ?_)
            · replace hf := iff_ hf q45
              refine g_iinc (M := mX4_hasSign) (j := 4) (L2 := [(3, vi (a3 + (1))), (4, vr r3), (0, vr (some a0)), (1, vi a1), (2, vr a2)]) dX4_hasSign_50 rfl rfl (Nat.le_of_ble_eq_true rfl) rfl ?_
              refine g_goto (M := mX4_hasSign) (tgt := 2) dX4_hasSign_53 rfl ?_
              exact g_sub (M := mX4_hasSign) (L2 := [(0, vr (some a0)), (1, vi a1), (2, vr a2), (3, vi (a3 + (1)))]) [2, 3, 4, 0] rfl <| ih a0 a1 a2 (a3 + (1)) h _ hf
            · replace hf := ift hf q45
              refine g_iconst (M := mX4_hasSign) (v := 1) dX4_hasSign_48 rfl ?_
              cases hf
              exact g_ret (M := mX4_hasSign) dX4_hasSign_49 rfl
def f_X4_hasSign (a0 : Nat) (a1 : Int32) (a2 : Option Nat) (h : AH) : Option Bool :=
  f_X4_hasSign_2 FU a0 a1 a2 (0 : Int32) h
theorem x_X4_hasSign (G : Gm) (a0 : Nat) (a1 : Int32) (a2 : Option Nat) (h : AH) (o : Bool) (hf : f_X4_hasSign a0 a1 a2 h = some o) : GO G mX4_hasSign 0 0 0 [(0, vr (some a0)), (1, vi a1), (2, vr a2)] [] h (some (vi (b2i o))) h := by
  unfold f_X4_hasSign at hf
  refine g_iconst (M := mX4_hasSign) (v := 0) dX4_hasSign_0 rfl ?_
  refine g_istore_n (M := mX4_hasSign) (L2 := [(3, vi (0 : Int32)), (0, vr (some a0)), (1, vi a1), (2, vr a2)]) dX4_hasSign_1 rfl (Nat.le_of_ble_eq_true rfl) rfl ?_
  exact g_sub (M := mX4_hasSign) (L2 := [(0, vr (some a0)), (1, vi a1), (2, vr a2), (3, vi (0 : Int32))]) [1, 2, 3, 0] rfl <| x_X4_hasSign_2 G FU a0 a1 a2 (0 : Int32) h _ hf
theorem c_X4_hasSign (G : Gm) (a0 : Nat) (a1 : Int32) (a2 : Option Nat) (h : AH) (o : Bool) (hf : f_X4_hasSign a0 a1 a2 h = some o) : CT G yX4_hasSign mX4_hasSign (some .boolean) 0 0 [vr (some a0), vi a1, vr a2] h (some (vi (b2i o))) h :=
  CT.bool (by decide +kernel) rfl rfl rfl (Nat.le_of_ble_eq_true rfl) (b2i_01 _) (x_X4_hasSign G a0 a1 a2 h o hf)
theorem cbX4_hasSign : CB yX4_hasSign mX4_hasSign (some .boolean) 2 := ⟨cd_yX4_hasSign, itRX4, ⟨by decide, by decide⟩, by decide +kernel, by decide⟩
abbrev mX4_belonging : MI := (RX4, "belonging", cX4_belonging, 5, .areturn, 1)
def f_X4_belonging_7 : Nat → Nat → Int32 → Option Nat → Int32 → AH → Option (Option Nat)
  | 0, _, _, _, _, _ => none
  | n + 1, a0, a1, a2, a3, h =>
    if a3 < 0 then (
      some none
    ) else (
      (ck 4 h (some a0)).bind fun b1 =>
      (f_X4_at b1 a3 h).bind fun r2 =>
      if r2 = none then (
        f_X4_belonging_7 n a0 a1 a2 (a3 + (-1)) h
      ) else (
        (gI 3 2 h r2).bind fun v3 =>
        if v3 = a1 then (
          (gR 3 3 h r2).bind fun v4 =>
          if v4 = a2 then (
            (ck 3 h r2).bind fun b5 =>
            (f_X3_isMembership b5 h).bind fun r6 =>
            if (b2i r6) = 0 then (
              f_X4_belonging_7 n a0 a1 a2 (a3 + (-1)) h
            ) else (
              (gR 3 12 h r2).bind fun v7 =>
              if v7 = none then (
                some r2
              ) else (
                f_X4_belonging_7 n a0 a1 a2 (a3 + (-1)) h
              )
            )
          ) else (
            f_X4_belonging_7 n a0 a1 a2 (a3 + (-1)) h
          )
        ) else (
          f_X4_belonging_7 n a0 a1 a2 (a3 + (-1)) h
        )
      )
    )
theorem x_X4_belonging_7 (G : Gm) : ∀ (n : Nat) (a0 : Nat) (a1 : Int32) (a2 : Option Nat) (a3 : Int32) (h : AH) (o : (Option Nat)), f_X4_belonging_7 n a0 a1 a2 a3 h = some o → GO G mX4_belonging 0 0 7 [(0, vr (some a0)), (1, vi a1), (2, vr a2), (3, vi a3)] [] h (some (vr o)) h := by
  intro n
  induction n with
  | zero => intro a0 a1 a2 a3 h o hf; cases hf
  | succ n ih =>
    intro a0 a1 a2 a3 h o hf
    rw [f_X4_belonging_7] at hf
    refine g_iload_n (M := mX4_belonging) dX4_belonging_7 rfl 3 rfl ?_
    refine g_if_lt (M := mX4_belonging) (tgt := 66) dX4_belonging_8 rfl (fun q8 => ?_) (fun q8 => ?_)
    · replace hf := ift hf q8
      refine g_null (M := mX4_belonging) dX4_belonging_66 ?_
      cases hf
      exact g_ret (M := mX4_belonging) dX4_belonging_67 rfl
    · replace hf := iff_ hf q8
      refine g_aload_n (M := mX4_belonging) dX4_belonging_11 rfl 0 rfl ?_
      refine g_iload_n (M := mX4_belonging) dX4_belonging_12 rfl 3 rfl ?_
      obtain ⟨b1, eb1, hf⟩ := bd hf
      obtain ⟨r2, er2, hf⟩ := bd hf
      refine g_callV (M := mX4_belonging) (kc := 0) (ks := 0) (as := [vi a3]) (rest := []) dX4_belonging_13 cbX4_at vwRX4_24 rfl eb1 rfl (Nat.le_of_ble_eq_true rfl) (Nat.le_of_ble_eq_true rfl) (c_X4_at G b1 a3 h r2 er2) ?_
      refine g_astore (M := mX4_belonging) (L2 := [(4, vr r2), (0, vr (some a0)), (1, vi a1), (2, vr a2), (3, vi a3)]) dX4_belonging_16 (Nat.le_of_ble_eq_true rfl) rfl ?_
      refine g_aload (M := mX4_belonging) dX4_belonging_18 0 rfl ?_
      refine g_ifnull (M := mX4_belonging) (tgt := 60) dX4_belonging_20 rfl (fun q20 => ?_) (fun q20 => ?_)
      · replace hf := ift hf q20
        refine g_iinc (M := mX4_belonging) (j := 4) (L2 := [(3, vi (a3 + (-1))), (4, vr r2), (0, vr (some a0)), (1, vi a1), (2, vr a2)]) dX4_belonging_60 rfl rfl (Nat.le_of_ble_eq_true rfl) rfl ?_
        refine g_goto (M := mX4_belonging) (tgt := 7) dX4_belonging_63 rfl ?_
        exact g_sub (M := mX4_belonging) (L2 := [(0, vr (some a0)), (1, vi a1), (2, vr a2), (3, vi (a3 + (-1)))]) [2, 3, 4, 0] rfl <| ih a0 a1 a2 (a3 + (-1)) h _ hf
      · replace hf := iff_ hf q20
        refine g_aload (M := mX4_belonging) dX4_belonging_23 0 rfl ?_
        obtain ⟨v3, ev3, hf⟩ := bd hf
        refine g_getI (M := mX4_belonging) dX4_belonging_25 flRX4_35 (fun _ => rfl) ev3 ?_
        refine g_iload_n (M := mX4_belonging) dX4_belonging_28 rfl 2 rfl ?_
        refine g_ic_ne (M := mX4_belonging) (tgt := 60) dX4_belonging_29 rfl (fun q29 => ?_) (fun q29 => ?_)
        · replace hf := iff_ hf q29
          refine g_iinc (M := mX4_belonging) (j := 4) (L2 := [(3, vi (a3 + (-1))), (4, vr r2), (0, vr (some a0)), (1, vi a1), (2, vr a2)]) dX4_belonging_60 rfl rfl (Nat.le_of_ble_eq_true rfl) rfl ?_
          refine g_goto (M := mX4_belonging) (tgt := 7) dX4_belonging_63 rfl ?_
          exact g_sub (M := mX4_belonging) (L2 := [(0, vr (some a0)), (1, vi a1), (2, vr a2), (3, vi (a3 + (-1)))]) [2, 3, 4, 0] rfl <| ih a0 a1 a2 (a3 + (-1)) h _ hf
        · replace hf := ift hf q29
          refine g_aload (M := mX4_belonging) dX4_belonging_32 0 rfl ?_
          obtain ⟨v4, ev4, hf⟩ := bd hf
          refine g_getR (M := mX4_belonging) dX4_belonging_34 flRX4_28 (fun _ => rfl) ev4 ?_
          refine g_aload_n (M := mX4_belonging) dX4_belonging_37 rfl 3 rfl ?_
          refine g_ac_ne (M := mX4_belonging) (tgt := 60) dX4_belonging_38 rfl (fun q38 => ?_) (fun q38 => ?_)
          · replace hf := iff_ hf q38
            refine g_iinc (M := mX4_belonging) (j := 4) (L2 := [(3, vi (a3 + (-1))), (4, vr r2), (0, vr (some a0)), (1, vi a1), (2, vr a2)]) dX4_belonging_60 rfl rfl (Nat.le_of_ble_eq_true rfl) rfl ?_
            refine g_goto (M := mX4_belonging) (tgt := 7) dX4_belonging_63 rfl ?_
            exact g_sub (M := mX4_belonging) (L2 := [(0, vr (some a0)), (1, vi a1), (2, vr a2), (3, vi (a3 + (-1)))]) [2, 3, 4, 0] rfl <| ih a0 a1 a2 (a3 + (-1)) h _ hf
          · replace hf := ift hf q38
            refine g_aload (M := mX4_belonging) dX4_belonging_41 0 rfl ?_
            obtain ⟨b5, eb5, hf⟩ := bd hf
            obtain ⟨r6, er6, hf⟩ := bd hf
            refine g_callV (M := mX4_belonging) (kc := 0) (ks := 0) (as := []) (rest := []) dX4_belonging_43 cbX3_isMembership vwRX4_38 rfl eb5 rfl (Nat.le_of_ble_eq_true rfl) (Nat.le_of_ble_eq_true rfl) (c_X3_isMembership G b5 h r6 er6) ?_
            refine g_if_eq (M := mX4_belonging) (tgt := 60) dX4_belonging_46 rfl (fun q46 => ?_) (fun q46 => ?_)
            · replace hf := ift hf q46
              refine g_iinc (M := mX4_belonging) (j := 4) (L2 := [(3, vi (a3 + (-1))), (4, vr r2), (0, vr (some a0)), (1, vi a1), (2, vr a2)]) dX4_belonging_60 rfl rfl (Nat.le_of_ble_eq_true rfl) rfl ?_
              refine g_goto (M := mX4_belonging) (tgt := 7) dX4_belonging_63 rfl ?_
              exact g_sub (M := mX4_belonging) (L2 := [(0, vr (some a0)), (1, vi a1), (2, vr a2), (3, vi (a3 + (-1)))]) [2, 3, 4, 0] rfl <| ih a0 a1 a2 (a3 + (-1)) h _ hf
            · replace hf := iff_ hf q46
              refine g_aload (M := mX4_belonging) dX4_belonging_49 0 rfl ?_
              obtain ⟨v7, ev7, hf⟩ := bd hf
              refine g_getR (M := mX4_belonging) dX4_belonging_51 flRX4_42 (fun _ => rfl) ev7 ?_
              refine g_ifnonnull (M := mX4_belonging) (tgt := 60) dX4_belonging_54 rfl (fun q54 => ?_) (fun q54 => ?_)
              · replace hf := iff_ hf q54
                refine g_iinc (M := mX4_belonging) (j := 4) (L2 := [(3, vi (a3 + (-1))), (4, vr r2), (0, vr (some a0)), (1, vi a1), (2, vr a2)]) dX4_belonging_60 rfl rfl (Nat.le_of_ble_eq_true rfl) rfl ?_
                refine g_goto (M := mX4_belonging) (tgt := 7) dX4_belonging_63 rfl ?_
                exact g_sub (M := mX4_belonging) (L2 := [(0, vr (some a0)), (1, vi a1), (2, vr a2), (3, vi (a3 + (-1)))]) [2, 3, 4, 0] rfl <| ih a0 a1 a2 (a3 + (-1)) h _ hf
              · replace hf := ift hf q54
                refine g_aload (M := mX4_belonging) dX4_belonging_57 0 rfl ?_
                cases hf
                exact g_ret (M := mX4_belonging) dX4_belonging_59 rfl
def f_X4_belonging (a0 : Nat) (a1 : Int32) (a2 : Option Nat) (h : AH) : Option (Option Nat) :=
  (gI 4 1 h (some a0)).bind fun v8 =>
  f_X4_belonging_7 FU a0 a1 a2 (v8 - (1 : Int32)) h
theorem x_X4_belonging (G : Gm) (a0 : Nat) (a1 : Int32) (a2 : Option Nat) (h : AH) (o : (Option Nat)) (hf : f_X4_belonging a0 a1 a2 h = some o) : GO G mX4_belonging 0 0 0 [(0, vr (some a0)), (1, vi a1), (2, vr a2)] [] h (some (vr o)) h := by
  unfold f_X4_belonging at hf
  refine g_aload_n (M := mX4_belonging) dX4_belonging_0 rfl 0 rfl ?_
  obtain ⟨v8, ev8, hf⟩ := bd hf
  refine g_getI (M := mX4_belonging) dX4_belonging_1 flRX4_17 (fun _ => rfl) ev8 ?_
  refine g_iconst (M := mX4_belonging) (v := 1) dX4_belonging_4 rfl ?_
  refine g_isub (M := mX4_belonging) dX4_belonging_5 ?_
  refine g_istore_n (M := mX4_belonging) (L2 := [(3, vi (v8 - (1 : Int32))), (0, vr (some a0)), (1, vi a1), (2, vr a2)]) dX4_belonging_6 rfl (Nat.le_of_ble_eq_true rfl) rfl ?_
  exact g_sub (M := mX4_belonging) (L2 := [(0, vr (some a0)), (1, vi a1), (2, vr a2), (3, vi (v8 - (1 : Int32)))]) [1, 2, 3, 0] rfl <| x_X4_belonging_7 G FU a0 a1 a2 (v8 - (1 : Int32)) h _ hf
theorem c_X4_belonging (G : Gm) (a0 : Nat) (a1 : Int32) (a2 : Option Nat) (h : AH) (o : (Option Nat)) (hf : f_X4_belonging a0 a1 a2 h = some o) : CT G yX4_belonging mX4_belonging (some (.object RX3)) 0 0 [vr (some a0), vi a1, vr a2] h (some (vr o)) h :=
  CT.ref (by decide +kernel) rfl rfl rfl (Nat.le_of_ble_eq_true rfl) (x_X4_belonging G a0 a1 a2 h o hf)
theorem cbX4_belonging : CB yX4_belonging mX4_belonging (some (.object RX3)) 2 := ⟨cd_yX4_belonging, itRX4, ⟨by decide, by decide⟩, by decide +kernel, by decide⟩
abbrev mX4_latestEffect : MI := (RX4, "latestEffect", cX4_latestEffect, 6, .ireturn, 1)
def f_X4_latestEffect_5 : Nat → Nat → Option Nat → Int32 → Int32 → Int32 → AH → Option Int32
  | 0, _, _, _, _, _, _ => none
  | n + 1, a0, a1, a2, a3, a4, h =>
    (gI 4 1 h (some a0)).bind fun v1 =>
    if v1 ≤ a4 then (
      some a3
    ) else (
      (ck 4 h (some a0)).bind fun b2 =>
      (f_X4_at b2 a4 h).bind fun r3 =>
      if r3 = none then (
        f_X4_latestEffect_5 n a0 a1 a2 a3 (a4 + (1)) h
      ) else (
        (gR 3 3 h r3).bind fun v4 =>
        if v4 = a1 then (
          (gI 3 5 h r3).bind fun v5 =>
          if a2 < v5 then (
            f_X4_latestEffect_5 n a0 a1 a2 a3 (a4 + (1)) h
          ) else (
            (gI 3 5 h r3).bind fun v6 =>
            if v6 ≤ a3 then (
              f_X4_latestEffect_5 n a0 a1 a2 a3 (a4 + (1)) h
            ) else (
              (gI 3 5 h r3).bind fun v7 =>
              f_X4_latestEffect_5 n a0 a1 a2 v7 (a4 + (1)) h
            )
          )
        ) else (
          f_X4_latestEffect_5 n a0 a1 a2 a3 (a4 + (1)) h
        )
      )
    )
theorem x_X4_latestEffect_5 (G : Gm) : ∀ (n : Nat) (a0 : Nat) (a1 : Option Nat) (a2 : Int32) (a3 : Int32) (a4 : Int32) (h : AH) (o : Int32), f_X4_latestEffect_5 n a0 a1 a2 a3 a4 h = some o → GO G mX4_latestEffect 0 0 5 [(0, vr (some a0)), (1, vr a1), (2, vi a2), (3, vi a3), (4, vi a4)] [] h (some (vi o)) h := by
  intro n
  induction n with
  | zero => intro a0 a1 a2 a3 a4 h o hf; cases hf
  | succ n ih =>
    intro a0 a1 a2 a3 a4 h o hf
    rw [f_X4_latestEffect_5] at hf
    refine g_iload (M := mX4_latestEffect) dX4_latestEffect_5 4 rfl ?_
    refine g_aload_n (M := mX4_latestEffect) dX4_latestEffect_7 rfl 0 rfl ?_
    obtain ⟨v1, ev1, hf⟩ := bd hf
    refine g_getI (M := mX4_latestEffect) dX4_latestEffect_8 flRX4_17 (fun _ => rfl) ev1 ?_
    refine g_ic_ge (M := mX4_latestEffect) (tgt := 66) dX4_latestEffect_11 rfl (fun q11 => ?_) (fun q11 => ?_)
    · replace hf := ift hf q11
      refine g_iload_n (M := mX4_latestEffect) dX4_latestEffect_66 rfl 3 rfl ?_
      cases hf
      exact g_ret (M := mX4_latestEffect) dX4_latestEffect_67 rfl
    · replace hf := iff_ hf q11
      refine g_aload_n (M := mX4_latestEffect) dX4_latestEffect_14 rfl 0 rfl ?_
      refine g_iload (M := mX4_latestEffect) dX4_latestEffect_15 4 rfl ?_
      obtain ⟨b2, eb2, hf⟩ := bd hf
      obtain ⟨r3, er3, hf⟩ := bd hf
      refine g_callV (M := mX4_latestEffect) (kc := 0) (ks := 0) (as := [vi a4]) (rest := []) dX4_latestEffect_17 cbX4_at vwRX4_24 rfl eb2 rfl (Nat.le_of_ble_eq_true rfl) (Nat.le_of_ble_eq_true rfl) (c_X4_at G b2 a4 h r3 er3) ?_
      refine g_astore (M := mX4_latestEffect) (L2 := [(5, vr r3), (0, vr (some a0)), (1, vr a1), (2, vi a2), (3, vi a3), (4, vi a4)]) dX4_latestEffect_20 (Nat.le_of_ble_eq_true rfl) rfl ?_
      refine g_aload (M := mX4_latestEffect) dX4_latestEffect_22 0 rfl ?_
      refine g_ifnull (M := mX4_latestEffect) (tgt := 60) dX4_latestEffect_24 rfl (fun q24 => ?_) (fun q24 => ?_)
      · replace hf := ift hf q24
        refine g_iinc (M := mX4_latestEffect) (j := 5) (L2 := [(4, vi (a4 + (1))), (5, vr r3), (0, vr (some a0)), (1, vr a1), (2, vi a2), (3, vi a3)]) dX4_latestEffect_60 rfl rfl (Nat.le_of_ble_eq_true rfl) rfl ?_
        refine g_goto (M := mX4_latestEffect) (tgt := 5) dX4_latestEffect_63 rfl ?_
        exact g_sub (M := mX4_latestEffect) (L2 := [(0, vr (some a0)), (1, vr a1), (2, vi a2), (3, vi a3), (4, vi (a4 + (1)))]) [2, 3, 4, 5, 0] rfl <| ih a0 a1 a2 a3 (a4 + (1)) h _ hf
      · replace hf := iff_ hf q24
        refine g_aload (M := mX4_latestEffect) dX4_latestEffect_27 0 rfl ?_
        obtain ⟨v4, ev4, hf⟩ := bd hf
        refine g_getR (M := mX4_latestEffect) dX4_latestEffect_29 flRX4_28 (fun _ => rfl) ev4 ?_
        refine g_aload_n (M := mX4_latestEffect) dX4_latestEffect_32 rfl 2 rfl ?_
        refine g_ac_ne (M := mX4_latestEffect) (tgt := 60) dX4_latestEffect_33 rfl (fun q33 => ?_) (fun q33 => ?_)
        · replace hf := iff_ hf q33
          refine g_iinc (M := mX4_latestEffect) (j := 5) (L2 := [(4, vi (a4 + (1))), (5, vr r3), (0, vr (some a0)), (1, vr a1), (2, vi a2), (3, vi a3)]) dX4_latestEffect_60 rfl rfl (Nat.le_of_ble_eq_true rfl) rfl ?_
          refine g_goto (M := mX4_latestEffect) (tgt := 5) dX4_latestEffect_63 rfl ?_
          exact g_sub (M := mX4_latestEffect) (L2 := [(0, vr (some a0)), (1, vr a1), (2, vi a2), (3, vi a3), (4, vi (a4 + (1)))]) [2, 3, 4, 5, 0] rfl <| ih a0 a1 a2 a3 (a4 + (1)) h _ hf
        · replace hf := ift hf q33
          refine g_aload (M := mX4_latestEffect) dX4_latestEffect_36 0 rfl ?_
          obtain ⟨v5, ev5, hf⟩ := bd hf
          refine g_getI (M := mX4_latestEffect) dX4_latestEffect_38 flRX4_46 (fun _ => rfl) ev5 ?_
          refine g_iload_n (M := mX4_latestEffect) dX4_latestEffect_41 rfl 3 rfl ?_
          refine g_ic_gt (M := mX4_latestEffect) (tgt := 60) dX4_latestEffect_42 rfl (fun q42 => ?_) (fun q42 => ?_)
          · replace hf := ift hf q42
            refine g_iinc (M := mX4_latestEffect) (j := 5) (L2 := [(4, vi (a4 + (1))), (5, vr r3), (0, vr (some a0)), (1, vr a1), (2, vi a2), (3, vi a3)]) dX4_latestEffect_60 rfl rfl (Nat.le_of_ble_eq_true rfl) rfl ?_
            refine g_goto (M := mX4_latestEffect) (tgt := 5) dX4_latestEffect_63 rfl ?_
            exact g_sub (M := mX4_latestEffect) (L2 := [(0, vr (some a0)), (1, vr a1), (2, vi a2), (3, vi a3), (4, vi (a4 + (1)))]) [2, 3, 4, 5, 0] rfl <| ih a0 a1 a2 a3 (a4 + (1)) h _ hf
          · replace hf := iff_ hf q42
            refine g_aload (M := mX4_latestEffect) dX4_latestEffect_45 0 rfl ?_
            obtain ⟨v6, ev6, hf⟩ := bd hf
            refine g_getI (M := mX4_latestEffect) dX4_latestEffect_47 flRX4_46 (fun _ => rfl) ev6 ?_
            refine g_iload_n (M := mX4_latestEffect) dX4_latestEffect_50 rfl 4 rfl ?_
            refine g_ic_le (M := mX4_latestEffect) (tgt := 60) dX4_latestEffect_51 rfl (fun q51 => ?_) (fun q51 => ?_)
            · replace hf := ift hf q51
              refine g_iinc (M := mX4_latestEffect) (j := 5) (L2 := [(4, vi (a4 + (1))), (5, vr r3), (0, vr (some a0)), (1, vr a1), (2, vi a2), (3, vi a3)]) dX4_latestEffect_60 rfl rfl (Nat.le_of_ble_eq_true rfl) rfl ?_
              refine g_goto (M := mX4_latestEffect) (tgt := 5) dX4_latestEffect_63 rfl ?_
              exact g_sub (M := mX4_latestEffect) (L2 := [(0, vr (some a0)), (1, vr a1), (2, vi a2), (3, vi a3), (4, vi (a4 + (1)))]) [2, 3, 4, 5, 0] rfl <| ih a0 a1 a2 a3 (a4 + (1)) h _ hf
            · replace hf := iff_ hf q51
              refine g_aload (M := mX4_latestEffect) dX4_latestEffect_54 0 rfl ?_
              obtain ⟨v7, ev7, hf⟩ := bd hf
              refine g_getI (M := mX4_latestEffect) dX4_latestEffect_56 flRX4_46 (fun _ => rfl) ev7 ?_
              refine g_istore_n (M := mX4_latestEffect) (L2 := [(3, vi v7), (5, vr r3), (0, vr (some a0)), (1, vr a1), (2, vi a2), (4, vi a4)]) dX4_latestEffect_59 rfl (Nat.le_of_ble_eq_true rfl) rfl ?_
              refine g_iinc (M := mX4_latestEffect) (j := 5) (L2 := [(4, vi (a4 + (1))), (3, vi v7), (5, vr r3), (0, vr (some a0)), (1, vr a1), (2, vi a2)]) dX4_latestEffect_60 rfl rfl (Nat.le_of_ble_eq_true rfl) rfl ?_
              refine g_goto (M := mX4_latestEffect) (tgt := 5) dX4_latestEffect_63 rfl ?_
              exact g_sub (M := mX4_latestEffect) (L2 := [(0, vr (some a0)), (1, vr a1), (2, vi a2), (3, vi v7), (4, vi (a4 + (1)))]) [3, 4, 5, 1, 0] rfl <| ih a0 a1 a2 v7 (a4 + (1)) h _ hf
def f_X4_latestEffect (a0 : Nat) (a1 : Option Nat) (a2 : Int32) (h : AH) : Option Int32 :=
  f_X4_latestEffect_5 FU a0 a1 a2 (0 : Int32) (0 : Int32) h
theorem x_X4_latestEffect (G : Gm) (a0 : Nat) (a1 : Option Nat) (a2 : Int32) (h : AH) (o : Int32) (hf : f_X4_latestEffect a0 a1 a2 h = some o) : GO G mX4_latestEffect 0 0 0 [(0, vr (some a0)), (1, vr a1), (2, vi a2)] [] h (some (vi o)) h := by
  unfold f_X4_latestEffect at hf
  refine g_iconst (M := mX4_latestEffect) (v := 0) dX4_latestEffect_0 rfl ?_
  refine g_istore_n (M := mX4_latestEffect) (L2 := [(3, vi (0 : Int32)), (0, vr (some a0)), (1, vr a1), (2, vi a2)]) dX4_latestEffect_1 rfl (Nat.le_of_ble_eq_true rfl) rfl ?_
  refine g_iconst (M := mX4_latestEffect) (v := 0) dX4_latestEffect_2 rfl ?_
  refine g_istore (M := mX4_latestEffect) (L2 := [(4, vi (0 : Int32)), (3, vi (0 : Int32)), (0, vr (some a0)), (1, vr a1), (2, vi a2)]) dX4_latestEffect_3 (Nat.le_of_ble_eq_true rfl) rfl ?_
  exact g_sub (M := mX4_latestEffect) (L2 := [(0, vr (some a0)), (1, vr a1), (2, vi a2), (3, vi (0 : Int32)), (4, vi (0 : Int32))]) [2, 3, 4, 1, 0] rfl <| x_X4_latestEffect_5 G FU a0 a1 a2 (0 : Int32) (0 : Int32) h _ hf
theorem c_X4_latestEffect (G : Gm) (a0 : Nat) (a1 : Option Nat) (a2 : Int32) (h : AH) (o : Int32) (hf : f_X4_latestEffect a0 a1 a2 h = some o) : CT G yX4_latestEffect mX4_latestEffect (some .int) 0 0 [vr (some a0), vr a1, vi a2] h (some (vi o)) h :=
  CT.int (by decide +kernel) rfl rfl rfl (Nat.le_of_ble_eq_true rfl) (x_X4_latestEffect G a0 a1 a2 h o hf)
theorem cbX4_latestEffect : CB yX4_latestEffect mX4_latestEffect (some .int) 2 := ⟨cd_yX4_latestEffect, itRX4, ⟨by decide, by decide⟩, by decide +kernel, by decide⟩
abbrev mX4_nthOfMember : MI := (RX4, "nthOfMember", cX4_nthOfMember, 8, .areturn, 2)
def f_X4_nthOfMember_7 : Nat → Nat → Option Nat → Int32 → Int32 → Int32 → Int32 → AH → Option (Option Nat)
  | 0, _, _, _, _, _, _, _ => none
  | n + 1, a0, a1, a2, a3, a5, a6, h =>
    (gI 4 1 h (some a0)).bind fun v1 =>
    if v1 ≤ a6 then (
      some none
    ) else (
      if a5 < 0 then (
        some none
      ) else (
        (ck 4 h (some a0)).bind fun b2 =>
        (f_X4_at b2 a6 h).bind fun r3 =>
        if r3 = none then (
          f_X4_nthOfMember_7 n a0 a1 a2 a3 a5 (a6 + (1)) h
        ) else (
          (ck 3 h r3).bind fun b4 =>
          (f_X3_stands b4 a2 a3 h).bind fun r5 =>
          if (b2i r5) = 0 then (
            f_X4_nthOfMember_7 n a0 a1 a2 a3 a5 (a6 + (1)) h
          ) else (
            (ck 3 h r3).bind fun b6 =>
            (f_X3_isHeldBy b6 a1 a3 h).bind fun r7 =>
            if (b2i r7) = 0 then (
              f_X4_nthOfMember_7 n a0 a1 a2 a3 a5 (a6 + (1)) h
            ) else (
              if a5 = 0 then (
                some r3
              ) else (
                f_X4_nthOfMember_7 n a0 a1 a2 a3 (a5 + (-1)) (a6 + (1)) h
              )
            )
          )
        )
      )
    )
theorem x_X4_nthOfMember_7 (G : Gm) : ∀ (n : Nat) (a0 : Nat) (a1 : Option Nat) (a2 : Int32) (a3 : Int32) (a5 : Int32) (a6 : Int32) (h : AH) (o : (Option Nat)), f_X4_nthOfMember_7 n a0 a1 a2 a3 a5 a6 h = some o → GO G mX4_nthOfMember 0 0 7 [(0, vr (some a0)), (1, vr a1), (2, vi a2), (3, vi a3), (5, vi a5), (6, vi a6)] [] h (some (vr o)) h := by
  intro n
  induction n with
  | zero => intro a0 a1 a2 a3 a5 a6 h o hf; cases hf
  | succ n ih =>
    intro a0 a1 a2 a3 a5 a6 h o hf
    rw [f_X4_nthOfMember_7] at hf
    refine g_iload (M := mX4_nthOfMember) dX4_nthOfMember_7 5 rfl ?_
    refine g_aload_n (M := mX4_nthOfMember) dX4_nthOfMember_9 rfl 0 rfl ?_
    obtain ⟨v1, ev1, hf⟩ := bd hf
    refine g_getI (M := mX4_nthOfMember) dX4_nthOfMember_10 flRX4_17 (fun _ => rfl) ev1 ?_
    refine g_ic_ge (M := mX4_nthOfMember) (tgt := 71) dX4_nthOfMember_13 rfl (fun q13 => ?_) (fun q13 => ?_)
    · replace hf := ift hf q13
      refine g_null (M := mX4_nthOfMember) dX4_nthOfMember_71 ?_
      cases hf
      exact g_ret (M := mX4_nthOfMember) dX4_nthOfMember_72 rfl
    · replace hf := iff_ hf q13
      refine g_iload (M := mX4_nthOfMember) dX4_nthOfMember_16 4 rfl ?_
      refine g_if_lt (M := mX4_nthOfMember) (tgt := 71) dX4_nthOfMember_18 rfl (fun q18 => ?_) (fun q18 => ?_)
      · replace hf := ift hf q18
        refine g_null (M := mX4_nthOfMember) dX4_nthOfMember_71 ?_
        cases hf
        exact g_ret (M := mX4_nthOfMember) dX4_nthOfMember_72 rfl
      · replace hf := iff_ hf q18
        refine g_aload_n (M := mX4_nthOfMember) dX4_nthOfMember_21 rfl 0 rfl ?_
        refine g_iload (M := mX4_nthOfMember) dX4_nthOfMember_22 5 rfl ?_
        obtain ⟨b2, eb2, hf⟩ := bd hf
        obtain ⟨r3, er3, hf⟩ := bd hf
        refine g_callV (M := mX4_nthOfMember) (kc := 0) (ks := 0) (as := [vi a6]) (rest := []) dX4_nthOfMember_24 cbX4_at vwRX4_24 rfl eb2 rfl (Nat.le_of_ble_eq_true rfl) (Nat.le_of_ble_eq_true rfl) (c_X4_at G b2 a6 h r3 er3) ?_
        refine g_astore (M := mX4_nthOfMember) (L2 := [(7, vr r3), (0, vr (some a0)), (1, vr a1), (2, vi a2), (3, vi a3), (5, vi a5), (6, vi a6)]) dX4_nthOfMember_27 (Nat.le_of_ble_eq_true rfl) rfl ?_
        refine g_aload (M := mX4_nthOfMember) dX4_nthOfMember_29 0 rfl ?_
        refine g_ifnull (M := mX4_nthOfMember) (tgt := 65) dX4_nthOfMember_31 rfl (fun q31 => ?_) (fun q31 => ?_)
        · replace hf := ift hf q31
          refine g_iinc (M := mX4_nthOfMember) (j := 6) (L2 := [(6, vi (a6 + (1))), (7, vr r3), (0, vr (some a0)), (1, vr a1), (2, vi a2), (3, vi a3), (5, vi a5)]) dX4_nthOfMember_65 rfl rfl (Nat.le_of_ble_eq_true rfl) rfl ?_
          refine g_goto (M := mX4_nthOfMember) (tgt := 7) dX4_nthOfMember_68 rfl ?_
          exact g_sub (M := mX4_nthOfMember) (L2 := [(0, vr (some a0)), (1, vr a1), (2, vi a2), (3, vi a3), (5, vi a5), (6, vi (a6 + (1)))]) [2, 3, 4, 5, 6, 0] rfl <| ih a0 a1 a2 a3 a5 (a6 + (1)) h _ hf
        · replace hf := iff_ hf q31
          refine g_aload (M := mX4_nthOfMember) dX4_nthOfMember_34 0 rfl ?_
          refine g_iload_n (M := mX4_nthOfMember) dX4_nthOfMember_36 rfl 3 rfl ?_
          refine g_iload_n (M := mX4_nthOfMember) dX4_nthOfMember_37 rfl 4 rfl ?_
          obtain ⟨b4, eb4, hf⟩ := bd hf
          obtain ⟨r5, er5, hf⟩ := bd hf
          refine g_callV (M := mX4_nthOfMember) (kc := 0) (ks := 0) (as := [vi a2, vi a3]) (rest := []) dX4_nthOfMember_38 cbX3_stands vwRX4_49 rfl eb4 rfl (Nat.le_of_ble_eq_true rfl) (Nat.le_of_ble_eq_true rfl) (c_X3_stands G b4 a2 a3 h r5 er5) ?_
          refine g_if_eq (M := mX4_nthOfMember) (tgt := 65) dX4_nthOfMember_41 rfl (fun q41 => ?_) (fun q41 => ?_)
          · replace hf := ift hf q41
            refine g_iinc (M := mX4_nthOfMember) (j := 6) (L2 := [(6, vi (a6 + (1))), (7, vr r3), (0, vr (some a0)), (1, vr a1), (2, vi a2), (3, vi a3), (5, vi a5)]) dX4_nthOfMember_65 rfl rfl (Nat.le_of_ble_eq_true rfl) rfl ?_
            refine g_goto (M := mX4_nthOfMember) (tgt := 7) dX4_nthOfMember_68 rfl ?_
            exact g_sub (M := mX4_nthOfMember) (L2 := [(0, vr (some a0)), (1, vr a1), (2, vi a2), (3, vi a3), (5, vi a5), (6, vi (a6 + (1)))]) [2, 3, 4, 5, 6, 0] rfl <| ih a0 a1 a2 a3 a5 (a6 + (1)) h _ hf
          · replace hf := iff_ hf q41
            refine g_aload (M := mX4_nthOfMember) dX4_nthOfMember_44 0 rfl ?_
            refine g_aload_n (M := mX4_nthOfMember) dX4_nthOfMember_46 rfl 2 rfl ?_
            refine g_iload_n (M := mX4_nthOfMember) dX4_nthOfMember_47 rfl 4 rfl ?_
            obtain ⟨b6, eb6, hf⟩ := bd hf
            obtain ⟨r7, er7, hf⟩ := bd hf
            refine g_callV (M := mX4_nthOfMember) (kc := 0) (ks := 0) (as := [vr a1, vi a3]) (rest := []) dX4_nthOfMember_48 cbX3_isHeldBy vwRX4_53 rfl eb6 rfl (Nat.le_of_ble_eq_true rfl) (Nat.le_of_ble_eq_true rfl) (c_X3_isHeldBy G b6 a1 a3 h r7 er7) ?_
            refine g_if_eq (M := mX4_nthOfMember) (tgt := 65) dX4_nthOfMember_51 rfl (fun q51 => ?_) (fun q51 => ?_)
            · replace hf := ift hf q51
              refine g_iinc (M := mX4_nthOfMember) (j := 6) (L2 := [(6, vi (a6 + (1))), (7, vr r3), (0, vr (some a0)), (1, vr a1), (2, vi a2), (3, vi a3), (5, vi a5)]) dX4_nthOfMember_65 rfl rfl (Nat.le_of_ble_eq_true rfl) rfl ?_
              refine g_goto (M := mX4_nthOfMember) (tgt := 7) dX4_nthOfMember_68 rfl ?_
              exact g_sub (M := mX4_nthOfMember) (L2 := [(0, vr (some a0)), (1, vr a1), (2, vi a2), (3, vi a3), (5, vi a5), (6, vi (a6 + (1)))]) [2, 3, 4, 5, 6, 0] rfl <| ih a0 a1 a2 a3 a5 (a6 + (1)) h _ hf
            · replace hf := iff_ hf q51
              refine g_iload (M := mX4_nthOfMember) dX4_nthOfMember_54 5 rfl ?_
              refine g_if_ne (M := mX4_nthOfMember) (tgt := 62) dX4_nthOfMember_56 rfl (fun q56 => ?_) (fun q56 => ?_)
              · replace hf := iff_ hf q56
                refine g_iinc (M := mX4_nthOfMember) (j := 5) (L2 := [(5, vi (a5 + (-1))), (7, vr r3), (0, vr (some a0)), (1, vr a1), (2, vi a2), (3, vi a3), (6, vi a6)]) dX4_nthOfMember_62 rfl rfl (Nat.le_of_ble_eq_true rfl) rfl ?_
                refine g_iinc (M := mX4_nthOfMember) (j := 6) (L2 := [(6, vi (a6 + (1))), (5, vi (a5 + (-1))), (7, vr r3), (0, vr (some a0)), (1, vr a1), (2, vi a2), (3, vi a3)]) dX4_nthOfMember_65 rfl rfl (Nat.le_of_ble_eq_true rfl) rfl ?_
                refine g_goto (M := mX4_nthOfMember) (tgt := 7) dX4_nthOfMember_68 rfl ?_
                exact g_sub (M := mX4_nthOfMember) (L2 := [(0, vr (some a0)), (1, vr a1), (2, vi a2), (3, vi a3), (5, vi (a5 + (-1))), (6, vi (a6 + (1)))]) [3, 4, 5, 6, 1, 0] rfl <| ih a0 a1 a2 a3 (a5 + (-1)) (a6 + (1)) h _ hf
              · replace hf := ift hf q56
                refine g_aload (M := mX4_nthOfMember) dX4_nthOfMember_59 0 rfl ?_
                cases hf
                exact g_ret (M := mX4_nthOfMember) dX4_nthOfMember_61 rfl
def f_X4_nthOfMember (a0 : Nat) (a1 : Option Nat) (a2 : Int32) (a3 : Int32) (a4 : Int32) (h : AH) : Option (Option Nat) :=
  f_X4_nthOfMember_7 FU a0 a1 a2 a3 a4 (0 : Int32) h
theorem x_X4_nthOfMember (G : Gm) (a0 : Nat) (a1 : Option Nat) (a2 : Int32) (a3 : Int32) (a4 : Int32) (h : AH) (o : (Option Nat)) (hf : f_X4_nthOfMember a0 a1 a2 a3 a4 h = some o) : GO G mX4_nthOfMember 0 0 0 [(0, vr (some a0)), (1, vr a1), (2, vi a2), (3, vi a3), (4, vi a4)] [] h (some (vr o)) h := by
  unfold f_X4_nthOfMember at hf
  refine g_iload (M := mX4_nthOfMember) dX4_nthOfMember_0 4 rfl ?_
  refine g_istore (M := mX4_nthOfMember) (L2 := [(5, vi a4), (0, vr (some a0)), (1, vr a1), (2, vi a2), (3, vi a3), (4, vi a4)]) dX4_nthOfMember_2 (Nat.le_of_ble_eq_true rfl) rfl ?_
  refine g_iconst (M := mX4_nthOfMember) (v := 0) dX4_nthOfMember_4 rfl ?_
  refine g_istore (M := mX4_nthOfMember) (L2 := [(6, vi (0 : Int32)), (5, vi a4), (0, vr (some a0)), (1, vr a1), (2, vi a2), (3, vi a3), (4, vi a4)]) dX4_nthOfMember_5 (Nat.le_of_ble_eq_true rfl) rfl ?_
  exact g_sub (M := mX4_nthOfMember) (L2 := [(0, vr (some a0)), (1, vr a1), (2, vi a2), (3, vi a3), (5, vi a4), (6, vi (0 : Int32))]) [2, 3, 4, 5, 1, 0] rfl <| x_X4_nthOfMember_7 G FU a0 a1 a2 a3 a4 (0 : Int32) h _ hf
theorem c_X4_nthOfMember (G : Gm) (a0 : Nat) (a1 : Option Nat) (a2 : Int32) (a3 : Int32) (a4 : Int32) (h : AH) (o : (Option Nat)) (hf : f_X4_nthOfMember a0 a1 a2 a3 a4 h = some o) : CT G yX4_nthOfMember mX4_nthOfMember (some (.object RX3)) 0 0 [vr (some a0), vr a1, vi a2, vi a3, vi a4] h (some (vr o)) h :=
  CT.ref (by decide +kernel) rfl rfl rfl (Nat.le_of_ble_eq_true rfl) (x_X4_nthOfMember G a0 a1 a2 a3 a4 h o hf)
theorem cbX4_nthOfMember : CB yX4_nthOfMember mX4_nthOfMember (some (.object RX3)) 4 := ⟨cd_yX4_nthOfMember, itRX4, ⟨by decide, by decide⟩, by decide +kernel, by decide⟩
