abbrev mX8_has : MI := (RX8, "has", cX8_has, 9, .ireturn, 3)
def f_X8_has_56 : Nat → Nat → Int32 → Int32 → Int32 → Int32 → Int32 → AH → Option Int32
  | 0, _, _, _, _, _, _, _ => none
  | n + 1, a0, a3, a4, a6, a7, a8, h =>
    (gI 8 8 h (some a0)).bind fun v1 =>
    if v1 ≤ a8 then (
      some (-1 : Int32)
    ) else (
      if a6 = (-1 : Int32) then (
        some (-1 : Int32)
      ) else (
        (ck 8 h (some a0)).bind fun b2 =>
        (f_X8_hasPaper b2 a6 a8 a3 a4 h).bind fun r3 =>
        if (b2i r3) = 0 then (
          f_X8_has_56 n a0 a3 a4 a6 a7 (a8 + (1)) h
        ) else (
          if a7 = 0 then (
            some a8
          ) else (
            f_X8_has_56 n a0 a3 a4 a6 (a7 + (-1)) (a8 + (1)) h
          )
        )
      )
    )
theorem x_X8_has_56 (G : Gm) : ∀ (n : Nat) (a0 : Nat) (a3 : Int32) (a4 : Int32) (a6 : Int32) (a7 : Int32) (a8 : Int32) (h : AH) (o : Int32), f_X8_has_56 n a0 a3 a4 a6 a7 a8 h = some o → GO G mX8_has 0 0 56 [(0, vr (some a0)), (3, vi a3), (4, vi a4), (6, vi a6), (7, vi a7), (8, vi a8)] [] h (some (vi o)) h := by
  intro n
  induction n with
  | zero => intro a0 a3 a4 a6 a7 a8 h o hf; cases hf
  | succ n ih =>
    intro a0 a3 a4 a6 a7 a8 h o hf
    rw [f_X8_has_56] at hf
    refine g_iload (M := mX8_has) dX8_has_56 5 rfl ?_
    refine g_aload_n (M := mX8_has) dX8_has_58 rfl 0 rfl ?_
    obtain ⟨v1, ev1, hf⟩ := bd hf
    refine g_getI (M := mX8_has) dX8_has_59 flRX8_89 (fun _ => rfl) ev1 ?_
    refine g_ic_ge (M := mX8_has) (tgt := 102) dX8_has_62 rfl (fun q62 => ?_) (fun q62 => ?_)
    · replace hf := ift hf q62
      refine g_iconst (M := mX8_has) (v := -1) dX8_has_102 rfl ?_
      cases hf
      exact g_ret (M := mX8_has) dX8_has_103 rfl
    · replace hf := iff_ hf q62
      refine g_iload (M := mX8_has) dX8_has_65 3 rfl ?_
      refine g_iconst (M := mX8_has) (v := -1) dX8_has_67 rfl ?_
      refine g_ic_eq (M := mX8_has) (tgt := 102) dX8_has_68 rfl (fun q68 => ?_) (fun q68 => ?_)
      · replace hf := ift hf q68
        refine g_iconst (M := mX8_has) (v := -1) dX8_has_102 rfl ?_
        cases hf
        exact g_ret (M := mX8_has) dX8_has_103 rfl
      · replace hf := iff_ hf q68
        refine g_aload_n (M := mX8_has) dX8_has_71 rfl 0 rfl ?_
        refine g_iload (M := mX8_has) dX8_has_72 3 rfl ?_
        refine g_iload (M := mX8_has) dX8_has_74 5 rfl ?_
        refine g_iload_n (M := mX8_has) dX8_has_76 rfl 1 rfl ?_
        refine g_iload (M := mX8_has) dX8_has_77 2 rfl ?_
        obtain ⟨b2, eb2, hf⟩ := bd hf
        obtain ⟨r3, er3, hf⟩ := bd hf
        refine g_callV (M := mX8_has) (kc := 0) (ks := 0) (as := [vi a6, vi a8, vi a3, vi a4]) (rest := []) dX8_has_79 cbX8_hasPaper vwRX8_143 rfl eb2 rfl (Nat.le_of_ble_eq_true rfl) (Nat.le_of_ble_eq_true rfl) (c_X8_hasPaper G b2 a6 a8 a3 a4 h r3 er3) ?_
        refine g_if_eq (M := mX8_has) (tgt := 96) dX8_has_82 rfl (fun q82 => ?_) (fun q82 => ?_)
        · replace hf := ift hf q82
          refine g_iinc (M := mX8_has) (j := 5) (L2 := [(8, vi (a8 + (1))), (0, vr (some a0)), (3, vi a3), (4, vi a4), (6, vi a6), (7, vi a7)]) dX8_has_96 rfl rfl (Nat.le_of_ble_eq_true rfl) rfl ?_
          refine g_goto (M := mX8_has) (tgt := 56) dX8_has_99 rfl ?_
          exact g_sub (M := mX8_has) (L2 := [(0, vr (some a0)), (3, vi a3), (4, vi a4), (6, vi a6), (7, vi a7), (8, vi (a8 + (1)))]) [1, 2, 3, 4, 5, 0] rfl <| ih a0 a3 a4 a6 a7 (a8 + (1)) h _ hf
        · replace hf := iff_ hf q82
          refine g_iload (M := mX8_has) dX8_has_85 4 rfl ?_
          refine g_if_ne (M := mX8_has) (tgt := 93) dX8_has_87 rfl (fun q87 => ?_) (fun q87 => ?_)
          · replace hf := iff_ hf q87
            refine g_iinc (M := mX8_has) (j := 4) (L2 := [(7, vi (a7 + (-1))), (0, vr (some a0)), (3, vi a3), (4, vi a4), (6, vi a6), (8, vi a8)]) dX8_has_93 rfl rfl (Nat.le_of_ble_eq_true rfl) rfl ?_
            refine g_iinc (M := mX8_has) (j := 5) (L2 := [(8, vi (a8 + (1))), (7, vi (a7 + (-1))), (0, vr (some a0)), (3, vi a3), (4, vi a4), (6, vi a6)]) dX8_has_96 rfl rfl (Nat.le_of_ble_eq_true rfl) rfl ?_
            refine g_goto (M := mX8_has) (tgt := 56) dX8_has_99 rfl ?_
            exact g_sub (M := mX8_has) (L2 := [(0, vr (some a0)), (3, vi a3), (4, vi a4), (6, vi a6), (7, vi (a7 + (-1))), (8, vi (a8 + (1)))]) [2, 3, 4, 5, 1, 0] rfl <| ih a0 a3 a4 a6 (a7 + (-1)) (a8 + (1)) h _ hf
          · replace hf := ift hf q87
            refine g_iload (M := mX8_has) dX8_has_90 5 rfl ?_
            cases hf
            exact g_ret (M := mX8_has) dX8_has_92 rfl
def f_X8_has (a0 : Nat) (a1 : Int32) (a2 : Int32) (a3 : Int32) (a4 : Int32) (a5 : Int32) (h : AH) : Option Int32 :=
  (ck 8 h (some a0)).bind fun b4 =>
  (f_X8_isParty b4 a1 h).bind fun r5 =>
  if (b2i r5) = 0 then (
    some (-1 : Int32)
  ) else (
    (ck 8 h (some a0)).bind fun b6 =>
    (f_X8_isAgreement b6 a2 h).bind fun r7 =>
    if (b2i r7) = 0 then (
      some (-1 : Int32)
    ) else (
      (f_X8_isDay a3 h).bind fun r8 =>
      if (b2i r8) = 0 then (
        some (-1 : Int32)
      ) else (
        (f_X8_isDay a4 h).bind fun r9 =>
        if (b2i r9) = 0 then (
          some (-1 : Int32)
        ) else (
          if 0 ≤ a5 then (
            (ck 8 h (some a0)).bind fun b10 =>
            (f_X8_memberOf b10 a1 a2 a3 a4 h).bind fun r11 =>
            f_X8_has_56 FU a0 a3 a4 r11 a5 (0 : Int32) h
          ) else (
            some (-1 : Int32)
          )
        )
      )
    )
  )
theorem x_X8_has (G : Gm) (a0 : Nat) (a1 : Int32) (a2 : Int32) (a3 : Int32) (a4 : Int32) (a5 : Int32) (h : AH) (o : Int32) (hf : f_X8_has a0 a1 a2 a3 a4 a5 h = some o) : GO G mX8_has 0 0 0 [(0, vr (some a0)), (1, vi a1), (2, vi a2), (3, vi a3), (4, vi a4), (5, vi a5)] [] h (some (vi o)) h := by
  unfold f_X8_has at hf
  refine g_aload_n (M := mX8_has) dX8_has_0 rfl 0 rfl ?_
  refine g_iload_n (M := mX8_has) dX8_has_1 rfl 1 rfl ?_
  obtain ⟨b4, eb4, hf⟩ := bd hf
  obtain ⟨r5, er5, hf⟩ := bd hf
  refine g_callV (M := mX8_has) (kc := 0) (ks := 0) (as := [vi a1]) (rest := []) dX8_has_2 cbX8_isParty vwRX8_115 rfl eb4 rfl (Nat.le_of_ble_eq_true rfl) (Nat.le_of_ble_eq_true rfl) (c_X8_isParty G b4 a1 h r5 er5) ?_
  refine g_if_eq (M := mX8_has) (tgt := 36) dX8_has_5 rfl (fun q5 => ?_) (fun q5 => ?_)
  · replace hf := ift hf q5
    refine g_iconst (M := mX8_has) (v := -1) dX8_has_36 rfl ?_
    cases hf
    exact g_ret (M := mX8_has) dX8_has_37 rfl
  · replace hf := iff_ hf q5
    refine g_aload_n (M := mX8_has) dX8_has_8 rfl 0 rfl ?_
    refine g_iload_n (M := mX8_has) dX8_has_9 rfl 2 rfl ?_
    obtain ⟨b6, eb6, hf⟩ := bd hf
    obtain ⟨r7, er7, hf⟩ := bd hf
    refine g_callV (M := mX8_has) (kc := 0) (ks := 0) (as := [vi a2]) (rest := []) dX8_has_10 cbX8_isAgreement vwRX8_85 rfl eb6 rfl (Nat.le_of_ble_eq_true rfl) (Nat.le_of_ble_eq_true rfl) (c_X8_isAgreement G b6 a2 h r7 er7) ?_
    refine g_if_eq (M := mX8_has) (tgt := 36) dX8_has_13 rfl (fun q13 => ?_) (fun q13 => ?_)
    · replace hf := ift hf q13
      refine g_iconst (M := mX8_has) (v := -1) dX8_has_36 rfl ?_
      cases hf
      exact g_ret (M := mX8_has) dX8_has_37 rfl
    · replace hf := iff_ hf q13
      refine g_iload_n (M := mX8_has) dX8_has_16 rfl 3 rfl ?_
      obtain ⟨r8, er8, hf⟩ := bd hf
      refine g_callS (M := mX8_has) (kc := 0) (ks := 0) (as := [vi a3]) (rest := []) dX8_has_17 cbX8_isDay mlRX8_182 st_yX8_isDay rfl rfl (Nat.le_of_ble_eq_true rfl) (Nat.le_of_ble_eq_true rfl) (c_X8_isDay G a3 h r8 er8) ?_
      refine g_if_eq (M := mX8_has) (tgt := 36) dX8_has_20 rfl (fun q20 => ?_) (fun q20 => ?_)
      · replace hf := ift hf q20
        refine g_iconst (M := mX8_has) (v := -1) dX8_has_36 rfl ?_
        cases hf
        exact g_ret (M := mX8_has) dX8_has_37 rfl
      · replace hf := iff_ hf q20
        refine g_iload (M := mX8_has) dX8_has_23 4 rfl ?_
        obtain ⟨r9, er9, hf⟩ := bd hf
        refine g_callS (M := mX8_has) (kc := 0) (ks := 0) (as := [vi a4]) (rest := []) dX8_has_25 cbX8_isDay mlRX8_182 st_yX8_isDay rfl rfl (Nat.le_of_ble_eq_true rfl) (Nat.le_of_ble_eq_true rfl) (c_X8_isDay G a4 h r9 er9) ?_
        refine g_if_eq (M := mX8_has) (tgt := 36) dX8_has_28 rfl (fun q28 => ?_) (fun q28 => ?_)
        · replace hf := ift hf q28
          refine g_iconst (M := mX8_has) (v := -1) dX8_has_36 rfl ?_
          cases hf
          exact g_ret (M := mX8_has) dX8_has_37 rfl
        · replace hf := iff_ hf q28
          refine g_iload (M := mX8_has) dX8_has_31 5 rfl ?_
          refine g_if_ge (M := mX8_has) (tgt := 38) dX8_has_33 rfl (fun q33 => ?_) (fun q33 => ?_)
          · replace hf := ift hf q33
            refine g_aload_n (M := mX8_has) dX8_has_38 rfl 0 rfl ?_
            refine g_iload_n (M := mX8_has) dX8_has_39 rfl 1 rfl ?_
            refine g_iload_n (M := mX8_has) dX8_has_40 rfl 2 rfl ?_
            refine g_iload_n (M := mX8_has) dX8_has_41 rfl 3 rfl ?_
            refine g_iload (M := mX8_has) dX8_has_42 4 rfl ?_
            obtain ⟨b10, eb10, hf⟩ := bd hf
            obtain ⟨r11, er11, hf⟩ := bd hf
            refine g_callV (M := mX8_has) (kc := 0) (ks := 0) (as := [vi a1, vi a2, vi a3, vi a4]) (rest := []) dX8_has_44 cbX8_memberOf vwRX8_108 rfl eb10 rfl (Nat.le_of_ble_eq_true rfl) (Nat.le_of_ble_eq_true rfl) (c_X8_memberOf G b10 a1 a2 a3 a4 h r11 er11) ?_
            refine g_istore (M := mX8_has) (L2 := [(6, vi r11), (0, vr (some a0)), (1, vi a1), (2, vi a2), (3, vi a3), (4, vi a4), (5, vi a5)]) dX8_has_47 (Nat.le_of_ble_eq_true rfl) rfl ?_
            refine g_iload (M := mX8_has) dX8_has_49 6 rfl ?_
            refine g_istore (M := mX8_has) (L2 := [(7, vi a5), (6, vi r11), (0, vr (some a0)), (1, vi a1), (2, vi a2), (3, vi a3), (4, vi a4), (5, vi a5)]) dX8_has_51 (Nat.le_of_ble_eq_true rfl) rfl ?_
            refine g_iconst (M := mX8_has) (v := 0) dX8_has_53 rfl ?_
            refine g_istore (M := mX8_has) (L2 := [(8, vi (0 : Int32)), (7, vi a5), (6, vi r11), (0, vr (some a0)), (1, vi a1), (2, vi a2), (3, vi a3), (4, vi a4), (5, vi a5)]) dX8_has_54 (Nat.le_of_ble_eq_true rfl) rfl ?_
            exact g_sub (M := mX8_has) (L2 := [(0, vr (some a0)), (3, vi a3), (4, vi a4), (6, vi r11), (7, vi a5), (8, vi (0 : Int32))]) [3, 6, 7, 2, 1, 0] rfl <| x_X8_has_56 G FU a0 a3 a4 r11 a5 (0 : Int32) h _ hf
          · replace hf := iff_ hf q33
            refine g_iconst (M := mX8_has) (v := -1) dX8_has_36 rfl ?_
            cases hf
            exact g_ret (M := mX8_has) dX8_has_37 rfl
theorem c_X8_has (G : Gm) (a0 : Nat) (a1 : Int32) (a2 : Int32) (a3 : Int32) (a4 : Int32) (a5 : Int32) (h : AH) (o : Int32) (hf : f_X8_has a0 a1 a2 a3 a4 a5 h = some o) : CT G yX8_has mX8_has (some .int) 0 0 [vr (some a0), vi a1, vi a2, vi a3, vi a4, vi a5] h (some (vi o)) h :=
  CT.int (by decide +kernel) rfl rfl rfl (Nat.le_of_ble_eq_true rfl) (x_X8_has G a0 a1 a2 a3 a4 a5 h o hf)
theorem cbX8_has : CB yX8_has mX8_has (some .int) 5 := ⟨cd_yX8_has, itRX8, ⟨by decide, by decide⟩, by decide +kernel, by decide⟩
abbrev mX8_paper : MI := (RX8, "paper", cX8_paper, 3, .ireturn, 1)
def f_X8_paper (a0 : Nat) (a1 : Int32) (a2 : Int32) (h : AH) : Option Int32 :=
  (ck 8 h (some a0)).bind fun b1 =>
  (f_X8_isPaper b1 a1 h).bind fun r2 =>
  if (b2i r2) = 0 then (
    some (-1 : Int32)
  ) else (
    if a2 = 0 then (
      (gR 8 9 h (some a0)).bind fun v3 =>
      (lI 10 h v3 a1).bind fun v4 =>
      some v4
    ) else (
      if a2 = 1 then (
        (gR 8 10 h (some a0)).bind fun v5 =>
        (lI 10 h v5 a1).bind fun v6 =>
        some v6
      ) else (
        if a2 = 2 then (
          (gR 8 11 h (some a0)).bind fun v7 =>
          (lI 10 h v7 a1).bind fun v8 =>
          some v8
        ) else (
          if a2 = 3 then (
            (gR 8 12 h (some a0)).bind fun v9 =>
            (lI 10 h v9 a1).bind fun v10 =>
            some v10
          ) else (
            if a2 = 4 then (
              (gR 8 13 h (some a0)).bind fun v11 =>
              (lI 10 h v11 a1).bind fun v12 =>
              some v12
            ) else (
              if a2 = 5 then (
                (gR 8 14 h (some a0)).bind fun v13 =>
                (lI 10 h v13 a1).bind fun v14 =>
                some v14
              ) else (
                if a2 = 6 then (
                  (gR 8 15 h (some a0)).bind fun v15 =>
                  (lI 10 h v15 a1).bind fun v16 =>
                  some v16
                ) else (
                  if a2 = 7 then (
                    (gR 8 16 h (some a0)).bind fun v17 =>
                    (lI 10 h v17 a1).bind fun v18 =>
                    some v18
                  ) else (
                    if a2 = 8 then (
                      (gR 8 17 h (some a0)).bind fun v19 =>
                      (lI 10 h v19 a1).bind fun v20 =>
                      some v20
                    ) else (
                      if a2 = 9 then (
                        (gR 8 18 h (some a0)).bind fun v21 =>
                        (lI 10 h v21 a1).bind fun v22 =>
                        some v22
                      ) else (
                        some (-1 : Int32)
                      )
                    )
                  )
                )
              )
            )
          )
        )
      )
    )
  )
theorem x_X8_paper (G : Gm) (a0 : Nat) (a1 : Int32) (a2 : Int32) (h : AH) (o : Int32) (hf : f_X8_paper a0 a1 a2 h = some o) : GO G mX8_paper 0 0 0 [(0, vr (some a0)), (1, vi a1), (2, vi a2)] [] h (some (vi o)) h := by
  unfold f_X8_paper at hf
  refine g_aload_n (M := mX8_paper) dX8_paper_0 rfl 0 rfl ?_
  refine g_iload_n (M := mX8_paper) dX8_paper_1 rfl 1 rfl ?_
  obtain ⟨b1, eb1, hf⟩ := bd hf
  obtain ⟨r2, er2, hf⟩ := bd hf
  refine g_callV (M := mX8_paper) (kc := 0) (ks := 0) (as := [vi a1]) (rest := []) dX8_paper_2 cbX8_isPaper vwRX8_136 rfl eb1 rfl (Nat.le_of_ble_eq_true rfl) (Nat.le_of_ble_eq_true rfl) (c_X8_isPaper G b1 a1 h r2 er2) ?_
  refine g_if_ne (M := mX8_paper) (tgt := 10) dX8_paper_5 rfl (fun q5 => ?_) (fun q5 => ?_)
  · replace hf := iff_ hf q5
    refine g_iload_n (M := mX8_paper) dX8_paper_10 rfl 2 rfl ?_
    by_cases q11_0 : a2 = 0
    · replace hf := ift hf q11_0
      refine g_sw_in (M := mX8_paper) (off := 53) (tgt := 64) dX8_paper_11 (by rw [q11_0]; decide) (by rw [q11_0]; decide) (by rw [q11_0]; rfl) (by decide) ?_
      refine g_aload_n (M := mX8_paper) dX8_paper_64 rfl 0 rfl ?_
      obtain ⟨v3, ev3, hf⟩ := bd hf
      refine g_getR (M := mX8_paper) dX8_paper_65 flRX8_25 (fun _ => rfl) ev3 ?_
      refine g_iload_n (M := mX8_paper) dX8_paper_68 rfl 1 rfl ?_
      obtain ⟨v4, ev4, hf⟩ := bd hf
      refine g_iald (M := mX8_paper) dX8_paper_69 ev4 ?_
      cases hf
      exact g_ret (M := mX8_paper) dX8_paper_70 rfl
    · replace hf := iff_ hf q11_0
      by_cases q11_1 : a2 = 1
      · replace hf := ift hf q11_1
        refine g_sw_in (M := mX8_paper) (off := 60) (tgt := 71) dX8_paper_11 (by rw [q11_1]; decide) (by rw [q11_1]; decide) (by rw [q11_1]; rfl) (by decide) ?_
        refine g_aload_n (M := mX8_paper) dX8_paper_71 rfl 0 rfl ?_
        obtain ⟨v5, ev5, hf⟩ := bd hf
        refine g_getR (M := mX8_paper) dX8_paper_72 flRX8_28 (fun _ => rfl) ev5 ?_
        refine g_iload_n (M := mX8_paper) dX8_paper_75 rfl 1 rfl ?_
        obtain ⟨v6, ev6, hf⟩ := bd hf
        refine g_iald (M := mX8_paper) dX8_paper_76 ev6 ?_
        cases hf
        exact g_ret (M := mX8_paper) dX8_paper_77 rfl
      · replace hf := iff_ hf q11_1
        by_cases q11_2 : a2 = 2
        · replace hf := ift hf q11_2
          refine g_sw_in (M := mX8_paper) (off := 67) (tgt := 78) dX8_paper_11 (by rw [q11_2]; decide) (by rw [q11_2]; decide) (by rw [q11_2]; rfl) (by decide) ?_
          refine g_aload_n (M := mX8_paper) dX8_paper_78 rfl 0 rfl ?_
          obtain ⟨v7, ev7, hf⟩ := bd hf
          refine g_getR (M := mX8_paper) dX8_paper_79 flRX8_31 (fun _ => rfl) ev7 ?_
          refine g_iload_n (M := mX8_paper) dX8_paper_82 rfl 1 rfl ?_
          obtain ⟨v8, ev8, hf⟩ := bd hf
          refine g_iald (M := mX8_paper) dX8_paper_83 ev8 ?_
          cases hf
          exact g_ret (M := mX8_paper) dX8_paper_84 rfl
        · replace hf := iff_ hf q11_2
          by_cases q11_3 : a2 = 3
          · replace hf := ift hf q11_3
            refine g_sw_in (M := mX8_paper) (off := 74) (tgt := 85) dX8_paper_11 (by rw [q11_3]; decide) (by rw [q11_3]; decide) (by rw [q11_3]; rfl) (by decide) ?_
            refine g_aload_n (M := mX8_paper) dX8_paper_85 rfl 0 rfl ?_
            obtain ⟨v9, ev9, hf⟩ := bd hf
            refine g_getR (M := mX8_paper) dX8_paper_86 flRX8_34 (fun _ => rfl) ev9 ?_
            refine g_iload_n (M := mX8_paper) dX8_paper_89 rfl 1 rfl ?_
            obtain ⟨v10, ev10, hf⟩ := bd hf
            refine g_iald (M := mX8_paper) dX8_paper_90 ev10 ?_
            cases hf
            exact g_ret (M := mX8_paper) dX8_paper_91 rfl
          · replace hf := iff_ hf q11_3
            by_cases q11_4 : a2 = 4
            · replace hf := ift hf q11_4
              refine g_sw_in (M := mX8_paper) (off := 81) (tgt := 92) dX8_paper_11 (by rw [q11_4]; decide) (by rw [q11_4]; decide) (by rw [q11_4]; rfl) (by decide) ?_
              refine g_aload_n (M := mX8_paper) dX8_paper_92 rfl 0 rfl ?_
              obtain ⟨v11, ev11, hf⟩ := bd hf
              refine g_getR (M := mX8_paper) dX8_paper_93 flRX8_37 (fun _ => rfl) ev11 ?_
              refine g_iload_n (M := mX8_paper) dX8_paper_96 rfl 1 rfl ?_
              obtain ⟨v12, ev12, hf⟩ := bd hf
              refine g_iald (M := mX8_paper) dX8_paper_97 ev12 ?_
              cases hf
              exact g_ret (M := mX8_paper) dX8_paper_98 rfl
            · replace hf := iff_ hf q11_4
              by_cases q11_5 : a2 = 5
              · replace hf := ift hf q11_5
                refine g_sw_in (M := mX8_paper) (off := 88) (tgt := 99) dX8_paper_11 (by rw [q11_5]; decide) (by rw [q11_5]; decide) (by rw [q11_5]; rfl) (by decide) ?_
                refine g_aload_n (M := mX8_paper) dX8_paper_99 rfl 0 rfl ?_
                obtain ⟨v13, ev13, hf⟩ := bd hf
                refine g_getR (M := mX8_paper) dX8_paper_100 flRX8_40 (fun _ => rfl) ev13 ?_
                refine g_iload_n (M := mX8_paper) dX8_paper_103 rfl 1 rfl ?_
                obtain ⟨v14, ev14, hf⟩ := bd hf
                refine g_iald (M := mX8_paper) dX8_paper_104 ev14 ?_
                cases hf
                exact g_ret (M := mX8_paper) dX8_paper_105 rfl
              · replace hf := iff_ hf q11_5
                by_cases q11_6 : a2 = 6
                · replace hf := ift hf q11_6
                  refine g_sw_in (M := mX8_paper) (off := 95) (tgt := 106) dX8_paper_11 (by rw [q11_6]; decide) (by rw [q11_6]; decide) (by rw [q11_6]; rfl) (by decide) ?_
                  refine g_aload_n (M := mX8_paper) dX8_paper_106 rfl 0 rfl ?_
                  obtain ⟨v15, ev15, hf⟩ := bd hf
                  refine g_getR (M := mX8_paper) dX8_paper_107 flRX8_43 (fun _ => rfl) ev15 ?_
                  refine g_iload_n (M := mX8_paper) dX8_paper_110 rfl 1 rfl ?_
                  obtain ⟨v16, ev16, hf⟩ := bd hf
                  refine g_iald (M := mX8_paper) dX8_paper_111 ev16 ?_
                  cases hf
                  exact g_ret (M := mX8_paper) dX8_paper_112 rfl
                · replace hf := iff_ hf q11_6
                  by_cases q11_7 : a2 = 7
                  · replace hf := ift hf q11_7
                    refine g_sw_in (M := mX8_paper) (off := 102) (tgt := 113) dX8_paper_11 (by rw [q11_7]; decide) (by rw [q11_7]; decide) (by rw [q11_7]; rfl) (by decide) ?_
                    refine g_aload_n (M := mX8_paper) dX8_paper_113 rfl 0 rfl ?_
                    obtain ⟨v17, ev17, hf⟩ := bd hf
                    refine g_getR (M := mX8_paper) dX8_paper_114 flRX8_46 (fun _ => rfl) ev17 ?_
                    refine g_iload_n (M := mX8_paper) dX8_paper_117 rfl 1 rfl ?_
                    obtain ⟨v18, ev18, hf⟩ := bd hf
                    refine g_iald (M := mX8_paper) dX8_paper_118 ev18 ?_
                    cases hf
                    exact g_ret (M := mX8_paper) dX8_paper_119 rfl
                  · replace hf := iff_ hf q11_7
                    by_cases q11_8 : a2 = 8
                    · replace hf := ift hf q11_8
                      refine g_sw_in (M := mX8_paper) (off := 109) (tgt := 120) dX8_paper_11 (by rw [q11_8]; decide) (by rw [q11_8]; decide) (by rw [q11_8]; rfl) (by decide) ?_
                      refine g_aload_n (M := mX8_paper) dX8_paper_120 rfl 0 rfl ?_
                      obtain ⟨v19, ev19, hf⟩ := bd hf
                      refine g_getR (M := mX8_paper) dX8_paper_121 flRX8_49 (fun _ => rfl) ev19 ?_
                      refine g_iload_n (M := mX8_paper) dX8_paper_124 rfl 1 rfl ?_
                      obtain ⟨v20, ev20, hf⟩ := bd hf
                      refine g_iald (M := mX8_paper) dX8_paper_125 ev20 ?_
                      cases hf
                      exact g_ret (M := mX8_paper) dX8_paper_126 rfl
                    · replace hf := iff_ hf q11_8
                      by_cases q11_9 : a2 = 9
                      · replace hf := ift hf q11_9
                        refine g_sw_in (M := mX8_paper) (off := 116) (tgt := 127) dX8_paper_11 (by rw [q11_9]; decide) (by rw [q11_9]; decide) (by rw [q11_9]; rfl) (by decide) ?_
                        refine g_aload_n (M := mX8_paper) dX8_paper_127 rfl 0 rfl ?_
                        obtain ⟨v21, ev21, hf⟩ := bd hf
                        refine g_getR (M := mX8_paper) dX8_paper_128 flRX8_52 (fun _ => rfl) ev21 ?_
                        refine g_iload_n (M := mX8_paper) dX8_paper_131 rfl 1 rfl ?_
                        obtain ⟨v22, ev22, hf⟩ := bd hf
                        refine g_iald (M := mX8_paper) dX8_paper_132 ev22 ?_
                        cases hf
                        exact g_ret (M := mX8_paper) dX8_paper_133 rfl
                      · replace hf := iff_ hf q11_9
                        refine g_sw_out (M := mX8_paper) (tgt := 134) dX8_paper_11 (sw_def 10 ⟨q11_0, q11_1, q11_2, q11_3, q11_4, q11_5, q11_6, q11_7, q11_8, q11_9, trivial⟩) (by decide) ?_
                        refine g_iconst (M := mX8_paper) (v := -1) dX8_paper_134 rfl ?_
                        cases hf
                        exact g_ret (M := mX8_paper) dX8_paper_135 rfl
  · replace hf := ift hf q5
    refine g_iconst (M := mX8_paper) (v := -1) dX8_paper_8 rfl ?_
    cases hf
    exact g_ret (M := mX8_paper) dX8_paper_9 rfl
theorem c_X8_paper (G : Gm) (a0 : Nat) (a1 : Int32) (a2 : Int32) (h : AH) (o : Int32) (hf : f_X8_paper a0 a1 a2 h = some o) : CT G yX8_paper mX8_paper (some .int) 0 0 [vr (some a0), vi a1, vi a2] h (some (vi o)) h :=
  CT.int (by decide +kernel) rfl rfl rfl (Nat.le_of_ble_eq_true rfl) (x_X8_paper G a0 a1 a2 h o hf)
theorem cbX8_paper : CB yX8_paper mX8_paper (some .int) 2 := ⟨cd_yX8_paper, itRX8, ⟨by decide, by decide⟩, by decide +kernel, by decide⟩
abbrev mX8_noted : MI := (RX8, "noted", cX8_noted, 2, .lreturn, 1)
def f_X8_noted_28  (h : AH) : Option Int64 :=
  some (0 : Int64)
theorem x_X8_noted_28 (G : Gm)  (h : AH) (o : Int64) (hf : f_X8_noted_28  h = some o) : GO G mX8_noted 0 0 28 [] [] h (some (vl o)) h := by
  unfold f_X8_noted_28 at hf
  refine g_lconst (M := mX8_noted) (v := 0) dX8_noted_28 (by decide) ?_
  cases hf
  exact g_ret (M := mX8_noted) dX8_noted_29 rfl
def f_X8_noted (a0 : Nat) (a1 : Int32) (h : AH) : Option Int64 :=
  (ck 8 h (some a0)).bind fun b1 =>
  (f_X8_isPaper b1 a1 h).bind fun r2 =>
  if (b2i r2) = 0 then (
    f_X8_noted_28 h
  ) else (
    (gR 8 9 h (some a0)).bind fun v3 =>
    (lI 10 h v3 a1).bind fun v4 =>
    if v4 = (9 : Int32) then (
      (gR 8 19 h (some a0)).bind fun v5 =>
      (lJ 11 h v5 a1).bind fun v6 =>
      some v6
    ) else (
      f_X8_noted_28 h
    )
  )
theorem x_X8_noted (G : Gm) (a0 : Nat) (a1 : Int32) (h : AH) (o : Int64) (hf : f_X8_noted a0 a1 h = some o) : GO G mX8_noted 0 0 0 [(0, vr (some a0)), (1, vi a1)] [] h (some (vl o)) h := by
  unfold f_X8_noted at hf
  refine g_aload_n (M := mX8_noted) dX8_noted_0 rfl 0 rfl ?_
  refine g_iload_n (M := mX8_noted) dX8_noted_1 rfl 1 rfl ?_
  obtain ⟨b1, eb1, hf⟩ := bd hf
  obtain ⟨r2, er2, hf⟩ := bd hf
  refine g_callV (M := mX8_noted) (kc := 0) (ks := 0) (as := [vi a1]) (rest := []) dX8_noted_2 cbX8_isPaper vwRX8_136 rfl eb1 rfl (Nat.le_of_ble_eq_true rfl) (Nat.le_of_ble_eq_true rfl) (c_X8_isPaper G b1 a1 h r2 er2) ?_
  refine g_if_eq (M := mX8_noted) (tgt := 28) dX8_noted_5 rfl (fun q5 => ?_) (fun q5 => ?_)
  · replace hf := ift hf q5
    exact g_sub (M := mX8_noted) (L2 := []) [] rfl <| x_X8_noted_28 G h _ hf
  · replace hf := iff_ hf q5
    refine g_aload_n (M := mX8_noted) dX8_noted_8 rfl 0 rfl ?_
    obtain ⟨v3, ev3, hf⟩ := bd hf
    refine g_getR (M := mX8_noted) dX8_noted_9 flRX8_25 (fun _ => rfl) ev3 ?_
    refine g_iload_n (M := mX8_noted) dX8_noted_12 rfl 1 rfl ?_
    obtain ⟨v4, ev4, hf⟩ := bd hf
    refine g_iald (M := mX8_noted) dX8_noted_13 ev4 ?_
    refine g_bipush (M := mX8_noted) (v := 9) dX8_noted_14 rfl ?_
    refine g_ic_ne (M := mX8_noted) (tgt := 28) dX8_noted_16 rfl (fun q16 => ?_) (fun q16 => ?_)
    · replace hf := iff_ hf q16
      exact g_sub (M := mX8_noted) (L2 := []) [] rfl <| x_X8_noted_28 G h _ hf
    · replace hf := ift hf q16
      refine g_aload_n (M := mX8_noted) dX8_noted_19 rfl 0 rfl ?_
      obtain ⟨v5, ev5, hf⟩ := bd hf
      refine g_getR (M := mX8_noted) dX8_noted_20 flRX8_55 (fun _ => rfl) ev5 ?_
      refine g_iload_n (M := mX8_noted) dX8_noted_23 rfl 1 rfl ?_
      obtain ⟨v6, ev6, hf⟩ := bd hf
      refine g_lald (M := mX8_noted) dX8_noted_24 ev6 ?_
      refine g_goto (M := mX8_noted) (tgt := 29) dX8_noted_25 rfl ?_
      cases hf
      exact g_ret (M := mX8_noted) dX8_noted_29 rfl
theorem c_X8_noted (G : Gm) (a0 : Nat) (a1 : Int32) (h : AH) (o : Int64) (hf : f_X8_noted a0 a1 h = some o) : CT G yX8_noted mX8_noted (some .long) 0 0 [vr (some a0), vi a1] h (some (vl o)) h :=
  CT.long (by decide +kernel) rfl rfl rfl (Nat.le_of_ble_eq_true rfl) (x_X8_noted G a0 a1 h o hf)
theorem cbX8_noted : CB yX8_noted mX8_noted (some .long) 1 := ⟨cd_yX8_noted, itRX8, ⟨by decide, by decide⟩, by decide +kernel, by decide⟩
abbrev mX8_annex : MI := (RX8, "annex", cX8_annex, 6, .ireturn, 1)
def f_X8_annex_89 : Nat → Nat → Int32 → Int32 → Int32 → Int32 → AH → Option (Int32 × AH)
  | 0, _, _, _, _, _, _ => none
  | n + 1, a0, a1, a3, a4, a5, h =>
    if a3 ≤ a5 then (
      some (a4 - ((8 : Int32) * a1), h)
    ) else (
      (gR 8 26 h (some a0)).bind fun v1 =>
      (stJ 11 h v1 (((100 : Int32) * a4) + a5) (0 : Int64)).bind fun h2 =>
      f_X8_annex_89 n a0 a1 a3 a4 (a5 + (1)) h2
    )
theorem x_X8_annex_89 (G : Gm) : ∀ (n : Nat) (a0 : Nat) (a1 : Int32) (a3 : Int32) (a4 : Int32) (a5 : Int32) (h : AH) (o : (Int32 × AH)), f_X8_annex_89 n a0 a1 a3 a4 a5 h = some o → GO G mX8_annex 0 0 89 [(0, vr (some a0)), (1, vi a1), (3, vi a3), (4, vi a4), (5, vi a5)] [] h (some (vi o.1)) o.2 := by
  intro n
  induction n with
  | zero => intro a0 a1 a3 a4 a5 h o hf; cases hf
  | succ n ih =>
    intro a0 a1 a3 a4 a5 h o hf
    rw [f_X8_annex_89] at hf
    refine g_iload (M := mX8_annex) dX8_annex_89 4 rfl ?_
    refine g_iload_n (M := mX8_annex) dX8_annex_91 rfl 2 rfl ?_
    refine g_ic_ge (M := mX8_annex) (tgt := 115) dX8_annex_92 rfl (fun q92 => ?_) (fun q92 => ?_)
    · replace hf := ift hf q92
      refine g_iload (M := mX8_annex) dX8_annex_115 3 rfl ?_
      refine g_bipush (M := mX8_annex) (v := 8) dX8_annex_117 rfl ?_
      refine g_iload_n (M := mX8_annex) dX8_annex_119 rfl 1 rfl ?_
      refine g_imul (M := mX8_annex) dX8_annex_120 ?_
      refine g_isub (M := mX8_annex) dX8_annex_121 ?_
      cases hf
      exact g_ret (M := mX8_annex) dX8_annex_122 rfl
    · replace hf := iff_ hf q92
      refine g_aload_n (M := mX8_annex) dX8_annex_95 rfl 0 rfl ?_
      obtain ⟨v1, ev1, hf⟩ := bd hf
      refine g_getR (M := mX8_annex) dX8_annex_96 flRX8_72 (fun _ => rfl) ev1 ?_
      refine g_bipush (M := mX8_annex) (v := 100) dX8_annex_99 rfl ?_
      refine g_iload (M := mX8_annex) dX8_annex_101 3 rfl ?_
      refine g_imul (M := mX8_annex) dX8_annex_103 ?_
      refine g_iload (M := mX8_annex) dX8_annex_104 4 rfl ?_
      refine g_iadd (M := mX8_annex) dX8_annex_106 ?_
      refine g_lconst (M := mX8_annex) (v := 0) dX8_annex_107 (by decide) ?_
      obtain ⟨h2, eh2, hf⟩ := bd hf
      refine g_last (M := mX8_annex) dX8_annex_108 eh2 ?_
      refine g_iinc (M := mX8_annex) (j := 4) (L2 := [(5, vi (a5 + (1))), (0, vr (some a0)), (1, vi a1), (3, vi a3), (4, vi a4)]) dX8_annex_109 rfl rfl (Nat.le_of_ble_eq_true rfl) rfl ?_
      refine g_goto (M := mX8_annex) (tgt := 89) dX8_annex_112 rfl ?_
      exact g_sub (M := mX8_annex) (L2 := [(0, vr (some a0)), (1, vi a1), (3, vi a3), (4, vi a4), (5, vi (a5 + (1)))]) [1, 2, 3, 4, 0] rfl <| ih a0 a1 a3 a4 (a5 + (1)) h2 _ hf
def f_X8_annex (a0 : Nat) (a1 : Int32) (a2 : Int32) (a3 : Int32) (h : AH) : Option (Int32 × AH) :=
  (ck 8 h (some a0)).bind fun b3 =>
  (f_X8_isAgreement b3 a1 h).bind fun r4 =>
  if (b2i r4) = 0 then (
    some ((-2 : Int32), h)
  ) else (
    if a2 < 0 then (
      some ((-2 : Int32), h)
    ) else (
      if (3 : Int32) < a2 then (
        some ((-2 : Int32), h)
      ) else (
        if a3 ≤ (100 : Int32) then (
          (gR 8 23 h (some a0)).bind fun v5 =>
          (lI 10 h v5 a1).bind fun v6 =>
          if v6 = (8 : Int32) then (
            some ((-8 : Int32), h)
          ) else (
            if 0 ≤ a3 then (
              (gR 8 23 h (some a0)).bind fun v7 =>
              (lI 10 h v7 a1).bind fun v8 =>
              (gR 8 23 h (some a0)).bind fun v9 =>
              (lI 10 h v9 a1).bind fun v10 =>
              (stI 10 h v9 a1 (v10 + (1 : Int32))).bind fun h11 =>
              (gR 8 24 h11 (some a0)).bind fun v12 =>
              (stI 10 h11 v12 (((8 : Int32) * a1) + v8) a2).bind fun h13 =>
              (gR 8 25 h13 (some a0)).bind fun v14 =>
              (stI 10 h13 v14 (((8 : Int32) * a1) + v8) a3).bind fun h15 =>
              f_X8_annex_89 FU a0 a1 a3 (((8 : Int32) * a1) + v8) (0 : Int32) h15
            ) else (
              some ((-3 : Int32), h)
            )
          )
        ) else (
          some ((-2 : Int32), h)
        )
      )
    )
  )
theorem x_X8_annex (G : Gm) (a0 : Nat) (a1 : Int32) (a2 : Int32) (a3 : Int32) (h : AH) (o : (Int32 × AH)) (hf : f_X8_annex a0 a1 a2 a3 h = some o) : GO G mX8_annex 0 0 0 [(0, vr (some a0)), (1, vi a1), (2, vi a2), (3, vi a3)] [] h (some (vi o.1)) o.2 := by
  unfold f_X8_annex at hf
  refine g_aload_n (M := mX8_annex) dX8_annex_0 rfl 0 rfl ?_
  refine g_iload_n (M := mX8_annex) dX8_annex_1 rfl 1 rfl ?_
  obtain ⟨b3, eb3, hf⟩ := bd hf
  obtain ⟨r4, er4, hf⟩ := bd hf
  refine g_callV (M := mX8_annex) (kc := 0) (ks := 0) (as := [vi a1]) (rest := []) dX8_annex_2 cbX8_isAgreement vwRX8_85 rfl eb3 rfl (Nat.le_of_ble_eq_true rfl) (Nat.le_of_ble_eq_true rfl) (c_X8_isAgreement G b3 a1 h r4 er4) ?_
  refine g_if_eq (M := mX8_annex) (tgt := 23) dX8_annex_5 rfl (fun q5 => ?_) (fun q5 => ?_)
  · replace hf := ift hf q5
    refine g_bipush (M := mX8_annex) (v := -2) dX8_annex_23 rfl ?_
    cases hf
    exact g_ret (M := mX8_annex) dX8_annex_25 rfl
  · replace hf := iff_ hf q5
    refine g_iload_n (M := mX8_annex) dX8_annex_8 rfl 2 rfl ?_
    refine g_if_lt (M := mX8_annex) (tgt := 23) dX8_annex_9 rfl (fun q9 => ?_) (fun q9 => ?_)
    · replace hf := ift hf q9
      refine g_bipush (M := mX8_annex) (v := -2) dX8_annex_23 rfl ?_
      cases hf
      exact g_ret (M := mX8_annex) dX8_annex_25 rfl
    · replace hf := iff_ hf q9
      refine g_iload_n (M := mX8_annex) dX8_annex_12 rfl 2 rfl ?_
      refine g_iconst (M := mX8_annex) (v := 3) dX8_annex_13 rfl ?_
      refine g_ic_gt (M := mX8_annex) (tgt := 23) dX8_annex_14 rfl (fun q14 => ?_) (fun q14 => ?_)
      · replace hf := ift hf q14
        refine g_bipush (M := mX8_annex) (v := -2) dX8_annex_23 rfl ?_
        cases hf
        exact g_ret (M := mX8_annex) dX8_annex_25 rfl
      · replace hf := iff_ hf q14
        refine g_iload_n (M := mX8_annex) dX8_annex_17 rfl 3 rfl ?_
        refine g_bipush (M := mX8_annex) (v := 100) dX8_annex_18 rfl ?_
        refine g_ic_le (M := mX8_annex) (tgt := 26) dX8_annex_20 rfl (fun q20 => ?_) (fun q20 => ?_)
        · replace hf := ift hf q20
          refine g_aload_n (M := mX8_annex) dX8_annex_26 rfl 0 rfl ?_
          obtain ⟨v5, ev5, hf⟩ := bd hf
          refine g_getR (M := mX8_annex) dX8_annex_27 flRX8_63 (fun _ => rfl) ev5 ?_
          refine g_iload_n (M := mX8_annex) dX8_annex_30 rfl 1 rfl ?_
          obtain ⟨v6, ev6, hf⟩ := bd hf
          refine g_iald (M := mX8_annex) dX8_annex_31 ev6 ?_
          refine g_bipush (M := mX8_annex) (v := 8) dX8_annex_32 rfl ?_
          refine g_ic_ne (M := mX8_annex) (tgt := 40) dX8_annex_34 rfl (fun q34 => ?_) (fun q34 => ?_)
          · replace hf := iff_ hf q34
            refine g_iload_n (M := mX8_annex) dX8_annex_40 rfl 3 rfl ?_
            refine g_if_ge (M := mX8_annex) (tgt := 47) dX8_annex_41 rfl (fun q41 => ?_) (fun q41 => ?_)
            · replace hf := ift hf q41
              refine g_bipush (M := mX8_annex) (v := 8) dX8_annex_47 rfl ?_
              refine g_iload_n (M := mX8_annex) dX8_annex_49 rfl 1 rfl ?_
              refine g_imul (M := mX8_annex) dX8_annex_50 ?_
              refine g_aload_n (M := mX8_annex) dX8_annex_51 rfl 0 rfl ?_
              obtain ⟨v7, ev7, hf⟩ := bd hf
              refine g_getR (M := mX8_annex) dX8_annex_52 flRX8_63 (fun _ => rfl) ev7 ?_
              refine g_iload_n (M := mX8_annex) dX8_annex_55 rfl 1 rfl ?_
              obtain ⟨v8, ev8, hf⟩ := bd hf
              refine g_iald (M := mX8_annex) dX8_annex_56 ev8 ?_
              refine g_iadd (M := mX8_annex) dX8_annex_57 ?_
              refine g_istore (M := mX8_annex) (L2 := [(4, vi (((8 : Int32) * a1) + v8)), (0, vr (some a0)), (1, vi a1), (2, vi a2), (3, vi a3)]) dX8_annex_58 (Nat.le_of_ble_eq_true rfl) rfl ?_
              refine g_aload_n (M := mX8_annex) dX8_annex_60 rfl 1 rfl ?_
              obtain ⟨v9, ev9, hf⟩ := bd hf
              refine g_getR (M := mX8_annex) dX8_annex_61 flRX8_63 (fun _ => rfl) ev9 ?_
              refine g_iload_n (M := mX8_annex) dX8_annex_64 rfl 2 rfl ?_
              refine g_dup2 (M := mX8_annex) dX8_annex_65 rfl rfl ?_
              obtain ⟨v10, ev10, hf⟩ := bd hf
              refine g_iald (M := mX8_annex) dX8_annex_66 ev10 ?_
              refine g_iconst (M := mX8_annex) (v := 1) dX8_annex_67 rfl ?_
              refine g_iadd (M := mX8_annex) dX8_annex_68 ?_
              obtain ⟨h11, eh11, hf⟩ := bd hf
              refine g_iast (M := mX8_annex) dX8_annex_69 eh11 ?_
              refine g_aload_n (M := mX8_annex) dX8_annex_70 rfl 1 rfl ?_
              obtain ⟨v12, ev12, hf⟩ := bd hf
              refine g_getR (M := mX8_annex) dX8_annex_71 flRX8_66 (fun _ => rfl) ev12 ?_
              refine g_iload (M := mX8_annex) dX8_annex_74 0 rfl ?_
              refine g_iload_n (M := mX8_annex) dX8_annex_76 rfl 3 rfl ?_
              obtain ⟨h13, eh13, hf⟩ := bd hf
              refine g_iast (M := mX8_annex) dX8_annex_77 eh13 ?_
              refine g_aload_n (M := mX8_annex) dX8_annex_78 rfl 1 rfl ?_
              obtain ⟨v14, ev14, hf⟩ := bd hf
              refine g_getR (M := mX8_annex) dX8_annex_79 flRX8_69 (fun _ => rfl) ev14 ?_
              refine g_iload (M := mX8_annex) dX8_annex_82 0 rfl ?_
              refine g_iload_n (M := mX8_annex) dX8_annex_84 rfl 4 rfl ?_
              obtain ⟨h15, eh15, hf⟩ := bd hf
              refine g_iast (M := mX8_annex) dX8_annex_85 eh15 ?_
              refine g_iconst (M := mX8_annex) (v := 0) dX8_annex_86 rfl ?_
              refine g_istore (M := mX8_annex) (L2 := [(5, vi (0 : Int32)), (4, vi (((8 : Int32) * a1) + v8)), (0, vr (some a0)), (1, vi a1), (2, vi a2), (3, vi a3)]) dX8_annex_87 (Nat.le_of_ble_eq_true rfl) rfl ?_
              exact g_sub (M := mX8_annex) (L2 := [(0, vr (some a0)), (1, vi a1), (3, vi a3), (4, vi (((8 : Int32) * a1) + v8)), (5, vi (0 : Int32))]) [2, 3, 5, 1, 0] rfl <| x_X8_annex_89 G FU a0 a1 a3 (((8 : Int32) * a1) + v8) (0 : Int32) h15 _ hf
            · replace hf := iff_ hf q41
              refine g_bipush (M := mX8_annex) (v := -3) dX8_annex_44 rfl ?_
              cases hf
              exact g_ret (M := mX8_annex) dX8_annex_46 rfl
          · replace hf := ift hf q34
            refine g_bipush (M := mX8_annex) (v := -8) dX8_annex_37 rfl ?_
            cases hf
            exact g_ret (M := mX8_annex) dX8_annex_39 rfl
        · replace hf := iff_ hf q20
          refine g_bipush (M := mX8_annex) (v := -2) dX8_annex_23 rfl ?_
          cases hf
          exact g_ret (M := mX8_annex) dX8_annex_25 rfl
theorem c_X8_annex (G : Gm) (a0 : Nat) (a1 : Int32) (a2 : Int32) (a3 : Int32) (h : AH) (o : (Int32 × AH)) (hf : f_X8_annex a0 a1 a2 a3 h = some o) : CT G yX8_annex mX8_annex (some .int) 0 0 [vr (some a0), vi a1, vi a2, vi a3] h (some (vi o.1)) o.2 :=
  CT.int (by decide +kernel) rfl rfl rfl (Nat.le_of_ble_eq_true rfl) (x_X8_annex G a0 a1 a2 a3 h o hf)
theorem cbX8_annex : CB yX8_annex mX8_annex (some .int) 3 := ⟨cd_yX8_annex, itRX8, ⟨by decide, by decide⟩, by decide +kernel, by decide⟩
abbrev mX8_isAnnex : MI := (RX8, "isAnnex", cX8_isAnnex, 3, .ireturn, 1)
def f_X8_isAnnex (a0 : Nat) (a1 : Int32) (a2 : Int32) (h : AH) : Option Bool :=
  (ck 8 h (some a0)).bind fun b1 =>
  (f_X8_isAgreement b1 a1 h).bind fun r2 =>
  if (b2i r2) = 0 then (
    some false
  ) else (
    if a2 < 0 then (
      some false
    ) else (
      (gR 8 23 h (some a0)).bind fun v3 =>
      (lI 10 h v3 a1).bind fun v4 =>
      if v4 ≤ a2 then (
        some false
      ) else (
        some true
      )
    )
  )
theorem x_X8_isAnnex (G : Gm) (a0 : Nat) (a1 : Int32) (a2 : Int32) (h : AH) (o : Bool) (hf : f_X8_isAnnex a0 a1 a2 h = some o) : GO G mX8_isAnnex 0 0 0 [(0, vr (some a0)), (1, vi a1), (2, vi a2)] [] h (some (vi (b2i o))) h := by
  unfold f_X8_isAnnex at hf
  refine g_aload_n (M := mX8_isAnnex) dX8_isAnnex_0 rfl 0 rfl ?_
  refine g_iload_n (M := mX8_isAnnex) dX8_isAnnex_1 rfl 1 rfl ?_
  obtain ⟨b1, eb1, hf⟩ := bd hf
  obtain ⟨r2, er2, hf⟩ := bd hf
  refine g_callV (M := mX8_isAnnex) (kc := 0) (ks := 0) (as := [vi a1]) (rest := []) dX8_isAnnex_2 cbX8_isAgreement vwRX8_85 rfl eb1 rfl (Nat.le_of_ble_eq_true rfl) (Nat.le_of_ble_eq_true rfl) (c_X8_isAgreement G b1 a1 h r2 er2) ?_
  refine g_if_eq (M := mX8_isAnnex) (tgt := 26) dX8_isAnnex_5 rfl (fun q5 => ?_) (fun q5 => ?_)
  · replace hf := ift hf q5
    refine g_iconst (M := mX8_isAnnex) (v := 0) dX8_isAnnex_26 rfl ?_
    cases hf
    exact g_ret (M := mX8_isAnnex) dX8_isAnnex_27 rfl
  · replace hf := iff_ hf q5
    refine g_iload_n (M := mX8_isAnnex) dX8_isAnnex_8 rfl 2 rfl ?_
    refine g_if_lt (M := mX8_isAnnex) (tgt := 26) dX8_isAnnex_9 rfl (fun q9 => ?_) (fun q9 => ?_)
    · replace hf := ift hf q9
      refine g_iconst (M := mX8_isAnnex) (v := 0) dX8_isAnnex_26 rfl ?_
      cases hf
      exact g_ret (M := mX8_isAnnex) dX8_isAnnex_27 rfl
    · replace hf := iff_ hf q9
      refine g_iload_n (M := mX8_isAnnex) dX8_isAnnex_12 rfl 2 rfl ?_
      refine g_aload_n (M := mX8_isAnnex) dX8_isAnnex_13 rfl 0 rfl ?_
      obtain ⟨v3, ev3, hf⟩ := bd hf
      refine g_getR (M := mX8_isAnnex) dX8_isAnnex_14 flRX8_63 (fun _ => rfl) ev3 ?_
      refine g_iload_n (M := mX8_isAnnex) dX8_isAnnex_17 rfl 1 rfl ?_
      obtain ⟨v4, ev4, hf⟩ := bd hf
      refine g_iald (M := mX8_isAnnex) dX8_isAnnex_18 ev4 ?_
      refine g_ic_ge (M := mX8_isAnnex) (tgt := 26) dX8_isAnnex_19 rfl (fun q19 => ?_) (fun q19 => ?_)
      · replace hf := ift hf q19
        refine g_iconst (M := mX8_isAnnex) (v := 0) dX8_isAnnex_26 rfl ?_
        cases hf
        exact g_ret (M := mX8_isAnnex) dX8_isAnnex_27 rfl
      · replace hf := iff_ hf q19
        refine g_iconst (M := mX8_isAnnex) (v := 1) dX8_isAnnex_22 rfl ?_
        refine g_goto (M := mX8_isAnnex) (tgt := 27) dX8_isAnnex_23 rfl ?_
        cases hf
        exact g_ret (M := mX8_isAnnex) dX8_isAnnex_27 rfl
theorem c_X8_isAnnex (G : Gm) (a0 : Nat) (a1 : Int32) (a2 : Int32) (h : AH) (o : Bool) (hf : f_X8_isAnnex a0 a1 a2 h = some o) : CT G yX8_isAnnex mX8_isAnnex (some .boolean) 0 0 [vr (some a0), vi a1, vi a2] h (some (vi (b2i o))) h :=
  CT.bool (by decide +kernel) rfl rfl rfl (Nat.le_of_ble_eq_true rfl) (b2i_01 _) (x_X8_isAnnex G a0 a1 a2 h o hf)
theorem cbX8_isAnnex : CB yX8_isAnnex mX8_isAnnex (some .boolean) 2 := ⟨cd_yX8_isAnnex, itRX8, ⟨by decide, by decide⟩, by decide +kernel, by decide⟩
abbrev mX8_tear : MI := (RX8, "tear", cX8_tear, 3, .ireturn, 2)
def f_X8_tear (a0 : Nat) (a1 : Int32) (a2 : Int32) (h : AH) : Option (Bool × AH) :=
  (ck 8 h (some a0)).bind fun b1 =>
  (f_X8_isAnnex b1 a1 a2 h).bind fun r2 =>
  if (b2i r2) = 0 then (
    some (false, h)
  ) else (
    (gR 8 25 h (some a0)).bind fun v3 =>
    (lI 10 h v3 (((8 : Int32) * a1) + a2)).bind fun v4 =>
    if 0 ≤ v4 then (
      (gR 8 25 h (some a0)).bind fun v5 =>
      (stI 10 h v5 (((8 : Int32) * a1) + a2) (-1 : Int32)).bind fun h6 =>
      some (true, h6)
    ) else (
      some (false, h)
    )
  )
theorem x_X8_tear (G : Gm) (a0 : Nat) (a1 : Int32) (a2 : Int32) (h : AH) (o : (Bool × AH)) (hf : f_X8_tear a0 a1 a2 h = some o) : GO G mX8_tear 0 0 0 [(0, vr (some a0)), (1, vi a1), (2, vi a2)] [] h (some (vi (b2i o.1))) o.2 := by
  unfold f_X8_tear at hf
  refine g_aload_n (M := mX8_tear) dX8_tear_0 rfl 0 rfl ?_
  refine g_iload_n (M := mX8_tear) dX8_tear_1 rfl 1 rfl ?_
  refine g_iload_n (M := mX8_tear) dX8_tear_2 rfl 2 rfl ?_
  obtain ⟨b1, eb1, hf⟩ := bd hf
  obtain ⟨r2, er2, hf⟩ := bd hf
  refine g_callV (M := mX8_tear) (kc := 0) (ks := 0) (as := [vi a1, vi a2]) (rest := []) dX8_tear_3 cbX8_isAnnex vwRX8_192 rfl eb1 rfl (Nat.le_of_ble_eq_true rfl) (Nat.le_of_ble_eq_true rfl) (c_X8_isAnnex G b1 a1 a2 h r2 er2) ?_
  refine g_if_eq (M := mX8_tear) (tgt := 23) dX8_tear_6 rfl (fun q6 => ?_) (fun q6 => ?_)
  · replace hf := ift hf q6
    refine g_iconst (M := mX8_tear) (v := 0) dX8_tear_23 rfl ?_
    cases hf
    exact g_ret (M := mX8_tear) dX8_tear_24 rfl
  · replace hf := iff_ hf q6
    refine g_aload_n (M := mX8_tear) dX8_tear_9 rfl 0 rfl ?_
    obtain ⟨v3, ev3, hf⟩ := bd hf
    refine g_getR (M := mX8_tear) dX8_tear_10 flRX8_69 (fun _ => rfl) ev3 ?_
    refine g_bipush (M := mX8_tear) (v := 8) dX8_tear_13 rfl ?_
    refine g_iload_n (M := mX8_tear) dX8_tear_15 rfl 1 rfl ?_
    refine g_imul (M := mX8_tear) dX8_tear_16 ?_
    refine g_iload_n (M := mX8_tear) dX8_tear_17 rfl 2 rfl ?_
    refine g_iadd (M := mX8_tear) dX8_tear_18 ?_
    obtain ⟨v4, ev4, hf⟩ := bd hf
    refine g_iald (M := mX8_tear) dX8_tear_19 ev4 ?_
    refine g_if_ge (M := mX8_tear) (tgt := 25) dX8_tear_20 rfl (fun q20 => ?_) (fun q20 => ?_)
    · replace hf := ift hf q20
      refine g_aload_n (M := mX8_tear) dX8_tear_25 rfl 0 rfl ?_
      obtain ⟨v5, ev5, hf⟩ := bd hf
      refine g_getR (M := mX8_tear) dX8_tear_26 flRX8_69 (fun _ => rfl) ev5 ?_
      refine g_bipush (M := mX8_tear) (v := 8) dX8_tear_29 rfl ?_
      refine g_iload_n (M := mX8_tear) dX8_tear_31 rfl 1 rfl ?_
      refine g_imul (M := mX8_tear) dX8_tear_32 ?_
      refine g_iload_n (M := mX8_tear) dX8_tear_33 rfl 2 rfl ?_
      refine g_iadd (M := mX8_tear) dX8_tear_34 ?_
      refine g_iconst (M := mX8_tear) (v := -1) dX8_tear_35 rfl ?_
      obtain ⟨h6, eh6, hf⟩ := bd hf
      refine g_iast (M := mX8_tear) dX8_tear_36 eh6 ?_
      refine g_iconst (M := mX8_tear) (v := 1) dX8_tear_37 rfl ?_
      cases hf
      exact g_ret (M := mX8_tear) dX8_tear_38 rfl
    · replace hf := iff_ hf q20
      refine g_iconst (M := mX8_tear) (v := 0) dX8_tear_23 rfl ?_
      cases hf
      exact g_ret (M := mX8_tear) dX8_tear_24 rfl
theorem c_X8_tear (G : Gm) (a0 : Nat) (a1 : Int32) (a2 : Int32) (h : AH) (o : (Bool × AH)) (hf : f_X8_tear a0 a1 a2 h = some o) : CT G yX8_tear mX8_tear (some .boolean) 0 0 [vr (some a0), vi a1, vi a2] h (some (vi (b2i o.1))) o.2 :=
  CT.bool (by decide +kernel) rfl rfl rfl (Nat.le_of_ble_eq_true rfl) (b2i_01 _) (x_X8_tear G a0 a1 a2 h o hf)
theorem cbX8_tear : CB yX8_tear mX8_tear (some .boolean) 2 := ⟨cd_yX8_tear, itRX8, ⟨by decide, by decide⟩, by decide +kernel, by decide⟩
abbrev mX8_wrong : MI := (RX8, "wrong", cX8_wrong, 5, .ireturn, 2)
def f_X8_wrong (a0 : Nat) (a1 : Int32) (a2 : Int32) (a3 : Int32) (h : AH) : Option Int32 :=
  (ck 8 h (some a0)).bind fun b1 =>
  (f_X8_isAnnex b1 a1 a2 h).bind fun r2 =>
  if (b2i r2) = 0 then (
    some (-2 : Int32)
  ) else (
    (gR 8 25 h (some a0)).bind fun v3 =>
    (lI 10 h v3 (((8 : Int32) * a1) + a2)).bind fun v4 =>
    if 0 ≤ v4 then (
      if a3 < 0 then (
        some (-6 : Int32)
      ) else (
        if a3 < v4 then (
          some (0 : Int32)
        ) else (
          some (-6 : Int32)
        )
      )
    ) else (
      some (-5 : Int32)
    )
  )
theorem x_X8_wrong (G : Gm) (a0 : Nat) (a1 : Int32) (a2 : Int32) (a3 : Int32) (h : AH) (o : Int32) (hf : f_X8_wrong a0 a1 a2 a3 h = some o) : GO G mX8_wrong 0 0 0 [(0, vr (some a0)), (1, vi a1), (2, vi a2), (3, vi a3)] [] h (some (vi o)) h := by
  unfold f_X8_wrong at hf
  refine g_aload_n (M := mX8_wrong) dX8_wrong_0 rfl 0 rfl ?_
  refine g_iload_n (M := mX8_wrong) dX8_wrong_1 rfl 1 rfl ?_
  refine g_iload_n (M := mX8_wrong) dX8_wrong_2 rfl 2 rfl ?_
  obtain ⟨b1, eb1, hf⟩ := bd hf
  obtain ⟨r2, er2, hf⟩ := bd hf
  refine g_callV (M := mX8_wrong) (kc := 0) (ks := 0) (as := [vi a1, vi a2]) (rest := []) dX8_wrong_3 cbX8_isAnnex vwRX8_192 rfl eb1 rfl (Nat.le_of_ble_eq_true rfl) (Nat.le_of_ble_eq_true rfl) (c_X8_isAnnex G b1 a1 a2 h r2 er2) ?_
  refine g_if_ne (M := mX8_wrong) (tgt := 12) dX8_wrong_6 rfl (fun q6 => ?_) (fun q6 => ?_)
  · replace hf := iff_ hf q6
    refine g_aload_n (M := mX8_wrong) dX8_wrong_12 rfl 0 rfl ?_
    obtain ⟨v3, ev3, hf⟩ := bd hf
    refine g_getR (M := mX8_wrong) dX8_wrong_13 flRX8_69 (fun _ => rfl) ev3 ?_
    refine g_bipush (M := mX8_wrong) (v := 8) dX8_wrong_16 rfl ?_
    refine g_iload_n (M := mX8_wrong) dX8_wrong_18 rfl 1 rfl ?_
    refine g_imul (M := mX8_wrong) dX8_wrong_19 ?_
    refine g_iload_n (M := mX8_wrong) dX8_wrong_20 rfl 2 rfl ?_
    refine g_iadd (M := mX8_wrong) dX8_wrong_21 ?_
    obtain ⟨v4, ev4, hf⟩ := bd hf
    refine g_iald (M := mX8_wrong) dX8_wrong_22 ev4 ?_
    refine g_istore (M := mX8_wrong) (L2 := [(4, vi v4), (0, vr (some a0)), (1, vi a1), (2, vi a2), (3, vi a3)]) dX8_wrong_23 (Nat.le_of_ble_eq_true rfl) rfl ?_
    refine g_iload (M := mX8_wrong) dX8_wrong_25 0 rfl ?_
    refine g_if_ge (M := mX8_wrong) (tgt := 35) dX8_wrong_27 rfl (fun q27 => ?_) (fun q27 => ?_)
    · replace hf := ift hf q27
      refine g_iload_n (M := mX8_wrong) dX8_wrong_35 rfl 4 rfl ?_
      refine g_if_lt (M := mX8_wrong) (tgt := 45) dX8_wrong_36 rfl (fun q36 => ?_) (fun q36 => ?_)
      · replace hf := ift hf q36
        refine g_bipush (M := mX8_wrong) (v := -6) dX8_wrong_45 rfl ?_
        refine g_goto (M := mX8_wrong) (tgt := 51) dX8_wrong_47 rfl ?_
        cases hf
        exact g_ret (M := mX8_wrong) dX8_wrong_51 rfl
      · replace hf := iff_ hf q36
        refine g_iload_n (M := mX8_wrong) dX8_wrong_39 rfl 4 rfl ?_
        refine g_iload (M := mX8_wrong) dX8_wrong_40 0 rfl ?_
        refine g_ic_lt (M := mX8_wrong) (tgt := 50) dX8_wrong_42 rfl (fun q42 => ?_) (fun q42 => ?_)
        · replace hf := ift hf q42
          refine g_iconst (M := mX8_wrong) (v := 0) dX8_wrong_50 rfl ?_
          cases hf
          exact g_ret (M := mX8_wrong) dX8_wrong_51 rfl
        · replace hf := iff_ hf q42
          refine g_bipush (M := mX8_wrong) (v := -6) dX8_wrong_45 rfl ?_
          refine g_goto (M := mX8_wrong) (tgt := 51) dX8_wrong_47 rfl ?_
          cases hf
          exact g_ret (M := mX8_wrong) dX8_wrong_51 rfl
    · replace hf := iff_ hf q27
      refine g_bipush (M := mX8_wrong) (v := -5) dX8_wrong_30 rfl ?_
      refine g_goto (M := mX8_wrong) (tgt := 51) dX8_wrong_32 rfl ?_
      cases hf
      exact g_ret (M := mX8_wrong) dX8_wrong_51 rfl
  · replace hf := ift hf q6
    refine g_bipush (M := mX8_wrong) (v := -2) dX8_wrong_9 rfl ?_
    cases hf
    exact g_ret (M := mX8_wrong) dX8_wrong_11 rfl
theorem c_X8_wrong (G : Gm) (a0 : Nat) (a1 : Int32) (a2 : Int32) (a3 : Int32) (h : AH) (o : Int32) (hf : f_X8_wrong a0 a1 a2 a3 h = some o) : CT G yX8_wrong mX8_wrong (some .int) 0 0 [vr (some a0), vi a1, vi a2, vi a3] h (some (vi o)) h :=
  CT.int (by decide +kernel) rfl rfl rfl (Nat.le_of_ble_eq_true rfl) (x_X8_wrong G a0 a1 a2 a3 h o hf)
theorem cbX8_wrong : CB yX8_wrong mX8_wrong (some .int) 3 := ⟨cd_yX8_wrong, itRX8, ⟨by decide, by decide⟩, by decide +kernel, by decide⟩
abbrev mX8_write : MI := (RX8, "write", cX8_write, 8, .ireturn, 3)
def f_X8_write_84 (a6 : Int32) (s0 : Option Nat) (s1 : Int32) (s2 : Int64) (h : AH) : Option (Int32 × AH) :=
  (stJ 11 h s0 s1 s2).bind fun h1 =>
  some (a6, h1)
theorem x_X8_write_84 (G : Gm) (a6 : Int32) (s0 : Option Nat) (s1 : Int32) (s2 : Int64) (h : AH) (o : (Int32 × AH)) (hf : f_X8_write_84 a6 s0 s1 s2 h = some o) : GO G mX8_write 0 0 84 [(6, vi a6)] [vl s2, vi s1, vr s0] h (some (vi o.1)) o.2 := by
  unfold f_X8_write_84 at hf
  obtain ⟨h1, eh1, hf⟩ := bd hf
  refine g_last (M := mX8_write) dX8_write_84 eh1 ?_
  refine g_iload (M := mX8_write) dX8_write_85 0 rfl ?_
  cases hf
  exact g_ret (M := mX8_write) dX8_write_87 rfl
def f_X8_write (a0 : Nat) (a1 : Int32) (a2 : Int32) (a3 : Int32) (a4 : Int64) (h : AH) : Option (Int32 × AH) :=
  (ck 8 h (some a0)).bind fun b2 =>
  (f_X8_wrong b2 a1 a2 a3 h).bind fun r3 =>
  if r3 = 0 then (
    (gR 8 24 h (some a0)).bind fun v4 =>
    (lI 10 h v4 (((8 : Int32) * a1) + a2)).bind fun v5 =>
    (gR 8 26 h (some a0)).bind fun v6 =>
    if v5 = 0 then (
      f_X8_write_84 r3 v6 (((100 : Int32) * (((8 : Int32) * a1) + a2)) + a3) a4.toInt32.toInt8.toInt32.toInt64 h
    ) else (
      if v5 = (1 : Int32) then (
        f_X8_write_84 r3 v6 (((100 : Int32) * (((8 : Int32) * a1) + a2)) + a3) a4.toInt32.toInt16.toInt32.toInt64 h
      ) else (
        if v5 = (2 : Int32) then (
          f_X8_write_84 r3 v6 (((100 : Int32) * (((8 : Int32) * a1) + a2)) + a3) a4.toInt32.toInt64 h
        ) else (
          f_X8_write_84 r3 v6 (((100 : Int32) * (((8 : Int32) * a1) + a2)) + a3) a4 h
        )
      )
    )
  ) else (
    some (r3, h)
  )
theorem x_X8_write (G : Gm) (a0 : Nat) (a1 : Int32) (a2 : Int32) (a3 : Int32) (a4 : Int64) (h : AH) (o : (Int32 × AH)) (hf : f_X8_write a0 a1 a2 a3 a4 h = some o) : GO G mX8_write 0 0 0 [(0, vr (some a0)), (1, vi a1), (2, vi a2), (3, vi a3), (4, vl a4)] [] h (some (vi o.1)) o.2 := by
  unfold f_X8_write at hf
  refine g_aload_n (M := mX8_write) dX8_write_0 rfl 0 rfl ?_
  refine g_iload_n (M := mX8_write) dX8_write_1 rfl 1 rfl ?_
  refine g_iload_n (M := mX8_write) dX8_write_2 rfl 2 rfl ?_
  refine g_iload_n (M := mX8_write) dX8_write_3 rfl 3 rfl ?_
  obtain ⟨b2, eb2, hf⟩ := bd hf
  obtain ⟨r3, er3, hf⟩ := bd hf
  refine g_callV (M := mX8_write) (kc := 0) (ks := 0) (as := [vi a1, vi a2, vi a3]) (rest := []) dX8_write_4 cbX8_wrong vwRX8_195 rfl eb2 rfl (Nat.le_of_ble_eq_true rfl) (Nat.le_of_ble_eq_true rfl) (c_X8_wrong G b2 a1 a2 a3 h r3 er3) ?_
  refine g_istore (M := mX8_write) (L2 := [(6, vi r3), (0, vr (some a0)), (1, vi a1), (2, vi a2), (3, vi a3), (4, vl a4)]) dX8_write_7 (Nat.le_of_ble_eq_true rfl) rfl ?_
  refine g_iload (M := mX8_write) dX8_write_9 0 rfl ?_
  refine g_if_ne (M := mX8_write) (tgt := 85) dX8_write_11 rfl (fun q11 => ?_) (fun q11 => ?_)
  · replace hf := iff_ hf q11
    refine g_iload (M := mX8_write) dX8_write_85 0 rfl ?_
    cases hf
    exact g_ret (M := mX8_write) dX8_write_87 rfl
  · replace hf := ift hf q11
    refine g_aload_n (M := mX8_write) dX8_write_14 rfl 1 rfl ?_
    obtain ⟨v4, ev4, hf⟩ := bd hf
    refine g_getR (M := mX8_write) dX8_write_15 flRX8_66 (fun _ => rfl) ev4 ?_
    refine g_bipush (M := mX8_write) (v := 8) dX8_write_18 rfl ?_
    refine g_iload_n (M := mX8_write) dX8_write_20 rfl 2 rfl ?_
    refine g_imul (M := mX8_write) dX8_write_21 ?_
    refine g_iload_n (M := mX8_write) dX8_write_22 rfl 3 rfl ?_
    refine g_iadd (M := mX8_write) dX8_write_23 ?_
    obtain ⟨v5, ev5, hf⟩ := bd hf
    refine g_iald (M := mX8_write) dX8_write_24 ev5 ?_
    refine g_istore (M := mX8_write) (L2 := [(7, vi v5), (6, vi r3), (0, vr (some a0)), (1, vi a1), (2, vi a2), (3, vi a3), (4, vl a4)]) dX8_write_25 (Nat.le_of_ble_eq_true rfl) rfl ?_
    refine g_aload_n (M := mX8_write) dX8_write_27 rfl 2 rfl ?_
    obtain ⟨v6, ev6, hf⟩ := bd hf
    refine g_getR (M := mX8_write) dX8_write_28 flRX8_72 (fun _ => rfl) ev6 ?_
    refine g_bipush (M := mX8_write) (v := 100) dX8_write_31 rfl ?_
    refine g_bipush (M := mX8_write) (v := 8) dX8_write_33 rfl ?_
    refine g_iload_n (M := mX8_write) dX8_write_35 rfl 3 rfl ?_
    refine g_imul (M := mX8_write) dX8_write_36 ?_
    refine g_iload_n (M := mX8_write) dX8_write_37 rfl 4 rfl ?_
    refine g_iadd (M := mX8_write) dX8_write_38 ?_
    refine g_imul (M := mX8_write) dX8_write_39 ?_
    refine g_iload_n (M := mX8_write) dX8_write_40 rfl 5 rfl ?_
    refine g_iadd (M := mX8_write) dX8_write_41 ?_
    refine g_iload (M := mX8_write) dX8_write_42 0 rfl ?_
    refine g_if_ne (M := mX8_write) (tgt := 55) dX8_write_44 rfl (fun q44 => ?_) (fun q44 => ?_)
    · replace hf := iff_ hf q44
      refine g_iload (M := mX8_write) dX8_write_55 0 rfl ?_
      refine g_iconst (M := mX8_write) (v := 1) dX8_write_57 rfl ?_
      refine g_ic_ne (M := mX8_write) (tgt := 69) dX8_write_58 rfl (fun q58 => ?_) (fun q58 => ?_)
      · replace hf := iff_ hf q58
        refine g_iload (M := mX8_write) dX8_write_69 0 rfl ?_
        refine g_iconst (M := mX8_write) (v := 2) dX8_write_71 rfl ?_
        refine g_ic_ne (M := mX8_write) (tgt := 82) dX8_write_72 rfl (fun q72 => ?_) (fun q72 => ?_)
        · replace hf := iff_ hf q72
          refine g_lload (M := mX8_write) dX8_write_82 6 rfl ?_
          exact g_sub (M := mX8_write) (L2 := [(6, vi r3)]) [1] rfl <| x_X8_write_84 G r3 v6 (((100 : Int32) * (((8 : Int32) * a1) + a2)) + a3) a4 h _ hf
        · replace hf := ift hf q72
          refine g_lload (M := mX8_write) dX8_write_75 6 rfl ?_
          refine g_l2i (M := mX8_write) dX8_write_77 ?_
          refine g_i2l (M := mX8_write) dX8_write_78 ?_
          refine g_goto (M := mX8_write) (tgt := 84) dX8_write_79 rfl ?_
          exact g_sub (M := mX8_write) (L2 := [(6, vi r3)]) [1] rfl <| x_X8_write_84 G r3 v6 (((100 : Int32) * (((8 : Int32) * a1) + a2)) + a3) a4.toInt32.toInt64 h _ hf
      · replace hf := ift hf q58
        refine g_lload (M := mX8_write) dX8_write_61 6 rfl ?_
        refine g_l2i (M := mX8_write) dX8_write_63 ?_
        refine g_i2s (M := mX8_write) dX8_write_64 ?_
        refine g_i2l (M := mX8_write) dX8_write_65 ?_
        refine g_goto (M := mX8_write) (tgt := 84) dX8_write_66 rfl ?_
        exact g_sub (M := mX8_write) (L2 := [(6, vi r3)]) [1] rfl <| x_X8_write_84 G r3 v6 (((100 : Int32) * (((8 : Int32) * a1) + a2)) + a3) a4.toInt32.toInt16.toInt32.toInt64 h _ hf
    · replace hf := ift hf q44
      refine g_lload (M := mX8_write) dX8_write_47 6 rfl ?_
      refine g_l2i (M := mX8_write) dX8_write_49 ?_
      refine g_i2b (M := mX8_write) dX8_write_50 ?_
      refine g_i2l (M := mX8_write) dX8_write_51 ?_
      refine g_goto (M := mX8_write) (tgt := 84) dX8_write_52 rfl ?_
      exact g_sub (M := mX8_write) (L2 := [(6, vi r3)]) [1] rfl <| x_X8_write_84 G r3 v6 (((100 : Int32) * (((8 : Int32) * a1) + a2)) + a3) a4.toInt32.toInt8.toInt32.toInt64 h _ hf
theorem c_X8_write (G : Gm) (a0 : Nat) (a1 : Int32) (a2 : Int32) (a3 : Int32) (a4 : Int64) (h : AH) (o : (Int32 × AH)) (hf : f_X8_write a0 a1 a2 a3 a4 h = some o) : CT G yX8_write mX8_write (some .int) 0 0 [vr (some a0), vi a1, vi a2, vi a3, vl a4] h (some (vi o.1)) o.2 :=
  CT.int (by decide +kernel) rfl rfl rfl (Nat.le_of_ble_eq_true rfl) (x_X8_write G a0 a1 a2 a3 a4 h o hf)
theorem cbX8_write : CB yX8_write mX8_write (some .int) 4 := ⟨cd_yX8_write, itRX8, ⟨by decide, by decide⟩, by decide +kernel, by decide⟩
