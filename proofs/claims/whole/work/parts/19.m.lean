abbrev mX7_has : MI := (RX7, "has", cX7_has, 7, .ireturn, 3)
def f_X7_has (a0 : Nat) (a1 : Int32) (a2 : Int32) (a3 : Int32) (a4 : Int32) (a5 : Int32) (h : AH) : Option (Int32 × AH) :=
  (ck 7 h (some a0)).bind fun b1 =>
  (f_X7_agreementAt b1 a2 h).bind fun r2 =>
  (ck 7 h (some a0)).bind fun b3 =>
  (f_X7_isParty b3 a1 h).bind fun r4 =>
  if (b2i r4) = 0 then (
    some ((-1 : Int32), h)
  ) else (
    if r2 = none then (
      some ((-1 : Int32), h)
    ) else (
      (f_X7_isDay a3 h).bind fun r5 =>
      if (b2i r5) = 0 then (
        some ((-1 : Int32), h)
      ) else (
        (f_X7_isDay a4 h).bind fun r6 =>
        if (b2i r6) = 0 then (
          some ((-1 : Int32), h)
        ) else (
          (gR 7 2 h (some a0)).bind fun v7 =>
          (gR 7 1 h (some a0)).bind fun v8 =>
          (ck 5 h v7).bind fun b9 =>
          (f_X5_fill b9 v8 r2 a3 a4 h).bind fun r10 =>
          (gR 7 1 r10 (some a0)).bind fun v11 =>
          (gR 7 2 r10 (some a0)).bind fun v12 =>
          (ck 5 r10 v12).bind fun b13 =>
          (f_X5_at b13 a1 r10).bind fun r14 =>
          (ck 4 r10 v11).bind fun b15 =>
          (f_X4_nthOfMember b15 r14 a3 a4 a5 r10).bind fun r16 =>
          (f_X7_numberOf r16 r10).bind fun r17 =>
          some (r17, r10)
        )
      )
    )
  )
theorem x_X7_has (G : Gm) (a0 : Nat) (a1 : Int32) (a2 : Int32) (a3 : Int32) (a4 : Int32) (a5 : Int32) (h : AH) (o : (Int32 × AH)) (hf : f_X7_has a0 a1 a2 a3 a4 a5 h = some o) : GO G mX7_has 0 0 0 [(0, vr (some a0)), (1, vi a1), (2, vi a2), (3, vi a3), (4, vi a4), (5, vi a5)] [] h (some (vi o.1)) o.2 := by
  unfold f_X7_has at hf
  refine g_aload_n (M := mX7_has) dX7_has_0 rfl 0 rfl ?_
  refine g_iload_n (M := mX7_has) dX7_has_1 rfl 2 rfl ?_
  obtain ⟨b1, eb1, hf⟩ := bd hf
  obtain ⟨r2, er2, hf⟩ := bd hf
  refine g_callV (M := mX7_has) (kc := 0) (ks := 0) (as := [vi a2]) (rest := []) dX7_has_2 cbX7_agreementAt vwRX7_50 rfl eb1 rfl (Nat.le_of_ble_eq_true rfl) (Nat.le_of_ble_eq_true rfl) (c_X7_agreementAt G b1 a2 h r2 er2) ?_
  refine g_astore (M := mX7_has) (L2 := [(6, vr r2), (0, vr (some a0)), (1, vi a1), (2, vi a2), (3, vi a3), (4, vi a4), (5, vi a5)]) dX7_has_5 (Nat.le_of_ble_eq_true rfl) rfl ?_
  refine g_aload_n (M := mX7_has) dX7_has_7 rfl 1 rfl ?_
  refine g_iload_n (M := mX7_has) dX7_has_8 rfl 2 rfl ?_
  obtain ⟨b3, eb3, hf⟩ := bd hf
  obtain ⟨r4, er4, hf⟩ := bd hf
  refine g_callV (M := mX7_has) (kc := 0) (ks := 0) (as := [vi a1]) (rest := []) dX7_has_9 cbX7_isParty vwRX7_71 rfl eb3 rfl (Nat.le_of_ble_eq_true rfl) (Nat.le_of_ble_eq_true rfl) (c_X7_isParty G b3 a1 h r4 er4) ?_
  refine g_if_eq (M := mX7_has) (tgt := 35) dX7_has_12 rfl (fun q12 => ?_) (fun q12 => ?_)
  · replace hf := ift hf q12
    refine g_iconst (M := mX7_has) (v := -1) dX7_has_35 rfl ?_
    cases hf
    exact g_ret (M := mX7_has) dX7_has_36 rfl
  · replace hf := iff_ hf q12
    refine g_aload (M := mX7_has) dX7_has_15 0 rfl ?_
    refine g_ifnull (M := mX7_has) (tgt := 35) dX7_has_17 rfl (fun q17 => ?_) (fun q17 => ?_)
    · replace hf := ift hf q17
      refine g_iconst (M := mX7_has) (v := -1) dX7_has_35 rfl ?_
      cases hf
      exact g_ret (M := mX7_has) dX7_has_36 rfl
    · replace hf := iff_ hf q17
      refine g_iload_n (M := mX7_has) dX7_has_20 rfl 4 rfl ?_
      obtain ⟨r5, er5, hf⟩ := bd hf
      refine g_callS (M := mX7_has) (kc := 0) (ks := 0) (as := [vi a3]) (rest := []) dX7_has_21 cbX7_isDay mlRX7_178 st_yX7_isDay rfl rfl (Nat.le_of_ble_eq_true rfl) (Nat.le_of_ble_eq_true rfl) (c_X7_isDay G a3 h r5 er5) ?_
      refine g_if_eq (M := mX7_has) (tgt := 35) dX7_has_24 rfl (fun q24 => ?_) (fun q24 => ?_)
      · replace hf := ift hf q24
        refine g_iconst (M := mX7_has) (v := -1) dX7_has_35 rfl ?_
        cases hf
        exact g_ret (M := mX7_has) dX7_has_36 rfl
      · replace hf := iff_ hf q24
        refine g_iload (M := mX7_has) dX7_has_27 5 rfl ?_
        obtain ⟨r6, er6, hf⟩ := bd hf
        refine g_callS (M := mX7_has) (kc := 0) (ks := 0) (as := [vi a4]) (rest := []) dX7_has_29 cbX7_isDay mlRX7_178 st_yX7_isDay rfl rfl (Nat.le_of_ble_eq_true rfl) (Nat.le_of_ble_eq_true rfl) (c_X7_isDay G a4 h r6 er6) ?_
        refine g_if_ne (M := mX7_has) (tgt := 37) dX7_has_32 rfl (fun q32 => ?_) (fun q32 => ?_)
        · replace hf := iff_ hf q32
          refine g_aload_n (M := mX7_has) dX7_has_37 rfl 1 rfl ?_
          obtain ⟨v7, ev7, hf⟩ := bd hf
          refine g_getR (M := mX7_has) dX7_has_38 flRX7_25 (fun _ => rfl) ev7 ?_
          refine g_aload_n (M := mX7_has) dX7_has_41 rfl 1 rfl ?_
          obtain ⟨v8, ev8, hf⟩ := bd hf
          refine g_getR (M := mX7_has) dX7_has_42 flRX7_18 (fun _ => rfl) ev8 ?_
          refine g_aload (M := mX7_has) dX7_has_45 0 rfl ?_
          refine g_iload_n (M := mX7_has) dX7_has_47 rfl 4 rfl ?_
          refine g_iload (M := mX7_has) dX7_has_48 5 rfl ?_
          obtain ⟨b9, eb9, hf⟩ := bd hf
          obtain ⟨r10, er10, hf⟩ := bd hf
          refine g_callV (M := mX7_has) (kc := 0) (ks := 0) (as := [vr v8, vr r2, vi a3, vi a4]) (rest := []) dX7_has_50 cbX5_fill vwRX7_181 rfl eb9 rfl (Nat.le_of_ble_eq_true rfl) (Nat.le_of_ble_eq_true rfl) (c_X5_fill G b9 v8 r2 a3 a4 h r10 er10) ?_
          refine g_aload_n (M := mX7_has) dX7_has_53 rfl 1 rfl ?_
          obtain ⟨v11, ev11, hf⟩ := bd hf
          refine g_getR (M := mX7_has) dX7_has_54 flRX7_18 (fun _ => rfl) ev11 ?_
          refine g_aload_n (M := mX7_has) dX7_has_57 rfl 1 rfl ?_
          obtain ⟨v12, ev12, hf⟩ := bd hf
          refine g_getR (M := mX7_has) dX7_has_58 flRX7_25 (fun _ => rfl) ev12 ?_
          refine g_iload_n (M := mX7_has) dX7_has_61 rfl 2 rfl ?_
          obtain ⟨b13, eb13, hf⟩ := bd hf
          obtain ⟨r14, er14, hf⟩ := bd hf
          refine g_callV (M := mX7_has) (kc := 0) (ks := 0) (as := [vi a1]) (rest := [vr v11]) dX7_has_62 cbX5_at vwRX7_185 rfl eb13 rfl (Nat.le_of_ble_eq_true rfl) (Nat.le_of_ble_eq_true rfl) (c_X5_at G b13 a1 r10 r14 er14) ?_
          refine g_iload_n (M := mX7_has) dX7_has_65 rfl 4 rfl ?_
          refine g_iload (M := mX7_has) dX7_has_66 5 rfl ?_
          refine g_iload (M := mX7_has) dX7_has_68 6 rfl ?_
          obtain ⟨b15, eb15, hf⟩ := bd hf
          obtain ⟨r16, er16, hf⟩ := bd hf
          refine g_callV (M := mX7_has) (kc := 0) (ks := 0) (as := [vr r14, vi a3, vi a4, vi a5]) (rest := []) dX7_has_70 cbX4_nthOfMember vwRX7_194 rfl eb15 rfl (Nat.le_of_ble_eq_true rfl) (Nat.le_of_ble_eq_true rfl) (c_X4_nthOfMember G b15 r14 a3 a4 a5 r10 r16 er16) ?_
          obtain ⟨r17, er17, hf⟩ := bd hf
          refine g_callS (M := mX7_has) (kc := 0) (ks := 0) (as := [vr r16]) (rest := []) dX7_has_73 cbX7_numberOf mlRX7_186 st_yX7_numberOf rfl rfl (Nat.le_of_ble_eq_true rfl) (Nat.le_of_ble_eq_true rfl) (c_X7_numberOf G r16 r10 r17 er17) ?_
          cases hf
          exact g_ret (M := mX7_has) dX7_has_76 rfl
        · replace hf := ift hf q32
          refine g_iconst (M := mX7_has) (v := -1) dX7_has_35 rfl ?_
          cases hf
          exact g_ret (M := mX7_has) dX7_has_36 rfl
theorem c_X7_has (G : Gm) (a0 : Nat) (a1 : Int32) (a2 : Int32) (a3 : Int32) (a4 : Int32) (a5 : Int32) (h : AH) (o : (Int32 × AH)) (hf : f_X7_has a0 a1 a2 a3 a4 a5 h = some o) : CT G yX7_has mX7_has (some .int) 0 0 [vr (some a0), vi a1, vi a2, vi a3, vi a4, vi a5] h (some (vi o.1)) o.2 :=
  CT.int (by decide +kernel) rfl rfl rfl (Nat.le_of_ble_eq_true rfl) (x_X7_has G a0 a1 a2 a3 a4 a5 h o hf)
theorem cbX7_has : CB yX7_has mX7_has (some .int) 5 := ⟨cd_yX7_has, itRX7, ⟨by decide, by decide⟩, by decide +kernel, by decide⟩
abbrev mX7_paper : MI := (RX7, "paper", cX7_paper, 4, .ireturn, 2)
def f_X7_paper (a0 : Nat) (a1 : Int32) (a2 : Int32) (h : AH) : Option Int32 :=
  (gR 7 1 h (some a0)).bind fun v1 =>
  (ck 4 h v1).bind fun b2 =>
  (f_X4_at b2 a1 h).bind fun r3 =>
  if r3 = none then (
    some (-1 : Int32)
  ) else (
    (ck 3 h r3).bind fun b4 =>
    (f_X3_detail b4 a2 h).bind fun r5 =>
    some r5
  )
theorem x_X7_paper (G : Gm) (a0 : Nat) (a1 : Int32) (a2 : Int32) (h : AH) (o : Int32) (hf : f_X7_paper a0 a1 a2 h = some o) : GO G mX7_paper 0 0 0 [(0, vr (some a0)), (1, vi a1), (2, vi a2)] [] h (some (vi o)) h := by
  unfold f_X7_paper at hf
  refine g_aload_n (M := mX7_paper) dX7_paper_0 rfl 0 rfl ?_
  obtain ⟨v1, ev1, hf⟩ := bd hf
  refine g_getR (M := mX7_paper) dX7_paper_1 flRX7_18 (fun _ => rfl) ev1 ?_
  refine g_iload_n (M := mX7_paper) dX7_paper_4 rfl 1 rfl ?_
  obtain ⟨b2, eb2, hf⟩ := bd hf
  obtain ⟨r3, er3, hf⟩ := bd hf
  refine g_callV (M := mX7_paper) (kc := 0) (ks := 0) (as := [vi a1]) (rest := []) dX7_paper_5 cbX4_at vwRX7_108 rfl eb2 rfl (Nat.le_of_ble_eq_true rfl) (Nat.le_of_ble_eq_true rfl) (c_X4_at G b2 a1 h r3 er3) ?_
  refine g_astore_n (M := mX7_paper) (L2 := [(3, vr r3), (0, vr (some a0)), (1, vi a1), (2, vi a2)]) dX7_paper_8 rfl (Nat.le_of_ble_eq_true rfl) rfl ?_
  refine g_aload_n (M := mX7_paper) dX7_paper_9 rfl 0 rfl ?_
  refine g_ifnonnull (M := mX7_paper) (tgt := 17) dX7_paper_10 rfl (fun q10 => ?_) (fun q10 => ?_)
  · replace hf := iff_ hf q10
    refine g_aload_n (M := mX7_paper) dX7_paper_17 rfl 0 rfl ?_
    refine g_iload_n (M := mX7_paper) dX7_paper_18 rfl 3 rfl ?_
    obtain ⟨b4, eb4, hf⟩ := bd hf
    obtain ⟨r5, er5, hf⟩ := bd hf
    refine g_callV (M := mX7_paper) (kc := 0) (ks := 0) (as := [vi a2]) (rest := []) dX7_paper_19 cbX3_detail vwRX7_198 rfl eb4 rfl (Nat.le_of_ble_eq_true rfl) (Nat.le_of_ble_eq_true rfl) (c_X3_detail G b4 a2 h r5 er5) ?_
    cases hf
    exact g_ret (M := mX7_paper) dX7_paper_22 rfl
  · replace hf := ift hf q10
    refine g_iconst (M := mX7_paper) (v := -1) dX7_paper_13 rfl ?_
    refine g_goto (M := mX7_paper) (tgt := 22) dX7_paper_14 rfl ?_
    cases hf
    exact g_ret (M := mX7_paper) dX7_paper_22 rfl
theorem c_X7_paper (G : Gm) (a0 : Nat) (a1 : Int32) (a2 : Int32) (h : AH) (o : Int32) (hf : f_X7_paper a0 a1 a2 h = some o) : CT G yX7_paper mX7_paper (some .int) 0 0 [vr (some a0), vi a1, vi a2] h (some (vi o)) h :=
  CT.int (by decide +kernel) rfl rfl rfl (Nat.le_of_ble_eq_true rfl) (x_X7_paper G a0 a1 a2 h o hf)
theorem cbX7_paper : CB yX7_paper mX7_paper (some .int) 2 := ⟨cd_yX7_paper, itRX7, ⟨by decide, by decide⟩, by decide +kernel, by decide⟩
abbrev mX7_noted : MI := (RX7, "noted", cX7_noted, 3, .lreturn, 1)
def f_X7_noted (a0 : Nat) (a1 : Int32) (h : AH) : Option Int64 :=
  (gR 7 1 h (some a0)).bind fun v1 =>
  (ck 4 h v1).bind fun b2 =>
  (f_X4_at b2 a1 h).bind fun r3 =>
  if r3 = none then (
    some (0 : Int64)
  ) else (
    (gJ 3 11 h r3).bind fun v4 =>
    some v4
  )
theorem x_X7_noted (G : Gm) (a0 : Nat) (a1 : Int32) (h : AH) (o : Int64) (hf : f_X7_noted a0 a1 h = some o) : GO G mX7_noted 0 0 0 [(0, vr (some a0)), (1, vi a1)] [] h (some (vl o)) h := by
  unfold f_X7_noted at hf
  refine g_aload_n (M := mX7_noted) dX7_noted_0 rfl 0 rfl ?_
  obtain ⟨v1, ev1, hf⟩ := bd hf
  refine g_getR (M := mX7_noted) dX7_noted_1 flRX7_18 (fun _ => rfl) ev1 ?_
  refine g_iload_n (M := mX7_noted) dX7_noted_4 rfl 1 rfl ?_
  obtain ⟨b2, eb2, hf⟩ := bd hf
  obtain ⟨r3, er3, hf⟩ := bd hf
  refine g_callV (M := mX7_noted) (kc := 0) (ks := 0) (as := [vi a1]) (rest := []) dX7_noted_5 cbX4_at vwRX7_108 rfl eb2 rfl (Nat.le_of_ble_eq_true rfl) (Nat.le_of_ble_eq_true rfl) (c_X4_at G b2 a1 h r3 er3) ?_
  refine g_astore_n (M := mX7_noted) (L2 := [(2, vr r3), (0, vr (some a0)), (1, vi a1)]) dX7_noted_8 rfl (Nat.le_of_ble_eq_true rfl) rfl ?_
  refine g_aload_n (M := mX7_noted) dX7_noted_9 rfl 0 rfl ?_
  refine g_ifnonnull (M := mX7_noted) (tgt := 17) dX7_noted_10 rfl (fun q10 => ?_) (fun q10 => ?_)
  · replace hf := iff_ hf q10
    refine g_aload_n (M := mX7_noted) dX7_noted_17 rfl 0 rfl ?_
    obtain ⟨v4, ev4, hf⟩ := bd hf
    refine g_getJ (M := mX7_noted) dX7_noted_18 flRX7_150 (fun _ => rfl) ev4 ?_
    cases hf
    exact g_ret (M := mX7_noted) dX7_noted_21 rfl
  · replace hf := ift hf q10
    refine g_lconst (M := mX7_noted) (v := 0) dX7_noted_13 (by decide) ?_
    refine g_goto (M := mX7_noted) (tgt := 21) dX7_noted_14 rfl ?_
    cases hf
    exact g_ret (M := mX7_noted) dX7_noted_21 rfl
theorem c_X7_noted (G : Gm) (a0 : Nat) (a1 : Int32) (h : AH) (o : Int64) (hf : f_X7_noted a0 a1 h = some o) : CT G yX7_noted mX7_noted (some .long) 0 0 [vr (some a0), vi a1] h (some (vl o)) h :=
  CT.long (by decide +kernel) rfl rfl rfl (Nat.le_of_ble_eq_true rfl) (x_X7_noted G a0 a1 h o hf)
theorem cbX7_noted : CB yX7_noted mX7_noted (some .long) 1 := ⟨cd_yX7_noted, itRX7, ⟨by decide, by decide⟩, by decide +kernel, by decide⟩
abbrev mX7_annex : MI := (RX7, "annex", cX7_annex, 5, .ireturn, 2)
def f_X7_annex (a0 : Nat) (a1 : Int32) (a2 : Int32) (a3 : Int32) (h : AH) : Option (Int32 × AH) :=
  (ck 7 h (some a0)).bind fun b1 =>
  (f_X7_agreementAt b1 a1 h).bind fun r2 =>
  if r2 = none then (
    some ((-2 : Int32), h)
  ) else (
    (f_X7_isFrom (0 : Int32) (3 : Int32) a2 h).bind fun r3 =>
    if (b2i r3) = 0 then (
      some ((-2 : Int32), h)
    ) else (
      if a3 ≤ (100 : Int32) then (
        (gI 0 6 h r2).bind fun v4 =>
        if v4 < (8 : Int32) then (
          if 0 ≤ a3 then (
            (f_X1_init (hz h) a2 a3 (nw h 1 0)).bind fun r5 =>
            (ck 0 r5 r2).bind fun b6 =>
            (f_X0_addAnnex b6 (some (hz h)) r5).bind fun r7 =>
            some (r7.1, r7.2)
          ) else (
            some ((-3 : Int32), h)
          )
        ) else (
          some ((-8 : Int32), h)
        )
      ) else (
        some ((-2 : Int32), h)
      )
    )
  )
theorem x_X7_annex (G : Gm) (a0 : Nat) (a1 : Int32) (a2 : Int32) (a3 : Int32) (h : AH) (o : (Int32 × AH)) (hf : f_X7_annex a0 a1 a2 a3 h = some o) : GO G mX7_annex 2 102 0 [(0, vr (some a0)), (1, vi a1), (2, vi a2), (3, vi a3)] [] h (some (vi o.1)) o.2 := by
  unfold f_X7_annex at hf
  refine g_aload_n (M := mX7_annex) dX7_annex_0 rfl 0 rfl ?_
  refine g_iload_n (M := mX7_annex) dX7_annex_1 rfl 1 rfl ?_
  obtain ⟨b1, eb1, hf⟩ := bd hf
  obtain ⟨r2, er2, hf⟩ := bd hf
  refine g_callV (M := mX7_annex) (kc := 2) (ks := 102) (as := [vi a1]) (rest := []) dX7_annex_2 cbX7_agreementAt vwRX7_50 rfl eb1 rfl (Nat.le_of_ble_eq_true rfl) (Nat.le_of_ble_eq_true rfl) (c_X7_agreementAt G b1 a1 h r2 er2) ?_
  refine g_astore (M := mX7_annex) (L2 := [(4, vr r2), (0, vr (some a0)), (1, vi a1), (2, vi a2), (3, vi a3)]) dX7_annex_5 (Nat.le_of_ble_eq_true rfl) rfl ?_
  refine g_aload (M := mX7_annex) dX7_annex_7 0 rfl ?_
  refine g_ifnull (M := mX7_annex) (tgt := 27) dX7_annex_9 rfl (fun q9 => ?_) (fun q9 => ?_)
  · replace hf := ift hf q9
    refine g_bipush (M := mX7_annex) (v := -2) dX7_annex_27 rfl ?_
    cases hf
    exact g_weak (M := mX7_annex) (Nat.zero_le _) (Nat.zero_le _) (g_ret (M := mX7_annex) dX7_annex_29 rfl)
  · replace hf := iff_ hf q9
    refine g_iconst (M := mX7_annex) (v := 0) dX7_annex_12 rfl ?_
    refine g_iconst (M := mX7_annex) (v := 3) dX7_annex_13 rfl ?_
    refine g_iload_n (M := mX7_annex) dX7_annex_14 rfl 3 rfl ?_
    obtain ⟨r3, er3, hf⟩ := bd hf
    refine g_callS (M := mX7_annex) (kc := 2) (ks := 102) (as := [vi (0 : Int32), vi (3 : Int32), vi a2]) (rest := []) dX7_annex_15 cbX7_isFrom mlRX7_43 st_yX7_isFrom rfl rfl (Nat.le_of_ble_eq_true rfl) (Nat.le_of_ble_eq_true rfl) (c_X7_isFrom G (0 : Int32) (3 : Int32) a2 h r3 er3) ?_
    refine g_if_eq (M := mX7_annex) (tgt := 27) dX7_annex_18 rfl (fun q18 => ?_) (fun q18 => ?_)
    · replace hf := ift hf q18
      refine g_bipush (M := mX7_annex) (v := -2) dX7_annex_27 rfl ?_
      cases hf
      exact g_weak (M := mX7_annex) (Nat.zero_le _) (Nat.zero_le _) (g_ret (M := mX7_annex) dX7_annex_29 rfl)
    · replace hf := iff_ hf q18
      refine g_iload_n (M := mX7_annex) dX7_annex_21 rfl 4 rfl ?_
      refine g_bipush (M := mX7_annex) (v := 100) dX7_annex_22 rfl ?_
      refine g_ic_le (M := mX7_annex) (tgt := 30) dX7_annex_24 rfl (fun q24 => ?_) (fun q24 => ?_)
      · replace hf := ift hf q24
        refine g_aload (M := mX7_annex) dX7_annex_30 0 rfl ?_
        obtain ⟨v4, ev4, hf⟩ := bd hf
        refine g_getI (M := mX7_annex) dX7_annex_32 flRX7_202 (fun _ => rfl) ev4 ?_
        refine g_bipush (M := mX7_annex) (v := 8) dX7_annex_35 rfl ?_
        refine g_ic_lt (M := mX7_annex) (tgt := 43) dX7_annex_37 rfl (fun q37 => ?_) (fun q37 => ?_)
        · replace hf := ift hf q37
          refine g_iload_n (M := mX7_annex) dX7_annex_43 rfl 4 rfl ?_
          refine g_if_ge (M := mX7_annex) (tgt := 50) dX7_annex_44 rfl (fun q44 => ?_) (fun q44 => ?_)
          · replace hf := ift hf q44
            refine g_aload (M := mX7_annex) dX7_annex_50 0 rfl ?_
            refine g_new (M := mX7_annex) (kc := 1) (ks := 100) dX7_annex_52 ck1 clRX7_205 inRX1 itRX1 (by decide) ?_
            refine g_dup (M := mX7_annex) dX7_annex_55 rfl ?_
            refine g_iload_n (M := mX7_annex) dX7_annex_56 rfl 3 rfl ?_
            refine g_iload_n (M := mX7_annex) dX7_annex_57 rfl 4 rfl ?_
            obtain ⟨r5, er5, hf⟩ := bd hf
            refine g_callI (M := mX7_annex) (kc := 0) (ks := 0) (as := [vi a2, vi a3]) (rest := [vr (some (hz h)), vr r2]) (b := (hz h)) dX7_annex_58 cbX1_init mlRX7_207 im_yX1_init rfl rfl rfl (Nat.le_of_ble_eq_true rfl) (Nat.le_of_ble_eq_true rfl) (c_X1_init G (hz h) a2 a3 (nw h 1 0) r5 er5) ?_
            obtain ⟨b6, eb6, hf⟩ := bd hf
            obtain ⟨r7, er7, hf⟩ := bd hf
            refine g_callV (M := mX7_annex) (kc := 0) (ks := 0) (as := [vr (some (hz h))]) (rest := []) dX7_annex_61 cbX0_addAnnex vwRX7_210 rfl eb6 rfl (Nat.le_of_ble_eq_true rfl) (Nat.le_of_ble_eq_true rfl) (c_X0_addAnnex G b6 (some (hz h)) r5 r7 er7) ?_
            cases hf
            exact g_ret (M := mX7_annex) dX7_annex_64 rfl
          · replace hf := iff_ hf q44
            refine g_bipush (M := mX7_annex) (v := -3) dX7_annex_47 rfl ?_
            cases hf
            exact g_weak (M := mX7_annex) (Nat.zero_le _) (Nat.zero_le _) (g_ret (M := mX7_annex) dX7_annex_49 rfl)
        · replace hf := iff_ hf q37
          refine g_bipush (M := mX7_annex) (v := -8) dX7_annex_40 rfl ?_
          cases hf
          exact g_weak (M := mX7_annex) (Nat.zero_le _) (Nat.zero_le _) (g_ret (M := mX7_annex) dX7_annex_42 rfl)
      · replace hf := iff_ hf q24
        refine g_bipush (M := mX7_annex) (v := -2) dX7_annex_27 rfl ?_
        cases hf
        exact g_weak (M := mX7_annex) (Nat.zero_le _) (Nat.zero_le _) (g_ret (M := mX7_annex) dX7_annex_29 rfl)
theorem c_X7_annex (G : Gm) (a0 : Nat) (a1 : Int32) (a2 : Int32) (a3 : Int32) (h : AH) (o : (Int32 × AH)) (hf : f_X7_annex a0 a1 a2 a3 h = some o) : CT G yX7_annex mX7_annex (some .int) 2 102 [vr (some a0), vi a1, vi a2, vi a3] h (some (vi o.1)) o.2 :=
  CT.int (by decide +kernel) rfl rfl rfl (Nat.le_of_ble_eq_true rfl) (x_X7_annex G a0 a1 a2 a3 h o hf)
theorem cbX7_annex : CB yX7_annex mX7_annex (some .int) 3 := ⟨cd_yX7_annex, itRX7, ⟨by decide, by decide⟩, by decide +kernel, by decide⟩
abbrev mX7_annexAt : MI := (RX7, "annexAt", cX7_annexAt, 4, .areturn, 1)
def f_X7_annexAt (a0 : Nat) (a1 : Int32) (a2 : Int32) (h : AH) : Option (Option Nat) :=
  (ck 7 h (some a0)).bind fun b1 =>
  (f_X7_agreementAt b1 a1 h).bind fun r2 =>
  if r2 = none then (
    some none
  ) else (
    (ck 0 h r2).bind fun b3 =>
    (f_X0_annexAt b3 a2 h).bind fun r4 =>
    some r4
  )
theorem x_X7_annexAt (G : Gm) (a0 : Nat) (a1 : Int32) (a2 : Int32) (h : AH) (o : (Option Nat)) (hf : f_X7_annexAt a0 a1 a2 h = some o) : GO G mX7_annexAt 0 0 0 [(0, vr (some a0)), (1, vi a1), (2, vi a2)] [] h (some (vr o)) h := by
  unfold f_X7_annexAt at hf
  refine g_aload_n (M := mX7_annexAt) dX7_annexAt_0 rfl 0 rfl ?_
  refine g_iload_n (M := mX7_annexAt) dX7_annexAt_1 rfl 1 rfl ?_
  obtain ⟨b1, eb1, hf⟩ := bd hf
  obtain ⟨r2, er2, hf⟩ := bd hf
  refine g_callV (M := mX7_annexAt) (kc := 0) (ks := 0) (as := [vi a1]) (rest := []) dX7_annexAt_2 cbX7_agreementAt vwRX7_50 rfl eb1 rfl (Nat.le_of_ble_eq_true rfl) (Nat.le_of_ble_eq_true rfl) (c_X7_agreementAt G b1 a1 h r2 er2) ?_
  refine g_astore_n (M := mX7_annexAt) (L2 := [(3, vr r2), (0, vr (some a0)), (1, vi a1), (2, vi a2)]) dX7_annexAt_5 rfl (Nat.le_of_ble_eq_true rfl) rfl ?_
  refine g_aload_n (M := mX7_annexAt) dX7_annexAt_6 rfl 0 rfl ?_
  refine g_ifnonnull (M := mX7_annexAt) (tgt := 14) dX7_annexAt_7 rfl (fun q7 => ?_) (fun q7 => ?_)
  · replace hf := iff_ hf q7
    refine g_aload_n (M := mX7_annexAt) dX7_annexAt_14 rfl 0 rfl ?_
    refine g_iload_n (M := mX7_annexAt) dX7_annexAt_15 rfl 3 rfl ?_
    obtain ⟨b3, eb3, hf⟩ := bd hf
    obtain ⟨r4, er4, hf⟩ := bd hf
    refine g_callV (M := mX7_annexAt) (kc := 0) (ks := 0) (as := [vi a2]) (rest := []) dX7_annexAt_16 cbX0_annexAt vwRX7_247 rfl eb3 rfl (Nat.le_of_ble_eq_true rfl) (Nat.le_of_ble_eq_true rfl) (c_X0_annexAt G b3 a2 h r4 er4) ?_
    cases hf
    exact g_ret (M := mX7_annexAt) dX7_annexAt_19 rfl
  · replace hf := ift hf q7
    refine g_null (M := mX7_annexAt) dX7_annexAt_10 ?_
    refine g_goto (M := mX7_annexAt) (tgt := 19) dX7_annexAt_11 rfl ?_
    cases hf
    exact g_ret (M := mX7_annexAt) dX7_annexAt_19 rfl
theorem c_X7_annexAt (G : Gm) (a0 : Nat) (a1 : Int32) (a2 : Int32) (h : AH) (o : (Option Nat)) (hf : f_X7_annexAt a0 a1 a2 h = some o) : CT G yX7_annexAt mX7_annexAt (some (.object RX1)) 0 0 [vr (some a0), vi a1, vi a2] h (some (vr o)) h :=
  CT.ref (by decide +kernel) rfl rfl rfl (Nat.le_of_ble_eq_true rfl) (x_X7_annexAt G a0 a1 a2 h o hf)
theorem cbX7_annexAt : CB yX7_annexAt mX7_annexAt (some (.object RX1)) 2 := ⟨cd_yX7_annexAt, itRX7, ⟨by decide, by decide⟩, by decide +kernel, by decide⟩
abbrev mX7_tear : MI := (RX7, "tear", cX7_tear, 4, .ireturn, 2)
def f_X7_tear (a0 : Nat) (a1 : Int32) (a2 : Int32) (h : AH) : Option (Bool × AH) :=
  (ck 7 h (some a0)).bind fun b1 =>
  (f_X7_annexAt b1 a1 a2 h).bind fun r2 =>
  if r2 = none then (
    some (false, h)
  ) else (
    (gR 1 1 h r2).bind fun v3 =>
    if v3 = none then (
      some (false, h)
    ) else (
      (pR 1 1 h r2 none).bind fun h4 =>
      some (true, h4)
    )
  )
theorem x_X7_tear (G : Gm) (a0 : Nat) (a1 : Int32) (a2 : Int32) (h : AH) (o : (Bool × AH)) (hf : f_X7_tear a0 a1 a2 h = some o) : GO G mX7_tear 0 0 0 [(0, vr (some a0)), (1, vi a1), (2, vi a2)] [] h (some (vi (b2i o.1))) o.2 := by
  unfold f_X7_tear at hf
  refine g_aload_n (M := mX7_tear) dX7_tear_0 rfl 0 rfl ?_
  refine g_iload_n (M := mX7_tear) dX7_tear_1 rfl 1 rfl ?_
  refine g_iload_n (M := mX7_tear) dX7_tear_2 rfl 2 rfl ?_
  obtain ⟨b1, eb1, hf⟩ := bd hf
  obtain ⟨r2, er2, hf⟩ := bd hf
  refine g_callV (M := mX7_tear) (kc := 0) (ks := 0) (as := [vi a1, vi a2]) (rest := []) dX7_tear_3 cbX7_annexAt vwRX7_214 rfl eb1 rfl (Nat.le_of_ble_eq_true rfl) (Nat.le_of_ble_eq_true rfl) (c_X7_annexAt G b1 a1 a2 h r2 er2) ?_
  refine g_astore_n (M := mX7_tear) (L2 := [(3, vr r2), (0, vr (some a0)), (1, vi a1), (2, vi a2)]) dX7_tear_6 rfl (Nat.le_of_ble_eq_true rfl) rfl ?_
  refine g_aload_n (M := mX7_tear) dX7_tear_7 rfl 0 rfl ?_
  refine g_ifnull (M := mX7_tear) (tgt := 18) dX7_tear_8 rfl (fun q8 => ?_) (fun q8 => ?_)
  · replace hf := ift hf q8
    refine g_iconst (M := mX7_tear) (v := 0) dX7_tear_18 rfl ?_
    cases hf
    exact g_ret (M := mX7_tear) dX7_tear_19 rfl
  · replace hf := iff_ hf q8
    refine g_aload_n (M := mX7_tear) dX7_tear_11 rfl 0 rfl ?_
    obtain ⟨v3, ev3, hf⟩ := bd hf
    refine g_getR (M := mX7_tear) dX7_tear_12 flRX7_218 (fun _ => rfl) ev3 ?_
    refine g_ifnonnull (M := mX7_tear) (tgt := 20) dX7_tear_15 rfl (fun q15 => ?_) (fun q15 => ?_)
    · replace hf := iff_ hf q15
      refine g_aload_n (M := mX7_tear) dX7_tear_20 rfl 0 rfl ?_
      refine g_null (M := mX7_tear) dX7_tear_21 ?_
      obtain ⟨h4, eh4, hf⟩ := bd hf
      refine g_putR (M := mX7_tear) dX7_tear_22 flRX7_218 (Or.inr ⟨_, rfl⟩) eh4 ?_
      refine g_iconst (M := mX7_tear) (v := 1) dX7_tear_25 rfl ?_
      cases hf
      exact g_ret (M := mX7_tear) dX7_tear_26 rfl
    · replace hf := ift hf q15
      refine g_iconst (M := mX7_tear) (v := 0) dX7_tear_18 rfl ?_
      cases hf
      exact g_ret (M := mX7_tear) dX7_tear_19 rfl
theorem c_X7_tear (G : Gm) (a0 : Nat) (a1 : Int32) (a2 : Int32) (h : AH) (o : (Bool × AH)) (hf : f_X7_tear a0 a1 a2 h = some o) : CT G yX7_tear mX7_tear (some .boolean) 0 0 [vr (some a0), vi a1, vi a2] h (some (vi (b2i o.1))) o.2 :=
  CT.bool (by decide +kernel) rfl rfl rfl (Nat.le_of_ble_eq_true rfl) (b2i_01 _) (x_X7_tear G a0 a1 a2 h o hf)
theorem cbX7_tear : CB yX7_tear mX7_tear (some .boolean) 2 := ⟨cd_yX7_tear, itRX7, ⟨by decide, by decide⟩, by decide +kernel, by decide⟩
abbrev mX7_write : MI := (RX7, "write", cX7_write, 7, .ireturn, 2)
def f_X7_write (a0 : Nat) (a1 : Int32) (a2 : Int32) (a3 : Int32) (a4 : Int64) (h : AH) : Option (Int32 × AH) :=
  (ck 7 h (some a0)).bind fun b1 =>
  (f_X7_annexAt b1 a1 a2 h).bind fun r2 =>
  if r2 = none then (
    some ((-2 : Int32), h)
  ) else (
    (ck 1 h r2).bind fun b3 =>
    (f_X1_put b3 a3 a4 h).bind fun r4 =>
    some (r4.1, r4.2)
  )
theorem x_X7_write (G : Gm) (a0 : Nat) (a1 : Int32) (a2 : Int32) (a3 : Int32) (a4 : Int64) (h : AH) (o : (Int32 × AH)) (hf : f_X7_write a0 a1 a2 a3 a4 h = some o) : GO G mX7_write 0 0 0 [(0, vr (some a0)), (1, vi a1), (2, vi a2), (3, vi a3), (4, vl a4)] [] h (some (vi o.1)) o.2 := by
  unfold f_X7_write at hf
  refine g_aload_n (M := mX7_write) dX7_write_0 rfl 0 rfl ?_
  refine g_iload_n (M := mX7_write) dX7_write_1 rfl 1 rfl ?_
  refine g_iload_n (M := mX7_write) dX7_write_2 rfl 2 rfl ?_
  obtain ⟨b1, eb1, hf⟩ := bd hf
  obtain ⟨r2, er2, hf⟩ := bd hf
  refine g_callV (M := mX7_write) (kc := 0) (ks := 0) (as := [vi a1, vi a2]) (rest := []) dX7_write_3 cbX7_annexAt vwRX7_214 rfl eb1 rfl (Nat.le_of_ble_eq_true rfl) (Nat.le_of_ble_eq_true rfl) (c_X7_annexAt G b1 a1 a2 h r2 er2) ?_
  refine g_astore (M := mX7_write) (L2 := [(6, vr r2), (0, vr (some a0)), (1, vi a1), (2, vi a2), (3, vi a3), (4, vl a4)]) dX7_write_6 (Nat.le_of_ble_eq_true rfl) rfl ?_
  refine g_aload (M := mX7_write) dX7_write_8 0 rfl ?_
  refine g_ifnonnull (M := mX7_write) (tgt := 16) dX7_write_10 rfl (fun q10 => ?_) (fun q10 => ?_)
  · replace hf := iff_ hf q10
    refine g_aload (M := mX7_write) dX7_write_16 0 rfl ?_
    refine g_iload_n (M := mX7_write) dX7_write_18 rfl 4 rfl ?_
    refine g_lload (M := mX7_write) dX7_write_19 5 rfl ?_
    obtain ⟨b3, eb3, hf⟩ := bd hf
    obtain ⟨r4, er4, hf⟩ := bd hf
    refine g_callV (M := mX7_write) (kc := 0) (ks := 0) (as := [vi a3, vl a4]) (rest := []) dX7_write_21 cbX1_put vwRX7_222 rfl eb3 rfl (Nat.le_of_ble_eq_true rfl) (Nat.le_of_ble_eq_true rfl) (c_X1_put G b3 a3 a4 h r4 er4) ?_
    cases hf
    exact g_ret (M := mX7_write) dX7_write_24 rfl
  · replace hf := ift hf q10
    refine g_bipush (M := mX7_write) (v := -2) dX7_write_13 rfl ?_
    cases hf
    exact g_ret (M := mX7_write) dX7_write_15 rfl
theorem c_X7_write (G : Gm) (a0 : Nat) (a1 : Int32) (a2 : Int32) (a3 : Int32) (a4 : Int64) (h : AH) (o : (Int32 × AH)) (hf : f_X7_write a0 a1 a2 a3 a4 h = some o) : CT G yX7_write mX7_write (some .int) 0 0 [vr (some a0), vi a1, vi a2, vi a3, vl a4] h (some (vi o.1)) o.2 :=
  CT.int (by decide +kernel) rfl rfl rfl (Nat.le_of_ble_eq_true rfl) (x_X7_write G a0 a1 a2 a3 a4 h o hf)
theorem cbX7_write : CB yX7_write mX7_write (some .int) 4 := ⟨cd_yX7_write, itRX7, ⟨by decide, by decide⟩, by decide +kernel, by decide⟩
abbrev mX7_read : MI := (RX7, "read", cX7_read, 5, .lreturn, 2)
def f_X7_read (a0 : Nat) (a1 : Int32) (a2 : Int32) (a3 : Int32) (h : AH) : Option Int64 :=
  (ck 7 h (some a0)).bind fun b1 =>
  (f_X7_annexAt b1 a1 a2 h).bind fun r2 =>
  if r2 = none then (
    some (0 : Int64)
  ) else (
    (ck 1 h r2).bind fun b3 =>
    (f_X1_get b3 a3 h).bind fun r4 =>
    some r4
  )
theorem x_X7_read (G : Gm) (a0 : Nat) (a1 : Int32) (a2 : Int32) (a3 : Int32) (h : AH) (o : Int64) (hf : f_X7_read a0 a1 a2 a3 h = some o) : GO G mX7_read 0 0 0 [(0, vr (some a0)), (1, vi a1), (2, vi a2), (3, vi a3)] [] h (some (vl o)) h := by
  unfold f_X7_read at hf
  refine g_aload_n (M := mX7_read) dX7_read_0 rfl 0 rfl ?_
  refine g_iload_n (M := mX7_read) dX7_read_1 rfl 1 rfl ?_
  refine g_iload_n (M := mX7_read) dX7_read_2 rfl 2 rfl ?_
  obtain ⟨b1, eb1, hf⟩ := bd hf
  obtain ⟨r2, er2, hf⟩ := bd hf
  refine g_callV (M := mX7_read) (kc := 0) (ks := 0) (as := [vi a1, vi a2]) (rest := []) dX7_read_3 cbX7_annexAt vwRX7_214 rfl eb1 rfl (Nat.le_of_ble_eq_true rfl) (Nat.le_of_ble_eq_true rfl) (c_X7_annexAt G b1 a1 a2 h r2 er2) ?_
  refine g_astore (M := mX7_read) (L2 := [(4, vr r2), (0, vr (some a0)), (1, vi a1), (2, vi a2), (3, vi a3)]) dX7_read_6 (Nat.le_of_ble_eq_true rfl) rfl ?_
  refine g_aload (M := mX7_read) dX7_read_8 0 rfl ?_
  refine g_ifnonnull (M := mX7_read) (tgt := 17) dX7_read_10 rfl (fun q10 => ?_) (fun q10 => ?_)
  · replace hf := iff_ hf q10
    refine g_aload (M := mX7_read) dX7_read_17 0 rfl ?_
    refine g_iload_n (M := mX7_read) dX7_read_19 rfl 4 rfl ?_
    obtain ⟨b3, eb3, hf⟩ := bd hf
    obtain ⟨r4, er4, hf⟩ := bd hf
    refine g_callV (M := mX7_read) (kc := 0) (ks := 0) (as := [vi a3]) (rest := []) dX7_read_20 cbX1_get vwRX7_226 rfl eb3 rfl (Nat.le_of_ble_eq_true rfl) (Nat.le_of_ble_eq_true rfl) (c_X1_get G b3 a3 h r4 er4) ?_
    cases hf
    exact g_ret (M := mX7_read) dX7_read_23 rfl
  · replace hf := ift hf q10
    refine g_lconst (M := mX7_read) (v := 0) dX7_read_13 (by decide) ?_
    refine g_goto (M := mX7_read) (tgt := 23) dX7_read_14 rfl ?_
    cases hf
    exact g_ret (M := mX7_read) dX7_read_23 rfl
theorem c_X7_read (G : Gm) (a0 : Nat) (a1 : Int32) (a2 : Int32) (a3 : Int32) (h : AH) (o : Int64) (hf : f_X7_read a0 a1 a2 a3 h = some o) : CT G yX7_read mX7_read (some .long) 0 0 [vr (some a0), vi a1, vi a2, vi a3] h (some (vl o)) h :=
  CT.long (by decide +kernel) rfl rfl rfl (Nat.le_of_ble_eq_true rfl) (x_X7_read G a0 a1 a2 a3 h o hf)
theorem cbX7_read : CB yX7_read mX7_read (some .long) 3 := ⟨cd_yX7_read, itRX7, ⟨by decide, by decide⟩, by decide +kernel, by decide⟩
abbrev mX7_size : MI := (RX7, "size", cX7_size, 4, .ireturn, 2)
def f_X7_size (a0 : Nat) (a1 : Int32) (a2 : Int32) (h : AH) : Option Int32 :=
  (ck 7 h (some a0)).bind fun b1 =>
  (f_X7_annexAt b1 a1 a2 h).bind fun r2 =>
  if r2 = none then (
    some (-2 : Int32)
  ) else (
    (gR 1 1 h r2).bind fun v3 =>
    if v3 = none then (
      some (-5 : Int32)
    ) else (
      (gR 1 1 h r2).bind fun v4 =>
      (al h v4).bind fun v5 =>
      some v5
    )
  )
theorem x_X7_size (G : Gm) (a0 : Nat) (a1 : Int32) (a2 : Int32) (h : AH) (o : Int32) (hf : f_X7_size a0 a1 a2 h = some o) : GO G mX7_size 0 0 0 [(0, vr (some a0)), (1, vi a1), (2, vi a2)] [] h (some (vi o)) h := by
  unfold f_X7_size at hf
  refine g_aload_n (M := mX7_size) dX7_size_0 rfl 0 rfl ?_
  refine g_iload_n (M := mX7_size) dX7_size_1 rfl 1 rfl ?_
  refine g_iload_n (M := mX7_size) dX7_size_2 rfl 2 rfl ?_
  obtain ⟨b1, eb1, hf⟩ := bd hf
  obtain ⟨r2, er2, hf⟩ := bd hf
  refine g_callV (M := mX7_size) (kc := 0) (ks := 0) (as := [vi a1, vi a2]) (rest := []) dX7_size_3 cbX7_annexAt vwRX7_214 rfl eb1 rfl (Nat.le_of_ble_eq_true rfl) (Nat.le_of_ble_eq_true rfl) (c_X7_annexAt G b1 a1 a2 h r2 er2) ?_
  refine g_astore_n (M := mX7_size) (L2 := [(3, vr r2), (0, vr (some a0)), (1, vi a1), (2, vi a2)]) dX7_size_6 rfl (Nat.le_of_ble_eq_true rfl) rfl ?_
  refine g_aload_n (M := mX7_size) dX7_size_7 rfl 0 rfl ?_
  refine g_ifnonnull (M := mX7_size) (tgt := 14) dX7_size_8 rfl (fun q8 => ?_) (fun q8 => ?_)
  · replace hf := iff_ hf q8
    refine g_aload_n (M := mX7_size) dX7_size_14 rfl 0 rfl ?_
    obtain ⟨v3, ev3, hf⟩ := bd hf
    refine g_getR (M := mX7_size) dX7_size_15 flRX7_218 (fun _ => rfl) ev3 ?_
    refine g_ifnonnull (M := mX7_size) (tgt := 26) dX7_size_18 rfl (fun q18 => ?_) (fun q18 => ?_)
    · replace hf := iff_ hf q18
      refine g_aload_n (M := mX7_size) dX7_size_26 rfl 0 rfl ?_
      obtain ⟨v4, ev4, hf⟩ := bd hf
      refine g_getR (M := mX7_size) dX7_size_27 flRX7_218 (fun _ => rfl) ev4 ?_
      obtain ⟨v5, ev5, hf⟩ := bd hf
      refine g_alen (M := mX7_size) dX7_size_30 ev5 ?_
      cases hf
      exact g_ret (M := mX7_size) dX7_size_31 rfl
    · replace hf := ift hf q18
      refine g_bipush (M := mX7_size) (v := -5) dX7_size_21 rfl ?_
      refine g_goto (M := mX7_size) (tgt := 31) dX7_size_23 rfl ?_
      cases hf
      exact g_ret (M := mX7_size) dX7_size_31 rfl
  · replace hf := ift hf q8
    refine g_bipush (M := mX7_size) (v := -2) dX7_size_11 rfl ?_
    cases hf
    exact g_ret (M := mX7_size) dX7_size_13 rfl
theorem c_X7_size (G : Gm) (a0 : Nat) (a1 : Int32) (a2 : Int32) (h : AH) (o : Int32) (hf : f_X7_size a0 a1 a2 h = some o) : CT G yX7_size mX7_size (some .int) 0 0 [vr (some a0), vi a1, vi a2] h (some (vi o)) h :=
  CT.int (by decide +kernel) rfl rfl rfl (Nat.le_of_ble_eq_true rfl) (x_X7_size G a0 a1 a2 h o hf)
theorem cbX7_size : CB yX7_size mX7_size (some .int) 2 := ⟨cd_yX7_size, itRX7, ⟨by decide, by decide⟩, by decide +kernel, by decide⟩
abbrev mX7_copy : MI := (RX7, "copy", cX7_copy, 10, .ireturn, 2)
def f_X7_copy (a0 : Nat) (a1 : Int32) (a2 : Int32) (a3 : Int32) (a4 : Int32) (a5 : Int32) (a6 : Int32) (a7 : Int32) (h : AH) : Option (Int32 × AH) :=
  (ck 7 h (some a0)).bind fun b1 =>
  (f_X7_annexAt b1 a1 a2 h).bind fun r2 =>
  (ck 7 h (some a0)).bind fun b3 =>
  (f_X7_annexAt b3 a4 a5 h).bind fun r4 =>
  if r2 = none then (
    some ((-2 : Int32), h)
  ) else (
    if r4 = none then (
      some ((-2 : Int32), h)
    ) else (
      (gR 1 1 h r2).bind fun v5 =>
      if v5 = none then (
        some ((-5 : Int32), h)
      ) else (
        (gR 1 1 h r4).bind fun v6 =>
        if v6 = none then (
          some ((-5 : Int32), h)
        ) else (
          (gI 1 0 h r2).bind fun v7 =>
          (gI 1 0 h r4).bind fun v8 =>
          if v7 = v8 then (
            (ck 1 h r2).bind fun b9 =>
            (f_X1_hasRange b9 a3 a7 h).bind fun r10 =>
            if (b2i r10) = 0 then (
              some ((-6 : Int32), h)
            ) else (
              (ck 1 h r4).bind fun b11 =>
              (f_X1_hasRange b11 a6 a7 h).bind fun r12 =>
              if (b2i r12) = 0 then (
                some ((-6 : Int32), h)
              ) else (
                (gR 1 1 h r2).bind fun v13 =>
                (gR 1 1 h r4).bind fun v14 =>
                (acp h v13 a3 v14 a6 a7).bind fun h15 =>
                some ((0 : Int32), h15)
              )
            )
          ) else (
            some ((-7 : Int32), h)
          )
        )
      )
    )
  )
theorem x_X7_copy (G : Gm) (a0 : Nat) (a1 : Int32) (a2 : Int32) (a3 : Int32) (a4 : Int32) (a5 : Int32) (a6 : Int32) (a7 : Int32) (h : AH) (o : (Int32 × AH)) (hf : f_X7_copy a0 a1 a2 a3 a4 a5 a6 a7 h = some o) : GO G mX7_copy 0 0 0 [(0, vr (some a0)), (1, vi a1), (2, vi a2), (3, vi a3), (4, vi a4), (5, vi a5), (6, vi a6), (7, vi a7)] [] h (some (vi o.1)) o.2 := by
  unfold f_X7_copy at hf
  refine g_aload_n (M := mX7_copy) dX7_copy_0 rfl 0 rfl ?_
  refine g_iload_n (M := mX7_copy) dX7_copy_1 rfl 1 rfl ?_
  refine g_iload_n (M := mX7_copy) dX7_copy_2 rfl 2 rfl ?_
  obtain ⟨b1, eb1, hf⟩ := bd hf
  obtain ⟨r2, er2, hf⟩ := bd hf
  refine g_callV (M := mX7_copy) (kc := 0) (ks := 0) (as := [vi a1, vi a2]) (rest := []) dX7_copy_3 cbX7_annexAt vwRX7_214 rfl eb1 rfl (Nat.le_of_ble_eq_true rfl) (Nat.le_of_ble_eq_true rfl) (c_X7_annexAt G b1 a1 a2 h r2 er2) ?_
  refine g_astore (M := mX7_copy) (L2 := [(8, vr r2), (0, vr (some a0)), (1, vi a1), (2, vi a2), (3, vi a3), (4, vi a4), (5, vi a5), (6, vi a6), (7, vi a7)]) dX7_copy_6 (Nat.le_of_ble_eq_true rfl) rfl ?_
  refine g_aload_n (M := mX7_copy) dX7_copy_8 rfl 1 rfl ?_
  refine g_iload (M := mX7_copy) dX7_copy_9 5 rfl ?_
  refine g_iload (M := mX7_copy) dX7_copy_11 6 rfl ?_
  obtain ⟨b3, eb3, hf⟩ := bd hf
  obtain ⟨r4, er4, hf⟩ := bd hf
  refine g_callV (M := mX7_copy) (kc := 0) (ks := 0) (as := [vi a4, vi a5]) (rest := []) dX7_copy_13 cbX7_annexAt vwRX7_214 rfl eb3 rfl (Nat.le_of_ble_eq_true rfl) (Nat.le_of_ble_eq_true rfl) (c_X7_annexAt G b3 a4 a5 h r4 er4) ?_
  refine g_astore (M := mX7_copy) (L2 := [(9, vr r4), (8, vr r2), (0, vr (some a0)), (1, vi a1), (2, vi a2), (3, vi a3), (4, vi a4), (5, vi a5), (6, vi a6), (7, vi a7)]) dX7_copy_16 (Nat.le_of_ble_eq_true rfl) rfl ?_
  refine g_aload (M := mX7_copy) dX7_copy_18 1 rfl ?_
  refine g_ifnull (M := mX7_copy) (tgt := 28) dX7_copy_20 rfl (fun q20 => ?_) (fun q20 => ?_)
  · replace hf := ift hf q20
    refine g_bipush (M := mX7_copy) (v := -2) dX7_copy_28 rfl ?_
    cases hf
    exact g_ret (M := mX7_copy) dX7_copy_30 rfl
  · replace hf := iff_ hf q20
    refine g_aload (M := mX7_copy) dX7_copy_23 0 rfl ?_
    refine g_ifnonnull (M := mX7_copy) (tgt := 31) dX7_copy_25 rfl (fun q25 => ?_) (fun q25 => ?_)
    · replace hf := iff_ hf q25
      refine g_aload (M := mX7_copy) dX7_copy_31 1 rfl ?_
      obtain ⟨v5, ev5, hf⟩ := bd hf
      refine g_getR (M := mX7_copy) dX7_copy_33 flRX7_218 (fun _ => rfl) ev5 ?_
      refine g_ifnull (M := mX7_copy) (tgt := 47) dX7_copy_36 rfl (fun q36 => ?_) (fun q36 => ?_)
      · replace hf := ift hf q36
        refine g_bipush (M := mX7_copy) (v := -5) dX7_copy_47 rfl ?_
        cases hf
        exact g_ret (M := mX7_copy) dX7_copy_49 rfl
      · replace hf := iff_ hf q36
        refine g_aload (M := mX7_copy) dX7_copy_39 0 rfl ?_
        obtain ⟨v6, ev6, hf⟩ := bd hf
        refine g_getR (M := mX7_copy) dX7_copy_41 flRX7_218 (fun _ => rfl) ev6 ?_
        refine g_ifnonnull (M := mX7_copy) (tgt := 50) dX7_copy_44 rfl (fun q44 => ?_) (fun q44 => ?_)
        · replace hf := iff_ hf q44
          refine g_aload (M := mX7_copy) dX7_copy_50 1 rfl ?_
          obtain ⟨v7, ev7, hf⟩ := bd hf
          refine g_getI (M := mX7_copy) dX7_copy_52 flRX7_230 (fun _ => rfl) ev7 ?_
          refine g_aload (M := mX7_copy) dX7_copy_55 0 rfl ?_
          obtain ⟨v8, ev8, hf⟩ := bd hf
          refine g_getI (M := mX7_copy) dX7_copy_57 flRX7_230 (fun _ => rfl) ev8 ?_
          refine g_ic_eq (M := mX7_copy) (tgt := 66) dX7_copy_60 rfl (fun q60 => ?_) (fun q60 => ?_)
          · replace hf := ift hf q60
            refine g_aload (M := mX7_copy) dX7_copy_66 1 rfl ?_
            refine g_iload_n (M := mX7_copy) dX7_copy_68 rfl 5 rfl ?_
            refine g_iload (M := mX7_copy) dX7_copy_69 9 rfl ?_
            obtain ⟨b9, eb9, hf⟩ := bd hf
            obtain ⟨r10, er10, hf⟩ := bd hf
            refine g_callV (M := mX7_copy) (kc := 0) (ks := 0) (as := [vi a3, vi a7]) (rest := []) dX7_copy_71 cbX1_hasRange vwRX7_233 rfl eb9 rfl (Nat.le_of_ble_eq_true rfl) (Nat.le_of_ble_eq_true rfl) (c_X1_hasRange G b9 a3 a7 h r10 er10) ?_
            refine g_if_eq (M := mX7_copy) (tgt := 89) dX7_copy_74 rfl (fun q74 => ?_) (fun q74 => ?_)
            · replace hf := ift hf q74
              refine g_bipush (M := mX7_copy) (v := -6) dX7_copy_89 rfl ?_
              cases hf
              exact g_ret (M := mX7_copy) dX7_copy_91 rfl
            · replace hf := iff_ hf q74
              refine g_aload (M := mX7_copy) dX7_copy_77 0 rfl ?_
              refine g_iload (M := mX7_copy) dX7_copy_79 8 rfl ?_
              refine g_iload (M := mX7_copy) dX7_copy_81 9 rfl ?_
              obtain ⟨b11, eb11, hf⟩ := bd hf
              obtain ⟨r12, er12, hf⟩ := bd hf
              refine g_callV (M := mX7_copy) (kc := 0) (ks := 0) (as := [vi a6, vi a7]) (rest := []) dX7_copy_83 cbX1_hasRange vwRX7_233 rfl eb11 rfl (Nat.le_of_ble_eq_true rfl) (Nat.le_of_ble_eq_true rfl) (c_X1_hasRange G b11 a6 a7 h r12 er12) ?_
              refine g_if_ne (M := mX7_copy) (tgt := 92) dX7_copy_86 rfl (fun q86 => ?_) (fun q86 => ?_)
              · replace hf := iff_ hf q86
                refine g_aload (M := mX7_copy) dX7_copy_92 1 rfl ?_
                obtain ⟨v13, ev13, hf⟩ := bd hf
                refine g_getR (M := mX7_copy) dX7_copy_94 flRX7_218 (fun _ => rfl) ev13 ?_
                refine g_iload_n (M := mX7_copy) dX7_copy_97 rfl 5 rfl ?_
                refine g_aload (M := mX7_copy) dX7_copy_98 0 rfl ?_
                obtain ⟨v14, ev14, hf⟩ := bd hf
                refine g_getR (M := mX7_copy) dX7_copy_100 flRX7_218 (fun _ => rfl) ev14 ?_
                refine g_iload (M := mX7_copy) dX7_copy_103 8 rfl ?_
                refine g_iload (M := mX7_copy) dX7_copy_105 9 rfl ?_
                obtain ⟨h15, eh15, hf⟩ := bd hf
                refine g_acp (M := mX7_copy) dX7_copy_107 mlRX7_237 nt_arraycopyName st_arraycopyName itRJ10 (by decide +kernel) (Nat.le_of_ble_eq_true rfl) (by decide) eh15 ?_
                refine g_iconst (M := mX7_copy) (v := 0) dX7_copy_110 rfl ?_
                cases hf
                exact g_ret (M := mX7_copy) dX7_copy_111 rfl
              · replace hf := ift hf q86
                refine g_bipush (M := mX7_copy) (v := -6) dX7_copy_89 rfl ?_
                cases hf
                exact g_ret (M := mX7_copy) dX7_copy_91 rfl
          · replace hf := iff_ hf q60
            refine g_bipush (M := mX7_copy) (v := -7) dX7_copy_63 rfl ?_
            cases hf
            exact g_ret (M := mX7_copy) dX7_copy_65 rfl
        · replace hf := ift hf q44
          refine g_bipush (M := mX7_copy) (v := -5) dX7_copy_47 rfl ?_
          cases hf
          exact g_ret (M := mX7_copy) dX7_copy_49 rfl
    · replace hf := ift hf q25
      refine g_bipush (M := mX7_copy) (v := -2) dX7_copy_28 rfl ?_
      cases hf
      exact g_ret (M := mX7_copy) dX7_copy_30 rfl
theorem c_X7_copy (G : Gm) (a0 : Nat) (a1 : Int32) (a2 : Int32) (a3 : Int32) (a4 : Int32) (a5 : Int32) (a6 : Int32) (a7 : Int32) (h : AH) (o : (Int32 × AH)) (hf : f_X7_copy a0 a1 a2 a3 a4 a5 a6 a7 h = some o) : CT G yX7_copy mX7_copy (some .int) 0 0 [vr (some a0), vi a1, vi a2, vi a3, vi a4, vi a5, vi a6, vi a7] h (some (vi o.1)) o.2 :=
  CT.int (by decide +kernel) rfl rfl rfl (Nat.le_of_ble_eq_true rfl) (x_X7_copy G a0 a1 a2 a3 a4 a5 a6 a7 h o hf)
theorem cbX7_copy : CB yX7_copy mX7_copy (some .int) 7 := ⟨cd_yX7_copy, itRX7, ⟨by decide, by decide⟩, by decide +kernel, by decide⟩
abbrev mX7_count : MI := (RX7, "count", cX7_count, 3, .ireturn, 1)
def f_X7_count (a0 : Nat) (a1 : Int32) (h : AH) : Option Int32 :=
  if a1 = 0 then (
    (gI 7 5 h (some a0)).bind fun v1 =>
    some v1
  ) else (
    if a1 = 1 then (
      (gI 7 4 h (some a0)).bind fun v2 =>
      some v2
    ) else (
      if a1 = 2 then (
        (gR 7 1 h (some a0)).bind fun v3 =>
        (gI 4 1 h v3).bind fun v4 =>
        some v4
      ) else (
        if a1 = 3 then (
          (gI 7 6 h (some a0)).bind fun v5 =>
          some v5
        ) else (
          if (10 : Int32) ≤ a1 then (
            (ck 7 h (some a0)).bind fun b6 =>
            (f_X7_agreementAt b6 ((a1 / (10 : Int32)) - (1 : Int32)) h).bind fun r7 =>
            if r7 = none then (
              some (-1 : Int32)
            ) else (
              (ck 0 h r7).bind fun b8 =>
              (f_X0_detail b8 (a1 - a1 / (10 : Int32) * (10 : Int32)) h).bind fun r9 =>
              some r9
            )
          ) else (
            some (-1 : Int32)
          )
        )
      )
    )
  )
theorem x_X7_count (G : Gm) (a0 : Nat) (a1 : Int32) (h : AH) (o : Int32) (hf : f_X7_count a0 a1 h = some o) : GO G mX7_count 0 0 0 [(0, vr (some a0)), (1, vi a1)] [] h (some (vi o)) h := by
  unfold f_X7_count at hf
  refine g_iload_n (M := mX7_count) dX7_count_0 rfl 1 rfl ?_
  by_cases q1_0 : a1 = 0
  · replace hf := ift hf q1_0
    refine g_sw_in (M := mX7_count) (off := 31) (tgt := 32) dX7_count_1 (by rw [q1_0]; decide) (by rw [q1_0]; decide) (by rw [q1_0]; rfl) (by decide) ?_
    refine g_aload_n (M := mX7_count) dX7_count_32 rfl 0 rfl ?_
    obtain ⟨v1, ev1, hf⟩ := bd hf
    refine g_getI (M := mX7_count) dX7_count_33 flRX7_36 (fun _ => rfl) ev1 ?_
    cases hf
    exact g_ret (M := mX7_count) dX7_count_36 rfl
  · replace hf := iff_ hf q1_0
    by_cases q1_1 : a1 = 1
    · replace hf := ift hf q1_1
      refine g_sw_in (M := mX7_count) (off := 36) (tgt := 37) dX7_count_1 (by rw [q1_1]; decide) (by rw [q1_1]; decide) (by rw [q1_1]; rfl) (by decide) ?_
      refine g_aload_n (M := mX7_count) dX7_count_37 rfl 0 rfl ?_
      obtain ⟨v2, ev2, hf⟩ := bd hf
      refine g_getI (M := mX7_count) dX7_count_38 flRX7_40 (fun _ => rfl) ev2 ?_
      cases hf
      exact g_ret (M := mX7_count) dX7_count_41 rfl
    · replace hf := iff_ hf q1_1
      by_cases q1_2 : a1 = 2
      · replace hf := ift hf q1_2
        refine g_sw_in (M := mX7_count) (off := 41) (tgt := 42) dX7_count_1 (by rw [q1_2]; decide) (by rw [q1_2]; decide) (by rw [q1_2]; rfl) (by decide) ?_
        refine g_aload_n (M := mX7_count) dX7_count_42 rfl 0 rfl ?_
        obtain ⟨v3, ev3, hf⟩ := bd hf
        refine g_getR (M := mX7_count) dX7_count_43 flRX7_18 (fun _ => rfl) ev3 ?_
        obtain ⟨v4, ev4, hf⟩ := bd hf
        refine g_getI (M := mX7_count) dX7_count_46 flRX7_154 (fun _ => rfl) ev4 ?_
        cases hf
        exact g_ret (M := mX7_count) dX7_count_49 rfl
      · replace hf := iff_ hf q1_2
        by_cases q1_3 : a1 = 3
        · replace hf := ift hf q1_3
          refine g_sw_in (M := mX7_count) (off := 49) (tgt := 50) dX7_count_1 (by rw [q1_3]; decide) (by rw [q1_3]; decide) (by rw [q1_3]; rfl) (by decide) ?_
          refine g_aload_n (M := mX7_count) dX7_count_50 rfl 0 rfl ?_
          obtain ⟨v5, ev5, hf⟩ := bd hf
          refine g_getI (M := mX7_count) dX7_count_51 flRX7_67 (fun _ => rfl) ev5 ?_
          cases hf
          exact g_ret (M := mX7_count) dX7_count_54 rfl
        · replace hf := iff_ hf q1_3
          refine g_sw_out (M := mX7_count) (tgt := 55) dX7_count_1 (sw_def 4 ⟨q1_0, q1_1, q1_2, q1_3, trivial⟩) (by decide) ?_
          refine g_iload_n (M := mX7_count) dX7_count_55 rfl 1 rfl ?_
          refine g_bipush (M := mX7_count) (v := 10) dX7_count_56 rfl ?_
          refine g_ic_ge (M := mX7_count) (tgt := 63) dX7_count_58 rfl (fun q58 => ?_) (fun q58 => ?_)
          · replace hf := ift hf q58
            refine g_aload_n (M := mX7_count) dX7_count_63 rfl 0 rfl ?_
            refine g_iload_n (M := mX7_count) dX7_count_64 rfl 1 rfl ?_
            refine g_bipush (M := mX7_count) (v := 10) dX7_count_65 rfl ?_
            refine g_idiv (M := mX7_count) dX7_count_67 (by decide) ?_
            refine g_iconst (M := mX7_count) (v := 1) dX7_count_68 rfl ?_
            refine g_isub (M := mX7_count) dX7_count_69 ?_
            obtain ⟨b6, eb6, hf⟩ := bd hf
            obtain ⟨r7, er7, hf⟩ := bd hf
            refine g_callV (M := mX7_count) (kc := 0) (ks := 0) (as := [vi ((a1 / (10 : Int32)) - (1 : Int32))]) (rest := []) dX7_count_70 cbX7_agreementAt vwRX7_50 rfl eb6 rfl (Nat.le_of_ble_eq_true rfl) (Nat.le_of_ble_eq_true rfl) (c_X7_agreementAt G b6 ((a1 / (10 : Int32)) - (1 : Int32)) h r7 er7) ?_
            refine g_astore_n (M := mX7_count) (L2 := [(2, vr r7), (0, vr (some a0)), (1, vi a1)]) dX7_count_73 rfl (Nat.le_of_ble_eq_true rfl) rfl ?_
            refine g_aload_n (M := mX7_count) dX7_count_74 rfl 0 rfl ?_
            refine g_ifnonnull (M := mX7_count) (tgt := 82) dX7_count_75 rfl (fun q75 => ?_) (fun q75 => ?_)
            · replace hf := iff_ hf q75
              refine g_aload_n (M := mX7_count) dX7_count_82 rfl 0 rfl ?_
              refine g_iload_n (M := mX7_count) dX7_count_83 rfl 2 rfl ?_
              refine g_bipush (M := mX7_count) (v := 10) dX7_count_84 rfl ?_
              refine g_irem (M := mX7_count) dX7_count_86 (by decide) ?_
              obtain ⟨b8, eb8, hf⟩ := bd hf
              obtain ⟨r9, er9, hf⟩ := bd hf
              refine g_callV (M := mX7_count) (kc := 0) (ks := 0) (as := [vi (a1 - a1 / (10 : Int32) * (10 : Int32))]) (rest := []) dX7_count_87 cbX0_detail vwRX7_243 rfl eb8 rfl (Nat.le_of_ble_eq_true rfl) (Nat.le_of_ble_eq_true rfl) (c_X0_detail G b8 (a1 - a1 / (10 : Int32) * (10 : Int32)) h r9 er9) ?_
              cases hf
              exact g_ret (M := mX7_count) dX7_count_90 rfl
            · replace hf := ift hf q75
              refine g_iconst (M := mX7_count) (v := -1) dX7_count_78 rfl ?_
              refine g_goto (M := mX7_count) (tgt := 90) dX7_count_79 rfl ?_
              cases hf
              exact g_ret (M := mX7_count) dX7_count_90 rfl
          · replace hf := iff_ hf q58
            refine g_iconst (M := mX7_count) (v := -1) dX7_count_61 rfl ?_
            cases hf
            exact g_ret (M := mX7_count) dX7_count_62 rfl
theorem c_X7_count (G : Gm) (a0 : Nat) (a1 : Int32) (h : AH) (o : Int32) (hf : f_X7_count a0 a1 h = some o) : CT G yX7_count mX7_count (some .int) 0 0 [vr (some a0), vi a1] h (some (vi o)) h :=
  CT.int (by decide +kernel) rfl rfl rfl (Nat.le_of_ble_eq_true rfl) (x_X7_count G a0 a1 h o hf)
theorem cbX7_count : CB yX7_count mX7_count (some .int) 1 := ⟨cd_yX7_count, itRX7, ⟨by decide, by decide⟩, by decide +kernel, by decide⟩
abbrev mX8_init : MI := (RX8, "<init>", cX8_init, 1, .return_, 1)
def f_X8_init (a0 : Nat) (h : AH) : Option AH :=
  (na 10 10 h (10 : Int32)).bind fun h1 =>
  (pR 8 3 h1 (some a0) (some (hz h))).bind fun h2 =>
  (na 10 10 h2 (10 : Int32)).bind fun h3 =>
  (pR 8 4 h3 (some a0) (some (hz h2))).bind fun h4 =>
  (na 10 10 h4 (10 : Int32)).bind fun h5 =>
  (pR 8 5 h5 (some a0) (some (hz h4))).bind fun h6 =>
  (na 10 10 h6 (10 : Int32)).bind fun h7 =>
  (pR 8 6 h7 (some a0) (some (hz h6))).bind fun h8 =>
  (na 10 200 h8 (200 : Int32)).bind fun h9 =>
  (pR 8 7 h9 (some a0) (some (hz h8))).bind fun h10 =>
  (na 10 400 h10 (400 : Int32)).bind fun h11 =>
  (pR 8 9 h11 (some a0) (some (hz h10))).bind fun h12 =>
  (na 10 400 h12 (400 : Int32)).bind fun h13 =>
  (pR 8 10 h13 (some a0) (some (hz h12))).bind fun h14 =>
  (na 10 400 h14 (400 : Int32)).bind fun h15 =>
  (pR 8 11 h15 (some a0) (some (hz h14))).bind fun h16 =>
  (na 10 400 h16 (400 : Int32)).bind fun h17 =>
  (pR 8 12 h17 (some a0) (some (hz h16))).bind fun h18 =>
  (na 10 400 h18 (400 : Int32)).bind fun h19 =>
  (pR 8 13 h19 (some a0) (some (hz h18))).bind fun h20 =>
  (na 10 400 h20 (400 : Int32)).bind fun h21 =>
  (pR 8 14 h21 (some a0) (some (hz h20))).bind fun h22 =>
  (na 10 400 h22 (400 : Int32)).bind fun h23 =>
  (pR 8 15 h23 (some a0) (some (hz h22))).bind fun h24 =>
  (na 10 400 h24 (400 : Int32)).bind fun h25 =>
  (pR 8 16 h25 (some a0) (some (hz h24))).bind fun h26 =>
  (na 10 400 h26 (400 : Int32)).bind fun h27 =>
  (pR 8 17 h27 (some a0) (some (hz h26))).bind fun h28 =>
  (na 10 400 h28 (400 : Int32)).bind fun h29 =>
  (pR 8 18 h29 (some a0) (some (hz h28))).bind fun h30 =>
  (na 11 400 h30 (400 : Int32)).bind fun h31 =>
  (pR 8 19 h31 (some a0) (some (hz h30))).bind fun h32 =>
  (na 12 400 h32 (400 : Int32)).bind fun h33 =>
  (pR 8 22 h33 (some a0) (some (hz h32))).bind fun h34 =>
  (na 10 10 h34 (10 : Int32)).bind fun h35 =>
  (pR 8 23 h35 (some a0) (some (hz h34))).bind fun h36 =>
  (na 10 80 h36 (80 : Int32)).bind fun h37 =>
  (pR 8 24 h37 (some a0) (some (hz h36))).bind fun h38 =>
  (na 10 80 h38 (80 : Int32)).bind fun h39 =>
  (pR 8 25 h39 (some a0) (some (hz h38))).bind fun h40 =>
  (na 11 8000 h40 (8000 : Int32)).bind fun h41 =>
  (pR 8 26 h41 (some a0) (some (hz h40))).bind fun h42 =>
  (na 11 100 h42 (100 : Int32)).bind fun h43 =>
  (pR 8 27 h43 (some a0) (some (hz h42))).bind fun h44 =>
  some h44
theorem x_X8_init (G : Gm) (a0 : Nat) (h : AH) (o : AH) (hf : f_X8_init a0 h = some o) : GO G mX8_init 22 13310 0 [(0, vr (some a0))] [] h none o := by
  unfold f_X8_init at hf
  refine g_aload_n (M := mX8_init) dX8_init_0 rfl 0 rfl ?_
  refine g_obj (M := mX8_init) dX8_init_1 mlRX8_1 im_objectInit cd_objectInit (Nat.le_of_ble_eq_true rfl) (by decide) ?_
  refine g_aload_n (M := mX8_init) dX8_init_4 rfl 0 rfl ?_
  refine g_bipush (M := mX8_init) (v := 10) dX8_init_5 rfl ?_
  obtain ⟨h1, eh1, hf⟩ := bd hf
  refine g_newa (M := mX8_init) (kc := 21) (ks := 13300) (t := 10) (j := 0) (ty := .int) rfl rfl (Nat.le_of_ble_eq_true rfl) (fun _ => rfl) rfl (fun _ _ z => z) dX8_init_7 ac_int (Nat.le_of_ble_eq_true rfl) (Nat.le_of_ble_eq_true rfl) eh1 ?_
  obtain ⟨h2, eh2, hf⟩ := bd hf
  refine g_putRF (M := mX8_init) dX8_init_9 flRX8_7 rfl rfl (Or.inr ⟨_, rfl⟩) eh2 ?_
  refine g_aload_n (M := mX8_init) dX8_init_12 rfl 0 rfl ?_
  refine g_bipush (M := mX8_init) (v := 10) dX8_init_13 rfl ?_
  obtain ⟨h3, eh3, hf⟩ := bd hf
  refine g_newa (M := mX8_init) (kc := 20) (ks := 13290) (t := 10) (j := 0) (ty := .int) rfl rfl (Nat.le_of_ble_eq_true rfl) (fun _ => rfl) rfl (fun _ _ z => z) dX8_init_15 ac_int (Nat.le_of_ble_eq_true rfl) (Nat.le_of_ble_eq_true rfl) eh3 ?_
  obtain ⟨h4, eh4, hf⟩ := bd hf
  refine g_putRF (M := mX8_init) dX8_init_17 flRX8_13 rfl rfl (Or.inr ⟨_, rfl⟩) eh4 ?_
  refine g_aload_n (M := mX8_init) dX8_init_20 rfl 0 rfl ?_
  refine g_bipush (M := mX8_init) (v := 10) dX8_init_21 rfl ?_
  obtain ⟨h5, eh5, hf⟩ := bd hf
  refine g_newa (M := mX8_init) (kc := 19) (ks := 13280) (t := 10) (j := 0) (ty := .int) rfl rfl (Nat.le_of_ble_eq_true rfl) (fun _ => rfl) rfl (fun _ _ z => z) dX8_init_23 ac_int (Nat.le_of_ble_eq_true rfl) (Nat.le_of_ble_eq_true rfl) eh5 ?_
  obtain ⟨h6, eh6, hf⟩ := bd hf
  refine g_putRF (M := mX8_init) dX8_init_25 flRX8_16 rfl rfl (Or.inr ⟨_, rfl⟩) eh6 ?_
  refine g_aload_n (M := mX8_init) dX8_init_28 rfl 0 rfl ?_
  refine g_bipush (M := mX8_init) (v := 10) dX8_init_29 rfl ?_
  obtain ⟨h7, eh7, hf⟩ := bd hf
  refine g_newa (M := mX8_init) (kc := 18) (ks := 13270) (t := 10) (j := 0) (ty := .int) rfl rfl (Nat.le_of_ble_eq_true rfl) (fun _ => rfl) rfl (fun _ _ z => z) dX8_init_31 ac_int (Nat.le_of_ble_eq_true rfl) (Nat.le_of_ble_eq_true rfl) eh7 ?_
  obtain ⟨h8, eh8, hf⟩ := bd hf
  refine g_putRF (M := mX8_init) dX8_init_33 flRX8_19 rfl rfl (Or.inr ⟨_, rfl⟩) eh8 ?_
  refine g_aload_n (M := mX8_init) dX8_init_36 rfl 0 rfl ?_
  refine g_sipush (M := mX8_init) (v := 200) dX8_init_37 rfl ?_
  obtain ⟨h9, eh9, hf⟩ := bd hf
  refine g_newa (M := mX8_init) (kc := 17) (ks := 13070) (t := 10) (j := 0) (ty := .int) rfl rfl (Nat.le_of_ble_eq_true rfl) (fun _ => rfl) rfl (fun _ _ z => z) dX8_init_40 ac_int (Nat.le_of_ble_eq_true rfl) (Nat.le_of_ble_eq_true rfl) eh9 ?_
  obtain ⟨h10, eh10, hf⟩ := bd hf
  refine g_putRF (M := mX8_init) dX8_init_42 flRX8_22 rfl rfl (Or.inr ⟨_, rfl⟩) eh10 ?_
  refine g_aload_n (M := mX8_init) dX8_init_45 rfl 0 rfl ?_
  refine g_sipush (M := mX8_init) (v := 400) dX8_init_46 rfl ?_
  obtain ⟨h11, eh11, hf⟩ := bd hf
  refine g_newa (M := mX8_init) (kc := 16) (ks := 12670) (t := 10) (j := 0) (ty := .int) rfl rfl (Nat.le_of_ble_eq_true rfl) (fun _ => rfl) rfl (fun _ _ z => z) dX8_init_49 ac_int (Nat.le_of_ble_eq_true rfl) (Nat.le_of_ble_eq_true rfl) eh11 ?_
  obtain ⟨h12, eh12, hf⟩ := bd hf
  refine g_putRF (M := mX8_init) dX8_init_51 flRX8_25 rfl rfl (Or.inr ⟨_, rfl⟩) eh12 ?_
  refine g_aload_n (M := mX8_init) dX8_init_54 rfl 0 rfl ?_
  refine g_sipush (M := mX8_init) (v := 400) dX8_init_55 rfl ?_
  obtain ⟨h13, eh13, hf⟩ := bd hf
  refine g_newa (M := mX8_init) (kc := 15) (ks := 12270) (t := 10) (j := 0) (ty := .int) rfl rfl (Nat.le_of_ble_eq_true rfl) (fun _ => rfl) rfl (fun _ _ z => z) dX8_init_58 ac_int (Nat.le_of_ble_eq_true rfl) (Nat.le_of_ble_eq_true rfl) eh13 ?_
  obtain ⟨h14, eh14, hf⟩ := bd hf
  refine g_putRF (M := mX8_init) dX8_init_60 flRX8_28 rfl rfl (Or.inr ⟨_, rfl⟩) eh14 ?_
  refine g_aload_n (M := mX8_init) dX8_init_63 rfl 0 rfl ?_
  refine g_sipush (M := mX8_init) (v := 400) dX8_init_64 rfl ?_
  obtain ⟨h15, eh15, hf⟩ := bd hf
  refine g_newa (M := mX8_init) (kc := 14) (ks := 11870) (t := 10) (j := 0) (ty := .int) rfl rfl (Nat.le_of_ble_eq_true rfl) (fun _ => rfl) rfl (fun _ _ z => z) dX8_init_67 ac_int (Nat.le_of_ble_eq_true rfl) (Nat.le_of_ble_eq_true rfl) eh15 ?_
  obtain ⟨h16, eh16, hf⟩ := bd hf
  refine g_putRF (M := mX8_init) dX8_init_69 flRX8_31 rfl rfl (Or.inr ⟨_, rfl⟩) eh16 ?_
  refine g_aload_n (M := mX8_init) dX8_init_72 rfl 0 rfl ?_
  refine g_sipush (M := mX8_init) (v := 400) dX8_init_73 rfl ?_
  obtain ⟨h17, eh17, hf⟩ := bd hf
  refine g_newa (M := mX8_init) (kc := 13) (ks := 11470) (t := 10) (j := 0) (ty := .int) rfl rfl (Nat.le_of_ble_eq_true rfl) (fun _ => rfl) rfl (fun _ _ z => z) dX8_init_76 ac_int (Nat.le_of_ble_eq_true rfl) (Nat.le_of_ble_eq_true rfl) eh17 ?_
  obtain ⟨h18, eh18, hf⟩ := bd hf
  refine g_putRF (M := mX8_init) dX8_init_78 flRX8_34 rfl rfl (Or.inr ⟨_, rfl⟩) eh18 ?_
  refine g_aload_n (M := mX8_init) dX8_init_81 rfl 0 rfl ?_
  refine g_sipush (M := mX8_init) (v := 400) dX8_init_82 rfl ?_
  obtain ⟨h19, eh19, hf⟩ := bd hf
  refine g_newa (M := mX8_init) (kc := 12) (ks := 11070) (t := 10) (j := 0) (ty := .int) rfl rfl (Nat.le_of_ble_eq_true rfl) (fun _ => rfl) rfl (fun _ _ z => z) dX8_init_85 ac_int (Nat.le_of_ble_eq_true rfl) (Nat.le_of_ble_eq_true rfl) eh19 ?_
  obtain ⟨h20, eh20, hf⟩ := bd hf
  refine g_putRF (M := mX8_init) dX8_init_87 flRX8_37 rfl rfl (Or.inr ⟨_, rfl⟩) eh20 ?_
  refine g_aload_n (M := mX8_init) dX8_init_90 rfl 0 rfl ?_
  refine g_sipush (M := mX8_init) (v := 400) dX8_init_91 rfl ?_
  obtain ⟨h21, eh21, hf⟩ := bd hf
  refine g_newa (M := mX8_init) (kc := 11) (ks := 10670) (t := 10) (j := 0) (ty := .int) rfl rfl (Nat.le_of_ble_eq_true rfl) (fun _ => rfl) rfl (fun _ _ z => z) dX8_init_94 ac_int (Nat.le_of_ble_eq_true rfl) (Nat.le_of_ble_eq_true rfl) eh21 ?_
  obtain ⟨h22, eh22, hf⟩ := bd hf
  refine g_putRF (M := mX8_init) dX8_init_96 flRX8_40 rfl rfl (Or.inr ⟨_, rfl⟩) eh22 ?_
  refine g_aload_n (M := mX8_init) dX8_init_99 rfl 0 rfl ?_
  refine g_sipush (M := mX8_init) (v := 400) dX8_init_100 rfl ?_
  obtain ⟨h23, eh23, hf⟩ := bd hf
  refine g_newa (M := mX8_init) (kc := 10) (ks := 10270) (t := 10) (j := 0) (ty := .int) rfl rfl (Nat.le_of_ble_eq_true rfl) (fun _ => rfl) rfl (fun _ _ z => z) dX8_init_103 ac_int (Nat.le_of_ble_eq_true rfl) (Nat.le_of_ble_eq_true rfl) eh23 ?_
  obtain ⟨h24, eh24, hf⟩ := bd hf
  refine g_putRF (M := mX8_init) dX8_init_105 flRX8_43 rfl rfl (Or.inr ⟨_, rfl⟩) eh24 ?_
  refine g_aload_n (M := mX8_init) dX8_init_108 rfl 0 rfl ?_
  refine g_sipush (M := mX8_init) (v := 400) dX8_init_109 rfl ?_
  obtain ⟨h25, eh25, hf⟩ := bd hf
  refine g_newa (M := mX8_init) (kc := 9) (ks := 9870) (t := 10) (j := 0) (ty := .int) rfl rfl (Nat.le_of_ble_eq_true rfl) (fun _ => rfl) rfl (fun _ _ z => z) dX8_init_112 ac_int (Nat.le_of_ble_eq_true rfl) (Nat.le_of_ble_eq_true rfl) eh25 ?_
  obtain ⟨h26, eh26, hf⟩ := bd hf
  refine g_putRF (M := mX8_init) dX8_init_114 flRX8_46 rfl rfl (Or.inr ⟨_, rfl⟩) eh26 ?_
  refine g_aload_n (M := mX8_init) dX8_init_117 rfl 0 rfl ?_
  refine g_sipush (M := mX8_init) (v := 400) dX8_init_118 rfl ?_
  obtain ⟨h27, eh27, hf⟩ := bd hf
  refine g_newa (M := mX8_init) (kc := 8) (ks := 9470) (t := 10) (j := 0) (ty := .int) rfl rfl (Nat.le_of_ble_eq_true rfl) (fun _ => rfl) rfl (fun _ _ z => z) dX8_init_121 ac_int (Nat.le_of_ble_eq_true rfl) (Nat.le_of_ble_eq_true rfl) eh27 ?_
  obtain ⟨h28, eh28, hf⟩ := bd hf
  refine g_putRF (M := mX8_init) dX8_init_123 flRX8_49 rfl rfl (Or.inr ⟨_, rfl⟩) eh28 ?_
  refine g_aload_n (M := mX8_init) dX8_init_126 rfl 0 rfl ?_
  refine g_sipush (M := mX8_init) (v := 400) dX8_init_127 rfl ?_
  obtain ⟨h29, eh29, hf⟩ := bd hf
  refine g_newa (M := mX8_init) (kc := 7) (ks := 9070) (t := 10) (j := 0) (ty := .int) rfl rfl (Nat.le_of_ble_eq_true rfl) (fun _ => rfl) rfl (fun _ _ z => z) dX8_init_130 ac_int (Nat.le_of_ble_eq_true rfl) (Nat.le_of_ble_eq_true rfl) eh29 ?_
  obtain ⟨h30, eh30, hf⟩ := bd hf
  refine g_putRF (M := mX8_init) dX8_init_132 flRX8_52 rfl rfl (Or.inr ⟨_, rfl⟩) eh30 ?_
  refine g_aload_n (M := mX8_init) dX8_init_135 rfl 0 rfl ?_
  refine g_sipush (M := mX8_init) (v := 400) dX8_init_136 rfl ?_
  obtain ⟨h31, eh31, hf⟩ := bd hf
  refine g_newa (M := mX8_init) (kc := 6) (ks := 8670) (t := 11) (j := 1) (ty := .long) rfl rfl (Nat.le_of_ble_eq_true rfl) (fun _ => rfl) rfl (fun _ _ z => z) dX8_init_139 ac_long (Nat.le_of_ble_eq_true rfl) (Nat.le_of_ble_eq_true rfl) eh31 ?_
  obtain ⟨h32, eh32, hf⟩ := bd hf
  refine g_putRF (M := mX8_init) dX8_init_141 flRX8_55 rfl rfl (Or.inr ⟨_, rfl⟩) eh32 ?_
  refine g_aload_n (M := mX8_init) dX8_init_144 rfl 0 rfl ?_
  refine g_sipush (M := mX8_init) (v := 400) dX8_init_145 rfl ?_
  obtain ⟨h33, eh33, hf⟩ := bd hf
  refine g_newa (M := mX8_init) (kc := 5) (ks := 8270) (t := 12) (j := 2) (ty := .boolean) rfl rfl (Nat.le_of_ble_eq_true rfl) (fun _ => rfl) rfl (fun _ _ z => z) dX8_init_148 ac_boolean (Nat.le_of_ble_eq_true rfl) (Nat.le_of_ble_eq_true rfl) eh33 ?_
  obtain ⟨h34, eh34, hf⟩ := bd hf
  refine g_putRF (M := mX8_init) dX8_init_150 flRX8_59 rfl rfl (Or.inr ⟨_, rfl⟩) eh34 ?_
  refine g_aload_n (M := mX8_init) dX8_init_153 rfl 0 rfl ?_
  refine g_bipush (M := mX8_init) (v := 10) dX8_init_154 rfl ?_
  obtain ⟨h35, eh35, hf⟩ := bd hf
  refine g_newa (M := mX8_init) (kc := 4) (ks := 8260) (t := 10) (j := 0) (ty := .int) rfl rfl (Nat.le_of_ble_eq_true rfl) (fun _ => rfl) rfl (fun _ _ z => z) dX8_init_156 ac_int (Nat.le_of_ble_eq_true rfl) (Nat.le_of_ble_eq_true rfl) eh35 ?_
  obtain ⟨h36, eh36, hf⟩ := bd hf
  refine g_putRF (M := mX8_init) dX8_init_158 flRX8_63 rfl rfl (Or.inr ⟨_, rfl⟩) eh36 ?_
  refine g_aload_n (M := mX8_init) dX8_init_161 rfl 0 rfl ?_
  refine g_bipush (M := mX8_init) (v := 80) dX8_init_162 rfl ?_
  obtain ⟨h37, eh37, hf⟩ := bd hf
  refine g_newa (M := mX8_init) (kc := 3) (ks := 8180) (t := 10) (j := 0) (ty := .int) rfl rfl (Nat.le_of_ble_eq_true rfl) (fun _ => rfl) rfl (fun _ _ z => z) dX8_init_164 ac_int (Nat.le_of_ble_eq_true rfl) (Nat.le_of_ble_eq_true rfl) eh37 ?_
  obtain ⟨h38, eh38, hf⟩ := bd hf
  refine g_putRF (M := mX8_init) dX8_init_166 flRX8_66 rfl rfl (Or.inr ⟨_, rfl⟩) eh38 ?_
  refine g_aload_n (M := mX8_init) dX8_init_169 rfl 0 rfl ?_
  refine g_bipush (M := mX8_init) (v := 80) dX8_init_170 rfl ?_
  obtain ⟨h39, eh39, hf⟩ := bd hf
  refine g_newa (M := mX8_init) (kc := 2) (ks := 8100) (t := 10) (j := 0) (ty := .int) rfl rfl (Nat.le_of_ble_eq_true rfl) (fun _ => rfl) rfl (fun _ _ z => z) dX8_init_172 ac_int (Nat.le_of_ble_eq_true rfl) (Nat.le_of_ble_eq_true rfl) eh39 ?_
  obtain ⟨h40, eh40, hf⟩ := bd hf
  refine g_putRF (M := mX8_init) dX8_init_174 flRX8_69 rfl rfl (Or.inr ⟨_, rfl⟩) eh40 ?_
  refine g_aload_n (M := mX8_init) dX8_init_177 rfl 0 rfl ?_
  refine g_sipush (M := mX8_init) (v := 8000) dX8_init_178 rfl ?_
  obtain ⟨h41, eh41, hf⟩ := bd hf
  refine g_newa (M := mX8_init) (kc := 1) (ks := 100) (t := 11) (j := 1) (ty := .long) rfl rfl (Nat.le_of_ble_eq_true rfl) (fun _ => rfl) rfl (fun _ _ z => z) dX8_init_181 ac_long (Nat.le_of_ble_eq_true rfl) (Nat.le_of_ble_eq_true rfl) eh41 ?_
  obtain ⟨h42, eh42, hf⟩ := bd hf
  refine g_putRF (M := mX8_init) dX8_init_183 flRX8_72 rfl rfl (Or.inr ⟨_, rfl⟩) eh42 ?_
  refine g_aload_n (M := mX8_init) dX8_init_186 rfl 0 rfl ?_
  refine g_bipush (M := mX8_init) (v := 100) dX8_init_187 rfl ?_
  obtain ⟨h43, eh43, hf⟩ := bd hf
  refine g_newa (M := mX8_init) (kc := 0) (ks := 0) (t := 11) (j := 1) (ty := .long) rfl rfl (Nat.le_of_ble_eq_true rfl) (fun _ => rfl) rfl (fun _ _ z => z) dX8_init_189 ac_long (Nat.le_of_ble_eq_true rfl) (Nat.le_of_ble_eq_true rfl) eh43 ?_
  obtain ⟨h44, eh44, hf⟩ := bd hf
  refine g_putRF (M := mX8_init) dX8_init_191 flRX8_75 rfl rfl (Or.inr ⟨_, rfl⟩) eh44 ?_
  cases hf
  exact g_ret (M := mX8_init) dX8_init_194 rfl
theorem c_X8_init (G : Gm) (a0 : Nat) (h : AH) (o : AH) (hf : f_X8_init a0 h = some o) : CT G yX8_init mX8_init none 22 13310 [vr (some a0)] h none o :=
  CT.void (by decide +kernel) rfl rfl rfl (Nat.le_of_ble_eq_true rfl) (x_X8_init G a0 h o hf)
theorem cbX8_init : CB yX8_init mX8_init none 0 := ⟨cd_yX8_init, itRX8, ⟨by decide, by decide⟩, by decide +kernel, by decide⟩
