abbrev mX7_note : MI := (RX7, "note", cX7_note, 4, .ireturn, 3)
def f_X7_note (a0 : Nat) (a1 : Int64) (h : AH) : Option (Int32 × AH) :=
  (gR 7 1 h (some a0)).bind fun v1 =>
  (ck 4 h v1).bind fun b2 =>
  (f_X4_isFull b2 h).bind fun r3 =>
  if (b2i r3) = 0 then (
    (gR 7 1 h (some a0)).bind fun v4 =>
    (gI 7 6 h (some a0)).bind fun v5 =>
    (gI 7 6 h (some a0)).bind fun v6 =>
    (ck 4 h v4).bind fun b7 =>
    (f_X4_lodge b7 (9 : Int32) (-1 : Int32) none v5 v6 h).bind fun r8 =>
    (pJ 3 11 r8.2 r8.1 a1).bind fun h9 =>
    (gI 3 0 h9 r8.1).bind fun v10 =>
    some (v10, h9)
  ) else (
    some ((-8 : Int32), h)
  )
theorem x_X7_note (G : Gm) (a0 : Nat) (a1 : Int64) (h : AH) (o : (Int32 × AH)) (hf : f_X7_note a0 a1 h = some o) : GO G mX7_note 1 15 0 [(0, vr (some a0)), (1, vl a1)] [] h (some (vi o.1)) o.2 := by
  unfold f_X7_note at hf
  refine g_aload_n (M := mX7_note) dX7_note_0 rfl 0 rfl ?_
  obtain ⟨v1, ev1, hf⟩ := bd hf
  refine g_getR (M := mX7_note) dX7_note_1 flRX7_18 (fun _ => rfl) ev1 ?_
  obtain ⟨b2, eb2, hf⟩ := bd hf
  obtain ⟨r3, er3, hf⟩ := bd hf
  refine g_callV (M := mX7_note) (kc := 1) (ks := 15) (as := []) (rest := []) dX7_note_4 cbX4_isFull vwRX7_74 rfl eb2 rfl (Nat.le_of_ble_eq_true rfl) (Nat.le_of_ble_eq_true rfl) (c_X4_isFull G b2 h r3 er3) ?_
  refine g_if_eq (M := mX7_note) (tgt := 13) dX7_note_7 rfl (fun q7 => ?_) (fun q7 => ?_)
  · replace hf := ift hf q7
    refine g_aload_n (M := mX7_note) dX7_note_13 rfl 0 rfl ?_
    obtain ⟨v4, ev4, hf⟩ := bd hf
    refine g_getR (M := mX7_note) dX7_note_14 flRX7_18 (fun _ => rfl) ev4 ?_
    refine g_bipush (M := mX7_note) (v := 9) dX7_note_17 rfl ?_
    refine g_iconst (M := mX7_note) (v := -1) dX7_note_19 rfl ?_
    refine g_null (M := mX7_note) dX7_note_20 ?_
    refine g_aload_n (M := mX7_note) dX7_note_21 rfl 0 rfl ?_
    obtain ⟨v5, ev5, hf⟩ := bd hf
    refine g_getI (M := mX7_note) dX7_note_22 flRX7_67 (fun _ => rfl) ev5 ?_
    refine g_aload_n (M := mX7_note) dX7_note_25 rfl 0 rfl ?_
    obtain ⟨v6, ev6, hf⟩ := bd hf
    refine g_getI (M := mX7_note) dX7_note_26 flRX7_67 (fun _ => rfl) ev6 ?_
    obtain ⟨b7, eb7, hf⟩ := bd hf
    obtain ⟨r8, er8, hf⟩ := bd hf
    refine g_callV (M := mX7_note) (kc := 0) (ks := 0) (as := [vi (9 : Int32), vi (-1 : Int32), vr none, vi v5, vi v6]) (rest := []) dX7_note_29 cbX4_lodge vwRX7_82 rfl eb7 rfl (Nat.le_of_ble_eq_true rfl) (Nat.le_of_ble_eq_true rfl) (c_X4_lodge G b7 (9 : Int32) (-1 : Int32) none v5 v6 h r8 er8) ?_
    refine g_astore_n (M := mX7_note) (L2 := [(3, vr r8.1), (0, vr (some a0)), (1, vl a1)]) dX7_note_32 rfl (Nat.le_of_ble_eq_true rfl) rfl ?_
    refine g_aload_n (M := mX7_note) dX7_note_33 rfl 0 rfl ?_
    refine g_lload_n (M := mX7_note) dX7_note_34 rfl 2 rfl ?_
    obtain ⟨h9, eh9, hf⟩ := bd hf
    refine g_putJ (M := mX7_note) dX7_note_35 flRX7_150 rfl eh9 ?_
    refine g_aload_n (M := mX7_note) dX7_note_38 rfl 0 rfl ?_
    obtain ⟨v10, ev10, hf⟩ := bd hf
    refine g_getI (M := mX7_note) dX7_note_39 flRX7_86 (fun _ => rfl) ev10 ?_
    cases hf
    exact g_ret (M := mX7_note) dX7_note_42 rfl
  · replace hf := iff_ hf q7
    refine g_bipush (M := mX7_note) (v := -8) dX7_note_10 rfl ?_
    cases hf
    exact g_weak (M := mX7_note) (Nat.zero_le _) (Nat.zero_le _) (g_ret (M := mX7_note) dX7_note_12 rfl)
theorem c_X7_note (G : Gm) (a0 : Nat) (a1 : Int64) (h : AH) (o : (Int32 × AH)) (hf : f_X7_note a0 a1 h = some o) : CT G yX7_note mX7_note (some .int) 1 15 [vr (some a0), vl a1] h (some (vi o.1)) o.2 :=
  CT.int (by decide +kernel) rfl rfl rfl (Nat.le_of_ble_eq_true rfl) (x_X7_note G a0 a1 h o hf)
theorem cbX7_note : CB yX7_note mX7_note (some .int) 1 := ⟨cd_yX7_note, itRX7, ⟨by decide, by decide⟩, by decide +kernel, by decide⟩
abbrev mX7_undo : MI := (RX7, "undo", cX7_undo, 2, .ireturn, 1)
def f_X7_undo (a0 : Nat) (h : AH) : Option (Int32 × AH) :=
  (gR 7 1 h (some a0)).bind fun v1 =>
  (gR 7 1 h (some a0)).bind fun v2 =>
  (gI 4 1 h v2).bind fun v3 =>
  (ck 4 h v1).bind fun b4 =>
  (f_X4_at b4 (v3 - (1 : Int32)) h).bind fun r5 =>
  if r5 = none then (
    some ((-1 : Int32), h)
  ) else (
    (gI 3 4 h r5).bind fun v6 =>
    (gI 7 6 h (some a0)).bind fun v7 =>
    if v6 = v7 then (
      (ck 3 h r5).bind fun b8 =>
      (f_X3_release b8 h).bind fun r9 =>
      (gR 7 1 r9 (some a0)).bind fun v10 =>
      (ck 4 r9 v10).bind fun b11 =>
      (f_X4_dropLatest b11 r9).bind fun r12 =>
      (gI 3 0 r12 r5).bind fun v13 =>
      some (v13, r12)
    ) else (
      some ((-1 : Int32), h)
    )
  )
theorem x_X7_undo (G : Gm) (a0 : Nat) (h : AH) (o : (Int32 × AH)) (hf : f_X7_undo a0 h = some o) : GO G mX7_undo 0 0 0 [(0, vr (some a0))] [] h (some (vi o.1)) o.2 := by
  unfold f_X7_undo at hf
  refine g_aload_n (M := mX7_undo) dX7_undo_0 rfl 0 rfl ?_
  obtain ⟨v1, ev1, hf⟩ := bd hf
  refine g_getR (M := mX7_undo) dX7_undo_1 flRX7_18 (fun _ => rfl) ev1 ?_
  refine g_aload_n (M := mX7_undo) dX7_undo_4 rfl 0 rfl ?_
  obtain ⟨v2, ev2, hf⟩ := bd hf
  refine g_getR (M := mX7_undo) dX7_undo_5 flRX7_18 (fun _ => rfl) ev2 ?_
  obtain ⟨v3, ev3, hf⟩ := bd hf
  refine g_getI (M := mX7_undo) dX7_undo_8 flRX7_154 (fun _ => rfl) ev3 ?_
  refine g_iconst (M := mX7_undo) (v := 1) dX7_undo_11 rfl ?_
  refine g_isub (M := mX7_undo) dX7_undo_12 ?_
  obtain ⟨b4, eb4, hf⟩ := bd hf
  obtain ⟨r5, er5, hf⟩ := bd hf
  refine g_callV (M := mX7_undo) (kc := 0) (ks := 0) (as := [vi (v3 - (1 : Int32))]) (rest := []) dX7_undo_13 cbX4_at vwRX7_108 rfl eb4 rfl (Nat.le_of_ble_eq_true rfl) (Nat.le_of_ble_eq_true rfl) (c_X4_at G b4 (v3 - (1 : Int32)) h r5 er5) ?_
  refine g_astore_n (M := mX7_undo) (L2 := [(1, vr r5), (0, vr (some a0))]) dX7_undo_16 rfl (Nat.le_of_ble_eq_true rfl) rfl ?_
  refine g_aload_n (M := mX7_undo) dX7_undo_17 rfl 0 rfl ?_
  refine g_ifnull (M := mX7_undo) (tgt := 32) dX7_undo_18 rfl (fun q18 => ?_) (fun q18 => ?_)
  · replace hf := ift hf q18
    refine g_iconst (M := mX7_undo) (v := -1) dX7_undo_32 rfl ?_
    cases hf
    exact g_ret (M := mX7_undo) dX7_undo_33 rfl
  · replace hf := iff_ hf q18
    refine g_aload_n (M := mX7_undo) dX7_undo_21 rfl 0 rfl ?_
    obtain ⟨v6, ev6, hf⟩ := bd hf
    refine g_getI (M := mX7_undo) dX7_undo_22 flRX7_123 (fun _ => rfl) ev6 ?_
    refine g_aload_n (M := mX7_undo) dX7_undo_25 rfl 1 rfl ?_
    obtain ⟨v7, ev7, hf⟩ := bd hf
    refine g_getI (M := mX7_undo) dX7_undo_26 flRX7_67 (fun _ => rfl) ev7 ?_
    refine g_ic_eq (M := mX7_undo) (tgt := 34) dX7_undo_29 rfl (fun q29 => ?_) (fun q29 => ?_)
    · replace hf := ift hf q29
      refine g_aload_n (M := mX7_undo) dX7_undo_34 rfl 0 rfl ?_
      obtain ⟨b8, eb8, hf⟩ := bd hf
      obtain ⟨r9, er9, hf⟩ := bd hf
      refine g_callV (M := mX7_undo) (kc := 0) (ks := 0) (as := []) (rest := []) dX7_undo_35 cbX3_release vwRX7_157 rfl eb8 rfl (Nat.le_of_ble_eq_true rfl) (Nat.le_of_ble_eq_true rfl) (c_X3_release G b8 h r9 er9) ?_
      refine g_aload_n (M := mX7_undo) dX7_undo_38 rfl 1 rfl ?_
      obtain ⟨v10, ev10, hf⟩ := bd hf
      refine g_getR (M := mX7_undo) dX7_undo_39 flRX7_18 (fun _ => rfl) ev10 ?_
      obtain ⟨b11, eb11, hf⟩ := bd hf
      obtain ⟨r12, er12, hf⟩ := bd hf
      refine g_callV (M := mX7_undo) (kc := 0) (ks := 0) (as := []) (rest := []) dX7_undo_42 cbX4_dropLatest vwRX7_160 rfl eb11 rfl (Nat.le_of_ble_eq_true rfl) (Nat.le_of_ble_eq_true rfl) (c_X4_dropLatest G b11 r9 r12 er12) ?_
      refine g_aload_n (M := mX7_undo) dX7_undo_45 rfl 0 rfl ?_
      obtain ⟨v13, ev13, hf⟩ := bd hf
      refine g_getI (M := mX7_undo) dX7_undo_46 flRX7_86 (fun _ => rfl) ev13 ?_
      cases hf
      exact g_ret (M := mX7_undo) dX7_undo_49 rfl
    · replace hf := iff_ hf q29
      refine g_iconst (M := mX7_undo) (v := -1) dX7_undo_32 rfl ?_
      cases hf
      exact g_ret (M := mX7_undo) dX7_undo_33 rfl
theorem c_X7_undo (G : Gm) (a0 : Nat) (h : AH) (o : (Int32 × AH)) (hf : f_X7_undo a0 h = some o) : CT G yX7_undo mX7_undo (some .int) 0 0 [vr (some a0)] h (some (vi o.1)) o.2 :=
  CT.int (by decide +kernel) rfl rfl rfl (Nat.le_of_ble_eq_true rfl) (x_X7_undo G a0 h o hf)
theorem cbX7_undo : CB yX7_undo mX7_undo (some .int) 0 := ⟨cd_yX7_undo, itRX7, ⟨by decide, by decide⟩, by decide +kernel, by decide⟩
abbrev mX7_isDay : MI := (RX7, "isDay", cX7_isDay, 1, .ireturn, 1)
def f_X7_isDay (a0 : Int32) (h : AH) : Option Bool :=
  (f_X7_isFrom (0 : Int32) (73000 : Int32) a0 h).bind fun r1 =>
  some r1
theorem x_X7_isDay (G : Gm) (a0 : Int32) (h : AH) (o : Bool) (hf : f_X7_isDay a0 h = some o) : GO G mX7_isDay 0 0 0 [(0, vi a0)] [] h (some (vi (b2i o))) h := by
  unfold f_X7_isDay at hf
  refine g_iconst (M := mX7_isDay) (v := 0) dX7_isDay_0 rfl ?_
  refine g_ldc (M := mX7_isDay) dX7_isDay_1 csRX7_70 ?_
  refine g_iload_n (M := mX7_isDay) dX7_isDay_3 rfl 0 rfl ?_
  obtain ⟨r1, er1, hf⟩ := bd hf
  refine g_callS (M := mX7_isDay) (kc := 0) (ks := 0) (as := [vi (0 : Int32), vi (73000 : Int32), vi a0]) (rest := []) dX7_isDay_4 cbX7_isFrom mlRX7_43 st_yX7_isFrom rfl rfl (Nat.le_of_ble_eq_true rfl) (Nat.le_of_ble_eq_true rfl) (c_X7_isFrom G (0 : Int32) (73000 : Int32) a0 h r1 er1) ?_
  cases hf
  exact g_ret (M := mX7_isDay) dX7_isDay_7 rfl
theorem c_X7_isDay (G : Gm) (a0 : Int32) (h : AH) (o : Bool) (hf : f_X7_isDay a0 h = some o) : CT G yX7_isDay mX7_isDay (some .boolean) 0 0 [vi a0] h (some (vi (b2i o))) h :=
  CT.bool (by decide +kernel) rfl rfl rfl (Nat.le_of_ble_eq_true rfl) (b2i_01 _) (x_X7_isDay G a0 h o hf)
theorem cbX7_isDay : CB yX7_isDay mX7_isDay (some .boolean) 1 := ⟨cd_yX7_isDay, itRX7, ⟨by decide, by decide⟩, by decide +kernel, by decide⟩
abbrev mX7_settle : MI := (RX7, "settle", cX7_settle, 8, .ireturn, 5)
def f_X7_settle (a0 : Nat) (a1 : Int32) (a2 : Int32) (a3 : Int32) (a4 : Int32) (a5 : Int32) (a6 : Int32) (h : AH) : Option (Bool × AH) :=
  (ck 7 h (some a0)).bind fun b1 =>
  (f_X7_agreementAt b1 a3 h).bind fun r2 =>
  (ck 7 h (some a0)).bind fun b3 =>
  (f_X7_isParty b3 a1 h).bind fun r4 =>
  if (b2i r4) = 0 then (
    some (false, h)
  ) else (
    (ck 7 h (some a0)).bind fun b5 =>
    (f_X7_isParty b5 a2 h).bind fun r6 =>
    if (b2i r6) = 0 then (
      some (false, h)
    ) else (
      if a1 = a2 then (
        some (false, h)
      ) else (
        if r2 = none then (
          some (false, h)
        ) else (
          (ck 0 h r2).bind fun b7 =>
          (f_X0_hasArticle b7 a4 h).bind fun r8 =>
          if (b2i r8) = 0 then (
            some (false, h)
          ) else (
            (f_X7_isDay a5 h).bind fun r9 =>
            if (b2i r9) = 0 then (
              some (false, h)
            ) else (
              (f_X7_isDay a6 h).bind fun r10 =>
              if (b2i r10) = 0 then (
                some (false, h)
              ) else (
                (gR 7 3 h (some a0)).bind fun v11 =>
                (gR 7 1 h (some a0)).bind fun v12 =>
                (ck 2 h v11).bind fun b13 =>
                (f_X2_settle b13 v12 a1 a2 r2 a4 a5 a6 h).bind fun r14 =>
                some (true, r14)
              )
            )
          )
        )
      )
    )
  )
theorem x_X7_settle (G : Gm) (a0 : Nat) (a1 : Int32) (a2 : Int32) (a3 : Int32) (a4 : Int32) (a5 : Int32) (a6 : Int32) (h : AH) (o : (Bool × AH)) (hf : f_X7_settle a0 a1 a2 a3 a4 a5 a6 h = some o) : GO G mX7_settle 0 0 0 [(0, vr (some a0)), (1, vi a1), (2, vi a2), (3, vi a3), (4, vi a4), (5, vi a5), (6, vi a6)] [] h (some (vi (b2i o.1))) o.2 := by
  unfold f_X7_settle at hf
  refine g_aload_n (M := mX7_settle) dX7_settle_0 rfl 0 rfl ?_
  refine g_iload_n (M := mX7_settle) dX7_settle_1 rfl 3 rfl ?_
  obtain ⟨b1, eb1, hf⟩ := bd hf
  obtain ⟨r2, er2, hf⟩ := bd hf
  refine g_callV (M := mX7_settle) (kc := 0) (ks := 0) (as := [vi a3]) (rest := []) dX7_settle_2 cbX7_agreementAt vwRX7_50 rfl eb1 rfl (Nat.le_of_ble_eq_true rfl) (Nat.le_of_ble_eq_true rfl) (c_X7_agreementAt G b1 a3 h r2 er2) ?_
  refine g_astore (M := mX7_settle) (L2 := [(7, vr r2), (0, vr (some a0)), (1, vi a1), (2, vi a2), (3, vi a3), (4, vi a4), (5, vi a5), (6, vi a6)]) dX7_settle_5 (Nat.le_of_ble_eq_true rfl) rfl ?_
  refine g_aload_n (M := mX7_settle) dX7_settle_7 rfl 1 rfl ?_
  refine g_iload_n (M := mX7_settle) dX7_settle_8 rfl 2 rfl ?_
  obtain ⟨b3, eb3, hf⟩ := bd hf
  obtain ⟨r4, er4, hf⟩ := bd hf
  refine g_callV (M := mX7_settle) (kc := 0) (ks := 0) (as := [vi a1]) (rest := []) dX7_settle_9 cbX7_isParty vwRX7_71 rfl eb3 rfl (Nat.le_of_ble_eq_true rfl) (Nat.le_of_ble_eq_true rfl) (c_X7_isParty G b3 a1 h r4 er4) ?_
  refine g_if_eq (M := mX7_settle) (tgt := 43) dX7_settle_12 rfl (fun q12 => ?_) (fun q12 => ?_)
  · replace hf := ift hf q12
    refine g_iconst (M := mX7_settle) (v := 0) dX7_settle_43 rfl ?_
    cases hf
    exact g_ret (M := mX7_settle) dX7_settle_44 rfl
  · replace hf := iff_ hf q12
    refine g_aload_n (M := mX7_settle) dX7_settle_15 rfl 1 rfl ?_
    refine g_iload_n (M := mX7_settle) dX7_settle_16 rfl 3 rfl ?_
    obtain ⟨b5, eb5, hf⟩ := bd hf
    obtain ⟨r6, er6, hf⟩ := bd hf
    refine g_callV (M := mX7_settle) (kc := 0) (ks := 0) (as := [vi a2]) (rest := []) dX7_settle_17 cbX7_isParty vwRX7_71 rfl eb5 rfl (Nat.le_of_ble_eq_true rfl) (Nat.le_of_ble_eq_true rfl) (c_X7_isParty G b5 a2 h r6 er6) ?_
    refine g_if_eq (M := mX7_settle) (tgt := 43) dX7_settle_20 rfl (fun q20 => ?_) (fun q20 => ?_)
    · replace hf := ift hf q20
      refine g_iconst (M := mX7_settle) (v := 0) dX7_settle_43 rfl ?_
      cases hf
      exact g_ret (M := mX7_settle) dX7_settle_44 rfl
    · replace hf := iff_ hf q20
      refine g_iload_n (M := mX7_settle) dX7_settle_23 rfl 2 rfl ?_
      refine g_iload_n (M := mX7_settle) dX7_settle_24 rfl 3 rfl ?_
      refine g_ic_eq (M := mX7_settle) (tgt := 43) dX7_settle_25 rfl (fun q25 => ?_) (fun q25 => ?_)
      · replace hf := ift hf q25
        refine g_iconst (M := mX7_settle) (v := 0) dX7_settle_43 rfl ?_
        cases hf
        exact g_ret (M := mX7_settle) dX7_settle_44 rfl
      · replace hf := iff_ hf q25
        refine g_aload (M := mX7_settle) dX7_settle_28 0 rfl ?_
        refine g_ifnull (M := mX7_settle) (tgt := 43) dX7_settle_30 rfl (fun q30 => ?_) (fun q30 => ?_)
        · replace hf := ift hf q30
          refine g_iconst (M := mX7_settle) (v := 0) dX7_settle_43 rfl ?_
          cases hf
          exact g_ret (M := mX7_settle) dX7_settle_44 rfl
        · replace hf := iff_ hf q30
          refine g_aload (M := mX7_settle) dX7_settle_33 0 rfl ?_
          refine g_iload (M := mX7_settle) dX7_settle_35 5 rfl ?_
          obtain ⟨b7, eb7, hf⟩ := bd hf
          obtain ⟨r8, er8, hf⟩ := bd hf
          refine g_callV (M := mX7_settle) (kc := 0) (ks := 0) (as := [vi a4]) (rest := []) dX7_settle_37 cbX0_hasArticle vwRX7_54 rfl eb7 rfl (Nat.le_of_ble_eq_true rfl) (Nat.le_of_ble_eq_true rfl) (c_X0_hasArticle G b7 a4 h r8 er8) ?_
          refine g_if_ne (M := mX7_settle) (tgt := 45) dX7_settle_40 rfl (fun q40 => ?_) (fun q40 => ?_)
          · replace hf := iff_ hf q40
            refine g_iload (M := mX7_settle) dX7_settle_45 6 rfl ?_
            obtain ⟨r9, er9, hf⟩ := bd hf
            refine g_callS (M := mX7_settle) (kc := 0) (ks := 0) (as := [vi a5]) (rest := []) dX7_settle_47 cbX7_isDay mlRX7_178 st_yX7_isDay rfl rfl (Nat.le_of_ble_eq_true rfl) (Nat.le_of_ble_eq_true rfl) (c_X7_isDay G a5 h r9 er9) ?_
            refine g_if_eq (M := mX7_settle) (tgt := 61) dX7_settle_50 rfl (fun q50 => ?_) (fun q50 => ?_)
            · replace hf := ift hf q50
              refine g_iconst (M := mX7_settle) (v := 0) dX7_settle_61 rfl ?_
              cases hf
              exact g_ret (M := mX7_settle) dX7_settle_62 rfl
            · replace hf := iff_ hf q50
              refine g_iload (M := mX7_settle) dX7_settle_53 7 rfl ?_
              obtain ⟨r10, er10, hf⟩ := bd hf
              refine g_callS (M := mX7_settle) (kc := 0) (ks := 0) (as := [vi a6]) (rest := []) dX7_settle_55 cbX7_isDay mlRX7_178 st_yX7_isDay rfl rfl (Nat.le_of_ble_eq_true rfl) (Nat.le_of_ble_eq_true rfl) (c_X7_isDay G a6 h r10 er10) ?_
              refine g_if_ne (M := mX7_settle) (tgt := 63) dX7_settle_58 rfl (fun q58 => ?_) (fun q58 => ?_)
              · replace hf := iff_ hf q58
                refine g_aload_n (M := mX7_settle) dX7_settle_63 rfl 1 rfl ?_
                obtain ⟨v11, ev11, hf⟩ := bd hf
                refine g_getR (M := mX7_settle) dX7_settle_64 flRX7_32 (fun _ => rfl) ev11 ?_
                refine g_aload_n (M := mX7_settle) dX7_settle_67 rfl 1 rfl ?_
                obtain ⟨v12, ev12, hf⟩ := bd hf
                refine g_getR (M := mX7_settle) dX7_settle_68 flRX7_18 (fun _ => rfl) ev12 ?_
                refine g_iload_n (M := mX7_settle) dX7_settle_71 rfl 2 rfl ?_
                refine g_iload_n (M := mX7_settle) dX7_settle_72 rfl 3 rfl ?_
                refine g_aload (M := mX7_settle) dX7_settle_73 0 rfl ?_
                refine g_iload (M := mX7_settle) dX7_settle_75 5 rfl ?_
                refine g_iload (M := mX7_settle) dX7_settle_77 6 rfl ?_
                refine g_iload (M := mX7_settle) dX7_settle_79 7 rfl ?_
                obtain ⟨b13, eb13, hf⟩ := bd hf
                obtain ⟨r14, er14, hf⟩ := bd hf
                refine g_callV (M := mX7_settle) (kc := 0) (ks := 0) (as := [vr v12, vi a1, vi a2, vr r2, vi a4, vi a5, vi a6]) (rest := []) dX7_settle_81 cbX2_settle vwRX7_244 rfl eb13 rfl (Nat.le_of_ble_eq_true rfl) (Nat.le_of_ble_eq_true rfl) (c_X2_settle G b13 v12 a1 a2 r2 a4 a5 a6 h r14 er14) ?_
                refine g_iconst (M := mX7_settle) (v := 1) dX7_settle_84 rfl ?_
                cases hf
                exact g_ret (M := mX7_settle) dX7_settle_85 rfl
              · replace hf := ift hf q58
                refine g_iconst (M := mX7_settle) (v := 0) dX7_settle_61 rfl ?_
                cases hf
                exact g_ret (M := mX7_settle) dX7_settle_62 rfl
          · replace hf := ift hf q40
            refine g_iconst (M := mX7_settle) (v := 0) dX7_settle_43 rfl ?_
            cases hf
            exact g_ret (M := mX7_settle) dX7_settle_44 rfl
theorem c_X7_settle (G : Gm) (a0 : Nat) (a1 : Int32) (a2 : Int32) (a3 : Int32) (a4 : Int32) (a5 : Int32) (a6 : Int32) (h : AH) (o : (Bool × AH)) (hf : f_X7_settle a0 a1 a2 a3 a4 a5 a6 h = some o) : CT G yX7_settle mX7_settle (some .boolean) 0 0 [vr (some a0), vi a1, vi a2, vi a3, vi a4, vi a5, vi a6] h (some (vi (b2i o.1))) o.2 :=
  CT.bool (by decide +kernel) rfl rfl rfl (Nat.le_of_ble_eq_true rfl) (b2i_01 _) (x_X7_settle G a0 a1 a2 a3 a4 a5 a6 h o hf)
theorem cbX7_settle : CB yX7_settle mX7_settle (some .boolean) 6 := ⟨cd_yX7_settle, itRX7, ⟨by decide, by decide⟩, by decide +kernel, by decide⟩
abbrev mX7_between : MI := (RX7, "between", cX7_between, 7, .ireturn, 6)
def f_X7_between (a0 : Nat) (a1 : Int32) (a2 : Int32) (a3 : Int32) (a4 : Int32) (a5 : Int32) (a6 : Int32) (h : AH) : Option (Int32 × AH) :=
  (ck 7 h (some a0)).bind fun b1 =>
  (f_X7_settle b1 a1 a2 a3 a4 a5 a6 h).bind fun r2 =>
  if (b2i r2.1) = 0 then (
    some ((-1 : Int32), r2.2)
  ) else (
    (gR 7 3 r2.2 (some a0)).bind fun v3 =>
    (gI 2 4 r2.2 v3).bind fun v4 =>
    some (v4, r2.2)
  )
theorem x_X7_between (G : Gm) (a0 : Nat) (a1 : Int32) (a2 : Int32) (a3 : Int32) (a4 : Int32) (a5 : Int32) (a6 : Int32) (h : AH) (o : (Int32 × AH)) (hf : f_X7_between a0 a1 a2 a3 a4 a5 a6 h = some o) : GO G mX7_between 0 0 0 [(0, vr (some a0)), (1, vi a1), (2, vi a2), (3, vi a3), (4, vi a4), (5, vi a5), (6, vi a6)] [] h (some (vi o.1)) o.2 := by
  unfold f_X7_between at hf
  refine g_aload_n (M := mX7_between) dX7_between_0 rfl 0 rfl ?_
  refine g_iload_n (M := mX7_between) dX7_between_1 rfl 1 rfl ?_
  refine g_iload_n (M := mX7_between) dX7_between_2 rfl 2 rfl ?_
  refine g_iload_n (M := mX7_between) dX7_between_3 rfl 3 rfl ?_
  refine g_iload (M := mX7_between) dX7_between_4 4 rfl ?_
  refine g_iload (M := mX7_between) dX7_between_6 5 rfl ?_
  refine g_iload (M := mX7_between) dX7_between_8 6 rfl ?_
  obtain ⟨b1, eb1, hf⟩ := bd hf
  obtain ⟨r2, er2, hf⟩ := bd hf
  refine g_callV (M := mX7_between) (kc := 0) (ks := 0) (as := [vi a1, vi a2, vi a3, vi a4, vi a5, vi a6]) (rest := []) dX7_between_10 cbX7_settle vwRX7_163 rfl eb1 rfl (Nat.le_of_ble_eq_true rfl) (Nat.le_of_ble_eq_true rfl) (c_X7_settle G b1 a1 a2 a3 a4 a5 a6 h r2 er2) ?_
  refine g_if_eq (M := mX7_between) (tgt := 26) dX7_between_13 rfl (fun q13 => ?_) (fun q13 => ?_)
  · replace hf := ift hf q13
    refine g_iconst (M := mX7_between) (v := -1) dX7_between_26 rfl ?_
    cases hf
    exact g_ret (M := mX7_between) dX7_between_27 rfl
  · replace hf := iff_ hf q13
    refine g_aload_n (M := mX7_between) dX7_between_16 rfl 0 rfl ?_
    obtain ⟨v3, ev3, hf⟩ := bd hf
    refine g_getR (M := mX7_between) dX7_between_17 flRX7_32 (fun _ => rfl) ev3 ?_
    obtain ⟨v4, ev4, hf⟩ := bd hf
    refine g_getI (M := mX7_between) dX7_between_20 flRX7_167 (fun _ => rfl) ev4 ?_
    refine g_goto (M := mX7_between) (tgt := 27) dX7_between_23 rfl ?_
    cases hf
    exact g_ret (M := mX7_between) dX7_between_27 rfl
theorem c_X7_between (G : Gm) (a0 : Nat) (a1 : Int32) (a2 : Int32) (a3 : Int32) (a4 : Int32) (a5 : Int32) (a6 : Int32) (h : AH) (o : (Int32 × AH)) (hf : f_X7_between a0 a1 a2 a3 a4 a5 a6 h = some o) : CT G yX7_between mX7_between (some .int) 0 0 [vr (some a0), vi a1, vi a2, vi a3, vi a4, vi a5, vi a6] h (some (vi o.1)) o.2 :=
  CT.int (by decide +kernel) rfl rfl rfl (Nat.le_of_ble_eq_true rfl) (x_X7_between G a0 a1 a2 a3 a4 a5 a6 h o hf)
theorem cbX7_between : CB yX7_between mX7_between (some .int) 6 := ⟨cd_yX7_between, itRX7, ⟨by decide, by decide⟩, by decide +kernel, by decide⟩
abbrev mX7_words : MI := (RX7, "words", cX7_words, 7, .ireturn, 6)
def f_X7_words (a0 : Nat) (a1 : Int32) (a2 : Int32) (a3 : Int32) (a4 : Int32) (a5 : Int32) (a6 : Int32) (h : AH) : Option (Int32 × AH) :=
  (ck 7 h (some a0)).bind fun b1 =>
  (f_X7_settle b1 a1 a2 a3 a4 a5 a6 h).bind fun r2 =>
  if (b2i r2.1) = 0 then (
    some ((-1 : Int32), r2.2)
  ) else (
    (gR 7 3 r2.2 (some a0)).bind fun v3 =>
    (gI 2 5 r2.2 v3).bind fun v4 =>
    some (v4, r2.2)
  )
theorem x_X7_words (G : Gm) (a0 : Nat) (a1 : Int32) (a2 : Int32) (a3 : Int32) (a4 : Int32) (a5 : Int32) (a6 : Int32) (h : AH) (o : (Int32 × AH)) (hf : f_X7_words a0 a1 a2 a3 a4 a5 a6 h = some o) : GO G mX7_words 0 0 0 [(0, vr (some a0)), (1, vi a1), (2, vi a2), (3, vi a3), (4, vi a4), (5, vi a5), (6, vi a6)] [] h (some (vi o.1)) o.2 := by
  unfold f_X7_words at hf
  refine g_aload_n (M := mX7_words) dX7_words_0 rfl 0 rfl ?_
  refine g_iload_n (M := mX7_words) dX7_words_1 rfl 1 rfl ?_
  refine g_iload_n (M := mX7_words) dX7_words_2 rfl 2 rfl ?_
  refine g_iload_n (M := mX7_words) dX7_words_3 rfl 3 rfl ?_
  refine g_iload (M := mX7_words) dX7_words_4 4 rfl ?_
  refine g_iload (M := mX7_words) dX7_words_6 5 rfl ?_
  refine g_iload (M := mX7_words) dX7_words_8 6 rfl ?_
  obtain ⟨b1, eb1, hf⟩ := bd hf
  obtain ⟨r2, er2, hf⟩ := bd hf
  refine g_callV (M := mX7_words) (kc := 0) (ks := 0) (as := [vi a1, vi a2, vi a3, vi a4, vi a5, vi a6]) (rest := []) dX7_words_10 cbX7_settle vwRX7_163 rfl eb1 rfl (Nat.le_of_ble_eq_true rfl) (Nat.le_of_ble_eq_true rfl) (c_X7_settle G b1 a1 a2 a3 a4 a5 a6 h r2 er2) ?_
  refine g_if_eq (M := mX7_words) (tgt := 26) dX7_words_13 rfl (fun q13 => ?_) (fun q13 => ?_)
  · replace hf := ift hf q13
    refine g_iconst (M := mX7_words) (v := -1) dX7_words_26 rfl ?_
    cases hf
    exact g_ret (M := mX7_words) dX7_words_27 rfl
  · replace hf := iff_ hf q13
    refine g_aload_n (M := mX7_words) dX7_words_16 rfl 0 rfl ?_
    obtain ⟨v3, ev3, hf⟩ := bd hf
    refine g_getR (M := mX7_words) dX7_words_17 flRX7_32 (fun _ => rfl) ev3 ?_
    obtain ⟨v4, ev4, hf⟩ := bd hf
    refine g_getI (M := mX7_words) dX7_words_20 flRX7_169 (fun _ => rfl) ev4 ?_
    refine g_goto (M := mX7_words) (tgt := 27) dX7_words_23 rfl ?_
    cases hf
    exact g_ret (M := mX7_words) dX7_words_27 rfl
theorem c_X7_words (G : Gm) (a0 : Nat) (a1 : Int32) (a2 : Int32) (a3 : Int32) (a4 : Int32) (a5 : Int32) (a6 : Int32) (h : AH) (o : (Int32 × AH)) (hf : f_X7_words a0 a1 a2 a3 a4 a5 a6 h = some o) : CT G yX7_words mX7_words (some .int) 0 0 [vr (some a0), vi a1, vi a2, vi a3, vi a4, vi a5, vi a6] h (some (vi o.1)) o.2 :=
  CT.int (by decide +kernel) rfl rfl rfl (Nat.le_of_ble_eq_true rfl) (x_X7_words G a0 a1 a2 a3 a4 a5 a6 h o hf)
theorem cbX7_words : CB yX7_words mX7_words (some .int) 6 := ⟨cd_yX7_words, itRX7, ⟨by decide, by decide⟩, by decide +kernel, by decide⟩
abbrev mX7_why : MI := (RX7, "why", cX7_why, 8, .ireturn, 6)
def f_X7_why (a0 : Nat) (a1 : Int32) (a2 : Int32) (a3 : Int32) (a4 : Int32) (a5 : Int32) (a6 : Int32) (a7 : Int32) (h : AH) : Option (Int32 × AH) :=
  (ck 7 h (some a0)).bind fun b1 =>
  (f_X7_settle b1 a1 a2 a3 a4 a5 a6 h).bind fun r2 =>
  if (b2i r2.1) = 0 then (
    some ((-1 : Int32), r2.2)
  ) else (
    (gR 7 3 r2.2 (some a0)).bind fun v3 =>
    (gR 7 1 r2.2 (some a0)).bind fun v4 =>
    (ck 2 r2.2 v3).bind fun b5 =>
    (f_X2_reason b5 v4 a7 r2.2).bind fun r6 =>
    some (r6.1, r6.2)
  )
theorem x_X7_why (G : Gm) (a0 : Nat) (a1 : Int32) (a2 : Int32) (a3 : Int32) (a4 : Int32) (a5 : Int32) (a6 : Int32) (a7 : Int32) (h : AH) (o : (Int32 × AH)) (hf : f_X7_why a0 a1 a2 a3 a4 a5 a6 a7 h = some o) : GO G mX7_why 0 0 0 [(0, vr (some a0)), (1, vi a1), (2, vi a2), (3, vi a3), (4, vi a4), (5, vi a5), (6, vi a6), (7, vi a7)] [] h (some (vi o.1)) o.2 := by
  unfold f_X7_why at hf
  refine g_aload_n (M := mX7_why) dX7_why_0 rfl 0 rfl ?_
  refine g_iload_n (M := mX7_why) dX7_why_1 rfl 1 rfl ?_
  refine g_iload_n (M := mX7_why) dX7_why_2 rfl 2 rfl ?_
  refine g_iload_n (M := mX7_why) dX7_why_3 rfl 3 rfl ?_
  refine g_iload (M := mX7_why) dX7_why_4 4 rfl ?_
  refine g_iload (M := mX7_why) dX7_why_6 5 rfl ?_
  refine g_iload (M := mX7_why) dX7_why_8 6 rfl ?_
  obtain ⟨b1, eb1, hf⟩ := bd hf
  obtain ⟨r2, er2, hf⟩ := bd hf
  refine g_callV (M := mX7_why) (kc := 0) (ks := 0) (as := [vi a1, vi a2, vi a3, vi a4, vi a5, vi a6]) (rest := []) dX7_why_10 cbX7_settle vwRX7_163 rfl eb1 rfl (Nat.le_of_ble_eq_true rfl) (Nat.le_of_ble_eq_true rfl) (c_X7_settle G b1 a1 a2 a3 a4 a5 a6 h r2 er2) ?_
  refine g_if_eq (M := mX7_why) (tgt := 32) dX7_why_13 rfl (fun q13 => ?_) (fun q13 => ?_)
  · replace hf := ift hf q13
    refine g_iconst (M := mX7_why) (v := -1) dX7_why_32 rfl ?_
    cases hf
    exact g_ret (M := mX7_why) dX7_why_33 rfl
  · replace hf := iff_ hf q13
    refine g_aload_n (M := mX7_why) dX7_why_16 rfl 0 rfl ?_
    obtain ⟨v3, ev3, hf⟩ := bd hf
    refine g_getR (M := mX7_why) dX7_why_17 flRX7_32 (fun _ => rfl) ev3 ?_
    refine g_aload_n (M := mX7_why) dX7_why_20 rfl 0 rfl ?_
    obtain ⟨v4, ev4, hf⟩ := bd hf
    refine g_getR (M := mX7_why) dX7_why_21 flRX7_18 (fun _ => rfl) ev4 ?_
    refine g_iload (M := mX7_why) dX7_why_24 7 rfl ?_
    obtain ⟨b5, eb5, hf⟩ := bd hf
    obtain ⟨r6, er6, hf⟩ := bd hf
    refine g_callV (M := mX7_why) (kc := 0) (ks := 0) (as := [vr v4, vi a7]) (rest := []) dX7_why_26 cbX2_reason vwRX7_170 rfl eb5 rfl (Nat.le_of_ble_eq_true rfl) (Nat.le_of_ble_eq_true rfl) (c_X2_reason G b5 v4 a7 r2.2 r6 er6) ?_
    refine g_goto (M := mX7_why) (tgt := 33) dX7_why_29 rfl ?_
    cases hf
    exact g_ret (M := mX7_why) dX7_why_33 rfl
theorem c_X7_why (G : Gm) (a0 : Nat) (a1 : Int32) (a2 : Int32) (a3 : Int32) (a4 : Int32) (a5 : Int32) (a6 : Int32) (a7 : Int32) (h : AH) (o : (Int32 × AH)) (hf : f_X7_why a0 a1 a2 a3 a4 a5 a6 a7 h = some o) : CT G yX7_why mX7_why (some .int) 0 0 [vr (some a0), vi a1, vi a2, vi a3, vi a4, vi a5, vi a6, vi a7] h (some (vi o.1)) o.2 :=
  CT.int (by decide +kernel) rfl rfl rfl (Nat.le_of_ble_eq_true rfl) (x_X7_why G a0 a1 a2 a3 a4 a5 a6 a7 h o hf)
theorem cbX7_why : CB yX7_why mX7_why (some .int) 7 := ⟨cd_yX7_why, itRX7, ⟨by decide, by decide⟩, by decide +kernel, by decide⟩
abbrev mX7_first : MI := (RX7, "first", cX7_first, 10, .ireturn, 6)
def f_X7_first_56 : Nat → Nat → Int32 → Int32 → Int32 → Int32 → Option Nat → Int32 → Int32 → Int32 → Int32 → AH → Option (Int32 × AH)
  | 0, _, _, _, _, _, _, _, _, _, _, _ => none
  | n + 1, a0, a1, a2, a3, a4, a5, a6, a7, a8, a9, h =>
    if (400 : Int32) < a9 then (
      some (a8, h)
    ) else (
      (gR 7 1 h (some a0)).bind fun v1 =>
      (ck 4 h v1).bind fun b2 =>
      (f_X4_latestEffect b2 a5 a8 h).bind fun r3 =>
      if 0 < r3 then (
        (gI 7 6 h (some a0)).bind fun v4 =>
        (ck 7 h (some a0)).bind fun b5 =>
        (f_X7_settle b5 a1 a2 a3 a4 (r3 - (1 : Int32)) v4 h).bind fun r6 =>
        (gR 7 3 r6.2 (some a0)).bind fun v7 =>
        (gI 2 4 r6.2 v7).bind fun v8 =>
        if v8 = a6 then (
          (gR 7 3 r6.2 (some a0)).bind fun v9 =>
          (gI 2 5 r6.2 v9).bind fun v10 =>
          if v10 = a7 then (
            f_X7_first_56 n a0 a1 a2 a3 a4 a5 a6 a7 (r3 + (-1)) (a9 + (1)) r6.2
          ) else (
            some (r3, r6.2)
          )
        ) else (
          some (r3, r6.2)
        )
      ) else (
        some ((0 : Int32), h)
      )
    )
theorem x_X7_first_56 (G : Gm) : ∀ (n : Nat) (a0 : Nat) (a1 : Int32) (a2 : Int32) (a3 : Int32) (a4 : Int32) (a5 : Option Nat) (a6 : Int32) (a7 : Int32) (a8 : Int32) (a9 : Int32) (h : AH) (o : (Int32 × AH)), f_X7_first_56 n a0 a1 a2 a3 a4 a5 a6 a7 a8 a9 h = some o → GO G mX7_first 0 0 56 [(0, vr (some a0)), (1, vi a1), (2, vi a2), (3, vi a3), (4, vi a4), (5, vr a5), (6, vi a6), (7, vi a7), (8, vi a8), (9, vi a9)] [] h (some (vi o.1)) o.2 := by
  intro n
  induction n with
  | zero => intro a0 a1 a2 a3 a4 a5 a6 a7 a8 a9 h o hf; cases hf
  | succ n ih =>
    intro a0 a1 a2 a3 a4 a5 a6 a7 a8 a9 h o hf
    rw [f_X7_first_56] at hf
    refine g_iload (M := mX7_first) dX7_first_56 9 rfl ?_
    refine g_sipush (M := mX7_first) (v := 400) dX7_first_58 rfl ?_
    refine g_ic_gt (M := mX7_first) (tgt := 138) dX7_first_61 rfl (fun q61 => ?_) (fun q61 => ?_)
    · replace hf := ift hf q61
      refine g_iload (M := mX7_first) dX7_first_138 8 rfl ?_
      cases hf
      exact g_ret (M := mX7_first) dX7_first_140 rfl
    · replace hf := iff_ hf q61
      refine g_aload_n (M := mX7_first) dX7_first_64 rfl 0 rfl ?_
      obtain ⟨v1, ev1, hf⟩ := bd hf
      refine g_getR (M := mX7_first) dX7_first_65 flRX7_18 (fun _ => rfl) ev1 ?_
      refine g_aload (M := mX7_first) dX7_first_68 5 rfl ?_
      refine g_iload (M := mX7_first) dX7_first_70 8 rfl ?_
      obtain ⟨b2, eb2, hf⟩ := bd hf
      obtain ⟨r3, er3, hf⟩ := bd hf
      refine g_callV (M := mX7_first) (kc := 0) (ks := 0) (as := [vr a5, vi a8]) (rest := []) dX7_first_72 cbX4_latestEffect vwRX7_174 rfl eb2 rfl (Nat.le_of_ble_eq_true rfl) (Nat.le_of_ble_eq_true rfl) (c_X4_latestEffect G b2 a5 a8 h r3 er3) ?_
      refine g_istore (M := mX7_first) (L2 := [(8, vi r3), (0, vr (some a0)), (1, vi a1), (2, vi a2), (3, vi a3), (4, vi a4), (5, vr a5), (6, vi a6), (7, vi a7), (9, vi a9)]) dX7_first_75 (Nat.le_of_ble_eq_true rfl) rfl ?_
      refine g_iload (M := mX7_first) dX7_first_77 0 rfl ?_
      refine g_if_gt (M := mX7_first) (tgt := 84) dX7_first_79 rfl (fun q79 => ?_) (fun q79 => ?_)
      · replace hf := ift hf q79
        refine g_aload_n (M := mX7_first) dX7_first_84 rfl 1 rfl ?_
        refine g_iload_n (M := mX7_first) dX7_first_85 rfl 2 rfl ?_
        refine g_iload_n (M := mX7_first) dX7_first_86 rfl 3 rfl ?_
        refine g_iload_n (M := mX7_first) dX7_first_87 rfl 4 rfl ?_
        refine g_iload (M := mX7_first) dX7_first_88 5 rfl ?_
        refine g_iload (M := mX7_first) dX7_first_90 0 rfl ?_
        refine g_iconst (M := mX7_first) (v := 1) dX7_first_92 rfl ?_
        refine g_isub (M := mX7_first) dX7_first_93 ?_
        refine g_aload_n (M := mX7_first) dX7_first_94 rfl 1 rfl ?_
        obtain ⟨v4, ev4, hf⟩ := bd hf
        refine g_getI (M := mX7_first) dX7_first_95 flRX7_67 (fun _ => rfl) ev4 ?_
        obtain ⟨b5, eb5, hf⟩ := bd hf
        obtain ⟨r6, er6, hf⟩ := bd hf
        refine g_callV (M := mX7_first) (kc := 0) (ks := 0) (as := [vi a1, vi a2, vi a3, vi a4, vi (r3 - (1 : Int32)), vi v4]) (rest := []) dX7_first_98 cbX7_settle vwRX7_163 rfl eb5 rfl (Nat.le_of_ble_eq_true rfl) (Nat.le_of_ble_eq_true rfl) (c_X7_settle G b5 a1 a2 a3 a4 (r3 - (1 : Int32)) v4 h r6 er6) ?_
        refine g_pop (M := mX7_first) dX7_first_101 rfl ?_
        refine g_aload_n (M := mX7_first) dX7_first_102 rfl 1 rfl ?_
        obtain ⟨v7, ev7, hf⟩ := bd hf
        refine g_getR (M := mX7_first) dX7_first_103 flRX7_32 (fun _ => rfl) ev7 ?_
        obtain ⟨v8, ev8, hf⟩ := bd hf
        refine g_getI (M := mX7_first) dX7_first_106 flRX7_167 (fun _ => rfl) ev8 ?_
        refine g_iload (M := mX7_first) dX7_first_109 7 rfl ?_
        refine g_ic_ne (M := mX7_first) (tgt := 126) dX7_first_111 rfl (fun q111 => ?_) (fun q111 => ?_)
        · replace hf := iff_ hf q111
          refine g_iload (M := mX7_first) dX7_first_126 0 rfl ?_
          cases hf
          exact g_ret (M := mX7_first) dX7_first_128 rfl
        · replace hf := ift hf q111
          refine g_aload_n (M := mX7_first) dX7_first_114 rfl 1 rfl ?_
          obtain ⟨v9, ev9, hf⟩ := bd hf
          refine g_getR (M := mX7_first) dX7_first_115 flRX7_32 (fun _ => rfl) ev9 ?_
          obtain ⟨v10, ev10, hf⟩ := bd hf
          refine g_getI (M := mX7_first) dX7_first_118 flRX7_169 (fun _ => rfl) ev10 ?_
          refine g_iload (M := mX7_first) dX7_first_121 8 rfl ?_
          refine g_ic_eq (M := mX7_first) (tgt := 129) dX7_first_123 rfl (fun q123 => ?_) (fun q123 => ?_)
          · replace hf := ift hf q123
            refine g_iinc (M := mX7_first) (j := 0) (L2 := [(8, vi (r3 + (-1))), (0, vr (some a0)), (1, vi a1), (2, vi a2), (3, vi a3), (4, vi a4), (5, vr a5), (6, vi a6), (7, vi a7), (9, vi a9)]) dX7_first_129 rfl rfl (Nat.le_of_ble_eq_true rfl) rfl ?_
            refine g_iinc (M := mX7_first) (j := 9) (L2 := [(9, vi (a9 + (1))), (8, vi (r3 + (-1))), (0, vr (some a0)), (1, vi a1), (2, vi a2), (3, vi a3), (4, vi a4), (5, vr a5), (6, vi a6), (7, vi a7)]) dX7_first_132 rfl rfl (Nat.le_of_ble_eq_true rfl) rfl ?_
            refine g_goto (M := mX7_first) (tgt := 56) dX7_first_135 rfl ?_
            exact g_sub (M := mX7_first) (L2 := [(0, vr (some a0)), (1, vi a1), (2, vi a2), (3, vi a3), (4, vi a4), (5, vr a5), (6, vi a6), (7, vi a7), (8, vi (r3 + (-1))), (9, vi (a9 + (1)))]) [2, 3, 4, 5, 6, 7, 8, 9, 1, 0] rfl <| ih a0 a1 a2 a3 a4 a5 a6 a7 (r3 + (-1)) (a9 + (1)) r6.2 _ hf
          · replace hf := iff_ hf q123
            refine g_iload (M := mX7_first) dX7_first_126 0 rfl ?_
            cases hf
            exact g_ret (M := mX7_first) dX7_first_128 rfl
      · replace hf := iff_ hf q79
        refine g_iconst (M := mX7_first) (v := 0) dX7_first_82 rfl ?_
        cases hf
        exact g_ret (M := mX7_first) dX7_first_83 rfl
def f_X7_first (a0 : Nat) (a1 : Int32) (a2 : Int32) (a3 : Int32) (a4 : Int32) (h : AH) : Option (Int32 × AH) :=
  (gI 7 6 h (some a0)).bind fun v11 =>
  (gI 7 6 h (some a0)).bind fun v12 =>
  (ck 7 h (some a0)).bind fun b13 =>
  (f_X7_settle b13 a1 a2 a3 a4 v11 v12 h).bind fun r14 =>
  if (b2i r14.1) = 0 then (
    some ((-1 : Int32), r14.2)
  ) else (
    (ck 7 r14.2 (some a0)).bind fun b15 =>
    (f_X7_agreementAt b15 a3 r14.2).bind fun r16 =>
    (gR 7 3 r14.2 (some a0)).bind fun v17 =>
    (gI 2 4 r14.2 v17).bind fun v18 =>
    (gR 7 3 r14.2 (some a0)).bind fun v19 =>
    (gI 2 5 r14.2 v19).bind fun v20 =>
    (gI 7 6 r14.2 (some a0)).bind fun v21 =>
    f_X7_first_56 FU a0 a1 a2 a3 a4 r16 v18 v20 v21 (0 : Int32) r14.2
  )
theorem x_X7_first (G : Gm) (a0 : Nat) (a1 : Int32) (a2 : Int32) (a3 : Int32) (a4 : Int32) (h : AH) (o : (Int32 × AH)) (hf : f_X7_first a0 a1 a2 a3 a4 h = some o) : GO G mX7_first 0 0 0 [(0, vr (some a0)), (1, vi a1), (2, vi a2), (3, vi a3), (4, vi a4)] [] h (some (vi o.1)) o.2 := by
  unfold f_X7_first at hf
  refine g_aload_n (M := mX7_first) dX7_first_0 rfl 0 rfl ?_
  refine g_iload_n (M := mX7_first) dX7_first_1 rfl 1 rfl ?_
  refine g_iload_n (M := mX7_first) dX7_first_2 rfl 2 rfl ?_
  refine g_iload_n (M := mX7_first) dX7_first_3 rfl 3 rfl ?_
  refine g_iload (M := mX7_first) dX7_first_4 4 rfl ?_
  refine g_aload_n (M := mX7_first) dX7_first_6 rfl 0 rfl ?_
  obtain ⟨v11, ev11, hf⟩ := bd hf
  refine g_getI (M := mX7_first) dX7_first_7 flRX7_67 (fun _ => rfl) ev11 ?_
  refine g_aload_n (M := mX7_first) dX7_first_10 rfl 0 rfl ?_
  obtain ⟨v12, ev12, hf⟩ := bd hf
  refine g_getI (M := mX7_first) dX7_first_11 flRX7_67 (fun _ => rfl) ev12 ?_
  obtain ⟨b13, eb13, hf⟩ := bd hf
  obtain ⟨r14, er14, hf⟩ := bd hf
  refine g_callV (M := mX7_first) (kc := 0) (ks := 0) (as := [vi a1, vi a2, vi a3, vi a4, vi v11, vi v12]) (rest := []) dX7_first_14 cbX7_settle vwRX7_163 rfl eb13 rfl (Nat.le_of_ble_eq_true rfl) (Nat.le_of_ble_eq_true rfl) (c_X7_settle G b13 a1 a2 a3 a4 v11 v12 h r14 er14) ?_
  refine g_if_ne (M := mX7_first) (tgt := 22) dX7_first_17 rfl (fun q17 => ?_) (fun q17 => ?_)
  · replace hf := iff_ hf q17
    refine g_aload_n (M := mX7_first) dX7_first_22 rfl 0 rfl ?_
    refine g_iload_n (M := mX7_first) dX7_first_23 rfl 3 rfl ?_
    obtain ⟨b15, eb15, hf⟩ := bd hf
    obtain ⟨r16, er16, hf⟩ := bd hf
    refine g_callV (M := mX7_first) (kc := 0) (ks := 0) (as := [vi a3]) (rest := []) dX7_first_24 cbX7_agreementAt vwRX7_50 rfl eb15 rfl (Nat.le_of_ble_eq_true rfl) (Nat.le_of_ble_eq_true rfl) (c_X7_agreementAt G b15 a3 r14.2 r16 er16) ?_
    refine g_astore (M := mX7_first) (L2 := [(5, vr r16), (0, vr (some a0)), (1, vi a1), (2, vi a2), (3, vi a3), (4, vi a4)]) dX7_first_27 (Nat.le_of_ble_eq_true rfl) rfl ?_
    refine g_aload_n (M := mX7_first) dX7_first_29 rfl 1 rfl ?_
    obtain ⟨v17, ev17, hf⟩ := bd hf
    refine g_getR (M := mX7_first) dX7_first_30 flRX7_32 (fun _ => rfl) ev17 ?_
    obtain ⟨v18, ev18, hf⟩ := bd hf
    refine g_getI (M := mX7_first) dX7_first_33 flRX7_167 (fun _ => rfl) ev18 ?_
    refine g_istore (M := mX7_first) (L2 := [(6, vi v18), (5, vr r16), (0, vr (some a0)), (1, vi a1), (2, vi a2), (3, vi a3), (4, vi a4)]) dX7_first_36 (Nat.le_of_ble_eq_true rfl) rfl ?_
    refine g_aload_n (M := mX7_first) dX7_first_38 rfl 2 rfl ?_
    obtain ⟨v19, ev19, hf⟩ := bd hf
    refine g_getR (M := mX7_first) dX7_first_39 flRX7_32 (fun _ => rfl) ev19 ?_
    obtain ⟨v20, ev20, hf⟩ := bd hf
    refine g_getI (M := mX7_first) dX7_first_42 flRX7_169 (fun _ => rfl) ev20 ?_
    refine g_istore (M := mX7_first) (L2 := [(7, vi v20), (6, vi v18), (5, vr r16), (0, vr (some a0)), (1, vi a1), (2, vi a2), (3, vi a3), (4, vi a4)]) dX7_first_45 (Nat.le_of_ble_eq_true rfl) rfl ?_
    refine g_aload_n (M := mX7_first) dX7_first_47 rfl 3 rfl ?_
    obtain ⟨v21, ev21, hf⟩ := bd hf
    refine g_getI (M := mX7_first) dX7_first_48 flRX7_67 (fun _ => rfl) ev21 ?_
    refine g_istore (M := mX7_first) (L2 := [(8, vi v21), (7, vi v20), (6, vi v18), (5, vr r16), (0, vr (some a0)), (1, vi a1), (2, vi a2), (3, vi a3), (4, vi a4)]) dX7_first_51 (Nat.le_of_ble_eq_true rfl) rfl ?_
    refine g_iconst (M := mX7_first) (v := 0) dX7_first_53 rfl ?_
    refine g_istore (M := mX7_first) (L2 := [(9, vi (0 : Int32)), (8, vi v21), (7, vi v20), (6, vi v18), (5, vr r16), (0, vr (some a0)), (1, vi a1), (2, vi a2), (3, vi a3), (4, vi a4)]) dX7_first_54 (Nat.le_of_ble_eq_true rfl) rfl ?_
    exact g_sub (M := mX7_first) (L2 := [(0, vr (some a0)), (1, vi a1), (2, vi a2), (3, vi a3), (4, vi a4), (5, vr r16), (6, vi v18), (7, vi v20), (8, vi v21), (9, vi (0 : Int32))]) [5, 6, 7, 8, 9, 4, 3, 2, 1, 0] rfl <| x_X7_first_56 G FU a0 a1 a2 a3 a4 r16 v18 v20 v21 (0 : Int32) r14.2 _ hf
  · replace hf := ift hf q17
    refine g_iconst (M := mX7_first) (v := -1) dX7_first_20 rfl ?_
    cases hf
    exact g_ret (M := mX7_first) dX7_first_21 rfl
theorem c_X7_first (G : Gm) (a0 : Nat) (a1 : Int32) (a2 : Int32) (a3 : Int32) (a4 : Int32) (h : AH) (o : (Int32 × AH)) (hf : f_X7_first a0 a1 a2 a3 a4 h = some o) : CT G yX7_first mX7_first (some .int) 0 0 [vr (some a0), vi a1, vi a2, vi a3, vi a4] h (some (vi o.1)) o.2 :=
  CT.int (by decide +kernel) rfl rfl rfl (Nat.le_of_ble_eq_true rfl) (x_X7_first G a0 a1 a2 a3 a4 h o hf)
theorem cbX7_first : CB yX7_first mX7_first (some .int) 4 := ⟨cd_yX7_first, itRX7, ⟨by decide, by decide⟩, by decide +kernel, by decide⟩
abbrev mX7_member : MI := (RX7, "member", cX7_member, 6, .ireturn, 2)
def f_X7_member (a0 : Nat) (a1 : Int32) (a2 : Int32) (a3 : Int32) (a4 : Int32) (h : AH) : Option (Int32 × AH) :=
  (ck 7 h (some a0)).bind fun b1 =>
  (f_X7_agreementAt b1 a2 h).bind fun r2 =>
  (ck 7 h (some a0)).bind fun b3 =>
  (f_X7_isParty b3 a1 h).bind fun r4 =>
  if (b2i r4) = 0 then (
    some ((-1 : Int32), h)
  ) else (
    if r2 = none then (
      some ((-1 : Int32), h)
    ) else (
      (f_X7_isDay a3 h).bind fun r5 =>
      if (b2i r5) = 0 then (
        some ((-1 : Int32), h)
      ) else (
        (f_X7_isDay a4 h).bind fun r6 =>
        if (b2i r6) = 0 then (
          some ((-1 : Int32), h)
        ) else (
          (gR 7 2 h (some a0)).bind fun v7 =>
          (gR 7 1 h (some a0)).bind fun v8 =>
          (ck 5 h v7).bind fun b9 =>
          (f_X5_fill b9 v8 r2 a3 a4 h).bind fun r10 =>
          (gR 7 2 r10 (some a0)).bind fun v11 =>
          (ck 5 r10 v11).bind fun b12 =>
          (f_X5_at b12 a1 r10).bind fun r13 =>
          (f_X7_numberOf r13 r10).bind fun r14 =>
          some (r14, r10)
        )
      )
    )
  )
theorem x_X7_member (G : Gm) (a0 : Nat) (a1 : Int32) (a2 : Int32) (a3 : Int32) (a4 : Int32) (h : AH) (o : (Int32 × AH)) (hf : f_X7_member a0 a1 a2 a3 a4 h = some o) : GO G mX7_member 0 0 0 [(0, vr (some a0)), (1, vi a1), (2, vi a2), (3, vi a3), (4, vi a4)] [] h (some (vi o.1)) o.2 := by
  unfold f_X7_member at hf
  refine g_aload_n (M := mX7_member) dX7_member_0 rfl 0 rfl ?_
  refine g_iload_n (M := mX7_member) dX7_member_1 rfl 2 rfl ?_
  obtain ⟨b1, eb1, hf⟩ := bd hf
  obtain ⟨r2, er2, hf⟩ := bd hf
  refine g_callV (M := mX7_member) (kc := 0) (ks := 0) (as := [vi a2]) (rest := []) dX7_member_2 cbX7_agreementAt vwRX7_50 rfl eb1 rfl (Nat.le_of_ble_eq_true rfl) (Nat.le_of_ble_eq_true rfl) (c_X7_agreementAt G b1 a2 h r2 er2) ?_
  refine g_astore (M := mX7_member) (L2 := [(5, vr r2), (0, vr (some a0)), (1, vi a1), (2, vi a2), (3, vi a3), (4, vi a4)]) dX7_member_5 (Nat.le_of_ble_eq_true rfl) rfl ?_
  refine g_aload_n (M := mX7_member) dX7_member_7 rfl 1 rfl ?_
  refine g_iload_n (M := mX7_member) dX7_member_8 rfl 2 rfl ?_
  obtain ⟨b3, eb3, hf⟩ := bd hf
  obtain ⟨r4, er4, hf⟩ := bd hf
  refine g_callV (M := mX7_member) (kc := 0) (ks := 0) (as := [vi a1]) (rest := []) dX7_member_9 cbX7_isParty vwRX7_71 rfl eb3 rfl (Nat.le_of_ble_eq_true rfl) (Nat.le_of_ble_eq_true rfl) (c_X7_isParty G b3 a1 h r4 er4) ?_
  refine g_if_eq (M := mX7_member) (tgt := 35) dX7_member_12 rfl (fun q12 => ?_) (fun q12 => ?_)
  · replace hf := ift hf q12
    refine g_iconst (M := mX7_member) (v := -1) dX7_member_35 rfl ?_
    cases hf
    exact g_ret (M := mX7_member) dX7_member_36 rfl
  · replace hf := iff_ hf q12
    refine g_aload (M := mX7_member) dX7_member_15 0 rfl ?_
    refine g_ifnull (M := mX7_member) (tgt := 35) dX7_member_17 rfl (fun q17 => ?_) (fun q17 => ?_)
    · replace hf := ift hf q17
      refine g_iconst (M := mX7_member) (v := -1) dX7_member_35 rfl ?_
      cases hf
      exact g_ret (M := mX7_member) dX7_member_36 rfl
    · replace hf := iff_ hf q17
      refine g_iload_n (M := mX7_member) dX7_member_20 rfl 4 rfl ?_
      obtain ⟨r5, er5, hf⟩ := bd hf
      refine g_callS (M := mX7_member) (kc := 0) (ks := 0) (as := [vi a3]) (rest := []) dX7_member_21 cbX7_isDay mlRX7_178 st_yX7_isDay rfl rfl (Nat.le_of_ble_eq_true rfl) (Nat.le_of_ble_eq_true rfl) (c_X7_isDay G a3 h r5 er5) ?_
      refine g_if_eq (M := mX7_member) (tgt := 35) dX7_member_24 rfl (fun q24 => ?_) (fun q24 => ?_)
      · replace hf := ift hf q24
        refine g_iconst (M := mX7_member) (v := -1) dX7_member_35 rfl ?_
        cases hf
        exact g_ret (M := mX7_member) dX7_member_36 rfl
      · replace hf := iff_ hf q24
        refine g_iload (M := mX7_member) dX7_member_27 5 rfl ?_
        obtain ⟨r6, er6, hf⟩ := bd hf
        refine g_callS (M := mX7_member) (kc := 0) (ks := 0) (as := [vi a4]) (rest := []) dX7_member_29 cbX7_isDay mlRX7_178 st_yX7_isDay rfl rfl (Nat.le_of_ble_eq_true rfl) (Nat.le_of_ble_eq_true rfl) (c_X7_isDay G a4 h r6 er6) ?_
        refine g_if_ne (M := mX7_member) (tgt := 37) dX7_member_32 rfl (fun q32 => ?_) (fun q32 => ?_)
        · replace hf := iff_ hf q32
          refine g_aload_n (M := mX7_member) dX7_member_37 rfl 1 rfl ?_
          obtain ⟨v7, ev7, hf⟩ := bd hf
          refine g_getR (M := mX7_member) dX7_member_38 flRX7_25 (fun _ => rfl) ev7 ?_
          refine g_aload_n (M := mX7_member) dX7_member_41 rfl 1 rfl ?_
          obtain ⟨v8, ev8, hf⟩ := bd hf
          refine g_getR (M := mX7_member) dX7_member_42 flRX7_18 (fun _ => rfl) ev8 ?_
          refine g_aload (M := mX7_member) dX7_member_45 0 rfl ?_
          refine g_iload_n (M := mX7_member) dX7_member_47 rfl 4 rfl ?_
          refine g_iload (M := mX7_member) dX7_member_48 5 rfl ?_
          obtain ⟨b9, eb9, hf⟩ := bd hf
          obtain ⟨r10, er10, hf⟩ := bd hf
          refine g_callV (M := mX7_member) (kc := 0) (ks := 0) (as := [vr v8, vr r2, vi a3, vi a4]) (rest := []) dX7_member_50 cbX5_fill vwRX7_181 rfl eb9 rfl (Nat.le_of_ble_eq_true rfl) (Nat.le_of_ble_eq_true rfl) (c_X5_fill G b9 v8 r2 a3 a4 h r10 er10) ?_
          refine g_aload_n (M := mX7_member) dX7_member_53 rfl 1 rfl ?_
          obtain ⟨v11, ev11, hf⟩ := bd hf
          refine g_getR (M := mX7_member) dX7_member_54 flRX7_25 (fun _ => rfl) ev11 ?_
          refine g_iload_n (M := mX7_member) dX7_member_57 rfl 2 rfl ?_
          obtain ⟨b12, eb12, hf⟩ := bd hf
          obtain ⟨r13, er13, hf⟩ := bd hf
          refine g_callV (M := mX7_member) (kc := 0) (ks := 0) (as := [vi a1]) (rest := []) dX7_member_58 cbX5_at vwRX7_185 rfl eb12 rfl (Nat.le_of_ble_eq_true rfl) (Nat.le_of_ble_eq_true rfl) (c_X5_at G b12 a1 r10 r13 er13) ?_
          obtain ⟨r14, er14, hf⟩ := bd hf
          refine g_callS (M := mX7_member) (kc := 0) (ks := 0) (as := [vr r13]) (rest := []) dX7_member_61 cbX7_numberOf mlRX7_186 st_yX7_numberOf rfl rfl (Nat.le_of_ble_eq_true rfl) (Nat.le_of_ble_eq_true rfl) (c_X7_numberOf G r13 r10 r14 er14) ?_
          cases hf
          exact g_ret (M := mX7_member) dX7_member_64 rfl
        · replace hf := ift hf q32
          refine g_iconst (M := mX7_member) (v := -1) dX7_member_35 rfl ?_
          cases hf
          exact g_ret (M := mX7_member) dX7_member_36 rfl
theorem c_X7_member (G : Gm) (a0 : Nat) (a1 : Int32) (a2 : Int32) (a3 : Int32) (a4 : Int32) (h : AH) (o : (Int32 × AH)) (hf : f_X7_member a0 a1 a2 a3 a4 h = some o) : CT G yX7_member mX7_member (some .int) 0 0 [vr (some a0), vi a1, vi a2, vi a3, vi a4] h (some (vi o.1)) o.2 :=
  CT.int (by decide +kernel) rfl rfl rfl (Nat.le_of_ble_eq_true rfl) (x_X7_member G a0 a1 a2 a3 a4 h o hf)
theorem cbX7_member : CB yX7_member mX7_member (some .int) 4 := ⟨cd_yX7_member, itRX7, ⟨by decide, by decide⟩, by decide +kernel, by decide⟩
abbrev mX7_members : MI := (RX7, "members", cX7_members, 5, .ireturn, 2)
def f_X7_members (a0 : Nat) (a1 : Int32) (a2 : Int32) (a3 : Int32) (h : AH) : Option (Int32 × AH) :=
  (ck 7 h (some a0)).bind fun b1 =>
  (f_X7_agreementAt b1 a1 h).bind fun r2 =>
  if r2 = none then (
    some ((-1 : Int32), h)
  ) else (
    (f_X7_isDay a2 h).bind fun r3 =>
    if (b2i r3) = 0 then (
      some ((-1 : Int32), h)
    ) else (
      (f_X7_isDay a3 h).bind fun r4 =>
      if (b2i r4) = 0 then (
        some ((-1 : Int32), h)
      ) else (
        (gR 7 2 h (some a0)).bind fun v5 =>
        (gR 7 1 h (some a0)).bind fun v6 =>
        (ck 5 h v5).bind fun b7 =>
        (f_X5_fill b7 v6 r2 a2 a3 h).bind fun r8 =>
        (gR 7 2 r8 (some a0)).bind fun v9 =>
        (gI 5 1 r8 v9).bind fun v10 =>
        some (v10, r8)
      )
    )
  )
theorem x_X7_members (G : Gm) (a0 : Nat) (a1 : Int32) (a2 : Int32) (a3 : Int32) (h : AH) (o : (Int32 × AH)) (hf : f_X7_members a0 a1 a2 a3 h = some o) : GO G mX7_members 0 0 0 [(0, vr (some a0)), (1, vi a1), (2, vi a2), (3, vi a3)] [] h (some (vi o.1)) o.2 := by
  unfold f_X7_members at hf
  refine g_aload_n (M := mX7_members) dX7_members_0 rfl 0 rfl ?_
  refine g_iload_n (M := mX7_members) dX7_members_1 rfl 1 rfl ?_
  obtain ⟨b1, eb1, hf⟩ := bd hf
  obtain ⟨r2, er2, hf⟩ := bd hf
  refine g_callV (M := mX7_members) (kc := 0) (ks := 0) (as := [vi a1]) (rest := []) dX7_members_2 cbX7_agreementAt vwRX7_50 rfl eb1 rfl (Nat.le_of_ble_eq_true rfl) (Nat.le_of_ble_eq_true rfl) (c_X7_agreementAt G b1 a1 h r2 er2) ?_
  refine g_astore (M := mX7_members) (L2 := [(4, vr r2), (0, vr (some a0)), (1, vi a1), (2, vi a2), (3, vi a3)]) dX7_members_5 (Nat.le_of_ble_eq_true rfl) rfl ?_
  refine g_aload (M := mX7_members) dX7_members_7 0 rfl ?_
  refine g_ifnull (M := mX7_members) (tgt := 26) dX7_members_9 rfl (fun q9 => ?_) (fun q9 => ?_)
  · replace hf := ift hf q9
    refine g_iconst (M := mX7_members) (v := -1) dX7_members_26 rfl ?_
    cases hf
    exact g_ret (M := mX7_members) dX7_members_27 rfl
  · replace hf := iff_ hf q9
    refine g_iload_n (M := mX7_members) dX7_members_12 rfl 3 rfl ?_
    obtain ⟨r3, er3, hf⟩ := bd hf
    refine g_callS (M := mX7_members) (kc := 0) (ks := 0) (as := [vi a2]) (rest := []) dX7_members_13 cbX7_isDay mlRX7_178 st_yX7_isDay rfl rfl (Nat.le_of_ble_eq_true rfl) (Nat.le_of_ble_eq_true rfl) (c_X7_isDay G a2 h r3 er3) ?_
    refine g_if_eq (M := mX7_members) (tgt := 26) dX7_members_16 rfl (fun q16 => ?_) (fun q16 => ?_)
    · replace hf := ift hf q16
      refine g_iconst (M := mX7_members) (v := -1) dX7_members_26 rfl ?_
      cases hf
      exact g_ret (M := mX7_members) dX7_members_27 rfl
    · replace hf := iff_ hf q16
      refine g_iload_n (M := mX7_members) dX7_members_19 rfl 4 rfl ?_
      obtain ⟨r4, er4, hf⟩ := bd hf
      refine g_callS (M := mX7_members) (kc := 0) (ks := 0) (as := [vi a3]) (rest := []) dX7_members_20 cbX7_isDay mlRX7_178 st_yX7_isDay rfl rfl (Nat.le_of_ble_eq_true rfl) (Nat.le_of_ble_eq_true rfl) (c_X7_isDay G a3 h r4 er4) ?_
      refine g_if_ne (M := mX7_members) (tgt := 28) dX7_members_23 rfl (fun q23 => ?_) (fun q23 => ?_)
      · replace hf := iff_ hf q23
        refine g_aload_n (M := mX7_members) dX7_members_28 rfl 1 rfl ?_
        obtain ⟨v5, ev5, hf⟩ := bd hf
        refine g_getR (M := mX7_members) dX7_members_29 flRX7_25 (fun _ => rfl) ev5 ?_
        refine g_aload_n (M := mX7_members) dX7_members_32 rfl 1 rfl ?_
        obtain ⟨v6, ev6, hf⟩ := bd hf
        refine g_getR (M := mX7_members) dX7_members_33 flRX7_18 (fun _ => rfl) ev6 ?_
        refine g_aload (M := mX7_members) dX7_members_36 0 rfl ?_
        refine g_iload_n (M := mX7_members) dX7_members_38 rfl 3 rfl ?_
        refine g_iload_n (M := mX7_members) dX7_members_39 rfl 4 rfl ?_
        obtain ⟨b7, eb7, hf⟩ := bd hf
        obtain ⟨r8, er8, hf⟩ := bd hf
        refine g_callV (M := mX7_members) (kc := 0) (ks := 0) (as := [vr v6, vr r2, vi a2, vi a3]) (rest := []) dX7_members_40 cbX5_fill vwRX7_181 rfl eb7 rfl (Nat.le_of_ble_eq_true rfl) (Nat.le_of_ble_eq_true rfl) (c_X5_fill G b7 v6 r2 a2 a3 h r8 er8) ?_
        refine g_aload_n (M := mX7_members) dX7_members_43 rfl 1 rfl ?_
        obtain ⟨v9, ev9, hf⟩ := bd hf
        refine g_getR (M := mX7_members) dX7_members_44 flRX7_25 (fun _ => rfl) ev9 ?_
        obtain ⟨v10, ev10, hf⟩ := bd hf
        refine g_getI (M := mX7_members) dX7_members_47 flRX7_190 (fun _ => rfl) ev10 ?_
        cases hf
        exact g_ret (M := mX7_members) dX7_members_50 rfl
      · replace hf := ift hf q23
        refine g_iconst (M := mX7_members) (v := -1) dX7_members_26 rfl ?_
        cases hf
        exact g_ret (M := mX7_members) dX7_members_27 rfl
theorem c_X7_members (G : Gm) (a0 : Nat) (a1 : Int32) (a2 : Int32) (a3 : Int32) (h : AH) (o : (Int32 × AH)) (hf : f_X7_members a0 a1 a2 a3 h = some o) : CT G yX7_members mX7_members (some .int) 0 0 [vr (some a0), vi a1, vi a2, vi a3] h (some (vi o.1)) o.2 :=
  CT.int (by decide +kernel) rfl rfl rfl (Nat.le_of_ble_eq_true rfl) (x_X7_members G a0 a1 a2 a3 h o hf)
theorem cbX7_members : CB yX7_members mX7_members (some .int) 3 := ⟨cd_yX7_members, itRX7, ⟨by decide, by decide⟩, by decide +kernel, by decide⟩
abbrev mX7_since : MI := (RX7, "since", cX7_since, 5, .ireturn, 2)
def f_X7_since_56 : Nat → Nat → Option Nat → Int32 → Int32 → AH → Option (Int32 × AH)
  | 0, _, _, _, _, _ => none
  | n + 1, a0, a2, a3, a4, h =>
    if (400 : Int32) < a4 then (
      some (a3, h)
    ) else (
      (gR 7 1 h (some a0)).bind fun v1 =>
      (ck 4 h v1).bind fun b2 =>
      (f_X4_latestEffect b2 a2 a3 h).bind fun r3 =>
      if 0 < r3 then (
        (gR 7 2 h (some a0)).bind fun v4 =>
        (gR 7 1 h (some a0)).bind fun v5 =>
        (gI 7 6 h (some a0)).bind fun v6 =>
        (ck 5 h v4).bind fun b7 =>
        (f_X5_fill b7 v5 a2 (r3 - (1 : Int32)) v6 h).bind fun r8 =>
        (gR 7 2 r8 (some a0)).bind fun v9 =>
        (gI 5 1 r8 v9).bind fun v10 =>
        (gI 0 1 r8 a2).bind fun v11 =>
        if v11 ≤ v10 then (
          f_X7_since_56 n a0 a2 (r3 + (-1)) (a4 + (1)) r8
        ) else (
          some (r3, r8)
        )
      ) else (
        some ((0 : Int32), h)
      )
    )
theorem x_X7_since_56 (G : Gm) : ∀ (n : Nat) (a0 : Nat) (a2 : Option Nat) (a3 : Int32) (a4 : Int32) (h : AH) (o : (Int32 × AH)), f_X7_since_56 n a0 a2 a3 a4 h = some o → GO G mX7_since 0 0 56 [(0, vr (some a0)), (2, vr a2), (3, vi a3), (4, vi a4)] [] h (some (vi o.1)) o.2 := by
  intro n
  induction n with
  | zero => intro a0 a2 a3 a4 h o hf; cases hf
  | succ n ih =>
    intro a0 a2 a3 a4 h o hf
    rw [f_X7_since_56] at hf
    refine g_iload (M := mX7_since) dX7_since_56 3 rfl ?_
    refine g_sipush (M := mX7_since) (v := 400) dX7_since_58 rfl ?_
    refine g_ic_gt (M := mX7_since) (tgt := 124) dX7_since_61 rfl (fun q61 => ?_) (fun q61 => ?_)
    · replace hf := ift hf q61
      refine g_iload_n (M := mX7_since) dX7_since_124 rfl 2 rfl ?_
      cases hf
      exact g_ret (M := mX7_since) dX7_since_125 rfl
    · replace hf := iff_ hf q61
      refine g_aload_n (M := mX7_since) dX7_since_64 rfl 0 rfl ?_
      obtain ⟨v1, ev1, hf⟩ := bd hf
      refine g_getR (M := mX7_since) dX7_since_65 flRX7_18 (fun _ => rfl) ev1 ?_
      refine g_aload_n (M := mX7_since) dX7_since_68 rfl 1 rfl ?_
      refine g_iload_n (M := mX7_since) dX7_since_69 rfl 2 rfl ?_
      obtain ⟨b2, eb2, hf⟩ := bd hf
      obtain ⟨r3, er3, hf⟩ := bd hf
      refine g_callV (M := mX7_since) (kc := 0) (ks := 0) (as := [vr a2, vi a3]) (rest := []) dX7_since_70 cbX4_latestEffect vwRX7_174 rfl eb2 rfl (Nat.le_of_ble_eq_true rfl) (Nat.le_of_ble_eq_true rfl) (c_X4_latestEffect G b2 a2 a3 h r3 er3) ?_
      refine g_istore_n (M := mX7_since) (L2 := [(3, vi r3), (0, vr (some a0)), (2, vr a2), (4, vi a4)]) dX7_since_73 rfl (Nat.le_of_ble_eq_true rfl) rfl ?_
      refine g_iload_n (M := mX7_since) dX7_since_74 rfl 0 rfl ?_
      refine g_if_gt (M := mX7_since) (tgt := 80) dX7_since_75 rfl (fun q75 => ?_) (fun q75 => ?_)
      · replace hf := ift hf q75
        refine g_aload_n (M := mX7_since) dX7_since_80 rfl 1 rfl ?_
        obtain ⟨v4, ev4, hf⟩ := bd hf
        refine g_getR (M := mX7_since) dX7_since_81 flRX7_25 (fun _ => rfl) ev4 ?_
        refine g_aload_n (M := mX7_since) dX7_since_84 rfl 1 rfl ?_
        obtain ⟨v5, ev5, hf⟩ := bd hf
        refine g_getR (M := mX7_since) dX7_since_85 flRX7_18 (fun _ => rfl) ev5 ?_
        refine g_aload_n (M := mX7_since) dX7_since_88 rfl 2 rfl ?_
        refine g_iload_n (M := mX7_since) dX7_since_89 rfl 0 rfl ?_
        refine g_iconst (M := mX7_since) (v := 1) dX7_since_90 rfl ?_
        refine g_isub (M := mX7_since) dX7_since_91 ?_
        refine g_aload_n (M := mX7_since) dX7_since_92 rfl 1 rfl ?_
        obtain ⟨v6, ev6, hf⟩ := bd hf
        refine g_getI (M := mX7_since) dX7_since_93 flRX7_67 (fun _ => rfl) ev6 ?_
        obtain ⟨b7, eb7, hf⟩ := bd hf
        obtain ⟨r8, er8, hf⟩ := bd hf
        refine g_callV (M := mX7_since) (kc := 0) (ks := 0) (as := [vr v5, vr a2, vi (r3 - (1 : Int32)), vi v6]) (rest := []) dX7_since_96 cbX5_fill vwRX7_181 rfl eb7 rfl (Nat.le_of_ble_eq_true rfl) (Nat.le_of_ble_eq_true rfl) (c_X5_fill G b7 v5 a2 (r3 - (1 : Int32)) v6 h r8 er8) ?_
        refine g_aload_n (M := mX7_since) dX7_since_99 rfl 1 rfl ?_
        obtain ⟨v9, ev9, hf⟩ := bd hf
        refine g_getR (M := mX7_since) dX7_since_100 flRX7_25 (fun _ => rfl) ev9 ?_
        obtain ⟨v10, ev10, hf⟩ := bd hf
        refine g_getI (M := mX7_since) dX7_since_103 flRX7_190 (fun _ => rfl) ev10 ?_
        refine g_aload_n (M := mX7_since) dX7_since_106 rfl 2 rfl ?_
        obtain ⟨v11, ev11, hf⟩ := bd hf
        refine g_getI (M := mX7_since) dX7_since_107 flRX7_191 (fun _ => rfl) ev11 ?_
        refine g_ic_ge (M := mX7_since) (tgt := 115) dX7_since_110 rfl (fun q110 => ?_) (fun q110 => ?_)
        · replace hf := ift hf q110
          refine g_iinc (M := mX7_since) (j := 0) (L2 := [(3, vi (r3 + (-1))), (0, vr (some a0)), (2, vr a2), (4, vi a4)]) dX7_since_115 rfl rfl (Nat.le_of_ble_eq_true rfl) rfl ?_
          refine g_iinc (M := mX7_since) (j := 3) (L2 := [(4, vi (a4 + (1))), (3, vi (r3 + (-1))), (0, vr (some a0)), (2, vr a2)]) dX7_since_118 rfl rfl (Nat.le_of_ble_eq_true rfl) rfl ?_
          refine g_goto (M := mX7_since) (tgt := 56) dX7_since_121 rfl ?_
          exact g_sub (M := mX7_since) (L2 := [(0, vr (some a0)), (2, vr a2), (3, vi (r3 + (-1))), (4, vi (a4 + (1)))]) [2, 3, 1, 0] rfl <| ih a0 a2 (r3 + (-1)) (a4 + (1)) r8 _ hf
        · replace hf := iff_ hf q110
          refine g_iload_n (M := mX7_since) dX7_since_113 rfl 0 rfl ?_
          cases hf
          exact g_ret (M := mX7_since) dX7_since_114 rfl
      · replace hf := iff_ hf q75
        refine g_iconst (M := mX7_since) (v := 0) dX7_since_78 rfl ?_
        cases hf
        exact g_ret (M := mX7_since) dX7_since_79 rfl
def f_X7_since (a0 : Nat) (a1 : Int32) (h : AH) : Option (Int32 × AH) :=
  (ck 7 h (some a0)).bind fun b12 =>
  (f_X7_agreementAt b12 a1 h).bind fun r13 =>
  if r13 = none then (
    some ((-1 : Int32), h)
  ) else (
    (gR 7 2 h (some a0)).bind fun v14 =>
    (gR 7 1 h (some a0)).bind fun v15 =>
    (gI 7 6 h (some a0)).bind fun v16 =>
    (gI 7 6 h (some a0)).bind fun v17 =>
    (ck 5 h v14).bind fun b18 =>
    (f_X5_fill b18 v15 r13 v16 v17 h).bind fun r19 =>
    (gR 7 2 r19 (some a0)).bind fun v20 =>
    (gI 5 1 r19 v20).bind fun v21 =>
    (gI 0 1 r19 r13).bind fun v22 =>
    if v22 ≤ v21 then (
      (gI 7 6 r19 (some a0)).bind fun v23 =>
      f_X7_since_56 FU a0 r13 v23 (0 : Int32) r19
    ) else (
      some ((-1 : Int32), r19)
    )
  )
theorem x_X7_since (G : Gm) (a0 : Nat) (a1 : Int32) (h : AH) (o : (Int32 × AH)) (hf : f_X7_since a0 a1 h = some o) : GO G mX7_since 0 0 0 [(0, vr (some a0)), (1, vi a1)] [] h (some (vi o.1)) o.2 := by
  unfold f_X7_since at hf
  refine g_aload_n (M := mX7_since) dX7_since_0 rfl 0 rfl ?_
  refine g_iload_n (M := mX7_since) dX7_since_1 rfl 1 rfl ?_
  obtain ⟨b12, eb12, hf⟩ := bd hf
  obtain ⟨r13, er13, hf⟩ := bd hf
  refine g_callV (M := mX7_since) (kc := 0) (ks := 0) (as := [vi a1]) (rest := []) dX7_since_2 cbX7_agreementAt vwRX7_50 rfl eb12 rfl (Nat.le_of_ble_eq_true rfl) (Nat.le_of_ble_eq_true rfl) (c_X7_agreementAt G b12 a1 h r13 er13) ?_
  refine g_astore_n (M := mX7_since) (L2 := [(2, vr r13), (0, vr (some a0)), (1, vi a1)]) dX7_since_5 rfl (Nat.le_of_ble_eq_true rfl) rfl ?_
  refine g_aload_n (M := mX7_since) dX7_since_6 rfl 0 rfl ?_
  refine g_ifnonnull (M := mX7_since) (tgt := 12) dX7_since_7 rfl (fun q7 => ?_) (fun q7 => ?_)
  · replace hf := iff_ hf q7
    refine g_aload_n (M := mX7_since) dX7_since_12 rfl 1 rfl ?_
    obtain ⟨v14, ev14, hf⟩ := bd hf
    refine g_getR (M := mX7_since) dX7_since_13 flRX7_25 (fun _ => rfl) ev14 ?_
    refine g_aload_n (M := mX7_since) dX7_since_16 rfl 1 rfl ?_
    obtain ⟨v15, ev15, hf⟩ := bd hf
    refine g_getR (M := mX7_since) dX7_since_17 flRX7_18 (fun _ => rfl) ev15 ?_
    refine g_aload_n (M := mX7_since) dX7_since_20 rfl 0 rfl ?_
    refine g_aload_n (M := mX7_since) dX7_since_21 rfl 1 rfl ?_
    obtain ⟨v16, ev16, hf⟩ := bd hf
    refine g_getI (M := mX7_since) dX7_since_22 flRX7_67 (fun _ => rfl) ev16 ?_
    refine g_aload_n (M := mX7_since) dX7_since_25 rfl 1 rfl ?_
    obtain ⟨v17, ev17, hf⟩ := bd hf
    refine g_getI (M := mX7_since) dX7_since_26 flRX7_67 (fun _ => rfl) ev17 ?_
    obtain ⟨b18, eb18, hf⟩ := bd hf
    obtain ⟨r19, er19, hf⟩ := bd hf
    refine g_callV (M := mX7_since) (kc := 0) (ks := 0) (as := [vr v15, vr r13, vi v16, vi v17]) (rest := []) dX7_since_29 cbX5_fill vwRX7_181 rfl eb18 rfl (Nat.le_of_ble_eq_true rfl) (Nat.le_of_ble_eq_true rfl) (c_X5_fill G b18 v15 r13 v16 v17 h r19 er19) ?_
    refine g_aload_n (M := mX7_since) dX7_since_32 rfl 1 rfl ?_
    obtain ⟨v20, ev20, hf⟩ := bd hf
    refine g_getR (M := mX7_since) dX7_since_33 flRX7_25 (fun _ => rfl) ev20 ?_
    obtain ⟨v21, ev21, hf⟩ := bd hf
    refine g_getI (M := mX7_since) dX7_since_36 flRX7_190 (fun _ => rfl) ev21 ?_
    refine g_aload_n (M := mX7_since) dX7_since_39 rfl 0 rfl ?_
    obtain ⟨v22, ev22, hf⟩ := bd hf
    refine g_getI (M := mX7_since) dX7_since_40 flRX7_191 (fun _ => rfl) ev22 ?_
    refine g_ic_ge (M := mX7_since) (tgt := 48) dX7_since_43 rfl (fun q43 => ?_) (fun q43 => ?_)
    · replace hf := ift hf q43
      refine g_aload_n (M := mX7_since) dX7_since_48 rfl 1 rfl ?_
      obtain ⟨v23, ev23, hf⟩ := bd hf
      refine g_getI (M := mX7_since) dX7_since_49 flRX7_67 (fun _ => rfl) ev23 ?_
      refine g_istore_n (M := mX7_since) (L2 := [(3, vi v23), (2, vr r13), (0, vr (some a0)), (1, vi a1)]) dX7_since_52 rfl (Nat.le_of_ble_eq_true rfl) rfl ?_
      refine g_iconst (M := mX7_since) (v := 0) dX7_since_53 rfl ?_
      refine g_istore (M := mX7_since) (L2 := [(4, vi (0 : Int32)), (3, vi v23), (2, vr r13), (0, vr (some a0)), (1, vi a1)]) dX7_since_54 (Nat.le_of_ble_eq_true rfl) rfl ?_
      exact g_sub (M := mX7_since) (L2 := [(0, vr (some a0)), (2, vr r13), (3, vi v23), (4, vi (0 : Int32))]) [3, 2, 1, 0] rfl <| x_X7_since_56 G FU a0 r13 v23 (0 : Int32) r19 _ hf
    · replace hf := iff_ hf q43
      refine g_iconst (M := mX7_since) (v := -1) dX7_since_46 rfl ?_
      cases hf
      exact g_ret (M := mX7_since) dX7_since_47 rfl
  · replace hf := ift hf q7
    refine g_iconst (M := mX7_since) (v := -1) dX7_since_10 rfl ?_
    cases hf
    exact g_ret (M := mX7_since) dX7_since_11 rfl
theorem c_X7_since (G : Gm) (a0 : Nat) (a1 : Int32) (h : AH) (o : (Int32 × AH)) (hf : f_X7_since a0 a1 h = some o) : CT G yX7_since mX7_since (some .int) 0 0 [vr (some a0), vi a1] h (some (vi o.1)) o.2 :=
  CT.int (by decide +kernel) rfl rfl rfl (Nat.le_of_ble_eq_true rfl) (x_X7_since G a0 a1 h o hf)
theorem cbX7_since : CB yX7_since mX7_since (some .int) 1 := ⟨cd_yX7_since, itRX7, ⟨by decide, by decide⟩, by decide +kernel, by decide⟩
