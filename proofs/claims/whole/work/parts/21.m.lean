abbrev mX8_stands : MI := (RX8, "stands", cX8_stands, 5, .ireturn, 0)
def f_X8_stands_57 (K0 : Nat → Int32 → Int32 → Int32 → Int32 → AH → Option Bool) (a0 : Nat) (a1 : Int32) (a2 : Int32) (a3 : Int32) (a4 : Int32) (h : AH) : Option Bool :=
  (gR 8 14 h (some a0)).bind fun v1 =>
  (lI 10 h v1 a4).bind fun v2 =>
  if v2 = a1 then (
    (gR 8 12 h (some a0)).bind fun v3 =>
    (lI 10 h v3 a4).bind fun v4 =>
    if a3 < v4 then (
      K0 a0 a1 a2 a3 (a4 + (1)) h
    ) else (
      (gR 8 13 h (some a0)).bind fun v5 =>
      (lI 10 h v5 a4).bind fun v6 =>
      if a2 < v6 then (
        K0 a0 a1 a2 a3 (a4 + (1)) h
      ) else (
        some false
      )
    )
  ) else (
    K0 a0 a1 a2 a3 (a4 + (1)) h
  )
theorem x_X8_stands_57 (G : Gm) (K0 : Nat → Int32 → Int32 → Int32 → Int32 → AH → Option Bool) (hK0 : ∀ (a0 : Nat) (a1 : Int32) (a2 : Int32) (a3 : Int32) (a4 : Int32) (h : AH) (o : Bool), K0 a0 a1 a2 a3 a4 h = some o → GO G mX8_stands 0 0 25 [(0, vr (some a0)), (1, vi a1), (2, vi a2), (3, vi a3), (4, vi a4)] [] h (some (vi (b2i o))) h) (a0 : Nat) (a1 : Int32) (a2 : Int32) (a3 : Int32) (a4 : Int32) (h : AH) (o : Bool) (hf : f_X8_stands_57 K0 a0 a1 a2 a3 a4 h = some o) : GO G mX8_stands 0 0 57 [(0, vr (some a0)), (1, vi a1), (2, vi a2), (3, vi a3), (4, vi a4)] [] h (some (vi (b2i o))) h := by
  unfold f_X8_stands_57 at hf
  refine g_aload_n (M := mX8_stands) dX8_stands_57 rfl 0 rfl ?_
  obtain ⟨v1, ev1, hf⟩ := bd hf
  refine g_getR (M := mX8_stands) dX8_stands_58 flRX8_40 (fun _ => rfl) ev1 ?_
  refine g_iload (M := mX8_stands) dX8_stands_61 4 rfl ?_
  obtain ⟨v2, ev2, hf⟩ := bd hf
  refine g_iald (M := mX8_stands) dX8_stands_63 ev2 ?_
  refine g_iload_n (M := mX8_stands) dX8_stands_64 rfl 1 rfl ?_
  refine g_ic_ne (M := mX8_stands) (tgt := 92) dX8_stands_65 rfl (fun q65 => ?_) (fun q65 => ?_)
  · replace hf := iff_ hf q65
    refine g_iinc (M := mX8_stands) (j := 4) (L2 := [(4, vi (a4 + (1))), (0, vr (some a0)), (1, vi a1), (2, vi a2), (3, vi a3)]) dX8_stands_92 rfl rfl (Nat.le_of_ble_eq_true rfl) rfl ?_
    refine g_goto (M := mX8_stands) (tgt := 25) dX8_stands_95 rfl ?_
    exact g_sub (M := mX8_stands) (L2 := [(0, vr (some a0)), (1, vi a1), (2, vi a2), (3, vi a3), (4, vi (a4 + (1)))]) [1, 2, 3, 4, 0] rfl <| hK0 a0 a1 a2 a3 (a4 + (1)) h _ hf
  · replace hf := ift hf q65
    refine g_aload_n (M := mX8_stands) dX8_stands_68 rfl 0 rfl ?_
    obtain ⟨v3, ev3, hf⟩ := bd hf
    refine g_getR (M := mX8_stands) dX8_stands_69 flRX8_34 (fun _ => rfl) ev3 ?_
    refine g_iload (M := mX8_stands) dX8_stands_72 4 rfl ?_
    obtain ⟨v4, ev4, hf⟩ := bd hf
    refine g_iald (M := mX8_stands) dX8_stands_74 ev4 ?_
    refine g_iload_n (M := mX8_stands) dX8_stands_75 rfl 3 rfl ?_
    refine g_ic_gt (M := mX8_stands) (tgt := 92) dX8_stands_76 rfl (fun q76 => ?_) (fun q76 => ?_)
    · replace hf := ift hf q76
      refine g_iinc (M := mX8_stands) (j := 4) (L2 := [(4, vi (a4 + (1))), (0, vr (some a0)), (1, vi a1), (2, vi a2), (3, vi a3)]) dX8_stands_92 rfl rfl (Nat.le_of_ble_eq_true rfl) rfl ?_
      refine g_goto (M := mX8_stands) (tgt := 25) dX8_stands_95 rfl ?_
      exact g_sub (M := mX8_stands) (L2 := [(0, vr (some a0)), (1, vi a1), (2, vi a2), (3, vi a3), (4, vi (a4 + (1)))]) [1, 2, 3, 4, 0] rfl <| hK0 a0 a1 a2 a3 (a4 + (1)) h _ hf
    · replace hf := iff_ hf q76
      refine g_aload_n (M := mX8_stands) dX8_stands_79 rfl 0 rfl ?_
      obtain ⟨v5, ev5, hf⟩ := bd hf
      refine g_getR (M := mX8_stands) dX8_stands_80 flRX8_37 (fun _ => rfl) ev5 ?_
      refine g_iload (M := mX8_stands) dX8_stands_83 4 rfl ?_
      obtain ⟨v6, ev6, hf⟩ := bd hf
      refine g_iald (M := mX8_stands) dX8_stands_85 ev6 ?_
      refine g_iload_n (M := mX8_stands) dX8_stands_86 rfl 2 rfl ?_
      refine g_ic_gt (M := mX8_stands) (tgt := 92) dX8_stands_87 rfl (fun q87 => ?_) (fun q87 => ?_)
      · replace hf := ift hf q87
        refine g_iinc (M := mX8_stands) (j := 4) (L2 := [(4, vi (a4 + (1))), (0, vr (some a0)), (1, vi a1), (2, vi a2), (3, vi a3)]) dX8_stands_92 rfl rfl (Nat.le_of_ble_eq_true rfl) rfl ?_
        refine g_goto (M := mX8_stands) (tgt := 25) dX8_stands_95 rfl ?_
        exact g_sub (M := mX8_stands) (L2 := [(0, vr (some a0)), (1, vi a1), (2, vi a2), (3, vi a3), (4, vi (a4 + (1)))]) [1, 2, 3, 4, 0] rfl <| hK0 a0 a1 a2 a3 (a4 + (1)) h _ hf
      · replace hf := iff_ hf q87
        refine g_iconst (M := mX8_stands) (v := 0) dX8_stands_90 rfl ?_
        cases hf
        exact g_ret (M := mX8_stands) dX8_stands_91 rfl
def f_X8_stands_25 : Nat → Nat → Int32 → Int32 → Int32 → Int32 → AH → Option Bool
  | 0, _, _, _, _, _, _ => none
  | n + 1, a0, a1, a2, a3, a4, h =>
    (gI 8 8 h (some a0)).bind fun v7 =>
    if v7 ≤ a4 then (
      some true
    ) else (
      (gR 8 9 h (some a0)).bind fun v8 =>
      (lI 10 h v8 a4).bind fun v9 =>
      if v9 = (5 : Int32) then (
        f_X8_stands_57 (f_X8_stands_25 n) a0 a1 a2 a3 a4 h
      ) else (
        (gR 8 9 h (some a0)).bind fun v10 =>
        (lI 10 h v10 a4).bind fun v11 =>
        if v11 = (8 : Int32) then (
          f_X8_stands_57 (f_X8_stands_25 n) a0 a1 a2 a3 a4 h
        ) else (
          f_X8_stands_25 n a0 a1 a2 a3 (a4 + (1)) h
        )
      )
    )
theorem x_X8_stands_25 (G : Gm) : ∀ (n : Nat) (a0 : Nat) (a1 : Int32) (a2 : Int32) (a3 : Int32) (a4 : Int32) (h : AH) (o : Bool), f_X8_stands_25 n a0 a1 a2 a3 a4 h = some o → GO G mX8_stands 0 0 25 [(0, vr (some a0)), (1, vi a1), (2, vi a2), (3, vi a3), (4, vi a4)] [] h (some (vi (b2i o))) h := by
  intro n
  induction n with
  | zero => intro a0 a1 a2 a3 a4 h o hf; cases hf
  | succ n ih =>
    intro a0 a1 a2 a3 a4 h o hf
    rw [f_X8_stands_25] at hf
    refine g_iload (M := mX8_stands) dX8_stands_25 4 rfl ?_
    refine g_aload_n (M := mX8_stands) dX8_stands_27 rfl 0 rfl ?_
    obtain ⟨v7, ev7, hf⟩ := bd hf
    refine g_getI (M := mX8_stands) dX8_stands_28 flRX8_89 (fun _ => rfl) ev7 ?_
    refine g_ic_ge (M := mX8_stands) (tgt := 98) dX8_stands_31 rfl (fun q31 => ?_) (fun q31 => ?_)
    · replace hf := ift hf q31
      refine g_iconst (M := mX8_stands) (v := 1) dX8_stands_98 rfl ?_
      cases hf
      exact g_ret (M := mX8_stands) dX8_stands_99 rfl
    · replace hf := iff_ hf q31
      refine g_aload_n (M := mX8_stands) dX8_stands_34 rfl 0 rfl ?_
      obtain ⟨v8, ev8, hf⟩ := bd hf
      refine g_getR (M := mX8_stands) dX8_stands_35 flRX8_25 (fun _ => rfl) ev8 ?_
      refine g_iload (M := mX8_stands) dX8_stands_38 4 rfl ?_
      obtain ⟨v9, ev9, hf⟩ := bd hf
      refine g_iald (M := mX8_stands) dX8_stands_40 ev9 ?_
      refine g_iconst (M := mX8_stands) (v := 5) dX8_stands_41 rfl ?_
      refine g_ic_eq (M := mX8_stands) (tgt := 57) dX8_stands_42 rfl (fun q42 => ?_) (fun q42 => ?_)
      · replace hf := ift hf q42
        exact x_X8_stands_57 G (f_X8_stands_25 n) ih a0 a1 a2 a3 a4 h _ hf
      · replace hf := iff_ hf q42
        refine g_aload_n (M := mX8_stands) dX8_stands_45 rfl 0 rfl ?_
        obtain ⟨v10, ev10, hf⟩ := bd hf
        refine g_getR (M := mX8_stands) dX8_stands_46 flRX8_25 (fun _ => rfl) ev10 ?_
        refine g_iload (M := mX8_stands) dX8_stands_49 4 rfl ?_
        obtain ⟨v11, ev11, hf⟩ := bd hf
        refine g_iald (M := mX8_stands) dX8_stands_51 ev11 ?_
        refine g_bipush (M := mX8_stands) (v := 8) dX8_stands_52 rfl ?_
        refine g_ic_ne (M := mX8_stands) (tgt := 92) dX8_stands_54 rfl (fun q54 => ?_) (fun q54 => ?_)
        · replace hf := iff_ hf q54
          refine g_iinc (M := mX8_stands) (j := 4) (L2 := [(4, vi (a4 + (1))), (0, vr (some a0)), (1, vi a1), (2, vi a2), (3, vi a3)]) dX8_stands_92 rfl rfl (Nat.le_of_ble_eq_true rfl) rfl ?_
          refine g_goto (M := mX8_stands) (tgt := 25) dX8_stands_95 rfl ?_
          exact g_sub (M := mX8_stands) (L2 := [(0, vr (some a0)), (1, vi a1), (2, vi a2), (3, vi a3), (4, vi (a4 + (1)))]) [1, 2, 3, 4, 0] rfl <| ih a0 a1 a2 a3 (a4 + (1)) h _ hf
        · replace hf := ift hf q54
          exact x_X8_stands_57 G (f_X8_stands_25 n) ih a0 a1 a2 a3 a4 h _ hf
def f_X8_stands (a0 : Nat) (a1 : Int32) (a2 : Int32) (a3 : Int32) (h : AH) : Option Bool :=
  (gR 8 12 h (some a0)).bind fun v12 =>
  (lI 10 h v12 a1).bind fun v13 =>
  if a3 < v13 then (
    some false
  ) else (
    (gR 8 13 h (some a0)).bind fun v14 =>
    (lI 10 h v14 a1).bind fun v15 =>
    if v15 ≤ a2 then (
      f_X8_stands_25 FU a0 a1 a2 a3 (0 : Int32) h
    ) else (
      some false
    )
  )
theorem x_X8_stands (G : Gm) (a0 : Nat) (a1 : Int32) (a2 : Int32) (a3 : Int32) (h : AH) (o : Bool) (hf : f_X8_stands a0 a1 a2 a3 h = some o) : GO G mX8_stands 0 0 0 [(0, vr (some a0)), (1, vi a1), (2, vi a2), (3, vi a3)] [] h (some (vi (b2i o))) h := by
  unfold f_X8_stands at hf
  refine g_aload_n (M := mX8_stands) dX8_stands_0 rfl 0 rfl ?_
  obtain ⟨v12, ev12, hf⟩ := bd hf
  refine g_getR (M := mX8_stands) dX8_stands_1 flRX8_34 (fun _ => rfl) ev12 ?_
  refine g_iload_n (M := mX8_stands) dX8_stands_4 rfl 1 rfl ?_
  obtain ⟨v13, ev13, hf⟩ := bd hf
  refine g_iald (M := mX8_stands) dX8_stands_5 ev13 ?_
  refine g_iload_n (M := mX8_stands) dX8_stands_6 rfl 3 rfl ?_
  refine g_ic_gt (M := mX8_stands) (tgt := 20) dX8_stands_7 rfl (fun q7 => ?_) (fun q7 => ?_)
  · replace hf := ift hf q7
    refine g_iconst (M := mX8_stands) (v := 0) dX8_stands_20 rfl ?_
    cases hf
    exact g_ret (M := mX8_stands) dX8_stands_21 rfl
  · replace hf := iff_ hf q7
    refine g_aload_n (M := mX8_stands) dX8_stands_10 rfl 0 rfl ?_
    obtain ⟨v14, ev14, hf⟩ := bd hf
    refine g_getR (M := mX8_stands) dX8_stands_11 flRX8_37 (fun _ => rfl) ev14 ?_
    refine g_iload_n (M := mX8_stands) dX8_stands_14 rfl 1 rfl ?_
    obtain ⟨v15, ev15, hf⟩ := bd hf
    refine g_iald (M := mX8_stands) dX8_stands_15 ev15 ?_
    refine g_iload_n (M := mX8_stands) dX8_stands_16 rfl 2 rfl ?_
    refine g_ic_le (M := mX8_stands) (tgt := 22) dX8_stands_17 rfl (fun q17 => ?_) (fun q17 => ?_)
    · replace hf := ift hf q17
      refine g_iconst (M := mX8_stands) (v := 0) dX8_stands_22 rfl ?_
      refine g_istore (M := mX8_stands) (L2 := [(4, vi (0 : Int32)), (0, vr (some a0)), (1, vi a1), (2, vi a2), (3, vi a3)]) dX8_stands_23 (Nat.le_of_ble_eq_true rfl) rfl ?_
      exact g_sub (M := mX8_stands) (L2 := [(0, vr (some a0)), (1, vi a1), (2, vi a2), (3, vi a3), (4, vi (0 : Int32))]) [1, 2, 3, 4, 0] rfl <| x_X8_stands_25 G FU a0 a1 a2 a3 (0 : Int32) h _ hf
    · replace hf := iff_ hf q17
      refine g_iconst (M := mX8_stands) (v := 0) dX8_stands_20 rfl ?_
      cases hf
      exact g_ret (M := mX8_stands) dX8_stands_21 rfl
theorem c_X8_stands (G : Gm) (a0 : Nat) (a1 : Int32) (a2 : Int32) (a3 : Int32) (h : AH) (o : Bool) (hf : f_X8_stands a0 a1 a2 a3 h = some o) : CT G yX8_stands mX8_stands (some .boolean) 0 0 [vr (some a0), vi a1, vi a2, vi a3] h (some (vi (b2i o))) h :=
  CT.bool (by decide +kernel) rfl rfl rfl (Nat.le_of_ble_eq_true rfl) (b2i_01 _) (x_X8_stands G a0 a1 a2 a3 h o hf)
theorem cbX8_stands : CB yX8_stands mX8_stands (some .boolean) 3 := ⟨cd_yX8_stands, itRX8, ⟨by decide, by decide⟩, by decide +kernel, by decide⟩
abbrev mX8_isHeld : MI := (RX8, "isHeld", cX8_isHeld, 5, .ireturn, 1)
def f_X8_isHeld_3 : Nat → Nat → Int32 → Int32 → Int32 → AH → Option Bool
  | 0, _, _, _, _, _ => none
  | n + 1, a0, a1, a3, a4, h =>
    (gR 8 15 h (some a0)).bind fun v1 =>
    (lI 10 h v1 a1).bind fun v2 =>
    if v2 = a4 then (
      some true
    ) else (
      (gR 8 9 h (some a0)).bind fun v3 =>
      (lI 10 h v3 a4).bind fun v4 =>
      if v4 = (8 : Int32) then (
        (gR 8 18 h (some a0)).bind fun v5 =>
        (lI 10 h v5 a4).bind fun v6 =>
        if v6 = 0 then (
          some false
        ) else (
          (gR 8 13 h (some a0)).bind fun v7 =>
          (lI 10 h v7 a4).bind fun v8 =>
          (ck 8 h (some a0)).bind fun b9 =>
          (f_X8_stands b9 a1 (v8 - (1 : Int32)) a3 h).bind fun r10 =>
          if (b2i r10) = 0 then (
            some false
          ) else (
            (gR 8 14 h (some a0)).bind fun v11 =>
            (lI 10 h v11 a4).bind fun v12 =>
            f_X8_isHeld_3 n a0 a1 a3 v12 h
          )
        )
      ) else (
        some false
      )
    )
theorem x_X8_isHeld_3 (G : Gm) : ∀ (n : Nat) (a0 : Nat) (a1 : Int32) (a3 : Int32) (a4 : Int32) (h : AH) (o : Bool), f_X8_isHeld_3 n a0 a1 a3 a4 h = some o → GO G mX8_isHeld 0 0 3 [(0, vr (some a0)), (1, vi a1), (3, vi a3), (4, vi a4)] [] h (some (vi (b2i o))) h := by
  intro n
  induction n with
  | zero => intro a0 a1 a3 a4 h o hf; cases hf
  | succ n ih =>
    intro a0 a1 a3 a4 h o hf
    rw [f_X8_isHeld_3] at hf
    refine g_aload_n (M := mX8_isHeld) dX8_isHeld_3 rfl 0 rfl ?_
    obtain ⟨v1, ev1, hf⟩ := bd hf
    refine g_getR (M := mX8_isHeld) dX8_isHeld_4 flRX8_43 (fun _ => rfl) ev1 ?_
    refine g_iload_n (M := mX8_isHeld) dX8_isHeld_7 rfl 1 rfl ?_
    obtain ⟨v2, ev2, hf⟩ := bd hf
    refine g_iald (M := mX8_isHeld) dX8_isHeld_8 ev2 ?_
    refine g_iload (M := mX8_isHeld) dX8_isHeld_9 3 rfl ?_
    refine g_ic_eq (M := mX8_isHeld) (tgt := 68) dX8_isHeld_11 rfl (fun q11 => ?_) (fun q11 => ?_)
    · replace hf := ift hf q11
      refine g_iconst (M := mX8_isHeld) (v := 1) dX8_isHeld_68 rfl ?_
      cases hf
      exact g_ret (M := mX8_isHeld) dX8_isHeld_69 rfl
    · replace hf := iff_ hf q11
      refine g_aload_n (M := mX8_isHeld) dX8_isHeld_14 rfl 0 rfl ?_
      obtain ⟨v3, ev3, hf⟩ := bd hf
      refine g_getR (M := mX8_isHeld) dX8_isHeld_15 flRX8_25 (fun _ => rfl) ev3 ?_
      refine g_iload (M := mX8_isHeld) dX8_isHeld_18 3 rfl ?_
      obtain ⟨v4, ev4, hf⟩ := bd hf
      refine g_iald (M := mX8_isHeld) dX8_isHeld_20 ev4 ?_
      refine g_bipush (M := mX8_isHeld) (v := 8) dX8_isHeld_21 rfl ?_
      refine g_ic_ne (M := mX8_isHeld) (tgt := 54) dX8_isHeld_23 rfl (fun q23 => ?_) (fun q23 => ?_)
      · replace hf := iff_ hf q23
        refine g_iconst (M := mX8_isHeld) (v := 0) dX8_isHeld_54 rfl ?_
        cases hf
        exact g_ret (M := mX8_isHeld) dX8_isHeld_55 rfl
      · replace hf := ift hf q23
        refine g_aload_n (M := mX8_isHeld) dX8_isHeld_26 rfl 0 rfl ?_
        obtain ⟨v5, ev5, hf⟩ := bd hf
        refine g_getR (M := mX8_isHeld) dX8_isHeld_27 flRX8_52 (fun _ => rfl) ev5 ?_
        refine g_iload (M := mX8_isHeld) dX8_isHeld_30 3 rfl ?_
        obtain ⟨v6, ev6, hf⟩ := bd hf
        refine g_iald (M := mX8_isHeld) dX8_isHeld_32 ev6 ?_
        refine g_if_eq (M := mX8_isHeld) (tgt := 54) dX8_isHeld_33 rfl (fun q33 => ?_) (fun q33 => ?_)
        · replace hf := ift hf q33
          refine g_iconst (M := mX8_isHeld) (v := 0) dX8_isHeld_54 rfl ?_
          cases hf
          exact g_ret (M := mX8_isHeld) dX8_isHeld_55 rfl
        · replace hf := iff_ hf q33
          refine g_aload_n (M := mX8_isHeld) dX8_isHeld_36 rfl 0 rfl ?_
          refine g_iload_n (M := mX8_isHeld) dX8_isHeld_37 rfl 1 rfl ?_
          refine g_aload_n (M := mX8_isHeld) dX8_isHeld_38 rfl 0 rfl ?_
          obtain ⟨v7, ev7, hf⟩ := bd hf
          refine g_getR (M := mX8_isHeld) dX8_isHeld_39 flRX8_37 (fun _ => rfl) ev7 ?_
          refine g_iload (M := mX8_isHeld) dX8_isHeld_42 3 rfl ?_
          obtain ⟨v8, ev8, hf⟩ := bd hf
          refine g_iald (M := mX8_isHeld) dX8_isHeld_44 ev8 ?_
          refine g_iconst (M := mX8_isHeld) (v := 1) dX8_isHeld_45 rfl ?_
          refine g_isub (M := mX8_isHeld) dX8_isHeld_46 ?_
          refine g_iload_n (M := mX8_isHeld) dX8_isHeld_47 rfl 2 rfl ?_
          obtain ⟨b9, eb9, hf⟩ := bd hf
          obtain ⟨r10, er10, hf⟩ := bd hf
          refine g_callV (M := mX8_isHeld) (kc := 0) (ks := 0) (as := [vi a1, vi (v8 - (1 : Int32)), vi a3]) (rest := []) dX8_isHeld_48 cbX8_stands vwRX8_104 rfl eb9 rfl (Nat.le_of_ble_eq_true rfl) (Nat.le_of_ble_eq_true rfl) (c_X8_stands G b9 a1 (v8 - (1 : Int32)) a3 h r10 er10) ?_
          refine g_if_ne (M := mX8_isHeld) (tgt := 56) dX8_isHeld_51 rfl (fun q51 => ?_) (fun q51 => ?_)
          · replace hf := iff_ hf q51
            refine g_aload_n (M := mX8_isHeld) dX8_isHeld_56 rfl 0 rfl ?_
            obtain ⟨v11, ev11, hf⟩ := bd hf
            refine g_getR (M := mX8_isHeld) dX8_isHeld_57 flRX8_40 (fun _ => rfl) ev11 ?_
            refine g_iload (M := mX8_isHeld) dX8_isHeld_60 3 rfl ?_
            obtain ⟨v12, ev12, hf⟩ := bd hf
            refine g_iald (M := mX8_isHeld) dX8_isHeld_62 ev12 ?_
            refine g_istore (M := mX8_isHeld) (L2 := [(4, vi v12), (0, vr (some a0)), (1, vi a1), (3, vi a3)]) dX8_isHeld_63 (Nat.le_of_ble_eq_true rfl) rfl ?_
            refine g_goto (M := mX8_isHeld) (tgt := 3) dX8_isHeld_65 rfl ?_
            exact g_sub (M := mX8_isHeld) (L2 := [(0, vr (some a0)), (1, vi a1), (3, vi a3), (4, vi v12)]) [1, 2, 3, 0] rfl <| ih a0 a1 a3 v12 h _ hf
          · replace hf := ift hf q51
            refine g_iconst (M := mX8_isHeld) (v := 0) dX8_isHeld_54 rfl ?_
            cases hf
            exact g_ret (M := mX8_isHeld) dX8_isHeld_55 rfl
def f_X8_isHeld (a0 : Nat) (a1 : Int32) (a2 : Int32) (a3 : Int32) (h : AH) : Option Bool :=
  f_X8_isHeld_3 FU a0 a1 a3 a2 h
theorem x_X8_isHeld (G : Gm) (a0 : Nat) (a1 : Int32) (a2 : Int32) (a3 : Int32) (h : AH) (o : Bool) (hf : f_X8_isHeld a0 a1 a2 a3 h = some o) : GO G mX8_isHeld 0 0 0 [(0, vr (some a0)), (1, vi a1), (2, vi a2), (3, vi a3)] [] h (some (vi (b2i o))) h := by
  unfold f_X8_isHeld at hf
  refine g_iload_n (M := mX8_isHeld) dX8_isHeld_0 rfl 2 rfl ?_
  refine g_istore (M := mX8_isHeld) (L2 := [(4, vi a2), (0, vr (some a0)), (1, vi a1), (2, vi a2), (3, vi a3)]) dX8_isHeld_1 (Nat.le_of_ble_eq_true rfl) rfl ?_
  exact g_sub (M := mX8_isHeld) (L2 := [(0, vr (some a0)), (1, vi a1), (3, vi a3), (4, vi a2)]) [1, 2, 4, 0] rfl <| x_X8_isHeld_3 G FU a0 a1 a3 a2 h _ hf
theorem c_X8_isHeld (G : Gm) (a0 : Nat) (a1 : Int32) (a2 : Int32) (a3 : Int32) (h : AH) (o : Bool) (hf : f_X8_isHeld a0 a1 a2 a3 h = some o) : CT G yX8_isHeld mX8_isHeld (some .boolean) 0 0 [vr (some a0), vi a1, vi a2, vi a3] h (some (vi (b2i o))) h :=
  CT.bool (by decide +kernel) rfl rfl rfl (Nat.le_of_ble_eq_true rfl) (b2i_01 _) (x_X8_isHeld G a0 a1 a2 a3 h o hf)
theorem cbX8_isHeld : CB yX8_isHeld mX8_isHeld (some .boolean) 3 := ⟨cd_yX8_isHeld, itRX8, ⟨by decide, by decide⟩, by decide +kernel, by decide⟩
abbrev mX8_memberOf : MI := (RX8, "memberOf", cX8_memberOf, 6, .ireturn, 1)
def f_X8_memberOf_3 : Nat → Nat → Int32 → Int32 → Int32 → Int32 → Int32 → AH → Option Int32
  | 0, _, _, _, _, _, _, _ => none
  | n + 1, a0, a1, a2, a3, a4, a5, h =>
    (gI 8 8 h (some a0)).bind fun v1 =>
    if v1 ≤ a5 then (
      some (-1 : Int32)
    ) else (
      (ck 8 h (some a0)).bind fun b2 =>
      (f_X8_isMembership b2 a5 h).bind fun r3 =>
      if (b2i r3) = 0 then (
        f_X8_memberOf_3 n a0 a1 a2 a3 a4 (a5 + (1)) h
      ) else (
        (gR 8 10 h (some a0)).bind fun v4 =>
        (lI 10 h v4 a5).bind fun v5 =>
        if v5 = a1 then (
          (gR 8 11 h (some a0)).bind fun v6 =>
          (lI 10 h v6 a5).bind fun v7 =>
          if v7 = a2 then (
            (ck 8 h (some a0)).bind fun b8 =>
            (f_X8_stands b8 a5 a3 a4 h).bind fun r9 =>
            if (b2i r9) = 0 then (
              f_X8_memberOf_3 n a0 a1 a2 a3 a4 (a5 + (1)) h
            ) else (
              some a5
            )
          ) else (
            f_X8_memberOf_3 n a0 a1 a2 a3 a4 (a5 + (1)) h
          )
        ) else (
          f_X8_memberOf_3 n a0 a1 a2 a3 a4 (a5 + (1)) h
        )
      )
    )
theorem x_X8_memberOf_3 (G : Gm) : ∀ (n : Nat) (a0 : Nat) (a1 : Int32) (a2 : Int32) (a3 : Int32) (a4 : Int32) (a5 : Int32) (h : AH) (o : Int32), f_X8_memberOf_3 n a0 a1 a2 a3 a4 a5 h = some o → GO G mX8_memberOf 0 0 3 [(0, vr (some a0)), (1, vi a1), (2, vi a2), (3, vi a3), (4, vi a4), (5, vi a5)] [] h (some (vi o)) h := by
  intro n
  induction n with
  | zero => intro a0 a1 a2 a3 a4 a5 h o hf; cases hf
  | succ n ih =>
    intro a0 a1 a2 a3 a4 a5 h o hf
    rw [f_X8_memberOf_3] at hf
    refine g_iload (M := mX8_memberOf) dX8_memberOf_3 5 rfl ?_
    refine g_aload_n (M := mX8_memberOf) dX8_memberOf_5 rfl 0 rfl ?_
    obtain ⟨v1, ev1, hf⟩ := bd hf
    refine g_getI (M := mX8_memberOf) dX8_memberOf_6 flRX8_89 (fun _ => rfl) ev1 ?_
    refine g_ic_ge (M := mX8_memberOf) (tgt := 64) dX8_memberOf_9 rfl (fun q9 => ?_) (fun q9 => ?_)
    · replace hf := ift hf q9
      refine g_iconst (M := mX8_memberOf) (v := -1) dX8_memberOf_64 rfl ?_
      cases hf
      exact g_ret (M := mX8_memberOf) dX8_memberOf_65 rfl
    · replace hf := iff_ hf q9
      refine g_aload_n (M := mX8_memberOf) dX8_memberOf_12 rfl 0 rfl ?_
      refine g_iload (M := mX8_memberOf) dX8_memberOf_13 5 rfl ?_
      obtain ⟨b2, eb2, hf⟩ := bd hf
      obtain ⟨r3, er3, hf⟩ := bd hf
      refine g_callV (M := mX8_memberOf) (kc := 0) (ks := 0) (as := [vi a5]) (rest := []) dX8_memberOf_15 cbX8_isMembership vwRX8_101 rfl eb2 rfl (Nat.le_of_ble_eq_true rfl) (Nat.le_of_ble_eq_true rfl) (c_X8_isMembership G b2 a5 h r3 er3) ?_
      refine g_if_eq (M := mX8_memberOf) (tgt := 58) dX8_memberOf_18 rfl (fun q18 => ?_) (fun q18 => ?_)
      · replace hf := ift hf q18
        refine g_iinc (M := mX8_memberOf) (j := 5) (L2 := [(5, vi (a5 + (1))), (0, vr (some a0)), (1, vi a1), (2, vi a2), (3, vi a3), (4, vi a4)]) dX8_memberOf_58 rfl rfl (Nat.le_of_ble_eq_true rfl) rfl ?_
        refine g_goto (M := mX8_memberOf) (tgt := 3) dX8_memberOf_61 rfl ?_
        exact g_sub (M := mX8_memberOf) (L2 := [(0, vr (some a0)), (1, vi a1), (2, vi a2), (3, vi a3), (4, vi a4), (5, vi (a5 + (1)))]) [1, 2, 3, 4, 5, 0] rfl <| ih a0 a1 a2 a3 a4 (a5 + (1)) h _ hf
      · replace hf := iff_ hf q18
        refine g_aload_n (M := mX8_memberOf) dX8_memberOf_21 rfl 0 rfl ?_
        obtain ⟨v4, ev4, hf⟩ := bd hf
        refine g_getR (M := mX8_memberOf) dX8_memberOf_22 flRX8_28 (fun _ => rfl) ev4 ?_
        refine g_iload (M := mX8_memberOf) dX8_memberOf_25 5 rfl ?_
        obtain ⟨v5, ev5, hf⟩ := bd hf
        refine g_iald (M := mX8_memberOf) dX8_memberOf_27 ev5 ?_
        refine g_iload_n (M := mX8_memberOf) dX8_memberOf_28 rfl 1 rfl ?_
        refine g_ic_ne (M := mX8_memberOf) (tgt := 58) dX8_memberOf_29 rfl (fun q29 => ?_) (fun q29 => ?_)
        · replace hf := iff_ hf q29
          refine g_iinc (M := mX8_memberOf) (j := 5) (L2 := [(5, vi (a5 + (1))), (0, vr (some a0)), (1, vi a1), (2, vi a2), (3, vi a3), (4, vi a4)]) dX8_memberOf_58 rfl rfl (Nat.le_of_ble_eq_true rfl) rfl ?_
          refine g_goto (M := mX8_memberOf) (tgt := 3) dX8_memberOf_61 rfl ?_
          exact g_sub (M := mX8_memberOf) (L2 := [(0, vr (some a0)), (1, vi a1), (2, vi a2), (3, vi a3), (4, vi a4), (5, vi (a5 + (1)))]) [1, 2, 3, 4, 5, 0] rfl <| ih a0 a1 a2 a3 a4 (a5 + (1)) h _ hf
        · replace hf := ift hf q29
          refine g_aload_n (M := mX8_memberOf) dX8_memberOf_32 rfl 0 rfl ?_
          obtain ⟨v6, ev6, hf⟩ := bd hf
          refine g_getR (M := mX8_memberOf) dX8_memberOf_33 flRX8_31 (fun _ => rfl) ev6 ?_
          refine g_iload (M := mX8_memberOf) dX8_memberOf_36 5 rfl ?_
          obtain ⟨v7, ev7, hf⟩ := bd hf
          refine g_iald (M := mX8_memberOf) dX8_memberOf_38 ev7 ?_
          refine g_iload_n (M := mX8_memberOf) dX8_memberOf_39 rfl 2 rfl ?_
          refine g_ic_ne (M := mX8_memberOf) (tgt := 58) dX8_memberOf_40 rfl (fun q40 => ?_) (fun q40 => ?_)
          · replace hf := iff_ hf q40
            refine g_iinc (M := mX8_memberOf) (j := 5) (L2 := [(5, vi (a5 + (1))), (0, vr (some a0)), (1, vi a1), (2, vi a2), (3, vi a3), (4, vi a4)]) dX8_memberOf_58 rfl rfl (Nat.le_of_ble_eq_true rfl) rfl ?_
            refine g_goto (M := mX8_memberOf) (tgt := 3) dX8_memberOf_61 rfl ?_
            exact g_sub (M := mX8_memberOf) (L2 := [(0, vr (some a0)), (1, vi a1), (2, vi a2), (3, vi a3), (4, vi a4), (5, vi (a5 + (1)))]) [1, 2, 3, 4, 5, 0] rfl <| ih a0 a1 a2 a3 a4 (a5 + (1)) h _ hf
          · replace hf := ift hf q40
            refine g_aload_n (M := mX8_memberOf) dX8_memberOf_43 rfl 0 rfl ?_
            refine g_iload (M := mX8_memberOf) dX8_memberOf_44 5 rfl ?_
            refine g_iload_n (M := mX8_memberOf) dX8_memberOf_46 rfl 3 rfl ?_
            refine g_iload (M := mX8_memberOf) dX8_memberOf_47 4 rfl ?_
            obtain ⟨b8, eb8, hf⟩ := bd hf
            obtain ⟨r9, er9, hf⟩ := bd hf
            refine g_callV (M := mX8_memberOf) (kc := 0) (ks := 0) (as := [vi a5, vi a3, vi a4]) (rest := []) dX8_memberOf_49 cbX8_stands vwRX8_104 rfl eb8 rfl (Nat.le_of_ble_eq_true rfl) (Nat.le_of_ble_eq_true rfl) (c_X8_stands G b8 a5 a3 a4 h r9 er9) ?_
            refine g_if_eq (M := mX8_memberOf) (tgt := 58) dX8_memberOf_52 rfl (fun q52 => ?_) (fun q52 => ?_)
            · replace hf := ift hf q52
              refine g_iinc (M := mX8_memberOf) (j := 5) (L2 := [(5, vi (a5 + (1))), (0, vr (some a0)), (1, vi a1), (2, vi a2), (3, vi a3), (4, vi a4)]) dX8_memberOf_58 rfl rfl (Nat.le_of_ble_eq_true rfl) rfl ?_
              refine g_goto (M := mX8_memberOf) (tgt := 3) dX8_memberOf_61 rfl ?_
              exact g_sub (M := mX8_memberOf) (L2 := [(0, vr (some a0)), (1, vi a1), (2, vi a2), (3, vi a3), (4, vi a4), (5, vi (a5 + (1)))]) [1, 2, 3, 4, 5, 0] rfl <| ih a0 a1 a2 a3 a4 (a5 + (1)) h _ hf
            · replace hf := iff_ hf q52
              refine g_iload (M := mX8_memberOf) dX8_memberOf_55 5 rfl ?_
              cases hf
              exact g_ret (M := mX8_memberOf) dX8_memberOf_57 rfl
def f_X8_memberOf (a0 : Nat) (a1 : Int32) (a2 : Int32) (a3 : Int32) (a4 : Int32) (h : AH) : Option Int32 :=
  f_X8_memberOf_3 FU a0 a1 a2 a3 a4 (0 : Int32) h
theorem x_X8_memberOf (G : Gm) (a0 : Nat) (a1 : Int32) (a2 : Int32) (a3 : Int32) (a4 : Int32) (h : AH) (o : Int32) (hf : f_X8_memberOf a0 a1 a2 a3 a4 h = some o) : GO G mX8_memberOf 0 0 0 [(0, vr (some a0)), (1, vi a1), (2, vi a2), (3, vi a3), (4, vi a4)] [] h (some (vi o)) h := by
  unfold f_X8_memberOf at hf
  refine g_iconst (M := mX8_memberOf) (v := 0) dX8_memberOf_0 rfl ?_
  refine g_istore (M := mX8_memberOf) (L2 := [(5, vi (0 : Int32)), (0, vr (some a0)), (1, vi a1), (2, vi a2), (3, vi a3), (4, vi a4)]) dX8_memberOf_1 (Nat.le_of_ble_eq_true rfl) rfl ?_
  exact g_sub (M := mX8_memberOf) (L2 := [(0, vr (some a0)), (1, vi a1), (2, vi a2), (3, vi a3), (4, vi a4), (5, vi (0 : Int32))]) [1, 2, 3, 4, 5, 0] rfl <| x_X8_memberOf_3 G FU a0 a1 a2 a3 a4 (0 : Int32) h _ hf
theorem c_X8_memberOf (G : Gm) (a0 : Nat) (a1 : Int32) (a2 : Int32) (a3 : Int32) (a4 : Int32) (h : AH) (o : Int32) (hf : f_X8_memberOf a0 a1 a2 a3 a4 h = some o) : CT G yX8_memberOf mX8_memberOf (some .int) 0 0 [vr (some a0), vi a1, vi a2, vi a3, vi a4] h (some (vi o)) h :=
  CT.int (by decide +kernel) rfl rfl rfl (Nat.le_of_ble_eq_true rfl) (x_X8_memberOf G a0 a1 a2 a3 a4 h o hf)
theorem cbX8_memberOf : CB yX8_memberOf mX8_memberOf (some .int) 4 := ⟨cd_yX8_memberOf, itRX8, ⟨by decide, by decide⟩, by decide +kernel, by decide⟩
abbrev mX8_manyMembers : MI := (RX8, "manyMembers", cX8_manyMembers, 6, .ireturn, 2)
def f_X8_manyMembers_35 (K0 : Nat → Int32 → Int32 → Int32 → Int32 → Int32 → AH → Option Int32) (a0 : Nat) (a1 : Int32) (a2 : Int32) (a3 : Int32) (a5 : Int32) (s0 : Int32) (s1 : Int32) (h : AH) : Option Int32 :=
  K0 a0 a1 a2 a3 (s0 + s1) (a5 + (1)) h
theorem x_X8_manyMembers_35 (G : Gm) (K0 : Nat → Int32 → Int32 → Int32 → Int32 → Int32 → AH → Option Int32) (hK0 : ∀ (a0 : Nat) (a1 : Int32) (a2 : Int32) (a3 : Int32) (a4 : Int32) (a5 : Int32) (h : AH) (o : Int32), K0 a0 a1 a2 a3 a4 a5 h = some o → GO G mX8_manyMembers 0 0 6 [(0, vr (some a0)), (1, vi a1), (2, vi a2), (3, vi a3), (4, vi a4), (5, vi a5)] [] h (some (vi o)) h) (a0 : Nat) (a1 : Int32) (a2 : Int32) (a3 : Int32) (a5 : Int32) (s0 : Int32) (s1 : Int32) (h : AH) (o : Int32) (hf : f_X8_manyMembers_35 K0 a0 a1 a2 a3 a5 s0 s1 h = some o) : GO G mX8_manyMembers 0 0 35 [(0, vr (some a0)), (1, vi a1), (2, vi a2), (3, vi a3), (5, vi a5)] [vi s1, vi s0] h (some (vi o)) h := by
  unfold f_X8_manyMembers_35 at hf
  refine g_iadd (M := mX8_manyMembers) dX8_manyMembers_35 ?_
  refine g_istore (M := mX8_manyMembers) (L2 := [(4, vi (s0 + s1)), (0, vr (some a0)), (1, vi a1), (2, vi a2), (3, vi a3), (5, vi a5)]) dX8_manyMembers_36 (Nat.le_of_ble_eq_true rfl) rfl ?_
  refine g_iinc (M := mX8_manyMembers) (j := 5) (L2 := [(5, vi (a5 + (1))), (4, vi (s0 + s1)), (0, vr (some a0)), (1, vi a1), (2, vi a2), (3, vi a3)]) dX8_manyMembers_38 rfl rfl (Nat.le_of_ble_eq_true rfl) rfl ?_
  refine g_goto (M := mX8_manyMembers) (tgt := 6) dX8_manyMembers_41 rfl ?_
  exact g_sub (M := mX8_manyMembers) (L2 := [(0, vr (some a0)), (1, vi a1), (2, vi a2), (3, vi a3), (4, vi (s0 + s1)), (5, vi (a5 + (1)))]) [2, 3, 4, 5, 1, 0] rfl <| hK0 a0 a1 a2 a3 (s0 + s1) (a5 + (1)) h _ hf
def f_X8_manyMembers_6 : Nat → Nat → Int32 → Int32 → Int32 → Int32 → Int32 → AH → Option Int32
  | 0, _, _, _, _, _, _, _ => none
  | n + 1, a0, a1, a2, a3, a4, a5, h =>
    (gI 8 1 h (some a0)).bind fun v1 =>
    if v1 ≤ a5 then (
      some a4
    ) else (
      (ck 8 h (some a0)).bind fun b2 =>
      (f_X8_memberOf b2 a5 a1 a2 a3 h).bind fun r3 =>
      if r3 = (-1 : Int32) then (
        f_X8_manyMembers_35 (f_X8_manyMembers_6 n) a0 a1 a2 a3 a5 a4 (0 : Int32) h
      ) else (
        f_X8_manyMembers_35 (f_X8_manyMembers_6 n) a0 a1 a2 a3 a5 a4 (1 : Int32) h
      )
    )
theorem x_X8_manyMembers_6 (G : Gm) : ∀ (n : Nat) (a0 : Nat) (a1 : Int32) (a2 : Int32) (a3 : Int32) (a4 : Int32) (a5 : Int32) (h : AH) (o : Int32), f_X8_manyMembers_6 n a0 a1 a2 a3 a4 a5 h = some o → GO G mX8_manyMembers 0 0 6 [(0, vr (some a0)), (1, vi a1), (2, vi a2), (3, vi a3), (4, vi a4), (5, vi a5)] [] h (some (vi o)) h := by
  intro n
  induction n with
  | zero => intro a0 a1 a2 a3 a4 a5 h o hf; cases hf
  | succ n ih =>
    intro a0 a1 a2 a3 a4 a5 h o hf
    rw [f_X8_manyMembers_6] at hf
    refine g_iload (M := mX8_manyMembers) dX8_manyMembers_6 5 rfl ?_
    refine g_aload_n (M := mX8_manyMembers) dX8_manyMembers_8 rfl 0 rfl ?_
    obtain ⟨v1, ev1, hf⟩ := bd hf
    refine g_getI (M := mX8_manyMembers) dX8_manyMembers_9 flRX8_78 (fun _ => rfl) ev1 ?_
    refine g_ic_ge (M := mX8_manyMembers) (tgt := 44) dX8_manyMembers_12 rfl (fun q12 => ?_) (fun q12 => ?_)
    · replace hf := ift hf q12
      refine g_iload (M := mX8_manyMembers) dX8_manyMembers_44 4 rfl ?_
      cases hf
      exact g_ret (M := mX8_manyMembers) dX8_manyMembers_46 rfl
    · replace hf := iff_ hf q12
      refine g_iload (M := mX8_manyMembers) dX8_manyMembers_15 4 rfl ?_
      refine g_aload_n (M := mX8_manyMembers) dX8_manyMembers_17 rfl 0 rfl ?_
      refine g_iload (M := mX8_manyMembers) dX8_manyMembers_18 5 rfl ?_
      refine g_iload_n (M := mX8_manyMembers) dX8_manyMembers_20 rfl 1 rfl ?_
      refine g_iload_n (M := mX8_manyMembers) dX8_manyMembers_21 rfl 2 rfl ?_
      refine g_iload_n (M := mX8_manyMembers) dX8_manyMembers_22 rfl 3 rfl ?_
      obtain ⟨b2, eb2, hf⟩ := bd hf
      obtain ⟨r3, er3, hf⟩ := bd hf
      refine g_callV (M := mX8_manyMembers) (kc := 0) (ks := 0) (as := [vi a5, vi a1, vi a2, vi a3]) (rest := [vi a4]) dX8_manyMembers_23 cbX8_memberOf vwRX8_108 rfl eb2 rfl (Nat.le_of_ble_eq_true rfl) (Nat.le_of_ble_eq_true rfl) (c_X8_memberOf G b2 a5 a1 a2 a3 h r3 er3) ?_
      refine g_iconst (M := mX8_manyMembers) (v := -1) dX8_manyMembers_26 rfl ?_
      refine g_ic_ne (M := mX8_manyMembers) (tgt := 34) dX8_manyMembers_27 rfl (fun q27 => ?_) (fun q27 => ?_)
      · replace hf := iff_ hf q27
        refine g_iconst (M := mX8_manyMembers) (v := 1) dX8_manyMembers_34 rfl ?_
        exact g_sub (M := mX8_manyMembers) (L2 := [(0, vr (some a0)), (1, vi a1), (2, vi a2), (3, vi a3), (5, vi a5)]) [0, 1, 2, 3, 5] rfl <| x_X8_manyMembers_35 G (f_X8_manyMembers_6 n) ih a0 a1 a2 a3 a5 a4 (1 : Int32) h _ hf
      · replace hf := ift hf q27
        refine g_iconst (M := mX8_manyMembers) (v := 0) dX8_manyMembers_30 rfl ?_
        refine g_goto (M := mX8_manyMembers) (tgt := 35) dX8_manyMembers_31 rfl ?_
        exact g_sub (M := mX8_manyMembers) (L2 := [(0, vr (some a0)), (1, vi a1), (2, vi a2), (3, vi a3), (5, vi a5)]) [0, 1, 2, 3, 5] rfl <| x_X8_manyMembers_35 G (f_X8_manyMembers_6 n) ih a0 a1 a2 a3 a5 a4 (0 : Int32) h _ hf
def f_X8_manyMembers (a0 : Nat) (a1 : Int32) (a2 : Int32) (a3 : Int32) (h : AH) : Option Int32 :=
  f_X8_manyMembers_6 FU a0 a1 a2 a3 (0 : Int32) (0 : Int32) h
theorem x_X8_manyMembers (G : Gm) (a0 : Nat) (a1 : Int32) (a2 : Int32) (a3 : Int32) (h : AH) (o : Int32) (hf : f_X8_manyMembers a0 a1 a2 a3 h = some o) : GO G mX8_manyMembers 0 0 0 [(0, vr (some a0)), (1, vi a1), (2, vi a2), (3, vi a3)] [] h (some (vi o)) h := by
  unfold f_X8_manyMembers at hf
  refine g_iconst (M := mX8_manyMembers) (v := 0) dX8_manyMembers_0 rfl ?_
  refine g_istore (M := mX8_manyMembers) (L2 := [(4, vi (0 : Int32)), (0, vr (some a0)), (1, vi a1), (2, vi a2), (3, vi a3)]) dX8_manyMembers_1 (Nat.le_of_ble_eq_true rfl) rfl ?_
  refine g_iconst (M := mX8_manyMembers) (v := 0) dX8_manyMembers_3 rfl ?_
  refine g_istore (M := mX8_manyMembers) (L2 := [(5, vi (0 : Int32)), (4, vi (0 : Int32)), (0, vr (some a0)), (1, vi a1), (2, vi a2), (3, vi a3)]) dX8_manyMembers_4 (Nat.le_of_ble_eq_true rfl) rfl ?_
  exact g_sub (M := mX8_manyMembers) (L2 := [(0, vr (some a0)), (1, vi a1), (2, vi a2), (3, vi a3), (4, vi (0 : Int32)), (5, vi (0 : Int32))]) [2, 3, 4, 5, 1, 0] rfl <| x_X8_manyMembers_6 G FU a0 a1 a2 a3 (0 : Int32) (0 : Int32) h _ hf
theorem c_X8_manyMembers (G : Gm) (a0 : Nat) (a1 : Int32) (a2 : Int32) (a3 : Int32) (h : AH) (o : Int32) (hf : f_X8_manyMembers a0 a1 a2 a3 h = some o) : CT G yX8_manyMembers mX8_manyMembers (some .int) 0 0 [vr (some a0), vi a1, vi a2, vi a3] h (some (vi o)) h :=
  CT.int (by decide +kernel) rfl rfl rfl (Nat.le_of_ble_eq_true rfl) (x_X8_manyMembers G a0 a1 a2 a3 h o hf)
theorem cbX8_manyMembers : CB yX8_manyMembers mX8_manyMembers (some .int) 3 := ⟨cd_yX8_manyMembers, itRX8, ⟨by decide, by decide⟩, by decide +kernel, by decide⟩
abbrev mX8_hasPaper : MI := (RX8, "hasPaper", cX8_hasPaper, 5, .ireturn, 2)
def f_X8_hasPaper (a0 : Nat) (a1 : Int32) (a2 : Int32) (a3 : Int32) (a4 : Int32) (h : AH) : Option Bool :=
  (gR 8 15 h (some a0)).bind fun v1 =>
  (lI 10 h v1 a2).bind fun v2 =>
  if v2 = (-1 : Int32) then (
    some false
  ) else (
    (ck 8 h (some a0)).bind fun b3 =>
    (f_X8_stands b3 a2 a3 a4 h).bind fun r4 =>
    if (b2i r4) = 0 then (
      some false
    ) else (
      (ck 8 h (some a0)).bind fun b5 =>
      (f_X8_isHeld b5 a2 a1 a4 h).bind fun r6 =>
      if (b2i r6) = 0 then (
        some false
      ) else (
        some true
      )
    )
  )
theorem x_X8_hasPaper (G : Gm) (a0 : Nat) (a1 : Int32) (a2 : Int32) (a3 : Int32) (a4 : Int32) (h : AH) (o : Bool) (hf : f_X8_hasPaper a0 a1 a2 a3 a4 h = some o) : GO G mX8_hasPaper 0 0 0 [(0, vr (some a0)), (1, vi a1), (2, vi a2), (3, vi a3), (4, vi a4)] [] h (some (vi (b2i o))) h := by
  unfold f_X8_hasPaper at hf
  refine g_aload_n (M := mX8_hasPaper) dX8_hasPaper_0 rfl 0 rfl ?_
  obtain ⟨v1, ev1, hf⟩ := bd hf
  refine g_getR (M := mX8_hasPaper) dX8_hasPaper_1 flRX8_43 (fun _ => rfl) ev1 ?_
  refine g_iload_n (M := mX8_hasPaper) dX8_hasPaper_4 rfl 2 rfl ?_
  obtain ⟨v2, ev2, hf⟩ := bd hf
  refine g_iald (M := mX8_hasPaper) dX8_hasPaper_5 ev2 ?_
  refine g_iconst (M := mX8_hasPaper) (v := -1) dX8_hasPaper_6 rfl ?_
  refine g_ic_eq (M := mX8_hasPaper) (tgt := 36) dX8_hasPaper_7 rfl (fun q7 => ?_) (fun q7 => ?_)
  · replace hf := ift hf q7
    refine g_iconst (M := mX8_hasPaper) (v := 0) dX8_hasPaper_36 rfl ?_
    cases hf
    exact g_ret (M := mX8_hasPaper) dX8_hasPaper_37 rfl
  · replace hf := iff_ hf q7
    refine g_aload_n (M := mX8_hasPaper) dX8_hasPaper_10 rfl 0 rfl ?_
    refine g_iload_n (M := mX8_hasPaper) dX8_hasPaper_11 rfl 2 rfl ?_
    refine g_iload_n (M := mX8_hasPaper) dX8_hasPaper_12 rfl 3 rfl ?_
    refine g_iload (M := mX8_hasPaper) dX8_hasPaper_13 4 rfl ?_
    obtain ⟨b3, eb3, hf⟩ := bd hf
    obtain ⟨r4, er4, hf⟩ := bd hf
    refine g_callV (M := mX8_hasPaper) (kc := 0) (ks := 0) (as := [vi a2, vi a3, vi a4]) (rest := []) dX8_hasPaper_15 cbX8_stands vwRX8_104 rfl eb3 rfl (Nat.le_of_ble_eq_true rfl) (Nat.le_of_ble_eq_true rfl) (c_X8_stands G b3 a2 a3 a4 h r4 er4) ?_
    refine g_if_eq (M := mX8_hasPaper) (tgt := 36) dX8_hasPaper_18 rfl (fun q18 => ?_) (fun q18 => ?_)
    · replace hf := ift hf q18
      refine g_iconst (M := mX8_hasPaper) (v := 0) dX8_hasPaper_36 rfl ?_
      cases hf
      exact g_ret (M := mX8_hasPaper) dX8_hasPaper_37 rfl
    · replace hf := iff_ hf q18
      refine g_aload_n (M := mX8_hasPaper) dX8_hasPaper_21 rfl 0 rfl ?_
      refine g_iload_n (M := mX8_hasPaper) dX8_hasPaper_22 rfl 2 rfl ?_
      refine g_iload_n (M := mX8_hasPaper) dX8_hasPaper_23 rfl 1 rfl ?_
      refine g_iload (M := mX8_hasPaper) dX8_hasPaper_24 4 rfl ?_
      obtain ⟨b5, eb5, hf⟩ := bd hf
      obtain ⟨r6, er6, hf⟩ := bd hf
      refine g_callV (M := mX8_hasPaper) (kc := 0) (ks := 0) (as := [vi a2, vi a1, vi a4]) (rest := []) dX8_hasPaper_26 cbX8_isHeld vwRX8_112 rfl eb5 rfl (Nat.le_of_ble_eq_true rfl) (Nat.le_of_ble_eq_true rfl) (c_X8_isHeld G b5 a2 a1 a4 h r6 er6) ?_
      refine g_if_eq (M := mX8_hasPaper) (tgt := 36) dX8_hasPaper_29 rfl (fun q29 => ?_) (fun q29 => ?_)
      · replace hf := ift hf q29
        refine g_iconst (M := mX8_hasPaper) (v := 0) dX8_hasPaper_36 rfl ?_
        cases hf
        exact g_ret (M := mX8_hasPaper) dX8_hasPaper_37 rfl
      · replace hf := iff_ hf q29
        refine g_iconst (M := mX8_hasPaper) (v := 1) dX8_hasPaper_32 rfl ?_
        refine g_goto (M := mX8_hasPaper) (tgt := 37) dX8_hasPaper_33 rfl ?_
        cases hf
        exact g_ret (M := mX8_hasPaper) dX8_hasPaper_37 rfl
theorem c_X8_hasPaper (G : Gm) (a0 : Nat) (a1 : Int32) (a2 : Int32) (a3 : Int32) (a4 : Int32) (h : AH) (o : Bool) (hf : f_X8_hasPaper a0 a1 a2 a3 a4 h = some o) : CT G yX8_hasPaper mX8_hasPaper (some .boolean) 0 0 [vr (some a0), vi a1, vi a2, vi a3, vi a4] h (some (vi (b2i o))) h :=
  CT.bool (by decide +kernel) rfl rfl rfl (Nat.le_of_ble_eq_true rfl) (b2i_01 _) (x_X8_hasPaper G a0 a1 a2 a3 a4 h o hf)
theorem cbX8_hasPaper : CB yX8_hasPaper mX8_hasPaper (some .boolean) 4 := ⟨cd_yX8_hasPaper, itRX8, ⟨by decide, by decide⟩, by decide +kernel, by decide⟩
abbrev mX8_lodge : MI := (RX8, "lodge", cX8_lodge, 8, .ireturn, 0)
def f_X8_lodge (a0 : Nat) (a1 : Int32) (a2 : Int32) (a3 : Int32) (a4 : Int32) (a5 : Int32) (a6 : Int32) (h : AH) : Option (Int32 × AH) :=
  (gI 8 8 h (some a0)).bind fun v1 =>
  (gI 8 8 h (some a0)).bind fun v2 =>
  (pI 8 8 h (some a0) (v2 + (1 : Int32))).bind fun h3 =>
  (gR 8 9 h3 (some a0)).bind fun v4 =>
  (stI 10 h3 v4 v1 a1).bind fun h5 =>
  (gR 8 10 h5 (some a0)).bind fun v6 =>
  (stI 10 h5 v6 v1 a2).bind fun h7 =>
  (gR 8 11 h7 (some a0)).bind fun v8 =>
  (stI 10 h7 v8 v1 a3).bind fun h9 =>
  (gR 8 12 h9 (some a0)).bind fun v10 =>
  (gI 8 0 h9 (some a0)).bind fun v11 =>
  (stI 10 h9 v10 v1 v11).bind fun h12 =>
  (gR 8 13 h12 (some a0)).bind fun v13 =>
  (gI 8 0 h12 (some a0)).bind fun v14 =>
  (stI 10 h12 v13 v1 (v14 + a4)).bind fun h15 =>
  (gR 8 14 h15 (some a0)).bind fun v16 =>
  (stI 10 h15 v16 v1 a5).bind fun h17 =>
  (gR 8 15 h17 (some a0)).bind fun v18 =>
  (stI 10 h17 v18 v1 a6).bind fun h19 =>
  (gR 8 16 h19 (some a0)).bind fun v20 =>
  (stI 10 h19 v20 v1 (-1 : Int32)).bind fun h21 =>
  (gR 8 17 h21 (some a0)).bind fun v22 =>
  (stI 10 h21 v22 v1 (-1 : Int32)).bind fun h23 =>
  (gR 8 18 h23 (some a0)).bind fun v24 =>
  (stI 10 h23 v24 v1 (0 : Int32)).bind fun h25 =>
  (gR 8 19 h25 (some a0)).bind fun v26 =>
  (stJ 11 h25 v26 v1 (0 : Int64)).bind fun h27 =>
  some (v1, h27)
theorem x_X8_lodge (G : Gm) (a0 : Nat) (a1 : Int32) (a2 : Int32) (a3 : Int32) (a4 : Int32) (a5 : Int32) (a6 : Int32) (h : AH) (o : (Int32 × AH)) (hf : f_X8_lodge a0 a1 a2 a3 a4 a5 a6 h = some o) : GO G mX8_lodge 0 0 0 [(0, vr (some a0)), (1, vi a1), (2, vi a2), (3, vi a3), (4, vi a4), (5, vi a5), (6, vi a6)] [] h (some (vi o.1)) o.2 := by
  unfold f_X8_lodge at hf
  refine g_aload_n (M := mX8_lodge) dX8_lodge_0 rfl 0 rfl ?_
  obtain ⟨v1, ev1, hf⟩ := bd hf
  refine g_getI (M := mX8_lodge) dX8_lodge_1 flRX8_89 (fun _ => rfl) ev1 ?_
  refine g_istore (M := mX8_lodge) (L2 := [(7, vi v1), (0, vr (some a0)), (1, vi a1), (2, vi a2), (3, vi a3), (4, vi a4), (5, vi a5), (6, vi a6)]) dX8_lodge_4 (Nat.le_of_ble_eq_true rfl) rfl ?_
  refine g_aload_n (M := mX8_lodge) dX8_lodge_6 rfl 1 rfl ?_
  refine g_dup (M := mX8_lodge) dX8_lodge_7 rfl ?_
  obtain ⟨v2, ev2, hf⟩ := bd hf
  refine g_getI (M := mX8_lodge) dX8_lodge_8 flRX8_89 (fun _ => rfl) ev2 ?_
  refine g_iconst (M := mX8_lodge) (v := 1) dX8_lodge_11 rfl ?_
  refine g_iadd (M := mX8_lodge) dX8_lodge_12 ?_
  obtain ⟨h3, eh3, hf⟩ := bd hf
  refine g_putI (M := mX8_lodge) dX8_lodge_13 flRX8_89 rfl eh3 ?_
  refine g_aload_n (M := mX8_lodge) dX8_lodge_16 rfl 1 rfl ?_
  obtain ⟨v4, ev4, hf⟩ := bd hf
  refine g_getR (M := mX8_lodge) dX8_lodge_17 flRX8_25 (fun _ => rfl) ev4 ?_
  refine g_iload (M := mX8_lodge) dX8_lodge_20 0 rfl ?_
  refine g_iload_n (M := mX8_lodge) dX8_lodge_22 rfl 2 rfl ?_
  obtain ⟨h5, eh5, hf⟩ := bd hf
  refine g_iast (M := mX8_lodge) dX8_lodge_23 eh5 ?_
  refine g_aload_n (M := mX8_lodge) dX8_lodge_24 rfl 1 rfl ?_
  obtain ⟨v6, ev6, hf⟩ := bd hf
  refine g_getR (M := mX8_lodge) dX8_lodge_25 flRX8_28 (fun _ => rfl) ev6 ?_
  refine g_iload (M := mX8_lodge) dX8_lodge_28 0 rfl ?_
  refine g_iload_n (M := mX8_lodge) dX8_lodge_30 rfl 3 rfl ?_
  obtain ⟨h7, eh7, hf⟩ := bd hf
  refine g_iast (M := mX8_lodge) dX8_lodge_31 eh7 ?_
  refine g_aload_n (M := mX8_lodge) dX8_lodge_32 rfl 1 rfl ?_
  obtain ⟨v8, ev8, hf⟩ := bd hf
  refine g_getR (M := mX8_lodge) dX8_lodge_33 flRX8_31 (fun _ => rfl) ev8 ?_
  refine g_iload (M := mX8_lodge) dX8_lodge_36 0 rfl ?_
  refine g_iload_n (M := mX8_lodge) dX8_lodge_38 rfl 4 rfl ?_
  obtain ⟨h9, eh9, hf⟩ := bd hf
  refine g_iast (M := mX8_lodge) dX8_lodge_39 eh9 ?_
  refine g_aload_n (M := mX8_lodge) dX8_lodge_40 rfl 1 rfl ?_
  obtain ⟨v10, ev10, hf⟩ := bd hf
  refine g_getR (M := mX8_lodge) dX8_lodge_41 flRX8_34 (fun _ => rfl) ev10 ?_
  refine g_iload (M := mX8_lodge) dX8_lodge_44 0 rfl ?_
  refine g_aload_n (M := mX8_lodge) dX8_lodge_46 rfl 1 rfl ?_
  obtain ⟨v11, ev11, hf⟩ := bd hf
  refine g_getI (M := mX8_lodge) dX8_lodge_47 flRX8_98 (fun _ => rfl) ev11 ?_
  obtain ⟨h12, eh12, hf⟩ := bd hf
  refine g_iast (M := mX8_lodge) dX8_lodge_50 eh12 ?_
  refine g_aload_n (M := mX8_lodge) dX8_lodge_51 rfl 1 rfl ?_
  obtain ⟨v13, ev13, hf⟩ := bd hf
  refine g_getR (M := mX8_lodge) dX8_lodge_52 flRX8_37 (fun _ => rfl) ev13 ?_
  refine g_iload (M := mX8_lodge) dX8_lodge_55 0 rfl ?_
  refine g_aload_n (M := mX8_lodge) dX8_lodge_57 rfl 1 rfl ?_
  obtain ⟨v14, ev14, hf⟩ := bd hf
  refine g_getI (M := mX8_lodge) dX8_lodge_58 flRX8_98 (fun _ => rfl) ev14 ?_
  refine g_iload (M := mX8_lodge) dX8_lodge_61 5 rfl ?_
  refine g_iadd (M := mX8_lodge) dX8_lodge_63 ?_
  obtain ⟨h15, eh15, hf⟩ := bd hf
  refine g_iast (M := mX8_lodge) dX8_lodge_64 eh15 ?_
  refine g_aload_n (M := mX8_lodge) dX8_lodge_65 rfl 1 rfl ?_
  obtain ⟨v16, ev16, hf⟩ := bd hf
  refine g_getR (M := mX8_lodge) dX8_lodge_66 flRX8_40 (fun _ => rfl) ev16 ?_
  refine g_iload (M := mX8_lodge) dX8_lodge_69 0 rfl ?_
  refine g_iload (M := mX8_lodge) dX8_lodge_71 6 rfl ?_
  obtain ⟨h17, eh17, hf⟩ := bd hf
  refine g_iast (M := mX8_lodge) dX8_lodge_73 eh17 ?_
  refine g_aload_n (M := mX8_lodge) dX8_lodge_74 rfl 1 rfl ?_
  obtain ⟨v18, ev18, hf⟩ := bd hf
  refine g_getR (M := mX8_lodge) dX8_lodge_75 flRX8_43 (fun _ => rfl) ev18 ?_
  refine g_iload (M := mX8_lodge) dX8_lodge_78 0 rfl ?_
  refine g_iload (M := mX8_lodge) dX8_lodge_80 7 rfl ?_
  obtain ⟨h19, eh19, hf⟩ := bd hf
  refine g_iast (M := mX8_lodge) dX8_lodge_82 eh19 ?_
  refine g_aload_n (M := mX8_lodge) dX8_lodge_83 rfl 1 rfl ?_
  obtain ⟨v20, ev20, hf⟩ := bd hf
  refine g_getR (M := mX8_lodge) dX8_lodge_84 flRX8_46 (fun _ => rfl) ev20 ?_
  refine g_iload (M := mX8_lodge) dX8_lodge_87 0 rfl ?_
  refine g_iconst (M := mX8_lodge) (v := -1) dX8_lodge_89 rfl ?_
  obtain ⟨h21, eh21, hf⟩ := bd hf
  refine g_iast (M := mX8_lodge) dX8_lodge_90 eh21 ?_
  refine g_aload_n (M := mX8_lodge) dX8_lodge_91 rfl 1 rfl ?_
  obtain ⟨v22, ev22, hf⟩ := bd hf
  refine g_getR (M := mX8_lodge) dX8_lodge_92 flRX8_49 (fun _ => rfl) ev22 ?_
  refine g_iload (M := mX8_lodge) dX8_lodge_95 0 rfl ?_
  refine g_iconst (M := mX8_lodge) (v := -1) dX8_lodge_97 rfl ?_
  obtain ⟨h23, eh23, hf⟩ := bd hf
  refine g_iast (M := mX8_lodge) dX8_lodge_98 eh23 ?_
  refine g_aload_n (M := mX8_lodge) dX8_lodge_99 rfl 1 rfl ?_
  obtain ⟨v24, ev24, hf⟩ := bd hf
  refine g_getR (M := mX8_lodge) dX8_lodge_100 flRX8_52 (fun _ => rfl) ev24 ?_
  refine g_iload (M := mX8_lodge) dX8_lodge_103 0 rfl ?_
  refine g_iconst (M := mX8_lodge) (v := 0) dX8_lodge_105 rfl ?_
  obtain ⟨h25, eh25, hf⟩ := bd hf
  refine g_iast (M := mX8_lodge) dX8_lodge_106 eh25 ?_
  refine g_aload_n (M := mX8_lodge) dX8_lodge_107 rfl 1 rfl ?_
  obtain ⟨v26, ev26, hf⟩ := bd hf
  refine g_getR (M := mX8_lodge) dX8_lodge_108 flRX8_55 (fun _ => rfl) ev26 ?_
  refine g_iload (M := mX8_lodge) dX8_lodge_111 0 rfl ?_
  refine g_lconst (M := mX8_lodge) (v := 0) dX8_lodge_113 (by decide) ?_
  obtain ⟨h27, eh27, hf⟩ := bd hf
  refine g_last (M := mX8_lodge) dX8_lodge_114 eh27 ?_
  refine g_iload (M := mX8_lodge) dX8_lodge_115 0 rfl ?_
  cases hf
  exact g_ret (M := mX8_lodge) dX8_lodge_117 rfl
theorem c_X8_lodge (G : Gm) (a0 : Nat) (a1 : Int32) (a2 : Int32) (a3 : Int32) (a4 : Int32) (a5 : Int32) (a6 : Int32) (h : AH) (o : (Int32 × AH)) (hf : f_X8_lodge a0 a1 a2 a3 a4 a5 a6 h = some o) : CT G yX8_lodge mX8_lodge (some .int) 0 0 [vr (some a0), vi a1, vi a2, vi a3, vi a4, vi a5, vi a6] h (some (vi o.1)) o.2 :=
  CT.int (by decide +kernel) rfl rfl rfl (Nat.le_of_ble_eq_true rfl) (x_X8_lodge G a0 a1 a2 a3 a4 a5 a6 h o hf)
theorem cbX8_lodge : CB yX8_lodge mX8_lodge (some .int) 6 := ⟨cd_yX8_lodge, itRX8, ⟨by decide, by decide⟩, by decide +kernel, by decide⟩
abbrev mX8_isFull : MI := (RX8, "isFull", cX8_isFull, 1, .ireturn, 0)
def f_X8_isFull (a0 : Nat) (h : AH) : Option Bool :=
  (gI 8 8 h (some a0)).bind fun v1 =>
  if v1 = (400 : Int32) then (
    some true
  ) else (
    some false
  )
theorem x_X8_isFull (G : Gm) (a0 : Nat) (h : AH) (o : Bool) (hf : f_X8_isFull a0 h = some o) : GO G mX8_isFull 0 0 0 [(0, vr (some a0))] [] h (some (vi (b2i o))) h := by
  unfold f_X8_isFull at hf
  refine g_aload_n (M := mX8_isFull) dX8_isFull_0 rfl 0 rfl ?_
  obtain ⟨v1, ev1, hf⟩ := bd hf
  refine g_getI (M := mX8_isFull) dX8_isFull_1 flRX8_89 (fun _ => rfl) ev1 ?_
  refine g_sipush (M := mX8_isFull) (v := 400) dX8_isFull_4 rfl ?_
  refine g_ic_ne (M := mX8_isFull) (tgt := 14) dX8_isFull_7 rfl (fun q7 => ?_) (fun q7 => ?_)
  · replace hf := iff_ hf q7
    refine g_iconst (M := mX8_isFull) (v := 0) dX8_isFull_14 rfl ?_
    cases hf
    exact g_ret (M := mX8_isFull) dX8_isFull_15 rfl
  · replace hf := ift hf q7
    refine g_iconst (M := mX8_isFull) (v := 1) dX8_isFull_10 rfl ?_
    refine g_goto (M := mX8_isFull) (tgt := 15) dX8_isFull_11 rfl ?_
    cases hf
    exact g_ret (M := mX8_isFull) dX8_isFull_15 rfl
theorem c_X8_isFull (G : Gm) (a0 : Nat) (h : AH) (o : Bool) (hf : f_X8_isFull a0 h = some o) : CT G yX8_isFull mX8_isFull (some .boolean) 0 0 [vr (some a0)] h (some (vi (b2i o))) h :=
  CT.bool (by decide +kernel) rfl rfl rfl (Nat.le_of_ble_eq_true rfl) (b2i_01 _) (x_X8_isFull G a0 h o hf)
theorem cbX8_isFull : CB yX8_isFull mX8_isFull (some .boolean) 0 := ⟨cd_yX8_isFull, itRX8, ⟨by decide, by decide⟩, by decide +kernel, by decide⟩
abbrev mX8_hasSign : MI := (RX8, "hasSign", cX8_hasSign, 4, .ireturn, 0)
def f_X8_hasSign_2 : Nat → Nat → Int32 → Int32 → Int32 → AH → Option Bool
  | 0, _, _, _, _, _ => none
  | n + 1, a0, a1, a2, a3, h =>
    (gI 8 8 h (some a0)).bind fun v1 =>
    if v1 ≤ a3 then (
      some false
    ) else (
      (gR 8 9 h (some a0)).bind fun v2 =>
      (lI 10 h v2 a3).bind fun v3 =>
      if v3 = 0 then (
        (gR 8 10 h (some a0)).bind fun v4 =>
        (lI 10 h v4 a3).bind fun v5 =>
        if v5 = a1 then (
          (gR 8 11 h (some a0)).bind fun v6 =>
          (lI 10 h v6 a3).bind fun v7 =>
          if v7 = a2 then (
            some true
          ) else (
            f_X8_hasSign_2 n a0 a1 a2 (a3 + (1)) h
          )
        ) else (
          f_X8_hasSign_2 n a0 a1 a2 (a3 + (1)) h
        )
      ) else (
        f_X8_hasSign_2 n a0 a1 a2 (a3 + (1)) h
      )
    )
theorem x_X8_hasSign_2 (G : Gm) : ∀ (n : Nat) (a0 : Nat) (a1 : Int32) (a2 : Int32) (a3 : Int32) (h : AH) (o : Bool), f_X8_hasSign_2 n a0 a1 a2 a3 h = some o → GO G mX8_hasSign 0 0 2 [(0, vr (some a0)), (1, vi a1), (2, vi a2), (3, vi a3)] [] h (some (vi (b2i o))) h := by
  intro n
  induction n with
  | zero => intro a0 a1 a2 a3 h o hf; cases hf
  | succ n ih =>
    intro a0 a1 a2 a3 h o hf
    rw [f_X8_hasSign_2] at hf
    refine g_iload_n (M := mX8_hasSign) dX8_hasSign_2 rfl 3 rfl ?_
    refine g_aload_n (M := mX8_hasSign) dX8_hasSign_3 rfl 0 rfl ?_
    obtain ⟨v1, ev1, hf⟩ := bd hf
    refine g_getI (M := mX8_hasSign) dX8_hasSign_4 flRX8_89 (fun _ => rfl) ev1 ?_
    refine g_ic_ge (M := mX8_hasSign) (tgt := 47) dX8_hasSign_7 rfl (fun q7 => ?_) (fun q7 => ?_)
    · replace hf := ift hf q7
      refine g_iconst (M := mX8_hasSign) (v := 0) dX8_hasSign_47 rfl ?_
      cases hf
      exact g_ret (M := mX8_hasSign) dX8_hasSign_48 rfl
    · replace hf := iff_ hf q7
      refine g_aload_n (M := mX8_hasSign) dX8_hasSign_10 rfl 0 rfl ?_
      obtain ⟨v2, ev2, hf⟩ := bd hf
      refine g_getR (M := mX8_hasSign) dX8_hasSign_11 flRX8_25 (fun _ => rfl) ev2 ?_
      refine g_iload_n (M := mX8_hasSign) dX8_hasSign_14 rfl 3 rfl ?_
      obtain ⟨v3, ev3, hf⟩ := bd hf
      refine g_iald (M := mX8_hasSign) dX8_hasSign_15 ev3 ?_
      refine g_if_ne (M := mX8_hasSign) (tgt := 41) dX8_hasSign_16 rfl (fun q16 => ?_) (fun q16 => ?_)
      · replace hf := iff_ hf q16
        refine g_iinc (M := mX8_hasSign) (j := 3) (L2 := [(3, vi (a3 + (1))), (0, vr (some a0)), (1, vi a1), (2, vi a2)]) dX8_hasSign_41 rfl rfl (Nat.le_of_ble_eq_true rfl) rfl ?_
        refine g_goto (M := mX8_hasSign) (tgt := 2) dX8_hasSign_44 rfl ?_
        exact g_sub (M := mX8_hasSign) (L2 := [(0, vr (some a0)), (1, vi a1), (2, vi a2), (3, vi (a3 + (1)))]) [1, 2, 3, 0] rfl <| ih a0 a1 a2 (a3 + (1)) h _ hf
      · replace hf := ift hf q16
        refine g_aload_n (M := mX8_hasSign) dX8_hasSign_19 rfl 0 rfl ?_
        obtain ⟨v4, ev4, hf⟩ := bd hf
        refine g_getR (M := mX8_hasSign) dX8_hasSign_20 flRX8_28 (fun _ => rfl) ev4 ?_
        refine g_iload_n (M := mX8_hasSign) dX8_hasSign_23 rfl 3 rfl ?_
        obtain ⟨v5, ev5, hf⟩ := bd hf
        refine g_iald (M := mX8_hasSign) dX8_hasSign_24 ev5 ?_
        refine g_iload_n (M := mX8_hasSign) dX8_hasSign_25 rfl 1 rfl ?_
        refine g_ic_ne (M := mX8_hasSign) (tgt := 41) dX8_hasSign_26 rfl (fun q26 => ?_) (fun q26 => ?_)
        · replace hf := iff_ hf q26
          refine g_iinc (M := mX8_hasSign) (j := 3) (L2 := [(3, vi (a3 + (1))), (0, vr (some a0)), (1, vi a1), (2, vi a2)]) dX8_hasSign_41 rfl rfl (Nat.le_of_ble_eq_true rfl) rfl ?_
          refine g_goto (M := mX8_hasSign) (tgt := 2) dX8_hasSign_44 rfl ?_
          exact g_sub (M := mX8_hasSign) (L2 := [(0, vr (some a0)), (1, vi a1), (2, vi a2), (3, vi (a3 + (1)))]) [1, 2, 3, 0] rfl <| ih a0 a1 a2 (a3 + (1)) h _ hf
        · replace hf := ift hf q26
          refine g_aload_n (M := mX8_hasSign) dX8_hasSign_29 rfl 0 rfl ?_
          obtain ⟨v6, ev6, hf⟩ := bd hf
          refine g_getR (M := mX8_hasSign) dX8_hasSign_30 flRX8_31 (fun _ => rfl) ev6 ?_
          refine g_iload_n (M := mX8_hasSign) dX8_hasSign_33 rfl 3 rfl ?_
          obtain ⟨v7, ev7, hf⟩ := bd hf
          refine g_iald (M := mX8_hasSign) dX8_hasSign_34 ev7 ?_
          refine g_iload_n (M := mX8_hasSign) dX8_hasSign_35 rfl 2 rfl ?_
          refine g_ic_ne (M := mX8_hasSign) (tgt := 41) dX8_hasSign_36 rfl (fun q36 => ?_) (fun q36 => ?_)
          · replace hf := iff_ hf q36
            refine g_iinc (M := mX8_hasSign) (j := 3) (L2 := [(3, vi (a3 + (1))), (0, vr (some a0)), (1, vi a1), (2, vi a2)]) dX8_hasSign_41 rfl rfl (Nat.le_of_ble_eq_true rfl) rfl ?_
            refine g_goto (M := mX8_hasSign) (tgt := 2) dX8_hasSign_44 rfl ?_
            exact g_sub (M := mX8_hasSign) (L2 := [(0, vr (some a0)), (1, vi a1), (2, vi a2), (3, vi (a3 + (1)))]) [1, 2, 3, 0] rfl <| ih a0 a1 a2 (a3 + (1)) h _ hf
          · replace hf := ift hf q36
            refine g_iconst (M := mX8_hasSign) (v := 1) dX8_hasSign_39 rfl ?_
            cases hf
            exact g_ret (M := mX8_hasSign) dX8_hasSign_40 rfl
def f_X8_hasSign (a0 : Nat) (a1 : Int32) (a2 : Int32) (h : AH) : Option Bool :=
  f_X8_hasSign_2 FU a0 a1 a2 (0 : Int32) h
theorem x_X8_hasSign (G : Gm) (a0 : Nat) (a1 : Int32) (a2 : Int32) (h : AH) (o : Bool) (hf : f_X8_hasSign a0 a1 a2 h = some o) : GO G mX8_hasSign 0 0 0 [(0, vr (some a0)), (1, vi a1), (2, vi a2)] [] h (some (vi (b2i o))) h := by
  unfold f_X8_hasSign at hf
  refine g_iconst (M := mX8_hasSign) (v := 0) dX8_hasSign_0 rfl ?_
  refine g_istore_n (M := mX8_hasSign) (L2 := [(3, vi (0 : Int32)), (0, vr (some a0)), (1, vi a1), (2, vi a2)]) dX8_hasSign_1 rfl (Nat.le_of_ble_eq_true rfl) rfl ?_
  exact g_sub (M := mX8_hasSign) (L2 := [(0, vr (some a0)), (1, vi a1), (2, vi a2), (3, vi (0 : Int32))]) [1, 2, 3, 0] rfl <| x_X8_hasSign_2 G FU a0 a1 a2 (0 : Int32) h _ hf
theorem c_X8_hasSign (G : Gm) (a0 : Nat) (a1 : Int32) (a2 : Int32) (h : AH) (o : Bool) (hf : f_X8_hasSign a0 a1 a2 h = some o) : CT G yX8_hasSign mX8_hasSign (some .boolean) 0 0 [vr (some a0), vi a1, vi a2] h (some (vi (b2i o))) h :=
  CT.bool (by decide +kernel) rfl rfl rfl (Nat.le_of_ble_eq_true rfl) (b2i_01 _) (x_X8_hasSign G a0 a1 a2 h o hf)
theorem cbX8_hasSign : CB yX8_hasSign mX8_hasSign (some .boolean) 2 := ⟨cd_yX8_hasSign, itRX8, ⟨by decide, by decide⟩, by decide +kernel, by decide⟩
abbrev mX8_sign : MI := (RX8, "sign", cX8_sign, 3, .ireturn, 1)
def f_X8_sign (a0 : Nat) (a1 : Int32) (a2 : Int32) (h : AH) : Option (Int32 × AH) :=
  (ck 8 h (some a0)).bind fun b1 =>
  (f_X8_isParty b1 a1 h).bind fun r2 =>
  if (b2i r2) = 0 then (
    some ((-2 : Int32), h)
  ) else (
    (ck 8 h (some a0)).bind fun b3 =>
    (f_X8_isAgreement b3 a2 h).bind fun r4 =>
    if (b2i r4) = 0 then (
      some ((-2 : Int32), h)
    ) else (
      (ck 8 h (some a0)).bind fun b5 =>
      (f_X8_isFull b5 h).bind fun r6 =>
      if (b2i r6) = 0 then (
        (ck 8 h (some a0)).bind fun b7 =>
        (f_X8_hasSign b7 a1 a2 h).bind fun r8 =>
        if (b2i r8) = 0 then (
          (ck 8 h (some a0)).bind fun b9 =>
          (f_X8_lodge b9 (0 : Int32) a1 a2 (0 : Int32) (-1 : Int32) (-1 : Int32) h).bind fun r10 =>
          some (r10.1, r10.2)
        ) else (
          some ((-4 : Int32), h)
        )
      ) else (
        some ((-8 : Int32), h)
      )
    )
  )
theorem x_X8_sign (G : Gm) (a0 : Nat) (a1 : Int32) (a2 : Int32) (h : AH) (o : (Int32 × AH)) (hf : f_X8_sign a0 a1 a2 h = some o) : GO G mX8_sign 0 0 0 [(0, vr (some a0)), (1, vi a1), (2, vi a2)] [] h (some (vi o.1)) o.2 := by
  unfold f_X8_sign at hf
  refine g_aload_n (M := mX8_sign) dX8_sign_0 rfl 0 rfl ?_
  refine g_iload_n (M := mX8_sign) dX8_sign_1 rfl 1 rfl ?_
  obtain ⟨b1, eb1, hf⟩ := bd hf
  obtain ⟨r2, er2, hf⟩ := bd hf
  refine g_callV (M := mX8_sign) (kc := 0) (ks := 0) (as := [vi a1]) (rest := []) dX8_sign_2 cbX8_isParty vwRX8_115 rfl eb1 rfl (Nat.le_of_ble_eq_true rfl) (Nat.le_of_ble_eq_true rfl) (c_X8_isParty G b1 a1 h r2 er2) ?_
  refine g_if_eq (M := mX8_sign) (tgt := 16) dX8_sign_5 rfl (fun q5 => ?_) (fun q5 => ?_)
  · replace hf := ift hf q5
    refine g_bipush (M := mX8_sign) (v := -2) dX8_sign_16 rfl ?_
    cases hf
    exact g_ret (M := mX8_sign) dX8_sign_18 rfl
  · replace hf := iff_ hf q5
    refine g_aload_n (M := mX8_sign) dX8_sign_8 rfl 0 rfl ?_
    refine g_iload_n (M := mX8_sign) dX8_sign_9 rfl 2 rfl ?_
    obtain ⟨b3, eb3, hf⟩ := bd hf
    obtain ⟨r4, er4, hf⟩ := bd hf
    refine g_callV (M := mX8_sign) (kc := 0) (ks := 0) (as := [vi a2]) (rest := []) dX8_sign_10 cbX8_isAgreement vwRX8_85 rfl eb3 rfl (Nat.le_of_ble_eq_true rfl) (Nat.le_of_ble_eq_true rfl) (c_X8_isAgreement G b3 a2 h r4 er4) ?_
    refine g_if_ne (M := mX8_sign) (tgt := 19) dX8_sign_13 rfl (fun q13 => ?_) (fun q13 => ?_)
    · replace hf := iff_ hf q13
      refine g_aload_n (M := mX8_sign) dX8_sign_19 rfl 0 rfl ?_
      obtain ⟨b5, eb5, hf⟩ := bd hf
      obtain ⟨r6, er6, hf⟩ := bd hf
      refine g_callV (M := mX8_sign) (kc := 0) (ks := 0) (as := []) (rest := []) dX8_sign_20 cbX8_isFull vwRX8_118 rfl eb5 rfl (Nat.le_of_ble_eq_true rfl) (Nat.le_of_ble_eq_true rfl) (c_X8_isFull G b5 h r6 er6) ?_
      refine g_if_eq (M := mX8_sign) (tgt := 29) dX8_sign_23 rfl (fun q23 => ?_) (fun q23 => ?_)
      · replace hf := ift hf q23
        refine g_aload_n (M := mX8_sign) dX8_sign_29 rfl 0 rfl ?_
        refine g_iload_n (M := mX8_sign) dX8_sign_30 rfl 1 rfl ?_
        refine g_iload_n (M := mX8_sign) dX8_sign_31 rfl 2 rfl ?_
        obtain ⟨b7, eb7, hf⟩ := bd hf
        obtain ⟨r8, er8, hf⟩ := bd hf
        refine g_callV (M := mX8_sign) (kc := 0) (ks := 0) (as := [vi a1, vi a2]) (rest := []) dX8_sign_32 cbX8_hasSign vwRX8_122 rfl eb7 rfl (Nat.le_of_ble_eq_true rfl) (Nat.le_of_ble_eq_true rfl) (c_X8_hasSign G b7 a1 a2 h r8 er8) ?_
        refine g_if_eq (M := mX8_sign) (tgt := 43) dX8_sign_35 rfl (fun q35 => ?_) (fun q35 => ?_)
        · replace hf := ift hf q35
          refine g_aload_n (M := mX8_sign) dX8_sign_43 rfl 0 rfl ?_
          refine g_iconst (M := mX8_sign) (v := 0) dX8_sign_44 rfl ?_
          refine g_iload_n (M := mX8_sign) dX8_sign_45 rfl 1 rfl ?_
          refine g_iload_n (M := mX8_sign) dX8_sign_46 rfl 2 rfl ?_
          refine g_iconst (M := mX8_sign) (v := 0) dX8_sign_47 rfl ?_
          refine g_iconst (M := mX8_sign) (v := -1) dX8_sign_48 rfl ?_
          refine g_iconst (M := mX8_sign) (v := -1) dX8_sign_49 rfl ?_
          obtain ⟨b9, eb9, hf⟩ := bd hf
          obtain ⟨r10, er10, hf⟩ := bd hf
          refine g_callV (M := mX8_sign) (kc := 0) (ks := 0) (as := [vi (0 : Int32), vi a1, vi a2, vi (0 : Int32), vi (-1 : Int32), vi (-1 : Int32)]) (rest := []) dX8_sign_50 cbX8_lodge vwRX8_125 rfl eb9 rfl (Nat.le_of_ble_eq_true rfl) (Nat.le_of_ble_eq_true rfl) (c_X8_lodge G b9 (0 : Int32) a1 a2 (0 : Int32) (-1 : Int32) (-1 : Int32) h r10 er10) ?_
          cases hf
          exact g_ret (M := mX8_sign) dX8_sign_53 rfl
        · replace hf := iff_ hf q35
          refine g_bipush (M := mX8_sign) (v := -4) dX8_sign_38 rfl ?_
          refine g_goto (M := mX8_sign) (tgt := 53) dX8_sign_40 rfl ?_
          cases hf
          exact g_ret (M := mX8_sign) dX8_sign_53 rfl
      · replace hf := iff_ hf q23
        refine g_bipush (M := mX8_sign) (v := -8) dX8_sign_26 rfl ?_
        cases hf
        exact g_ret (M := mX8_sign) dX8_sign_28 rfl
    · replace hf := ift hf q13
      refine g_bipush (M := mX8_sign) (v := -2) dX8_sign_16 rfl ?_
      cases hf
      exact g_ret (M := mX8_sign) dX8_sign_18 rfl
theorem c_X8_sign (G : Gm) (a0 : Nat) (a1 : Int32) (a2 : Int32) (h : AH) (o : (Int32 × AH)) (hf : f_X8_sign a0 a1 a2 h = some o) : CT G yX8_sign mX8_sign (some .int) 0 0 [vr (some a0), vi a1, vi a2] h (some (vi o.1)) o.2 :=
  CT.int (by decide +kernel) rfl rfl rfl (Nat.le_of_ble_eq_true rfl) (x_X8_sign G a0 a1 a2 h o hf)
theorem cbX8_sign : CB yX8_sign mX8_sign (some .int) 2 := ⟨cd_yX8_sign, itRX8, ⟨by decide, by decide⟩, by decide +kernel, by decide⟩
abbrev mX8_ratify : MI := (RX8, "ratify", cX8_ratify, 3, .ireturn, 2)
def f_X8_ratify (a0 : Nat) (a1 : Int32) (a2 : Int32) (h : AH) : Option (Int32 × AH) :=
  (ck 8 h (some a0)).bind fun b1 =>
  (f_X8_isParty b1 a1 h).bind fun r2 =>
  if (b2i r2) = 0 then (
    some ((-2 : Int32), h)
  ) else (
    (ck 8 h (some a0)).bind fun b3 =>
    (f_X8_isAgreement b3 a2 h).bind fun r4 =>
    if (b2i r4) = 0 then (
      some ((-2 : Int32), h)
    ) else (
      (ck 8 h (some a0)).bind fun b5 =>
      (f_X8_isFull b5 h).bind fun r6 =>
      if (b2i r6) = 0 then (
        (ck 8 h (some a0)).bind fun b7 =>
        (f_X8_hasSign b7 a1 a2 h).bind fun r8 =>
        if (b2i r8) = 0 then (
          some ((-5 : Int32), h)
        ) else (
          (ck 8 h (some a0)).bind fun b9 =>
          (f_X8_belongs b9 a1 a2 h).bind fun r10 =>
          if r10 = (-1 : Int32) then (
            (gR 8 5 h (some a0)).bind fun v11 =>
            (lI 10 h v11 a2).bind fun v12 =>
            (ck 8 h (some a0)).bind fun b13 =>
            (f_X8_lodge b13 (1 : Int32) a1 a2 v12 (-1 : Int32) (-1 : Int32) h).bind fun r14 =>
            some (r14.1, r14.2)
          ) else (
            some ((-4 : Int32), h)
          )
        )
      ) else (
        some ((-8 : Int32), h)
      )
    )
  )
theorem x_X8_ratify (G : Gm) (a0 : Nat) (a1 : Int32) (a2 : Int32) (h : AH) (o : (Int32 × AH)) (hf : f_X8_ratify a0 a1 a2 h = some o) : GO G mX8_ratify 0 0 0 [(0, vr (some a0)), (1, vi a1), (2, vi a2)] [] h (some (vi o.1)) o.2 := by
  unfold f_X8_ratify at hf
  refine g_aload_n (M := mX8_ratify) dX8_ratify_0 rfl 0 rfl ?_
  refine g_iload_n (M := mX8_ratify) dX8_ratify_1 rfl 1 rfl ?_
  obtain ⟨b1, eb1, hf⟩ := bd hf
  obtain ⟨r2, er2, hf⟩ := bd hf
  refine g_callV (M := mX8_ratify) (kc := 0) (ks := 0) (as := [vi a1]) (rest := []) dX8_ratify_2 cbX8_isParty vwRX8_115 rfl eb1 rfl (Nat.le_of_ble_eq_true rfl) (Nat.le_of_ble_eq_true rfl) (c_X8_isParty G b1 a1 h r2 er2) ?_
  refine g_if_eq (M := mX8_ratify) (tgt := 16) dX8_ratify_5 rfl (fun q5 => ?_) (fun q5 => ?_)
  · replace hf := ift hf q5
    refine g_bipush (M := mX8_ratify) (v := -2) dX8_ratify_16 rfl ?_
    cases hf
    exact g_ret (M := mX8_ratify) dX8_ratify_18 rfl
  · replace hf := iff_ hf q5
    refine g_aload_n (M := mX8_ratify) dX8_ratify_8 rfl 0 rfl ?_
    refine g_iload_n (M := mX8_ratify) dX8_ratify_9 rfl 2 rfl ?_
    obtain ⟨b3, eb3, hf⟩ := bd hf
    obtain ⟨r4, er4, hf⟩ := bd hf
    refine g_callV (M := mX8_ratify) (kc := 0) (ks := 0) (as := [vi a2]) (rest := []) dX8_ratify_10 cbX8_isAgreement vwRX8_85 rfl eb3 rfl (Nat.le_of_ble_eq_true rfl) (Nat.le_of_ble_eq_true rfl) (c_X8_isAgreement G b3 a2 h r4 er4) ?_
    refine g_if_ne (M := mX8_ratify) (tgt := 19) dX8_ratify_13 rfl (fun q13 => ?_) (fun q13 => ?_)
    · replace hf := iff_ hf q13
      refine g_aload_n (M := mX8_ratify) dX8_ratify_19 rfl 0 rfl ?_
      obtain ⟨b5, eb5, hf⟩ := bd hf
      obtain ⟨r6, er6, hf⟩ := bd hf
      refine g_callV (M := mX8_ratify) (kc := 0) (ks := 0) (as := []) (rest := []) dX8_ratify_20 cbX8_isFull vwRX8_118 rfl eb5 rfl (Nat.le_of_ble_eq_true rfl) (Nat.le_of_ble_eq_true rfl) (c_X8_isFull G b5 h r6 er6) ?_
      refine g_if_eq (M := mX8_ratify) (tgt := 29) dX8_ratify_23 rfl (fun q23 => ?_) (fun q23 => ?_)
      · replace hf := ift hf q23
        refine g_aload_n (M := mX8_ratify) dX8_ratify_29 rfl 0 rfl ?_
        refine g_iload_n (M := mX8_ratify) dX8_ratify_30 rfl 1 rfl ?_
        refine g_iload_n (M := mX8_ratify) dX8_ratify_31 rfl 2 rfl ?_
        obtain ⟨b7, eb7, hf⟩ := bd hf
        obtain ⟨r8, er8, hf⟩ := bd hf
        refine g_callV (M := mX8_ratify) (kc := 0) (ks := 0) (as := [vi a1, vi a2]) (rest := []) dX8_ratify_32 cbX8_hasSign vwRX8_122 rfl eb7 rfl (Nat.le_of_ble_eq_true rfl) (Nat.le_of_ble_eq_true rfl) (c_X8_hasSign G b7 a1 a2 h r8 er8) ?_
        refine g_if_ne (M := mX8_ratify) (tgt := 41) dX8_ratify_35 rfl (fun q35 => ?_) (fun q35 => ?_)
        · replace hf := iff_ hf q35
          refine g_aload_n (M := mX8_ratify) dX8_ratify_41 rfl 0 rfl ?_
          refine g_iload_n (M := mX8_ratify) dX8_ratify_42 rfl 1 rfl ?_
          refine g_iload_n (M := mX8_ratify) dX8_ratify_43 rfl 2 rfl ?_
          obtain ⟨b9, eb9, hf⟩ := bd hf
          obtain ⟨r10, er10, hf⟩ := bd hf
          refine g_callV (M := mX8_ratify) (kc := 0) (ks := 0) (as := [vi a1, vi a2]) (rest := []) dX8_ratify_44 cbX8_belongs vwRX8_129 rfl eb9 rfl (Nat.le_of_ble_eq_true rfl) (Nat.le_of_ble_eq_true rfl) (c_X8_belongs G b9 a1 a2 h r10 er10) ?_
          refine g_iconst (M := mX8_ratify) (v := -1) dX8_ratify_47 rfl ?_
          refine g_ic_eq (M := mX8_ratify) (tgt := 56) dX8_ratify_48 rfl (fun q48 => ?_) (fun q48 => ?_)
          · replace hf := ift hf q48
            refine g_aload_n (M := mX8_ratify) dX8_ratify_56 rfl 0 rfl ?_
            refine g_iconst (M := mX8_ratify) (v := 1) dX8_ratify_57 rfl ?_
            refine g_iload_n (M := mX8_ratify) dX8_ratify_58 rfl 1 rfl ?_
            refine g_iload_n (M := mX8_ratify) dX8_ratify_59 rfl 2 rfl ?_
            refine g_aload_n (M := mX8_ratify) dX8_ratify_60 rfl 0 rfl ?_
            obtain ⟨v11, ev11, hf⟩ := bd hf
            refine g_getR (M := mX8_ratify) dX8_ratify_61 flRX8_16 (fun _ => rfl) ev11 ?_
            refine g_iload_n (M := mX8_ratify) dX8_ratify_64 rfl 2 rfl ?_
            obtain ⟨v12, ev12, hf⟩ := bd hf
            refine g_iald (M := mX8_ratify) dX8_ratify_65 ev12 ?_
            refine g_iconst (M := mX8_ratify) (v := -1) dX8_ratify_66 rfl ?_
            refine g_iconst (M := mX8_ratify) (v := -1) dX8_ratify_67 rfl ?_
            obtain ⟨b13, eb13, hf⟩ := bd hf
            obtain ⟨r14, er14, hf⟩ := bd hf
            refine g_callV (M := mX8_ratify) (kc := 0) (ks := 0) (as := [vi (1 : Int32), vi a1, vi a2, vi v12, vi (-1 : Int32), vi (-1 : Int32)]) (rest := []) dX8_ratify_68 cbX8_lodge vwRX8_125 rfl eb13 rfl (Nat.le_of_ble_eq_true rfl) (Nat.le_of_ble_eq_true rfl) (c_X8_lodge G b13 (1 : Int32) a1 a2 v12 (-1 : Int32) (-1 : Int32) h r14 er14) ?_
            cases hf
            exact g_ret (M := mX8_ratify) dX8_ratify_71 rfl
          · replace hf := iff_ hf q48
            refine g_bipush (M := mX8_ratify) (v := -4) dX8_ratify_51 rfl ?_
            refine g_goto (M := mX8_ratify) (tgt := 71) dX8_ratify_53 rfl ?_
            cases hf
            exact g_ret (M := mX8_ratify) dX8_ratify_71 rfl
        · replace hf := ift hf q35
          refine g_bipush (M := mX8_ratify) (v := -5) dX8_ratify_38 rfl ?_
          cases hf
          exact g_ret (M := mX8_ratify) dX8_ratify_40 rfl
      · replace hf := iff_ hf q23
        refine g_bipush (M := mX8_ratify) (v := -8) dX8_ratify_26 rfl ?_
        cases hf
        exact g_ret (M := mX8_ratify) dX8_ratify_28 rfl
    · replace hf := ift hf q13
      refine g_bipush (M := mX8_ratify) (v := -2) dX8_ratify_16 rfl ?_
      cases hf
      exact g_ret (M := mX8_ratify) dX8_ratify_18 rfl
theorem c_X8_ratify (G : Gm) (a0 : Nat) (a1 : Int32) (a2 : Int32) (h : AH) (o : (Int32 × AH)) (hf : f_X8_ratify a0 a1 a2 h = some o) : CT G yX8_ratify mX8_ratify (some .int) 0 0 [vr (some a0), vi a1, vi a2] h (some (vi o.1)) o.2 :=
  CT.int (by decide +kernel) rfl rfl rfl (Nat.le_of_ble_eq_true rfl) (x_X8_ratify G a0 a1 a2 h o hf)
theorem cbX8_ratify : CB yX8_ratify mX8_ratify (some .int) 2 := ⟨cd_yX8_ratify, itRX8, ⟨by decide, by decide⟩, by decide +kernel, by decide⟩
