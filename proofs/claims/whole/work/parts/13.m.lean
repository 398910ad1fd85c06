abbrev mX2_findStrongObjection : MI := (RX2, "findStrongObjection", cX2_findStrongObjection, 4, .return_, 2)
def f_X2_findStrongObjection_2 : Nat → Nat → Option Nat → Int32 → AH → Option AH
  | 0, _, _, _, _ => none
  | n + 1, a0, a1, a2, h =>
    (gI 4 1 h a1).bind fun v1 =>
    if v1 ≤ a2 then (
      some h
    ) else (
      (gR 2 7 h (some a0)).bind fun v2 =>
      if v2 = none then (
        (ck 4 h a1).bind fun b3 =>
        (f_X4_at b3 a2 h).bind fun r4 =>
        if r4 = none then (
          f_X2_findStrongObjection_2 n a0 a1 (a2 + (1)) h
        ) else (
          (gI 3 1 h r4).bind fun v5 =>
          if v5 = (4 : Int32) then (
            (gI 3 10 h r4).bind fun v6 =>
            if v6 = 0 then (
              (ck 2 h (some a0)).bind fun b7 =>
              (f_X2_dividesThem b7 r4 h).bind fun r8 =>
              if (b2i r8) = 0 then (
                f_X2_findStrongObjection_2 n a0 a1 (a2 + (1)) h
              ) else (
                (pR 2 7 h (some a0) r4).bind fun h9 =>
                f_X2_findStrongObjection_2 n a0 a1 (a2 + (1)) h9
              )
            ) else (
              f_X2_findStrongObjection_2 n a0 a1 (a2 + (1)) h
            )
          ) else (
            f_X2_findStrongObjection_2 n a0 a1 (a2 + (1)) h
          )
        )
      ) else (
        some h
      )
    )
theorem x_X2_findStrongObjection_2 (G : Gm) : ∀ (n : Nat) (a0 : Nat) (a1 : Option Nat) (a2 : Int32) (h : AH) (o : AH), f_X2_findStrongObjection_2 n a0 a1 a2 h = some o → GO G mX2_findStrongObjection 0 0 2 [(0, vr (some a0)), (1, vr a1), (2, vi a2)] [] h none o := by
  intro n
  induction n with
  | zero => intro a0 a1 a2 h o hf; cases hf
  | succ n ih =>
    intro a0 a1 a2 h o hf
    rw [f_X2_findStrongObjection_2] at hf
    refine g_iload_n (M := mX2_findStrongObjection) dX2_findStrongObjection_2 rfl 2 rfl ?_
    refine g_aload_n (M := mX2_findStrongObjection) dX2_findStrongObjection_3 rfl 1 rfl ?_
    obtain ⟨v1, ev1, hf⟩ := bd hf
    refine g_getI (M := mX2_findStrongObjection) dX2_findStrongObjection_4 flRX2_102 (fun _ => rfl) ev1 ?_
    refine g_ic_ge (M := mX2_findStrongObjection) (tgt := 61) dX2_findStrongObjection_7 rfl (fun q7 => ?_) (fun q7 => ?_)
    · replace hf := ift hf q7
      cases hf
      exact g_ret (M := mX2_findStrongObjection) dX2_findStrongObjection_61 rfl
    · replace hf := iff_ hf q7
      refine g_aload_n (M := mX2_findStrongObjection) dX2_findStrongObjection_10 rfl 0 rfl ?_
      obtain ⟨v2, ev2, hf⟩ := bd hf
      refine g_getR (M := mX2_findStrongObjection) dX2_findStrongObjection_11 flRX2_60 (fun _ => rfl) ev2 ?_
      refine g_ifnonnull (M := mX2_findStrongObjection) (tgt := 61) dX2_findStrongObjection_14 rfl (fun q14 => ?_) (fun q14 => ?_)
      · replace hf := iff_ hf q14
        cases hf
        exact g_ret (M := mX2_findStrongObjection) dX2_findStrongObjection_61 rfl
      · replace hf := ift hf q14
        refine g_aload_n (M := mX2_findStrongObjection) dX2_findStrongObjection_17 rfl 1 rfl ?_
        refine g_iload_n (M := mX2_findStrongObjection) dX2_findStrongObjection_18 rfl 2 rfl ?_
        obtain ⟨b3, eb3, hf⟩ := bd hf
        obtain ⟨r4, er4, hf⟩ := bd hf
        refine g_callV (M := mX2_findStrongObjection) (kc := 0) (ks := 0) (as := [vi a2]) (rest := []) dX2_findStrongObjection_19 cbX4_at vwRX2_105 rfl eb3 rfl (Nat.le_of_ble_eq_true rfl) (Nat.le_of_ble_eq_true rfl) (c_X4_at G b3 a2 h r4 er4) ?_
        refine g_astore_n (M := mX2_findStrongObjection) (L2 := [(3, vr r4), (0, vr (some a0)), (1, vr a1), (2, vi a2)]) dX2_findStrongObjection_22 rfl (Nat.le_of_ble_eq_true rfl) rfl ?_
        refine g_aload_n (M := mX2_findStrongObjection) dX2_findStrongObjection_23 rfl 0 rfl ?_
        refine g_ifnull (M := mX2_findStrongObjection) (tgt := 55) dX2_findStrongObjection_24 rfl (fun q24 => ?_) (fun q24 => ?_)
        · replace hf := ift hf q24
          refine g_iinc (M := mX2_findStrongObjection) (j := 3) (L2 := [(2, vi (a2 + (1))), (3, vr r4), (0, vr (some a0)), (1, vr a1)]) dX2_findStrongObjection_55 rfl rfl (Nat.le_of_ble_eq_true rfl) rfl ?_
          refine g_goto (M := mX2_findStrongObjection) (tgt := 2) dX2_findStrongObjection_58 rfl ?_
          exact g_sub (M := mX2_findStrongObjection) (L2 := [(0, vr (some a0)), (1, vr a1), (2, vi (a2 + (1)))]) [2, 3, 0] rfl <| ih a0 a1 (a2 + (1)) h _ hf
        · replace hf := iff_ hf q24
          refine g_aload_n (M := mX2_findStrongObjection) dX2_findStrongObjection_27 rfl 0 rfl ?_
          obtain ⟨v5, ev5, hf⟩ := bd hf
          refine g_getI (M := mX2_findStrongObjection) dX2_findStrongObjection_28 flRX2_106 (fun _ => rfl) ev5 ?_
          refine g_iconst (M := mX2_findStrongObjection) (v := 4) dX2_findStrongObjection_31 rfl ?_
          refine g_ic_ne (M := mX2_findStrongObjection) (tgt := 55) dX2_findStrongObjection_32 rfl (fun q32 => ?_) (fun q32 => ?_)
          · replace hf := iff_ hf q32
            refine g_iinc (M := mX2_findStrongObjection) (j := 3) (L2 := [(2, vi (a2 + (1))), (3, vr r4), (0, vr (some a0)), (1, vr a1)]) dX2_findStrongObjection_55 rfl rfl (Nat.le_of_ble_eq_true rfl) rfl ?_
            refine g_goto (M := mX2_findStrongObjection) (tgt := 2) dX2_findStrongObjection_58 rfl ?_
            exact g_sub (M := mX2_findStrongObjection) (L2 := [(0, vr (some a0)), (1, vr a1), (2, vi (a2 + (1)))]) [2, 3, 0] rfl <| ih a0 a1 (a2 + (1)) h _ hf
          · replace hf := ift hf q32
            refine g_aload_n (M := mX2_findStrongObjection) dX2_findStrongObjection_35 rfl 0 rfl ?_
            obtain ⟨v6, ev6, hf⟩ := bd hf
            refine g_getI (M := mX2_findStrongObjection) dX2_findStrongObjection_36 flRX2_109 (fun _ => rfl) ev6 ?_
            refine g_if_ne (M := mX2_findStrongObjection) (tgt := 55) dX2_findStrongObjection_39 rfl (fun q39 => ?_) (fun q39 => ?_)
            · replace hf := iff_ hf q39
              refine g_iinc (M := mX2_findStrongObjection) (j := 3) (L2 := [(2, vi (a2 + (1))), (3, vr r4), (0, vr (some a0)), (1, vr a1)]) dX2_findStrongObjection_55 rfl rfl (Nat.le_of_ble_eq_true rfl) rfl ?_
              refine g_goto (M := mX2_findStrongObjection) (tgt := 2) dX2_findStrongObjection_58 rfl ?_
              exact g_sub (M := mX2_findStrongObjection) (L2 := [(0, vr (some a0)), (1, vr a1), (2, vi (a2 + (1)))]) [2, 3, 0] rfl <| ih a0 a1 (a2 + (1)) h _ hf
            · replace hf := ift hf q39
              refine g_aload_n (M := mX2_findStrongObjection) dX2_findStrongObjection_42 rfl 1 rfl ?_
              refine g_aload_n (M := mX2_findStrongObjection) dX2_findStrongObjection_43 rfl 0 rfl ?_
              obtain ⟨b7, eb7, hf⟩ := bd hf
              obtain ⟨r8, er8, hf⟩ := bd hf
              refine g_callV (M := mX2_findStrongObjection) (kc := 0) (ks := 0) (as := [vr r4]) (rest := []) dX2_findStrongObjection_44 cbX2_dividesThem vwRX2_113 rfl eb7 rfl (Nat.le_of_ble_eq_true rfl) (Nat.le_of_ble_eq_true rfl) (c_X2_dividesThem G b7 r4 h r8 er8) ?_
              refine g_if_eq (M := mX2_findStrongObjection) (tgt := 55) dX2_findStrongObjection_47 rfl (fun q47 => ?_) (fun q47 => ?_)
              · replace hf := ift hf q47
                refine g_iinc (M := mX2_findStrongObjection) (j := 3) (L2 := [(2, vi (a2 + (1))), (3, vr r4), (0, vr (some a0)), (1, vr a1)]) dX2_findStrongObjection_55 rfl rfl (Nat.le_of_ble_eq_true rfl) rfl ?_
                refine g_goto (M := mX2_findStrongObjection) (tgt := 2) dX2_findStrongObjection_58 rfl ?_
                exact g_sub (M := mX2_findStrongObjection) (L2 := [(0, vr (some a0)), (1, vr a1), (2, vi (a2 + (1)))]) [2, 3, 0] rfl <| ih a0 a1 (a2 + (1)) h _ hf
              · replace hf := iff_ hf q47
                refine g_aload_n (M := mX2_findStrongObjection) dX2_findStrongObjection_50 rfl 1 rfl ?_
                refine g_aload_n (M := mX2_findStrongObjection) dX2_findStrongObjection_51 rfl 0 rfl ?_
                obtain ⟨h9, eh9, hf⟩ := bd hf
                refine g_putR (M := mX2_findStrongObjection) dX2_findStrongObjection_52 flRX2_60 (Or.inl ⟨_, rfl⟩) eh9 ?_
                refine g_iinc (M := mX2_findStrongObjection) (j := 3) (L2 := [(2, vi (a2 + (1))), (3, vr r4), (0, vr (some a0)), (1, vr a1)]) dX2_findStrongObjection_55 rfl rfl (Nat.le_of_ble_eq_true rfl) rfl ?_
                refine g_goto (M := mX2_findStrongObjection) (tgt := 2) dX2_findStrongObjection_58 rfl ?_
                exact g_sub (M := mX2_findStrongObjection) (L2 := [(0, vr (some a0)), (1, vr a1), (2, vi (a2 + (1)))]) [2, 3, 0] rfl <| ih a0 a1 (a2 + (1)) h9 _ hf
def f_X2_findStrongObjection (a0 : Nat) (a1 : Option Nat) (h : AH) : Option AH :=
  f_X2_findStrongObjection_2 FU a0 a1 (0 : Int32) h
theorem x_X2_findStrongObjection (G : Gm) (a0 : Nat) (a1 : Option Nat) (h : AH) (o : AH) (hf : f_X2_findStrongObjection a0 a1 h = some o) : GO G mX2_findStrongObjection 0 0 0 [(0, vr (some a0)), (1, vr a1)] [] h none o := by
  unfold f_X2_findStrongObjection at hf
  refine g_iconst (M := mX2_findStrongObjection) (v := 0) dX2_findStrongObjection_0 rfl ?_
  refine g_istore_n (M := mX2_findStrongObjection) (L2 := [(2, vi (0 : Int32)), (0, vr (some a0)), (1, vr a1)]) dX2_findStrongObjection_1 rfl (Nat.le_of_ble_eq_true rfl) rfl ?_
  exact g_sub (M := mX2_findStrongObjection) (L2 := [(0, vr (some a0)), (1, vr a1), (2, vi (0 : Int32))]) [1, 2, 0] rfl <| x_X2_findStrongObjection_2 G FU a0 a1 (0 : Int32) h _ hf
theorem c_X2_findStrongObjection (G : Gm) (a0 : Nat) (a1 : Option Nat) (h : AH) (o : AH) (hf : f_X2_findStrongObjection a0 a1 h = some o) : CT G yX2_findStrongObjection mX2_findStrongObjection none 0 0 [vr (some a0), vr a1] h none o :=
  CT.void (by decide +kernel) rfl rfl rfl (Nat.le_of_ble_eq_true rfl) (x_X2_findStrongObjection G a0 a1 h o hf)
theorem cbX2_findStrongObjection : CB yX2_findStrongObjection mX2_findStrongObjection none 1 := ⟨cd_yX2_findStrongObjection, itRX2, ⟨by decide, by decide⟩, by decide +kernel, by decide⟩
abbrev mX6_hasReserve : MI := (RX6, "hasReserve", cX6_hasReserve, 3, .ireturn, 1)
def f_X6_hasReserve (a0 : Nat) (a1 : Option Nat) (a2 : Int32) (h : AH) : Option Bool :=
  (gI 3 1 h a1).bind fun v1 =>
  if v1 = (3 : Int32) then (
    (gI 3 8 h a1).bind fun v2 =>
    if v2 = a2 then (
      (ck 6 h (some a0)).bind fun b3 =>
      (f_X6_hasPaper b3 a1 h).bind fun r4 =>
      if (b2i r4) = 0 then (
        some false
      ) else (
        some true
      )
    ) else (
      some false
    )
  ) else (
    some false
  )
theorem x_X6_hasReserve (G : Gm) (a0 : Nat) (a1 : Option Nat) (a2 : Int32) (h : AH) (o : Bool) (hf : f_X6_hasReserve a0 a1 a2 h = some o) : GO G mX6_hasReserve 0 0 0 [(0, vr (some a0)), (1, vr a1), (2, vi a2)] [] h (some (vi (b2i o))) h := by
  unfold f_X6_hasReserve at hf
  refine g_aload_n (M := mX6_hasReserve) dX6_hasReserve_0 rfl 1 rfl ?_
  obtain ⟨v1, ev1, hf⟩ := bd hf
  refine g_getI (M := mX6_hasReserve) dX6_hasReserve_1 flRX6_42 (fun _ => rfl) ev1 ?_
  refine g_iconst (M := mX6_hasReserve) (v := 3) dX6_hasReserve_4 rfl ?_
  refine g_ic_ne (M := mX6_hasReserve) (tgt := 28) dX6_hasReserve_5 rfl (fun q5 => ?_) (fun q5 => ?_)
  · replace hf := iff_ hf q5
    refine g_iconst (M := mX6_hasReserve) (v := 0) dX6_hasReserve_28 rfl ?_
    cases hf
    exact g_ret (M := mX6_hasReserve) dX6_hasReserve_29 rfl
  · replace hf := ift hf q5
    refine g_aload_n (M := mX6_hasReserve) dX6_hasReserve_8 rfl 1 rfl ?_
    obtain ⟨v2, ev2, hf⟩ := bd hf
    refine g_getI (M := mX6_hasReserve) dX6_hasReserve_9 flRX6_45 (fun _ => rfl) ev2 ?_
    refine g_iload_n (M := mX6_hasReserve) dX6_hasReserve_12 rfl 2 rfl ?_
    refine g_ic_ne (M := mX6_hasReserve) (tgt := 28) dX6_hasReserve_13 rfl (fun q13 => ?_) (fun q13 => ?_)
    · replace hf := iff_ hf q13
      refine g_iconst (M := mX6_hasReserve) (v := 0) dX6_hasReserve_28 rfl ?_
      cases hf
      exact g_ret (M := mX6_hasReserve) dX6_hasReserve_29 rfl
    · replace hf := ift hf q13
      refine g_aload_n (M := mX6_hasReserve) dX6_hasReserve_16 rfl 0 rfl ?_
      refine g_aload_n (M := mX6_hasReserve) dX6_hasReserve_17 rfl 1 rfl ?_
      obtain ⟨b3, eb3, hf⟩ := bd hf
      obtain ⟨r4, er4, hf⟩ := bd hf
      refine g_callV (M := mX6_hasReserve) (kc := 0) (ks := 0) (as := [vr a1]) (rest := []) dX6_hasReserve_18 cbX6_hasPaper vwRX6_48 rfl eb3 rfl (Nat.le_of_ble_eq_true rfl) (Nat.le_of_ble_eq_true rfl) (c_X6_hasPaper G b3 a1 h r4 er4) ?_
      refine g_if_eq (M := mX6_hasReserve) (tgt := 28) dX6_hasReserve_21 rfl (fun q21 => ?_) (fun q21 => ?_)
      · replace hf := ift hf q21
        refine g_iconst (M := mX6_hasReserve) (v := 0) dX6_hasReserve_28 rfl ?_
        cases hf
        exact g_ret (M := mX6_hasReserve) dX6_hasReserve_29 rfl
      · replace hf := iff_ hf q21
        refine g_iconst (M := mX6_hasReserve) (v := 1) dX6_hasReserve_24 rfl ?_
        refine g_goto (M := mX6_hasReserve) (tgt := 29) dX6_hasReserve_25 rfl ?_
        cases hf
        exact g_ret (M := mX6_hasReserve) dX6_hasReserve_29 rfl
theorem c_X6_hasReserve (G : Gm) (a0 : Nat) (a1 : Option Nat) (a2 : Int32) (h : AH) (o : Bool) (hf : f_X6_hasReserve a0 a1 a2 h = some o) : CT G yX6_hasReserve mX6_hasReserve (some .boolean) 0 0 [vr (some a0), vr a1, vi a2] h (some (vi (b2i o))) h :=
  CT.bool (by decide +kernel) rfl rfl rfl (Nat.le_of_ble_eq_true rfl) (b2i_01 _) (x_X6_hasReserve G a0 a1 a2 h o hf)
theorem cbX6_hasReserve : CB yX6_hasReserve mX6_hasReserve (some .boolean) 2 := ⟨cd_yX6_hasReserve, itRX6, ⟨by decide, by decide⟩, by decide +kernel, by decide⟩
abbrev mX2_findReserve : MI := (RX2, "findReserve", cX2_findReserve, 5, .return_, 2)
def f_X2_findReserve_56 (K0 : Nat → Option Nat → Int32 → Int32 → AH → Option AH) (a0 : Nat) (a1 : Option Nat) (a2 : Int32) (a3 : Int32) (a4 : Option Nat) (h : AH) : Option AH :=
  (pR 2 8 h (some a0) a4).bind fun h1 =>
  K0 a0 a1 a2 (a3 + (-1)) h1
theorem x_X2_findReserve_56 (G : Gm) (K0 : Nat → Option Nat → Int32 → Int32 → AH → Option AH) (hK0 : ∀ (a0 : Nat) (a1 : Option Nat) (a2 : Int32) (a3 : Int32) (h : AH) (o : AH), K0 a0 a1 a2 a3 h = some o → GO G mX2_findReserve 0 0 7 [(0, vr (some a0)), (1, vr a1), (2, vi a2), (3, vi a3)] [] h none o) (a0 : Nat) (a1 : Option Nat) (a2 : Int32) (a3 : Int32) (a4 : Option Nat) (h : AH) (o : AH) (hf : f_X2_findReserve_56 K0 a0 a1 a2 a3 a4 h = some o) : GO G mX2_findReserve 0 0 56 [(0, vr (some a0)), (1, vr a1), (2, vi a2), (3, vi a3), (4, vr a4)] [] h none o := by
  unfold f_X2_findReserve_56 at hf
  refine g_aload_n (M := mX2_findReserve) dX2_findReserve_56 rfl 0 rfl ?_
  refine g_aload (M := mX2_findReserve) dX2_findReserve_57 4 rfl ?_
  obtain ⟨h1, eh1, hf⟩ := bd hf
  refine g_putR (M := mX2_findReserve) dX2_findReserve_59 flRX2_69 (Or.inl ⟨_, rfl⟩) eh1 ?_
  refine g_iinc (M := mX2_findReserve) (j := 3) (L2 := [(3, vi (a3 + (-1))), (0, vr (some a0)), (1, vr a1), (2, vi a2), (4, vr a4)]) dX2_findReserve_62 rfl rfl (Nat.le_of_ble_eq_true rfl) rfl ?_
  refine g_goto (M := mX2_findReserve) (tgt := 7) dX2_findReserve_65 rfl ?_
  exact g_sub (M := mX2_findReserve) (L2 := [(0, vr (some a0)), (1, vr a1), (2, vi a2), (3, vi (a3 + (-1)))]) [1, 2, 3, 0] rfl <| hK0 a0 a1 a2 (a3 + (-1)) h1 _ hf
def f_X2_findReserve_7 : Nat → Nat → Option Nat → Int32 → Int32 → AH → Option AH
  | 0, _, _, _, _, _ => none
  | n + 1, a0, a1, a2, a3, h =>
    if a3 < 0 then (
      some h
    ) else (
      (gR 2 8 h (some a0)).bind fun v2 =>
      if v2 = none then (
        (ck 4 h a1).bind fun b3 =>
        (f_X4_at b3 a3 h).bind fun r4 =>
        if r4 = none then (
          f_X2_findReserve_7 n a0 a1 a2 (a3 + (-1)) h
        ) else (
          (gR 2 1 h (some a0)).bind fun v5 =>
          (ck 6 h v5).bind fun b6 =>
          (f_X6_hasReserve b6 r4 a2 h).bind fun r7 =>
          if (b2i r7) = 0 then (
            (gR 2 2 h (some a0)).bind fun v8 =>
            (ck 6 h v8).bind fun b9 =>
            (f_X6_hasReserve b9 r4 a2 h).bind fun r10 =>
            if (b2i r10) = 0 then (
              f_X2_findReserve_7 n a0 a1 a2 (a3 + (-1)) h
            ) else (
              f_X2_findReserve_56 (f_X2_findReserve_7 n) a0 a1 a2 a3 r4 h
            )
          ) else (
            f_X2_findReserve_56 (f_X2_findReserve_7 n) a0 a1 a2 a3 r4 h
          )
        )
      ) else (
        some h
      )
    )
theorem x_X2_findReserve_7 (G : Gm) : ∀ (n : Nat) (a0 : Nat) (a1 : Option Nat) (a2 : Int32) (a3 : Int32) (h : AH) (o : AH), f_X2_findReserve_7 n a0 a1 a2 a3 h = some o → GO G mX2_findReserve 0 0 7 [(0, vr (some a0)), (1, vr a1), (2, vi a2), (3, vi a3)] [] h none o := by
  intro n
  induction n with
  | zero => intro a0 a1 a2 a3 h o hf; cases hf
  | succ n ih =>
    intro a0 a1 a2 a3 h o hf
    rw [f_X2_findReserve_7] at hf
    refine g_iload_n (M := mX2_findReserve) dX2_findReserve_7 rfl 3 rfl ?_
    refine g_if_lt (M := mX2_findReserve) (tgt := 68) dX2_findReserve_8 rfl (fun q8 => ?_) (fun q8 => ?_)
    · replace hf := ift hf q8
      cases hf
      exact g_ret (M := mX2_findReserve) dX2_findReserve_68 rfl
    · replace hf := iff_ hf q8
      refine g_aload_n (M := mX2_findReserve) dX2_findReserve_11 rfl 0 rfl ?_
      obtain ⟨v2, ev2, hf⟩ := bd hf
      refine g_getR (M := mX2_findReserve) dX2_findReserve_12 flRX2_69 (fun _ => rfl) ev2 ?_
      refine g_ifnonnull (M := mX2_findReserve) (tgt := 68) dX2_findReserve_15 rfl (fun q15 => ?_) (fun q15 => ?_)
      · replace hf := iff_ hf q15
        cases hf
        exact g_ret (M := mX2_findReserve) dX2_findReserve_68 rfl
      · replace hf := ift hf q15
        refine g_aload_n (M := mX2_findReserve) dX2_findReserve_18 rfl 1 rfl ?_
        refine g_iload_n (M := mX2_findReserve) dX2_findReserve_19 rfl 3 rfl ?_
        obtain ⟨b3, eb3, hf⟩ := bd hf
        obtain ⟨r4, er4, hf⟩ := bd hf
        refine g_callV (M := mX2_findReserve) (kc := 0) (ks := 0) (as := [vi a3]) (rest := []) dX2_findReserve_20 cbX4_at vwRX2_105 rfl eb3 rfl (Nat.le_of_ble_eq_true rfl) (Nat.le_of_ble_eq_true rfl) (c_X4_at G b3 a3 h r4 er4) ?_
        refine g_astore (M := mX2_findReserve) (L2 := [(4, vr r4), (0, vr (some a0)), (1, vr a1), (2, vi a2), (3, vi a3)]) dX2_findReserve_23 (Nat.le_of_ble_eq_true rfl) rfl ?_
        refine g_aload (M := mX2_findReserve) dX2_findReserve_25 0 rfl ?_
        refine g_ifnull (M := mX2_findReserve) (tgt := 62) dX2_findReserve_27 rfl (fun q27 => ?_) (fun q27 => ?_)
        · replace hf := ift hf q27
          refine g_iinc (M := mX2_findReserve) (j := 4) (L2 := [(3, vi (a3 + (-1))), (4, vr r4), (0, vr (some a0)), (1, vr a1), (2, vi a2)]) dX2_findReserve_62 rfl rfl (Nat.le_of_ble_eq_true rfl) rfl ?_
          refine g_goto (M := mX2_findReserve) (tgt := 7) dX2_findReserve_65 rfl ?_
          exact g_sub (M := mX2_findReserve) (L2 := [(0, vr (some a0)), (1, vr a1), (2, vi a2), (3, vi (a3 + (-1)))]) [2, 3, 4, 0] rfl <| ih a0 a1 a2 (a3 + (-1)) h _ hf
        · replace hf := iff_ hf q27
          refine g_aload_n (M := mX2_findReserve) dX2_findReserve_30 rfl 1 rfl ?_
          obtain ⟨v5, ev5, hf⟩ := bd hf
          refine g_getR (M := mX2_findReserve) dX2_findReserve_31 flRX2_21 (fun _ => rfl) ev5 ?_
          refine g_aload (M := mX2_findReserve) dX2_findReserve_34 0 rfl ?_
          refine g_iload_n (M := mX2_findReserve) dX2_findReserve_36 rfl 3 rfl ?_
          obtain ⟨b6, eb6, hf⟩ := bd hf
          obtain ⟨r7, er7, hf⟩ := bd hf
          refine g_callV (M := mX2_findReserve) (kc := 0) (ks := 0) (as := [vr r4, vi a2]) (rest := []) dX2_findReserve_37 cbX6_hasReserve vwRX2_120 rfl eb6 rfl (Nat.le_of_ble_eq_true rfl) (Nat.le_of_ble_eq_true rfl) (c_X6_hasReserve G b6 r4 a2 h r7 er7) ?_
          refine g_if_ne (M := mX2_findReserve) (tgt := 56) dX2_findReserve_40 rfl (fun q40 => ?_) (fun q40 => ?_)
          · replace hf := iff_ hf q40
            exact g_sub (M := mX2_findReserve) (L2 := [(0, vr (some a0)), (1, vr a1), (2, vi a2), (3, vi a3), (4, vr r4)]) [1, 2, 3, 4, 0] rfl <| x_X2_findReserve_56 G (f_X2_findReserve_7 n) ih a0 a1 a2 a3 r4 h _ hf
          · replace hf := ift hf q40
            refine g_aload_n (M := mX2_findReserve) dX2_findReserve_43 rfl 1 rfl ?_
            obtain ⟨v8, ev8, hf⟩ := bd hf
            refine g_getR (M := mX2_findReserve) dX2_findReserve_44 flRX2_25 (fun _ => rfl) ev8 ?_
            refine g_aload (M := mX2_findReserve) dX2_findReserve_47 0 rfl ?_
            refine g_iload_n (M := mX2_findReserve) dX2_findReserve_49 rfl 3 rfl ?_
            obtain ⟨b9, eb9, hf⟩ := bd hf
            obtain ⟨r10, er10, hf⟩ := bd hf
            refine g_callV (M := mX2_findReserve) (kc := 0) (ks := 0) (as := [vr r4, vi a2]) (rest := []) dX2_findReserve_50 cbX6_hasReserve vwRX2_120 rfl eb9 rfl (Nat.le_of_ble_eq_true rfl) (Nat.le_of_ble_eq_true rfl) (c_X6_hasReserve G b9 r4 a2 h r10 er10) ?_
            refine g_if_eq (M := mX2_findReserve) (tgt := 62) dX2_findReserve_53 rfl (fun q53 => ?_) (fun q53 => ?_)
            · replace hf := ift hf q53
              refine g_iinc (M := mX2_findReserve) (j := 4) (L2 := [(3, vi (a3 + (-1))), (4, vr r4), (0, vr (some a0)), (1, vr a1), (2, vi a2)]) dX2_findReserve_62 rfl rfl (Nat.le_of_ble_eq_true rfl) rfl ?_
              refine g_goto (M := mX2_findReserve) (tgt := 7) dX2_findReserve_65 rfl ?_
              exact g_sub (M := mX2_findReserve) (L2 := [(0, vr (some a0)), (1, vr a1), (2, vi a2), (3, vi (a3 + (-1)))]) [2, 3, 4, 0] rfl <| ih a0 a1 a2 (a3 + (-1)) h _ hf
            · replace hf := iff_ hf q53
              exact g_sub (M := mX2_findReserve) (L2 := [(0, vr (some a0)), (1, vr a1), (2, vi a2), (3, vi a3), (4, vr r4)]) [1, 2, 3, 4, 0] rfl <| x_X2_findReserve_56 G (f_X2_findReserve_7 n) ih a0 a1 a2 a3 r4 h _ hf
def f_X2_findReserve (a0 : Nat) (a1 : Option Nat) (a2 : Int32) (h : AH) : Option AH :=
  (gI 4 1 h a1).bind fun v11 =>
  f_X2_findReserve_7 FU a0 a1 a2 (v11 - (1 : Int32)) h
theorem x_X2_findReserve (G : Gm) (a0 : Nat) (a1 : Option Nat) (a2 : Int32) (h : AH) (o : AH) (hf : f_X2_findReserve a0 a1 a2 h = some o) : GO G mX2_findReserve 0 0 0 [(0, vr (some a0)), (1, vr a1), (2, vi a2)] [] h none o := by
  unfold f_X2_findReserve at hf
  refine g_aload_n (M := mX2_findReserve) dX2_findReserve_0 rfl 1 rfl ?_
  obtain ⟨v11, ev11, hf⟩ := bd hf
  refine g_getI (M := mX2_findReserve) dX2_findReserve_1 flRX2_102 (fun _ => rfl) ev11 ?_
  refine g_iconst (M := mX2_findReserve) (v := 1) dX2_findReserve_4 rfl ?_
  refine g_isub (M := mX2_findReserve) dX2_findReserve_5 ?_
  refine g_istore_n (M := mX2_findReserve) (L2 := [(3, vi (v11 - (1 : Int32))), (0, vr (some a0)), (1, vr a1), (2, vi a2)]) dX2_findReserve_6 rfl (Nat.le_of_ble_eq_true rfl) rfl ?_
  exact g_sub (M := mX2_findReserve) (L2 := [(0, vr (some a0)), (1, vr a1), (2, vi a2), (3, vi (v11 - (1 : Int32)))]) [1, 2, 3, 0] rfl <| x_X2_findReserve_7 G FU a0 a1 a2 (v11 - (1 : Int32)) h _ hf
theorem c_X2_findReserve (G : Gm) (a0 : Nat) (a1 : Option Nat) (a2 : Int32) (h : AH) (o : AH) (hf : f_X2_findReserve a0 a1 a2 h = some o) : CT G yX2_findReserve mX2_findReserve none 0 0 [vr (some a0), vr a1, vi a2] h none o :=
  CT.void (by decide +kernel) rfl rfl rfl (Nat.le_of_ble_eq_true rfl) (x_X2_findReserve G a0 a1 a2 h o hf)
theorem cbX2_findReserve : CB yX2_findReserve mX2_findReserve none 2 := ⟨cd_yX2_findReserve, itRX2, ⟨by decide, by decide⟩, by decide +kernel, by decide⟩
abbrev mX6_leastAnswer : MI := (RX6, "leastAnswer", cX6_leastAnswer, 5, .areturn, 1)
def f_X6_leastAnswer_34 (K0 : Nat → Int32 → Option Nat → Option Nat → AH → Option (Option Nat)) (a0 : Nat) (a2 : Int32) (a3 : Option Nat) (a4 : Option Nat) (h : AH) : Option (Option Nat) :=
  (gR 3 14 h a4).bind fun v1 =>
  K0 a0 a2 a3 v1 h
theorem x_X6_leastAnswer_34 (G : Gm) (K0 : Nat → Int32 → Option Nat → Option Nat → AH → Option (Option Nat)) (hK0 : ∀ (a0 : Nat) (a2 : Int32) (a3 : Option Nat) (a4 : Option Nat) (h : AH) (o : (Option Nat)), K0 a0 a2 a3 a4 h = some o → GO G mX6_leastAnswer 0 0 8 [(0, vr (some a0)), (2, vi a2), (3, vr a3), (4, vr a4)] [] h (some (vr o)) h) (a0 : Nat) (a2 : Int32) (a3 : Option Nat) (a4 : Option Nat) (h : AH) (o : (Option Nat)) (hf : f_X6_leastAnswer_34 K0 a0 a2 a3 a4 h = some o) : GO G mX6_leastAnswer 0 0 34 [(0, vr (some a0)), (2, vi a2), (3, vr a3), (4, vr a4)] [] h (some (vr o)) h := by
  unfold f_X6_leastAnswer_34 at hf
  refine g_aload (M := mX6_leastAnswer) dX6_leastAnswer_34 3 rfl ?_
  obtain ⟨v1, ev1, hf⟩ := bd hf
  refine g_getR (M := mX6_leastAnswer) dX6_leastAnswer_36 flRX6_59 (fun _ => rfl) ev1 ?_
  refine g_astore (M := mX6_leastAnswer) (L2 := [(4, vr v1), (0, vr (some a0)), (2, vi a2), (3, vr a3)]) dX6_leastAnswer_39 (Nat.le_of_ble_eq_true rfl) rfl ?_
  refine g_goto (M := mX6_leastAnswer) (tgt := 8) dX6_leastAnswer_41 rfl ?_
  exact g_sub (M := mX6_leastAnswer) (L2 := [(0, vr (some a0)), (2, vi a2), (3, vr a3), (4, vr v1)]) [1, 2, 3, 0] rfl <| hK0 a0 a2 a3 v1 h _ hf
def f_X6_leastAnswer_8 : Nat → Nat → Int32 → Option Nat → Option Nat → AH → Option (Option Nat)
  | 0, _, _, _, _, _ => none
  | n + 1, a0, a2, a3, a4, h =>
    if a4 = none then (
      some a3
    ) else (
      (gI 3 10 h a4).bind fun v2 =>
      if v2 = a2 then (
        (ck 6 h (some a0)).bind fun b3 =>
        (f_X6_hasPaper b3 a4 h).bind fun r4 =>
        if (b2i r4) = 0 then (
          f_X6_leastAnswer_34 (f_X6_leastAnswer_8 n) a0 a2 a3 a4 h
        ) else (
          f_X6_leastAnswer_34 (f_X6_leastAnswer_8 n) a0 a2 a4 a4 h
        )
      ) else (
        f_X6_leastAnswer_34 (f_X6_leastAnswer_8 n) a0 a2 a3 a4 h
      )
    )
theorem x_X6_leastAnswer_8 (G : Gm) : ∀ (n : Nat) (a0 : Nat) (a2 : Int32) (a3 : Option Nat) (a4 : Option Nat) (h : AH) (o : (Option Nat)), f_X6_leastAnswer_8 n a0 a2 a3 a4 h = some o → GO G mX6_leastAnswer 0 0 8 [(0, vr (some a0)), (2, vi a2), (3, vr a3), (4, vr a4)] [] h (some (vr o)) h := by
  intro n
  induction n with
  | zero => intro a0 a2 a3 a4 h o hf; cases hf
  | succ n ih =>
    intro a0 a2 a3 a4 h o hf
    rw [f_X6_leastAnswer_8] at hf
    refine g_aload (M := mX6_leastAnswer) dX6_leastAnswer_8 3 rfl ?_
    refine g_ifnull (M := mX6_leastAnswer) (tgt := 44) dX6_leastAnswer_10 rfl (fun q10 => ?_) (fun q10 => ?_)
    · replace hf := ift hf q10
      refine g_aload_n (M := mX6_leastAnswer) dX6_leastAnswer_44 rfl 2 rfl ?_
      cases hf
      exact g_ret (M := mX6_leastAnswer) dX6_leastAnswer_45 rfl
    · replace hf := iff_ hf q10
      refine g_aload (M := mX6_leastAnswer) dX6_leastAnswer_13 3 rfl ?_
      obtain ⟨v2, ev2, hf⟩ := bd hf
      refine g_getI (M := mX6_leastAnswer) dX6_leastAnswer_15 flRX6_55 (fun _ => rfl) ev2 ?_
      refine g_iload_n (M := mX6_leastAnswer) dX6_leastAnswer_18 rfl 1 rfl ?_
      refine g_ic_ne (M := mX6_leastAnswer) (tgt := 34) dX6_leastAnswer_19 rfl (fun q19 => ?_) (fun q19 => ?_)
      · replace hf := iff_ hf q19
        exact x_X6_leastAnswer_34 G (f_X6_leastAnswer_8 n) ih a0 a2 a3 a4 h _ hf
      · replace hf := ift hf q19
        refine g_aload_n (M := mX6_leastAnswer) dX6_leastAnswer_22 rfl 0 rfl ?_
        refine g_aload (M := mX6_leastAnswer) dX6_leastAnswer_23 3 rfl ?_
        obtain ⟨b3, eb3, hf⟩ := bd hf
        obtain ⟨r4, er4, hf⟩ := bd hf
        refine g_callV (M := mX6_leastAnswer) (kc := 0) (ks := 0) (as := [vr a4]) (rest := []) dX6_leastAnswer_25 cbX6_hasPaper vwRX6_48 rfl eb3 rfl (Nat.le_of_ble_eq_true rfl) (Nat.le_of_ble_eq_true rfl) (c_X6_hasPaper G b3 a4 h r4 er4) ?_
        refine g_if_eq (M := mX6_leastAnswer) (tgt := 34) dX6_leastAnswer_28 rfl (fun q28 => ?_) (fun q28 => ?_)
        · replace hf := ift hf q28
          exact x_X6_leastAnswer_34 G (f_X6_leastAnswer_8 n) ih a0 a2 a3 a4 h _ hf
        · replace hf := iff_ hf q28
          refine g_aload (M := mX6_leastAnswer) dX6_leastAnswer_31 3 rfl ?_
          refine g_astore_n (M := mX6_leastAnswer) (L2 := [(3, vr a4), (0, vr (some a0)), (2, vi a2), (4, vr a4)]) dX6_leastAnswer_33 rfl (Nat.le_of_ble_eq_true rfl) rfl ?_
          exact g_sub (M := mX6_leastAnswer) (L2 := [(0, vr (some a0)), (2, vi a2), (3, vr a4), (4, vr a4)]) [1, 2, 0, 3] rfl <| x_X6_leastAnswer_34 G (f_X6_leastAnswer_8 n) ih a0 a2 a4 a4 h _ hf
def f_X6_leastAnswer (a0 : Nat) (a1 : Option Nat) (a2 : Int32) (h : AH) : Option (Option Nat) :=
  (gR 3 13 h a1).bind fun v5 =>
  f_X6_leastAnswer_8 FU a0 a2 none v5 h
theorem x_X6_leastAnswer (G : Gm) (a0 : Nat) (a1 : Option Nat) (a2 : Int32) (h : AH) (o : (Option Nat)) (hf : f_X6_leastAnswer a0 a1 a2 h = some o) : GO G mX6_leastAnswer 0 0 0 [(0, vr (some a0)), (1, vr a1), (2, vi a2)] [] h (some (vr o)) h := by
  unfold f_X6_leastAnswer at hf
  refine g_null (M := mX6_leastAnswer) dX6_leastAnswer_0 ?_
  refine g_astore_n (M := mX6_leastAnswer) (L2 := [(3, vr none), (0, vr (some a0)), (1, vr a1), (2, vi a2)]) dX6_leastAnswer_1 rfl (Nat.le_of_ble_eq_true rfl) rfl ?_
  refine g_aload_n (M := mX6_leastAnswer) dX6_leastAnswer_2 rfl 2 rfl ?_
  obtain ⟨v5, ev5, hf⟩ := bd hf
  refine g_getR (M := mX6_leastAnswer) dX6_leastAnswer_3 flRX6_52 (fun _ => rfl) ev5 ?_
  refine g_astore (M := mX6_leastAnswer) (L2 := [(4, vr v5), (3, vr none), (0, vr (some a0)), (1, vr a1), (2, vi a2)]) dX6_leastAnswer_6 (Nat.le_of_ble_eq_true rfl) rfl ?_
  exact g_sub (M := mX6_leastAnswer) (L2 := [(0, vr (some a0)), (2, vi a2), (3, vr none), (4, vr v5)]) [2, 4, 1, 0] rfl <| x_X6_leastAnswer_8 G FU a0 a2 none v5 h _ hf
theorem c_X6_leastAnswer (G : Gm) (a0 : Nat) (a1 : Option Nat) (a2 : Int32) (h : AH) (o : (Option Nat)) (hf : f_X6_leastAnswer a0 a1 a2 h = some o) : CT G yX6_leastAnswer mX6_leastAnswer (some (.object RX3)) 0 0 [vr (some a0), vr a1, vi a2] h (some (vr o)) h :=
  CT.ref (by decide +kernel) rfl rfl rfl (Nat.le_of_ble_eq_true rfl) (x_X6_leastAnswer G a0 a1 a2 h o hf)
theorem cbX6_leastAnswer : CB yX6_leastAnswer mX6_leastAnswer (some (.object RX3)) 2 := ⟨cd_yX6_leastAnswer, itRX6, ⟨by decide, by decide⟩, by decide +kernel, by decide⟩
abbrev mX2_settleReserve : MI := (RX2, "settleReserve", cX2_settleReserve, 2, .return_, 2)
def f_X2_settleReserve_101 (s0 : Option Nat) (s1 : Int32) (h : AH) : Option AH :=
  (pI 2 5 h s0 s1).bind fun h1 =>
  some h1
theorem x_X2_settleReserve_101 (G : Gm) (s0 : Option Nat) (s1 : Int32) (h : AH) (o : AH) (hf : f_X2_settleReserve_101 s0 s1 h = some o) : GO G mX2_settleReserve 0 0 101 [] [vi s1, vr s0] h none o := by
  unfold f_X2_settleReserve_101 at hf
  obtain ⟨h1, eh1, hf⟩ := bd hf
  refine g_putI (M := mX2_settleReserve) dX2_settleReserve_101 flRX2_95 rfl eh1 ?_
  cases hf
  exact g_ret (M := mX2_settleReserve) dX2_settleReserve_104 rfl
def f_X2_settleReserve_82 (a0 : Nat) (a1 : Int32) (s0 : Option Nat) (s1 : Int32) (h : AH) : Option AH :=
  (pI 2 4 h s0 s1).bind fun h2 =>
  if a1 = 0 then (
    (gR 2 8 h2 (some a0)).bind fun v3 =>
    (gI 3 9 h2 v3).bind fun v4 =>
    f_X2_settleReserve_101 (some a0) v4 h2
  ) else (
    f_X2_settleReserve_101 (some a0) (0 : Int32) h2
  )
theorem x_X2_settleReserve_82 (G : Gm) (a0 : Nat) (a1 : Int32) (s0 : Option Nat) (s1 : Int32) (h : AH) (o : AH) (hf : f_X2_settleReserve_82 a0 a1 s0 s1 h = some o) : GO G mX2_settleReserve 0 0 82 [(0, vr (some a0)), (1, vi a1)] [vi s1, vr s0] h none o := by
  unfold f_X2_settleReserve_82 at hf
  obtain ⟨h2, eh2, hf⟩ := bd hf
  refine g_putI (M := mX2_settleReserve) dX2_settleReserve_82 flRX2_85 rfl eh2 ?_
  refine g_aload_n (M := mX2_settleReserve) dX2_settleReserve_85 rfl 0 rfl ?_
  refine g_iload_n (M := mX2_settleReserve) dX2_settleReserve_86 rfl 1 rfl ?_
  refine g_if_eq (M := mX2_settleReserve) (tgt := 94) dX2_settleReserve_87 rfl (fun q87 => ?_) (fun q87 => ?_)
  · replace hf := ift hf q87
    refine g_aload_n (M := mX2_settleReserve) dX2_settleReserve_94 rfl 0 rfl ?_
    obtain ⟨v3, ev3, hf⟩ := bd hf
    refine g_getR (M := mX2_settleReserve) dX2_settleReserve_95 flRX2_69 (fun _ => rfl) ev3 ?_
    obtain ⟨v4, ev4, hf⟩ := bd hf
    refine g_getI (M := mX2_settleReserve) dX2_settleReserve_98 flRX2_92 (fun _ => rfl) ev4 ?_
    exact g_sub (M := mX2_settleReserve) (L2 := []) [] rfl <| x_X2_settleReserve_101 G (some a0) v4 h2 _ hf
  · replace hf := iff_ hf q87
    refine g_iconst (M := mX2_settleReserve) (v := 0) dX2_settleReserve_90 rfl ?_
    refine g_goto (M := mX2_settleReserve) (tgt := 101) dX2_settleReserve_91 rfl ?_
    exact g_sub (M := mX2_settleReserve) (L2 := []) [] rfl <| x_X2_settleReserve_101 G (some a0) (0 : Int32) h2 _ hf
def f_X2_settleReserve_71 (a0 : Nat) (s0 : Int32) (h : AH) : Option AH :=
  if s0 = 0 then (
    f_X2_settleReserve_82 a0 s0 (some a0) (2 : Int32) h
  ) else (
    f_X2_settleReserve_82 a0 s0 (some a0) (3 : Int32) h
  )
theorem x_X2_settleReserve_71 (G : Gm) (a0 : Nat) (s0 : Int32) (h : AH) (o : AH) (hf : f_X2_settleReserve_71 a0 s0 h = some o) : GO G mX2_settleReserve 0 0 71 [(0, vr (some a0))] [vi s0] h none o := by
  unfold f_X2_settleReserve_71 at hf
  refine g_istore_n (M := mX2_settleReserve) (L2 := [(1, vi s0), (0, vr (some a0))]) dX2_settleReserve_71 rfl (Nat.le_of_ble_eq_true rfl) rfl ?_
  refine g_aload_n (M := mX2_settleReserve) dX2_settleReserve_72 rfl 1 rfl ?_
  refine g_iload_n (M := mX2_settleReserve) dX2_settleReserve_73 rfl 0 rfl ?_
  refine g_if_eq (M := mX2_settleReserve) (tgt := 81) dX2_settleReserve_74 rfl (fun q74 => ?_) (fun q74 => ?_)
  · replace hf := ift hf q74
    refine g_iconst (M := mX2_settleReserve) (v := 2) dX2_settleReserve_81 rfl ?_
    exact g_sub (M := mX2_settleReserve) (L2 := [(0, vr (some a0)), (1, vi s0)]) [1, 0] rfl <| x_X2_settleReserve_82 G a0 s0 (some a0) (2 : Int32) h _ hf
  · replace hf := iff_ hf q74
    refine g_iconst (M := mX2_settleReserve) (v := 3) dX2_settleReserve_77 rfl ?_
    refine g_goto (M := mX2_settleReserve) (tgt := 82) dX2_settleReserve_78 rfl ?_
    exact g_sub (M := mX2_settleReserve) (L2 := [(0, vr (some a0)), (1, vi s0)]) [1, 0] rfl <| x_X2_settleReserve_82 G a0 s0 (some a0) (3 : Int32) h _ hf
def f_X2_settleReserve_66 (a0 : Nat) (h : AH) : Option AH :=
  f_X2_settleReserve_71 a0 (1 : Int32) h
theorem x_X2_settleReserve_66 (G : Gm) (a0 : Nat) (h : AH) (o : AH) (hf : f_X2_settleReserve_66 a0 h = some o) : GO G mX2_settleReserve 0 0 66 [(0, vr (some a0))] [] h none o := by
  unfold f_X2_settleReserve_66 at hf
  refine g_iconst (M := mX2_settleReserve) (v := 1) dX2_settleReserve_66 rfl ?_
  refine g_goto (M := mX2_settleReserve) (tgt := 71) dX2_settleReserve_67 rfl ?_
  exact x_X2_settleReserve_71 G a0 (1 : Int32) h _ hf
def f_X2_settleReserve_49 (a0 : Nat) (h : AH) : Option AH :=
  (gR 2 8 h (some a0)).bind fun v5 =>
  (gI 3 9 h v5).bind fun v6 =>
  if v6 = 0 then (
    f_X2_settleReserve_66 a0 h
  ) else (
    (gR 2 7 h (some a0)).bind fun v7 =>
    if v7 = none then (
      f_X2_settleReserve_71 a0 (0 : Int32) h
    ) else (
      f_X2_settleReserve_66 a0 h
    )
  )
theorem x_X2_settleReserve_49 (G : Gm) (a0 : Nat) (h : AH) (o : AH) (hf : f_X2_settleReserve_49 a0 h = some o) : GO G mX2_settleReserve 0 0 49 [(0, vr (some a0))] [] h none o := by
  unfold f_X2_settleReserve_49 at hf
  refine g_aload_n (M := mX2_settleReserve) dX2_settleReserve_49 rfl 0 rfl ?_
  obtain ⟨v5, ev5, hf⟩ := bd hf
  refine g_getR (M := mX2_settleReserve) dX2_settleReserve_50 flRX2_69 (fun _ => rfl) ev5 ?_
  obtain ⟨v6, ev6, hf⟩ := bd hf
  refine g_getI (M := mX2_settleReserve) dX2_settleReserve_53 flRX2_92 (fun _ => rfl) ev6 ?_
  refine g_if_eq (M := mX2_settleReserve) (tgt := 66) dX2_settleReserve_56 rfl (fun q56 => ?_) (fun q56 => ?_)
  · replace hf := ift hf q56
    exact x_X2_settleReserve_66 G a0 h _ hf
  · replace hf := iff_ hf q56
    refine g_aload_n (M := mX2_settleReserve) dX2_settleReserve_59 rfl 0 rfl ?_
    obtain ⟨v7, ev7, hf⟩ := bd hf
    refine g_getR (M := mX2_settleReserve) dX2_settleReserve_60 flRX2_60 (fun _ => rfl) ev7 ?_
    refine g_ifnull (M := mX2_settleReserve) (tgt := 70) dX2_settleReserve_63 rfl (fun q63 => ?_) (fun q63 => ?_)
    · replace hf := ift hf q63
      refine g_iconst (M := mX2_settleReserve) (v := 0) dX2_settleReserve_70 rfl ?_
      exact x_X2_settleReserve_71 G a0 (0 : Int32) h _ hf
    · replace hf := iff_ hf q63
      exact x_X2_settleReserve_66 G a0 h _ hf
def f_X2_settleReserve_35 (a0 : Nat) (s0 : Option Nat) (h : AH) : Option AH :=
  (gR 2 8 h (some a0)).bind fun v8 =>
  (ck 6 h s0).bind fun b9 =>
  (f_X6_leastAnswer b9 v8 (1 : Int32) h).bind fun r10 =>
  (pR 2 7 h (some a0) r10).bind fun h11 =>
  f_X2_settleReserve_49 a0 h11
theorem x_X2_settleReserve_35 (G : Gm) (a0 : Nat) (s0 : Option Nat) (h : AH) (o : AH) (hf : f_X2_settleReserve_35 a0 s0 h = some o) : GO G mX2_settleReserve 0 0 35 [(0, vr (some a0))] [vr s0] h none o := by
  unfold f_X2_settleReserve_35 at hf
  refine g_astore_n (M := mX2_settleReserve) (L2 := [(1, vr s0), (0, vr (some a0))]) dX2_settleReserve_35 rfl (Nat.le_of_ble_eq_true rfl) rfl ?_
  refine g_aload_n (M := mX2_settleReserve) dX2_settleReserve_36 rfl 1 rfl ?_
  refine g_aload_n (M := mX2_settleReserve) dX2_settleReserve_37 rfl 0 rfl ?_
  refine g_aload_n (M := mX2_settleReserve) dX2_settleReserve_38 rfl 1 rfl ?_
  obtain ⟨v8, ev8, hf⟩ := bd hf
  refine g_getR (M := mX2_settleReserve) dX2_settleReserve_39 flRX2_69 (fun _ => rfl) ev8 ?_
  refine g_iconst (M := mX2_settleReserve) (v := 1) dX2_settleReserve_42 rfl ?_
  obtain ⟨b9, eb9, hf⟩ := bd hf
  obtain ⟨r10, er10, hf⟩ := bd hf
  refine g_callV (M := mX2_settleReserve) (kc := 0) (ks := 0) (as := [vr v8, vi (1 : Int32)]) (rest := [vr (some a0)]) dX2_settleReserve_43 cbX6_leastAnswer vwRX2_124 rfl eb9 rfl (Nat.le_of_ble_eq_true rfl) (Nat.le_of_ble_eq_true rfl) (c_X6_leastAnswer G b9 v8 (1 : Int32) h r10 er10) ?_
  obtain ⟨h11, eh11, hf⟩ := bd hf
  refine g_putR (M := mX2_settleReserve) dX2_settleReserve_46 flRX2_60 (Or.inl ⟨_, rfl⟩) eh11 ?_
  exact g_sub (M := mX2_settleReserve) (L2 := [(0, vr (some a0))]) [1] rfl <| x_X2_settleReserve_49 G a0 h11 _ hf
def f_X2_settleReserve (a0 : Nat) (h : AH) : Option AH :=
  (gR 2 8 h (some a0)).bind fun v12 =>
  (gI 3 9 h v12).bind fun v13 =>
  if v13 = 0 then (
    f_X2_settleReserve_49 a0 h
  ) else (
    (gR 2 1 h (some a0)).bind fun v14 =>
    (gR 2 8 h (some a0)).bind fun v15 =>
    (ck 6 h v14).bind fun b16 =>
    (f_X6_hasPaper b16 v15 h).bind fun r17 =>
    if (b2i r17) = 0 then (
      (gR 2 1 h (some a0)).bind fun v18 =>
      f_X2_settleReserve_35 a0 v18 h
    ) else (
      (gR 2 2 h (some a0)).bind fun v19 =>
      f_X2_settleReserve_35 a0 v19 h
    )
  )
theorem x_X2_settleReserve (G : Gm) (a0 : Nat) (h : AH) (o : AH) (hf : f_X2_settleReserve a0 h = some o) : GO G mX2_settleReserve 0 0 0 [(0, vr (some a0))] [] h none o := by
  unfold f_X2_settleReserve at hf
  refine g_aload_n (M := mX2_settleReserve) dX2_settleReserve_0 rfl 0 rfl ?_
  obtain ⟨v12, ev12, hf⟩ := bd hf
  refine g_getR (M := mX2_settleReserve) dX2_settleReserve_1 flRX2_69 (fun _ => rfl) ev12 ?_
  obtain ⟨v13, ev13, hf⟩ := bd hf
  refine g_getI (M := mX2_settleReserve) dX2_settleReserve_4 flRX2_92 (fun _ => rfl) ev13 ?_
  refine g_if_eq (M := mX2_settleReserve) (tgt := 49) dX2_settleReserve_7 rfl (fun q7 => ?_) (fun q7 => ?_)
  · replace hf := ift hf q7
    exact x_X2_settleReserve_49 G a0 h _ hf
  · replace hf := iff_ hf q7
    refine g_aload_n (M := mX2_settleReserve) dX2_settleReserve_10 rfl 0 rfl ?_
    obtain ⟨v14, ev14, hf⟩ := bd hf
    refine g_getR (M := mX2_settleReserve) dX2_settleReserve_11 flRX2_21 (fun _ => rfl) ev14 ?_
    refine g_aload_n (M := mX2_settleReserve) dX2_settleReserve_14 rfl 0 rfl ?_
    obtain ⟨v15, ev15, hf⟩ := bd hf
    refine g_getR (M := mX2_settleReserve) dX2_settleReserve_15 flRX2_69 (fun _ => rfl) ev15 ?_
    obtain ⟨b16, eb16, hf⟩ := bd hf
    obtain ⟨r17, er17, hf⟩ := bd hf
    refine g_callV (M := mX2_settleReserve) (kc := 0) (ks := 0) (as := [vr v15]) (rest := []) dX2_settleReserve_18 cbX6_hasPaper vwRX2_117 rfl eb16 rfl (Nat.le_of_ble_eq_true rfl) (Nat.le_of_ble_eq_true rfl) (c_X6_hasPaper G b16 v15 h r17 er17) ?_
    refine g_if_eq (M := mX2_settleReserve) (tgt := 31) dX2_settleReserve_21 rfl (fun q21 => ?_) (fun q21 => ?_)
    · replace hf := ift hf q21
      refine g_aload_n (M := mX2_settleReserve) dX2_settleReserve_31 rfl 0 rfl ?_
      obtain ⟨v18, ev18, hf⟩ := bd hf
      refine g_getR (M := mX2_settleReserve) dX2_settleReserve_32 flRX2_21 (fun _ => rfl) ev18 ?_
      exact x_X2_settleReserve_35 G a0 v18 h _ hf
    · replace hf := iff_ hf q21
      refine g_aload_n (M := mX2_settleReserve) dX2_settleReserve_24 rfl 0 rfl ?_
      obtain ⟨v19, ev19, hf⟩ := bd hf
      refine g_getR (M := mX2_settleReserve) dX2_settleReserve_25 flRX2_25 (fun _ => rfl) ev19 ?_
      refine g_goto (M := mX2_settleReserve) (tgt := 35) dX2_settleReserve_28 rfl ?_
      exact x_X2_settleReserve_35 G a0 v19 h _ hf
theorem c_X2_settleReserve (G : Gm) (a0 : Nat) (h : AH) (o : AH) (hf : f_X2_settleReserve a0 h = some o) : CT G yX2_settleReserve mX2_settleReserve none 0 0 [vr (some a0)] h none o :=
  CT.void (by decide +kernel) rfl rfl rfl (Nat.le_of_ble_eq_true rfl) (x_X2_settleReserve G a0 h o hf)
theorem cbX2_settleReserve : CB yX2_settleReserve mX2_settleReserve none 0 := ⟨cd_yX2_settleReserve, itRX2, ⟨by decide, by decide⟩, by decide +kernel, by decide⟩
abbrev mX2_takeChange : MI := (RX2, "takeChange", cX2_takeChange, 4, .return_, 2)
def f_X2_takeChange (a0 : Nat) (a1 : Option Nat) (h : AH) : Option AH :=
  (gR 2 1 h (some a0)).bind fun v1 =>
  (ck 6 h v1).bind fun b2 =>
  (f_X6_leastAnswer b2 a1 (0 : Int32) h).bind fun r3 =>
  (gR 2 2 h (some a0)).bind fun v4 =>
  (ck 6 h v4).bind fun b5 =>
  (f_X6_leastAnswer b5 a1 (0 : Int32) h).bind fun r6 =>
  if r3 = none then (
    some h
  ) else (
    if r6 = none then (
      some h
    ) else (
      (pR 2 9 h (some a0) a1).bind fun h7 =>
      (pR 2 10 h7 (some a0) r3).bind fun h8 =>
      (pR 2 11 h8 (some a0) r6).bind fun h9 =>
      some h9
    )
  )
theorem x_X2_takeChange (G : Gm) (a0 : Nat) (a1 : Option Nat) (h : AH) (o : AH) (hf : f_X2_takeChange a0 a1 h = some o) : GO G mX2_takeChange 0 0 0 [(0, vr (some a0)), (1, vr a1)] [] h none o := by
  unfold f_X2_takeChange at hf
  refine g_aload_n (M := mX2_takeChange) dX2_takeChange_0 rfl 0 rfl ?_
  obtain ⟨v1, ev1, hf⟩ := bd hf
  refine g_getR (M := mX2_takeChange) dX2_takeChange_1 flRX2_21 (fun _ => rfl) ev1 ?_
  refine g_aload_n (M := mX2_takeChange) dX2_takeChange_4 rfl 1 rfl ?_
  refine g_iconst (M := mX2_takeChange) (v := 0) dX2_takeChange_5 rfl ?_
  obtain ⟨b2, eb2, hf⟩ := bd hf
  obtain ⟨r3, er3, hf⟩ := bd hf
  refine g_callV (M := mX2_takeChange) (kc := 0) (ks := 0) (as := [vr a1, vi (0 : Int32)]) (rest := []) dX2_takeChange_6 cbX6_leastAnswer vwRX2_124 rfl eb2 rfl (Nat.le_of_ble_eq_true rfl) (Nat.le_of_ble_eq_true rfl) (c_X6_leastAnswer G b2 a1 (0 : Int32) h r3 er3) ?_
  refine g_astore_n (M := mX2_takeChange) (L2 := [(2, vr r3), (0, vr (some a0)), (1, vr a1)]) dX2_takeChange_9 rfl (Nat.le_of_ble_eq_true rfl) rfl ?_
  refine g_aload_n (M := mX2_takeChange) dX2_takeChange_10 rfl 1 rfl ?_
  obtain ⟨v4, ev4, hf⟩ := bd hf
  refine g_getR (M := mX2_takeChange) dX2_takeChange_11 flRX2_25 (fun _ => rfl) ev4 ?_
  refine g_aload_n (M := mX2_takeChange) dX2_takeChange_14 rfl 2 rfl ?_
  refine g_iconst (M := mX2_takeChange) (v := 0) dX2_takeChange_15 rfl ?_
  obtain ⟨b5, eb5, hf⟩ := bd hf
  obtain ⟨r6, er6, hf⟩ := bd hf
  refine g_callV (M := mX2_takeChange) (kc := 0) (ks := 0) (as := [vr a1, vi (0 : Int32)]) (rest := []) dX2_takeChange_16 cbX6_leastAnswer vwRX2_124 rfl eb5 rfl (Nat.le_of_ble_eq_true rfl) (Nat.le_of_ble_eq_true rfl) (c_X6_leastAnswer G b5 a1 (0 : Int32) h r6 er6) ?_
  refine g_astore_n (M := mX2_takeChange) (L2 := [(3, vr r6), (2, vr r3), (0, vr (some a0)), (1, vr a1)]) dX2_takeChange_19 rfl (Nat.le_of_ble_eq_true rfl) rfl ?_
  refine g_aload_n (M := mX2_takeChange) dX2_takeChange_20 rfl 1 rfl ?_
  refine g_ifnull (M := mX2_takeChange) (tgt := 43) dX2_takeChange_21 rfl (fun q21 => ?_) (fun q21 => ?_)
  · replace hf := ift hf q21
    cases hf
    exact g_ret (M := mX2_takeChange) dX2_takeChange_43 rfl
  · replace hf := iff_ hf q21
    refine g_aload_n (M := mX2_takeChange) dX2_takeChange_24 rfl 0 rfl ?_
    refine g_ifnull (M := mX2_takeChange) (tgt := 43) dX2_takeChange_25 rfl (fun q25 => ?_) (fun q25 => ?_)
    · replace hf := ift hf q25
      cases hf
      exact g_ret (M := mX2_takeChange) dX2_takeChange_43 rfl
    · replace hf := iff_ hf q25
      refine g_aload_n (M := mX2_takeChange) dX2_takeChange_28 rfl 2 rfl ?_
      refine g_aload_n (M := mX2_takeChange) dX2_takeChange_29 rfl 3 rfl ?_
      obtain ⟨h7, eh7, hf⟩ := bd hf
      refine g_putR (M := mX2_takeChange) dX2_takeChange_30 flRX2_82 (Or.inl ⟨_, rfl⟩) eh7 ?_
      refine g_aload_n (M := mX2_takeChange) dX2_takeChange_33 rfl 2 rfl ?_
      refine g_aload_n (M := mX2_takeChange) dX2_takeChange_34 rfl 1 rfl ?_
      obtain ⟨h8, eh8, hf⟩ := bd hf
      refine g_putR (M := mX2_takeChange) dX2_takeChange_35 flRX2_96 (Or.inl ⟨_, rfl⟩) eh8 ?_
      refine g_aload_n (M := mX2_takeChange) dX2_takeChange_38 rfl 2 rfl ?_
      refine g_aload_n (M := mX2_takeChange) dX2_takeChange_39 rfl 0 rfl ?_
      obtain ⟨h9, eh9, hf⟩ := bd hf
      refine g_putR (M := mX2_takeChange) dX2_takeChange_40 flRX2_99 (Or.inl ⟨_, rfl⟩) eh9 ?_
      cases hf
      exact g_ret (M := mX2_takeChange) dX2_takeChange_43 rfl
theorem c_X2_takeChange (G : Gm) (a0 : Nat) (a1 : Option Nat) (h : AH) (o : AH) (hf : f_X2_takeChange a0 a1 h = some o) : CT G yX2_takeChange mX2_takeChange none 0 0 [vr (some a0), vr a1] h none o :=
  CT.void (by decide +kernel) rfl rfl rfl (Nat.le_of_ble_eq_true rfl) (x_X2_takeChange G a0 a1 h o hf)
theorem cbX2_takeChange : CB yX2_takeChange mX2_takeChange none 1 := ⟨cd_yX2_takeChange, itRX2, ⟨by decide, by decide⟩, by decide +kernel, by decide⟩
abbrev mX2_findChange : MI := (RX2, "findChange", cX2_findChange, 7, .return_, 3)
def f_X2_findChange_8 : Nat → Nat → Option Nat → Option Nat → Int32 → Int32 → Int32 → AH → Option AH
  | 0, _, _, _, _, _, _, _ => none
  | n + 1, a0, a1, a2, a3, a4, a5, h =>
    if a5 < 0 then (
      some h
    ) else (
      (gR 2 9 h (some a0)).bind fun v1 =>
      if v1 = none then (
        (ck 4 h a1).bind fun b2 =>
        (f_X4_at b2 a5 h).bind fun r3 =>
        if r3 = none then (
          f_X2_findChange_8 n a0 a1 a2 a3 a4 (a5 + (-1)) h
        ) else (
          (gI 3 1 h r3).bind fun v4 =>
          if v4 = (6 : Int32) then (
            (gR 3 3 h r3).bind fun v5 =>
            if v5 = a2 then (
              (gI 3 8 h r3).bind fun v6 =>
              if v6 = a3 then (
                (gI 3 4 h r3).bind fun v7 =>
                if a4 < v7 then (
                  f_X2_findChange_8 n a0 a1 a2 a3 a4 (a5 + (-1)) h
                ) else (
                  (ck 2 h (some a0)).bind fun b8 =>
                  (f_X2_takeChange b8 r3 h).bind fun r9 =>
                  f_X2_findChange_8 n a0 a1 a2 a3 a4 (a5 + (-1)) r9
                )
              ) else (
                f_X2_findChange_8 n a0 a1 a2 a3 a4 (a5 + (-1)) h
              )
            ) else (
              f_X2_findChange_8 n a0 a1 a2 a3 a4 (a5 + (-1)) h
            )
          ) else (
            f_X2_findChange_8 n a0 a1 a2 a3 a4 (a5 + (-1)) h
          )
        )
      ) else (
        some h
      )
    )
theorem x_X2_findChange_8 (G : Gm) : ∀ (n : Nat) (a0 : Nat) (a1 : Option Nat) (a2 : Option Nat) (a3 : Int32) (a4 : Int32) (a5 : Int32) (h : AH) (o : AH), f_X2_findChange_8 n a0 a1 a2 a3 a4 a5 h = some o → GO G mX2_findChange 0 0 8 [(0, vr (some a0)), (1, vr a1), (2, vr a2), (3, vi a3), (4, vi a4), (5, vi a5)] [] h none o := by
  intro n
  induction n with
  | zero => intro a0 a1 a2 a3 a4 a5 h o hf; cases hf
  | succ n ih =>
    intro a0 a1 a2 a3 a4 a5 h o hf
    rw [f_X2_findChange_8] at hf
    refine g_iload (M := mX2_findChange) dX2_findChange_8 5 rfl ?_
    refine g_if_lt (M := mX2_findChange) (tgt := 83) dX2_findChange_10 rfl (fun q10 => ?_) (fun q10 => ?_)
    · replace hf := ift hf q10
      cases hf
      exact g_ret (M := mX2_findChange) dX2_findChange_83 rfl
    · replace hf := iff_ hf q10
      refine g_aload_n (M := mX2_findChange) dX2_findChange_13 rfl 0 rfl ?_
      obtain ⟨v1, ev1, hf⟩ := bd hf
      refine g_getR (M := mX2_findChange) dX2_findChange_14 flRX2_82 (fun _ => rfl) ev1 ?_
      refine g_ifnonnull (M := mX2_findChange) (tgt := 83) dX2_findChange_17 rfl (fun q17 => ?_) (fun q17 => ?_)
      · replace hf := iff_ hf q17
        cases hf
        exact g_ret (M := mX2_findChange) dX2_findChange_83 rfl
      · replace hf := ift hf q17
        refine g_aload_n (M := mX2_findChange) dX2_findChange_20 rfl 1 rfl ?_
        refine g_iload (M := mX2_findChange) dX2_findChange_21 5 rfl ?_
        obtain ⟨b2, eb2, hf⟩ := bd hf
        obtain ⟨r3, er3, hf⟩ := bd hf
        refine g_callV (M := mX2_findChange) (kc := 0) (ks := 0) (as := [vi a5]) (rest := []) dX2_findChange_23 cbX4_at vwRX2_105 rfl eb2 rfl (Nat.le_of_ble_eq_true rfl) (Nat.le_of_ble_eq_true rfl) (c_X4_at G b2 a5 h r3 er3) ?_
        refine g_astore (M := mX2_findChange) (L2 := [(6, vr r3), (0, vr (some a0)), (1, vr a1), (2, vr a2), (3, vi a3), (4, vi a4), (5, vi a5)]) dX2_findChange_26 (Nat.le_of_ble_eq_true rfl) rfl ?_
        refine g_aload (M := mX2_findChange) dX2_findChange_28 0 rfl ?_
        refine g_ifnull (M := mX2_findChange) (tgt := 77) dX2_findChange_30 rfl (fun q30 => ?_) (fun q30 => ?_)
        · replace hf := ift hf q30
          refine g_iinc (M := mX2_findChange) (j := 6) (L2 := [(5, vi (a5 + (-1))), (6, vr r3), (0, vr (some a0)), (1, vr a1), (2, vr a2), (3, vi a3), (4, vi a4)]) dX2_findChange_77 rfl rfl (Nat.le_of_ble_eq_true rfl) rfl ?_
          refine g_goto (M := mX2_findChange) (tgt := 8) dX2_findChange_80 rfl ?_
          exact g_sub (M := mX2_findChange) (L2 := [(0, vr (some a0)), (1, vr a1), (2, vr a2), (3, vi a3), (4, vi a4), (5, vi (a5 + (-1)))]) [2, 3, 4, 5, 6, 0] rfl <| ih a0 a1 a2 a3 a4 (a5 + (-1)) h _ hf
        · replace hf := iff_ hf q30
          refine g_aload (M := mX2_findChange) dX2_findChange_33 0 rfl ?_
          obtain ⟨v4, ev4, hf⟩ := bd hf
          refine g_getI (M := mX2_findChange) dX2_findChange_35 flRX2_106 (fun _ => rfl) ev4 ?_
          refine g_bipush (M := mX2_findChange) (v := 6) dX2_findChange_38 rfl ?_
          refine g_ic_ne (M := mX2_findChange) (tgt := 77) dX2_findChange_40 rfl (fun q40 => ?_) (fun q40 => ?_)
          · replace hf := iff_ hf q40
            refine g_iinc (M := mX2_findChange) (j := 6) (L2 := [(5, vi (a5 + (-1))), (6, vr r3), (0, vr (some a0)), (1, vr a1), (2, vr a2), (3, vi a3), (4, vi a4)]) dX2_findChange_77 rfl rfl (Nat.le_of_ble_eq_true rfl) rfl ?_
            refine g_goto (M := mX2_findChange) (tgt := 8) dX2_findChange_80 rfl ?_
            exact g_sub (M := mX2_findChange) (L2 := [(0, vr (some a0)), (1, vr a1), (2, vr a2), (3, vi a3), (4, vi a4), (5, vi (a5 + (-1)))]) [2, 3, 4, 5, 6, 0] rfl <| ih a0 a1 a2 a3 a4 (a5 + (-1)) h _ hf
          · replace hf := ift hf q40
            refine g_aload (M := mX2_findChange) dX2_findChange_43 0 rfl ?_
            obtain ⟨v5, ev5, hf⟩ := bd hf
            refine g_getR (M := mX2_findChange) dX2_findChange_45 flRX2_128 (fun _ => rfl) ev5 ?_
            refine g_aload_n (M := mX2_findChange) dX2_findChange_48 rfl 3 rfl ?_
            refine g_ac_ne (M := mX2_findChange) (tgt := 77) dX2_findChange_49 rfl (fun q49 => ?_) (fun q49 => ?_)
            · replace hf := iff_ hf q49
              refine g_iinc (M := mX2_findChange) (j := 6) (L2 := [(5, vi (a5 + (-1))), (6, vr r3), (0, vr (some a0)), (1, vr a1), (2, vr a2), (3, vi a3), (4, vi a4)]) dX2_findChange_77 rfl rfl (Nat.le_of_ble_eq_true rfl) rfl ?_
              refine g_goto (M := mX2_findChange) (tgt := 8) dX2_findChange_80 rfl ?_
              exact g_sub (M := mX2_findChange) (L2 := [(0, vr (some a0)), (1, vr a1), (2, vr a2), (3, vi a3), (4, vi a4), (5, vi (a5 + (-1)))]) [2, 3, 4, 5, 6, 0] rfl <| ih a0 a1 a2 a3 a4 (a5 + (-1)) h _ hf
            · replace hf := ift hf q49
              refine g_aload (M := mX2_findChange) dX2_findChange_52 0 rfl ?_
              obtain ⟨v6, ev6, hf⟩ := bd hf
              refine g_getI (M := mX2_findChange) dX2_findChange_54 flRX2_132 (fun _ => rfl) ev6 ?_
              refine g_iload_n (M := mX2_findChange) dX2_findChange_57 rfl 4 rfl ?_
              refine g_ic_ne (M := mX2_findChange) (tgt := 77) dX2_findChange_58 rfl (fun q58 => ?_) (fun q58 => ?_)
              · replace hf := iff_ hf q58
                refine g_iinc (M := mX2_findChange) (j := 6) (L2 := [(5, vi (a5 + (-1))), (6, vr r3), (0, vr (some a0)), (1, vr a1), (2, vr a2), (3, vi a3), (4, vi a4)]) dX2_findChange_77 rfl rfl (Nat.le_of_ble_eq_true rfl) rfl ?_
                refine g_goto (M := mX2_findChange) (tgt := 8) dX2_findChange_80 rfl ?_
                exact g_sub (M := mX2_findChange) (L2 := [(0, vr (some a0)), (1, vr a1), (2, vr a2), (3, vi a3), (4, vi a4), (5, vi (a5 + (-1)))]) [2, 3, 4, 5, 6, 0] rfl <| ih a0 a1 a2 a3 a4 (a5 + (-1)) h _ hf
              · replace hf := ift hf q58
                refine g_aload (M := mX2_findChange) dX2_findChange_61 0 rfl ?_
                obtain ⟨v7, ev7, hf⟩ := bd hf
                refine g_getI (M := mX2_findChange) dX2_findChange_63 flRX2_135 (fun _ => rfl) ev7 ?_
                refine g_iload (M := mX2_findChange) dX2_findChange_66 5 rfl ?_
                refine g_ic_gt (M := mX2_findChange) (tgt := 77) dX2_findChange_68 rfl (fun q68 => ?_) (fun q68 => ?_)
                · replace hf := ift hf q68
                  refine g_iinc (M := mX2_findChange) (j := 6) (L2 := [(5, vi (a5 + (-1))), (6, vr r3), (0, vr (some a0)), (1, vr a1), (2, vr a2), (3, vi a3), (4, vi a4)]) dX2_findChange_77 rfl rfl (Nat.le_of_ble_eq_true rfl) rfl ?_
                  refine g_goto (M := mX2_findChange) (tgt := 8) dX2_findChange_80 rfl ?_
                  exact g_sub (M := mX2_findChange) (L2 := [(0, vr (some a0)), (1, vr a1), (2, vr a2), (3, vi a3), (4, vi a4), (5, vi (a5 + (-1)))]) [2, 3, 4, 5, 6, 0] rfl <| ih a0 a1 a2 a3 a4 (a5 + (-1)) h _ hf
                · replace hf := iff_ hf q68
                  refine g_aload_n (M := mX2_findChange) dX2_findChange_71 rfl 1 rfl ?_
                  refine g_aload (M := mX2_findChange) dX2_findChange_72 0 rfl ?_
                  obtain ⟨b8, eb8, hf⟩ := bd hf
                  obtain ⟨r9, er9, hf⟩ := bd hf
                  refine g_callV (M := mX2_findChange) (kc := 0) (ks := 0) (as := [vr r3]) (rest := []) dX2_findChange_74 cbX2_takeChange vwRX2_138 rfl eb8 rfl (Nat.le_of_ble_eq_true rfl) (Nat.le_of_ble_eq_true rfl) (c_X2_takeChange G b8 r3 h r9 er9) ?_
                  refine g_iinc (M := mX2_findChange) (j := 6) (L2 := [(5, vi (a5 + (-1))), (6, vr r3), (0, vr (some a0)), (1, vr a1), (2, vr a2), (3, vi a3), (4, vi a4)]) dX2_findChange_77 rfl rfl (Nat.le_of_ble_eq_true rfl) rfl ?_
                  refine g_goto (M := mX2_findChange) (tgt := 8) dX2_findChange_80 rfl ?_
                  exact g_sub (M := mX2_findChange) (L2 := [(0, vr (some a0)), (1, vr a1), (2, vr a2), (3, vi a3), (4, vi a4), (5, vi (a5 + (-1)))]) [2, 3, 4, 5, 6, 0] rfl <| ih a0 a1 a2 a3 a4 (a5 + (-1)) r9 _ hf
def f_X2_findChange (a0 : Nat) (a1 : Option Nat) (a2 : Option Nat) (a3 : Int32) (a4 : Int32) (h : AH) : Option AH :=
  (gI 4 1 h a1).bind fun v10 =>
  f_X2_findChange_8 FU a0 a1 a2 a3 a4 (v10 - (1 : Int32)) h
theorem x_X2_findChange (G : Gm) (a0 : Nat) (a1 : Option Nat) (a2 : Option Nat) (a3 : Int32) (a4 : Int32) (h : AH) (o : AH) (hf : f_X2_findChange a0 a1 a2 a3 a4 h = some o) : GO G mX2_findChange 0 0 0 [(0, vr (some a0)), (1, vr a1), (2, vr a2), (3, vi a3), (4, vi a4)] [] h none o := by
  unfold f_X2_findChange at hf
  refine g_aload_n (M := mX2_findChange) dX2_findChange_0 rfl 1 rfl ?_
  obtain ⟨v10, ev10, hf⟩ := bd hf
  refine g_getI (M := mX2_findChange) dX2_findChange_1 flRX2_102 (fun _ => rfl) ev10 ?_
  refine g_iconst (M := mX2_findChange) (v := 1) dX2_findChange_4 rfl ?_
  refine g_isub (M := mX2_findChange) dX2_findChange_5 ?_
  refine g_istore (M := mX2_findChange) (L2 := [(5, vi (v10 - (1 : Int32))), (0, vr (some a0)), (1, vr a1), (2, vr a2), (3, vi a3), (4, vi a4)]) dX2_findChange_6 (Nat.le_of_ble_eq_true rfl) rfl ?_
  exact g_sub (M := mX2_findChange) (L2 := [(0, vr (some a0)), (1, vr a1), (2, vr a2), (3, vi a3), (4, vi a4), (5, vi (v10 - (1 : Int32)))]) [1, 2, 3, 4, 5, 0] rfl <| x_X2_findChange_8 G FU a0 a1 a2 a3 a4 (v10 - (1 : Int32)) h _ hf
theorem c_X2_findChange (G : Gm) (a0 : Nat) (a1 : Option Nat) (a2 : Option Nat) (a3 : Int32) (a4 : Int32) (h : AH) (o : AH) (hf : f_X2_findChange a0 a1 a2 a3 a4 h = some o) : CT G yX2_findChange mX2_findChange none 0 0 [vr (some a0), vr a1, vr a2, vi a3, vi a4] h none o :=
  CT.void (by decide +kernel) rfl rfl rfl (Nat.le_of_ble_eq_true rfl) (x_X2_findChange G a0 a1 a2 a3 a4 h o hf)
theorem cbX2_findChange : CB yX2_findChange mX2_findChange none 4 := ⟨cd_yX2_findChange, itRX2, ⟨by decide, by decide⟩, by decide +kernel, by decide⟩
abbrev mX2_settle : MI := (RX2, "settle", cX2_settle, 8, .return_, 4)
def f_X2_settle_199 (s0 : Option Nat) (s1 : Int32) (h : AH) : Option AH :=
  (pI 2 5 h s0 s1).bind fun h1 =>
  some h1
theorem x_X2_settle_199 (G : Gm) (s0 : Option Nat) (s1 : Int32) (h : AH) (o : AH) (hf : f_X2_settle_199 s0 s1 h = some o) : GO G mX2_settle 0 0 199 [] [vi s1, vr s0] h none o := by
  unfold f_X2_settle_199 at hf
  obtain ⟨h1, eh1, hf⟩ := bd hf
  refine g_putI (M := mX2_settle) dX2_settle_199 flRX2_95 rfl eh1 ?_
  cases hf
  exact g_ret (M := mX2_settle) dX2_settle_202 rfl
def f_X2_settle_171 (a0 : Nat) (a4 : Option Nat) (a5 : Int32) (s0 : Option Nat) (s1 : Int32) (h : AH) : Option AH :=
  (pI 2 4 h s0 s1).bind fun h2 =>
  (gR 2 9 h2 (some a0)).bind fun v3 =>
  if v3 = none then (
    (ck 0 h2 a4).bind fun b6 =>
    (f_X0_wordsOf b6 a5 h2).bind fun r7 =>
    f_X2_settle_199 (some a0) r7 h2
  ) else (
    (gR 2 9 h2 (some a0)).bind fun v4 =>
    (gI 3 9 h2 v4).bind fun v5 =>
    f_X2_settle_199 (some a0) v5 h2
  )
theorem x_X2_settle_171 (G : Gm) (a0 : Nat) (a4 : Option Nat) (a5 : Int32) (s0 : Option Nat) (s1 : Int32) (h : AH) (o : AH) (hf : f_X2_settle_171 a0 a4 a5 s0 s1 h = some o) : GO G mX2_settle 0 0 171 [(0, vr (some a0)), (4, vr a4), (5, vi a5)] [vi s1, vr s0] h none o := by
  unfold f_X2_settle_171 at hf
  obtain ⟨h2, eh2, hf⟩ := bd hf
  refine g_putI (M := mX2_settle) dX2_settle_171 flRX2_85 rfl eh2 ?_
  refine g_aload_n (M := mX2_settle) dX2_settle_174 rfl 0 rfl ?_
  refine g_aload_n (M := mX2_settle) dX2_settle_175 rfl 0 rfl ?_
  obtain ⟨v3, ev3, hf⟩ := bd hf
  refine g_getR (M := mX2_settle) dX2_settle_176 flRX2_82 (fun _ => rfl) ev3 ?_
  refine g_ifnonnull (M := mX2_settle) (tgt := 192) dX2_settle_179 rfl (fun q179 => ?_) (fun q179 => ?_)
  · replace hf := iff_ hf q179
    refine g_aload_n (M := mX2_settle) dX2_settle_192 rfl 0 rfl ?_
    obtain ⟨v4, ev4, hf⟩ := bd hf
    refine g_getR (M := mX2_settle) dX2_settle_193 flRX2_82 (fun _ => rfl) ev4 ?_
    obtain ⟨v5, ev5, hf⟩ := bd hf
    refine g_getI (M := mX2_settle) dX2_settle_196 flRX2_92 (fun _ => rfl) ev5 ?_
    exact g_sub (M := mX2_settle) (L2 := []) [] rfl <| x_X2_settle_199 G (some a0) v5 h2 _ hf
  · replace hf := ift hf q179
    refine g_aload (M := mX2_settle) dX2_settle_182 1 rfl ?_
    refine g_iload (M := mX2_settle) dX2_settle_184 2 rfl ?_
    obtain ⟨b6, eb6, hf⟩ := bd hf
    obtain ⟨r7, er7, hf⟩ := bd hf
    refine g_callV (M := mX2_settle) (kc := 0) (ks := 0) (as := [vi a5]) (rest := [vr (some a0)]) dX2_settle_186 cbX0_wordsOf vwRX2_88 rfl eb6 rfl (Nat.le_of_ble_eq_true rfl) (Nat.le_of_ble_eq_true rfl) (c_X0_wordsOf G b6 a5 h2 r7 er7) ?_
    refine g_goto (M := mX2_settle) (tgt := 199) dX2_settle_189 rfl ?_
    exact g_sub (M := mX2_settle) (L2 := []) [] rfl <| x_X2_settle_199 G (some a0) r7 h2 _ hf
def f_X2_settle (a0 : Nat) (a1 : Option Nat) (a2 : Int32) (a3 : Int32) (a4 : Option Nat) (a5 : Int32) (a6 : Int32) (a7 : Int32) (h : AH) : Option AH :=
  (ck 2 h (some a0)).bind fun b8 =>
  (f_X2_forget b8 h).bind fun r9 =>
  (gR 2 0 r9 (some a0)).bind fun v10 =>
  (ck 5 r9 v10).bind fun b11 =>
  (f_X5_fill b11 a1 a4 a6 a7 r9).bind fun r12 =>
  (gI 0 1 r12 a4).bind fun v13 =>
  (pI 2 6 r12 (some a0) v13).bind fun h14 =>
  (gR 2 0 h14 (some a0)).bind fun v15 =>
  (ck 5 h14 v15).bind fun b16 =>
  (f_X5_at b16 a2 h14).bind fun r17 =>
  if r17 = none then (
    some h14
  ) else (
    (gR 2 0 h14 (some a0)).bind fun v18 =>
    (ck 5 h14 v18).bind fun b19 =>
    (f_X5_at b19 a3 h14).bind fun r20 =>
    if r20 = none then (
      some h14
    ) else (
      (gR 2 0 h14 (some a0)).bind fun v21 =>
      (gI 5 1 h14 v21).bind fun v22 =>
      (gI 2 6 h14 (some a0)).bind fun v23 =>
      if v23 ≤ v22 then (
        (gR 2 1 h14 (some a0)).bind fun v24 =>
        (gR 2 0 h14 (some a0)).bind fun v25 =>
        (ck 5 h14 v25).bind fun b26 =>
        (f_X5_at b26 a2 h14).bind fun r27 =>
        (ck 6 h14 v24).bind fun b28 =>
        (f_X6_fill b28 a1 r27 a6 a7 h14).bind fun r29 =>
        (gR 2 2 r29 (some a0)).bind fun v30 =>
        (gR 2 0 r29 (some a0)).bind fun v31 =>
        (ck 5 r29 v31).bind fun b32 =>
        (f_X5_at b32 a3 r29).bind fun r33 =>
        (ck 6 r29 v30).bind fun b34 =>
        (f_X6_fill b34 a1 r33 a6 a7 r29).bind fun r35 =>
        (ck 2 r35 (some a0)).bind fun b36 =>
        (f_X2_findStrongObjection b36 a1 r35).bind fun r37 =>
        (gR 2 7 r37 (some a0)).bind fun v38 =>
        if v38 = none then (
          (ck 2 r37 (some a0)).bind fun b39 =>
          (f_X2_findReserve b39 a1 a5 r37).bind fun r40 =>
          (gR 2 8 r40 (some a0)).bind fun v41 =>
          if v41 = none then (
            (ck 2 r40 (some a0)).bind fun b42 =>
            (f_X2_findChange b42 a1 a4 a5 a7 r40).bind fun r43 =>
            (gR 2 9 r43 (some a0)).bind fun v44 =>
            if v44 = none then (
              f_X2_settle_171 a0 a4 a5 (some a0) (1 : Int32) r43
            ) else (
              f_X2_settle_171 a0 a4 a5 (some a0) (4 : Int32) r43
            )
          ) else (
            (ck 2 r40 (some a0)).bind fun b45 =>
            (f_X2_settleReserve b45 r40).bind fun r46 =>
            some r46
          )
        ) else (
          (gR 2 7 r37 (some a0)).bind fun v47 =>
          (gR 3 6 r37 v47).bind fun v48 =>
          (pR 2 8 r37 (some a0) v48).bind fun h49 =>
          some h49
        )
      ) else (
        some h14
      )
    )
  )
theorem x_X2_settle (G : Gm) (a0 : Nat) (a1 : Option Nat) (a2 : Int32) (a3 : Int32) (a4 : Option Nat) (a5 : Int32) (a6 : Int32) (a7 : Int32) (h : AH) (o : AH) (hf : f_X2_settle a0 a1 a2 a3 a4 a5 a6 a7 h = some o) : GO G mX2_settle 0 0 0 [(0, vr (some a0)), (1, vr a1), (2, vi a2), (3, vi a3), (4, vr a4), (5, vi a5), (6, vi a6), (7, vi a7)] [] h none o := by
  unfold f_X2_settle at hf
  refine g_aload_n (M := mX2_settle) dX2_settle_0 rfl 0 rfl ?_
  obtain ⟨b8, eb8, hf⟩ := bd hf
  obtain ⟨r9, er9, hf⟩ := bd hf
  refine g_callV (M := mX2_settle) (kc := 0) (ks := 0) (as := []) (rest := []) dX2_settle_1 cbX2_forget vwRX2_32 rfl eb8 rfl (Nat.le_of_ble_eq_true rfl) (Nat.le_of_ble_eq_true rfl) (c_X2_forget G b8 h r9 er9) ?_
  refine g_aload_n (M := mX2_settle) dX2_settle_4 rfl 0 rfl ?_
  obtain ⟨v10, ev10, hf⟩ := bd hf
  refine g_getR (M := mX2_settle) dX2_settle_5 flRX2_12 (fun _ => rfl) ev10 ?_
  refine g_aload_n (M := mX2_settle) dX2_settle_8 rfl 1 rfl ?_
  refine g_aload (M := mX2_settle) dX2_settle_9 4 rfl ?_
  refine g_iload (M := mX2_settle) dX2_settle_11 6 rfl ?_
  refine g_iload (M := mX2_settle) dX2_settle_13 7 rfl ?_
  obtain ⟨b11, eb11, hf⟩ := bd hf
  obtain ⟨r12, er12, hf⟩ := bd hf
  refine g_callV (M := mX2_settle) (kc := 0) (ks := 0) (as := [vr a1, vr a4, vi a6, vi a7]) (rest := []) dX2_settle_15 cbX5_fill vwRX2_35 rfl eb11 rfl (Nat.le_of_ble_eq_true rfl) (Nat.le_of_ble_eq_true rfl) (c_X5_fill G b11 a1 a4 a6 a7 r9 r12 er12) ?_
  refine g_aload_n (M := mX2_settle) dX2_settle_18 rfl 0 rfl ?_
  refine g_aload (M := mX2_settle) dX2_settle_19 4 rfl ?_
  obtain ⟨v13, ev13, hf⟩ := bd hf
  refine g_getI (M := mX2_settle) dX2_settle_21 flRX2_39 (fun _ => rfl) ev13 ?_
  obtain ⟨h14, eh14, hf⟩ := bd hf
  refine g_putI (M := mX2_settle) dX2_settle_24 flRX2_45 rfl eh14 ?_
  refine g_aload_n (M := mX2_settle) dX2_settle_27 rfl 0 rfl ?_
  obtain ⟨v15, ev15, hf⟩ := bd hf
  refine g_getR (M := mX2_settle) dX2_settle_28 flRX2_12 (fun _ => rfl) ev15 ?_
  refine g_iload_n (M := mX2_settle) dX2_settle_31 rfl 2 rfl ?_
  obtain ⟨b16, eb16, hf⟩ := bd hf
  obtain ⟨r17, er17, hf⟩ := bd hf
  refine g_callV (M := mX2_settle) (kc := 0) (ks := 0) (as := [vi a2]) (rest := []) dX2_settle_32 cbX5_at vwRX2_46 rfl eb16 rfl (Nat.le_of_ble_eq_true rfl) (Nat.le_of_ble_eq_true rfl) (c_X5_at G b16 a2 h14 r17 er17) ?_
  refine g_ifnull (M := mX2_settle) (tgt := 63) dX2_settle_35 rfl (fun q35 => ?_) (fun q35 => ?_)
  · replace hf := ift hf q35
    cases hf
    exact g_ret (M := mX2_settle) dX2_settle_63 rfl
  · replace hf := iff_ hf q35
    refine g_aload_n (M := mX2_settle) dX2_settle_38 rfl 0 rfl ?_
    obtain ⟨v18, ev18, hf⟩ := bd hf
    refine g_getR (M := mX2_settle) dX2_settle_39 flRX2_12 (fun _ => rfl) ev18 ?_
    refine g_iload_n (M := mX2_settle) dX2_settle_42 rfl 3 rfl ?_
    obtain ⟨b19, eb19, hf⟩ := bd hf
    obtain ⟨r20, er20, hf⟩ := bd hf
    refine g_callV (M := mX2_settle) (kc := 0) (ks := 0) (as := [vi a3]) (rest := []) dX2_settle_43 cbX5_at vwRX2_46 rfl eb19 rfl (Nat.le_of_ble_eq_true rfl) (Nat.le_of_ble_eq_true rfl) (c_X5_at G b19 a3 h14 r20 er20) ?_
    refine g_ifnull (M := mX2_settle) (tgt := 63) dX2_settle_46 rfl (fun q46 => ?_) (fun q46 => ?_)
    · replace hf := ift hf q46
      cases hf
      exact g_ret (M := mX2_settle) dX2_settle_63 rfl
    · replace hf := iff_ hf q46
      refine g_aload_n (M := mX2_settle) dX2_settle_49 rfl 0 rfl ?_
      obtain ⟨v21, ev21, hf⟩ := bd hf
      refine g_getR (M := mX2_settle) dX2_settle_50 flRX2_12 (fun _ => rfl) ev21 ?_
      obtain ⟨v22, ev22, hf⟩ := bd hf
      refine g_getI (M := mX2_settle) dX2_settle_53 flRX2_50 (fun _ => rfl) ev22 ?_
      refine g_aload_n (M := mX2_settle) dX2_settle_56 rfl 0 rfl ?_
      obtain ⟨v23, ev23, hf⟩ := bd hf
      refine g_getI (M := mX2_settle) dX2_settle_57 flRX2_45 (fun _ => rfl) ev23 ?_
      refine g_ic_ge (M := mX2_settle) (tgt := 64) dX2_settle_60 rfl (fun q60 => ?_) (fun q60 => ?_)
      · replace hf := ift hf q60
        refine g_aload_n (M := mX2_settle) dX2_settle_64 rfl 0 rfl ?_
        obtain ⟨v24, ev24, hf⟩ := bd hf
        refine g_getR (M := mX2_settle) dX2_settle_65 flRX2_21 (fun _ => rfl) ev24 ?_
        refine g_aload_n (M := mX2_settle) dX2_settle_68 rfl 1 rfl ?_
        refine g_aload_n (M := mX2_settle) dX2_settle_69 rfl 0 rfl ?_
        obtain ⟨v25, ev25, hf⟩ := bd hf
        refine g_getR (M := mX2_settle) dX2_settle_70 flRX2_12 (fun _ => rfl) ev25 ?_
        refine g_iload_n (M := mX2_settle) dX2_settle_73 rfl 2 rfl ?_
        obtain ⟨b26, eb26, hf⟩ := bd hf
        obtain ⟨r27, er27, hf⟩ := bd hf
        refine g_callV (M := mX2_settle) (kc := 0) (ks := 0) (as := [vi a2]) (rest := [vr a1, vr v24]) dX2_settle_74 cbX5_at vwRX2_46 rfl eb26 rfl (Nat.le_of_ble_eq_true rfl) (Nat.le_of_ble_eq_true rfl) (c_X5_at G b26 a2 h14 r27 er27) ?_
        refine g_iload (M := mX2_settle) dX2_settle_77 6 rfl ?_
        refine g_iload (M := mX2_settle) dX2_settle_79 7 rfl ?_
        obtain ⟨b28, eb28, hf⟩ := bd hf
        obtain ⟨r29, er29, hf⟩ := bd hf
        refine g_callV (M := mX2_settle) (kc := 0) (ks := 0) (as := [vr a1, vr r27, vi a6, vi a7]) (rest := []) dX2_settle_81 cbX6_fill vwRX2_53 rfl eb28 rfl (Nat.le_of_ble_eq_true rfl) (Nat.le_of_ble_eq_true rfl) (c_X6_fill G b28 a1 r27 a6 a7 h14 r29 er29) ?_
        refine g_aload_n (M := mX2_settle) dX2_settle_84 rfl 0 rfl ?_
        obtain ⟨v30, ev30, hf⟩ := bd hf
        refine g_getR (M := mX2_settle) dX2_settle_85 flRX2_25 (fun _ => rfl) ev30 ?_
        refine g_aload_n (M := mX2_settle) dX2_settle_88 rfl 1 rfl ?_
        refine g_aload_n (M := mX2_settle) dX2_settle_89 rfl 0 rfl ?_
        obtain ⟨v31, ev31, hf⟩ := bd hf
        refine g_getR (M := mX2_settle) dX2_settle_90 flRX2_12 (fun _ => rfl) ev31 ?_
        refine g_iload_n (M := mX2_settle) dX2_settle_93 rfl 3 rfl ?_
        obtain ⟨b32, eb32, hf⟩ := bd hf
        obtain ⟨r33, er33, hf⟩ := bd hf
        refine g_callV (M := mX2_settle) (kc := 0) (ks := 0) (as := [vi a3]) (rest := [vr a1, vr v30]) dX2_settle_94 cbX5_at vwRX2_46 rfl eb32 rfl (Nat.le_of_ble_eq_true rfl) (Nat.le_of_ble_eq_true rfl) (c_X5_at G b32 a3 r29 r33 er33) ?_
        refine g_iload (M := mX2_settle) dX2_settle_97 6 rfl ?_
        refine g_iload (M := mX2_settle) dX2_settle_99 7 rfl ?_
        obtain ⟨b34, eb34, hf⟩ := bd hf
        obtain ⟨r35, er35, hf⟩ := bd hf
        refine g_callV (M := mX2_settle) (kc := 0) (ks := 0) (as := [vr a1, vr r33, vi a6, vi a7]) (rest := []) dX2_settle_101 cbX6_fill vwRX2_53 rfl eb34 rfl (Nat.le_of_ble_eq_true rfl) (Nat.le_of_ble_eq_true rfl) (c_X6_fill G b34 a1 r33 a6 a7 r29 r35 er35) ?_
        refine g_aload_n (M := mX2_settle) dX2_settle_104 rfl 0 rfl ?_
        refine g_aload_n (M := mX2_settle) dX2_settle_105 rfl 1 rfl ?_
        obtain ⟨b36, eb36, hf⟩ := bd hf
        obtain ⟨r37, er37, hf⟩ := bd hf
        refine g_callV (M := mX2_settle) (kc := 0) (ks := 0) (as := [vr a1]) (rest := []) dX2_settle_106 cbX2_findStrongObjection vwRX2_56 rfl eb36 rfl (Nat.le_of_ble_eq_true rfl) (Nat.le_of_ble_eq_true rfl) (c_X2_findStrongObjection G b36 a1 r35 r37 er37) ?_
        refine g_aload_n (M := mX2_settle) dX2_settle_109 rfl 0 rfl ?_
        obtain ⟨v38, ev38, hf⟩ := bd hf
        refine g_getR (M := mX2_settle) dX2_settle_110 flRX2_60 (fun _ => rfl) ev38 ?_
        refine g_ifnull (M := mX2_settle) (tgt := 128) dX2_settle_113 rfl (fun q113 => ?_) (fun q113 => ?_)
        · replace hf := ift hf q113
          refine g_aload_n (M := mX2_settle) dX2_settle_128 rfl 0 rfl ?_
          refine g_aload_n (M := mX2_settle) dX2_settle_129 rfl 1 rfl ?_
          refine g_iload (M := mX2_settle) dX2_settle_130 5 rfl ?_
          obtain ⟨b39, eb39, hf⟩ := bd hf
          obtain ⟨r40, er40, hf⟩ := bd hf
          refine g_callV (M := mX2_settle) (kc := 0) (ks := 0) (as := [vr a1, vi a5]) (rest := []) dX2_settle_132 cbX2_findReserve vwRX2_72 rfl eb39 rfl (Nat.le_of_ble_eq_true rfl) (Nat.le_of_ble_eq_true rfl) (c_X2_findReserve G b39 a1 a5 r37 r40 er40) ?_
          refine g_aload_n (M := mX2_settle) dX2_settle_135 rfl 0 rfl ?_
          obtain ⟨v41, ev41, hf⟩ := bd hf
          refine g_getR (M := mX2_settle) dX2_settle_136 flRX2_69 (fun _ => rfl) ev41 ?_
          refine g_ifnull (M := mX2_settle) (tgt := 147) dX2_settle_139 rfl (fun q139 => ?_) (fun q139 => ?_)
          · replace hf := ift hf q139
            refine g_aload_n (M := mX2_settle) dX2_settle_147 rfl 0 rfl ?_
            refine g_aload_n (M := mX2_settle) dX2_settle_148 rfl 1 rfl ?_
            refine g_aload (M := mX2_settle) dX2_settle_149 4 rfl ?_
            refine g_iload (M := mX2_settle) dX2_settle_151 5 rfl ?_
            refine g_iload (M := mX2_settle) dX2_settle_153 7 rfl ?_
            obtain ⟨b42, eb42, hf⟩ := bd hf
            obtain ⟨r43, er43, hf⟩ := bd hf
            refine g_callV (M := mX2_settle) (kc := 0) (ks := 0) (as := [vr a1, vr a4, vi a5, vi a7]) (rest := []) dX2_settle_155 cbX2_findChange vwRX2_79 rfl eb42 rfl (Nat.le_of_ble_eq_true rfl) (Nat.le_of_ble_eq_true rfl) (c_X2_findChange G b42 a1 a4 a5 a7 r40 r43 er43) ?_
            refine g_aload_n (M := mX2_settle) dX2_settle_158 rfl 0 rfl ?_
            refine g_aload_n (M := mX2_settle) dX2_settle_159 rfl 0 rfl ?_
            obtain ⟨v44, ev44, hf⟩ := bd hf
            refine g_getR (M := mX2_settle) dX2_settle_160 flRX2_82 (fun _ => rfl) ev44 ?_
            refine g_ifnonnull (M := mX2_settle) (tgt := 170) dX2_settle_163 rfl (fun q163 => ?_) (fun q163 => ?_)
            · replace hf := iff_ hf q163
              refine g_iconst (M := mX2_settle) (v := 4) dX2_settle_170 rfl ?_
              exact g_sub (M := mX2_settle) (L2 := [(0, vr (some a0)), (4, vr a4), (5, vi a5)]) [0, 4, 5] rfl <| x_X2_settle_171 G a0 a4 a5 (some a0) (4 : Int32) r43 _ hf
            · replace hf := ift hf q163
              refine g_iconst (M := mX2_settle) (v := 1) dX2_settle_166 rfl ?_
              refine g_goto (M := mX2_settle) (tgt := 171) dX2_settle_167 rfl ?_
              exact g_sub (M := mX2_settle) (L2 := [(0, vr (some a0)), (4, vr a4), (5, vi a5)]) [0, 4, 5] rfl <| x_X2_settle_171 G a0 a4 a5 (some a0) (1 : Int32) r43 _ hf
          · replace hf := iff_ hf q139
            refine g_aload_n (M := mX2_settle) dX2_settle_142 rfl 0 rfl ?_
            obtain ⟨b45, eb45, hf⟩ := bd hf
            obtain ⟨r46, er46, hf⟩ := bd hf
            refine g_callV (M := mX2_settle) (kc := 0) (ks := 0) (as := []) (rest := []) dX2_settle_143 cbX2_settleReserve vwRX2_76 rfl eb45 rfl (Nat.le_of_ble_eq_true rfl) (Nat.le_of_ble_eq_true rfl) (c_X2_settleReserve G b45 r40 r46 er46) ?_
            cases hf
            exact g_ret (M := mX2_settle) dX2_settle_146 rfl
        · replace hf := iff_ hf q113
          refine g_aload_n (M := mX2_settle) dX2_settle_116 rfl 0 rfl ?_
          refine g_aload_n (M := mX2_settle) dX2_settle_117 rfl 0 rfl ?_
          obtain ⟨v47, ev47, hf⟩ := bd hf
          refine g_getR (M := mX2_settle) dX2_settle_118 flRX2_60 (fun _ => rfl) ev47 ?_
          obtain ⟨v48, ev48, hf⟩ := bd hf
          refine g_getR (M := mX2_settle) dX2_settle_121 flRX2_64 (fun _ => rfl) ev48 ?_
          obtain ⟨h49, eh49, hf⟩ := bd hf
          refine g_putR (M := mX2_settle) dX2_settle_124 flRX2_69 (Or.inl ⟨_, rfl⟩) eh49 ?_
          cases hf
          exact g_ret (M := mX2_settle) dX2_settle_127 rfl
      · replace hf := iff_ hf q60
        cases hf
        exact g_ret (M := mX2_settle) dX2_settle_63 rfl
theorem c_X2_settle (G : Gm) (a0 : Nat) (a1 : Option Nat) (a2 : Int32) (a3 : Int32) (a4 : Option Nat) (a5 : Int32) (a6 : Int32) (a7 : Int32) (h : AH) (o : AH) (hf : f_X2_settle a0 a1 a2 a3 a4 a5 a6 a7 h = some o) : CT G yX2_settle mX2_settle none 0 0 [vr (some a0), vr a1, vi a2, vi a3, vr a4, vi a5, vi a6, vi a7] h none o :=
  CT.void (by decide +kernel) rfl rfl rfl (Nat.le_of_ble_eq_true rfl) (x_X2_settle G a0 a1 a2 a3 a4 a5 a6 a7 h o hf)
theorem cbX2_settle : CB yX2_settle mX2_settle none 7 := ⟨cd_yX2_settle, itRX2, ⟨by decide, by decide⟩, by decide +kernel, by decide⟩
