abbrev mX2_cite : MI := (RX2, "cite", cX2_cite, 2, .return_, 0)
def f_X2_cite (a0 : Nat) (a1 : Option Nat) (h : AH) : Option AH :=
  if a1 = none then (
    some h
  ) else (
    (gI 3 0 h a1).bind fun v1 =>
    if v1 < 0 then (
      some h
    ) else (
      (gI 3 0 h a1).bind fun v2 =>
      (gR 2 3 h (some a0)).bind fun v3 =>
      (al h v3).bind fun v4 =>
      if v4 ≤ v2 then (
        some h
      ) else (
        (gR 2 3 h (some a0)).bind fun v5 =>
        (gI 3 0 h a1).bind fun v6 =>
        (stZ 12 h v5 v6 (1 : Int32)).bind fun h7 =>
        some h7
      )
    )
  )
theorem x_X2_cite (G : Gm) (a0 : Nat) (a1 : Option Nat) (h : AH) (o : AH) (hf : f_X2_cite a0 a1 h = some o) : GO G mX2_cite 0 0 0 [(0, vr (some a0)), (1, vr a1)] [] h none o := by
  unfold f_X2_cite at hf
  refine g_aload_n (M := mX2_cite) dX2_cite_0 rfl 1 rfl ?_
  refine g_ifnull (M := mX2_cite) (tgt := 33) dX2_cite_1 rfl (fun q1 => ?_) (fun q1 => ?_)
  · replace hf := ift hf q1
    cases hf
    exact g_ret (M := mX2_cite) dX2_cite_33 rfl
  · replace hf := iff_ hf q1
    refine g_aload_n (M := mX2_cite) dX2_cite_4 rfl 1 rfl ?_
    obtain ⟨v1, ev1, hf⟩ := bd hf
    refine g_getI (M := mX2_cite) dX2_cite_5 flRX2_157 (fun _ => rfl) ev1 ?_
    refine g_if_lt (M := mX2_cite) (tgt := 33) dX2_cite_8 rfl (fun q8 => ?_) (fun q8 => ?_)
    · replace hf := ift hf q8
      cases hf
      exact g_ret (M := mX2_cite) dX2_cite_33 rfl
    · replace hf := iff_ hf q8
      refine g_aload_n (M := mX2_cite) dX2_cite_11 rfl 1 rfl ?_
      obtain ⟨v2, ev2, hf⟩ := bd hf
      refine g_getI (M := mX2_cite) dX2_cite_12 flRX2_157 (fun _ => rfl) ev2 ?_
      refine g_aload_n (M := mX2_cite) dX2_cite_15 rfl 0 rfl ?_
      obtain ⟨v3, ev3, hf⟩ := bd hf
      refine g_getR (M := mX2_cite) dX2_cite_16 flRX2_28 (fun _ => rfl) ev3 ?_
      obtain ⟨v4, ev4, hf⟩ := bd hf
      refine g_alen (M := mX2_cite) dX2_cite_19 ev4 ?_
      refine g_ic_ge (M := mX2_cite) (tgt := 33) dX2_cite_20 rfl (fun q20 => ?_) (fun q20 => ?_)
      · replace hf := ift hf q20
        cases hf
        exact g_ret (M := mX2_cite) dX2_cite_33 rfl
      · replace hf := iff_ hf q20
        refine g_aload_n (M := mX2_cite) dX2_cite_23 rfl 0 rfl ?_
        obtain ⟨v5, ev5, hf⟩ := bd hf
        refine g_getR (M := mX2_cite) dX2_cite_24 flRX2_28 (fun _ => rfl) ev5 ?_
        refine g_aload_n (M := mX2_cite) dX2_cite_27 rfl 1 rfl ?_
        obtain ⟨v6, ev6, hf⟩ := bd hf
        refine g_getI (M := mX2_cite) dX2_cite_28 flRX2_157 (fun _ => rfl) ev6 ?_
        refine g_iconst (M := mX2_cite) (v := 1) dX2_cite_31 rfl ?_
        obtain ⟨h7, eh7, hf⟩ := bd hf
        refine g_zast (M := mX2_cite) dX2_cite_32 eh7 ?_
        cases hf
        exact g_ret (M := mX2_cite) dX2_cite_33 rfl
theorem c_X2_cite (G : Gm) (a0 : Nat) (a1 : Option Nat) (h : AH) (o : AH) (hf : f_X2_cite a0 a1 h = some o) : CT G yX2_cite mX2_cite none 0 0 [vr (some a0), vr a1] h none o :=
  CT.void (by decide +kernel) rfl rfl rfl (Nat.le_of_ble_eq_true rfl) (x_X2_cite G a0 a1 h o hf)
theorem cbX2_cite : CB yX2_cite mX2_cite none 1 := ⟨cd_yX2_cite, itRX2, ⟨by decide, by decide⟩, by decide +kernel, by decide⟩
abbrev mX2_citeNeeded : MI := (RX2, "citeNeeded", cX2_citeNeeded, 4, .return_, 1)
def f_X2_citeNeeded_7 : Nat → Nat → Int32 → Int32 → AH → Option AH
  | 0, _, _, _, _ => none
  | n + 1, a0, a1, a2, h =>
    if (30 : Int32) ≤ a2 then (
      some h
    ) else (
      if a1 ≤ 0 then (
        some h
      ) else (
        (gR 2 0 h (some a0)).bind fun v1 =>
        (ck 5 h v1).bind fun b2 =>
        (f_X5_at b2 a2 h).bind fun r3 =>
        if r3 = none then (
          f_X2_citeNeeded_7 n a0 a1 (a2 + (1)) h
        ) else (
          (ck 2 h (some a0)).bind fun b4 =>
          (f_X2_cite b4 r3 h).bind fun r5 =>
          f_X2_citeNeeded_7 n a0 (a1 + (-1)) (a2 + (1)) r5
        )
      )
    )
theorem x_X2_citeNeeded_7 (G : Gm) : ∀ (n : Nat) (a0 : Nat) (a1 : Int32) (a2 : Int32) (h : AH) (o : AH), f_X2_citeNeeded_7 n a0 a1 a2 h = some o → GO G mX2_citeNeeded 0 0 7 [(0, vr (some a0)), (1, vi a1), (2, vi a2)] [] h none o := by
  intro n
  induction n with
  | zero => intro a0 a1 a2 h o hf; cases hf
  | succ n ih =>
    intro a0 a1 a2 h o hf
    rw [f_X2_citeNeeded_7] at hf
    refine g_iload_n (M := mX2_citeNeeded) dX2_citeNeeded_7 rfl 2 rfl ?_
    refine g_bipush (M := mX2_citeNeeded) (v := 30) dX2_citeNeeded_8 rfl ?_
    refine g_ic_ge (M := mX2_citeNeeded) (tgt := 44) dX2_citeNeeded_10 rfl (fun q10 => ?_) (fun q10 => ?_)
    · replace hf := ift hf q10
      cases hf
      exact g_ret (M := mX2_citeNeeded) dX2_citeNeeded_44 rfl
    · replace hf := iff_ hf q10
      refine g_iload_n (M := mX2_citeNeeded) dX2_citeNeeded_13 rfl 1 rfl ?_
      refine g_if_le (M := mX2_citeNeeded) (tgt := 44) dX2_citeNeeded_14 rfl (fun q14 => ?_) (fun q14 => ?_)
      · replace hf := ift hf q14
        cases hf
        exact g_ret (M := mX2_citeNeeded) dX2_citeNeeded_44 rfl
      · replace hf := iff_ hf q14
        refine g_aload_n (M := mX2_citeNeeded) dX2_citeNeeded_17 rfl 0 rfl ?_
        obtain ⟨v1, ev1, hf⟩ := bd hf
        refine g_getR (M := mX2_citeNeeded) dX2_citeNeeded_18 flRX2_12 (fun _ => rfl) ev1 ?_
        refine g_iload_n (M := mX2_citeNeeded) dX2_citeNeeded_21 rfl 2 rfl ?_
        obtain ⟨b2, eb2, hf⟩ := bd hf
        obtain ⟨r3, er3, hf⟩ := bd hf
        refine g_callV (M := mX2_citeNeeded) (kc := 0) (ks := 0) (as := [vi a2]) (rest := []) dX2_citeNeeded_22 cbX5_at vwRX2_46 rfl eb2 rfl (Nat.le_of_ble_eq_true rfl) (Nat.le_of_ble_eq_true rfl) (c_X5_at G b2 a2 h r3 er3) ?_
        refine g_astore_n (M := mX2_citeNeeded) (L2 := [(3, vr r3), (0, vr (some a0)), (1, vi a1), (2, vi a2)]) dX2_citeNeeded_25 rfl (Nat.le_of_ble_eq_true rfl) rfl ?_
        refine g_aload_n (M := mX2_citeNeeded) dX2_citeNeeded_26 rfl 0 rfl ?_
        refine g_ifnull (M := mX2_citeNeeded) (tgt := 38) dX2_citeNeeded_27 rfl (fun q27 => ?_) (fun q27 => ?_)
        · replace hf := ift hf q27
          refine g_iinc (M := mX2_citeNeeded) (j := 3) (L2 := [(2, vi (a2 + (1))), (3, vr r3), (0, vr (some a0)), (1, vi a1)]) dX2_citeNeeded_38 rfl rfl (Nat.le_of_ble_eq_true rfl) rfl ?_
          refine g_goto (M := mX2_citeNeeded) (tgt := 7) dX2_citeNeeded_41 rfl ?_
          exact g_sub (M := mX2_citeNeeded) (L2 := [(0, vr (some a0)), (1, vi a1), (2, vi (a2 + (1)))]) [2, 3, 0] rfl <| ih a0 a1 (a2 + (1)) h _ hf
        · replace hf := iff_ hf q27
          refine g_aload_n (M := mX2_citeNeeded) dX2_citeNeeded_30 rfl 1 rfl ?_
          refine g_aload_n (M := mX2_citeNeeded) dX2_citeNeeded_31 rfl 0 rfl ?_
          obtain ⟨b4, eb4, hf⟩ := bd hf
          obtain ⟨r5, er5, hf⟩ := bd hf
          refine g_callV (M := mX2_citeNeeded) (kc := 0) (ks := 0) (as := [vr r3]) (rest := []) dX2_citeNeeded_32 cbX2_cite vwRX2_145 rfl eb4 rfl (Nat.le_of_ble_eq_true rfl) (Nat.le_of_ble_eq_true rfl) (c_X2_cite G b4 r3 h r5 er5) ?_
          refine g_iinc (M := mX2_citeNeeded) (j := 2) (L2 := [(1, vi (a1 + (-1))), (3, vr r3), (0, vr (some a0)), (2, vi a2)]) dX2_citeNeeded_35 rfl rfl (Nat.le_of_ble_eq_true rfl) rfl ?_
          refine g_iinc (M := mX2_citeNeeded) (j := 3) (L2 := [(2, vi (a2 + (1))), (1, vi (a1 + (-1))), (3, vr r3), (0, vr (some a0))]) dX2_citeNeeded_38 rfl rfl (Nat.le_of_ble_eq_true rfl) rfl ?_
          refine g_goto (M := mX2_citeNeeded) (tgt := 7) dX2_citeNeeded_41 rfl ?_
          exact g_sub (M := mX2_citeNeeded) (L2 := [(0, vr (some a0)), (1, vi (a1 + (-1))), (2, vi (a2 + (1)))]) [3, 1, 0] rfl <| ih a0 (a1 + (-1)) (a2 + (1)) r5 _ hf
def f_X2_citeNeeded (a0 : Nat) (h : AH) : Option AH :=
  (gI 2 6 h (some a0)).bind fun v6 =>
  f_X2_citeNeeded_7 FU a0 v6 (0 : Int32) h
theorem x_X2_citeNeeded (G : Gm) (a0 : Nat) (h : AH) (o : AH) (hf : f_X2_citeNeeded a0 h = some o) : GO G mX2_citeNeeded 0 0 0 [(0, vr (some a0))] [] h none o := by
  unfold f_X2_citeNeeded at hf
  refine g_aload_n (M := mX2_citeNeeded) dX2_citeNeeded_0 rfl 0 rfl ?_
  obtain ⟨v6, ev6, hf⟩ := bd hf
  refine g_getI (M := mX2_citeNeeded) dX2_citeNeeded_1 flRX2_45 (fun _ => rfl) ev6 ?_
  refine g_istore_n (M := mX2_citeNeeded) (L2 := [(1, vi v6), (0, vr (some a0))]) dX2_citeNeeded_4 rfl (Nat.le_of_ble_eq_true rfl) rfl ?_
  refine g_iconst (M := mX2_citeNeeded) (v := 0) dX2_citeNeeded_5 rfl ?_
  refine g_istore_n (M := mX2_citeNeeded) (L2 := [(2, vi (0 : Int32)), (1, vi v6), (0, vr (some a0))]) dX2_citeNeeded_6 rfl (Nat.le_of_ble_eq_true rfl) rfl ?_
  exact g_sub (M := mX2_citeNeeded) (L2 := [(0, vr (some a0)), (1, vi v6), (2, vi (0 : Int32))]) [2, 1, 0] rfl <| x_X2_citeNeeded_7 G FU a0 v6 (0 : Int32) h _ hf
theorem c_X2_citeNeeded (G : Gm) (a0 : Nat) (h : AH) (o : AH) (hf : f_X2_citeNeeded a0 h = some o) : CT G yX2_citeNeeded mX2_citeNeeded none 0 0 [vr (some a0)] h none o :=
  CT.void (by decide +kernel) rfl rfl rfl (Nat.le_of_ble_eq_true rfl) (x_X2_citeNeeded G a0 h o hf)
theorem cbX2_citeNeeded : CB yX2_citeNeeded mX2_citeNeeded none 0 := ⟨cd_yX2_citeNeeded, itRX2, ⟨by decide, by decide⟩, by decide +kernel, by decide⟩
abbrev mX2_citeSources : MI := (RX2, "citeSources", cX2_citeSources, 4, .return_, 1)
def f_X2_citeSources_61 (K0 : Nat → Option Nat → Int32 → AH → Option AH) (a0 : Nat) (a1 : Option Nat) (a2 : Int32) (s0 : Option Nat) (s1 : Option Nat) (h : AH) : Option AH :=
  (ck 2 h s0).bind fun b1 =>
  (f_X2_cite b1 s1 h).bind fun r2 =>
  K0 a0 a1 (a2 + (-1)) r2
theorem x_X2_citeSources_61 (G : Gm) (K0 : Nat → Option Nat → Int32 → AH → Option AH) (hK0 : ∀ (a0 : Nat) (a1 : Option Nat) (a2 : Int32) (h : AH) (o : AH), K0 a0 a1 a2 h = some o → GO G mX2_citeSources 0 0 8 [(0, vr (some a0)), (1, vr a1), (2, vi a2)] [] h none o) (a0 : Nat) (a1 : Option Nat) (a2 : Int32) (s0 : Option Nat) (s1 : Option Nat) (h : AH) (o : AH) (hf : f_X2_citeSources_61 K0 a0 a1 a2 s0 s1 h = some o) : GO G mX2_citeSources 0 0 61 [(0, vr (some a0)), (1, vr a1), (2, vi a2)] [vr s1, vr s0] h none o := by
  unfold f_X2_citeSources_61 at hf
  obtain ⟨b1, eb1, hf⟩ := bd hf
  obtain ⟨r2, er2, hf⟩ := bd hf
  refine g_callV (M := mX2_citeSources) (kc := 0) (ks := 0) (as := [vr s1]) (rest := []) dX2_citeSources_61 cbX2_cite vwRX2_145 rfl eb1 rfl (Nat.le_of_ble_eq_true rfl) (Nat.le_of_ble_eq_true rfl) (c_X2_cite G b1 s1 h r2 er2) ?_
  refine g_iinc (M := mX2_citeSources) (j := 2) (L2 := [(2, vi (a2 + (-1))), (0, vr (some a0)), (1, vr a1)]) dX2_citeSources_64 rfl rfl (Nat.le_of_ble_eq_true rfl) rfl ?_
  refine g_goto (M := mX2_citeSources) (tgt := 8) dX2_citeSources_67 rfl ?_
  exact g_sub (M := mX2_citeSources) (L2 := [(0, vr (some a0)), (1, vr a1), (2, vi (a2 + (-1)))]) [1, 2, 0] rfl <| hK0 a0 a1 (a2 + (-1)) r2 _ hf
def f_X2_citeSources_30 (K0 : Nat → Option Nat → Int32 → AH → Option AH) (a0 : Nat) (a1 : Option Nat) (a2 : Int32) (s0 : Option Nat) (h : AH) : Option AH :=
  if s0 = none then (
    K0 a0 a1 (a2 + (-1)) h
  ) else (
    (gR 3 7 h s0).bind fun v3 =>
    (ck 2 h (some a0)).bind fun b4 =>
    (f_X2_cite b4 v3 h).bind fun r5 =>
    (gI 3 1 r5 s0).bind fun v6 =>
    if v6 = (8 : Int32) then (
      (gR 3 6 r5 s0).bind fun v7 =>
      f_X2_citeSources_61 K0 a0 a1 a2 (some a0) v7 r5
    ) else (
      f_X2_citeSources_61 K0 a0 a1 a2 (some a0) none r5
    )
  )
theorem x_X2_citeSources_30 (G : Gm) (K0 : Nat → Option Nat → Int32 → AH → Option AH) (hK0 : ∀ (a0 : Nat) (a1 : Option Nat) (a2 : Int32) (h : AH) (o : AH), K0 a0 a1 a2 h = some o → GO G mX2_citeSources 0 0 8 [(0, vr (some a0)), (1, vr a1), (2, vi a2)] [] h none o) (a0 : Nat) (a1 : Option Nat) (a2 : Int32) (s0 : Option Nat) (h : AH) (o : AH) (hf : f_X2_citeSources_30 K0 a0 a1 a2 s0 h = some o) : GO G mX2_citeSources 0 0 30 [(0, vr (some a0)), (1, vr a1), (2, vi a2)] [vr s0] h none o := by
  unfold f_X2_citeSources_30 at hf
  refine g_astore_n (M := mX2_citeSources) (L2 := [(3, vr s0), (0, vr (some a0)), (1, vr a1), (2, vi a2)]) dX2_citeSources_30 rfl (Nat.le_of_ble_eq_true rfl) rfl ?_
  refine g_aload_n (M := mX2_citeSources) dX2_citeSources_31 rfl 0 rfl ?_
  refine g_ifnull (M := mX2_citeSources) (tgt := 64) dX2_citeSources_32 rfl (fun q32 => ?_) (fun q32 => ?_)
  · replace hf := ift hf q32
    refine g_iinc (M := mX2_citeSources) (j := 3) (L2 := [(2, vi (a2 + (-1))), (3, vr s0), (0, vr (some a0)), (1, vr a1)]) dX2_citeSources_64 rfl rfl (Nat.le_of_ble_eq_true rfl) rfl ?_
    refine g_goto (M := mX2_citeSources) (tgt := 8) dX2_citeSources_67 rfl ?_
    exact g_sub (M := mX2_citeSources) (L2 := [(0, vr (some a0)), (1, vr a1), (2, vi (a2 + (-1)))]) [2, 3, 0] rfl <| hK0 a0 a1 (a2 + (-1)) h _ hf
  · replace hf := iff_ hf q32
    refine g_aload_n (M := mX2_citeSources) dX2_citeSources_35 rfl 1 rfl ?_
    refine g_aload_n (M := mX2_citeSources) dX2_citeSources_36 rfl 0 rfl ?_
    obtain ⟨v3, ev3, hf⟩ := bd hf
    refine g_getR (M := mX2_citeSources) dX2_citeSources_37 flRX2_160 (fun _ => rfl) ev3 ?_
    obtain ⟨b4, eb4, hf⟩ := bd hf
    obtain ⟨r5, er5, hf⟩ := bd hf
    refine g_callV (M := mX2_citeSources) (kc := 0) (ks := 0) (as := [vr v3]) (rest := []) dX2_citeSources_40 cbX2_cite vwRX2_145 rfl eb4 rfl (Nat.le_of_ble_eq_true rfl) (Nat.le_of_ble_eq_true rfl) (c_X2_cite G b4 v3 h r5 er5) ?_
    refine g_aload_n (M := mX2_citeSources) dX2_citeSources_43 rfl 1 rfl ?_
    refine g_aload_n (M := mX2_citeSources) dX2_citeSources_44 rfl 0 rfl ?_
    obtain ⟨v6, ev6, hf⟩ := bd hf
    refine g_getI (M := mX2_citeSources) dX2_citeSources_45 flRX2_106 (fun _ => rfl) ev6 ?_
    refine g_bipush (M := mX2_citeSources) (v := 8) dX2_citeSources_48 rfl ?_
    refine g_ic_ne (M := mX2_citeSources) (tgt := 60) dX2_citeSources_50 rfl (fun q50 => ?_) (fun q50 => ?_)
    · replace hf := iff_ hf q50
      refine g_null (M := mX2_citeSources) dX2_citeSources_60 ?_
      exact g_sub (M := mX2_citeSources) (L2 := [(0, vr (some a0)), (1, vr a1), (2, vi a2)]) [1, 2, 3] rfl <| x_X2_citeSources_61 G K0 hK0 a0 a1 a2 (some a0) none r5 _ hf
    · replace hf := ift hf q50
      refine g_aload_n (M := mX2_citeSources) dX2_citeSources_53 rfl 0 rfl ?_
      obtain ⟨v7, ev7, hf⟩ := bd hf
      refine g_getR (M := mX2_citeSources) dX2_citeSources_54 flRX2_64 (fun _ => rfl) ev7 ?_
      refine g_goto (M := mX2_citeSources) (tgt := 61) dX2_citeSources_57 rfl ?_
      exact g_sub (M := mX2_citeSources) (L2 := [(0, vr (some a0)), (1, vr a1), (2, vi a2)]) [1, 2, 3] rfl <| x_X2_citeSources_61 G K0 hK0 a0 a1 a2 (some a0) v7 r5 _ hf
def f_X2_citeSources_8 : Nat → Nat → Option Nat → Int32 → AH → Option AH
  | 0, _, _, _, _ => none
  | n + 1, a0, a1, a2, h =>
    if a2 < 0 then (
      some h
    ) else (
      (gR 2 3 h (some a0)).bind fun v8 =>
      (lI 12 h v8 a2).bind fun v9 =>
      if v9 = 0 then (
        f_X2_citeSources_30 (f_X2_citeSources_8 n) a0 a1 a2 none h
      ) else (
        (ck 4 h a1).bind fun b10 =>
        (f_X4_at b10 a2 h).bind fun r11 =>
        f_X2_citeSources_30 (f_X2_citeSources_8 n) a0 a1 a2 r11 h
      )
    )
theorem x_X2_citeSources_8 (G : Gm) : ∀ (n : Nat) (a0 : Nat) (a1 : Option Nat) (a2 : Int32) (h : AH) (o : AH), f_X2_citeSources_8 n a0 a1 a2 h = some o → GO G mX2_citeSources 0 0 8 [(0, vr (some a0)), (1, vr a1), (2, vi a2)] [] h none o := by
  intro n
  induction n with
  | zero => intro a0 a1 a2 h o hf; cases hf
  | succ n ih =>
    intro a0 a1 a2 h o hf
    rw [f_X2_citeSources_8] at hf
    refine g_iload_n (M := mX2_citeSources) dX2_citeSources_8 rfl 2 rfl ?_
    refine g_if_lt (M := mX2_citeSources) (tgt := 70) dX2_citeSources_9 rfl (fun q9 => ?_) (fun q9 => ?_)
    · replace hf := ift hf q9
      cases hf
      exact g_ret (M := mX2_citeSources) dX2_citeSources_70 rfl
    · replace hf := iff_ hf q9
      refine g_aload_n (M := mX2_citeSources) dX2_citeSources_12 rfl 0 rfl ?_
      obtain ⟨v8, ev8, hf⟩ := bd hf
      refine g_getR (M := mX2_citeSources) dX2_citeSources_13 flRX2_28 (fun _ => rfl) ev8 ?_
      refine g_iload_n (M := mX2_citeSources) dX2_citeSources_16 rfl 2 rfl ?_
      obtain ⟨v9, ev9, hf⟩ := bd hf
      refine g_zald (M := mX2_citeSources) dX2_citeSources_17 ev9 ?_
      refine g_if_eq (M := mX2_citeSources) (tgt := 29) dX2_citeSources_18 rfl (fun q18 => ?_) (fun q18 => ?_)
      · replace hf := ift hf q18
        refine g_null (M := mX2_citeSources) dX2_citeSources_29 ?_
        exact x_X2_citeSources_30 G (f_X2_citeSources_8 n) ih a0 a1 a2 none h _ hf
      · replace hf := iff_ hf q18
        refine g_aload_n (M := mX2_citeSources) dX2_citeSources_21 rfl 1 rfl ?_
        refine g_iload_n (M := mX2_citeSources) dX2_citeSources_22 rfl 2 rfl ?_
        obtain ⟨b10, eb10, hf⟩ := bd hf
        obtain ⟨r11, er11, hf⟩ := bd hf
        refine g_callV (M := mX2_citeSources) (kc := 0) (ks := 0) (as := [vi a2]) (rest := []) dX2_citeSources_23 cbX4_at vwRX2_105 rfl eb10 rfl (Nat.le_of_ble_eq_true rfl) (Nat.le_of_ble_eq_true rfl) (c_X4_at G b10 a2 h r11 er11) ?_
        refine g_goto (M := mX2_citeSources) (tgt := 30) dX2_citeSources_26 rfl ?_
        exact x_X2_citeSources_30 G (f_X2_citeSources_8 n) ih a0 a1 a2 r11 h _ hf
def f_X2_citeSources (a0 : Nat) (a1 : Option Nat) (h : AH) : Option AH :=
  (gR 2 3 h (some a0)).bind fun v12 =>
  (al h v12).bind fun v13 =>
  f_X2_citeSources_8 FU a0 a1 (v13 - (1 : Int32)) h
theorem x_X2_citeSources (G : Gm) (a0 : Nat) (a1 : Option Nat) (h : AH) (o : AH) (hf : f_X2_citeSources a0 a1 h = some o) : GO G mX2_citeSources 0 0 0 [(0, vr (some a0)), (1, vr a1)] [] h none o := by
  unfold f_X2_citeSources at hf
  refine g_aload_n (M := mX2_citeSources) dX2_citeSources_0 rfl 0 rfl ?_
  obtain ⟨v12, ev12, hf⟩ := bd hf
  refine g_getR (M := mX2_citeSources) dX2_citeSources_1 flRX2_28 (fun _ => rfl) ev12 ?_
  obtain ⟨v13, ev13, hf⟩ := bd hf
  refine g_alen (M := mX2_citeSources) dX2_citeSources_4 ev13 ?_
  refine g_iconst (M := mX2_citeSources) (v := 1) dX2_citeSources_5 rfl ?_
  refine g_isub (M := mX2_citeSources) dX2_citeSources_6 ?_
  refine g_istore_n (M := mX2_citeSources) (L2 := [(2, vi (v13 - (1 : Int32))), (0, vr (some a0)), (1, vr a1)]) dX2_citeSources_7 rfl (Nat.le_of_ble_eq_true rfl) rfl ?_
  exact g_sub (M := mX2_citeSources) (L2 := [(0, vr (some a0)), (1, vr a1), (2, vi (v13 - (1 : Int32)))]) [1, 2, 0] rfl <| x_X2_citeSources_8 G FU a0 a1 (v13 - (1 : Int32)) h _ hf
theorem c_X2_citeSources (G : Gm) (a0 : Nat) (a1 : Option Nat) (h : AH) (o : AH) (hf : f_X2_citeSources a0 a1 h = some o) : CT G yX2_citeSources mX2_citeSources none 0 0 [vr (some a0), vr a1] h none o :=
  CT.void (by decide +kernel) rfl rfl rfl (Nat.le_of_ble_eq_true rfl) (x_X2_citeSources G a0 a1 h o hf)
theorem cbX2_citeSources : CB yX2_citeSources mX2_citeSources none 1 := ⟨cd_yX2_citeSources, itRX2, ⟨by decide, by decide⟩, by decide +kernel, by decide⟩
abbrev mX2_nthCited : MI := (RX2, "nthCited", cX2_nthCited, 4, .ireturn, 0)
def f_X2_nthCited_4 : Nat → Nat → Int32 → Int32 → AH → Option Int32
  | 0, _, _, _, _ => none
  | n + 1, a0, a2, a3, h =>
    (gR 2 3 h (some a0)).bind fun v1 =>
    (al h v1).bind fun v2 =>
    if v2 ≤ a3 then (
      some (-1 : Int32)
    ) else (
      if a2 < 0 then (
        some (-1 : Int32)
      ) else (
        (gR 2 3 h (some a0)).bind fun v3 =>
        (lI 12 h v3 a3).bind fun v4 =>
        if v4 = 0 then (
          f_X2_nthCited_4 n a0 a2 (a3 + (1)) h
        ) else (
          if a2 = 0 then (
            some a3
          ) else (
            f_X2_nthCited_4 n a0 (a2 + (-1)) (a3 + (1)) h
          )
        )
      )
    )
theorem x_X2_nthCited_4 (G : Gm) : ∀ (n : Nat) (a0 : Nat) (a2 : Int32) (a3 : Int32) (h : AH) (o : Int32), f_X2_nthCited_4 n a0 a2 a3 h = some o → GO G mX2_nthCited 0 0 4 [(0, vr (some a0)), (2, vi a2), (3, vi a3)] [] h (some (vi o)) h := by
  intro n
  induction n with
  | zero => intro a0 a2 a3 h o hf; cases hf
  | succ n ih =>
    intro a0 a2 a3 h o hf
    rw [f_X2_nthCited_4] at hf
    refine g_iload_n (M := mX2_nthCited) dX2_nthCited_4 rfl 2 rfl ?_
    refine g_aload_n (M := mX2_nthCited) dX2_nthCited_5 rfl 0 rfl ?_
    obtain ⟨v1, ev1, hf⟩ := bd hf
    refine g_getR (M := mX2_nthCited) dX2_nthCited_6 flRX2_28 (fun _ => rfl) ev1 ?_
    obtain ⟨v2, ev2, hf⟩ := bd hf
    refine g_alen (M := mX2_nthCited) dX2_nthCited_9 ev2 ?_
    refine g_ic_ge (M := mX2_nthCited) (tgt := 41) dX2_nthCited_10 rfl (fun q10 => ?_) (fun q10 => ?_)
    · replace hf := ift hf q10
      refine g_iconst (M := mX2_nthCited) (v := -1) dX2_nthCited_41 rfl ?_
      cases hf
      exact g_ret (M := mX2_nthCited) dX2_nthCited_42 rfl
    · replace hf := iff_ hf q10
      refine g_iload_n (M := mX2_nthCited) dX2_nthCited_13 rfl 1 rfl ?_
      refine g_if_lt (M := mX2_nthCited) (tgt := 41) dX2_nthCited_14 rfl (fun q14 => ?_) (fun q14 => ?_)
      · replace hf := ift hf q14
        refine g_iconst (M := mX2_nthCited) (v := -1) dX2_nthCited_41 rfl ?_
        cases hf
        exact g_ret (M := mX2_nthCited) dX2_nthCited_42 rfl
      · replace hf := iff_ hf q14
        refine g_aload_n (M := mX2_nthCited) dX2_nthCited_17 rfl 0 rfl ?_
        obtain ⟨v3, ev3, hf⟩ := bd hf
        refine g_getR (M := mX2_nthCited) dX2_nthCited_18 flRX2_28 (fun _ => rfl) ev3 ?_
        refine g_iload_n (M := mX2_nthCited) dX2_nthCited_21 rfl 2 rfl ?_
        obtain ⟨v4, ev4, hf⟩ := bd hf
        refine g_zald (M := mX2_nthCited) dX2_nthCited_22 ev4 ?_
        refine g_if_eq (M := mX2_nthCited) (tgt := 35) dX2_nthCited_23 rfl (fun q23 => ?_) (fun q23 => ?_)
        · replace hf := ift hf q23
          refine g_iinc (M := mX2_nthCited) (j := 2) (L2 := [(3, vi (a3 + (1))), (0, vr (some a0)), (2, vi a2)]) dX2_nthCited_35 rfl rfl (Nat.le_of_ble_eq_true rfl) rfl ?_
          refine g_goto (M := mX2_nthCited) (tgt := 4) dX2_nthCited_38 rfl ?_
          exact g_sub (M := mX2_nthCited) (L2 := [(0, vr (some a0)), (2, vi a2), (3, vi (a3 + (1)))]) [1, 2, 0] rfl <| ih a0 a2 (a3 + (1)) h _ hf
        · replace hf := iff_ hf q23
          refine g_iload_n (M := mX2_nthCited) dX2_nthCited_26 rfl 1 rfl ?_
          refine g_if_ne (M := mX2_nthCited) (tgt := 32) dX2_nthCited_27 rfl (fun q27 => ?_) (fun q27 => ?_)
          · replace hf := iff_ hf q27
            refine g_iinc (M := mX2_nthCited) (j := 1) (L2 := [(2, vi (a2 + (-1))), (0, vr (some a0)), (3, vi a3)]) dX2_nthCited_32 rfl rfl (Nat.le_of_ble_eq_true rfl) rfl ?_
            refine g_iinc (M := mX2_nthCited) (j := 2) (L2 := [(3, vi (a3 + (1))), (2, vi (a2 + (-1))), (0, vr (some a0))]) dX2_nthCited_35 rfl rfl (Nat.le_of_ble_eq_true rfl) rfl ?_
            refine g_goto (M := mX2_nthCited) (tgt := 4) dX2_nthCited_38 rfl ?_
            exact g_sub (M := mX2_nthCited) (L2 := [(0, vr (some a0)), (2, vi (a2 + (-1))), (3, vi (a3 + (1)))]) [2, 1, 0] rfl <| ih a0 (a2 + (-1)) (a3 + (1)) h _ hf
          · replace hf := ift hf q27
            refine g_iload_n (M := mX2_nthCited) dX2_nthCited_30 rfl 2 rfl ?_
            cases hf
            exact g_ret (M := mX2_nthCited) dX2_nthCited_31 rfl
def f_X2_nthCited (a0 : Nat) (a1 : Int32) (h : AH) : Option Int32 :=
  f_X2_nthCited_4 FU a0 a1 (0 : Int32) h
theorem x_X2_nthCited (G : Gm) (a0 : Nat) (a1 : Int32) (h : AH) (o : Int32) (hf : f_X2_nthCited a0 a1 h = some o) : GO G mX2_nthCited 0 0 0 [(0, vr (some a0)), (1, vi a1)] [] h (some (vi o)) h := by
  unfold f_X2_nthCited at hf
  refine g_iload_n (M := mX2_nthCited) dX2_nthCited_0 rfl 1 rfl ?_
  refine g_istore_n (M := mX2_nthCited) (L2 := [(2, vi a1), (0, vr (some a0)), (1, vi a1)]) dX2_nthCited_1 rfl (Nat.le_of_ble_eq_true rfl) rfl ?_
  refine g_iconst (M := mX2_nthCited) (v := 0) dX2_nthCited_2 rfl ?_
  refine g_istore_n (M := mX2_nthCited) (L2 := [(3, vi (0 : Int32)), (2, vi a1), (0, vr (some a0)), (1, vi a1)]) dX2_nthCited_3 rfl (Nat.le_of_ble_eq_true rfl) rfl ?_
  exact g_sub (M := mX2_nthCited) (L2 := [(0, vr (some a0)), (2, vi a1), (3, vi (0 : Int32))]) [2, 1, 0] rfl <| x_X2_nthCited_4 G FU a0 a1 (0 : Int32) h _ hf
theorem c_X2_nthCited (G : Gm) (a0 : Nat) (a1 : Int32) (h : AH) (o : Int32) (hf : f_X2_nthCited a0 a1 h = some o) : CT G yX2_nthCited mX2_nthCited (some .int) 0 0 [vr (some a0), vi a1] h (some (vi o)) h :=
  CT.int (by decide +kernel) rfl rfl rfl (Nat.le_of_ble_eq_true rfl) (x_X2_nthCited G a0 a1 h o hf)
theorem cbX2_nthCited : CB yX2_nthCited mX2_nthCited (some .int) 1 := ⟨cd_yX2_nthCited, itRX2, ⟨by decide, by decide⟩, by decide +kernel, by decide⟩
abbrev mX2_reason : MI := (RX2, "reason", cX2_reason, 4, .ireturn, 2)
def f_X2_reason_113 (a0 : Nat) (a1 : Option Nat) (a2 : Int32) (h : AH) : Option (Int32 × AH) :=
  (ck 2 h (some a0)).bind fun b1 =>
  (f_X2_citeSources b1 a1 h).bind fun r2 =>
  (ck 2 r2 (some a0)).bind fun b3 =>
  (f_X2_nthCited b3 a2 r2).bind fun r4 =>
  some (r4, r2)
theorem x_X2_reason_113 (G : Gm) (a0 : Nat) (a1 : Option Nat) (a2 : Int32) (h : AH) (o : (Int32 × AH)) (hf : f_X2_reason_113 a0 a1 a2 h = some o) : GO G mX2_reason 0 0 113 [(0, vr (some a0)), (1, vr a1), (2, vi a2)] [] h (some (vi o.1)) o.2 := by
  unfold f_X2_reason_113 at hf
  refine g_aload_n (M := mX2_reason) dX2_reason_113 rfl 0 rfl ?_
  refine g_aload_n (M := mX2_reason) dX2_reason_114 rfl 1 rfl ?_
  obtain ⟨b1, eb1, hf⟩ := bd hf
  obtain ⟨r2, er2, hf⟩ := bd hf
  refine g_callV (M := mX2_reason) (kc := 0) (ks := 0) (as := [vr a1]) (rest := []) dX2_reason_115 cbX2_citeSources vwRX2_151 rfl eb1 rfl (Nat.le_of_ble_eq_true rfl) (Nat.le_of_ble_eq_true rfl) (c_X2_citeSources G b1 a1 h r2 er2) ?_
  refine g_aload_n (M := mX2_reason) dX2_reason_118 rfl 0 rfl ?_
  refine g_iload_n (M := mX2_reason) dX2_reason_119 rfl 2 rfl ?_
  obtain ⟨b3, eb3, hf⟩ := bd hf
  obtain ⟨r4, er4, hf⟩ := bd hf
  refine g_callV (M := mX2_reason) (kc := 0) (ks := 0) (as := [vi a2]) (rest := []) dX2_reason_120 cbX2_nthCited vwRX2_154 rfl eb3 rfl (Nat.le_of_ble_eq_true rfl) (Nat.le_of_ble_eq_true rfl) (c_X2_nthCited G b3 a2 r2 r4 er4) ?_
  cases hf
  exact g_ret (M := mX2_reason) dX2_reason_123 rfl
def f_X2_reason_40 (a0 : Nat) (a1 : Option Nat) (a2 : Int32) (h : AH) : Option (Int32 × AH) :=
  (gR 2 1 h (some a0)).bind fun v5 =>
  (gR 6 1 h v5).bind fun v6 =>
  (ck 2 h (some a0)).bind fun b7 =>
  (f_X2_cite b7 v6 h).bind fun r8 =>
  (gR 2 2 r8 (some a0)).bind fun v9 =>
  (gR 6 1 r8 v9).bind fun v10 =>
  (ck 2 r8 (some a0)).bind fun b11 =>
  (f_X2_cite b11 v10 r8).bind fun r12 =>
  (gR 2 7 r12 (some a0)).bind fun v13 =>
  (ck 2 r12 (some a0)).bind fun b14 =>
  (f_X2_cite b14 v13 r12).bind fun r15 =>
  (gR 2 8 r15 (some a0)).bind fun v16 =>
  (ck 2 r15 (some a0)).bind fun b17 =>
  (f_X2_cite b17 v16 r15).bind fun r18 =>
  (gR 2 9 r18 (some a0)).bind fun v19 =>
  (ck 2 r18 (some a0)).bind fun b20 =>
  (f_X2_cite b20 v19 r18).bind fun r21 =>
  (gR 2 10 r21 (some a0)).bind fun v22 =>
  (ck 2 r21 (some a0)).bind fun b23 =>
  (f_X2_cite b23 v22 r21).bind fun r24 =>
  (gR 2 11 r24 (some a0)).bind fun v25 =>
  (ck 2 r24 (some a0)).bind fun b26 =>
  (f_X2_cite b26 v25 r24).bind fun r27 =>
  (gI 2 4 r27 (some a0)).bind fun v28 =>
  if v28 = 0 then (
    f_X2_reason_113 a0 a1 a2 r27
  ) else (
    (ck 2 r27 (some a0)).bind fun b29 =>
    (f_X2_citeNeeded b29 r27).bind fun r30 =>
    f_X2_reason_113 a0 a1 a2 r30
  )
theorem x_X2_reason_40 (G : Gm) (a0 : Nat) (a1 : Option Nat) (a2 : Int32) (h : AH) (o : (Int32 × AH)) (hf : f_X2_reason_40 a0 a1 a2 h = some o) : GO G mX2_reason 0 0 40 [(0, vr (some a0)), (1, vr a1), (2, vi a2)] [] h (some (vi o.1)) o.2 := by
  unfold f_X2_reason_40 at hf
  refine g_aload_n (M := mX2_reason) dX2_reason_40 rfl 0 rfl ?_
  refine g_aload_n (M := mX2_reason) dX2_reason_41 rfl 0 rfl ?_
  obtain ⟨v5, ev5, hf⟩ := bd hf
  refine g_getR (M := mX2_reason) dX2_reason_42 flRX2_21 (fun _ => rfl) ev5 ?_
  obtain ⟨v6, ev6, hf⟩ := bd hf
  refine g_getR (M := mX2_reason) dX2_reason_45 flRX2_142 (fun _ => rfl) ev6 ?_
  obtain ⟨b7, eb7, hf⟩ := bd hf
  obtain ⟨r8, er8, hf⟩ := bd hf
  refine g_callV (M := mX2_reason) (kc := 0) (ks := 0) (as := [vr v6]) (rest := []) dX2_reason_48 cbX2_cite vwRX2_145 rfl eb7 rfl (Nat.le_of_ble_eq_true rfl) (Nat.le_of_ble_eq_true rfl) (c_X2_cite G b7 v6 h r8 er8) ?_
  refine g_aload_n (M := mX2_reason) dX2_reason_51 rfl 0 rfl ?_
  refine g_aload_n (M := mX2_reason) dX2_reason_52 rfl 0 rfl ?_
  obtain ⟨v9, ev9, hf⟩ := bd hf
  refine g_getR (M := mX2_reason) dX2_reason_53 flRX2_25 (fun _ => rfl) ev9 ?_
  obtain ⟨v10, ev10, hf⟩ := bd hf
  refine g_getR (M := mX2_reason) dX2_reason_56 flRX2_142 (fun _ => rfl) ev10 ?_
  obtain ⟨b11, eb11, hf⟩ := bd hf
  obtain ⟨r12, er12, hf⟩ := bd hf
  refine g_callV (M := mX2_reason) (kc := 0) (ks := 0) (as := [vr v10]) (rest := []) dX2_reason_59 cbX2_cite vwRX2_145 rfl eb11 rfl (Nat.le_of_ble_eq_true rfl) (Nat.le_of_ble_eq_true rfl) (c_X2_cite G b11 v10 r8 r12 er12) ?_
  refine g_aload_n (M := mX2_reason) dX2_reason_62 rfl 0 rfl ?_
  refine g_aload_n (M := mX2_reason) dX2_reason_63 rfl 0 rfl ?_
  obtain ⟨v13, ev13, hf⟩ := bd hf
  refine g_getR (M := mX2_reason) dX2_reason_64 flRX2_60 (fun _ => rfl) ev13 ?_
  obtain ⟨b14, eb14, hf⟩ := bd hf
  obtain ⟨r15, er15, hf⟩ := bd hf
  refine g_callV (M := mX2_reason) (kc := 0) (ks := 0) (as := [vr v13]) (rest := []) dX2_reason_67 cbX2_cite vwRX2_145 rfl eb14 rfl (Nat.le_of_ble_eq_true rfl) (Nat.le_of_ble_eq_true rfl) (c_X2_cite G b14 v13 r12 r15 er15) ?_
  refine g_aload_n (M := mX2_reason) dX2_reason_70 rfl 0 rfl ?_
  refine g_aload_n (M := mX2_reason) dX2_reason_71 rfl 0 rfl ?_
  obtain ⟨v16, ev16, hf⟩ := bd hf
  refine g_getR (M := mX2_reason) dX2_reason_72 flRX2_69 (fun _ => rfl) ev16 ?_
  obtain ⟨b17, eb17, hf⟩ := bd hf
  obtain ⟨r18, er18, hf⟩ := bd hf
  refine g_callV (M := mX2_reason) (kc := 0) (ks := 0) (as := [vr v16]) (rest := []) dX2_reason_75 cbX2_cite vwRX2_145 rfl eb17 rfl (Nat.le_of_ble_eq_true rfl) (Nat.le_of_ble_eq_true rfl) (c_X2_cite G b17 v16 r15 r18 er18) ?_
  refine g_aload_n (M := mX2_reason) dX2_reason_78 rfl 0 rfl ?_
  refine g_aload_n (M := mX2_reason) dX2_reason_79 rfl 0 rfl ?_
  obtain ⟨v19, ev19, hf⟩ := bd hf
  refine g_getR (M := mX2_reason) dX2_reason_80 flRX2_82 (fun _ => rfl) ev19 ?_
  obtain ⟨b20, eb20, hf⟩ := bd hf
  obtain ⟨r21, er21, hf⟩ := bd hf
  refine g_callV (M := mX2_reason) (kc := 0) (ks := 0) (as := [vr v19]) (rest := []) dX2_reason_83 cbX2_cite vwRX2_145 rfl eb20 rfl (Nat.le_of_ble_eq_true rfl) (Nat.le_of_ble_eq_true rfl) (c_X2_cite G b20 v19 r18 r21 er21) ?_
  refine g_aload_n (M := mX2_reason) dX2_reason_86 rfl 0 rfl ?_
  refine g_aload_n (M := mX2_reason) dX2_reason_87 rfl 0 rfl ?_
  obtain ⟨v22, ev22, hf⟩ := bd hf
  refine g_getR (M := mX2_reason) dX2_reason_88 flRX2_96 (fun _ => rfl) ev22 ?_
  obtain ⟨b23, eb23, hf⟩ := bd hf
  obtain ⟨r24, er24, hf⟩ := bd hf
  refine g_callV (M := mX2_reason) (kc := 0) (ks := 0) (as := [vr v22]) (rest := []) dX2_reason_91 cbX2_cite vwRX2_145 rfl eb23 rfl (Nat.le_of_ble_eq_true rfl) (Nat.le_of_ble_eq_true rfl) (c_X2_cite G b23 v22 r21 r24 er24) ?_
  refine g_aload_n (M := mX2_reason) dX2_reason_94 rfl 0 rfl ?_
  refine g_aload_n (M := mX2_reason) dX2_reason_95 rfl 0 rfl ?_
  obtain ⟨v25, ev25, hf⟩ := bd hf
  refine g_getR (M := mX2_reason) dX2_reason_96 flRX2_99 (fun _ => rfl) ev25 ?_
  obtain ⟨b26, eb26, hf⟩ := bd hf
  obtain ⟨r27, er27, hf⟩ := bd hf
  refine g_callV (M := mX2_reason) (kc := 0) (ks := 0) (as := [vr v25]) (rest := []) dX2_reason_99 cbX2_cite vwRX2_145 rfl eb26 rfl (Nat.le_of_ble_eq_true rfl) (Nat.le_of_ble_eq_true rfl) (c_X2_cite G b26 v25 r24 r27 er27) ?_
  refine g_aload_n (M := mX2_reason) dX2_reason_102 rfl 0 rfl ?_
  obtain ⟨v28, ev28, hf⟩ := bd hf
  refine g_getI (M := mX2_reason) dX2_reason_103 flRX2_85 (fun _ => rfl) ev28 ?_
  refine g_if_eq (M := mX2_reason) (tgt := 113) dX2_reason_106 rfl (fun q106 => ?_) (fun q106 => ?_)
  · replace hf := ift hf q106
    exact x_X2_reason_113 G a0 a1 a2 r27 _ hf
  · replace hf := iff_ hf q106
    refine g_aload_n (M := mX2_reason) dX2_reason_109 rfl 0 rfl ?_
    obtain ⟨b29, eb29, hf⟩ := bd hf
    obtain ⟨r30, er30, hf⟩ := bd hf
    refine g_callV (M := mX2_reason) (kc := 0) (ks := 0) (as := []) (rest := []) dX2_reason_110 cbX2_citeNeeded vwRX2_148 rfl eb29 rfl (Nat.le_of_ble_eq_true rfl) (Nat.le_of_ble_eq_true rfl) (c_X2_citeNeeded G b29 r27 r30 er30) ?_
    exact x_X2_reason_113 G a0 a1 a2 r30 _ hf
def f_X2_reason_2 : Nat → Nat → Option Nat → Int32 → Int32 → AH → Option (Int32 × AH)
  | 0, _, _, _, _, _ => none
  | n + 1, a0, a1, a2, a3, h =>
    (gR 2 3 h (some a0)).bind fun v31 =>
    (al h v31).bind fun v32 =>
    if v32 ≤ a3 then (
      (gI 2 4 h (some a0)).bind fun v33 =>
      if v33 = 0 then (
        (gR 2 7 h (some a0)).bind fun v34 =>
        if v34 = none then (
          some ((-1 : Int32), h)
        ) else (
          f_X2_reason_40 a0 a1 a2 h
        )
      ) else (
        f_X2_reason_40 a0 a1 a2 h
      )
    ) else (
      (gR 2 3 h (some a0)).bind fun v35 =>
      (stZ 12 h v35 a3 (0 : Int32)).bind fun h36 =>
      f_X2_reason_2 n a0 a1 a2 (a3 + (1)) h36
    )
theorem x_X2_reason_2 (G : Gm) : ∀ (n : Nat) (a0 : Nat) (a1 : Option Nat) (a2 : Int32) (a3 : Int32) (h : AH) (o : (Int32 × AH)), f_X2_reason_2 n a0 a1 a2 a3 h = some o → GO G mX2_reason 0 0 2 [(0, vr (some a0)), (1, vr a1), (2, vi a2), (3, vi a3)] [] h (some (vi o.1)) o.2 := by
  intro n
  induction n with
  | zero => intro a0 a1 a2 a3 h o hf; cases hf
  | succ n ih =>
    intro a0 a1 a2 a3 h o hf
    rw [f_X2_reason_2] at hf
    refine g_iload_n (M := mX2_reason) dX2_reason_2 rfl 3 rfl ?_
    refine g_aload_n (M := mX2_reason) dX2_reason_3 rfl 0 rfl ?_
    obtain ⟨v31, ev31, hf⟩ := bd hf
    refine g_getR (M := mX2_reason) dX2_reason_4 flRX2_28 (fun _ => rfl) ev31 ?_
    obtain ⟨v32, ev32, hf⟩ := bd hf
    refine g_alen (M := mX2_reason) dX2_reason_7 ev32 ?_
    refine g_ic_ge (M := mX2_reason) (tgt := 24) dX2_reason_8 rfl (fun q8 => ?_) (fun q8 => ?_)
    · replace hf := ift hf q8
      refine g_aload_n (M := mX2_reason) dX2_reason_24 rfl 0 rfl ?_
      obtain ⟨v33, ev33, hf⟩ := bd hf
      refine g_getI (M := mX2_reason) dX2_reason_25 flRX2_85 (fun _ => rfl) ev33 ?_
      refine g_if_ne (M := mX2_reason) (tgt := 40) dX2_reason_28 rfl (fun q28 => ?_) (fun q28 => ?_)
      · replace hf := iff_ hf q28
        exact g_sub (M := mX2_reason) (L2 := [(0, vr (some a0)), (1, vr a1), (2, vi a2)]) [0, 1, 2] rfl <| x_X2_reason_40 G a0 a1 a2 h _ hf
      · replace hf := ift hf q28
        refine g_aload_n (M := mX2_reason) dX2_reason_31 rfl 0 rfl ?_
        obtain ⟨v34, ev34, hf⟩ := bd hf
        refine g_getR (M := mX2_reason) dX2_reason_32 flRX2_60 (fun _ => rfl) ev34 ?_
        refine g_ifnonnull (M := mX2_reason) (tgt := 40) dX2_reason_35 rfl (fun q35 => ?_) (fun q35 => ?_)
        · replace hf := iff_ hf q35
          exact g_sub (M := mX2_reason) (L2 := [(0, vr (some a0)), (1, vr a1), (2, vi a2)]) [0, 1, 2] rfl <| x_X2_reason_40 G a0 a1 a2 h _ hf
        · replace hf := ift hf q35
          refine g_iconst (M := mX2_reason) (v := -1) dX2_reason_38 rfl ?_
          cases hf
          exact g_ret (M := mX2_reason) dX2_reason_39 rfl
    · replace hf := iff_ hf q8
      refine g_aload_n (M := mX2_reason) dX2_reason_11 rfl 0 rfl ?_
      obtain ⟨v35, ev35, hf⟩ := bd hf
      refine g_getR (M := mX2_reason) dX2_reason_12 flRX2_28 (fun _ => rfl) ev35 ?_
      refine g_iload_n (M := mX2_reason) dX2_reason_15 rfl 3 rfl ?_
      refine g_iconst (M := mX2_reason) (v := 0) dX2_reason_16 rfl ?_
      obtain ⟨h36, eh36, hf⟩ := bd hf
      refine g_zast (M := mX2_reason) dX2_reason_17 eh36 ?_
      refine g_iinc (M := mX2_reason) (j := 3) (L2 := [(3, vi (a3 + (1))), (0, vr (some a0)), (1, vr a1), (2, vi a2)]) dX2_reason_18 rfl rfl (Nat.le_of_ble_eq_true rfl) rfl ?_
      refine g_goto (M := mX2_reason) (tgt := 2) dX2_reason_21 rfl ?_
      exact g_sub (M := mX2_reason) (L2 := [(0, vr (some a0)), (1, vr a1), (2, vi a2), (3, vi (a3 + (1)))]) [1, 2, 3, 0] rfl <| ih a0 a1 a2 (a3 + (1)) h36 _ hf
def f_X2_reason (a0 : Nat) (a1 : Option Nat) (a2 : Int32) (h : AH) : Option (Int32 × AH) :=
  f_X2_reason_2 FU a0 a1 a2 (0 : Int32) h
theorem x_X2_reason (G : Gm) (a0 : Nat) (a1 : Option Nat) (a2 : Int32) (h : AH) (o : (Int32 × AH)) (hf : f_X2_reason a0 a1 a2 h = some o) : GO G mX2_reason 0 0 0 [(0, vr (some a0)), (1, vr a1), (2, vi a2)] [] h (some (vi o.1)) o.2 := by
  unfold f_X2_reason at hf
  refine g_iconst (M := mX2_reason) (v := 0) dX2_reason_0 rfl ?_
  refine g_istore_n (M := mX2_reason) (L2 := [(3, vi (0 : Int32)), (0, vr (some a0)), (1, vr a1), (2, vi a2)]) dX2_reason_1 rfl (Nat.le_of_ble_eq_true rfl) rfl ?_
  exact g_sub (M := mX2_reason) (L2 := [(0, vr (some a0)), (1, vr a1), (2, vi a2), (3, vi (0 : Int32))]) [1, 2, 3, 0] rfl <| x_X2_reason_2 G FU a0 a1 a2 (0 : Int32) h _ hf
theorem c_X2_reason (G : Gm) (a0 : Nat) (a1 : Option Nat) (a2 : Int32) (h : AH) (o : (Int32 × AH)) (hf : f_X2_reason a0 a1 a2 h = some o) : CT G yX2_reason mX2_reason (some .int) 0 0 [vr (some a0), vr a1, vi a2] h (some (vi o.1)) o.2 :=
  CT.int (by decide +kernel) rfl rfl rfl (Nat.le_of_ble_eq_true rfl) (x_X2_reason G a0 a1 a2 h o hf)
theorem cbX2_reason : CB yX2_reason mX2_reason (some .int) 2 := ⟨cd_yX2_reason, itRX2, ⟨by decide, by decide⟩, by decide +kernel, by decide⟩
abbrev mX3_init : MI := (RX3, "<init>", cX3_init, 7, .return_, 1)
def f_X3_init (a0 : Nat) (a1 : Int32) (a2 : Int32) (a3 : Int32) (a4 : Option Nat) (a5 : Int32) (a6 : Int32) (h : AH) : Option AH :=
  (pI 3 8 h (some a0) (-1 : Int32)).bind fun h1 =>
  (pI 3 9 h1 (some a0) (-1 : Int32)).bind fun h2 =>
  (pI 3 0 h2 (some a0) a1).bind fun h3 =>
  (pI 3 1 h3 (some a0) a2).bind fun h4 =>
  (pI 3 2 h4 (some a0) a3).bind fun h5 =>
  (pR 3 3 h5 (some a0) a4).bind fun h6 =>
  (pI 3 4 h6 (some a0) a5).bind fun h7 =>
  (pI 3 5 h7 (some a0) a6).bind fun h8 =>
  some h8
theorem x_X3_init (G : Gm) (a0 : Nat) (a1 : Int32) (a2 : Int32) (a3 : Int32) (a4 : Option Nat) (a5 : Int32) (a6 : Int32) (h : AH) (o : AH) (hf : f_X3_init a0 a1 a2 a3 a4 a5 a6 h = some o) : GO G mX3_init 0 0 0 [(0, vr (some a0)), (1, vi a1), (2, vi a2), (3, vi a3), (4, vr a4), (5, vi a5), (6, vi a6)] [] h none o := by
  unfold f_X3_init at hf
  refine g_aload_n (M := mX3_init) dX3_init_0 rfl 0 rfl ?_
  refine g_obj (M := mX3_init) dX3_init_1 mlRX3_3 im_objectInit cd_objectInit (Nat.le_of_ble_eq_true rfl) (by decide) ?_
  refine g_aload_n (M := mX3_init) dX3_init_4 rfl 0 rfl ?_
  refine g_iconst (M := mX3_init) (v := -1) dX3_init_5 rfl ?_
  obtain ⟨h1, eh1, hf⟩ := bd hf
  refine g_putI (M := mX3_init) dX3_init_6 flRX3_9 rfl eh1 ?_
  refine g_aload_n (M := mX3_init) dX3_init_9 rfl 0 rfl ?_
  refine g_iconst (M := mX3_init) (v := -1) dX3_init_10 rfl ?_
  obtain ⟨h2, eh2, hf⟩ := bd hf
  refine g_putI (M := mX3_init) dX3_init_11 flRX3_15 rfl eh2 ?_
  refine g_aload_n (M := mX3_init) dX3_init_14 rfl 0 rfl ?_
  refine g_iload_n (M := mX3_init) dX3_init_15 rfl 1 rfl ?_
  obtain ⟨h3, eh3, hf⟩ := bd hf
  refine g_putIF (M := mX3_init) dX3_init_16 flRX3_18 rfl rfl rfl eh3 ?_
  refine g_aload_n (M := mX3_init) dX3_init_19 rfl 0 rfl ?_
  refine g_iload_n (M := mX3_init) dX3_init_20 rfl 2 rfl ?_
  obtain ⟨h4, eh4, hf⟩ := bd hf
  refine g_putIF (M := mX3_init) dX3_init_21 flRX3_21 rfl rfl rfl eh4 ?_
  refine g_aload_n (M := mX3_init) dX3_init_24 rfl 0 rfl ?_
  refine g_iload_n (M := mX3_init) dX3_init_25 rfl 3 rfl ?_
  obtain ⟨h5, eh5, hf⟩ := bd hf
  refine g_putIF (M := mX3_init) dX3_init_26 flRX3_24 rfl rfl rfl eh5 ?_
  refine g_aload_n (M := mX3_init) dX3_init_29 rfl 0 rfl ?_
  refine g_aload (M := mX3_init) dX3_init_30 4 rfl ?_
  obtain ⟨h6, eh6, hf⟩ := bd hf
  refine g_putRF (M := mX3_init) dX3_init_32 flRX3_27 rfl rfl (Or.inl ⟨_, rfl⟩) eh6 ?_
  refine g_aload_n (M := mX3_init) dX3_init_35 rfl 0 rfl ?_
  refine g_iload (M := mX3_init) dX3_init_36 5 rfl ?_
  obtain ⟨h7, eh7, hf⟩ := bd hf
  refine g_putIF (M := mX3_init) dX3_init_38 flRX3_31 rfl rfl rfl eh7 ?_
  refine g_aload_n (M := mX3_init) dX3_init_41 rfl 0 rfl ?_
  refine g_iload (M := mX3_init) dX3_init_42 6 rfl ?_
  obtain ⟨h8, eh8, hf⟩ := bd hf
  refine g_putIF (M := mX3_init) dX3_init_44 flRX3_34 rfl rfl rfl eh8 ?_
  cases hf
  exact g_ret (M := mX3_init) dX3_init_47 rfl
theorem c_X3_init (G : Gm) (a0 : Nat) (a1 : Int32) (a2 : Int32) (a3 : Int32) (a4 : Option Nat) (a5 : Int32) (a6 : Int32) (h : AH) (o : AH) (hf : f_X3_init a0 a1 a2 a3 a4 a5 a6 h = some o) : CT G yX3_init mX3_init none 0 0 [vr (some a0), vi a1, vi a2, vi a3, vr a4, vi a5, vi a6] h none o :=
  CT.void (by decide +kernel) rfl rfl rfl (Nat.le_of_ble_eq_true rfl) (x_X3_init G a0 a1 a2 a3 a4 a5 a6 h o hf)
theorem cbX3_init : CB yX3_init mX3_init none 6 := ⟨cd_yX3_init, itRX3, ⟨by decide, by decide⟩, by decide +kernel, by decide⟩
abbrev mX3_isWithdrawable : MI := (RX3, "isWithdrawable", cX3_isWithdrawable, 1, .ireturn, 1)
def f_X3_isWithdrawable (a0 : Nat) (h : AH) : Option Bool :=
  (ck 3 h (some a0)).bind fun b1 =>
  (f_X3_isMembership b1 h).bind fun r2 =>
  if (b2i r2) = 0 then (
    (gI 3 1 h (some a0)).bind fun v3 =>
    if v3 = (3 : Int32) then (
      some true
    ) else (
      (gI 3 1 h (some a0)).bind fun v4 =>
      if v4 = (4 : Int32) then (
        some true
      ) else (
        (gI 3 1 h (some a0)).bind fun v5 =>
        if v5 = (7 : Int32) then (
          some true
        ) else (
          some false
        )
      )
    )
  ) else (
    some true
  )
theorem x_X3_isWithdrawable (G : Gm) (a0 : Nat) (h : AH) (o : Bool) (hf : f_X3_isWithdrawable a0 h = some o) : GO G mX3_isWithdrawable 0 0 0 [(0, vr (some a0))] [] h (some (vi (b2i o))) h := by
  unfold f_X3_isWithdrawable at hf
  refine g_aload_n (M := mX3_isWithdrawable) dX3_isWithdrawable_0 rfl 0 rfl ?_
  obtain ⟨b1, eb1, hf⟩ := bd hf
  obtain ⟨r2, er2, hf⟩ := bd hf
  refine g_callV (M := mX3_isWithdrawable) (kc := 0) (ks := 0) (as := []) (rest := []) dX3_isWithdrawable_1 cbX3_isMembership vwRX3_37 rfl eb1 rfl (Nat.le_of_ble_eq_true rfl) (Nat.le_of_ble_eq_true rfl) (c_X3_isMembership G b1 h r2 er2) ?_
  refine g_if_ne (M := mX3_isWithdrawable) (tgt := 32) dX3_isWithdrawable_4 rfl (fun q4 => ?_) (fun q4 => ?_)
  · replace hf := iff_ hf q4
    refine g_iconst (M := mX3_isWithdrawable) (v := 1) dX3_isWithdrawable_32 rfl ?_
    refine g_goto (M := mX3_isWithdrawable) (tgt := 37) dX3_isWithdrawable_33 rfl ?_
    cases hf
    exact g_ret (M := mX3_isWithdrawable) dX3_isWithdrawable_37 rfl
  · replace hf := ift hf q4
    refine g_aload_n (M := mX3_isWithdrawable) dX3_isWithdrawable_7 rfl 0 rfl ?_
    obtain ⟨v3, ev3, hf⟩ := bd hf
    refine g_getI (M := mX3_isWithdrawable) dX3_isWithdrawable_8 flRX3_21 (fun _ => rfl) ev3 ?_
    refine g_iconst (M := mX3_isWithdrawable) (v := 3) dX3_isWithdrawable_11 rfl ?_
    refine g_ic_eq (M := mX3_isWithdrawable) (tgt := 32) dX3_isWithdrawable_12 rfl (fun q12 => ?_) (fun q12 => ?_)
    · replace hf := ift hf q12
      refine g_iconst (M := mX3_isWithdrawable) (v := 1) dX3_isWithdrawable_32 rfl ?_
      refine g_goto (M := mX3_isWithdrawable) (tgt := 37) dX3_isWithdrawable_33 rfl ?_
      cases hf
      exact g_ret (M := mX3_isWithdrawable) dX3_isWithdrawable_37 rfl
    · replace hf := iff_ hf q12
      refine g_aload_n (M := mX3_isWithdrawable) dX3_isWithdrawable_15 rfl 0 rfl ?_
      obtain ⟨v4, ev4, hf⟩ := bd hf
      refine g_getI (M := mX3_isWithdrawable) dX3_isWithdrawable_16 flRX3_21 (fun _ => rfl) ev4 ?_
      refine g_iconst (M := mX3_isWithdrawable) (v := 4) dX3_isWithdrawable_19 rfl ?_
      refine g_ic_eq (M := mX3_isWithdrawable) (tgt := 32) dX3_isWithdrawable_20 rfl (fun q20 => ?_) (fun q20 => ?_)
      · replace hf := ift hf q20
        refine g_iconst (M := mX3_isWithdrawable) (v := 1) dX3_isWithdrawable_32 rfl ?_
        refine g_goto (M := mX3_isWithdrawable) (tgt := 37) dX3_isWithdrawable_33 rfl ?_
        cases hf
        exact g_ret (M := mX3_isWithdrawable) dX3_isWithdrawable_37 rfl
      · replace hf := iff_ hf q20
        refine g_aload_n (M := mX3_isWithdrawable) dX3_isWithdrawable_23 rfl 0 rfl ?_
        obtain ⟨v5, ev5, hf⟩ := bd hf
        refine g_getI (M := mX3_isWithdrawable) dX3_isWithdrawable_24 flRX3_21 (fun _ => rfl) ev5 ?_
        refine g_bipush (M := mX3_isWithdrawable) (v := 7) dX3_isWithdrawable_27 rfl ?_
        refine g_ic_ne (M := mX3_isWithdrawable) (tgt := 36) dX3_isWithdrawable_29 rfl (fun q29 => ?_) (fun q29 => ?_)
        · replace hf := iff_ hf q29
          refine g_iconst (M := mX3_isWithdrawable) (v := 0) dX3_isWithdrawable_36 rfl ?_
          cases hf
          exact g_ret (M := mX3_isWithdrawable) dX3_isWithdrawable_37 rfl
        · replace hf := ift hf q29
          refine g_iconst (M := mX3_isWithdrawable) (v := 1) dX3_isWithdrawable_32 rfl ?_
          refine g_goto (M := mX3_isWithdrawable) (tgt := 37) dX3_isWithdrawable_33 rfl ?_
          cases hf
          exact g_ret (M := mX3_isWithdrawable) dX3_isWithdrawable_37 rfl
theorem c_X3_isWithdrawable (G : Gm) (a0 : Nat) (h : AH) (o : Bool) (hf : f_X3_isWithdrawable a0 h = some o) : CT G yX3_isWithdrawable mX3_isWithdrawable (some .boolean) 0 0 [vr (some a0)] h (some (vi (b2i o))) h :=
  CT.bool (by decide +kernel) rfl rfl rfl (Nat.le_of_ble_eq_true rfl) (b2i_01 _) (x_X3_isWithdrawable G a0 h o hf)
theorem cbX3_isWithdrawable : CB yX3_isWithdrawable mX3_isWithdrawable (some .boolean) 0 := ⟨cd_yX3_isWithdrawable, itRX3, ⟨by decide, by decide⟩, by decide +kernel, by decide⟩
abbrev mX3_end : MI := (RX3, "end", cX3_end, 2, .return_, 0)
def f_X3_end (a0 : Nat) (a1 : Option Nat) (h : AH) : Option AH :=
  (pR 3 6 h (some a0) a1).bind fun h1 =>
  (pR 3 12 h1 a1 (some a0)).bind fun h2 =>
  some h2
theorem x_X3_end (G : Gm) (a0 : Nat) (a1 : Option Nat) (h : AH) (o : AH) (hf : f_X3_end a0 a1 h = some o) : GO G mX3_end 0 0 0 [(0, vr (some a0)), (1, vr a1)] [] h none o := by
  unfold f_X3_end at hf
  refine g_aload_n (M := mX3_end) dX3_end_0 rfl 0 rfl ?_
  refine g_aload_n (M := mX3_end) dX3_end_1 rfl 1 rfl ?_
  obtain ⟨h1, eh1, hf⟩ := bd hf
  refine g_putR (M := mX3_end) dX3_end_2 flRX3_41 (Or.inl ⟨_, rfl⟩) eh1 ?_
  refine g_aload_n (M := mX3_end) dX3_end_5 rfl 1 rfl ?_
  refine g_aload_n (M := mX3_end) dX3_end_6 rfl 0 rfl ?_
  obtain ⟨h2, eh2, hf⟩ := bd hf
  refine g_putR (M := mX3_end) dX3_end_7 flRX3_45 (Or.inl ⟨_, rfl⟩) eh2 ?_
  cases hf
  exact g_ret (M := mX3_end) dX3_end_10 rfl
theorem c_X3_end (G : Gm) (a0 : Nat) (a1 : Option Nat) (h : AH) (o : AH) (hf : f_X3_end a0 a1 h = some o) : CT G yX3_end mX3_end none 0 0 [vr (some a0), vr a1] h none o :=
  CT.void (by decide +kernel) rfl rfl rfl (Nat.le_of_ble_eq_true rfl) (x_X3_end G a0 a1 h o hf)
theorem cbX3_end : CB yX3_end mX3_end none 1 := ⟨cd_yX3_end, itRX3, ⟨by decide, by decide⟩, by decide +kernel, by decide⟩
abbrev mX3_answer : MI := (RX3, "answer", cX3_answer, 2, .return_, 0)
def f_X3_answer (a0 : Nat) (a1 : Option Nat) (h : AH) : Option AH :=
  (pR 3 6 h (some a0) a1).bind fun h1 =>
  (gR 3 13 h1 a1).bind fun v2 =>
  (pR 3 14 h1 (some a0) v2).bind fun h3 =>
  (pR 3 13 h3 a1 (some a0)).bind fun h4 =>
  some h4
theorem x_X3_answer (G : Gm) (a0 : Nat) (a1 : Option Nat) (h : AH) (o : AH) (hf : f_X3_answer a0 a1 h = some o) : GO G mX3_answer 0 0 0 [(0, vr (some a0)), (1, vr a1)] [] h none o := by
  unfold f_X3_answer at hf
  refine g_aload_n (M := mX3_answer) dX3_answer_0 rfl 0 rfl ?_
  refine g_aload_n (M := mX3_answer) dX3_answer_1 rfl 1 rfl ?_
  obtain ⟨h1, eh1, hf⟩ := bd hf
  refine g_putR (M := mX3_answer) dX3_answer_2 flRX3_41 (Or.inl ⟨_, rfl⟩) eh1 ?_
  refine g_aload_n (M := mX3_answer) dX3_answer_5 rfl 0 rfl ?_
  refine g_aload_n (M := mX3_answer) dX3_answer_6 rfl 1 rfl ?_
  obtain ⟨v2, ev2, hf⟩ := bd hf
  refine g_getR (M := mX3_answer) dX3_answer_7 flRX3_48 (fun _ => rfl) ev2 ?_
  obtain ⟨h3, eh3, hf⟩ := bd hf
  refine g_putR (M := mX3_answer) dX3_answer_10 flRX3_51 (Or.inl ⟨_, rfl⟩) eh3 ?_
  refine g_aload_n (M := mX3_answer) dX3_answer_13 rfl 1 rfl ?_
  refine g_aload_n (M := mX3_answer) dX3_answer_14 rfl 0 rfl ?_
  obtain ⟨h4, eh4, hf⟩ := bd hf
  refine g_putR (M := mX3_answer) dX3_answer_15 flRX3_48 (Or.inl ⟨_, rfl⟩) eh4 ?_
  cases hf
  exact g_ret (M := mX3_answer) dX3_answer_18 rfl
theorem c_X3_answer (G : Gm) (a0 : Nat) (a1 : Option Nat) (h : AH) (o : AH) (hf : f_X3_answer a0 a1 h = some o) : CT G yX3_answer mX3_answer none 0 0 [vr (some a0), vr a1] h none o :=
  CT.void (by decide +kernel) rfl rfl rfl (Nat.le_of_ble_eq_true rfl) (x_X3_answer G a0 a1 h o hf)
theorem cbX3_answer : CB yX3_answer mX3_answer none 1 := ⟨cd_yX3_answer, itRX3, ⟨by decide, by decide⟩, by decide +kernel, by decide⟩
abbrev mX3_release : MI := (RX3, "release", cX3_release, 1, .return_, 0)
def f_X3_release_27 (a0 : Nat) (h : AH) : Option AH :=
  (gR 3 6 h (some a0)).bind fun v1 =>
  (gR 3 13 h v1).bind fun v2 =>
  if v2 = (some a0) then (
    (gR 3 6 h (some a0)).bind fun v3 =>
    (gR 3 14 h (some a0)).bind fun v4 =>
    (pR 3 13 h v3 v4).bind fun h5 =>
    some h5
  ) else (
    some h
  )
theorem x_X3_release_27 (G : Gm) (a0 : Nat) (h : AH) (o : AH) (hf : f_X3_release_27 a0 h = some o) : GO G mX3_release 0 0 27 [(0, vr (some a0))] [] h none o := by
  unfold f_X3_release_27 at hf
  refine g_aload_n (M := mX3_release) dX3_release_27 rfl 0 rfl ?_
  obtain ⟨v1, ev1, hf⟩ := bd hf
  refine g_getR (M := mX3_release) dX3_release_28 flRX3_41 (fun _ => rfl) ev1 ?_
  obtain ⟨v2, ev2, hf⟩ := bd hf
  refine g_getR (M := mX3_release) dX3_release_31 flRX3_48 (fun _ => rfl) ev2 ?_
  refine g_aload_n (M := mX3_release) dX3_release_34 rfl 0 rfl ?_
  refine g_ac_ne (M := mX3_release) (tgt := 49) dX3_release_35 rfl (fun q35 => ?_) (fun q35 => ?_)
  · replace hf := iff_ hf q35
    cases hf
    exact g_ret (M := mX3_release) dX3_release_49 rfl
  · replace hf := ift hf q35
    refine g_aload_n (M := mX3_release) dX3_release_38 rfl 0 rfl ?_
    obtain ⟨v3, ev3, hf⟩ := bd hf
    refine g_getR (M := mX3_release) dX3_release_39 flRX3_41 (fun _ => rfl) ev3 ?_
    refine g_aload_n (M := mX3_release) dX3_release_42 rfl 0 rfl ?_
    obtain ⟨v4, ev4, hf⟩ := bd hf
    refine g_getR (M := mX3_release) dX3_release_43 flRX3_51 (fun _ => rfl) ev4 ?_
    obtain ⟨h5, eh5, hf⟩ := bd hf
    refine g_putR (M := mX3_release) dX3_release_46 flRX3_48 (Or.inl ⟨_, rfl⟩) eh5 ?_
    cases hf
    exact g_ret (M := mX3_release) dX3_release_49 rfl
def f_X3_release (a0 : Nat) (h : AH) : Option AH :=
  (gR 3 6 h (some a0)).bind fun v6 =>
  if v6 = none then (
    some h
  ) else (
    (gR 3 6 h (some a0)).bind fun v7 =>
    (gR 3 12 h v7).bind fun v8 =>
    if v8 = (some a0) then (
      (gR 3 6 h (some a0)).bind fun v9 =>
      (pR 3 12 h v9 none).bind fun h10 =>
      f_X3_release_27 a0 h10
    ) else (
      f_X3_release_27 a0 h
    )
  )
theorem x_X3_release (G : Gm) (a0 : Nat) (h : AH) (o : AH) (hf : f_X3_release a0 h = some o) : GO G mX3_release 0 0 0 [(0, vr (some a0))] [] h none o := by
  unfold f_X3_release at hf
  refine g_aload_n (M := mX3_release) dX3_release_0 rfl 0 rfl ?_
  obtain ⟨v6, ev6, hf⟩ := bd hf
  refine g_getR (M := mX3_release) dX3_release_1 flRX3_41 (fun _ => rfl) ev6 ?_
  refine g_ifnonnull (M := mX3_release) (tgt := 8) dX3_release_4 rfl (fun q4 => ?_) (fun q4 => ?_)
  · replace hf := iff_ hf q4
    refine g_aload_n (M := mX3_release) dX3_release_8 rfl 0 rfl ?_
    obtain ⟨v7, ev7, hf⟩ := bd hf
    refine g_getR (M := mX3_release) dX3_release_9 flRX3_41 (fun _ => rfl) ev7 ?_
    obtain ⟨v8, ev8, hf⟩ := bd hf
    refine g_getR (M := mX3_release) dX3_release_12 flRX3_45 (fun _ => rfl) ev8 ?_
    refine g_aload_n (M := mX3_release) dX3_release_15 rfl 0 rfl ?_
    refine g_ac_ne (M := mX3_release) (tgt := 27) dX3_release_16 rfl (fun q16 => ?_) (fun q16 => ?_)
    · replace hf := iff_ hf q16
      exact x_X3_release_27 G a0 h _ hf
    · replace hf := ift hf q16
      refine g_aload_n (M := mX3_release) dX3_release_19 rfl 0 rfl ?_
      obtain ⟨v9, ev9, hf⟩ := bd hf
      refine g_getR (M := mX3_release) dX3_release_20 flRX3_41 (fun _ => rfl) ev9 ?_
      refine g_null (M := mX3_release) dX3_release_23 ?_
      obtain ⟨h10, eh10, hf⟩ := bd hf
      refine g_putR (M := mX3_release) dX3_release_24 flRX3_45 (Or.inl ⟨_, rfl⟩) eh10 ?_
      exact x_X3_release_27 G a0 h10 _ hf
  · replace hf := ift hf q4
    cases hf
    exact g_ret (M := mX3_release) dX3_release_7 rfl
theorem c_X3_release (G : Gm) (a0 : Nat) (h : AH) (o : AH) (hf : f_X3_release a0 h = some o) : CT G yX3_release mX3_release none 0 0 [vr (some a0)] h none o :=
  CT.void (by decide +kernel) rfl rfl rfl (Nat.le_of_ble_eq_true rfl) (x_X3_release G a0 h o hf)
theorem cbX3_release : CB yX3_release mX3_release none 0 := ⟨cd_yX3_release, itRX3, ⟨by decide, by decide⟩, by decide +kernel, by decide⟩
abbrev mX3_isAnsweredBy : MI := (RX3, "isAnsweredBy", cX3_isAnsweredBy, 3, .ireturn, 0)
def f_X3_isAnsweredBy_26 (K0 : Option Nat → Option Nat → AH → Option Bool) (a1 : Option Nat) (a2 : Option Nat) (h : AH) : Option Bool :=
  (gR 3 14 h a2).bind fun v1 =>
  K0 a1 v1 h
theorem x_X3_isAnsweredBy_26 (G : Gm) (K0 : Option Nat → Option Nat → AH → Option Bool) (hK0 : ∀ (a1 : Option Nat) (a2 : Option Nat) (h : AH) (o : Bool), K0 a1 a2 h = some o → GO G mX3_isAnsweredBy 0 0 5 [(1, vr a1), (2, vr a2)] [] h (some (vi (b2i o))) h) (a1 : Option Nat) (a2 : Option Nat) (h : AH) (o : Bool) (hf : f_X3_isAnsweredBy_26 K0 a1 a2 h = some o) : GO G mX3_isAnsweredBy 0 0 26 [(1, vr a1), (2, vr a2)] [] h (some (vi (b2i o))) h := by
  unfold f_X3_isAnsweredBy_26 at hf
  refine g_aload_n (M := mX3_isAnsweredBy) dX3_isAnsweredBy_26 rfl 1 rfl ?_
  obtain ⟨v1, ev1, hf⟩ := bd hf
  refine g_getR (M := mX3_isAnsweredBy) dX3_isAnsweredBy_27 flRX3_51 (fun _ => rfl) ev1 ?_
  refine g_astore_n (M := mX3_isAnsweredBy) (L2 := [(2, vr v1), (1, vr a1)]) dX3_isAnsweredBy_30 rfl (Nat.le_of_ble_eq_true rfl) rfl ?_
  refine g_goto (M := mX3_isAnsweredBy) (tgt := 5) dX3_isAnsweredBy_31 rfl ?_
  exact g_sub (M := mX3_isAnsweredBy) (L2 := [(1, vr a1), (2, vr v1)]) [1, 0] rfl <| hK0 a1 v1 h _ hf
def f_X3_isAnsweredBy_5 : Nat → Option Nat → Option Nat → AH → Option Bool
  | 0, _, _, _ => none
  | n + 1, a1, a2, h =>
    if a2 = none then (
      some false
    ) else (
      (gR 3 7 h a2).bind fun v2 =>
      if v2 = a1 then (
        (gR 3 12 h a2).bind fun v3 =>
        if v3 = none then (
          some true
        ) else (
          f_X3_isAnsweredBy_26 (f_X3_isAnsweredBy_5 n) a1 a2 h
        )
      ) else (
        f_X3_isAnsweredBy_26 (f_X3_isAnsweredBy_5 n) a1 a2 h
      )
    )
theorem x_X3_isAnsweredBy_5 (G : Gm) : ∀ (n : Nat) (a1 : Option Nat) (a2 : Option Nat) (h : AH) (o : Bool), f_X3_isAnsweredBy_5 n a1 a2 h = some o → GO G mX3_isAnsweredBy 0 0 5 [(1, vr a1), (2, vr a2)] [] h (some (vi (b2i o))) h := by
  intro n
  induction n with
  | zero => intro a1 a2 h o hf; cases hf
  | succ n ih =>
    intro a1 a2 h o hf
    rw [f_X3_isAnsweredBy_5] at hf
    refine g_aload_n (M := mX3_isAnsweredBy) dX3_isAnsweredBy_5 rfl 1 rfl ?_
    refine g_ifnull (M := mX3_isAnsweredBy) (tgt := 34) dX3_isAnsweredBy_6 rfl (fun q6 => ?_) (fun q6 => ?_)
    · replace hf := ift hf q6
      refine g_iconst (M := mX3_isAnsweredBy) (v := 0) dX3_isAnsweredBy_34 rfl ?_
      cases hf
      exact g_ret (M := mX3_isAnsweredBy) dX3_isAnsweredBy_35 rfl
    · replace hf := iff_ hf q6
      refine g_aload_n (M := mX3_isAnsweredBy) dX3_isAnsweredBy_9 rfl 1 rfl ?_
      obtain ⟨v2, ev2, hf⟩ := bd hf
      refine g_getR (M := mX3_isAnsweredBy) dX3_isAnsweredBy_10 flRX3_54 (fun _ => rfl) ev2 ?_
      refine g_aload_n (M := mX3_isAnsweredBy) dX3_isAnsweredBy_13 rfl 0 rfl ?_
      refine g_ac_ne (M := mX3_isAnsweredBy) (tgt := 26) dX3_isAnsweredBy_14 rfl (fun q14 => ?_) (fun q14 => ?_)
      · replace hf := iff_ hf q14
        exact x_X3_isAnsweredBy_26 G (f_X3_isAnsweredBy_5 n) ih a1 a2 h _ hf
      · replace hf := ift hf q14
        refine g_aload_n (M := mX3_isAnsweredBy) dX3_isAnsweredBy_17 rfl 1 rfl ?_
        obtain ⟨v3, ev3, hf⟩ := bd hf
        refine g_getR (M := mX3_isAnsweredBy) dX3_isAnsweredBy_18 flRX3_45 (fun _ => rfl) ev3 ?_
        refine g_ifnonnull (M := mX3_isAnsweredBy) (tgt := 26) dX3_isAnsweredBy_21 rfl (fun q21 => ?_) (fun q21 => ?_)
        · replace hf := iff_ hf q21
          exact x_X3_isAnsweredBy_26 G (f_X3_isAnsweredBy_5 n) ih a1 a2 h _ hf
        · replace hf := ift hf q21
          refine g_iconst (M := mX3_isAnsweredBy) (v := 1) dX3_isAnsweredBy_24 rfl ?_
          cases hf
          exact g_ret (M := mX3_isAnsweredBy) dX3_isAnsweredBy_25 rfl
def f_X3_isAnsweredBy (a0 : Nat) (a1 : Option Nat) (h : AH) : Option Bool :=
  (gR 3 13 h (some a0)).bind fun v4 =>
  f_X3_isAnsweredBy_5 FU a1 v4 h
theorem x_X3_isAnsweredBy (G : Gm) (a0 : Nat) (a1 : Option Nat) (h : AH) (o : Bool) (hf : f_X3_isAnsweredBy a0 a1 h = some o) : GO G mX3_isAnsweredBy 0 0 0 [(0, vr (some a0)), (1, vr a1)] [] h (some (vi (b2i o))) h := by
  unfold f_X3_isAnsweredBy at hf
  refine g_aload_n (M := mX3_isAnsweredBy) dX3_isAnsweredBy_0 rfl 0 rfl ?_
  obtain ⟨v4, ev4, hf⟩ := bd hf
  refine g_getR (M := mX3_isAnsweredBy) dX3_isAnsweredBy_1 flRX3_48 (fun _ => rfl) ev4 ?_
  refine g_astore_n (M := mX3_isAnsweredBy) (L2 := [(2, vr v4), (0, vr (some a0)), (1, vr a1)]) dX3_isAnsweredBy_4 rfl (Nat.le_of_ble_eq_true rfl) rfl ?_
  exact g_sub (M := mX3_isAnsweredBy) (L2 := [(1, vr a1), (2, vr v4)]) [2, 0] rfl <| x_X3_isAnsweredBy_5 G FU a1 v4 h _ hf
theorem c_X3_isAnsweredBy (G : Gm) (a0 : Nat) (a1 : Option Nat) (h : AH) (o : Bool) (hf : f_X3_isAnsweredBy a0 a1 h = some o) : CT G yX3_isAnsweredBy mX3_isAnsweredBy (some .boolean) 0 0 [vr (some a0), vr a1] h (some (vi (b2i o))) h :=
  CT.bool (by decide +kernel) rfl rfl rfl (Nat.le_of_ble_eq_true rfl) (b2i_01 _) (x_X3_isAnsweredBy G a0 a1 h o hf)
theorem cbX3_isAnsweredBy : CB yX3_isAnsweredBy mX3_isAnsweredBy (some .boolean) 1 := ⟨cd_yX3_isAnsweredBy, itRX3, ⟨by decide, by decide⟩, by decide +kernel, by decide⟩
abbrev mX7_numberOf : MI := (RX7, "numberOf", cX7_numberOf, 1, .ireturn, 0)
def f_X7_numberOf (a0 : Option Nat) (h : AH) : Option Int32 :=
  if a0 = none then (
    some (-1 : Int32)
  ) else (
    (gI 3 0 h a0).bind fun v1 =>
    some v1
  )
theorem x_X7_numberOf (G : Gm) (a0 : Option Nat) (h : AH) (o : Int32) (hf : f_X7_numberOf a0 h = some o) : GO G mX7_numberOf 0 0 0 [(0, vr a0)] [] h (some (vi o)) h := by
  unfold f_X7_numberOf at hf
  refine g_aload_n (M := mX7_numberOf) dX7_numberOf_0 rfl 0 rfl ?_
  refine g_ifnonnull (M := mX7_numberOf) (tgt := 8) dX7_numberOf_1 rfl (fun q1 => ?_) (fun q1 => ?_)
  · replace hf := iff_ hf q1
    refine g_aload_n (M := mX7_numberOf) dX7_numberOf_8 rfl 0 rfl ?_
    obtain ⟨v1, ev1, hf⟩ := bd hf
    refine g_getI (M := mX7_numberOf) dX7_numberOf_9 flRX7_86 (fun _ => rfl) ev1 ?_
    cases hf
    exact g_ret (M := mX7_numberOf) dX7_numberOf_12 rfl
  · replace hf := ift hf q1
    refine g_iconst (M := mX7_numberOf) (v := -1) dX7_numberOf_4 rfl ?_
    refine g_goto (M := mX7_numberOf) (tgt := 12) dX7_numberOf_5 rfl ?_
    cases hf
    exact g_ret (M := mX7_numberOf) dX7_numberOf_12 rfl
theorem c_X7_numberOf (G : Gm) (a0 : Option Nat) (h : AH) (o : Int32) (hf : f_X7_numberOf a0 h = some o) : CT G yX7_numberOf mX7_numberOf (some .int) 0 0 [vr a0] h (some (vi o)) h :=
  CT.int (by decide +kernel) rfl rfl rfl (Nat.le_of_ble_eq_true rfl) (x_X7_numberOf G a0 h o hf)
theorem cbX7_numberOf : CB yX7_numberOf mX7_numberOf (some .int) 1 := ⟨cd_yX7_numberOf, itRX7, ⟨by decide, by decide⟩, by decide +kernel, by decide⟩
