abbrev mX8_changes : MI := (RX8, "changes", cX8_changes, 10, .return_, 4)
def f_X8_changes_88 (K0 : Nat → Int32 → Int32 → Int32 → Int32 → Int32 → Int32 → Int32 → Int32 → AH → Option AH) (a0 : Nat) (a1 : Int32) (a2 : Int32) (a3 : Int32) (a4 : Int32) (a5 : Int32) (a6 : Int32) (a7 : Int32) (a8 : Int32) (s0 : Int32) (h : AH) : Option AH :=
  if s0 = 0 then (
    K0 a0 a1 a2 a3 a4 a5 a6 a7 (a8 + (1)) h
  ) else (
    (ck 8 h (some a0)).bind fun b1 =>
    (f_X8_leastTo b1 (7 : Int32) a8 a1 a5 a6 h).bind fun r2 =>
    if r2 = (-1 : Int32) then (
      K0 a0 a1 a2 a3 a4 a5 a6 a7 (a8 + (1)) h
    ) else (
      (ck 8 h (some a0)).bind fun b3 =>
      (f_X8_leastTo b3 (7 : Int32) a8 a2 a5 a6 h).bind fun r4 =>
      if r4 = (-1 : Int32) then (
        K0 a0 a1 a2 a3 a4 a5 a6 a7 (a8 + (1)) h
      ) else (
        K0 a0 a1 a2 a3 a4 a5 a6 a8 (a8 + (1)) h
      )
    )
  )
theorem x_X8_changes_88 (G : Gm) (K0 : Nat → Int32 → Int32 → Int32 → Int32 → Int32 → Int32 → Int32 → Int32 → AH → Option AH) (hK0 : ∀ (a0 : Nat) (a1 : Int32) (a2 : Int32) (a3 : Int32) (a4 : Int32) (a5 : Int32) (a6 : Int32) (a7 : Int32) (a8 : Int32) (h : AH) (o : AH), K0 a0 a1 a2 a3 a4 a5 a6 a7 a8 h = some o → GO G mX8_changes 0 0 27 [(0, vr (some a0)), (1, vi a1), (2, vi a2), (3, vi a3), (4, vi a4), (5, vi a5), (6, vi a6), (7, vi a7), (8, vi a8)] [] h none o) (a0 : Nat) (a1 : Int32) (a2 : Int32) (a3 : Int32) (a4 : Int32) (a5 : Int32) (a6 : Int32) (a7 : Int32) (a8 : Int32) (s0 : Int32) (h : AH) (o : AH) (hf : f_X8_changes_88 K0 a0 a1 a2 a3 a4 a5 a6 a7 a8 s0 h = some o) : GO G mX8_changes 0 0 88 [(0, vr (some a0)), (1, vi a1), (2, vi a2), (3, vi a3), (4, vi a4), (5, vi a5), (6, vi a6), (7, vi a7), (8, vi a8)] [vi s0] h none o := by
  unfold f_X8_changes_88 at hf
  refine g_istore (M := mX8_changes) (L2 := [(9, vi s0), (0, vr (some a0)), (1, vi a1), (2, vi a2), (3, vi a3), (4, vi a4), (5, vi a5), (6, vi a6), (7, vi a7), (8, vi a8)]) dX8_changes_88 (Nat.le_of_ble_eq_true rfl) rfl ?_
  refine g_iload (M := mX8_changes) dX8_changes_90 0 rfl ?_
  refine g_if_eq (M := mX8_changes) (tgt := 133) dX8_changes_92 rfl (fun q92 => ?_) (fun q92 => ?_)
  · replace hf := ift hf q92
    refine g_iinc (M := mX8_changes) (j := 9) (L2 := [(8, vi (a8 + (1))), (9, vi s0), (0, vr (some a0)), (1, vi a1), (2, vi a2), (3, vi a3), (4, vi a4), (5, vi a5), (6, vi a6), (7, vi a7)]) dX8_changes_133 rfl rfl (Nat.le_of_ble_eq_true rfl) rfl ?_
    refine g_goto (M := mX8_changes) (tgt := 27) dX8_changes_136 rfl ?_
    exact g_sub (M := mX8_changes) (L2 := [(0, vr (some a0)), (1, vi a1), (2, vi a2), (3, vi a3), (4, vi a4), (5, vi a5), (6, vi a6), (7, vi a7), (8, vi (a8 + (1)))]) [2, 3, 4, 5, 6, 7, 8, 9, 0] rfl <| hK0 a0 a1 a2 a3 a4 a5 a6 a7 (a8 + (1)) h _ hf
  · replace hf := iff_ hf q92
    refine g_aload_n (M := mX8_changes) dX8_changes_95 rfl 1 rfl ?_
    refine g_bipush (M := mX8_changes) (v := 7) dX8_changes_96 rfl ?_
    refine g_iload (M := mX8_changes) dX8_changes_98 9 rfl ?_
    refine g_iload_n (M := mX8_changes) dX8_changes_100 rfl 2 rfl ?_
    refine g_iload (M := mX8_changes) dX8_changes_101 6 rfl ?_
    refine g_iload (M := mX8_changes) dX8_changes_103 7 rfl ?_
    obtain ⟨b1, eb1, hf⟩ := bd hf
    obtain ⟨r2, er2, hf⟩ := bd hf
    refine g_callV (M := mX8_changes) (kc := 0) (ks := 0) (as := [vi (7 : Int32), vi a8, vi a1, vi a5, vi a6]) (rest := []) dX8_changes_105 cbX8_leastTo vwRX8_171 rfl eb1 rfl (Nat.le_of_ble_eq_true rfl) (Nat.le_of_ble_eq_true rfl) (c_X8_leastTo G b1 (7 : Int32) a8 a1 a5 a6 h r2 er2) ?_
    refine g_iconst (M := mX8_changes) (v := -1) dX8_changes_108 rfl ?_
    refine g_ic_eq (M := mX8_changes) (tgt := 133) dX8_changes_109 rfl (fun q109 => ?_) (fun q109 => ?_)
    · replace hf := ift hf q109
      refine g_iinc (M := mX8_changes) (j := 9) (L2 := [(8, vi (a8 + (1))), (9, vi s0), (0, vr (some a0)), (1, vi a1), (2, vi a2), (3, vi a3), (4, vi a4), (5, vi a5), (6, vi a6), (7, vi a7)]) dX8_changes_133 rfl rfl (Nat.le_of_ble_eq_true rfl) rfl ?_
      refine g_goto (M := mX8_changes) (tgt := 27) dX8_changes_136 rfl ?_
      exact g_sub (M := mX8_changes) (L2 := [(0, vr (some a0)), (1, vi a1), (2, vi a2), (3, vi a3), (4, vi a4), (5, vi a5), (6, vi a6), (7, vi a7), (8, vi (a8 + (1)))]) [2, 3, 4, 5, 6, 7, 8, 9, 0] rfl <| hK0 a0 a1 a2 a3 a4 a5 a6 a7 (a8 + (1)) h _ hf
    · replace hf := iff_ hf q109
      refine g_aload_n (M := mX8_changes) dX8_changes_112 rfl 1 rfl ?_
      refine g_bipush (M := mX8_changes) (v := 7) dX8_changes_113 rfl ?_
      refine g_iload (M := mX8_changes) dX8_changes_115 9 rfl ?_
      refine g_iload_n (M := mX8_changes) dX8_changes_117 rfl 3 rfl ?_
      refine g_iload (M := mX8_changes) dX8_changes_118 6 rfl ?_
      refine g_iload (M := mX8_changes) dX8_changes_120 7 rfl ?_
      obtain ⟨b3, eb3, hf⟩ := bd hf
      obtain ⟨r4, er4, hf⟩ := bd hf
      refine g_callV (M := mX8_changes) (kc := 0) (ks := 0) (as := [vi (7 : Int32), vi a8, vi a2, vi a5, vi a6]) (rest := []) dX8_changes_122 cbX8_leastTo vwRX8_171 rfl eb3 rfl (Nat.le_of_ble_eq_true rfl) (Nat.le_of_ble_eq_true rfl) (c_X8_leastTo G b3 (7 : Int32) a8 a2 a5 a6 h r4 er4) ?_
      refine g_iconst (M := mX8_changes) (v := -1) dX8_changes_125 rfl ?_
      refine g_ic_eq (M := mX8_changes) (tgt := 133) dX8_changes_126 rfl (fun q126 => ?_) (fun q126 => ?_)
      · replace hf := ift hf q126
        refine g_iinc (M := mX8_changes) (j := 9) (L2 := [(8, vi (a8 + (1))), (9, vi s0), (0, vr (some a0)), (1, vi a1), (2, vi a2), (3, vi a3), (4, vi a4), (5, vi a5), (6, vi a6), (7, vi a7)]) dX8_changes_133 rfl rfl (Nat.le_of_ble_eq_true rfl) rfl ?_
        refine g_goto (M := mX8_changes) (tgt := 27) dX8_changes_136 rfl ?_
        exact g_sub (M := mX8_changes) (L2 := [(0, vr (some a0)), (1, vi a1), (2, vi a2), (3, vi a3), (4, vi a4), (5, vi a5), (6, vi a6), (7, vi a7), (8, vi (a8 + (1)))]) [2, 3, 4, 5, 6, 7, 8, 9, 0] rfl <| hK0 a0 a1 a2 a3 a4 a5 a6 a7 (a8 + (1)) h _ hf
      · replace hf := iff_ hf q126
        refine g_iload (M := mX8_changes) dX8_changes_129 9 rfl ?_
        refine g_istore (M := mX8_changes) (L2 := [(7, vi a8), (9, vi s0), (0, vr (some a0)), (1, vi a1), (2, vi a2), (3, vi a3), (4, vi a4), (5, vi a5), (6, vi a6), (8, vi a8)]) dX8_changes_131 (Nat.le_of_ble_eq_true rfl) rfl ?_
        refine g_iinc (M := mX8_changes) (j := 9) (L2 := [(8, vi (a8 + (1))), (7, vi a8), (9, vi s0), (0, vr (some a0)), (1, vi a1), (2, vi a2), (3, vi a3), (4, vi a4), (5, vi a5), (6, vi a6)]) dX8_changes_133 rfl rfl (Nat.le_of_ble_eq_true rfl) rfl ?_
        refine g_goto (M := mX8_changes) (tgt := 27) dX8_changes_136 rfl ?_
        exact g_sub (M := mX8_changes) (L2 := [(0, vr (some a0)), (1, vi a1), (2, vi a2), (3, vi a3), (4, vi a4), (5, vi a5), (6, vi a6), (7, vi a8), (8, vi (a8 + (1)))]) [3, 4, 5, 6, 7, 8, 9, 1, 0] rfl <| hK0 a0 a1 a2 a3 a4 a5 a6 a8 (a8 + (1)) h _ hf
def f_X8_changes_87 (K0 : Nat → Int32 → Int32 → Int32 → Int32 → Int32 → Int32 → Int32 → Int32 → AH → Option AH) (a0 : Nat) (a1 : Int32) (a2 : Int32) (a3 : Int32) (a4 : Int32) (a5 : Int32) (a6 : Int32) (a7 : Int32) (a8 : Int32) (h : AH) : Option AH :=
  f_X8_changes_88 K0 a0 a1 a2 a3 a4 a5 a6 a7 a8 (0 : Int32) h
theorem x_X8_changes_87 (G : Gm) (K0 : Nat → Int32 → Int32 → Int32 → Int32 → Int32 → Int32 → Int32 → Int32 → AH → Option AH) (hK0 : ∀ (a0 : Nat) (a1 : Int32) (a2 : Int32) (a3 : Int32) (a4 : Int32) (a5 : Int32) (a6 : Int32) (a7 : Int32) (a8 : Int32) (h : AH) (o : AH), K0 a0 a1 a2 a3 a4 a5 a6 a7 a8 h = some o → GO G mX8_changes 0 0 27 [(0, vr (some a0)), (1, vi a1), (2, vi a2), (3, vi a3), (4, vi a4), (5, vi a5), (6, vi a6), (7, vi a7), (8, vi a8)] [] h none o) (a0 : Nat) (a1 : Int32) (a2 : Int32) (a3 : Int32) (a4 : Int32) (a5 : Int32) (a6 : Int32) (a7 : Int32) (a8 : Int32) (h : AH) (o : AH) (hf : f_X8_changes_87 K0 a0 a1 a2 a3 a4 a5 a6 a7 a8 h = some o) : GO G mX8_changes 0 0 87 [(0, vr (some a0)), (1, vi a1), (2, vi a2), (3, vi a3), (4, vi a4), (5, vi a5), (6, vi a6), (7, vi a7), (8, vi a8)] [] h none o := by
  unfold f_X8_changes_87 at hf
  refine g_iconst (M := mX8_changes) (v := 0) dX8_changes_87 rfl ?_
  exact x_X8_changes_88 G K0 hK0 a0 a1 a2 a3 a4 a5 a6 a7 a8 (0 : Int32) h _ hf
def f_X8_changes_27 : Nat → Nat → Int32 → Int32 → Int32 → Int32 → Int32 → Int32 → Int32 → Int32 → AH → Option AH
  | 0, _, _, _, _, _, _, _, _, _, _ => none
  | n + 1, a0, a1, a2, a3, a4, a5, a6, a7, a8, h =>
    (gI 8 8 h (some a0)).bind fun v5 =>
    if v5 ≤ a8 then (
      if a7 = (-1 : Int32) then (
        some h
      ) else (
        (pI 8 20 h (some a0) (4 : Int32)).bind fun h6 =>
        (gR 8 17 h6 (some a0)).bind fun v7 =>
        (lI 10 h6 v7 a7).bind fun v8 =>
        (pI 8 21 h6 (some a0) v8).bind fun h9 =>
        (ck 8 h9 (some a0)).bind fun b10 =>
        (f_X8_because b10 a7 h9).bind fun r11 =>
        (ck 8 r11 (some a0)).bind fun b12 =>
        (f_X8_leastTo b12 (7 : Int32) a7 a1 a5 a6 r11).bind fun r13 =>
        (ck 8 r11 (some a0)).bind fun b14 =>
        (f_X8_because b14 r13 r11).bind fun r15 =>
        (ck 8 r15 (some a0)).bind fun b16 =>
        (f_X8_leastTo b16 (7 : Int32) a7 a2 a5 a6 r15).bind fun r17 =>
        (ck 8 r15 (some a0)).bind fun b18 =>
        (f_X8_because b18 r17 r15).bind fun r19 =>
        some r19
      )
    ) else (
      (gR 8 9 h (some a0)).bind fun v20 =>
      (lI 10 h v20 a8).bind fun v21 =>
      if v21 = (6 : Int32) then (
        (gR 8 11 h (some a0)).bind fun v22 =>
        (lI 10 h v22 a8).bind fun v23 =>
        if v23 = a3 then (
          (gR 8 16 h (some a0)).bind fun v24 =>
          (lI 10 h v24 a8).bind fun v25 =>
          if v25 = a4 then (
            (gR 8 12 h (some a0)).bind fun v26 =>
            (lI 10 h v26 a8).bind fun v27 =>
            if a6 < v27 then (
              f_X8_changes_87 (f_X8_changes_27 n) a0 a1 a2 a3 a4 a5 a6 a7 a8 h
            ) else (
              f_X8_changes_88 (f_X8_changes_27 n) a0 a1 a2 a3 a4 a5 a6 a7 a8 (1 : Int32) h
            )
          ) else (
            f_X8_changes_87 (f_X8_changes_27 n) a0 a1 a2 a3 a4 a5 a6 a7 a8 h
          )
        ) else (
          f_X8_changes_87 (f_X8_changes_27 n) a0 a1 a2 a3 a4 a5 a6 a7 a8 h
        )
      ) else (
        f_X8_changes_87 (f_X8_changes_27 n) a0 a1 a2 a3 a4 a5 a6 a7 a8 h
      )
    )
theorem x_X8_changes_27 (G : Gm) : ∀ (n : Nat) (a0 : Nat) (a1 : Int32) (a2 : Int32) (a3 : Int32) (a4 : Int32) (a5 : Int32) (a6 : Int32) (a7 : Int32) (a8 : Int32) (h : AH) (o : AH), f_X8_changes_27 n a0 a1 a2 a3 a4 a5 a6 a7 a8 h = some o → GO G mX8_changes 0 0 27 [(0, vr (some a0)), (1, vi a1), (2, vi a2), (3, vi a3), (4, vi a4), (5, vi a5), (6, vi a6), (7, vi a7), (8, vi a8)] [] h none o := by
  intro n
  induction n with
  | zero => intro a0 a1 a2 a3 a4 a5 a6 a7 a8 h o hf; cases hf
  | succ n ih =>
    intro a0 a1 a2 a3 a4 a5 a6 a7 a8 h o hf
    rw [f_X8_changes_27] at hf
    refine g_iload (M := mX8_changes) dX8_changes_27 8 rfl ?_
    refine g_aload_n (M := mX8_changes) dX8_changes_29 rfl 0 rfl ?_
    obtain ⟨v5, ev5, hf⟩ := bd hf
    refine g_getI (M := mX8_changes) dX8_changes_30 flRX8_89 (fun _ => rfl) ev5 ?_
    refine g_ic_ge (M := mX8_changes) (tgt := 139) dX8_changes_33 rfl (fun q33 => ?_) (fun q33 => ?_)
    · replace hf := ift hf q33
      refine g_iload (M := mX8_changes) dX8_changes_139 7 rfl ?_
      refine g_iconst (M := mX8_changes) (v := -1) dX8_changes_141 rfl ?_
      refine g_ic_eq (M := mX8_changes) (tgt := 201) dX8_changes_142 rfl (fun q142 => ?_) (fun q142 => ?_)
      · replace hf := ift hf q142
        cases hf
        exact g_ret (M := mX8_changes) dX8_changes_201 rfl
      · replace hf := iff_ hf q142
        refine g_aload_n (M := mX8_changes) dX8_changes_145 rfl 0 rfl ?_
        refine g_iconst (M := mX8_changes) (v := 4) dX8_changes_146 rfl ?_
        obtain ⟨h6, eh6, hf⟩ := bd hf
        refine g_putI (M := mX8_changes) dX8_changes_147 flRX8_150 rfl eh6 ?_
        refine g_aload_n (M := mX8_changes) dX8_changes_150 rfl 0 rfl ?_
        refine g_aload_n (M := mX8_changes) dX8_changes_151 rfl 0 rfl ?_
        obtain ⟨v7, ev7, hf⟩ := bd hf
        refine g_getR (M := mX8_changes) dX8_changes_152 flRX8_49 (fun _ => rfl) ev7 ?_
        refine g_iload (M := mX8_changes) dX8_changes_155 7 rfl ?_
        obtain ⟨v8, ev8, hf⟩ := bd hf
        refine g_iald (M := mX8_changes) dX8_changes_157 ev8 ?_
        obtain ⟨h9, eh9, hf⟩ := bd hf
        refine g_putI (M := mX8_changes) dX8_changes_158 flRX8_153 rfl eh9 ?_
        refine g_aload_n (M := mX8_changes) dX8_changes_161 rfl 0 rfl ?_
        refine g_iload (M := mX8_changes) dX8_changes_162 7 rfl ?_
        obtain ⟨b10, eb10, hf⟩ := bd hf
        obtain ⟨r11, er11, hf⟩ := bd hf
        refine g_callV (M := mX8_changes) (kc := 0) (ks := 0) (as := [vi a7]) (rest := []) dX8_changes_164 cbX8_because vwRX8_146 rfl eb10 rfl (Nat.le_of_ble_eq_true rfl) (Nat.le_of_ble_eq_true rfl) (c_X8_because G b10 a7 h9 r11 er11) ?_
        refine g_aload_n (M := mX8_changes) dX8_changes_167 rfl 0 rfl ?_
        refine g_aload_n (M := mX8_changes) dX8_changes_168 rfl 0 rfl ?_
        refine g_bipush (M := mX8_changes) (v := 7) dX8_changes_169 rfl ?_
        refine g_iload (M := mX8_changes) dX8_changes_171 7 rfl ?_
        refine g_iload_n (M := mX8_changes) dX8_changes_173 rfl 1 rfl ?_
        refine g_iload (M := mX8_changes) dX8_changes_174 5 rfl ?_
        refine g_iload (M := mX8_changes) dX8_changes_176 6 rfl ?_
        obtain ⟨b12, eb12, hf⟩ := bd hf
        obtain ⟨r13, er13, hf⟩ := bd hf
        refine g_callV (M := mX8_changes) (kc := 0) (ks := 0) (as := [vi (7 : Int32), vi a7, vi a1, vi a5, vi a6]) (rest := [vr (some a0)]) dX8_changes_178 cbX8_leastTo vwRX8_171 rfl eb12 rfl (Nat.le_of_ble_eq_true rfl) (Nat.le_of_ble_eq_true rfl) (c_X8_leastTo G b12 (7 : Int32) a7 a1 a5 a6 r11 r13 er13) ?_
        obtain ⟨b14, eb14, hf⟩ := bd hf
        obtain ⟨r15, er15, hf⟩ := bd hf
        refine g_callV (M := mX8_changes) (kc := 0) (ks := 0) (as := [vi r13]) (rest := []) dX8_changes_181 cbX8_because vwRX8_146 rfl eb14 rfl (Nat.le_of_ble_eq_true rfl) (Nat.le_of_ble_eq_true rfl) (c_X8_because G b14 r13 r11 r15 er15) ?_
        refine g_aload_n (M := mX8_changes) dX8_changes_184 rfl 0 rfl ?_
        refine g_aload_n (M := mX8_changes) dX8_changes_185 rfl 0 rfl ?_
        refine g_bipush (M := mX8_changes) (v := 7) dX8_changes_186 rfl ?_
        refine g_iload (M := mX8_changes) dX8_changes_188 7 rfl ?_
        refine g_iload_n (M := mX8_changes) dX8_changes_190 rfl 2 rfl ?_
        refine g_iload (M := mX8_changes) dX8_changes_191 5 rfl ?_
        refine g_iload (M := mX8_changes) dX8_changes_193 6 rfl ?_
        obtain ⟨b16, eb16, hf⟩ := bd hf
        obtain ⟨r17, er17, hf⟩ := bd hf
        refine g_callV (M := mX8_changes) (kc := 0) (ks := 0) (as := [vi (7 : Int32), vi a7, vi a2, vi a5, vi a6]) (rest := [vr (some a0)]) dX8_changes_195 cbX8_leastTo vwRX8_171 rfl eb16 rfl (Nat.le_of_ble_eq_true rfl) (Nat.le_of_ble_eq_true rfl) (c_X8_leastTo G b16 (7 : Int32) a7 a2 a5 a6 r15 r17 er17) ?_
        obtain ⟨b18, eb18, hf⟩ := bd hf
        obtain ⟨r19, er19, hf⟩ := bd hf
        refine g_callV (M := mX8_changes) (kc := 0) (ks := 0) (as := [vi r17]) (rest := []) dX8_changes_198 cbX8_because vwRX8_146 rfl eb18 rfl (Nat.le_of_ble_eq_true rfl) (Nat.le_of_ble_eq_true rfl) (c_X8_because G b18 r17 r15 r19 er19) ?_
        cases hf
        exact g_ret (M := mX8_changes) dX8_changes_201 rfl
    · replace hf := iff_ hf q33
      refine g_aload_n (M := mX8_changes) dX8_changes_36 rfl 0 rfl ?_
      obtain ⟨v20, ev20, hf⟩ := bd hf
      refine g_getR (M := mX8_changes) dX8_changes_37 flRX8_25 (fun _ => rfl) ev20 ?_
      refine g_iload (M := mX8_changes) dX8_changes_40 8 rfl ?_
      obtain ⟨v21, ev21, hf⟩ := bd hf
      refine g_iald (M := mX8_changes) dX8_changes_42 ev21 ?_
      refine g_bipush (M := mX8_changes) (v := 6) dX8_changes_43 rfl ?_
      refine g_ic_ne (M := mX8_changes) (tgt := 87) dX8_changes_45 rfl (fun q45 => ?_) (fun q45 => ?_)
      · replace hf := iff_ hf q45
        exact x_X8_changes_87 G (f_X8_changes_27 n) ih a0 a1 a2 a3 a4 a5 a6 a7 a8 h _ hf
      · replace hf := ift hf q45
        refine g_aload_n (M := mX8_changes) dX8_changes_48 rfl 0 rfl ?_
        obtain ⟨v22, ev22, hf⟩ := bd hf
        refine g_getR (M := mX8_changes) dX8_changes_49 flRX8_31 (fun _ => rfl) ev22 ?_
        refine g_iload (M := mX8_changes) dX8_changes_52 8 rfl ?_
        obtain ⟨v23, ev23, hf⟩ := bd hf
        refine g_iald (M := mX8_changes) dX8_changes_54 ev23 ?_
        refine g_iload_n (M := mX8_changes) dX8_changes_55 rfl 3 rfl ?_
        refine g_ic_ne (M := mX8_changes) (tgt := 87) dX8_changes_56 rfl (fun q56 => ?_) (fun q56 => ?_)
        · replace hf := iff_ hf q56
          exact x_X8_changes_87 G (f_X8_changes_27 n) ih a0 a1 a2 a3 a4 a5 a6 a7 a8 h _ hf
        · replace hf := ift hf q56
          refine g_aload_n (M := mX8_changes) dX8_changes_59 rfl 0 rfl ?_
          obtain ⟨v24, ev24, hf⟩ := bd hf
          refine g_getR (M := mX8_changes) dX8_changes_60 flRX8_46 (fun _ => rfl) ev24 ?_
          refine g_iload (M := mX8_changes) dX8_changes_63 8 rfl ?_
          obtain ⟨v25, ev25, hf⟩ := bd hf
          refine g_iald (M := mX8_changes) dX8_changes_65 ev25 ?_
          refine g_iload (M := mX8_changes) dX8_changes_66 4 rfl ?_
          refine g_ic_ne (M := mX8_changes) (tgt := 87) dX8_changes_68 rfl (fun q68 => ?_) (fun q68 => ?_)
          · replace hf := iff_ hf q68
            exact x_X8_changes_87 G (f_X8_changes_27 n) ih a0 a1 a2 a3 a4 a5 a6 a7 a8 h _ hf
          · replace hf := ift hf q68
            refine g_aload_n (M := mX8_changes) dX8_changes_71 rfl 0 rfl ?_
            obtain ⟨v26, ev26, hf⟩ := bd hf
            refine g_getR (M := mX8_changes) dX8_changes_72 flRX8_34 (fun _ => rfl) ev26 ?_
            refine g_iload (M := mX8_changes) dX8_changes_75 8 rfl ?_
            obtain ⟨v27, ev27, hf⟩ := bd hf
            refine g_iald (M := mX8_changes) dX8_changes_77 ev27 ?_
            refine g_iload (M := mX8_changes) dX8_changes_78 6 rfl ?_
            refine g_ic_gt (M := mX8_changes) (tgt := 87) dX8_changes_80 rfl (fun q80 => ?_) (fun q80 => ?_)
            · replace hf := ift hf q80
              exact x_X8_changes_87 G (f_X8_changes_27 n) ih a0 a1 a2 a3 a4 a5 a6 a7 a8 h _ hf
            · replace hf := iff_ hf q80
              refine g_iconst (M := mX8_changes) (v := 1) dX8_changes_83 rfl ?_
              refine g_goto (M := mX8_changes) (tgt := 88) dX8_changes_84 rfl ?_
              exact x_X8_changes_88 G (f_X8_changes_27 n) ih a0 a1 a2 a3 a4 a5 a6 a7 a8 (1 : Int32) h _ hf
def f_X8_changes (a0 : Nat) (a1 : Int32) (a2 : Int32) (a3 : Int32) (a4 : Int32) (a5 : Int32) (a6 : Int32) (h : AH) : Option AH :=
  (pI 8 20 h (some a0) (1 : Int32)).bind fun h28 =>
  (gR 8 7 h28 (some a0)).bind fun v29 =>
  (lI 10 h28 v29 (((20 : Int32) * a3) + a4)).bind fun v30 =>
  (pI 8 21 h28 (some a0) v30).bind fun h31 =>
  f_X8_changes_27 FU a0 a1 a2 a3 a4 a5 a6 (-1 : Int32) (0 : Int32) h31
theorem x_X8_changes (G : Gm) (a0 : Nat) (a1 : Int32) (a2 : Int32) (a3 : Int32) (a4 : Int32) (a5 : Int32) (a6 : Int32) (h : AH) (o : AH) (hf : f_X8_changes a0 a1 a2 a3 a4 a5 a6 h = some o) : GO G mX8_changes 0 0 0 [(0, vr (some a0)), (1, vi a1), (2, vi a2), (3, vi a3), (4, vi a4), (5, vi a5), (6, vi a6)] [] h none o := by
  unfold f_X8_changes at hf
  refine g_aload_n (M := mX8_changes) dX8_changes_0 rfl 0 rfl ?_
  refine g_iconst (M := mX8_changes) (v := 1) dX8_changes_1 rfl ?_
  obtain ⟨h28, eh28, hf⟩ := bd hf
  refine g_putI (M := mX8_changes) dX8_changes_2 flRX8_150 rfl eh28 ?_
  refine g_aload_n (M := mX8_changes) dX8_changes_5 rfl 0 rfl ?_
  refine g_aload_n (M := mX8_changes) dX8_changes_6 rfl 0 rfl ?_
  obtain ⟨v29, ev29, hf⟩ := bd hf
  refine g_getR (M := mX8_changes) dX8_changes_7 flRX8_22 (fun _ => rfl) ev29 ?_
  refine g_bipush (M := mX8_changes) (v := 20) dX8_changes_10 rfl ?_
  refine g_iload_n (M := mX8_changes) dX8_changes_12 rfl 3 rfl ?_
  refine g_imul (M := mX8_changes) dX8_changes_13 ?_
  refine g_iload (M := mX8_changes) dX8_changes_14 4 rfl ?_
  refine g_iadd (M := mX8_changes) dX8_changes_16 ?_
  obtain ⟨v30, ev30, hf⟩ := bd hf
  refine g_iald (M := mX8_changes) dX8_changes_17 ev30 ?_
  obtain ⟨h31, eh31, hf⟩ := bd hf
  refine g_putI (M := mX8_changes) dX8_changes_18 flRX8_153 rfl eh31 ?_
  refine g_iconst (M := mX8_changes) (v := -1) dX8_changes_21 rfl ?_
  refine g_istore (M := mX8_changes) (L2 := [(7, vi (-1 : Int32)), (0, vr (some a0)), (1, vi a1), (2, vi a2), (3, vi a3), (4, vi a4), (5, vi a5), (6, vi a6)]) dX8_changes_22 (Nat.le_of_ble_eq_true rfl) rfl ?_
  refine g_iconst (M := mX8_changes) (v := 0) dX8_changes_24 rfl ?_
  refine g_istore (M := mX8_changes) (L2 := [(8, vi (0 : Int32)), (7, vi (-1 : Int32)), (0, vr (some a0)), (1, vi a1), (2, vi a2), (3, vi a3), (4, vi a4), (5, vi a5), (6, vi a6)]) dX8_changes_25 (Nat.le_of_ble_eq_true rfl) rfl ?_
  exact g_sub (M := mX8_changes) (L2 := [(0, vr (some a0)), (1, vi a1), (2, vi a2), (3, vi a3), (4, vi a4), (5, vi a5), (6, vi a6), (7, vi (-1 : Int32)), (8, vi (0 : Int32))]) [2, 3, 4, 5, 6, 7, 8, 1, 0] rfl <| x_X8_changes_27 G FU a0 a1 a2 a3 a4 a5 a6 (-1 : Int32) (0 : Int32) h31 _ hf
theorem c_X8_changes (G : Gm) (a0 : Nat) (a1 : Int32) (a2 : Int32) (a3 : Int32) (a4 : Int32) (a5 : Int32) (a6 : Int32) (h : AH) (o : AH) (hf : f_X8_changes a0 a1 a2 a3 a4 a5 a6 h = some o) : CT G yX8_changes mX8_changes none 0 0 [vr (some a0), vi a1, vi a2, vi a3, vi a4, vi a5, vi a6] h none o :=
  CT.void (by decide +kernel) rfl rfl rfl (Nat.le_of_ble_eq_true rfl) (x_X8_changes G a0 a1 a2 a3 a4 a5 a6 h o hf)
theorem cbX8_changes : CB yX8_changes mX8_changes none 6 := ⟨cd_yX8_changes, itRX8, ⟨by decide, by decide⟩, by decide +kernel, by decide⟩
abbrev mX8_finds : MI := (RX8, "finds", cX8_finds, 16, .return_, 5)
def f_X8_finds_317 (K0 : Nat → Int32 → Int32 → Int32 → Int32 → Int32 → Int32 → Int32 → Int32 → AH → Option AH) (a0 : Nat) (a3 : Int32) (a4 : Int32) (a5 : Int32) (a6 : Int32) (a7 : Int32) (a8 : Int32) (a14 : Int32) (h : AH) : Option AH :=
  K0 a0 a3 a4 a5 a6 a7 a8 a14 (a14 + (1)) h
theorem x_X8_finds_317 (G : Gm) (K0 : Nat → Int32 → Int32 → Int32 → Int32 → Int32 → Int32 → Int32 → Int32 → AH → Option AH) (hK0 : ∀ (a0 : Nat) (a3 : Int32) (a4 : Int32) (a5 : Int32) (a6 : Int32) (a7 : Int32) (a8 : Int32) (a13 : Int32) (a14 : Int32) (h : AH) (o : AH), K0 a0 a3 a4 a5 a6 a7 a8 a13 a14 h = some o → GO G mX8_finds 0 0 255 [(0, vr (some a0)), (3, vi a3), (4, vi a4), (5, vi a5), (6, vi a6), (7, vi a7), (8, vi a8), (13, vi a13), (14, vi a14)] [] h none o) (a0 : Nat) (a3 : Int32) (a4 : Int32) (a5 : Int32) (a6 : Int32) (a7 : Int32) (a8 : Int32) (a14 : Int32) (h : AH) (o : AH) (hf : f_X8_finds_317 K0 a0 a3 a4 a5 a6 a7 a8 a14 h = some o) : GO G mX8_finds 0 0 317 [(0, vr (some a0)), (3, vi a3), (4, vi a4), (5, vi a5), (6, vi a6), (7, vi a7), (8, vi a8), (14, vi a14)] [] h none o := by
  unfold f_X8_finds_317 at hf
  refine g_iload (M := mX8_finds) dX8_finds_317 7 rfl ?_
  refine g_istore (M := mX8_finds) (L2 := [(13, vi a14), (0, vr (some a0)), (3, vi a3), (4, vi a4), (5, vi a5), (6, vi a6), (7, vi a7), (8, vi a8), (14, vi a14)]) dX8_finds_319 (Nat.le_of_ble_eq_true rfl) rfl ?_
  refine g_iinc (M := mX8_finds) (j := 8) (L2 := [(14, vi (a14 + (1))), (13, vi a14), (0, vr (some a0)), (3, vi a3), (4, vi a4), (5, vi a5), (6, vi a6), (7, vi a7), (8, vi a8)]) dX8_finds_321 rfl rfl (Nat.le_of_ble_eq_true rfl) rfl ?_
  refine g_goto (M := mX8_finds) (tgt := 255) dX8_finds_324 rfl ?_
  exact g_sub (M := mX8_finds) (L2 := [(0, vr (some a0)), (3, vi a3), (4, vi a4), (5, vi a5), (6, vi a6), (7, vi a7), (8, vi a8), (13, vi a14), (14, vi (a14 + (1)))]) [2, 3, 4, 5, 6, 7, 8, 1, 0] rfl <| hK0 a0 a3 a4 a5 a6 a7 a8 a14 (a14 + (1)) h _ hf
def f_X8_finds_502 (a0 : Nat) (h : AH) : Option AH :=
  (ck 8 h (some a0)).bind fun b1 =>
  (f_X8_leans b1 h).bind fun r2 =>
  some r2
theorem x_X8_finds_502 (G : Gm) (a0 : Nat) (h : AH) (o : AH) (hf : f_X8_finds_502 a0 h = some o) : GO G mX8_finds 0 0 502 [(0, vr (some a0))] [] h none o := by
  unfold f_X8_finds_502 at hf
  refine g_aload_n (M := mX8_finds) dX8_finds_502 rfl 0 rfl ?_
  obtain ⟨b1, eb1, hf⟩ := bd hf
  obtain ⟨r2, er2, hf⟩ := bd hf
  refine g_callV (M := mX8_finds) (kc := 0) (ks := 0) (as := []) (rest := []) dX8_finds_503 cbX8_leans vwRX8_168 rfl eb1 rfl (Nat.le_of_ble_eq_true rfl) (Nat.le_of_ble_eq_true rfl) (c_X8_leans G b1 h r2 er2) ?_
  cases hf
  exact g_ret (M := mX8_finds) dX8_finds_506 rfl
def f_X8_finds_484 (a0 : Nat) (h : AH) : Option AH :=
  f_X8_finds_502 a0 h
theorem x_X8_finds_484 (G : Gm) (a0 : Nat) (h : AH) (o : AH) (hf : f_X8_finds_484 a0 h = some o) : GO G mX8_finds 0 0 484 [(0, vr (some a0))] [] h none o := by
  unfold f_X8_finds_484 at hf
  refine g_goto (M := mX8_finds) (tgt := 502) dX8_finds_484 rfl ?_
  exact x_X8_finds_502 G a0 h _ hf
def f_X8_finds_465 (a0 : Nat) (a13 : Int32) (a15 : Int32) (s0 : Option Nat) (s1 : Int32) (h : AH) : Option AH :=
  (pI 8 21 h s0 s1).bind fun h3 =>
  (gR 8 17 h3 (some a0)).bind fun v4 =>
  (lI 10 h3 v4 a13).bind fun v5 =>
  if v5 = 0 then (
    f_X8_finds_484 a0 h3
  ) else (
    (ck 8 h3 (some a0)).bind fun b6 =>
    (f_X8_because b6 a15 h3).bind fun r7 =>
    f_X8_finds_484 a0 r7
  )
theorem x_X8_finds_465 (G : Gm) (a0 : Nat) (a13 : Int32) (a15 : Int32) (s0 : Option Nat) (s1 : Int32) (h : AH) (o : AH) (hf : f_X8_finds_465 a0 a13 a15 s0 s1 h = some o) : GO G mX8_finds 0 0 465 [(0, vr (some a0)), (13, vi a13), (15, vi a15)] [vi s1, vr s0] h none o := by
  unfold f_X8_finds_465 at hf
  obtain ⟨h3, eh3, hf⟩ := bd hf
  refine g_putI (M := mX8_finds) dX8_finds_465 flRX8_153 rfl eh3 ?_
  refine g_aload_n (M := mX8_finds) dX8_finds_468 rfl 0 rfl ?_
  obtain ⟨v4, ev4, hf⟩ := bd hf
  refine g_getR (M := mX8_finds) dX8_finds_469 flRX8_49 (fun _ => rfl) ev4 ?_
  refine g_iload (M := mX8_finds) dX8_finds_472 1 rfl ?_
  obtain ⟨v5, ev5, hf⟩ := bd hf
  refine g_iald (M := mX8_finds) dX8_finds_474 ev5 ?_
  refine g_if_eq (M := mX8_finds) (tgt := 484) dX8_finds_475 rfl (fun q475 => ?_) (fun q475 => ?_)
  · replace hf := ift hf q475
    exact g_sub (M := mX8_finds) (L2 := [(0, vr (some a0))]) [0] rfl <| x_X8_finds_484 G a0 h3 _ hf
  · replace hf := iff_ hf q475
    refine g_aload_n (M := mX8_finds) dX8_finds_478 rfl 0 rfl ?_
    refine g_iload (M := mX8_finds) dX8_finds_479 2 rfl ?_
    obtain ⟨b6, eb6, hf⟩ := bd hf
    obtain ⟨r7, er7, hf⟩ := bd hf
    refine g_callV (M := mX8_finds) (kc := 0) (ks := 0) (as := [vi a15]) (rest := []) dX8_finds_481 cbX8_because vwRX8_146 rfl eb6 rfl (Nat.le_of_ble_eq_true rfl) (Nat.le_of_ble_eq_true rfl) (c_X8_because G b6 a15 h3 r7 er7) ?_
    exact g_sub (M := mX8_finds) (L2 := [(0, vr (some a0))]) [0] rfl <| x_X8_finds_484 G a0 r7 _ hf
def f_X8_finds_442 (a0 : Nat) (a13 : Int32) (a15 : Int32) (s0 : Option Nat) (s1 : Int32) (h : AH) : Option AH :=
  (pI 8 20 h s0 s1).bind fun h8 =>
  (gI 8 20 h8 (some a0)).bind fun v9 =>
  if v9 = (3 : Int32) then (
    f_X8_finds_465 a0 a13 a15 (some a0) (0 : Int32) h8
  ) else (
    (gR 8 17 h8 (some a0)).bind fun v10 =>
    (lI 10 h8 v10 a13).bind fun v11 =>
    f_X8_finds_465 a0 a13 a15 (some a0) v11 h8
  )
theorem x_X8_finds_442 (G : Gm) (a0 : Nat) (a13 : Int32) (a15 : Int32) (s0 : Option Nat) (s1 : Int32) (h : AH) (o : AH) (hf : f_X8_finds_442 a0 a13 a15 s0 s1 h = some o) : GO G mX8_finds 0 0 442 [(0, vr (some a0)), (13, vi a13), (15, vi a15)] [vi s1, vr s0] h none o := by
  unfold f_X8_finds_442 at hf
  obtain ⟨h8, eh8, hf⟩ := bd hf
  refine g_putI (M := mX8_finds) dX8_finds_442 flRX8_150 rfl eh8 ?_
  refine g_aload_n (M := mX8_finds) dX8_finds_445 rfl 0 rfl ?_
  refine g_aload_n (M := mX8_finds) dX8_finds_446 rfl 0 rfl ?_
  obtain ⟨v9, ev9, hf⟩ := bd hf
  refine g_getI (M := mX8_finds) dX8_finds_447 flRX8_150 (fun _ => rfl) ev9 ?_
  refine g_iconst (M := mX8_finds) (v := 3) dX8_finds_450 rfl ?_
  refine g_ic_ne (M := mX8_finds) (tgt := 458) dX8_finds_451 rfl (fun q451 => ?_) (fun q451 => ?_)
  · replace hf := iff_ hf q451
    refine g_aload_n (M := mX8_finds) dX8_finds_458 rfl 0 rfl ?_
    obtain ⟨v10, ev10, hf⟩ := bd hf
    refine g_getR (M := mX8_finds) dX8_finds_459 flRX8_49 (fun _ => rfl) ev10 ?_
    refine g_iload (M := mX8_finds) dX8_finds_462 1 rfl ?_
    obtain ⟨v11, ev11, hf⟩ := bd hf
    refine g_iald (M := mX8_finds) dX8_finds_464 ev11 ?_
    exact x_X8_finds_465 G a0 a13 a15 (some a0) v11 h8 _ hf
  · replace hf := ift hf q451
    refine g_iconst (M := mX8_finds) (v := 0) dX8_finds_454 rfl ?_
    refine g_goto (M := mX8_finds) (tgt := 465) dX8_finds_455 rfl ?_
    exact x_X8_finds_465 G a0 a13 a15 (some a0) (0 : Int32) h8 _ hf
def f_X8_finds_437 (a0 : Nat) (a13 : Int32) (a15 : Int32) (s0 : Option Nat) (h : AH) : Option AH :=
  f_X8_finds_442 a0 a13 a15 s0 (3 : Int32) h
theorem x_X8_finds_437 (G : Gm) (a0 : Nat) (a13 : Int32) (a15 : Int32) (s0 : Option Nat) (h : AH) (o : AH) (hf : f_X8_finds_437 a0 a13 a15 s0 h = some o) : GO G mX8_finds 0 0 437 [(0, vr (some a0)), (13, vi a13), (15, vi a15)] [vr s0] h none o := by
  unfold f_X8_finds_437 at hf
  refine g_iconst (M := mX8_finds) (v := 3) dX8_finds_437 rfl ?_
  refine g_goto (M := mX8_finds) (tgt := 442) dX8_finds_438 rfl ?_
  exact x_X8_finds_442 G a0 a13 a15 s0 (3 : Int32) h _ hf
def f_X8_finds_418 (a0 : Nat) (a13 : Int32) (s0 : Int32) (h : AH) : Option AH :=
  (gR 8 17 h (some a0)).bind fun v12 =>
  (lI 10 h v12 a13).bind fun v13 =>
  if v13 = 0 then (
    f_X8_finds_437 a0 a13 s0 (some a0) h
  ) else (
    if s0 = (-1 : Int32) then (
      f_X8_finds_442 a0 a13 s0 (some a0) (2 : Int32) h
    ) else (
      f_X8_finds_437 a0 a13 s0 (some a0) h
    )
  )
theorem x_X8_finds_418 (G : Gm) (a0 : Nat) (a13 : Int32) (s0 : Int32) (h : AH) (o : AH) (hf : f_X8_finds_418 a0 a13 s0 h = some o) : GO G mX8_finds 0 0 418 [(0, vr (some a0)), (13, vi a13)] [vi s0] h none o := by
  unfold f_X8_finds_418 at hf
  refine g_istore (M := mX8_finds) (L2 := [(15, vi s0), (0, vr (some a0)), (13, vi a13)]) dX8_finds_418 (Nat.le_of_ble_eq_true rfl) rfl ?_
  refine g_aload_n (M := mX8_finds) dX8_finds_420 rfl 1 rfl ?_
  refine g_aload_n (M := mX8_finds) dX8_finds_421 rfl 1 rfl ?_
  obtain ⟨v12, ev12, hf⟩ := bd hf
  refine g_getR (M := mX8_finds) dX8_finds_422 flRX8_49 (fun _ => rfl) ev12 ?_
  refine g_iload (M := mX8_finds) dX8_finds_425 2 rfl ?_
  obtain ⟨v13, ev13, hf⟩ := bd hf
  refine g_iald (M := mX8_finds) dX8_finds_427 ev13 ?_
  refine g_if_eq (M := mX8_finds) (tgt := 437) dX8_finds_428 rfl (fun q428 => ?_) (fun q428 => ?_)
  · replace hf := ift hf q428
    exact g_sub (M := mX8_finds) (L2 := [(0, vr (some a0)), (13, vi a13), (15, vi s0)]) [1, 2, 0] rfl <| x_X8_finds_437 G a0 a13 s0 (some a0) h _ hf
  · replace hf := iff_ hf q428
    refine g_iload (M := mX8_finds) dX8_finds_431 0 rfl ?_
    refine g_iconst (M := mX8_finds) (v := -1) dX8_finds_433 rfl ?_
    refine g_ic_eq (M := mX8_finds) (tgt := 441) dX8_finds_434 rfl (fun q434 => ?_) (fun q434 => ?_)
    · replace hf := ift hf q434
      refine g_iconst (M := mX8_finds) (v := 2) dX8_finds_441 rfl ?_
      exact g_sub (M := mX8_finds) (L2 := [(0, vr (some a0)), (13, vi a13), (15, vi s0)]) [1, 2, 0] rfl <| x_X8_finds_442 G a0 a13 s0 (some a0) (2 : Int32) h _ hf
    · replace hf := iff_ hf q434
      exact g_sub (M := mX8_finds) (L2 := [(0, vr (some a0)), (13, vi a13), (15, vi s0)]) [1, 2, 0] rfl <| x_X8_finds_437 G a0 a13 s0 (some a0) h _ hf
def f_X8_finds_411 (a0 : Nat) (a5 : Int32) (a6 : Int32) (a13 : Int32) (s0 : Option Nat) (s1 : Int32) (s2 : Int32) (s3 : Int32) (h : AH) : Option AH :=
  (ck 8 h s0).bind fun b14 =>
  (f_X8_leastTo b14 s1 s2 s3 a5 a6 h).bind fun r15 =>
  f_X8_finds_418 a0 a13 r15 h
theorem x_X8_finds_411 (G : Gm) (a0 : Nat) (a5 : Int32) (a6 : Int32) (a13 : Int32) (s0 : Option Nat) (s1 : Int32) (s2 : Int32) (s3 : Int32) (h : AH) (o : AH) (hf : f_X8_finds_411 a0 a5 a6 a13 s0 s1 s2 s3 h = some o) : GO G mX8_finds 0 0 411 [(0, vr (some a0)), (5, vi a5), (6, vi a6), (13, vi a13)] [vi s3, vi s2, vi s1, vr s0] h none o := by
  unfold f_X8_finds_411 at hf
  refine g_iload (M := mX8_finds) dX8_finds_411 1 rfl ?_
  refine g_iload (M := mX8_finds) dX8_finds_413 2 rfl ?_
  obtain ⟨b14, eb14, hf⟩ := bd hf
  obtain ⟨r15, er15, hf⟩ := bd hf
  refine g_callV (M := mX8_finds) (kc := 0) (ks := 0) (as := [vi s1, vi s2, vi s3, vi a5, vi a6]) (rest := []) dX8_finds_415 cbX8_leastTo vwRX8_171 rfl eb14 rfl (Nat.le_of_ble_eq_true rfl) (Nat.le_of_ble_eq_true rfl) (c_X8_leastTo G b14 s1 s2 s3 a5 a6 h r15 er15) ?_
  exact g_sub (M := mX8_finds) (L2 := [(0, vr (some a0)), (13, vi a13)]) [0, 3] rfl <| x_X8_finds_418 G a0 a13 r15 h _ hf
def f_X8_finds_374 (a0 : Nat) (a5 : Int32) (a6 : Int32) (a7 : Int32) (a8 : Int32) (a13 : Int32) (s0 : Int32) (h : AH) : Option AH :=
  if s0 = 0 then (
    (ck 8 h (some a0)).bind fun b16 =>
    (f_X8_hasPaper b16 a7 a13 a5 a6 h).bind fun r17 =>
    if (b2i r17) = 0 then (
      f_X8_finds_411 a0 a5 a6 a13 (some a0) (4 : Int32) a13 a7 h
    ) else (
      f_X8_finds_411 a0 a5 a6 a13 (some a0) (4 : Int32) a13 a8 h
    )
  ) else (
    f_X8_finds_418 a0 a13 (-1 : Int32) h
  )
theorem x_X8_finds_374 (G : Gm) (a0 : Nat) (a5 : Int32) (a6 : Int32) (a7 : Int32) (a8 : Int32) (a13 : Int32) (s0 : Int32) (h : AH) (o : AH) (hf : f_X8_finds_374 a0 a5 a6 a7 a8 a13 s0 h = some o) : GO G mX8_finds 0 0 374 [(0, vr (some a0)), (5, vi a5), (6, vi a6), (7, vi a7), (8, vi a8), (13, vi a13)] [vi s0] h none o := by
  unfold f_X8_finds_374 at hf
  refine g_istore (M := mX8_finds) (L2 := [(14, vi s0), (0, vr (some a0)), (5, vi a5), (6, vi a6), (7, vi a7), (8, vi a8), (13, vi a13)]) dX8_finds_374 (Nat.le_of_ble_eq_true rfl) rfl ?_
  refine g_iload (M := mX8_finds) dX8_finds_376 0 rfl ?_
  refine g_if_eq (M := mX8_finds) (tgt := 385) dX8_finds_378 rfl (fun q378 => ?_) (fun q378 => ?_)
  · replace hf := ift hf q378
    refine g_aload_n (M := mX8_finds) dX8_finds_385 rfl 1 rfl ?_
    refine g_iconst (M := mX8_finds) (v := 4) dX8_finds_386 rfl ?_
    refine g_iload (M := mX8_finds) dX8_finds_387 6 rfl ?_
    refine g_aload_n (M := mX8_finds) dX8_finds_389 rfl 1 rfl ?_
    refine g_iload (M := mX8_finds) dX8_finds_390 4 rfl ?_
    refine g_iload (M := mX8_finds) dX8_finds_392 6 rfl ?_
    refine g_iload (M := mX8_finds) dX8_finds_394 2 rfl ?_
    refine g_iload (M := mX8_finds) dX8_finds_396 3 rfl ?_
    obtain ⟨b16, eb16, hf⟩ := bd hf
    obtain ⟨r17, er17, hf⟩ := bd hf
    refine g_callV (M := mX8_finds) (kc := 0) (ks := 0) (as := [vi a7, vi a13, vi a5, vi a6]) (rest := [vi a13, vi (4 : Int32), vr (some a0)]) dX8_finds_398 cbX8_hasPaper vwRX8_143 rfl eb16 rfl (Nat.le_of_ble_eq_true rfl) (Nat.le_of_ble_eq_true rfl) (c_X8_hasPaper G b16 a7 a13 a5 a6 h r17 er17) ?_
    refine g_if_eq (M := mX8_finds) (tgt := 409) dX8_finds_401 rfl (fun q401 => ?_) (fun q401 => ?_)
    · replace hf := ift hf q401
      refine g_iload (M := mX8_finds) dX8_finds_409 4 rfl ?_
      exact g_sub (M := mX8_finds) (L2 := [(0, vr (some a0)), (5, vi a5), (6, vi a6), (13, vi a13)]) [1, 2, 3, 6] rfl <| x_X8_finds_411 G a0 a5 a6 a13 (some a0) (4 : Int32) a13 a7 h _ hf
    · replace hf := iff_ hf q401
      refine g_iload (M := mX8_finds) dX8_finds_404 5 rfl ?_
      refine g_goto (M := mX8_finds) (tgt := 411) dX8_finds_406 rfl ?_
      exact g_sub (M := mX8_finds) (L2 := [(0, vr (some a0)), (5, vi a5), (6, vi a6), (13, vi a13)]) [1, 2, 3, 6] rfl <| x_X8_finds_411 G a0 a5 a6 a13 (some a0) (4 : Int32) a13 a8 h _ hf
  · replace hf := iff_ hf q378
    refine g_iconst (M := mX8_finds) (v := -1) dX8_finds_381 rfl ?_
    refine g_goto (M := mX8_finds) (tgt := 418) dX8_finds_382 rfl ?_
    exact g_sub (M := mX8_finds) (L2 := [(0, vr (some a0)), (13, vi a13)]) [1, 6] rfl <| x_X8_finds_418 G a0 a13 (-1 : Int32) h _ hf
def f_X8_finds_373 (a0 : Nat) (a5 : Int32) (a6 : Int32) (a7 : Int32) (a8 : Int32) (a13 : Int32) (h : AH) : Option AH :=
  f_X8_finds_374 a0 a5 a6 a7 a8 a13 (0 : Int32) h
theorem x_X8_finds_373 (G : Gm) (a0 : Nat) (a5 : Int32) (a6 : Int32) (a7 : Int32) (a8 : Int32) (a13 : Int32) (h : AH) (o : AH) (hf : f_X8_finds_373 a0 a5 a6 a7 a8 a13 h = some o) : GO G mX8_finds 0 0 373 [(0, vr (some a0)), (5, vi a5), (6, vi a6), (7, vi a7), (8, vi a8), (13, vi a13)] [] h none o := by
  unfold f_X8_finds_373 at hf
  refine g_iconst (M := mX8_finds) (v := 0) dX8_finds_373 rfl ?_
  exact x_X8_finds_374 G a0 a5 a6 a7 a8 a13 (0 : Int32) h _ hf
def f_X8_finds_255 : Nat → Nat → Int32 → Int32 → Int32 → Int32 → Int32 → Int32 → Int32 → Int32 → AH → Option AH
  | 0, _, _, _, _, _, _, _, _, _, _ => none
  | n + 1, a0, a3, a4, a5, a6, a7, a8, a13, a14, h =>
    (gI 8 8 h (some a0)).bind fun v18 =>
    if v18 ≤ a14 then (
      if a13 = (-1 : Int32) then (
        (ck 8 h (some a0)).bind fun b19 =>
        (f_X8_changes b19 a7 a8 a3 a4 a5 a6 h).bind fun r20 =>
        f_X8_finds_502 a0 r20
      ) else (
        (ck 8 h (some a0)).bind fun b21 =>
        (f_X8_because b21 a13 h).bind fun r22 =>
        (ck 8 r22 (some a0)).bind fun b23 =>
        (f_X8_hasPaper b23 a7 a13 a5 a6 r22).bind fun r24 =>
        if (b2i r24) = 0 then (
          f_X8_finds_373 a0 a5 a6 a7 a8 a13 r22
        ) else (
          (ck 8 r22 (some a0)).bind fun b25 =>
          (f_X8_hasPaper b25 a8 a13 a5 a6 r22).bind fun r26 =>
          if (b2i r26) = 0 then (
            f_X8_finds_373 a0 a5 a6 a7 a8 a13 r22
          ) else (
            f_X8_finds_374 a0 a5 a6 a7 a8 a13 (1 : Int32) r22
          )
        )
      )
    ) else (
      (gR 8 9 h (some a0)).bind fun v27 =>
      (lI 10 h v27 a14).bind fun v28 =>
      if v28 = (3 : Int32) then (
        (gR 8 16 h (some a0)).bind fun v29 =>
        (lI 10 h v29 a14).bind fun v30 =>
        if v30 = a4 then (
          (ck 8 h (some a0)).bind fun b31 =>
          (f_X8_hasPaper b31 a7 a14 a5 a6 h).bind fun r32 =>
          if (b2i r32) = 0 then (
            (ck 8 h (some a0)).bind fun b33 =>
            (f_X8_hasPaper b33 a8 a14 a5 a6 h).bind fun r34 =>
            if (b2i r34) = 0 then (
              f_X8_finds_255 n a0 a3 a4 a5 a6 a7 a8 a13 (a14 + (1)) h
            ) else (
              f_X8_finds_317 (f_X8_finds_255 n) a0 a3 a4 a5 a6 a7 a8 a14 h
            )
          ) else (
            f_X8_finds_317 (f_X8_finds_255 n) a0 a3 a4 a5 a6 a7 a8 a14 h
          )
        ) else (
          f_X8_finds_255 n a0 a3 a4 a5 a6 a7 a8 a13 (a14 + (1)) h
        )
      ) else (
        f_X8_finds_255 n a0 a3 a4 a5 a6 a7 a8 a13 (a14 + (1)) h
      )
    )
theorem x_X8_finds_255 (G : Gm) : ∀ (n : Nat) (a0 : Nat) (a3 : Int32) (a4 : Int32) (a5 : Int32) (a6 : Int32) (a7 : Int32) (a8 : Int32) (a13 : Int32) (a14 : Int32) (h : AH) (o : AH), f_X8_finds_255 n a0 a3 a4 a5 a6 a7 a8 a13 a14 h = some o → GO G mX8_finds 0 0 255 [(0, vr (some a0)), (3, vi a3), (4, vi a4), (5, vi a5), (6, vi a6), (7, vi a7), (8, vi a8), (13, vi a13), (14, vi a14)] [] h none o := by
  intro n
  induction n with
  | zero => intro a0 a3 a4 a5 a6 a7 a8 a13 a14 h o hf; cases hf
  | succ n ih =>
    intro a0 a3 a4 a5 a6 a7 a8 a13 a14 h o hf
    rw [f_X8_finds_255] at hf
    refine g_iload (M := mX8_finds) dX8_finds_255 8 rfl ?_
    refine g_aload_n (M := mX8_finds) dX8_finds_257 rfl 0 rfl ?_
    obtain ⟨v18, ev18, hf⟩ := bd hf
    refine g_getI (M := mX8_finds) dX8_finds_258 flRX8_89 (fun _ => rfl) ev18 ?_
    refine g_ic_ge (M := mX8_finds) (tgt := 327) dX8_finds_261 rfl (fun q261 => ?_) (fun q261 => ?_)
    · replace hf := ift hf q261
      refine g_iload (M := mX8_finds) dX8_finds_327 7 rfl ?_
      refine g_iconst (M := mX8_finds) (v := -1) dX8_finds_329 rfl ?_
      refine g_ic_eq (M := mX8_finds) (tgt := 487) dX8_finds_330 rfl (fun q330 => ?_) (fun q330 => ?_)
      · replace hf := ift hf q330
        refine g_aload_n (M := mX8_finds) dX8_finds_487 rfl 0 rfl ?_
        refine g_iload (M := mX8_finds) dX8_finds_488 5 rfl ?_
        refine g_iload (M := mX8_finds) dX8_finds_490 6 rfl ?_
        refine g_iload_n (M := mX8_finds) dX8_finds_492 rfl 1 rfl ?_
        refine g_iload (M := mX8_finds) dX8_finds_493 2 rfl ?_
        refine g_iload (M := mX8_finds) dX8_finds_495 3 rfl ?_
        refine g_iload (M := mX8_finds) dX8_finds_497 4 rfl ?_
        obtain ⟨b19, eb19, hf⟩ := bd hf
        obtain ⟨r20, er20, hf⟩ := bd hf
        refine g_callV (M := mX8_finds) (kc := 0) (ks := 0) (as := [vi a7, vi a8, vi a3, vi a4, vi a5, vi a6]) (rest := []) dX8_finds_499 cbX8_changes vwRX8_175 rfl eb19 rfl (Nat.le_of_ble_eq_true rfl) (Nat.le_of_ble_eq_true rfl) (c_X8_changes G b19 a7 a8 a3 a4 a5 a6 h r20 er20) ?_
        exact g_sub (M := mX8_finds) (L2 := [(0, vr (some a0))]) [0] rfl <| x_X8_finds_502 G a0 r20 _ hf
      · replace hf := iff_ hf q330
        refine g_aload_n (M := mX8_finds) dX8_finds_333 rfl 0 rfl ?_
        refine g_iload (M := mX8_finds) dX8_finds_334 7 rfl ?_
        obtain ⟨b21, eb21, hf⟩ := bd hf
        obtain ⟨r22, er22, hf⟩ := bd hf
        refine g_callV (M := mX8_finds) (kc := 0) (ks := 0) (as := [vi a13]) (rest := []) dX8_finds_336 cbX8_because vwRX8_146 rfl eb21 rfl (Nat.le_of_ble_eq_true rfl) (Nat.le_of_ble_eq_true rfl) (c_X8_because G b21 a13 h r22 er22) ?_
        refine g_aload_n (M := mX8_finds) dX8_finds_339 rfl 0 rfl ?_
        refine g_iload (M := mX8_finds) dX8_finds_340 5 rfl ?_
        refine g_iload (M := mX8_finds) dX8_finds_342 7 rfl ?_
        refine g_iload (M := mX8_finds) dX8_finds_344 3 rfl ?_
        refine g_iload (M := mX8_finds) dX8_finds_346 4 rfl ?_
        obtain ⟨b23, eb23, hf⟩ := bd hf
        obtain ⟨r24, er24, hf⟩ := bd hf
        refine g_callV (M := mX8_finds) (kc := 0) (ks := 0) (as := [vi a7, vi a13, vi a5, vi a6]) (rest := []) dX8_finds_348 cbX8_hasPaper vwRX8_143 rfl eb23 rfl (Nat.le_of_ble_eq_true rfl) (Nat.le_of_ble_eq_true rfl) (c_X8_hasPaper G b23 a7 a13 a5 a6 r22 r24 er24) ?_
        refine g_if_eq (M := mX8_finds) (tgt := 373) dX8_finds_351 rfl (fun q351 => ?_) (fun q351 => ?_)
        · replace hf := ift hf q351
          exact g_sub (M := mX8_finds) (L2 := [(0, vr (some a0)), (5, vi a5), (6, vi a6), (7, vi a7), (8, vi a8), (13, vi a13)]) [0, 3, 4, 5, 6, 7] rfl <| x_X8_finds_373 G a0 a5 a6 a7 a8 a13 r22 _ hf
        · replace hf := iff_ hf q351
          refine g_aload_n (M := mX8_finds) dX8_finds_354 rfl 0 rfl ?_
          refine g_iload (M := mX8_finds) dX8_finds_355 6 rfl ?_
          refine g_iload (M := mX8_finds) dX8_finds_357 7 rfl ?_
          refine g_iload (M := mX8_finds) dX8_finds_359 3 rfl ?_
          refine g_iload (M := mX8_finds) dX8_finds_361 4 rfl ?_
          obtain ⟨b25, eb25, hf⟩ := bd hf
          obtain ⟨r26, er26, hf⟩ := bd hf
          refine g_callV (M := mX8_finds) (kc := 0) (ks := 0) (as := [vi a8, vi a13, vi a5, vi a6]) (rest := []) dX8_finds_363 cbX8_hasPaper vwRX8_143 rfl eb25 rfl (Nat.le_of_ble_eq_true rfl) (Nat.le_of_ble_eq_true rfl) (c_X8_hasPaper G b25 a8 a13 a5 a6 r22 r26 er26) ?_
          refine g_if_eq (M := mX8_finds) (tgt := 373) dX8_finds_366 rfl (fun q366 => ?_) (fun q366 => ?_)
          · replace hf := ift hf q366
            exact g_sub (M := mX8_finds) (L2 := [(0, vr (some a0)), (5, vi a5), (6, vi a6), (7, vi a7), (8, vi a8), (13, vi a13)]) [0, 3, 4, 5, 6, 7] rfl <| x_X8_finds_373 G a0 a5 a6 a7 a8 a13 r22 _ hf
          · replace hf := iff_ hf q366
            refine g_iconst (M := mX8_finds) (v := 1) dX8_finds_369 rfl ?_
            refine g_goto (M := mX8_finds) (tgt := 374) dX8_finds_370 rfl ?_
            exact g_sub (M := mX8_finds) (L2 := [(0, vr (some a0)), (5, vi a5), (6, vi a6), (7, vi a7), (8, vi a8), (13, vi a13)]) [0, 3, 4, 5, 6, 7] rfl <| x_X8_finds_374 G a0 a5 a6 a7 a8 a13 (1 : Int32) r22 _ hf
    · replace hf := iff_ hf q261
      refine g_aload_n (M := mX8_finds) dX8_finds_264 rfl 0 rfl ?_
      obtain ⟨v27, ev27, hf⟩ := bd hf
      refine g_getR (M := mX8_finds) dX8_finds_265 flRX8_25 (fun _ => rfl) ev27 ?_
      refine g_iload (M := mX8_finds) dX8_finds_268 8 rfl ?_
      obtain ⟨v28, ev28, hf⟩ := bd hf
      refine g_iald (M := mX8_finds) dX8_finds_270 ev28 ?_
      refine g_iconst (M := mX8_finds) (v := 3) dX8_finds_271 rfl ?_
      refine g_ic_ne (M := mX8_finds) (tgt := 321) dX8_finds_272 rfl (fun q272 => ?_) (fun q272 => ?_)
      · replace hf := iff_ hf q272
        refine g_iinc (M := mX8_finds) (j := 8) (L2 := [(14, vi (a14 + (1))), (0, vr (some a0)), (3, vi a3), (4, vi a4), (5, vi a5), (6, vi a6), (7, vi a7), (8, vi a8), (13, vi a13)]) dX8_finds_321 rfl rfl (Nat.le_of_ble_eq_true rfl) rfl ?_
        refine g_goto (M := mX8_finds) (tgt := 255) dX8_finds_324 rfl ?_
        exact g_sub (M := mX8_finds) (L2 := [(0, vr (some a0)), (3, vi a3), (4, vi a4), (5, vi a5), (6, vi a6), (7, vi a7), (8, vi a8), (13, vi a13), (14, vi (a14 + (1)))]) [1, 2, 3, 4, 5, 6, 7, 8, 0] rfl <| ih a0 a3 a4 a5 a6 a7 a8 a13 (a14 + (1)) h _ hf
      · replace hf := ift hf q272
        refine g_aload_n (M := mX8_finds) dX8_finds_275 rfl 0 rfl ?_
        obtain ⟨v29, ev29, hf⟩ := bd hf
        refine g_getR (M := mX8_finds) dX8_finds_276 flRX8_46 (fun _ => rfl) ev29 ?_
        refine g_iload (M := mX8_finds) dX8_finds_279 8 rfl ?_
        obtain ⟨v30, ev30, hf⟩ := bd hf
        refine g_iald (M := mX8_finds) dX8_finds_281 ev30 ?_
        refine g_iload (M := mX8_finds) dX8_finds_282 2 rfl ?_
        refine g_ic_ne (M := mX8_finds) (tgt := 321) dX8_finds_284 rfl (fun q284 => ?_) (fun q284 => ?_)
        · replace hf := iff_ hf q284
          refine g_iinc (M := mX8_finds) (j := 8) (L2 := [(14, vi (a14 + (1))), (0, vr (some a0)), (3, vi a3), (4, vi a4), (5, vi a5), (6, vi a6), (7, vi a7), (8, vi a8), (13, vi a13)]) dX8_finds_321 rfl rfl (Nat.le_of_ble_eq_true rfl) rfl ?_
          refine g_goto (M := mX8_finds) (tgt := 255) dX8_finds_324 rfl ?_
          exact g_sub (M := mX8_finds) (L2 := [(0, vr (some a0)), (3, vi a3), (4, vi a4), (5, vi a5), (6, vi a6), (7, vi a7), (8, vi a8), (13, vi a13), (14, vi (a14 + (1)))]) [1, 2, 3, 4, 5, 6, 7, 8, 0] rfl <| ih a0 a3 a4 a5 a6 a7 a8 a13 (a14 + (1)) h _ hf
        · replace hf := ift hf q284
          refine g_aload_n (M := mX8_finds) dX8_finds_287 rfl 0 rfl ?_
          refine g_iload (M := mX8_finds) dX8_finds_288 5 rfl ?_
          refine g_iload (M := mX8_finds) dX8_finds_290 8 rfl ?_
          refine g_iload (M := mX8_finds) dX8_finds_292 3 rfl ?_
          refine g_iload (M := mX8_finds) dX8_finds_294 4 rfl ?_
          obtain ⟨b31, eb31, hf⟩ := bd hf
          obtain ⟨r32, er32, hf⟩ := bd hf
          refine g_callV (M := mX8_finds) (kc := 0) (ks := 0) (as := [vi a7, vi a14, vi a5, vi a6]) (rest := []) dX8_finds_296 cbX8_hasPaper vwRX8_143 rfl eb31 rfl (Nat.le_of_ble_eq_true rfl) (Nat.le_of_ble_eq_true rfl) (c_X8_hasPaper G b31 a7 a14 a5 a6 h r32 er32) ?_
          refine g_if_ne (M := mX8_finds) (tgt := 317) dX8_finds_299 rfl (fun q299 => ?_) (fun q299 => ?_)
          · replace hf := iff_ hf q299
            exact g_sub (M := mX8_finds) (L2 := [(0, vr (some a0)), (3, vi a3), (4, vi a4), (5, vi a5), (6, vi a6), (7, vi a7), (8, vi a8), (14, vi a14)]) [0, 1, 2, 3, 4, 5, 6, 8] rfl <| x_X8_finds_317 G (f_X8_finds_255 n) ih a0 a3 a4 a5 a6 a7 a8 a14 h _ hf
          · replace hf := ift hf q299
            refine g_aload_n (M := mX8_finds) dX8_finds_302 rfl 0 rfl ?_
            refine g_iload (M := mX8_finds) dX8_finds_303 6 rfl ?_
            refine g_iload (M := mX8_finds) dX8_finds_305 8 rfl ?_
            refine g_iload (M := mX8_finds) dX8_finds_307 3 rfl ?_
            refine g_iload (M := mX8_finds) dX8_finds_309 4 rfl ?_
            obtain ⟨b33, eb33, hf⟩ := bd hf
            obtain ⟨r34, er34, hf⟩ := bd hf
            refine g_callV (M := mX8_finds) (kc := 0) (ks := 0) (as := [vi a8, vi a14, vi a5, vi a6]) (rest := []) dX8_finds_311 cbX8_hasPaper vwRX8_143 rfl eb33 rfl (Nat.le_of_ble_eq_true rfl) (Nat.le_of_ble_eq_true rfl) (c_X8_hasPaper G b33 a8 a14 a5 a6 h r34 er34) ?_
            refine g_if_eq (M := mX8_finds) (tgt := 321) dX8_finds_314 rfl (fun q314 => ?_) (fun q314 => ?_)
            · replace hf := ift hf q314
              refine g_iinc (M := mX8_finds) (j := 8) (L2 := [(14, vi (a14 + (1))), (0, vr (some a0)), (3, vi a3), (4, vi a4), (5, vi a5), (6, vi a6), (7, vi a7), (8, vi a8), (13, vi a13)]) dX8_finds_321 rfl rfl (Nat.le_of_ble_eq_true rfl) rfl ?_
              refine g_goto (M := mX8_finds) (tgt := 255) dX8_finds_324 rfl ?_
              exact g_sub (M := mX8_finds) (L2 := [(0, vr (some a0)), (3, vi a3), (4, vi a4), (5, vi a5), (6, vi a6), (7, vi a7), (8, vi a8), (13, vi a13), (14, vi (a14 + (1)))]) [1, 2, 3, 4, 5, 6, 7, 8, 0] rfl <| ih a0 a3 a4 a5 a6 a7 a8 a13 (a14 + (1)) h _ hf
            · replace hf := iff_ hf q314
              exact g_sub (M := mX8_finds) (L2 := [(0, vr (some a0)), (3, vi a3), (4, vi a4), (5, vi a5), (6, vi a6), (7, vi a7), (8, vi a8), (14, vi a14)]) [0, 1, 2, 3, 4, 5, 6, 8] rfl <| x_X8_finds_317 G (f_X8_finds_255 n) ih a0 a3 a4 a5 a6 a7 a8 a14 h _ hf
def f_X8_finds_249 (a0 : Nat) (a3 : Int32) (a4 : Int32) (a5 : Int32) (a6 : Int32) (a7 : Int32) (a8 : Int32) (h : AH) : Option AH :=
  f_X8_finds_255 FU a0 a3 a4 a5 a6 a7 a8 (-1 : Int32) (0 : Int32) h
theorem x_X8_finds_249 (G : Gm) (a0 : Nat) (a3 : Int32) (a4 : Int32) (a5 : Int32) (a6 : Int32) (a7 : Int32) (a8 : Int32) (h : AH) (o : AH) (hf : f_X8_finds_249 a0 a3 a4 a5 a6 a7 a8 h = some o) : GO G mX8_finds 0 0 249 [(0, vr (some a0)), (3, vi a3), (4, vi a4), (5, vi a5), (6, vi a6), (7, vi a7), (8, vi a8)] [] h none o := by
  unfold f_X8_finds_249 at hf
  refine g_iconst (M := mX8_finds) (v := -1) dX8_finds_249 rfl ?_
  refine g_istore (M := mX8_finds) (L2 := [(13, vi (-1 : Int32)), (0, vr (some a0)), (3, vi a3), (4, vi a4), (5, vi a5), (6, vi a6), (7, vi a7), (8, vi a8)]) dX8_finds_250 (Nat.le_of_ble_eq_true rfl) rfl ?_
  refine g_iconst (M := mX8_finds) (v := 0) dX8_finds_252 rfl ?_
  refine g_istore (M := mX8_finds) (L2 := [(14, vi (0 : Int32)), (13, vi (-1 : Int32)), (0, vr (some a0)), (3, vi a3), (4, vi a4), (5, vi a5), (6, vi a6), (7, vi a7), (8, vi a8)]) dX8_finds_253 (Nat.le_of_ble_eq_true rfl) rfl ?_
  exact g_sub (M := mX8_finds) (L2 := [(0, vr (some a0)), (3, vi a3), (4, vi a4), (5, vi a5), (6, vi a6), (7, vi a7), (8, vi a8), (13, vi (-1 : Int32)), (14, vi (0 : Int32))]) [2, 3, 4, 5, 6, 7, 8, 1, 0] rfl <| x_X8_finds_255 G FU a0 a3 a4 a5 a6 a7 a8 (-1 : Int32) (0 : Int32) h _ hf
def f_X8_finds_201 : Nat → Nat → Int32 → Int32 → Int32 → Int32 → Int32 → Int32 → Int32 → Int32 → AH → Option AH
  | 0, _, _, _, _, _, _, _, _, _, _ => none
  | n + 1, a0, a3, a4, a5, a6, a7, a8, a12, a13, h =>
    (gI 8 1 h (some a0)).bind fun v35 =>
    if v35 ≤ a13 then (
      f_X8_finds_249 a0 a3 a4 a5 a6 a7 a8 h
    ) else (
      if a12 ≤ 0 then (
        f_X8_finds_249 a0 a3 a4 a5 a6 a7 a8 h
      ) else (
        (ck 8 h (some a0)).bind fun b36 =>
        (f_X8_memberOf b36 a13 a3 a5 a6 h).bind fun r37 =>
        if r37 = (-1 : Int32) then (
          f_X8_finds_201 n a0 a3 a4 a5 a6 a7 a8 a12 (a13 + (1)) h
        ) else (
          (ck 8 h (some a0)).bind fun b38 =>
          (f_X8_because b38 r37 h).bind fun r39 =>
          f_X8_finds_201 n a0 a3 a4 a5 a6 a7 a8 (a12 + (-1)) (a13 + (1)) r39
        )
      )
    )
theorem x_X8_finds_201 (G : Gm) : ∀ (n : Nat) (a0 : Nat) (a3 : Int32) (a4 : Int32) (a5 : Int32) (a6 : Int32) (a7 : Int32) (a8 : Int32) (a12 : Int32) (a13 : Int32) (h : AH) (o : AH), f_X8_finds_201 n a0 a3 a4 a5 a6 a7 a8 a12 a13 h = some o → GO G mX8_finds 0 0 201 [(0, vr (some a0)), (3, vi a3), (4, vi a4), (5, vi a5), (6, vi a6), (7, vi a7), (8, vi a8), (12, vi a12), (13, vi a13)] [] h none o := by
  intro n
  induction n with
  | zero => intro a0 a3 a4 a5 a6 a7 a8 a12 a13 h o hf; cases hf
  | succ n ih =>
    intro a0 a3 a4 a5 a6 a7 a8 a12 a13 h o hf
    rw [f_X8_finds_201] at hf
    refine g_iload (M := mX8_finds) dX8_finds_201 8 rfl ?_
    refine g_aload_n (M := mX8_finds) dX8_finds_203 rfl 0 rfl ?_
    obtain ⟨v35, ev35, hf⟩ := bd hf
    refine g_getI (M := mX8_finds) dX8_finds_204 flRX8_78 (fun _ => rfl) ev35 ?_
    refine g_ic_ge (M := mX8_finds) (tgt := 249) dX8_finds_207 rfl (fun q207 => ?_) (fun q207 => ?_)
    · replace hf := ift hf q207
      exact g_sub (M := mX8_finds) (L2 := [(0, vr (some a0)), (3, vi a3), (4, vi a4), (5, vi a5), (6, vi a6), (7, vi a7), (8, vi a8)]) [0, 1, 2, 3, 4, 5, 6] rfl <| x_X8_finds_249 G a0 a3 a4 a5 a6 a7 a8 h _ hf
    · replace hf := iff_ hf q207
      refine g_iload (M := mX8_finds) dX8_finds_210 7 rfl ?_
      refine g_if_le (M := mX8_finds) (tgt := 249) dX8_finds_212 rfl (fun q212 => ?_) (fun q212 => ?_)
      · replace hf := ift hf q212
        exact g_sub (M := mX8_finds) (L2 := [(0, vr (some a0)), (3, vi a3), (4, vi a4), (5, vi a5), (6, vi a6), (7, vi a7), (8, vi a8)]) [0, 1, 2, 3, 4, 5, 6] rfl <| x_X8_finds_249 G a0 a3 a4 a5 a6 a7 a8 h _ hf
      · replace hf := iff_ hf q212
        refine g_aload_n (M := mX8_finds) dX8_finds_215 rfl 0 rfl ?_
        refine g_iload (M := mX8_finds) dX8_finds_216 8 rfl ?_
        refine g_iload_n (M := mX8_finds) dX8_finds_218 rfl 1 rfl ?_
        refine g_iload (M := mX8_finds) dX8_finds_219 3 rfl ?_
        refine g_iload (M := mX8_finds) dX8_finds_221 4 rfl ?_
        obtain ⟨b36, eb36, hf⟩ := bd hf
        obtain ⟨r37, er37, hf⟩ := bd hf
        refine g_callV (M := mX8_finds) (kc := 0) (ks := 0) (as := [vi a13, vi a3, vi a5, vi a6]) (rest := []) dX8_finds_223 cbX8_memberOf vwRX8_108 rfl eb36 rfl (Nat.le_of_ble_eq_true rfl) (Nat.le_of_ble_eq_true rfl) (c_X8_memberOf G b36 a13 a3 a5 a6 h r37 er37) ?_
        refine g_istore (M := mX8_finds) (L2 := [(14, vi r37), (0, vr (some a0)), (3, vi a3), (4, vi a4), (5, vi a5), (6, vi a6), (7, vi a7), (8, vi a8), (12, vi a12), (13, vi a13)]) dX8_finds_226 (Nat.le_of_ble_eq_true rfl) rfl ?_
        refine g_iload (M := mX8_finds) dX8_finds_228 0 rfl ?_
        refine g_iconst (M := mX8_finds) (v := -1) dX8_finds_230 rfl ?_
        refine g_ic_eq (M := mX8_finds) (tgt := 243) dX8_finds_231 rfl (fun q231 => ?_) (fun q231 => ?_)
        · replace hf := ift hf q231
          refine g_iinc (M := mX8_finds) (j := 9) (L2 := [(13, vi (a13 + (1))), (14, vi r37), (0, vr (some a0)), (3, vi a3), (4, vi a4), (5, vi a5), (6, vi a6), (7, vi a7), (8, vi a8), (12, vi a12)]) dX8_finds_243 rfl rfl (Nat.le_of_ble_eq_true rfl) rfl ?_
          refine g_goto (M := mX8_finds) (tgt := 201) dX8_finds_246 rfl ?_
          exact g_sub (M := mX8_finds) (L2 := [(0, vr (some a0)), (3, vi a3), (4, vi a4), (5, vi a5), (6, vi a6), (7, vi a7), (8, vi a8), (12, vi a12), (13, vi (a13 + (1)))]) [2, 3, 4, 5, 6, 7, 8, 9, 0] rfl <| ih a0 a3 a4 a5 a6 a7 a8 a12 (a13 + (1)) h _ hf
        · replace hf := iff_ hf q231
          refine g_aload_n (M := mX8_finds) dX8_finds_234 rfl 1 rfl ?_
          refine g_iload (M := mX8_finds) dX8_finds_235 0 rfl ?_
          obtain ⟨b38, eb38, hf⟩ := bd hf
          obtain ⟨r39, er39, hf⟩ := bd hf
          refine g_callV (M := mX8_finds) (kc := 0) (ks := 0) (as := [vi r37]) (rest := []) dX8_finds_237 cbX8_because vwRX8_146 rfl eb38 rfl (Nat.le_of_ble_eq_true rfl) (Nat.le_of_ble_eq_true rfl) (c_X8_because G b38 r37 h r39 er39) ?_
          refine g_iinc (M := mX8_finds) (j := 8) (L2 := [(12, vi (a12 + (-1))), (14, vi r37), (0, vr (some a0)), (3, vi a3), (4, vi a4), (5, vi a5), (6, vi a6), (7, vi a7), (8, vi a8), (13, vi a13)]) dX8_finds_240 rfl rfl (Nat.le_of_ble_eq_true rfl) rfl ?_
          refine g_iinc (M := mX8_finds) (j := 9) (L2 := [(13, vi (a13 + (1))), (12, vi (a12 + (-1))), (14, vi r37), (0, vr (some a0)), (3, vi a3), (4, vi a4), (5, vi a5), (6, vi a6), (7, vi a7), (8, vi a8)]) dX8_finds_243 rfl rfl (Nat.le_of_ble_eq_true rfl) rfl ?_
          refine g_goto (M := mX8_finds) (tgt := 201) dX8_finds_246 rfl ?_
          exact g_sub (M := mX8_finds) (L2 := [(0, vr (some a0)), (3, vi a3), (4, vi a4), (5, vi a5), (6, vi a6), (7, vi a7), (8, vi a8), (12, vi (a12 + (-1))), (13, vi (a13 + (1)))]) [3, 4, 5, 6, 7, 8, 9, 1, 0] rfl <| ih a0 a3 a4 a5 a6 a7 a8 (a12 + (-1)) (a13 + (1)) r39 _ hf
def f_X8_finds_160 (a0 : Nat) (a3 : Int32) (a4 : Int32) (a5 : Int32) (a6 : Int32) (a7 : Int32) (a8 : Int32) (s0 : Int32) (h : AH) : Option AH :=
  if s0 = (-1 : Int32) then (
    (gR 8 4 h (some a0)).bind fun v40 =>
    (lI 10 h v40 a3).bind fun v41 =>
    f_X8_finds_201 FU a0 a3 a4 a5 a6 a7 a8 v41 (0 : Int32) h
  ) else (
    (ck 8 h (some a0)).bind fun b42 =>
    (f_X8_because b42 s0 h).bind fun r43 =>
    (gR 8 14 r43 (some a0)).bind fun v44 =>
    (lI 10 r43 v44 s0).bind fun v45 =>
    (ck 8 r43 (some a0)).bind fun b46 =>
    (f_X8_because b46 v45 r43).bind fun r47 =>
    (ck 8 r47 (some a0)).bind fun b48 =>
    (f_X8_leans b48 r47).bind fun r49 =>
    some r49
  )
theorem x_X8_finds_160 (G : Gm) (a0 : Nat) (a3 : Int32) (a4 : Int32) (a5 : Int32) (a6 : Int32) (a7 : Int32) (a8 : Int32) (s0 : Int32) (h : AH) (o : AH) (hf : f_X8_finds_160 a0 a3 a4 a5 a6 a7 a8 s0 h = some o) : GO G mX8_finds 0 0 160 [(0, vr (some a0)), (3, vi a3), (4, vi a4), (5, vi a5), (6, vi a6), (7, vi a7), (8, vi a8)] [vi s0] h none o := by
  unfold f_X8_finds_160 at hf
  refine g_istore (M := mX8_finds) (L2 := [(11, vi s0), (0, vr (some a0)), (3, vi a3), (4, vi a4), (5, vi a5), (6, vi a6), (7, vi a7), (8, vi a8)]) dX8_finds_160 (Nat.le_of_ble_eq_true rfl) rfl ?_
  refine g_iload (M := mX8_finds) dX8_finds_162 0 rfl ?_
  refine g_iconst (M := mX8_finds) (v := -1) dX8_finds_164 rfl ?_
  refine g_ic_eq (M := mX8_finds) (tgt := 190) dX8_finds_165 rfl (fun q165 => ?_) (fun q165 => ?_)
  · replace hf := ift hf q165
    refine g_aload_n (M := mX8_finds) dX8_finds_190 rfl 1 rfl ?_
    obtain ⟨v40, ev40, hf⟩ := bd hf
    refine g_getR (M := mX8_finds) dX8_finds_191 flRX8_13 (fun _ => rfl) ev40 ?_
    refine g_iload_n (M := mX8_finds) dX8_finds_194 rfl 2 rfl ?_
    obtain ⟨v41, ev41, hf⟩ := bd hf
    refine g_iald (M := mX8_finds) dX8_finds_195 ev41 ?_
    refine g_istore (M := mX8_finds) (L2 := [(12, vi v41), (11, vi s0), (0, vr (some a0)), (3, vi a3), (4, vi a4), (5, vi a5), (6, vi a6), (7, vi a7), (8, vi a8)]) dX8_finds_196 (Nat.le_of_ble_eq_true rfl) rfl ?_
    refine g_iconst (M := mX8_finds) (v := 0) dX8_finds_198 rfl ?_
    refine g_istore (M := mX8_finds) (L2 := [(13, vi (0 : Int32)), (12, vi v41), (11, vi s0), (0, vr (some a0)), (3, vi a3), (4, vi a4), (5, vi a5), (6, vi a6), (7, vi a7), (8, vi a8)]) dX8_finds_199 (Nat.le_of_ble_eq_true rfl) rfl ?_
    exact g_sub (M := mX8_finds) (L2 := [(0, vr (some a0)), (3, vi a3), (4, vi a4), (5, vi a5), (6, vi a6), (7, vi a7), (8, vi a8), (12, vi v41), (13, vi (0 : Int32))]) [3, 4, 5, 6, 7, 8, 9, 1, 0] rfl <| x_X8_finds_201 G FU a0 a3 a4 a5 a6 a7 a8 v41 (0 : Int32) h _ hf
  · replace hf := iff_ hf q165
    refine g_aload_n (M := mX8_finds) dX8_finds_168 rfl 1 rfl ?_
    refine g_iload (M := mX8_finds) dX8_finds_169 0 rfl ?_
    obtain ⟨b42, eb42, hf⟩ := bd hf
    obtain ⟨r43, er43, hf⟩ := bd hf
    refine g_callV (M := mX8_finds) (kc := 0) (ks := 0) (as := [vi s0]) (rest := []) dX8_finds_171 cbX8_because vwRX8_146 rfl eb42 rfl (Nat.le_of_ble_eq_true rfl) (Nat.le_of_ble_eq_true rfl) (c_X8_because G b42 s0 h r43 er43) ?_
    refine g_aload_n (M := mX8_finds) dX8_finds_174 rfl 1 rfl ?_
    refine g_aload_n (M := mX8_finds) dX8_finds_175 rfl 1 rfl ?_
    obtain ⟨v44, ev44, hf⟩ := bd hf
    refine g_getR (M := mX8_finds) dX8_finds_176 flRX8_40 (fun _ => rfl) ev44 ?_
    refine g_iload (M := mX8_finds) dX8_finds_179 0 rfl ?_
    obtain ⟨v45, ev45, hf⟩ := bd hf
    refine g_iald (M := mX8_finds) dX8_finds_181 ev45 ?_
    obtain ⟨b46, eb46, hf⟩ := bd hf
    obtain ⟨r47, er47, hf⟩ := bd hf
    refine g_callV (M := mX8_finds) (kc := 0) (ks := 0) (as := [vi v45]) (rest := []) dX8_finds_182 cbX8_because vwRX8_146 rfl eb46 rfl (Nat.le_of_ble_eq_true rfl) (Nat.le_of_ble_eq_true rfl) (c_X8_because G b46 v45 r43 r47 er47) ?_
    refine g_aload_n (M := mX8_finds) dX8_finds_185 rfl 1 rfl ?_
    obtain ⟨b48, eb48, hf⟩ := bd hf
    obtain ⟨r49, er49, hf⟩ := bd hf
    refine g_callV (M := mX8_finds) (kc := 0) (ks := 0) (as := []) (rest := []) dX8_finds_186 cbX8_leans vwRX8_168 rfl eb48 rfl (Nat.le_of_ble_eq_true rfl) (Nat.le_of_ble_eq_true rfl) (c_X8_leans G b48 r47 r49 er49) ?_
    cases hf
    exact g_ret (M := mX8_finds) dX8_finds_189 rfl
def f_X8_finds_13 : Nat → Nat → Int32 → Int32 → Int32 → Int32 → Int32 → Int32 → Int32 → AH → Option AH
  | 0, _, _, _, _, _, _, _, _, _ => none
  | n + 1, a0, a1, a2, a3, a4, a5, a6, a7, h =>
    (gI 8 8 h (some a0)).bind fun v50 =>
    if v50 ≤ a7 then (
      (ck 8 h (some a0)).bind fun b51 =>
      (f_X8_memberOf b51 a1 a3 a5 a6 h).bind fun r52 =>
      (ck 8 h (some a0)).bind fun b53 =>
      (f_X8_memberOf b53 a2 a3 a5 a6 h).bind fun r54 =>
      if r52 = (-1 : Int32) then (
        some h
      ) else (
        if r54 = (-1 : Int32) then (
          some h
        ) else (
          (ck 8 h (some a0)).bind fun b55 =>
          (f_X8_manyMembers b55 a3 a5 a6 h).bind fun r56 =>
          (gR 8 4 h (some a0)).bind fun v57 =>
          (lI 10 h v57 a3).bind fun v58 =>
          if v58 ≤ r56 then (
            (ck 8 h (some a0)).bind fun b59 =>
            (f_X8_because b59 r52 h).bind fun r60 =>
            (ck 8 r60 (some a0)).bind fun b61 =>
            (f_X8_because b61 r54 r60).bind fun r62 =>
            (ck 8 r62 (some a0)).bind fun b63 =>
            (f_X8_strong b63 r52 r54 a5 a6 r62).bind fun r64 =>
            (ck 8 r62 (some a0)).bind fun b65 =>
            (f_X8_strong b65 r54 r52 a5 a6 r62).bind fun r66 =>
            if r64 = (-1 : Int32) then (
              f_X8_finds_160 a0 a3 a4 a5 a6 r52 r54 r66 r62
            ) else (
              if r66 = (-1 : Int32) then (
                f_X8_finds_160 a0 a3 a4 a5 a6 r52 r54 r64 r62
              ) else (
                f_X8_finds_160 a0 a3 a4 a5 a6 r52 r54 (if r66 < r64 then r66 else r64) r62
              )
            )
          ) else (
            some h
          )
        )
      )
    ) else (
      (gR 8 22 h (some a0)).bind fun v67 =>
      (stZ 12 h v67 a7 (0 : Int32)).bind fun h68 =>
      f_X8_finds_13 n a0 a1 a2 a3 a4 a5 a6 (a7 + (1)) h68
    )
theorem x_X8_finds_13 (G : Gm) : ∀ (n : Nat) (a0 : Nat) (a1 : Int32) (a2 : Int32) (a3 : Int32) (a4 : Int32) (a5 : Int32) (a6 : Int32) (a7 : Int32) (h : AH) (o : AH), f_X8_finds_13 n a0 a1 a2 a3 a4 a5 a6 a7 h = some o → GO G mX8_finds 0 0 13 [(0, vr (some a0)), (1, vi a1), (2, vi a2), (3, vi a3), (4, vi a4), (5, vi a5), (6, vi a6), (7, vi a7)] [] h none o := by
  intro n
  induction n with
  | zero => intro a0 a1 a2 a3 a4 a5 a6 a7 h o hf; cases hf
  | succ n ih =>
    intro a0 a1 a2 a3 a4 a5 a6 a7 h o hf
    rw [f_X8_finds_13] at hf
    refine g_iload (M := mX8_finds) dX8_finds_13 7 rfl ?_
    refine g_aload_n (M := mX8_finds) dX8_finds_15 rfl 0 rfl ?_
    obtain ⟨v50, ev50, hf⟩ := bd hf
    refine g_getI (M := mX8_finds) dX8_finds_16 flRX8_89 (fun _ => rfl) ev50 ?_
    refine g_ic_ge (M := mX8_finds) (tgt := 36) dX8_finds_19 rfl (fun q19 => ?_) (fun q19 => ?_)
    · replace hf := ift hf q19
      refine g_aload_n (M := mX8_finds) dX8_finds_36 rfl 0 rfl ?_
      refine g_iload_n (M := mX8_finds) dX8_finds_37 rfl 1 rfl ?_
      refine g_iload_n (M := mX8_finds) dX8_finds_38 rfl 3 rfl ?_
      refine g_iload (M := mX8_finds) dX8_finds_39 5 rfl ?_
      refine g_iload (M := mX8_finds) dX8_finds_41 6 rfl ?_
      obtain ⟨b51, eb51, hf⟩ := bd hf
      obtain ⟨r52, er52, hf⟩ := bd hf
      refine g_callV (M := mX8_finds) (kc := 0) (ks := 0) (as := [vi a1, vi a3, vi a5, vi a6]) (rest := []) dX8_finds_43 cbX8_memberOf vwRX8_108 rfl eb51 rfl (Nat.le_of_ble_eq_true rfl) (Nat.le_of_ble_eq_true rfl) (c_X8_memberOf G b51 a1 a3 a5 a6 h r52 er52) ?_
      refine g_istore (M := mX8_finds) (L2 := [(7, vi r52), (0, vr (some a0)), (1, vi a1), (2, vi a2), (3, vi a3), (4, vi a4), (5, vi a5), (6, vi a6)]) dX8_finds_46 (Nat.le_of_ble_eq_true rfl) rfl ?_
      refine g_aload_n (M := mX8_finds) dX8_finds_48 rfl 1 rfl ?_
      refine g_iload_n (M := mX8_finds) dX8_finds_49 rfl 3 rfl ?_
      refine g_iload_n (M := mX8_finds) dX8_finds_50 rfl 4 rfl ?_
      refine g_iload (M := mX8_finds) dX8_finds_51 6 rfl ?_
      refine g_iload (M := mX8_finds) dX8_finds_53 7 rfl ?_
      obtain ⟨b53, eb53, hf⟩ := bd hf
      obtain ⟨r54, er54, hf⟩ := bd hf
      refine g_callV (M := mX8_finds) (kc := 0) (ks := 0) (as := [vi a2, vi a3, vi a5, vi a6]) (rest := []) dX8_finds_55 cbX8_memberOf vwRX8_108 rfl eb53 rfl (Nat.le_of_ble_eq_true rfl) (Nat.le_of_ble_eq_true rfl) (c_X8_memberOf G b53 a2 a3 a5 a6 h r54 er54) ?_
      refine g_istore (M := mX8_finds) (L2 := [(8, vi r54), (7, vi r52), (0, vr (some a0)), (1, vi a1), (2, vi a2), (3, vi a3), (4, vi a4), (5, vi a5), (6, vi a6)]) dX8_finds_58 (Nat.le_of_ble_eq_true rfl) rfl ?_
      refine g_iload (M := mX8_finds) dX8_finds_60 1 rfl ?_
      refine g_iconst (M := mX8_finds) (v := -1) dX8_finds_62 rfl ?_
      refine g_ic_eq (M := mX8_finds) (tgt := 90) dX8_finds_63 rfl (fun q63 => ?_) (fun q63 => ?_)
      · replace hf := ift hf q63
        cases hf
        exact g_ret (M := mX8_finds) dX8_finds_90 rfl
      · replace hf := iff_ hf q63
        refine g_iload (M := mX8_finds) dX8_finds_66 0 rfl ?_
        refine g_iconst (M := mX8_finds) (v := -1) dX8_finds_68 rfl ?_
        refine g_ic_eq (M := mX8_finds) (tgt := 90) dX8_finds_69 rfl (fun q69 => ?_) (fun q69 => ?_)
        · replace hf := ift hf q69
          cases hf
          exact g_ret (M := mX8_finds) dX8_finds_90 rfl
        · replace hf := iff_ hf q69
          refine g_aload_n (M := mX8_finds) dX8_finds_72 rfl 2 rfl ?_
          refine g_iload_n (M := mX8_finds) dX8_finds_73 rfl 5 rfl ?_
          refine g_iload (M := mX8_finds) dX8_finds_74 7 rfl ?_
          refine g_iload (M := mX8_finds) dX8_finds_76 8 rfl ?_
          obtain ⟨b55, eb55, hf⟩ := bd hf
          obtain ⟨r56, er56, hf⟩ := bd hf
          refine g_callV (M := mX8_finds) (kc := 0) (ks := 0) (as := [vi a3, vi a5, vi a6]) (rest := []) dX8_finds_78 cbX8_manyMembers vwRX8_156 rfl eb55 rfl (Nat.le_of_ble_eq_true rfl) (Nat.le_of_ble_eq_true rfl) (c_X8_manyMembers G b55 a3 a5 a6 h r56 er56) ?_
          refine g_aload_n (M := mX8_finds) dX8_finds_81 rfl 2 rfl ?_
          obtain ⟨v57, ev57, hf⟩ := bd hf
          refine g_getR (M := mX8_finds) dX8_finds_82 flRX8_13 (fun _ => rfl) ev57 ?_
          refine g_iload_n (M := mX8_finds) dX8_finds_85 rfl 5 rfl ?_
          obtain ⟨v58, ev58, hf⟩ := bd hf
          refine g_iald (M := mX8_finds) dX8_finds_86 ev58 ?_
          refine g_ic_ge (M := mX8_finds) (tgt := 91) dX8_finds_87 rfl (fun q87 => ?_) (fun q87 => ?_)
          · replace hf := ift hf q87
            refine g_aload_n (M := mX8_finds) dX8_finds_91 rfl 2 rfl ?_
            refine g_iload (M := mX8_finds) dX8_finds_92 1 rfl ?_
            obtain ⟨b59, eb59, hf⟩ := bd hf
            obtain ⟨r60, er60, hf⟩ := bd hf
            refine g_callV (M := mX8_finds) (kc := 0) (ks := 0) (as := [vi r52]) (rest := []) dX8_finds_94 cbX8_because vwRX8_146 rfl eb59 rfl (Nat.le_of_ble_eq_true rfl) (Nat.le_of_ble_eq_true rfl) (c_X8_because G b59 r52 h r60 er60) ?_
            refine g_aload_n (M := mX8_finds) dX8_finds_97 rfl 2 rfl ?_
            refine g_iload (M := mX8_finds) dX8_finds_98 0 rfl ?_
            obtain ⟨b61, eb61, hf⟩ := bd hf
            obtain ⟨r62, er62, hf⟩ := bd hf
            refine g_callV (M := mX8_finds) (kc := 0) (ks := 0) (as := [vi r54]) (rest := []) dX8_finds_100 cbX8_because vwRX8_146 rfl eb61 rfl (Nat.le_of_ble_eq_true rfl) (Nat.le_of_ble_eq_true rfl) (c_X8_because G b61 r54 r60 r62 er62) ?_
            refine g_aload_n (M := mX8_finds) dX8_finds_103 rfl 2 rfl ?_
            refine g_iload (M := mX8_finds) dX8_finds_104 1 rfl ?_
            refine g_iload (M := mX8_finds) dX8_finds_106 0 rfl ?_
            refine g_iload (M := mX8_finds) dX8_finds_108 7 rfl ?_
            refine g_iload (M := mX8_finds) dX8_finds_110 8 rfl ?_
            obtain ⟨b63, eb63, hf⟩ := bd hf
            obtain ⟨r64, er64, hf⟩ := bd hf
            refine g_callV (M := mX8_finds) (kc := 0) (ks := 0) (as := [vi r52, vi r54, vi a5, vi a6]) (rest := []) dX8_finds_112 cbX8_strong vwRX8_160 rfl eb63 rfl (Nat.le_of_ble_eq_true rfl) (Nat.le_of_ble_eq_true rfl) (c_X8_strong G b63 r52 r54 a5 a6 r62 r64 er64) ?_
            refine g_istore (M := mX8_finds) (L2 := [(9, vi r64), (8, vi r54), (7, vi r52), (0, vr (some a0)), (1, vi a1), (2, vi a2), (3, vi a3), (4, vi a4), (5, vi a5), (6, vi a6)]) dX8_finds_115 (Nat.le_of_ble_eq_true rfl) rfl ?_
            refine g_aload_n (M := mX8_finds) dX8_finds_117 rfl 3 rfl ?_
            refine g_iload (M := mX8_finds) dX8_finds_118 1 rfl ?_
            refine g_iload (M := mX8_finds) dX8_finds_120 2 rfl ?_
            refine g_iload (M := mX8_finds) dX8_finds_122 8 rfl ?_
            refine g_iload (M := mX8_finds) dX8_finds_124 9 rfl ?_
            obtain ⟨b65, eb65, hf⟩ := bd hf
            obtain ⟨r66, er66, hf⟩ := bd hf
            refine g_callV (M := mX8_finds) (kc := 0) (ks := 0) (as := [vi r54, vi r52, vi a5, vi a6]) (rest := []) dX8_finds_126 cbX8_strong vwRX8_160 rfl eb65 rfl (Nat.le_of_ble_eq_true rfl) (Nat.le_of_ble_eq_true rfl) (c_X8_strong G b65 r54 r52 a5 a6 r62 r66 er66) ?_
            refine g_istore (M := mX8_finds) (L2 := [(10, vi r66), (9, vi r64), (8, vi r54), (7, vi r52), (0, vr (some a0)), (1, vi a1), (2, vi a2), (3, vi a3), (4, vi a4), (5, vi a5), (6, vi a6)]) dX8_finds_129 (Nat.le_of_ble_eq_true rfl) rfl ?_
            refine g_iload (M := mX8_finds) dX8_finds_131 1 rfl ?_
            refine g_iconst (M := mX8_finds) (v := -1) dX8_finds_133 rfl ?_
            refine g_ic_ne (M := mX8_finds) (tgt := 142) dX8_finds_134 rfl (fun q134 => ?_) (fun q134 => ?_)
            · replace hf := iff_ hf q134
              refine g_iload (M := mX8_finds) dX8_finds_142 0 rfl ?_
              refine g_iconst (M := mX8_finds) (v := -1) dX8_finds_144 rfl ?_
              refine g_ic_ne (M := mX8_finds) (tgt := 153) dX8_finds_145 rfl (fun q145 => ?_) (fun q145 => ?_)
              · replace hf := iff_ hf q145
                refine g_iload (M := mX8_finds) dX8_finds_153 1 rfl ?_
                refine g_iload (M := mX8_finds) dX8_finds_155 0 rfl ?_
                refine g_min (M := mX8_finds) dX8_finds_157 mlRX8_163 st_Lib_Math_min_name itRJ9 cd_min (Nat.le_of_ble_eq_true rfl) (by decide) ?_
                exact g_sub (M := mX8_finds) (L2 := [(0, vr (some a0)), (3, vi a3), (4, vi a4), (5, vi a5), (6, vi a6), (7, vi r52), (8, vi r54)]) [4, 7, 8, 9, 10, 3, 2] rfl <| x_X8_finds_160 G a0 a3 a4 a5 a6 r52 r54 (if r66 < r64 then r66 else r64) r62 _ hf
              · replace hf := ift hf q145
                refine g_iload (M := mX8_finds) dX8_finds_148 1 rfl ?_
                refine g_goto (M := mX8_finds) (tgt := 160) dX8_finds_150 rfl ?_
                exact g_sub (M := mX8_finds) (L2 := [(0, vr (some a0)), (3, vi a3), (4, vi a4), (5, vi a5), (6, vi a6), (7, vi r52), (8, vi r54)]) [4, 7, 8, 9, 10, 3, 2] rfl <| x_X8_finds_160 G a0 a3 a4 a5 a6 r52 r54 r64 r62 _ hf
            · replace hf := ift hf q134
              refine g_iload (M := mX8_finds) dX8_finds_137 0 rfl ?_
              refine g_goto (M := mX8_finds) (tgt := 160) dX8_finds_139 rfl ?_
              exact g_sub (M := mX8_finds) (L2 := [(0, vr (some a0)), (3, vi a3), (4, vi a4), (5, vi a5), (6, vi a6), (7, vi r52), (8, vi r54)]) [4, 7, 8, 9, 10, 3, 2] rfl <| x_X8_finds_160 G a0 a3 a4 a5 a6 r52 r54 r66 r62 _ hf
          · replace hf := iff_ hf q87
            cases hf
            exact g_ret (M := mX8_finds) dX8_finds_90 rfl
    · replace hf := iff_ hf q19
      refine g_aload_n (M := mX8_finds) dX8_finds_22 rfl 0 rfl ?_
      obtain ⟨v67, ev67, hf⟩ := bd hf
      refine g_getR (M := mX8_finds) dX8_finds_23 flRX8_59 (fun _ => rfl) ev67 ?_
      refine g_iload (M := mX8_finds) dX8_finds_26 7 rfl ?_
      refine g_iconst (M := mX8_finds) (v := 0) dX8_finds_28 rfl ?_
      obtain ⟨h68, eh68, hf⟩ := bd hf
      refine g_zast (M := mX8_finds) dX8_finds_29 eh68 ?_
      refine g_iinc (M := mX8_finds) (j := 7) (L2 := [(7, vi (a7 + (1))), (0, vr (some a0)), (1, vi a1), (2, vi a2), (3, vi a3), (4, vi a4), (5, vi a5), (6, vi a6)]) dX8_finds_30 rfl rfl (Nat.le_of_ble_eq_true rfl) rfl ?_
      refine g_goto (M := mX8_finds) (tgt := 13) dX8_finds_33 rfl ?_
      exact g_sub (M := mX8_finds) (L2 := [(0, vr (some a0)), (1, vi a1), (2, vi a2), (3, vi a3), (4, vi a4), (5, vi a5), (6, vi a6), (7, vi (a7 + (1)))]) [1, 2, 3, 4, 5, 6, 7, 0] rfl <| ih a0 a1 a2 a3 a4 a5 a6 (a7 + (1)) h68 _ hf
def f_X8_finds (a0 : Nat) (a1 : Int32) (a2 : Int32) (a3 : Int32) (a4 : Int32) (a5 : Int32) (a6 : Int32) (h : AH) : Option AH :=
  (pI 8 20 h (some a0) (0 : Int32)).bind fun h69 =>
  (pI 8 21 h69 (some a0) (0 : Int32)).bind fun h70 =>
  f_X8_finds_13 FU a0 a1 a2 a3 a4 a5 a6 (0 : Int32) h70
theorem x_X8_finds (G : Gm) (a0 : Nat) (a1 : Int32) (a2 : Int32) (a3 : Int32) (a4 : Int32) (a5 : Int32) (a6 : Int32) (h : AH) (o : AH) (hf : f_X8_finds a0 a1 a2 a3 a4 a5 a6 h = some o) : GO G mX8_finds 0 0 0 [(0, vr (some a0)), (1, vi a1), (2, vi a2), (3, vi a3), (4, vi a4), (5, vi a5), (6, vi a6)] [] h none o := by
  unfold f_X8_finds at hf
  refine g_aload_n (M := mX8_finds) dX8_finds_0 rfl 0 rfl ?_
  refine g_iconst (M := mX8_finds) (v := 0) dX8_finds_1 rfl ?_
  obtain ⟨h69, eh69, hf⟩ := bd hf
  refine g_putI (M := mX8_finds) dX8_finds_2 flRX8_150 rfl eh69 ?_
  refine g_aload_n (M := mX8_finds) dX8_finds_5 rfl 0 rfl ?_
  refine g_iconst (M := mX8_finds) (v := 0) dX8_finds_6 rfl ?_
  obtain ⟨h70, eh70, hf⟩ := bd hf
  refine g_putI (M := mX8_finds) dX8_finds_7 flRX8_153 rfl eh70 ?_
  refine g_iconst (M := mX8_finds) (v := 0) dX8_finds_10 rfl ?_
  refine g_istore (M := mX8_finds) (L2 := [(7, vi (0 : Int32)), (0, vr (some a0)), (1, vi a1), (2, vi a2), (3, vi a3), (4, vi a4), (5, vi a5), (6, vi a6)]) dX8_finds_11 (Nat.le_of_ble_eq_true rfl) rfl ?_
  exact g_sub (M := mX8_finds) (L2 := [(0, vr (some a0)), (1, vi a1), (2, vi a2), (3, vi a3), (4, vi a4), (5, vi a5), (6, vi a6), (7, vi (0 : Int32))]) [1, 2, 3, 4, 5, 6, 7, 0] rfl <| x_X8_finds_13 G FU a0 a1 a2 a3 a4 a5 a6 (0 : Int32) h70 _ hf
theorem c_X8_finds (G : Gm) (a0 : Nat) (a1 : Int32) (a2 : Int32) (a3 : Int32) (a4 : Int32) (a5 : Int32) (a6 : Int32) (h : AH) (o : AH) (hf : f_X8_finds a0 a1 a2 a3 a4 a5 a6 h = some o) : CT G yX8_finds mX8_finds none 0 0 [vr (some a0), vi a1, vi a2, vi a3, vi a4, vi a5, vi a6] h none o :=
  CT.void (by decide +kernel) rfl rfl rfl (Nat.le_of_ble_eq_true rfl) (x_X8_finds G a0 a1 a2 a3 a4 a5 a6 h o hf)
theorem cbX8_finds : CB yX8_finds mX8_finds none 6 := ⟨cd_yX8_finds, itRX8, ⟨by decide, by decide⟩, by decide +kernel, by decide⟩
