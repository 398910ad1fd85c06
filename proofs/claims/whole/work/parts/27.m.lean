abbrev mX8_read : MI := (RX8, "read", cX8_read, 4, .lreturn, 3)
def f_X8_read (a0 : Nat) (a1 : Int32) (a2 : Int32) (a3 : Int32) (h : AH) : Option Int64 :=
  (ck 8 h (some a0)).bind fun b1 =>
  (f_X8_wrong b1 a1 a2 a3 h).bind fun r2 =>
  if r2 = 0 then (
    (gR 8 26 h (some a0)).bind fun v3 =>
    (lJ 11 h v3 (((100 : Int32) * (((8 : Int32) * a1) + a2)) + a3)).bind fun v4 =>
    some v4
  ) else (
    some (0 : Int64)
  )
theorem x_X8_read (G : Gm) (a0 : Nat) (a1 : Int32) (a2 : Int32) (a3 : Int32) (h : AH) (o : Int64) (hf : f_X8_read a0 a1 a2 a3 h = some o) : GO G mX8_read 0 0 0 [(0, vr (some a0)), (1, vi a1), (2, vi a2), (3, vi a3)] [] h (some (vl o)) h := by
  unfold f_X8_read at hf
  refine g_aload_n (M := mX8_read) dX8_read_0 rfl 0 rfl ?_
  refine g_iload_n (M := mX8_read) dX8_read_1 rfl 1 rfl ?_
  refine g_iload_n (M := mX8_read) dX8_read_2 rfl 2 rfl ?_
  refine g_iload_n (M := mX8_read) dX8_read_3 rfl 3 rfl ?_
  obtain ⟨b1, eb1, hf⟩ := bd hf
  obtain ⟨r2, er2, hf⟩ := bd hf
  refine g_callV (M := mX8_read) (kc := 0) (ks := 0) (as := [vi a1, vi a2, vi a3]) (rest := []) dX8_read_4 cbX8_wrong vwRX8_195 rfl eb1 rfl (Nat.le_of_ble_eq_true rfl) (Nat.le_of_ble_eq_true rfl) (c_X8_wrong G b1 a1 a2 a3 h r2 er2) ?_
  refine g_if_ne (M := mX8_read) (tgt := 29) dX8_read_7 rfl (fun q7 => ?_) (fun q7 => ?_)
  · replace hf := iff_ hf q7
    refine g_lconst (M := mX8_read) (v := 0) dX8_read_29 (by decide) ?_
    cases hf
    exact g_ret (M := mX8_read) dX8_read_30 rfl
  · replace hf := ift hf q7
    refine g_aload_n (M := mX8_read) dX8_read_10 rfl 0 rfl ?_
    obtain ⟨v3, ev3, hf⟩ := bd hf
    refine g_getR (M := mX8_read) dX8_read_11 flRX8_72 (fun _ => rfl) ev3 ?_
    refine g_bipush (M := mX8_read) (v := 100) dX8_read_14 rfl ?_
    refine g_bipush (M := mX8_read) (v := 8) dX8_read_16 rfl ?_
    refine g_iload_n (M := mX8_read) dX8_read_18 rfl 1 rfl ?_
    refine g_imul (M := mX8_read) dX8_read_19 ?_
    refine g_iload_n (M := mX8_read) dX8_read_20 rfl 2 rfl ?_
    refine g_iadd (M := mX8_read) dX8_read_21 ?_
    refine g_imul (M := mX8_read) dX8_read_22 ?_
    refine g_iload_n (M := mX8_read) dX8_read_23 rfl 3 rfl ?_
    refine g_iadd (M := mX8_read) dX8_read_24 ?_
    obtain ⟨v4, ev4, hf⟩ := bd hf
    refine g_lald (M := mX8_read) dX8_read_25 ev4 ?_
    refine g_goto (M := mX8_read) (tgt := 30) dX8_read_26 rfl ?_
    cases hf
    exact g_ret (M := mX8_read) dX8_read_30 rfl
theorem c_X8_read (G : Gm) (a0 : Nat) (a1 : Int32) (a2 : Int32) (a3 : Int32) (h : AH) (o : Int64) (hf : f_X8_read a0 a1 a2 a3 h = some o) : CT G yX8_read mX8_read (some .long) 0 0 [vr (some a0), vi a1, vi a2, vi a3] h (some (vl o)) h :=
  CT.long (by decide +kernel) rfl rfl rfl (Nat.le_of_ble_eq_true rfl) (x_X8_read G a0 a1 a2 a3 h o hf)
theorem cbX8_read : CB yX8_read mX8_read (some .long) 3 := ⟨cd_yX8_read, itRX8, ⟨by decide, by decide⟩, by decide +kernel, by decide⟩
abbrev mX8_size : MI := (RX8, "size", cX8_size, 3, .ireturn, 2)
def f_X8_size (a0 : Nat) (a1 : Int32) (a2 : Int32) (h : AH) : Option Int32 :=
  (ck 8 h (some a0)).bind fun b1 =>
  (f_X8_isAnnex b1 a1 a2 h).bind fun r2 =>
  if (b2i r2) = 0 then (
    some (-2 : Int32)
  ) else (
    (gR 8 25 h (some a0)).bind fun v3 =>
    (lI 10 h v3 (((8 : Int32) * a1) + a2)).bind fun v4 =>
    if 0 ≤ v4 then (
      (gR 8 25 h (some a0)).bind fun v5 =>
      (lI 10 h v5 (((8 : Int32) * a1) + a2)).bind fun v6 =>
      some v6
    ) else (
      some (-5 : Int32)
    )
  )
theorem x_X8_size (G : Gm) (a0 : Nat) (a1 : Int32) (a2 : Int32) (h : AH) (o : Int32) (hf : f_X8_size a0 a1 a2 h = some o) : GO G mX8_size 0 0 0 [(0, vr (some a0)), (1, vi a1), (2, vi a2)] [] h (some (vi o)) h := by
  unfold f_X8_size at hf
  refine g_aload_n (M := mX8_size) dX8_size_0 rfl 0 rfl ?_
  refine g_iload_n (M := mX8_size) dX8_size_1 rfl 1 rfl ?_
  refine g_iload_n (M := mX8_size) dX8_size_2 rfl 2 rfl ?_
  obtain ⟨b1, eb1, hf⟩ := bd hf
  obtain ⟨r2, er2, hf⟩ := bd hf
  refine g_callV (M := mX8_size) (kc := 0) (ks := 0) (as := [vi a1, vi a2]) (rest := []) dX8_size_3 cbX8_isAnnex vwRX8_192 rfl eb1 rfl (Nat.le_of_ble_eq_true rfl) (Nat.le_of_ble_eq_true rfl) (c_X8_isAnnex G b1 a1 a2 h r2 er2) ?_
  refine g_if_ne (M := mX8_size) (tgt := 14) dX8_size_6 rfl (fun q6 => ?_) (fun q6 => ?_)
  · replace hf := iff_ hf q6
    refine g_aload_n (M := mX8_size) dX8_size_14 rfl 0 rfl ?_
    obtain ⟨v3, ev3, hf⟩ := bd hf
    refine g_getR (M := mX8_size) dX8_size_15 flRX8_69 (fun _ => rfl) ev3 ?_
    refine g_bipush (M := mX8_size) (v := 8) dX8_size_18 rfl ?_
    refine g_iload_n (M := mX8_size) dX8_size_20 rfl 1 rfl ?_
    refine g_imul (M := mX8_size) dX8_size_21 ?_
    refine g_iload_n (M := mX8_size) dX8_size_22 rfl 2 rfl ?_
    refine g_iadd (M := mX8_size) dX8_size_23 ?_
    obtain ⟨v4, ev4, hf⟩ := bd hf
    refine g_iald (M := mX8_size) dX8_size_24 ev4 ?_
    refine g_if_ge (M := mX8_size) (tgt := 33) dX8_size_25 rfl (fun q25 => ?_) (fun q25 => ?_)
    · replace hf := ift hf q25
      refine g_aload_n (M := mX8_size) dX8_size_33 rfl 0 rfl ?_
      obtain ⟨v5, ev5, hf⟩ := bd hf
      refine g_getR (M := mX8_size) dX8_size_34 flRX8_69 (fun _ => rfl) ev5 ?_
      refine g_bipush (M := mX8_size) (v := 8) dX8_size_37 rfl ?_
      refine g_iload_n (M := mX8_size) dX8_size_39 rfl 1 rfl ?_
      refine g_imul (M := mX8_size) dX8_size_40 ?_
      refine g_iload_n (M := mX8_size) dX8_size_41 rfl 2 rfl ?_
      refine g_iadd (M := mX8_size) dX8_size_42 ?_
      obtain ⟨v6, ev6, hf⟩ := bd hf
      refine g_iald (M := mX8_size) dX8_size_43 ev6 ?_
      cases hf
      exact g_ret (M := mX8_size) dX8_size_44 rfl
    · replace hf := iff_ hf q25
      refine g_bipush (M := mX8_size) (v := -5) dX8_size_28 rfl ?_
      refine g_goto (M := mX8_size) (tgt := 44) dX8_size_30 rfl ?_
      cases hf
      exact g_ret (M := mX8_size) dX8_size_44 rfl
  · replace hf := ift hf q6
    refine g_bipush (M := mX8_size) (v := -2) dX8_size_9 rfl ?_
    refine g_goto (M := mX8_size) (tgt := 44) dX8_size_11 rfl ?_
    cases hf
    exact g_ret (M := mX8_size) dX8_size_44 rfl
theorem c_X8_size (G : Gm) (a0 : Nat) (a1 : Int32) (a2 : Int32) (h : AH) (o : Int32) (hf : f_X8_size a0 a1 a2 h = some o) : CT G yX8_size mX8_size (some .int) 0 0 [vr (some a0), vi a1, vi a2] h (some (vi o)) h :=
  CT.int (by decide +kernel) rfl rfl rfl (Nat.le_of_ble_eq_true rfl) (x_X8_size G a0 a1 a2 h o hf)
theorem cbX8_size : CB yX8_size mX8_size (some .int) 2 := ⟨cd_yX8_size, itRX8, ⟨by decide, by decide⟩, by decide +kernel, by decide⟩
abbrev mX8_copy : MI := (RX8, "copy", cX8_copy, 11, .ireturn, 2)
def f_X8_copy_179 : Nat → Nat → Int32 → Int32 → Int32 → Int32 → AH → Option (Int32 × AH)
  | 0, _, _, _, _, _, _ => none
  | n + 1, a0, a6, a7, a9, a10, h =>
    if a7 ≤ a10 then (
      some ((0 : Int32), h)
    ) else (
      (gR 8 26 h (some a0)).bind fun v1 =>
      (gR 8 27 h (some a0)).bind fun v2 =>
      (lJ 11 h v2 a10).bind fun v3 =>
      (stJ 11 h v1 ((((100 : Int32) * a9) + a6) + a10) v3).bind fun h4 =>
      f_X8_copy_179 n a0 a6 a7 a9 (a10 + (1)) h4
    )
theorem x_X8_copy_179 (G : Gm) : ∀ (n : Nat) (a0 : Nat) (a6 : Int32) (a7 : Int32) (a9 : Int32) (a10 : Int32) (h : AH) (o : (Int32 × AH)), f_X8_copy_179 n a0 a6 a7 a9 a10 h = some o → GO G mX8_copy 0 0 179 [(0, vr (some a0)), (6, vi a6), (7, vi a7), (9, vi a9), (10, vi a10)] [] h (some (vi o.1)) o.2 := by
  intro n
  induction n with
  | zero => intro a0 a6 a7 a9 a10 h o hf; cases hf
  | succ n ih =>
    intro a0 a6 a7 a9 a10 h o hf
    rw [f_X8_copy_179] at hf
    refine g_iload (M := mX8_copy) dX8_copy_179 4 rfl ?_
    refine g_iload (M := mX8_copy) dX8_copy_181 2 rfl ?_
    refine g_ic_ge (M := mX8_copy) (tgt := 215) dX8_copy_183 rfl (fun q183 => ?_) (fun q183 => ?_)
    · replace hf := ift hf q183
      refine g_iconst (M := mX8_copy) (v := 0) dX8_copy_215 rfl ?_
      cases hf
      exact g_ret (M := mX8_copy) dX8_copy_216 rfl
    · replace hf := iff_ hf q183
      refine g_aload_n (M := mX8_copy) dX8_copy_186 rfl 0 rfl ?_
      obtain ⟨v1, ev1, hf⟩ := bd hf
      refine g_getR (M := mX8_copy) dX8_copy_187 flRX8_72 (fun _ => rfl) ev1 ?_
      refine g_bipush (M := mX8_copy) (v := 100) dX8_copy_190 rfl ?_
      refine g_iload (M := mX8_copy) dX8_copy_192 3 rfl ?_
      refine g_imul (M := mX8_copy) dX8_copy_194 ?_
      refine g_iload (M := mX8_copy) dX8_copy_195 1 rfl ?_
      refine g_iadd (M := mX8_copy) dX8_copy_197 ?_
      refine g_iload (M := mX8_copy) dX8_copy_198 4 rfl ?_
      refine g_iadd (M := mX8_copy) dX8_copy_200 ?_
      refine g_aload_n (M := mX8_copy) dX8_copy_201 rfl 0 rfl ?_
      obtain ⟨v2, ev2, hf⟩ := bd hf
      refine g_getR (M := mX8_copy) dX8_copy_202 flRX8_75 (fun _ => rfl) ev2 ?_
      refine g_iload (M := mX8_copy) dX8_copy_205 4 rfl ?_
      obtain ⟨v3, ev3, hf⟩ := bd hf
      refine g_lald (M := mX8_copy) dX8_copy_207 ev3 ?_
      obtain ⟨h4, eh4, hf⟩ := bd hf
      refine g_last (M := mX8_copy) dX8_copy_208 eh4 ?_
      refine g_iinc (M := mX8_copy) (j := 4) (L2 := [(10, vi (a10 + (1))), (0, vr (some a0)), (6, vi a6), (7, vi a7), (9, vi a9)]) dX8_copy_209 rfl rfl (Nat.le_of_ble_eq_true rfl) rfl ?_
      refine g_goto (M := mX8_copy) (tgt := 179) dX8_copy_212 rfl ?_
      exact g_sub (M := mX8_copy) (L2 := [(0, vr (some a0)), (6, vi a6), (7, vi a7), (9, vi a9), (10, vi (a10 + (1)))]) [1, 2, 3, 4, 0] rfl <| ih a0 a6 a7 a9 (a10 + (1)) h4 _ hf
def f_X8_copy_141 : Nat → Nat → Int32 → Int32 → Int32 → Int32 → Int32 → Int32 → AH → Option (Int32 × AH)
  | 0, _, _, _, _, _, _, _, _ => none
  | n + 1, a0, a3, a6, a7, a8, a9, a10, h =>
    if a7 ≤ a10 then (
      f_X8_copy_179 FU a0 a6 a7 a9 (0 : Int32) h
    ) else (
      (gR 8 27 h (some a0)).bind fun v5 =>
      (gR 8 26 h (some a0)).bind fun v6 =>
      (lJ 11 h v6 ((((100 : Int32) * a8) + a3) + a10)).bind fun v7 =>
      (stJ 11 h v5 a10 v7).bind fun h8 =>
      f_X8_copy_141 n a0 a3 a6 a7 a8 a9 (a10 + (1)) h8
    )
theorem x_X8_copy_141 (G : Gm) : ∀ (n : Nat) (a0 : Nat) (a3 : Int32) (a6 : Int32) (a7 : Int32) (a8 : Int32) (a9 : Int32) (a10 : Int32) (h : AH) (o : (Int32 × AH)), f_X8_copy_141 n a0 a3 a6 a7 a8 a9 a10 h = some o → GO G mX8_copy 0 0 141 [(0, vr (some a0)), (3, vi a3), (6, vi a6), (7, vi a7), (8, vi a8), (9, vi a9), (10, vi a10)] [] h (some (vi o.1)) o.2 := by
  intro n
  induction n with
  | zero => intro a0 a3 a6 a7 a8 a9 a10 h o hf; cases hf
  | succ n ih =>
    intro a0 a3 a6 a7 a8 a9 a10 h o hf
    rw [f_X8_copy_141] at hf
    refine g_iload (M := mX8_copy) dX8_copy_141 6 rfl ?_
    refine g_iload (M := mX8_copy) dX8_copy_143 3 rfl ?_
    refine g_ic_ge (M := mX8_copy) (tgt := 176) dX8_copy_145 rfl (fun q145 => ?_) (fun q145 => ?_)
    · replace hf := ift hf q145
      refine g_iconst (M := mX8_copy) (v := 0) dX8_copy_176 rfl ?_
      refine g_istore (M := mX8_copy) (L2 := [(10, vi (0 : Int32)), (0, vr (some a0)), (3, vi a3), (6, vi a6), (7, vi a7), (8, vi a8), (9, vi a9)]) dX8_copy_177 (Nat.le_of_ble_eq_true rfl) rfl ?_
      exact g_sub (M := mX8_copy) (L2 := [(0, vr (some a0)), (6, vi a6), (7, vi a7), (9, vi a9), (10, vi (0 : Int32))]) [1, 3, 4, 6, 0] rfl <| x_X8_copy_179 G FU a0 a6 a7 a9 (0 : Int32) h _ hf
    · replace hf := iff_ hf q145
      refine g_aload_n (M := mX8_copy) dX8_copy_148 rfl 0 rfl ?_
      obtain ⟨v5, ev5, hf⟩ := bd hf
      refine g_getR (M := mX8_copy) dX8_copy_149 flRX8_75 (fun _ => rfl) ev5 ?_
      refine g_iload (M := mX8_copy) dX8_copy_152 6 rfl ?_
      refine g_aload_n (M := mX8_copy) dX8_copy_154 rfl 0 rfl ?_
      obtain ⟨v6, ev6, hf⟩ := bd hf
      refine g_getR (M := mX8_copy) dX8_copy_155 flRX8_72 (fun _ => rfl) ev6 ?_
      refine g_bipush (M := mX8_copy) (v := 100) dX8_copy_158 rfl ?_
      refine g_iload (M := mX8_copy) dX8_copy_160 4 rfl ?_
      refine g_imul (M := mX8_copy) dX8_copy_162 ?_
      refine g_iload_n (M := mX8_copy) dX8_copy_163 rfl 1 rfl ?_
      refine g_iadd (M := mX8_copy) dX8_copy_164 ?_
      refine g_iload (M := mX8_copy) dX8_copy_165 6 rfl ?_
      refine g_iadd (M := mX8_copy) dX8_copy_167 ?_
      obtain ⟨v7, ev7, hf⟩ := bd hf
      refine g_lald (M := mX8_copy) dX8_copy_168 ev7 ?_
      obtain ⟨h8, eh8, hf⟩ := bd hf
      refine g_last (M := mX8_copy) dX8_copy_169 eh8 ?_
      refine g_iinc (M := mX8_copy) (j := 6) (L2 := [(10, vi (a10 + (1))), (0, vr (some a0)), (3, vi a3), (6, vi a6), (7, vi a7), (8, vi a8), (9, vi a9)]) dX8_copy_170 rfl rfl (Nat.le_of_ble_eq_true rfl) rfl ?_
      refine g_goto (M := mX8_copy) (tgt := 141) dX8_copy_173 rfl ?_
      exact g_sub (M := mX8_copy) (L2 := [(0, vr (some a0)), (3, vi a3), (6, vi a6), (7, vi a7), (8, vi a8), (9, vi a9), (10, vi (a10 + (1)))]) [1, 2, 3, 4, 5, 6, 0] rfl <| ih a0 a3 a6 a7 a8 a9 (a10 + (1)) h8 _ hf
def f_X8_copy (a0 : Nat) (a1 : Int32) (a2 : Int32) (a3 : Int32) (a4 : Int32) (a5 : Int32) (a6 : Int32) (a7 : Int32) (h : AH) : Option (Int32 × AH) :=
  (ck 8 h (some a0)).bind fun b9 =>
  (f_X8_isAnnex b9 a1 a2 h).bind fun r10 =>
  if (b2i r10) = 0 then (
    some ((-2 : Int32), h)
  ) else (
    (ck 8 h (some a0)).bind fun b11 =>
    (f_X8_isAnnex b11 a4 a5 h).bind fun r12 =>
    if (b2i r12) = 0 then (
      some ((-2 : Int32), h)
    ) else (
      (gR 8 25 h (some a0)).bind fun v13 =>
      (lI 10 h v13 (((8 : Int32) * a1) + a2)).bind fun v14 =>
      if v14 < 0 then (
        some ((-5 : Int32), h)
      ) else (
        (gR 8 25 h (some a0)).bind fun v15 =>
        (lI 10 h v15 (((8 : Int32) * a4) + a5)).bind fun v16 =>
        if 0 ≤ v16 then (
          (gR 8 24 h (some a0)).bind fun v17 =>
          (lI 10 h v17 (((8 : Int32) * a1) + a2)).bind fun v18 =>
          (gR 8 24 h (some a0)).bind fun v19 =>
          (lI 10 h v19 (((8 : Int32) * a4) + a5)).bind fun v20 =>
          if v18 = v20 then (
            if a3 < 0 then (
              some ((-6 : Int32), h)
            ) else (
              if a6 < 0 then (
                some ((-6 : Int32), h)
              ) else (
                if a7 < 0 then (
                  some ((-6 : Int32), h)
                ) else (
                  (gR 8 25 h (some a0)).bind fun v21 =>
                  (lI 10 h v21 (((8 : Int32) * a1) + a2)).bind fun v22 =>
                  if 0 < (lg_cmp (a3.toInt64 + a7.toInt64) v22.toInt64) then (
                    some ((-6 : Int32), h)
                  ) else (
                    (gR 8 25 h (some a0)).bind fun v23 =>
                    (lI 10 h v23 (((8 : Int32) * a4) + a5)).bind fun v24 =>
                    if (lg_cmp (a6.toInt64 + a7.toInt64) v24.toInt64) ≤ 0 then (
                      f_X8_copy_141 FU a0 a3 a6 a7 (((8 : Int32) * a1) + a2) (((8 : Int32) * a4) + a5) (0 : Int32) h
                    ) else (
                      some ((-6 : Int32), h)
                    )
                  )
                )
              )
            )
          ) else (
            some ((-7 : Int32), h)
          )
        ) else (
          some ((-5 : Int32), h)
        )
      )
    )
  )
theorem x_X8_copy (G : Gm) (a0 : Nat) (a1 : Int32) (a2 : Int32) (a3 : Int32) (a4 : Int32) (a5 : Int32) (a6 : Int32) (a7 : Int32) (h : AH) (o : (Int32 × AH)) (hf : f_X8_copy a0 a1 a2 a3 a4 a5 a6 a7 h = some o) : GO G mX8_copy 0 0 0 [(0, vr (some a0)), (1, vi a1), (2, vi a2), (3, vi a3), (4, vi a4), (5, vi a5), (6, vi a6), (7, vi a7)] [] h (some (vi o.1)) o.2 := by
  unfold f_X8_copy at hf
  refine g_aload_n (M := mX8_copy) dX8_copy_0 rfl 0 rfl ?_
  refine g_iload_n (M := mX8_copy) dX8_copy_1 rfl 1 rfl ?_
  refine g_iload_n (M := mX8_copy) dX8_copy_2 rfl 2 rfl ?_
  obtain ⟨b9, eb9, hf⟩ := bd hf
  obtain ⟨r10, er10, hf⟩ := bd hf
  refine g_callV (M := mX8_copy) (kc := 0) (ks := 0) (as := [vi a1, vi a2]) (rest := []) dX8_copy_3 cbX8_isAnnex vwRX8_192 rfl eb9 rfl (Nat.le_of_ble_eq_true rfl) (Nat.le_of_ble_eq_true rfl) (c_X8_isAnnex G b9 a1 a2 h r10 er10) ?_
  refine g_if_eq (M := mX8_copy) (tgt := 20) dX8_copy_6 rfl (fun q6 => ?_) (fun q6 => ?_)
  · replace hf := ift hf q6
    refine g_bipush (M := mX8_copy) (v := -2) dX8_copy_20 rfl ?_
    cases hf
    exact g_ret (M := mX8_copy) dX8_copy_22 rfl
  · replace hf := iff_ hf q6
    refine g_aload_n (M := mX8_copy) dX8_copy_9 rfl 0 rfl ?_
    refine g_iload (M := mX8_copy) dX8_copy_10 4 rfl ?_
    refine g_iload (M := mX8_copy) dX8_copy_12 5 rfl ?_
    obtain ⟨b11, eb11, hf⟩ := bd hf
    obtain ⟨r12, er12, hf⟩ := bd hf
    refine g_callV (M := mX8_copy) (kc := 0) (ks := 0) (as := [vi a4, vi a5]) (rest := []) dX8_copy_14 cbX8_isAnnex vwRX8_192 rfl eb11 rfl (Nat.le_of_ble_eq_true rfl) (Nat.le_of_ble_eq_true rfl) (c_X8_isAnnex G b11 a4 a5 h r12 er12) ?_
    refine g_if_ne (M := mX8_copy) (tgt := 23) dX8_copy_17 rfl (fun q17 => ?_) (fun q17 => ?_)
    · replace hf := iff_ hf q17
      refine g_bipush (M := mX8_copy) (v := 8) dX8_copy_23 rfl ?_
      refine g_iload_n (M := mX8_copy) dX8_copy_25 rfl 1 rfl ?_
      refine g_imul (M := mX8_copy) dX8_copy_26 ?_
      refine g_iload_n (M := mX8_copy) dX8_copy_27 rfl 2 rfl ?_
      refine g_iadd (M := mX8_copy) dX8_copy_28 ?_
      refine g_istore (M := mX8_copy) (L2 := [(8, vi (((8 : Int32) * a1) + a2)), (0, vr (some a0)), (1, vi a1), (2, vi a2), (3, vi a3), (4, vi a4), (5, vi a5), (6, vi a6), (7, vi a7)]) dX8_copy_29 (Nat.le_of_ble_eq_true rfl) rfl ?_
      refine g_bipush (M := mX8_copy) (v := 8) dX8_copy_31 rfl ?_
      refine g_iload (M := mX8_copy) dX8_copy_33 5 rfl ?_
      refine g_imul (M := mX8_copy) dX8_copy_35 ?_
      refine g_iload (M := mX8_copy) dX8_copy_36 6 rfl ?_
      refine g_iadd (M := mX8_copy) dX8_copy_38 ?_
      refine g_istore (M := mX8_copy) (L2 := [(9, vi (((8 : Int32) * a4) + a5)), (8, vi (((8 : Int32) * a1) + a2)), (0, vr (some a0)), (1, vi a1), (2, vi a2), (3, vi a3), (4, vi a4), (5, vi a5), (6, vi a6), (7, vi a7)]) dX8_copy_39 (Nat.le_of_ble_eq_true rfl) rfl ?_
      refine g_aload_n (M := mX8_copy) dX8_copy_41 rfl 2 rfl ?_
      obtain ⟨v13, ev13, hf⟩ := bd hf
      refine g_getR (M := mX8_copy) dX8_copy_42 flRX8_69 (fun _ => rfl) ev13 ?_
      refine g_iload (M := mX8_copy) dX8_copy_45 1 rfl ?_
      obtain ⟨v14, ev14, hf⟩ := bd hf
      refine g_iald (M := mX8_copy) dX8_copy_47 ev14 ?_
      refine g_if_lt (M := mX8_copy) (tgt := 61) dX8_copy_48 rfl (fun q48 => ?_) (fun q48 => ?_)
      · replace hf := ift hf q48
        refine g_bipush (M := mX8_copy) (v := -5) dX8_copy_61 rfl ?_
        cases hf
        exact g_ret (M := mX8_copy) dX8_copy_63 rfl
      · replace hf := iff_ hf q48
        refine g_aload_n (M := mX8_copy) dX8_copy_51 rfl 2 rfl ?_
        obtain ⟨v15, ev15, hf⟩ := bd hf
        refine g_getR (M := mX8_copy) dX8_copy_52 flRX8_69 (fun _ => rfl) ev15 ?_
        refine g_iload (M := mX8_copy) dX8_copy_55 0 rfl ?_
        obtain ⟨v16, ev16, hf⟩ := bd hf
        refine g_iald (M := mX8_copy) dX8_copy_57 ev16 ?_
        refine g_if_ge (M := mX8_copy) (tgt := 64) dX8_copy_58 rfl (fun q58 => ?_) (fun q58 => ?_)
        · replace hf := ift hf q58
          refine g_aload_n (M := mX8_copy) dX8_copy_64 rfl 2 rfl ?_
          obtain ⟨v17, ev17, hf⟩ := bd hf
          refine g_getR (M := mX8_copy) dX8_copy_65 flRX8_66 (fun _ => rfl) ev17 ?_
          refine g_iload (M := mX8_copy) dX8_copy_68 1 rfl ?_
          obtain ⟨v18, ev18, hf⟩ := bd hf
          refine g_iald (M := mX8_copy) dX8_copy_70 ev18 ?_
          refine g_aload_n (M := mX8_copy) dX8_copy_71 rfl 2 rfl ?_
          obtain ⟨v19, ev19, hf⟩ := bd hf
          refine g_getR (M := mX8_copy) dX8_copy_72 flRX8_66 (fun _ => rfl) ev19 ?_
          refine g_iload (M := mX8_copy) dX8_copy_75 0 rfl ?_
          obtain ⟨v20, ev20, hf⟩ := bd hf
          refine g_iald (M := mX8_copy) dX8_copy_77 ev20 ?_
          refine g_ic_eq (M := mX8_copy) (tgt := 84) dX8_copy_78 rfl (fun q78 => ?_) (fun q78 => ?_)
          · replace hf := ift hf q78
            refine g_iload_n (M := mX8_copy) dX8_copy_84 rfl 5 rfl ?_
            refine g_if_lt (M := mX8_copy) (tgt := 135) dX8_copy_85 rfl (fun q85 => ?_) (fun q85 => ?_)
            · replace hf := ift hf q85
              refine g_bipush (M := mX8_copy) (v := -6) dX8_copy_135 rfl ?_
              cases hf
              exact g_ret (M := mX8_copy) dX8_copy_137 rfl
            · replace hf := iff_ hf q85
              refine g_iload (M := mX8_copy) dX8_copy_88 8 rfl ?_
              refine g_if_lt (M := mX8_copy) (tgt := 135) dX8_copy_90 rfl (fun q90 => ?_) (fun q90 => ?_)
              · replace hf := ift hf q90
                refine g_bipush (M := mX8_copy) (v := -6) dX8_copy_135 rfl ?_
                cases hf
                exact g_ret (M := mX8_copy) dX8_copy_137 rfl
              · replace hf := iff_ hf q90
                refine g_iload (M := mX8_copy) dX8_copy_93 9 rfl ?_
                refine g_if_lt (M := mX8_copy) (tgt := 135) dX8_copy_95 rfl (fun q95 => ?_) (fun q95 => ?_)
                · replace hf := ift hf q95
                  refine g_bipush (M := mX8_copy) (v := -6) dX8_copy_135 rfl ?_
                  cases hf
                  exact g_ret (M := mX8_copy) dX8_copy_137 rfl
                · replace hf := iff_ hf q95
                  refine g_iload_n (M := mX8_copy) dX8_copy_98 rfl 5 rfl ?_
                  refine g_i2l (M := mX8_copy) dX8_copy_99 ?_
                  refine g_iload (M := mX8_copy) dX8_copy_100 9 rfl ?_
                  refine g_i2l (M := mX8_copy) dX8_copy_102 ?_
                  refine g_ladd (M := mX8_copy) dX8_copy_103 ?_
                  refine g_aload_n (M := mX8_copy) dX8_copy_104 rfl 2 rfl ?_
                  obtain ⟨v21, ev21, hf⟩ := bd hf
                  refine g_getR (M := mX8_copy) dX8_copy_105 flRX8_69 (fun _ => rfl) ev21 ?_
                  refine g_iload (M := mX8_copy) dX8_copy_108 1 rfl ?_
                  obtain ⟨v22, ev22, hf⟩ := bd hf
                  refine g_iald (M := mX8_copy) dX8_copy_110 ev22 ?_
                  refine g_i2l (M := mX8_copy) dX8_copy_111 ?_
                  refine g_lcmp (M := mX8_copy) dX8_copy_112 ?_
                  refine g_if_gt (M := mX8_copy) (tgt := 135) dX8_copy_113 rfl (fun q113 => ?_) (fun q113 => ?_)
                  · replace hf := ift hf q113
                    refine g_bipush (M := mX8_copy) (v := -6) dX8_copy_135 rfl ?_
                    cases hf
                    exact g_ret (M := mX8_copy) dX8_copy_137 rfl
                  · replace hf := iff_ hf q113
                    refine g_iload (M := mX8_copy) dX8_copy_116 8 rfl ?_
                    refine g_i2l (M := mX8_copy) dX8_copy_118 ?_
                    refine g_iload (M := mX8_copy) dX8_copy_119 9 rfl ?_
                    refine g_i2l (M := mX8_copy) dX8_copy_121 ?_
                    refine g_ladd (M := mX8_copy) dX8_copy_122 ?_
                    refine g_aload_n (M := mX8_copy) dX8_copy_123 rfl 2 rfl ?_
                    obtain ⟨v23, ev23, hf⟩ := bd hf
                    refine g_getR (M := mX8_copy) dX8_copy_124 flRX8_69 (fun _ => rfl) ev23 ?_
                    refine g_iload (M := mX8_copy) dX8_copy_127 0 rfl ?_
                    obtain ⟨v24, ev24, hf⟩ := bd hf
                    refine g_iald (M := mX8_copy) dX8_copy_129 ev24 ?_
                    refine g_i2l (M := mX8_copy) dX8_copy_130 ?_
                    refine g_lcmp (M := mX8_copy) dX8_copy_131 ?_
                    refine g_if_le (M := mX8_copy) (tgt := 138) dX8_copy_132 rfl (fun q132 => ?_) (fun q132 => ?_)
                    · replace hf := ift hf q132
                      refine g_iconst (M := mX8_copy) (v := 0) dX8_copy_138 rfl ?_
                      refine g_istore (M := mX8_copy) (L2 := [(10, vi (0 : Int32)), (9, vi (((8 : Int32) * a4) + a5)), (8, vi (((8 : Int32) * a1) + a2)), (0, vr (some a0)), (1, vi a1), (2, vi a2), (3, vi a3), (4, vi a4), (5, vi a5), (6, vi a6), (7, vi a7)]) dX8_copy_139 (Nat.le_of_ble_eq_true rfl) rfl ?_
                      exact g_sub (M := mX8_copy) (L2 := [(0, vr (some a0)), (3, vi a3), (6, vi a6), (7, vi a7), (8, vi (((8 : Int32) * a1) + a2)), (9, vi (((8 : Int32) * a4) + a5)), (10, vi (0 : Int32))]) [3, 6, 9, 10, 2, 1, 0] rfl <| x_X8_copy_141 G FU a0 a3 a6 a7 (((8 : Int32) * a1) + a2) (((8 : Int32) * a4) + a5) (0 : Int32) h _ hf
                    · replace hf := iff_ hf q132
                      refine g_bipush (M := mX8_copy) (v := -6) dX8_copy_135 rfl ?_
                      cases hf
                      exact g_ret (M := mX8_copy) dX8_copy_137 rfl
          · replace hf := iff_ hf q78
            refine g_bipush (M := mX8_copy) (v := -7) dX8_copy_81 rfl ?_
            cases hf
            exact g_ret (M := mX8_copy) dX8_copy_83 rfl
        · replace hf := iff_ hf q58
          refine g_bipush (M := mX8_copy) (v := -5) dX8_copy_61 rfl ?_
          cases hf
          exact g_ret (M := mX8_copy) dX8_copy_63 rfl
    · replace hf := ift hf q17
      refine g_bipush (M := mX8_copy) (v := -2) dX8_copy_20 rfl ?_
      cases hf
      exact g_ret (M := mX8_copy) dX8_copy_22 rfl
theorem c_X8_copy (G : Gm) (a0 : Nat) (a1 : Int32) (a2 : Int32) (a3 : Int32) (a4 : Int32) (a5 : Int32) (a6 : Int32) (a7 : Int32) (h : AH) (o : (Int32 × AH)) (hf : f_X8_copy a0 a1 a2 a3 a4 a5 a6 a7 h = some o) : CT G yX8_copy mX8_copy (some .int) 0 0 [vr (some a0), vi a1, vi a2, vi a3, vi a4, vi a5, vi a6, vi a7] h (some (vi o.1)) o.2 :=
  CT.int (by decide +kernel) rfl rfl rfl (Nat.le_of_ble_eq_true rfl) (x_X8_copy G a0 a1 a2 a3 a4 a5 a6 a7 h o hf)
theorem cbX8_copy : CB yX8_copy mX8_copy (some .int) 7 := ⟨cd_yX8_copy, itRX8, ⟨by decide, by decide⟩, by decide +kernel, by decide⟩
abbrev mX8_count : MI := (RX8, "count", cX8_count, 3, .ireturn, 1)
def f_X8_count (a0 : Nat) (a1 : Int32) (h : AH) : Option Int32 :=
  if (10 : Int32) ≤ a1 then (
    (ck 8 h (some a0)).bind fun b1 =>
    (f_X8_isAgreement b1 ((a1 / (10 : Int32)) - (1 : Int32)) h).bind fun r2 =>
    if (b2i r2) = 0 then (
      some (-1 : Int32)
    ) else (
      if (a1 - a1 / (10 : Int32) * (10 : Int32)) = 0 then (
        (gR 8 3 h (some a0)).bind fun v3 =>
        (lI 10 h v3 ((a1 / (10 : Int32)) - (1 : Int32))).bind fun v4 =>
        some v4
      ) else (
        if (a1 - a1 / (10 : Int32) * (10 : Int32)) = 1 then (
          (gR 8 4 h (some a0)).bind fun v5 =>
          (lI 10 h v5 ((a1 / (10 : Int32)) - (1 : Int32))).bind fun v6 =>
          some v6
        ) else (
          if (a1 - a1 / (10 : Int32) * (10 : Int32)) = 2 then (
            (gR 8 5 h (some a0)).bind fun v7 =>
            (lI 10 h v7 ((a1 / (10 : Int32)) - (1 : Int32))).bind fun v8 =>
            some v8
          ) else (
            if (a1 - a1 / (10 : Int32) * (10 : Int32)) = 3 then (
              (gR 8 6 h (some a0)).bind fun v9 =>
              (lI 10 h v9 ((a1 / (10 : Int32)) - (1 : Int32))).bind fun v10 =>
              some v10
            ) else (
              if (a1 - a1 / (10 : Int32) * (10 : Int32)) = 4 then (
                (gR 8 23 h (some a0)).bind fun v11 =>
                (lI 10 h v11 ((a1 / (10 : Int32)) - (1 : Int32))).bind fun v12 =>
                some v12
              ) else (
                some (-1 : Int32)
              )
            )
          )
        )
      )
    )
  ) else (
    if a1 = 0 then (
      (gI 8 1 h (some a0)).bind fun v16 =>
      some v16
    ) else (
      if a1 = (1 : Int32) then (
        (gI 8 2 h (some a0)).bind fun v15 =>
        some v15
      ) else (
        if a1 = (2 : Int32) then (
          (gI 8 8 h (some a0)).bind fun v14 =>
          some v14
        ) else (
          if a1 = (3 : Int32) then (
            (gI 8 0 h (some a0)).bind fun v13 =>
            some v13
          ) else (
            some (-1 : Int32)
          )
        )
      )
    )
  )
theorem x_X8_count (G : Gm) (a0 : Nat) (a1 : Int32) (h : AH) (o : Int32) (hf : f_X8_count a0 a1 h = some o) : GO G mX8_count 0 0 0 [(0, vr (some a0)), (1, vi a1)] [] h (some (vi o)) h := by
  unfold f_X8_count at hf
  refine g_iload_n (M := mX8_count) dX8_count_0 rfl 1 rfl ?_
  refine g_bipush (M := mX8_count) (v := 10) dX8_count_1 rfl ?_
  refine g_ic_ge (M := mX8_count) (tgt := 55) dX8_count_3 rfl (fun q3 => ?_) (fun q3 => ?_)
  · replace hf := ift hf q3
    refine g_iload_n (M := mX8_count) dX8_count_55 rfl 1 rfl ?_
    refine g_bipush (M := mX8_count) (v := 10) dX8_count_56 rfl ?_
    refine g_idiv (M := mX8_count) dX8_count_58 (by decide) ?_
    refine g_iconst (M := mX8_count) (v := 1) dX8_count_59 rfl ?_
    refine g_isub (M := mX8_count) dX8_count_60 ?_
    refine g_istore_n (M := mX8_count) (L2 := [(2, vi ((a1 / (10 : Int32)) - (1 : Int32))), (0, vr (some a0)), (1, vi a1)]) dX8_count_61 rfl (Nat.le_of_ble_eq_true rfl) rfl ?_
    refine g_aload_n (M := mX8_count) dX8_count_62 rfl 1 rfl ?_
    refine g_iload_n (M := mX8_count) dX8_count_63 rfl 0 rfl ?_
    obtain ⟨b1, eb1, hf⟩ := bd hf
    obtain ⟨r2, er2, hf⟩ := bd hf
    refine g_callV (M := mX8_count) (kc := 0) (ks := 0) (as := [vi ((a1 / (10 : Int32)) - (1 : Int32))]) (rest := []) dX8_count_64 cbX8_isAgreement vwRX8_85 rfl eb1 rfl (Nat.le_of_ble_eq_true rfl) (Nat.le_of_ble_eq_true rfl) (c_X8_isAgreement G b1 ((a1 / (10 : Int32)) - (1 : Int32)) h r2 er2) ?_
    refine g_if_ne (M := mX8_count) (tgt := 72) dX8_count_67 rfl (fun q67 => ?_) (fun q67 => ?_)
    · replace hf := iff_ hf q67
      refine g_iload_n (M := mX8_count) dX8_count_72 rfl 2 rfl ?_
      refine g_bipush (M := mX8_count) (v := 10) dX8_count_73 rfl ?_
      refine g_irem (M := mX8_count) dX8_count_75 (by decide) ?_
      by_cases q76_0 : (a1 - a1 / (10 : Int32) * (10 : Int32)) = 0
      · replace hf := ift hf q76_0
        refine g_sw_in (M := mX8_count) (off := 36) (tgt := 112) dX8_count_76 (by rw [q76_0]; decide) (by rw [q76_0]; decide) (by rw [q76_0]; rfl) (by decide) ?_
        refine g_aload_n (M := mX8_count) dX8_count_112 rfl 1 rfl ?_
        obtain ⟨v3, ev3, hf⟩ := bd hf
        refine g_getR (M := mX8_count) dX8_count_113 flRX8_7 (fun _ => rfl) ev3 ?_
        refine g_iload_n (M := mX8_count) dX8_count_116 rfl 0 rfl ?_
        obtain ⟨v4, ev4, hf⟩ := bd hf
        refine g_iald (M := mX8_count) dX8_count_117 ev4 ?_
        cases hf
        exact g_ret (M := mX8_count) dX8_count_118 rfl
      · replace hf := iff_ hf q76_0
        by_cases q76_1 : (a1 - a1 / (10 : Int32) * (10 : Int32)) = 1
        · replace hf := ift hf q76_1
          refine g_sw_in (M := mX8_count) (off := 43) (tgt := 119) dX8_count_76 (by rw [q76_1]; decide) (by rw [q76_1]; decide) (by rw [q76_1]; rfl) (by decide) ?_
          refine g_aload_n (M := mX8_count) dX8_count_119 rfl 1 rfl ?_
          obtain ⟨v5, ev5, hf⟩ := bd hf
          refine g_getR (M := mX8_count) dX8_count_120 flRX8_13 (fun _ => rfl) ev5 ?_
          refine g_iload_n (M := mX8_count) dX8_count_123 rfl 0 rfl ?_
          obtain ⟨v6, ev6, hf⟩ := bd hf
          refine g_iald (M := mX8_count) dX8_count_124 ev6 ?_
          cases hf
          exact g_ret (M := mX8_count) dX8_count_125 rfl
        · replace hf := iff_ hf q76_1
          by_cases q76_2 : (a1 - a1 / (10 : Int32) * (10 : Int32)) = 2
          · replace hf := ift hf q76_2
            refine g_sw_in (M := mX8_count) (off := 50) (tgt := 126) dX8_count_76 (by rw [q76_2]; decide) (by rw [q76_2]; decide) (by rw [q76_2]; rfl) (by decide) ?_
            refine g_aload_n (M := mX8_count) dX8_count_126 rfl 1 rfl ?_
            obtain ⟨v7, ev7, hf⟩ := bd hf
            refine g_getR (M := mX8_count) dX8_count_127 flRX8_16 (fun _ => rfl) ev7 ?_
            refine g_iload_n (M := mX8_count) dX8_count_130 rfl 0 rfl ?_
            obtain ⟨v8, ev8, hf⟩ := bd hf
            refine g_iald (M := mX8_count) dX8_count_131 ev8 ?_
            cases hf
            exact g_ret (M := mX8_count) dX8_count_132 rfl
          · replace hf := iff_ hf q76_2
            by_cases q76_3 : (a1 - a1 / (10 : Int32) * (10 : Int32)) = 3
            · replace hf := ift hf q76_3
              refine g_sw_in (M := mX8_count) (off := 57) (tgt := 133) dX8_count_76 (by rw [q76_3]; decide) (by rw [q76_3]; decide) (by rw [q76_3]; rfl) (by decide) ?_
              refine g_aload_n (M := mX8_count) dX8_count_133 rfl 1 rfl ?_
              obtain ⟨v9, ev9, hf⟩ := bd hf
              refine g_getR (M := mX8_count) dX8_count_134 flRX8_19 (fun _ => rfl) ev9 ?_
              refine g_iload_n (M := mX8_count) dX8_count_137 rfl 0 rfl ?_
              obtain ⟨v10, ev10, hf⟩ := bd hf
              refine g_iald (M := mX8_count) dX8_count_138 ev10 ?_
              cases hf
              exact g_ret (M := mX8_count) dX8_count_139 rfl
            · replace hf := iff_ hf q76_3
              by_cases q76_4 : (a1 - a1 / (10 : Int32) * (10 : Int32)) = 4
              · replace hf := ift hf q76_4
                refine g_sw_in (M := mX8_count) (off := 64) (tgt := 140) dX8_count_76 (by rw [q76_4]; decide) (by rw [q76_4]; decide) (by rw [q76_4]; rfl) (by decide) ?_
                refine g_aload_n (M := mX8_count) dX8_count_140 rfl 1 rfl ?_
                obtain ⟨v11, ev11, hf⟩ := bd hf
                refine g_getR (M := mX8_count) dX8_count_141 flRX8_63 (fun _ => rfl) ev11 ?_
                refine g_iload_n (M := mX8_count) dX8_count_144 rfl 0 rfl ?_
                obtain ⟨v12, ev12, hf⟩ := bd hf
                refine g_iald (M := mX8_count) dX8_count_145 ev12 ?_
                cases hf
                exact g_ret (M := mX8_count) dX8_count_146 rfl
              · replace hf := iff_ hf q76_4
                refine g_sw_out (M := mX8_count) (tgt := 147) dX8_count_76 (sw_def 5 ⟨q76_0, q76_1, q76_2, q76_3, q76_4, trivial⟩) (by decide) ?_
                refine g_iconst (M := mX8_count) (v := -1) dX8_count_147 rfl ?_
                cases hf
                exact g_ret (M := mX8_count) dX8_count_148 rfl
    · replace hf := ift hf q67
      refine g_iconst (M := mX8_count) (v := -1) dX8_count_70 rfl ?_
      cases hf
      exact g_ret (M := mX8_count) dX8_count_71 rfl
  · replace hf := iff_ hf q3
    refine g_iload_n (M := mX8_count) dX8_count_6 rfl 1 rfl ?_
    refine g_if_ne (M := mX8_count) (tgt := 17) dX8_count_7 rfl (fun q7 => ?_) (fun q7 => ?_)
    · replace hf := iff_ hf q7
      refine g_iload_n (M := mX8_count) dX8_count_17 rfl 1 rfl ?_
      refine g_iconst (M := mX8_count) (v := 1) dX8_count_18 rfl ?_
      refine g_ic_ne (M := mX8_count) (tgt := 29) dX8_count_19 rfl (fun q19 => ?_) (fun q19 => ?_)
      · replace hf := iff_ hf q19
        refine g_iload_n (M := mX8_count) dX8_count_29 rfl 1 rfl ?_
        refine g_iconst (M := mX8_count) (v := 2) dX8_count_30 rfl ?_
        refine g_ic_ne (M := mX8_count) (tgt := 41) dX8_count_31 rfl (fun q31 => ?_) (fun q31 => ?_)
        · replace hf := iff_ hf q31
          refine g_iload_n (M := mX8_count) dX8_count_41 rfl 1 rfl ?_
          refine g_iconst (M := mX8_count) (v := 3) dX8_count_42 rfl ?_
          refine g_ic_ne (M := mX8_count) (tgt := 53) dX8_count_43 rfl (fun q43 => ?_) (fun q43 => ?_)
          · replace hf := iff_ hf q43
            refine g_iconst (M := mX8_count) (v := -1) dX8_count_53 rfl ?_
            cases hf
            exact g_ret (M := mX8_count) dX8_count_54 rfl
          · replace hf := ift hf q43
            refine g_aload_n (M := mX8_count) dX8_count_46 rfl 0 rfl ?_
            obtain ⟨v13, ev13, hf⟩ := bd hf
            refine g_getI (M := mX8_count) dX8_count_47 flRX8_98 (fun _ => rfl) ev13 ?_
            refine g_goto (M := mX8_count) (tgt := 54) dX8_count_50 rfl ?_
            cases hf
            exact g_ret (M := mX8_count) dX8_count_54 rfl
        · replace hf := ift hf q31
          refine g_aload_n (M := mX8_count) dX8_count_34 rfl 0 rfl ?_
          obtain ⟨v14, ev14, hf⟩ := bd hf
          refine g_getI (M := mX8_count) dX8_count_35 flRX8_89 (fun _ => rfl) ev14 ?_
          refine g_goto (M := mX8_count) (tgt := 54) dX8_count_38 rfl ?_
          cases hf
          exact g_ret (M := mX8_count) dX8_count_54 rfl
      · replace hf := ift hf q19
        refine g_aload_n (M := mX8_count) dX8_count_22 rfl 0 rfl ?_
        obtain ⟨v15, ev15, hf⟩ := bd hf
        refine g_getI (M := mX8_count) dX8_count_23 flRX8_82 (fun _ => rfl) ev15 ?_
        refine g_goto (M := mX8_count) (tgt := 54) dX8_count_26 rfl ?_
        cases hf
        exact g_ret (M := mX8_count) dX8_count_54 rfl
    · replace hf := ift hf q7
      refine g_aload_n (M := mX8_count) dX8_count_10 rfl 0 rfl ?_
      obtain ⟨v16, ev16, hf⟩ := bd hf
      refine g_getI (M := mX8_count) dX8_count_11 flRX8_78 (fun _ => rfl) ev16 ?_
      refine g_goto (M := mX8_count) (tgt := 54) dX8_count_14 rfl ?_
      cases hf
      exact g_ret (M := mX8_count) dX8_count_54 rfl
theorem c_X8_count (G : Gm) (a0 : Nat) (a1 : Int32) (h : AH) (o : Int32) (hf : f_X8_count a0 a1 h = some o) : CT G yX8_count mX8_count (some .int) 0 0 [vr (some a0), vi a1] h (some (vi o)) h :=
  CT.int (by decide +kernel) rfl rfl rfl (Nat.le_of_ble_eq_true rfl) (x_X8_count G a0 a1 h o hf)
theorem cbX8_count : CB yX8_count mX8_count (some .int) 1 := ⟨cd_yX8_count, itRX8, ⟨by decide, by decide⟩, by decide +kernel, by decide⟩
