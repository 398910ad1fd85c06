abbrev mX8_isAsked : MI := (RX8, "isAsked", cX8_isAsked, 5, .ireturn, 2)
def f_X8_isAsked (a0 : Nat) (a1 : Int32) (a2 : Int32) (a3 : Int32) (a4 : Int32) (h : AH) : Option Bool :=
  (ck 8 h (some a0)).bind fun b1 =>
  (f_X8_isParty b1 a1 h).bind fun r2 =>
  if (b2i r2) = 0 then (
    some false
  ) else (
    (ck 8 h (some a0)).bind fun b3 =>
    (f_X8_isParty b3 a2 h).bind fun r4 =>
    if (b2i r4) = 0 then (
      some false
    ) else (
      if a1 = a2 then (
        some false
      ) else (
        (ck 8 h (some a0)).bind fun b5 =>
        (f_X8_isArticle b5 a3 a4 h).bind fun r6 =>
        if (b2i r6) = 0 then (
          some false
        ) else (
          some true
        )
      )
    )
  )
theorem x_X8_isAsked (G : Gm) (a0 : Nat) (a1 : Int32) (a2 : Int32) (a3 : Int32) (a4 : Int32) (h : AH) (o : Bool) (hf : f_X8_isAsked a0 a1 a2 a3 a4 h = some o) : GO G mX8_isAsked 0 0 0 [(0, vr (some a0)), (1, vi a1), (2, vi a2), (3, vi a3), (4, vi a4)] [] h (some (vi (b2i o))) h := by
  unfold f_X8_isAsked at hf
  refine g_aload_n (M := mX8_isAsked) dX8_isAsked_0 rfl 0 rfl ?_
  refine g_iload_n (M := mX8_isAsked) dX8_isAsked_1 rfl 1 rfl ?_
  obtain ⟨b1, eb1, hf⟩ := bd hf
  obtain ⟨r2, er2, hf⟩ := bd hf
  refine g_callV (M := mX8_isAsked) (kc := 0) (ks := 0) (as := [vi a1]) (rest := []) dX8_isAsked_2 cbX8_isParty vwRX8_115 rfl eb1 rfl (Nat.le_of_ble_eq_true rfl) (Nat.le_of_ble_eq_true rfl) (c_X8_isParty G b1 a1 h r2 er2) ?_
  refine g_if_eq (M := mX8_isAsked) (tgt := 35) dX8_isAsked_5 rfl (fun q5 => ?_) (fun q5 => ?_)
  · replace hf := ift hf q5
    refine g_iconst (M := mX8_isAsked) (v := 0) dX8_isAsked_35 rfl ?_
    cases hf
    exact g_ret (M := mX8_isAsked) dX8_isAsked_36 rfl
  · replace hf := iff_ hf q5
    refine g_aload_n (M := mX8_isAsked) dX8_isAsked_8 rfl 0 rfl ?_
    refine g_iload_n (M := mX8_isAsked) dX8_isAsked_9 rfl 2 rfl ?_
    obtain ⟨b3, eb3, hf⟩ := bd hf
    obtain ⟨r4, er4, hf⟩ := bd hf
    refine g_callV (M := mX8_isAsked) (kc := 0) (ks := 0) (as := [vi a2]) (rest := []) dX8_isAsked_10 cbX8_isParty vwRX8_115 rfl eb3 rfl (Nat.le_of_ble_eq_true rfl) (Nat.le_of_ble_eq_true rfl) (c_X8_isParty G b3 a2 h r4 er4) ?_
    refine g_if_eq (M := mX8_isAsked) (tgt := 35) dX8_isAsked_13 rfl (fun q13 => ?_) (fun q13 => ?_)
    · replace hf := ift hf q13
      refine g_iconst (M := mX8_isAsked) (v := 0) dX8_isAsked_35 rfl ?_
      cases hf
      exact g_ret (M := mX8_isAsked) dX8_isAsked_36 rfl
    · replace hf := iff_ hf q13
      refine g_iload_n (M := mX8_isAsked) dX8_isAsked_16 rfl 1 rfl ?_
      refine g_iload_n (M := mX8_isAsked) dX8_isAsked_17 rfl 2 rfl ?_
      refine g_ic_eq (M := mX8_isAsked) (tgt := 35) dX8_isAsked_18 rfl (fun q18 => ?_) (fun q18 => ?_)
      · replace hf := ift hf q18
        refine g_iconst (M := mX8_isAsked) (v := 0) dX8_isAsked_35 rfl ?_
        cases hf
        exact g_ret (M := mX8_isAsked) dX8_isAsked_36 rfl
      · replace hf := iff_ hf q18
        refine g_aload_n (M := mX8_isAsked) dX8_isAsked_21 rfl 0 rfl ?_
        refine g_iload_n (M := mX8_isAsked) dX8_isAsked_22 rfl 3 rfl ?_
        refine g_iload (M := mX8_isAsked) dX8_isAsked_23 4 rfl ?_
        obtain ⟨b5, eb5, hf⟩ := bd hf
        obtain ⟨r6, er6, hf⟩ := bd hf
        refine g_callV (M := mX8_isAsked) (kc := 0) (ks := 0) (as := [vi a3, vi a4]) (rest := []) dX8_isAsked_25 cbX8_isArticle vwRX8_93 rfl eb5 rfl (Nat.le_of_ble_eq_true rfl) (Nat.le_of_ble_eq_true rfl) (c_X8_isArticle G b5 a3 a4 h r6 er6) ?_
        refine g_if_eq (M := mX8_isAsked) (tgt := 35) dX8_isAsked_28 rfl (fun q28 => ?_) (fun q28 => ?_)
        · replace hf := ift hf q28
          refine g_iconst (M := mX8_isAsked) (v := 0) dX8_isAsked_35 rfl ?_
          cases hf
          exact g_ret (M := mX8_isAsked) dX8_isAsked_36 rfl
        · replace hf := iff_ hf q28
          refine g_iconst (M := mX8_isAsked) (v := 1) dX8_isAsked_31 rfl ?_
          refine g_goto (M := mX8_isAsked) (tgt := 36) dX8_isAsked_32 rfl ?_
          cases hf
          exact g_ret (M := mX8_isAsked) dX8_isAsked_36 rfl
theorem c_X8_isAsked (G : Gm) (a0 : Nat) (a1 : Int32) (a2 : Int32) (a3 : Int32) (a4 : Int32) (h : AH) (o : Bool) (hf : f_X8_isAsked a0 a1 a2 a3 a4 h = some o) : CT G yX8_isAsked mX8_isAsked (some .boolean) 0 0 [vr (some a0), vi a1, vi a2, vi a3, vi a4] h (some (vi (b2i o))) h :=
  CT.bool (by decide +kernel) rfl rfl rfl (Nat.le_of_ble_eq_true rfl) (b2i_01 _) (x_X8_isAsked G a0 a1 a2 a3 a4 h o hf)
theorem cbX8_isAsked : CB yX8_isAsked mX8_isAsked (some .boolean) 4 := ⟨cd_yX8_isAsked, itRX8, ⟨by decide, by decide⟩, by decide +kernel, by decide⟩
abbrev mX8_between : MI := (RX8, "between", cX8_between, 7, .ireturn, 6)
def f_X8_between (a0 : Nat) (a1 : Int32) (a2 : Int32) (a3 : Int32) (a4 : Int32) (a5 : Int32) (a6 : Int32) (h : AH) : Option (Int32 × AH) :=
  (ck 8 h (some a0)).bind fun b1 =>
  (f_X8_isAsked b1 a1 a2 a3 a4 h).bind fun r2 =>
  if (b2i r2) = 0 then (
    some ((-1 : Int32), h)
  ) else (
    (f_X8_isDay a5 h).bind fun r3 =>
    if (b2i r3) = 0 then (
      some ((-1 : Int32), h)
    ) else (
      (f_X8_isDay a6 h).bind fun r4 =>
      if (b2i r4) = 0 then (
        some ((-1 : Int32), h)
      ) else (
        (ck 8 h (some a0)).bind fun b5 =>
        (f_X8_finds b5 a1 a2 a3 a4 a5 a6 h).bind fun r6 =>
        (gI 8 20 r6 (some a0)).bind fun v7 =>
        some (v7, r6)
      )
    )
  )
theorem x_X8_between (G : Gm) (a0 : Nat) (a1 : Int32) (a2 : Int32) (a3 : Int32) (a4 : Int32) (a5 : Int32) (a6 : Int32) (h : AH) (o : (Int32 × AH)) (hf : f_X8_between a0 a1 a2 a3 a4 a5 a6 h = some o) : GO G mX8_between 0 0 0 [(0, vr (some a0)), (1, vi a1), (2, vi a2), (3, vi a3), (4, vi a4), (5, vi a5), (6, vi a6)] [] h (some (vi o.1)) o.2 := by
  unfold f_X8_between at hf
  refine g_aload_n (M := mX8_between) dX8_between_0 rfl 0 rfl ?_
  refine g_iload_n (M := mX8_between) dX8_between_1 rfl 1 rfl ?_
  refine g_iload_n (M := mX8_between) dX8_between_2 rfl 2 rfl ?_
  refine g_iload_n (M := mX8_between) dX8_between_3 rfl 3 rfl ?_
  refine g_iload (M := mX8_between) dX8_between_4 4 rfl ?_
  obtain ⟨b1, eb1, hf⟩ := bd hf
  obtain ⟨r2, er2, hf⟩ := bd hf
  refine g_callV (M := mX8_between) (kc := 0) (ks := 0) (as := [vi a1, vi a2, vi a3, vi a4]) (rest := []) dX8_between_6 cbX8_isAsked vwRX8_179 rfl eb1 rfl (Nat.le_of_ble_eq_true rfl) (Nat.le_of_ble_eq_true rfl) (c_X8_isAsked G b1 a1 a2 a3 a4 h r2 er2) ?_
  refine g_if_eq (M := mX8_between) (tgt := 28) dX8_between_9 rfl (fun q9 => ?_) (fun q9 => ?_)
  · replace hf := ift hf q9
    refine g_iconst (M := mX8_between) (v := -1) dX8_between_28 rfl ?_
    cases hf
    exact g_ret (M := mX8_between) dX8_between_29 rfl
  · replace hf := iff_ hf q9
    refine g_iload (M := mX8_between) dX8_between_12 5 rfl ?_
    obtain ⟨r3, er3, hf⟩ := bd hf
    refine g_callS (M := mX8_between) (kc := 0) (ks := 0) (as := [vi a5]) (rest := []) dX8_between_14 cbX8_isDay mlRX8_182 st_yX8_isDay rfl rfl (Nat.le_of_ble_eq_true rfl) (Nat.le_of_ble_eq_true rfl) (c_X8_isDay G a5 h r3 er3) ?_
    refine g_if_eq (M := mX8_between) (tgt := 28) dX8_between_17 rfl (fun q17 => ?_) (fun q17 => ?_)
    · replace hf := ift hf q17
      refine g_iconst (M := mX8_between) (v := -1) dX8_between_28 rfl ?_
      cases hf
      exact g_ret (M := mX8_between) dX8_between_29 rfl
    · replace hf := iff_ hf q17
      refine g_iload (M := mX8_between) dX8_between_20 6 rfl ?_
      obtain ⟨r4, er4, hf⟩ := bd hf
      refine g_callS (M := mX8_between) (kc := 0) (ks := 0) (as := [vi a6]) (rest := []) dX8_between_22 cbX8_isDay mlRX8_182 st_yX8_isDay rfl rfl (Nat.le_of_ble_eq_true rfl) (Nat.le_of_ble_eq_true rfl) (c_X8_isDay G a6 h r4 er4) ?_
      refine g_if_ne (M := mX8_between) (tgt := 30) dX8_between_25 rfl (fun q25 => ?_) (fun q25 => ?_)
      · replace hf := iff_ hf q25
        refine g_aload_n (M := mX8_between) dX8_between_30 rfl 0 rfl ?_
        refine g_iload_n (M := mX8_between) dX8_between_31 rfl 1 rfl ?_
        refine g_iload_n (M := mX8_between) dX8_between_32 rfl 2 rfl ?_
        refine g_iload_n (M := mX8_between) dX8_between_33 rfl 3 rfl ?_
        refine g_iload (M := mX8_between) dX8_between_34 4 rfl ?_
        refine g_iload (M := mX8_between) dX8_between_36 5 rfl ?_
        refine g_iload (M := mX8_between) dX8_between_38 6 rfl ?_
        obtain ⟨b5, eb5, hf⟩ := bd hf
        obtain ⟨r6, er6, hf⟩ := bd hf
        refine g_callV (M := mX8_between) (kc := 0) (ks := 0) (as := [vi a1, vi a2, vi a3, vi a4, vi a5, vi a6]) (rest := []) dX8_between_40 cbX8_finds vwRX8_185 rfl eb5 rfl (Nat.le_of_ble_eq_true rfl) (Nat.le_of_ble_eq_true rfl) (c_X8_finds G b5 a1 a2 a3 a4 a5 a6 h r6 er6) ?_
        refine g_aload_n (M := mX8_between) dX8_between_43 rfl 0 rfl ?_
        obtain ⟨v7, ev7, hf⟩ := bd hf
        refine g_getI (M := mX8_between) dX8_between_44 flRX8_150 (fun _ => rfl) ev7 ?_
        cases hf
        exact g_ret (M := mX8_between) dX8_between_47 rfl
      · replace hf := ift hf q25
        refine g_iconst (M := mX8_between) (v := -1) dX8_between_28 rfl ?_
        cases hf
        exact g_ret (M := mX8_between) dX8_between_29 rfl
theorem c_X8_between (G : Gm) (a0 : Nat) (a1 : Int32) (a2 : Int32) (a3 : Int32) (a4 : Int32) (a5 : Int32) (a6 : Int32) (h : AH) (o : (Int32 × AH)) (hf : f_X8_between a0 a1 a2 a3 a4 a5 a6 h = some o) : CT G yX8_between mX8_between (some .int) 0 0 [vr (some a0), vi a1, vi a2, vi a3, vi a4, vi a5, vi a6] h (some (vi o.1)) o.2 :=
  CT.int (by decide +kernel) rfl rfl rfl (Nat.le_of_ble_eq_true rfl) (x_X8_between G a0 a1 a2 a3 a4 a5 a6 h o hf)
theorem cbX8_between : CB yX8_between mX8_between (some .int) 6 := ⟨cd_yX8_between, itRX8, ⟨by decide, by decide⟩, by decide +kernel, by decide⟩
abbrev mX8_words : MI := (RX8, "words", cX8_words, 7, .ireturn, 6)
def f_X8_words (a0 : Nat) (a1 : Int32) (a2 : Int32) (a3 : Int32) (a4 : Int32) (a5 : Int32) (a6 : Int32) (h : AH) : Option (Int32 × AH) :=
  (ck 8 h (some a0)).bind fun b1 =>
  (f_X8_isAsked b1 a1 a2 a3 a4 h).bind fun r2 =>
  if (b2i r2) = 0 then (
    some ((-1 : Int32), h)
  ) else (
    (f_X8_isDay a5 h).bind fun r3 =>
    if (b2i r3) = 0 then (
      some ((-1 : Int32), h)
    ) else (
      (f_X8_isDay a6 h).bind fun r4 =>
      if (b2i r4) = 0 then (
        some ((-1 : Int32), h)
      ) else (
        (ck 8 h (some a0)).bind fun b5 =>
        (f_X8_finds b5 a1 a2 a3 a4 a5 a6 h).bind fun r6 =>
        (gI 8 21 r6 (some a0)).bind fun v7 =>
        some (v7, r6)
      )
    )
  )
theorem x_X8_words (G : Gm) (a0 : Nat) (a1 : Int32) (a2 : Int32) (a3 : Int32) (a4 : Int32) (a5 : Int32) (a6 : Int32) (h : AH) (o : (Int32 × AH)) (hf : f_X8_words a0 a1 a2 a3 a4 a5 a6 h = some o) : GO G mX8_words 0 0 0 [(0, vr (some a0)), (1, vi a1), (2, vi a2), (3, vi a3), (4, vi a4), (5, vi a5), (6, vi a6)] [] h (some (vi o.1)) o.2 := by
  unfold f_X8_words at hf
  refine g_aload_n (M := mX8_words) dX8_words_0 rfl 0 rfl ?_
  refine g_iload_n (M := mX8_words) dX8_words_1 rfl 1 rfl ?_
  refine g_iload_n (M := mX8_words) dX8_words_2 rfl 2 rfl ?_
  refine g_iload_n (M := mX8_words) dX8_words_3 rfl 3 rfl ?_
  refine g_iload (M := mX8_words) dX8_words_4 4 rfl ?_
  obtain ⟨b1, eb1, hf⟩ := bd hf
  obtain ⟨r2, er2, hf⟩ := bd hf
  refine g_callV (M := mX8_words) (kc := 0) (ks := 0) (as := [vi a1, vi a2, vi a3, vi a4]) (rest := []) dX8_words_6 cbX8_isAsked vwRX8_179 rfl eb1 rfl (Nat.le_of_ble_eq_true rfl) (Nat.le_of_ble_eq_true rfl) (c_X8_isAsked G b1 a1 a2 a3 a4 h r2 er2) ?_
  refine g_if_eq (M := mX8_words) (tgt := 28) dX8_words_9 rfl (fun q9 => ?_) (fun q9 => ?_)
  · replace hf := ift hf q9
    refine g_iconst (M := mX8_words) (v := -1) dX8_words_28 rfl ?_
    cases hf
    exact g_ret (M := mX8_words) dX8_words_29 rfl
  · replace hf := iff_ hf q9
    refine g_iload (M := mX8_words) dX8_words_12 5 rfl ?_
    obtain ⟨r3, er3, hf⟩ := bd hf
    refine g_callS (M := mX8_words) (kc := 0) (ks := 0) (as := [vi a5]) (rest := []) dX8_words_14 cbX8_isDay mlRX8_182 st_yX8_isDay rfl rfl (Nat.le_of_ble_eq_true rfl) (Nat.le_of_ble_eq_true rfl) (c_X8_isDay G a5 h r3 er3) ?_
    refine g_if_eq (M := mX8_words) (tgt := 28) dX8_words_17 rfl (fun q17 => ?_) (fun q17 => ?_)
    · replace hf := ift hf q17
      refine g_iconst (M := mX8_words) (v := -1) dX8_words_28 rfl ?_
      cases hf
      exact g_ret (M := mX8_words) dX8_words_29 rfl
    · replace hf := iff_ hf q17
      refine g_iload (M := mX8_words) dX8_words_20 6 rfl ?_
      obtain ⟨r4, er4, hf⟩ := bd hf
      refine g_callS (M := mX8_words) (kc := 0) (ks := 0) (as := [vi a6]) (rest := []) dX8_words_22 cbX8_isDay mlRX8_182 st_yX8_isDay rfl rfl (Nat.le_of_ble_eq_true rfl) (Nat.le_of_ble_eq_true rfl) (c_X8_isDay G a6 h r4 er4) ?_
      refine g_if_ne (M := mX8_words) (tgt := 30) dX8_words_25 rfl (fun q25 => ?_) (fun q25 => ?_)
      · replace hf := iff_ hf q25
        refine g_aload_n (M := mX8_words) dX8_words_30 rfl 0 rfl ?_
        refine g_iload_n (M := mX8_words) dX8_words_31 rfl 1 rfl ?_
        refine g_iload_n (M := mX8_words) dX8_words_32 rfl 2 rfl ?_
        refine g_iload_n (M := mX8_words) dX8_words_33 rfl 3 rfl ?_
        refine g_iload (M := mX8_words) dX8_words_34 4 rfl ?_
        refine g_iload (M := mX8_words) dX8_words_36 5 rfl ?_
        refine g_iload (M := mX8_words) dX8_words_38 6 rfl ?_
        obtain ⟨b5, eb5, hf⟩ := bd hf
        obtain ⟨r6, er6, hf⟩ := bd hf
        refine g_callV (M := mX8_words) (kc := 0) (ks := 0) (as := [vi a1, vi a2, vi a3, vi a4, vi a5, vi a6]) (rest := []) dX8_words_40 cbX8_finds vwRX8_185 rfl eb5 rfl (Nat.le_of_ble_eq_true rfl) (Nat.le_of_ble_eq_true rfl) (c_X8_finds G b5 a1 a2 a3 a4 a5 a6 h r6 er6) ?_
        refine g_aload_n (M := mX8_words) dX8_words_43 rfl 0 rfl ?_
        obtain ⟨v7, ev7, hf⟩ := bd hf
        refine g_getI (M := mX8_words) dX8_words_44 flRX8_153 (fun _ => rfl) ev7 ?_
        cases hf
        exact g_ret (M := mX8_words) dX8_words_47 rfl
      · replace hf := ift hf q25
        refine g_iconst (M := mX8_words) (v := -1) dX8_words_28 rfl ?_
        cases hf
        exact g_ret (M := mX8_words) dX8_words_29 rfl
theorem c_X8_words (G : Gm) (a0 : Nat) (a1 : Int32) (a2 : Int32) (a3 : Int32) (a4 : Int32) (a5 : Int32) (a6 : Int32) (h : AH) (o : (Int32 × AH)) (hf : f_X8_words a0 a1 a2 a3 a4 a5 a6 h = some o) : CT G yX8_words mX8_words (some .int) 0 0 [vr (some a0), vi a1, vi a2, vi a3, vi a4, vi a5, vi a6] h (some (vi o.1)) o.2 :=
  CT.int (by decide +kernel) rfl rfl rfl (Nat.le_of_ble_eq_true rfl) (x_X8_words G a0 a1 a2 a3 a4 a5 a6 h o hf)
theorem cbX8_words : CB yX8_words mX8_words (some .int) 6 := ⟨cd_yX8_words, itRX8, ⟨by decide, by decide⟩, by decide +kernel, by decide⟩
abbrev mX8_why : MI := (RX8, "why", cX8_why, 10, .ireturn, 6)
def f_X8_why_50 : Nat → Nat → Int32 → Int32 → AH → Option (Int32 × AH)
  | 0, _, _, _, _ => none
  | n + 1, a0, a8, a9, h =>
    (gI 8 8 h (some a0)).bind fun v1 =>
    if v1 ≤ a9 then (
      some ((-1 : Int32), h)
    ) else (
      if a8 < 0 then (
        some ((-1 : Int32), h)
      ) else (
        (gR 8 22 h (some a0)).bind fun v2 =>
        (lI 12 h v2 a9).bind fun v3 =>
        if v3 = 0 then (
          f_X8_why_50 n a0 a8 (a9 + (1)) h
        ) else (
          if a8 = 0 then (
            some (a9, h)
          ) else (
            f_X8_why_50 n a0 (a8 + (-1)) (a9 + (1)) h
          )
        )
      )
    )
theorem x_X8_why_50 (G : Gm) : ∀ (n : Nat) (a0 : Nat) (a8 : Int32) (a9 : Int32) (h : AH) (o : (Int32 × AH)), f_X8_why_50 n a0 a8 a9 h = some o → GO G mX8_why 0 0 50 [(0, vr (some a0)), (8, vi a8), (9, vi a9)] [] h (some (vi o.1)) o.2 := by
  intro n
  induction n with
  | zero => intro a0 a8 a9 h o hf; cases hf
  | succ n ih =>
    intro a0 a8 a9 h o hf
    rw [f_X8_why_50] at hf
    refine g_iload (M := mX8_why) dX8_why_50 2 rfl ?_
    refine g_aload_n (M := mX8_why) dX8_why_52 rfl 0 rfl ?_
    obtain ⟨v1, ev1, hf⟩ := bd hf
    refine g_getI (M := mX8_why) dX8_why_53 flRX8_89 (fun _ => rfl) ev1 ?_
    refine g_ic_ge (M := mX8_why) (tgt := 91) dX8_why_56 rfl (fun q56 => ?_) (fun q56 => ?_)
    · replace hf := ift hf q56
      refine g_iconst (M := mX8_why) (v := -1) dX8_why_91 rfl ?_
      cases hf
      exact g_ret (M := mX8_why) dX8_why_92 rfl
    · replace hf := iff_ hf q56
      refine g_iload (M := mX8_why) dX8_why_59 1 rfl ?_
      refine g_if_lt (M := mX8_why) (tgt := 91) dX8_why_61 rfl (fun q61 => ?_) (fun q61 => ?_)
      · replace hf := ift hf q61
        refine g_iconst (M := mX8_why) (v := -1) dX8_why_91 rfl ?_
        cases hf
        exact g_ret (M := mX8_why) dX8_why_92 rfl
      · replace hf := iff_ hf q61
        refine g_aload_n (M := mX8_why) dX8_why_64 rfl 0 rfl ?_
        obtain ⟨v2, ev2, hf⟩ := bd hf
        refine g_getR (M := mX8_why) dX8_why_65 flRX8_59 (fun _ => rfl) ev2 ?_
        refine g_iload (M := mX8_why) dX8_why_68 2 rfl ?_
        obtain ⟨v3, ev3, hf⟩ := bd hf
        refine g_zald (M := mX8_why) dX8_why_70 ev3 ?_
        refine g_if_eq (M := mX8_why) (tgt := 85) dX8_why_71 rfl (fun q71 => ?_) (fun q71 => ?_)
        · replace hf := ift hf q71
          refine g_iinc (M := mX8_why) (j := 2) (L2 := [(9, vi (a9 + (1))), (0, vr (some a0)), (8, vi a8)]) dX8_why_85 rfl rfl (Nat.le_of_ble_eq_true rfl) rfl ?_
          refine g_goto (M := mX8_why) (tgt := 50) dX8_why_88 rfl ?_
          exact g_sub (M := mX8_why) (L2 := [(0, vr (some a0)), (8, vi a8), (9, vi (a9 + (1)))]) [1, 2, 0] rfl <| ih a0 a8 (a9 + (1)) h _ hf
        · replace hf := iff_ hf q71
          refine g_iload (M := mX8_why) dX8_why_74 1 rfl ?_
          refine g_if_ne (M := mX8_why) (tgt := 82) dX8_why_76 rfl (fun q76 => ?_) (fun q76 => ?_)
          · replace hf := iff_ hf q76
            refine g_iinc (M := mX8_why) (j := 1) (L2 := [(8, vi (a8 + (-1))), (0, vr (some a0)), (9, vi a9)]) dX8_why_82 rfl rfl (Nat.le_of_ble_eq_true rfl) rfl ?_
            refine g_iinc (M := mX8_why) (j := 2) (L2 := [(9, vi (a9 + (1))), (8, vi (a8 + (-1))), (0, vr (some a0))]) dX8_why_85 rfl rfl (Nat.le_of_ble_eq_true rfl) rfl ?_
            refine g_goto (M := mX8_why) (tgt := 50) dX8_why_88 rfl ?_
            exact g_sub (M := mX8_why) (L2 := [(0, vr (some a0)), (8, vi (a8 + (-1))), (9, vi (a9 + (1)))]) [2, 1, 0] rfl <| ih a0 (a8 + (-1)) (a9 + (1)) h _ hf
          · replace hf := ift hf q76
            refine g_iload (M := mX8_why) dX8_why_79 2 rfl ?_
            cases hf
            exact g_ret (M := mX8_why) dX8_why_81 rfl
def f_X8_why (a0 : Nat) (a1 : Int32) (a2 : Int32) (a3 : Int32) (a4 : Int32) (a5 : Int32) (a6 : Int32) (a7 : Int32) (h : AH) : Option (Int32 × AH) :=
  (ck 8 h (some a0)).bind fun b4 =>
  (f_X8_isAsked b4 a1 a2 a3 a4 h).bind fun r5 =>
  if (b2i r5) = 0 then (
    some ((-1 : Int32), h)
  ) else (
    (f_X8_isDay a5 h).bind fun r6 =>
    if (b2i r6) = 0 then (
      some ((-1 : Int32), h)
    ) else (
      (f_X8_isDay a6 h).bind fun r7 =>
      if (b2i r7) = 0 then (
        some ((-1 : Int32), h)
      ) else (
        (ck 8 h (some a0)).bind fun b8 =>
        (f_X8_finds b8 a1 a2 a3 a4 a5 a6 h).bind fun r9 =>
        f_X8_why_50 FU a0 a7 (0 : Int32) r9
      )
    )
  )
theorem x_X8_why (G : Gm) (a0 : Nat) (a1 : Int32) (a2 : Int32) (a3 : Int32) (a4 : Int32) (a5 : Int32) (a6 : Int32) (a7 : Int32) (h : AH) (o : (Int32 × AH)) (hf : f_X8_why a0 a1 a2 a3 a4 a5 a6 a7 h = some o) : GO G mX8_why 0 0 0 [(0, vr (some a0)), (1, vi a1), (2, vi a2), (3, vi a3), (4, vi a4), (5, vi a5), (6, vi a6), (7, vi a7)] [] h (some (vi o.1)) o.2 := by
  unfold f_X8_why at hf
  refine g_aload_n (M := mX8_why) dX8_why_0 rfl 0 rfl ?_
  refine g_iload_n (M := mX8_why) dX8_why_1 rfl 1 rfl ?_
  refine g_iload_n (M := mX8_why) dX8_why_2 rfl 2 rfl ?_
  refine g_iload_n (M := mX8_why) dX8_why_3 rfl 3 rfl ?_
  refine g_iload (M := mX8_why) dX8_why_4 4 rfl ?_
  obtain ⟨b4, eb4, hf⟩ := bd hf
  obtain ⟨r5, er5, hf⟩ := bd hf
  refine g_callV (M := mX8_why) (kc := 0) (ks := 0) (as := [vi a1, vi a2, vi a3, vi a4]) (rest := []) dX8_why_6 cbX8_isAsked vwRX8_179 rfl eb4 rfl (Nat.le_of_ble_eq_true rfl) (Nat.le_of_ble_eq_true rfl) (c_X8_isAsked G b4 a1 a2 a3 a4 h r5 er5) ?_
  refine g_if_eq (M := mX8_why) (tgt := 28) dX8_why_9 rfl (fun q9 => ?_) (fun q9 => ?_)
  · replace hf := ift hf q9
    refine g_iconst (M := mX8_why) (v := -1) dX8_why_28 rfl ?_
    cases hf
    exact g_ret (M := mX8_why) dX8_why_29 rfl
  · replace hf := iff_ hf q9
    refine g_iload (M := mX8_why) dX8_why_12 5 rfl ?_
    obtain ⟨r6, er6, hf⟩ := bd hf
    refine g_callS (M := mX8_why) (kc := 0) (ks := 0) (as := [vi a5]) (rest := []) dX8_why_14 cbX8_isDay mlRX8_182 st_yX8_isDay rfl rfl (Nat.le_of_ble_eq_true rfl) (Nat.le_of_ble_eq_true rfl) (c_X8_isDay G a5 h r6 er6) ?_
    refine g_if_eq (M := mX8_why) (tgt := 28) dX8_why_17 rfl (fun q17 => ?_) (fun q17 => ?_)
    · replace hf := ift hf q17
      refine g_iconst (M := mX8_why) (v := -1) dX8_why_28 rfl ?_
      cases hf
      exact g_ret (M := mX8_why) dX8_why_29 rfl
    · replace hf := iff_ hf q17
      refine g_iload (M := mX8_why) dX8_why_20 6 rfl ?_
      obtain ⟨r7, er7, hf⟩ := bd hf
      refine g_callS (M := mX8_why) (kc := 0) (ks := 0) (as := [vi a6]) (rest := []) dX8_why_22 cbX8_isDay mlRX8_182 st_yX8_isDay rfl rfl (Nat.le_of_ble_eq_true rfl) (Nat.le_of_ble_eq_true rfl) (c_X8_isDay G a6 h r7 er7) ?_
      refine g_if_ne (M := mX8_why) (tgt := 30) dX8_why_25 rfl (fun q25 => ?_) (fun q25 => ?_)
      · replace hf := iff_ hf q25
        refine g_aload_n (M := mX8_why) dX8_why_30 rfl 0 rfl ?_
        refine g_iload_n (M := mX8_why) dX8_why_31 rfl 1 rfl ?_
        refine g_iload_n (M := mX8_why) dX8_why_32 rfl 2 rfl ?_
        refine g_iload_n (M := mX8_why) dX8_why_33 rfl 3 rfl ?_
        refine g_iload (M := mX8_why) dX8_why_34 4 rfl ?_
        refine g_iload (M := mX8_why) dX8_why_36 5 rfl ?_
        refine g_iload (M := mX8_why) dX8_why_38 6 rfl ?_
        obtain ⟨b8, eb8, hf⟩ := bd hf
        obtain ⟨r9, er9, hf⟩ := bd hf
        refine g_callV (M := mX8_why) (kc := 0) (ks := 0) (as := [vi a1, vi a2, vi a3, vi a4, vi a5, vi a6]) (rest := []) dX8_why_40 cbX8_finds vwRX8_185 rfl eb8 rfl (Nat.le_of_ble_eq_true rfl) (Nat.le_of_ble_eq_true rfl) (c_X8_finds G b8 a1 a2 a3 a4 a5 a6 h r9 er9) ?_
        refine g_iload (M := mX8_why) dX8_why_43 7 rfl ?_
        refine g_istore (M := mX8_why) (L2 := [(8, vi a7), (0, vr (some a0)), (1, vi a1), (2, vi a2), (3, vi a3), (4, vi a4), (5, vi a5), (6, vi a6), (7, vi a7)]) dX8_why_45 (Nat.le_of_ble_eq_true rfl) rfl ?_
        refine g_iconst (M := mX8_why) (v := 0) dX8_why_47 rfl ?_
        refine g_istore (M := mX8_why) (L2 := [(9, vi (0 : Int32)), (8, vi a7), (0, vr (some a0)), (1, vi a1), (2, vi a2), (3, vi a3), (4, vi a4), (5, vi a5), (6, vi a6), (7, vi a7)]) dX8_why_48 (Nat.le_of_ble_eq_true rfl) rfl ?_
        exact g_sub (M := mX8_why) (L2 := [(0, vr (some a0)), (8, vi a7), (9, vi (0 : Int32))]) [2, 1, 0] rfl <| x_X8_why_50 G FU a0 a7 (0 : Int32) r9 _ hf
      · replace hf := ift hf q25
        refine g_iconst (M := mX8_why) (v := -1) dX8_why_28 rfl ?_
        cases hf
        exact g_ret (M := mX8_why) dX8_why_29 rfl
theorem c_X8_why (G : Gm) (a0 : Nat) (a1 : Int32) (a2 : Int32) (a3 : Int32) (a4 : Int32) (a5 : Int32) (a6 : Int32) (a7 : Int32) (h : AH) (o : (Int32 × AH)) (hf : f_X8_why a0 a1 a2 a3 a4 a5 a6 a7 h = some o) : CT G yX8_why mX8_why (some .int) 0 0 [vr (some a0), vi a1, vi a2, vi a3, vi a4, vi a5, vi a6, vi a7] h (some (vi o.1)) o.2 :=
  CT.int (by decide +kernel) rfl rfl rfl (Nat.le_of_ble_eq_true rfl) (x_X8_why G a0 a1 a2 a3 a4 a5 a6 a7 h o hf)
theorem cbX8_why : CB yX8_why mX8_why (some .int) 7 := ⟨cd_yX8_why, itRX8, ⟨by decide, by decide⟩, by decide +kernel, by decide⟩
abbrev mX8_effectBelow : MI := (RX8, "effectBelow", cX8_effectBelow, 4, .ireturn, 0)
def f_X8_effectBelow_12 : Nat → Nat → Int32 → Int32 → Int32 → AH → Option Int32
  | 0, _, _, _, _, _ => none
  | n + 1, a0, a1, a2, a3, h =>
    (gI 8 8 h (some a0)).bind fun v1 =>
    if v1 ≤ a3 then (
      some a2
    ) else (
      (gR 8 13 h (some a0)).bind fun v2 =>
      (lI 10 h v2 a3).bind fun v3 =>
      if a1 ≤ v3 then (
        f_X8_effectBelow_12 n a0 a1 a2 (a3 + (1)) h
      ) else (
        (gR 8 13 h (some a0)).bind fun v4 =>
        (lI 10 h v4 a3).bind fun v5 =>
        if v5 ≤ a2 then (
          f_X8_effectBelow_12 n a0 a1 a2 (a3 + (1)) h
        ) else (
          (gR 8 13 h (some a0)).bind fun v6 =>
          (lI 10 h v6 a3).bind fun v7 =>
          f_X8_effectBelow_12 n a0 a1 v7 (a3 + (1)) h
        )
      )
    )
theorem x_X8_effectBelow_12 (G : Gm) : ∀ (n : Nat) (a0 : Nat) (a1 : Int32) (a2 : Int32) (a3 : Int32) (h : AH) (o : Int32), f_X8_effectBelow_12 n a0 a1 a2 a3 h = some o → GO G mX8_effectBelow 0 0 12 [(0, vr (some a0)), (1, vi a1), (2, vi a2), (3, vi a3)] [] h (some (vi o)) h := by
  intro n
  induction n with
  | zero => intro a0 a1 a2 a3 h o hf; cases hf
  | succ n ih =>
    intro a0 a1 a2 a3 h o hf
    rw [f_X8_effectBelow_12] at hf
    refine g_iload_n (M := mX8_effectBelow) dX8_effectBelow_12 rfl 3 rfl ?_
    refine g_aload_n (M := mX8_effectBelow) dX8_effectBelow_13 rfl 0 rfl ?_
    obtain ⟨v1, ev1, hf⟩ := bd hf
    refine g_getI (M := mX8_effectBelow) dX8_effectBelow_14 flRX8_89 (fun _ => rfl) ev1 ?_
    refine g_ic_ge (M := mX8_effectBelow) (tgt := 53) dX8_effectBelow_17 rfl (fun q17 => ?_) (fun q17 => ?_)
    · replace hf := ift hf q17
      refine g_iload_n (M := mX8_effectBelow) dX8_effectBelow_53 rfl 2 rfl ?_
      cases hf
      exact g_ret (M := mX8_effectBelow) dX8_effectBelow_54 rfl
    · replace hf := iff_ hf q17
      refine g_aload_n (M := mX8_effectBelow) dX8_effectBelow_20 rfl 0 rfl ?_
      obtain ⟨v2, ev2, hf⟩ := bd hf
      refine g_getR (M := mX8_effectBelow) dX8_effectBelow_21 flRX8_37 (fun _ => rfl) ev2 ?_
      refine g_iload_n (M := mX8_effectBelow) dX8_effectBelow_24 rfl 3 rfl ?_
      obtain ⟨v3, ev3, hf⟩ := bd hf
      refine g_iald (M := mX8_effectBelow) dX8_effectBelow_25 ev3 ?_
      refine g_iload_n (M := mX8_effectBelow) dX8_effectBelow_26 rfl 1 rfl ?_
      refine g_ic_ge (M := mX8_effectBelow) (tgt := 47) dX8_effectBelow_27 rfl (fun q27 => ?_) (fun q27 => ?_)
      · replace hf := ift hf q27
        refine g_iinc (M := mX8_effectBelow) (j := 3) (L2 := [(3, vi (a3 + (1))), (0, vr (some a0)), (1, vi a1), (2, vi a2)]) dX8_effectBelow_47 rfl rfl (Nat.le_of_ble_eq_true rfl) rfl ?_
        refine g_goto (M := mX8_effectBelow) (tgt := 12) dX8_effectBelow_50 rfl ?_
        exact g_sub (M := mX8_effectBelow) (L2 := [(0, vr (some a0)), (1, vi a1), (2, vi a2), (3, vi (a3 + (1)))]) [1, 2, 3, 0] rfl <| ih a0 a1 a2 (a3 + (1)) h _ hf
      · replace hf := iff_ hf q27
        refine g_aload_n (M := mX8_effectBelow) dX8_effectBelow_30 rfl 0 rfl ?_
        obtain ⟨v4, ev4, hf⟩ := bd hf
        refine g_getR (M := mX8_effectBelow) dX8_effectBelow_31 flRX8_37 (fun _ => rfl) ev4 ?_
        refine g_iload_n (M := mX8_effectBelow) dX8_effectBelow_34 rfl 3 rfl ?_
        obtain ⟨v5, ev5, hf⟩ := bd hf
        refine g_iald (M := mX8_effectBelow) dX8_effectBelow_35 ev5 ?_
        refine g_iload_n (M := mX8_effectBelow) dX8_effectBelow_36 rfl 2 rfl ?_
        refine g_ic_le (M := mX8_effectBelow) (tgt := 47) dX8_effectBelow_37 rfl (fun q37 => ?_) (fun q37 => ?_)
        · replace hf := ift hf q37
          refine g_iinc (M := mX8_effectBelow) (j := 3) (L2 := [(3, vi (a3 + (1))), (0, vr (some a0)), (1, vi a1), (2, vi a2)]) dX8_effectBelow_47 rfl rfl (Nat.le_of_ble_eq_true rfl) rfl ?_
          refine g_goto (M := mX8_effectBelow) (tgt := 12) dX8_effectBelow_50 rfl ?_
          exact g_sub (M := mX8_effectBelow) (L2 := [(0, vr (some a0)), (1, vi a1), (2, vi a2), (3, vi (a3 + (1)))]) [1, 2, 3, 0] rfl <| ih a0 a1 a2 (a3 + (1)) h _ hf
        · replace hf := iff_ hf q37
          refine g_aload_n (M := mX8_effectBelow) dX8_effectBelow_40 rfl 0 rfl ?_
          obtain ⟨v6, ev6, hf⟩ := bd hf
          refine g_getR (M := mX8_effectBelow) dX8_effectBelow_41 flRX8_37 (fun _ => rfl) ev6 ?_
          refine g_iload_n (M := mX8_effectBelow) dX8_effectBelow_44 rfl 3 rfl ?_
          obtain ⟨v7, ev7, hf⟩ := bd hf
          refine g_iald (M := mX8_effectBelow) dX8_effectBelow_45 ev7 ?_
          refine g_istore_n (M := mX8_effectBelow) (L2 := [(2, vi v7), (0, vr (some a0)), (1, vi a1), (3, vi a3)]) dX8_effectBelow_46 rfl (Nat.le_of_ble_eq_true rfl) rfl ?_
          refine g_iinc (M := mX8_effectBelow) (j := 3) (L2 := [(3, vi (a3 + (1))), (2, vi v7), (0, vr (some a0)), (1, vi a1)]) dX8_effectBelow_47 rfl rfl (Nat.le_of_ble_eq_true rfl) rfl ?_
          refine g_goto (M := mX8_effectBelow) (tgt := 12) dX8_effectBelow_50 rfl ?_
          exact g_sub (M := mX8_effectBelow) (L2 := [(0, vr (some a0)), (1, vi a1), (2, vi v7), (3, vi (a3 + (1)))]) [2, 3, 1, 0] rfl <| ih a0 a1 v7 (a3 + (1)) h _ hf
def f_X8_effectBelow_9 (a0 : Nat) (a1 : Int32) (s0 : Int32) (h : AH) : Option Int32 :=
  f_X8_effectBelow_12 FU a0 a1 s0 (0 : Int32) h
theorem x_X8_effectBelow_9 (G : Gm) (a0 : Nat) (a1 : Int32) (s0 : Int32) (h : AH) (o : Int32) (hf : f_X8_effectBelow_9 a0 a1 s0 h = some o) : GO G mX8_effectBelow 0 0 9 [(0, vr (some a0)), (1, vi a1)] [vi s0] h (some (vi o)) h := by
  unfold f_X8_effectBelow_9 at hf
  refine g_istore_n (M := mX8_effectBelow) (L2 := [(2, vi s0), (0, vr (some a0)), (1, vi a1)]) dX8_effectBelow_9 rfl (Nat.le_of_ble_eq_true rfl) rfl ?_
  refine g_iconst (M := mX8_effectBelow) (v := 0) dX8_effectBelow_10 rfl ?_
  refine g_istore_n (M := mX8_effectBelow) (L2 := [(3, vi (0 : Int32)), (2, vi s0), (0, vr (some a0)), (1, vi a1)]) dX8_effectBelow_11 rfl (Nat.le_of_ble_eq_true rfl) rfl ?_
  exact g_sub (M := mX8_effectBelow) (L2 := [(0, vr (some a0)), (1, vi a1), (2, vi s0), (3, vi (0 : Int32))]) [2, 3, 1, 0] rfl <| x_X8_effectBelow_12 G FU a0 a1 s0 (0 : Int32) h _ hf
def f_X8_effectBelow (a0 : Nat) (a1 : Int32) (h : AH) : Option Int32 :=
  if a1 ≤ 0 then (
    f_X8_effectBelow_9 a0 a1 (-1 : Int32) h
  ) else (
    f_X8_effectBelow_9 a0 a1 (0 : Int32) h
  )
theorem x_X8_effectBelow (G : Gm) (a0 : Nat) (a1 : Int32) (h : AH) (o : Int32) (hf : f_X8_effectBelow a0 a1 h = some o) : GO G mX8_effectBelow 0 0 0 [(0, vr (some a0)), (1, vi a1)] [] h (some (vi o)) h := by
  unfold f_X8_effectBelow at hf
  refine g_iload_n (M := mX8_effectBelow) dX8_effectBelow_0 rfl 1 rfl ?_
  refine g_if_le (M := mX8_effectBelow) (tgt := 8) dX8_effectBelow_1 rfl (fun q1 => ?_) (fun q1 => ?_)
  · replace hf := ift hf q1
    refine g_iconst (M := mX8_effectBelow) (v := -1) dX8_effectBelow_8 rfl ?_
    exact x_X8_effectBelow_9 G a0 a1 (-1 : Int32) h _ hf
  · replace hf := iff_ hf q1
    refine g_iconst (M := mX8_effectBelow) (v := 0) dX8_effectBelow_4 rfl ?_
    refine g_goto (M := mX8_effectBelow) (tgt := 9) dX8_effectBelow_5 rfl ?_
    exact x_X8_effectBelow_9 G a0 a1 (0 : Int32) h _ hf
theorem c_X8_effectBelow (G : Gm) (a0 : Nat) (a1 : Int32) (h : AH) (o : Int32) (hf : f_X8_effectBelow a0 a1 h = some o) : CT G yX8_effectBelow mX8_effectBelow (some .int) 0 0 [vr (some a0), vi a1] h (some (vi o)) h :=
  CT.int (by decide +kernel) rfl rfl rfl (Nat.le_of_ble_eq_true rfl) (x_X8_effectBelow G a0 a1 h o hf)
theorem cbX8_effectBelow : CB yX8_effectBelow mX8_effectBelow (some .int) 1 := ⟨cd_yX8_effectBelow, itRX8, ⟨by decide, by decide⟩, by decide +kernel, by decide⟩
abbrev mX8_first : MI := (RX8, "first", cX8_first, 10, .ireturn, 6)
def f_X8_first_135 (K0 : Nat → Int32 → Int32 → Int32 → Int32 → Int32 → Int32 → Int32 → Int32 → Int32 → AH → Option (Int32 × AH)) (a0 : Nat) (a1 : Int32) (a2 : Int32) (a3 : Int32) (a4 : Int32) (a5 : Int32) (a6 : Int32) (a7 : Int32) (a8 : Int32) (s0 : Int32) (h : AH) : Option (Int32 × AH) :=
  K0 a0 a1 a2 a3 a4 a5 a6 a7 a8 s0 h
theorem x_X8_first_135 (G : Gm) (K0 : Nat → Int32 → Int32 → Int32 → Int32 → Int32 → Int32 → Int32 → Int32 → Int32 → AH → Option (Int32 × AH)) (hK0 : ∀ (a0 : Nat) (a1 : Int32) (a2 : Int32) (a3 : Int32) (a4 : Int32) (a5 : Int32) (a6 : Int32) (a7 : Int32) (a8 : Int32) (a9 : Int32) (h : AH) (o : (Int32 × AH)), K0 a0 a1 a2 a3 a4 a5 a6 a7 a8 a9 h = some o → GO G mX8_first 0 0 62 [(0, vr (some a0)), (1, vi a1), (2, vi a2), (3, vi a3), (4, vi a4), (5, vi a5), (6, vi a6), (7, vi a7), (8, vi a8), (9, vi a9)] [] h (some (vi o.1)) o.2) (a0 : Nat) (a1 : Int32) (a2 : Int32) (a3 : Int32) (a4 : Int32) (a5 : Int32) (a6 : Int32) (a7 : Int32) (a8 : Int32) (s0 : Int32) (h : AH) (o : (Int32 × AH)) (hf : f_X8_first_135 K0 a0 a1 a2 a3 a4 a5 a6 a7 a8 s0 h = some o) : GO G mX8_first 0 0 135 [(0, vr (some a0)), (1, vi a1), (2, vi a2), (3, vi a3), (4, vi a4), (5, vi a5), (6, vi a6), (7, vi a7), (8, vi a8)] [vi s0] h (some (vi o.1)) o.2 := by
  unfold f_X8_first_135 at hf
  refine g_istore (M := mX8_first) (L2 := [(9, vi s0), (0, vr (some a0)), (1, vi a1), (2, vi a2), (3, vi a3), (4, vi a4), (5, vi a5), (6, vi a6), (7, vi a7), (8, vi a8)]) dX8_first_135 (Nat.le_of_ble_eq_true rfl) rfl ?_
  refine g_goto (M := mX8_first) (tgt := 62) dX8_first_137 rfl ?_
  exact g_sub (M := mX8_first) (L2 := [(0, vr (some a0)), (1, vi a1), (2, vi a2), (3, vi a3), (4, vi a4), (5, vi a5), (6, vi a6), (7, vi a7), (8, vi a8), (9, vi s0)]) [1, 2, 3, 4, 5, 6, 7, 8, 9, 0] rfl <| hK0 a0 a1 a2 a3 a4 a5 a6 a7 a8 s0 h _ hf
def f_X8_first_134 (K0 : Nat → Int32 → Int32 → Int32 → Int32 → Int32 → Int32 → Int32 → Int32 → Int32 → AH → Option (Int32 × AH)) (a0 : Nat) (a1 : Int32) (a2 : Int32) (a3 : Int32) (a4 : Int32) (a5 : Int32) (a6 : Int32) (a7 : Int32) (a8 : Int32) (h : AH) : Option (Int32 × AH) :=
  f_X8_first_135 K0 a0 a1 a2 a3 a4 a5 a6 a7 a8 (0 : Int32) h
theorem x_X8_first_134 (G : Gm) (K0 : Nat → Int32 → Int32 → Int32 → Int32 → Int32 → Int32 → Int32 → Int32 → Int32 → AH → Option (Int32 × AH)) (hK0 : ∀ (a0 : Nat) (a1 : Int32) (a2 : Int32) (a3 : Int32) (a4 : Int32) (a5 : Int32) (a6 : Int32) (a7 : Int32) (a8 : Int32) (a9 : Int32) (h : AH) (o : (Int32 × AH)), K0 a0 a1 a2 a3 a4 a5 a6 a7 a8 a9 h = some o → GO G mX8_first 0 0 62 [(0, vr (some a0)), (1, vi a1), (2, vi a2), (3, vi a3), (4, vi a4), (5, vi a5), (6, vi a6), (7, vi a7), (8, vi a8), (9, vi a9)] [] h (some (vi o.1)) o.2) (a0 : Nat) (a1 : Int32) (a2 : Int32) (a3 : Int32) (a4 : Int32) (a5 : Int32) (a6 : Int32) (a7 : Int32) (a8 : Int32) (h : AH) (o : (Int32 × AH)) (hf : f_X8_first_134 K0 a0 a1 a2 a3 a4 a5 a6 a7 a8 h = some o) : GO G mX8_first 0 0 134 [(0, vr (some a0)), (1, vi a1), (2, vi a2), (3, vi a3), (4, vi a4), (5, vi a5), (6, vi a6), (7, vi a7), (8, vi a8)] [] h (some (vi o.1)) o.2 := by
  unfold f_X8_first_134 at hf
  refine g_iconst (M := mX8_first) (v := 0) dX8_first_134 rfl ?_
  exact x_X8_first_135 G K0 hK0 a0 a1 a2 a3 a4 a5 a6 a7 a8 (0 : Int32) h _ hf
def f_X8_first_90 (K0 : Nat → Int32 → Int32 → Int32 → Int32 → Int32 → Int32 → Int32 → Int32 → Int32 → AH → Option (Int32 × AH)) (a0 : Nat) (a1 : Int32) (a2 : Int32) (a3 : Int32) (a4 : Int32) (a5 : Int32) (a6 : Int32) (a7 : Int32) (a8 : Int32) (s0 : Int32) (h : AH) : Option (Int32 × AH) :=
  if s0 = 0 then (
    K0 a0 a1 a2 a3 a4 a5 a6 a7 a8 s0 h
  ) else (
    (gI 8 0 h (some a0)).bind fun v1 =>
    (ck 8 h (some a0)).bind fun b2 =>
    (f_X8_finds b2 a1 a2 a3 a4 a7 v1 h).bind fun r3 =>
    (gI 8 20 r3 (some a0)).bind fun v4 =>
    if v4 = a5 then (
      (gI 8 21 r3 (some a0)).bind fun v5 =>
      if v5 = a6 then (
        f_X8_first_135 K0 a0 a1 a2 a3 a4 a5 a6 a7 a8 (1 : Int32) r3
      ) else (
        f_X8_first_134 K0 a0 a1 a2 a3 a4 a5 a6 a7 a8 r3
      )
    ) else (
      f_X8_first_134 K0 a0 a1 a2 a3 a4 a5 a6 a7 a8 r3
    )
  )
theorem x_X8_first_90 (G : Gm) (K0 : Nat → Int32 → Int32 → Int32 → Int32 → Int32 → Int32 → Int32 → Int32 → Int32 → AH → Option (Int32 × AH)) (hK0 : ∀ (a0 : Nat) (a1 : Int32) (a2 : Int32) (a3 : Int32) (a4 : Int32) (a5 : Int32) (a6 : Int32) (a7 : Int32) (a8 : Int32) (a9 : Int32) (h : AH) (o : (Int32 × AH)), K0 a0 a1 a2 a3 a4 a5 a6 a7 a8 a9 h = some o → GO G mX8_first 0 0 62 [(0, vr (some a0)), (1, vi a1), (2, vi a2), (3, vi a3), (4, vi a4), (5, vi a5), (6, vi a6), (7, vi a7), (8, vi a8), (9, vi a9)] [] h (some (vi o.1)) o.2) (a0 : Nat) (a1 : Int32) (a2 : Int32) (a3 : Int32) (a4 : Int32) (a5 : Int32) (a6 : Int32) (a7 : Int32) (a8 : Int32) (s0 : Int32) (h : AH) (o : (Int32 × AH)) (hf : f_X8_first_90 K0 a0 a1 a2 a3 a4 a5 a6 a7 a8 s0 h = some o) : GO G mX8_first 0 0 90 [(0, vr (some a0)), (1, vi a1), (2, vi a2), (3, vi a3), (4, vi a4), (5, vi a5), (6, vi a6), (7, vi a7), (8, vi a8)] [vi s0] h (some (vi o.1)) o.2 := by
  unfold f_X8_first_90 at hf
  refine g_istore (M := mX8_first) (L2 := [(9, vi s0), (0, vr (some a0)), (1, vi a1), (2, vi a2), (3, vi a3), (4, vi a4), (5, vi a5), (6, vi a6), (7, vi a7), (8, vi a8)]) dX8_first_90 (Nat.le_of_ble_eq_true rfl) rfl ?_
  refine g_iload (M := mX8_first) dX8_first_92 0 rfl ?_
  refine g_if_eq (M := mX8_first) (tgt := 62) dX8_first_94 rfl (fun q94 => ?_) (fun q94 => ?_)
  · replace hf := ift hf q94
    exact g_sub (M := mX8_first) (L2 := [(0, vr (some a0)), (1, vi a1), (2, vi a2), (3, vi a3), (4, vi a4), (5, vi a5), (6, vi a6), (7, vi a7), (8, vi a8), (9, vi s0)]) [1, 2, 3, 4, 5, 6, 7, 8, 9, 0] rfl <| hK0 a0 a1 a2 a3 a4 a5 a6 a7 a8 s0 h _ hf
  · replace hf := iff_ hf q94
    refine g_aload_n (M := mX8_first) dX8_first_97 rfl 1 rfl ?_
    refine g_iload_n (M := mX8_first) dX8_first_98 rfl 2 rfl ?_
    refine g_iload_n (M := mX8_first) dX8_first_99 rfl 3 rfl ?_
    refine g_iload_n (M := mX8_first) dX8_first_100 rfl 4 rfl ?_
    refine g_iload (M := mX8_first) dX8_first_101 5 rfl ?_
    refine g_iload (M := mX8_first) dX8_first_103 8 rfl ?_
    refine g_aload_n (M := mX8_first) dX8_first_105 rfl 1 rfl ?_
    obtain ⟨v1, ev1, hf⟩ := bd hf
    refine g_getI (M := mX8_first) dX8_first_106 flRX8_98 (fun _ => rfl) ev1 ?_
    obtain ⟨b2, eb2, hf⟩ := bd hf
    obtain ⟨r3, er3, hf⟩ := bd hf
    refine g_callV (M := mX8_first) (kc := 0) (ks := 0) (as := [vi a1, vi a2, vi a3, vi a4, vi a7, vi v1]) (rest := []) dX8_first_109 cbX8_finds vwRX8_185 rfl eb2 rfl (Nat.le_of_ble_eq_true rfl) (Nat.le_of_ble_eq_true rfl) (c_X8_finds G b2 a1 a2 a3 a4 a7 v1 h r3 er3) ?_
    refine g_aload_n (M := mX8_first) dX8_first_112 rfl 1 rfl ?_
    obtain ⟨v4, ev4, hf⟩ := bd hf
    refine g_getI (M := mX8_first) dX8_first_113 flRX8_150 (fun _ => rfl) ev4 ?_
    refine g_iload (M := mX8_first) dX8_first_116 6 rfl ?_
    refine g_ic_ne (M := mX8_first) (tgt := 134) dX8_first_118 rfl (fun q118 => ?_) (fun q118 => ?_)
    · replace hf := iff_ hf q118
      exact g_sub (M := mX8_first) (L2 := [(0, vr (some a0)), (1, vi a1), (2, vi a2), (3, vi a3), (4, vi a4), (5, vi a5), (6, vi a6), (7, vi a7), (8, vi a8)]) [1, 2, 3, 4, 5, 6, 7, 8, 9] rfl <| x_X8_first_134 G K0 hK0 a0 a1 a2 a3 a4 a5 a6 a7 a8 r3 _ hf
    · replace hf := ift hf q118
      refine g_aload_n (M := mX8_first) dX8_first_121 rfl 1 rfl ?_
      obtain ⟨v5, ev5, hf⟩ := bd hf
      refine g_getI (M := mX8_first) dX8_first_122 flRX8_153 (fun _ => rfl) ev5 ?_
      refine g_iload (M := mX8_first) dX8_first_125 7 rfl ?_
      refine g_ic_ne (M := mX8_first) (tgt := 134) dX8_first_127 rfl (fun q127 => ?_) (fun q127 => ?_)
      · replace hf := iff_ hf q127
        exact g_sub (M := mX8_first) (L2 := [(0, vr (some a0)), (1, vi a1), (2, vi a2), (3, vi a3), (4, vi a4), (5, vi a5), (6, vi a6), (7, vi a7), (8, vi a8)]) [1, 2, 3, 4, 5, 6, 7, 8, 9] rfl <| x_X8_first_134 G K0 hK0 a0 a1 a2 a3 a4 a5 a6 a7 a8 r3 _ hf
      · replace hf := ift hf q127
        refine g_iconst (M := mX8_first) (v := 1) dX8_first_130 rfl ?_
        refine g_goto (M := mX8_first) (tgt := 135) dX8_first_131 rfl ?_
        exact g_sub (M := mX8_first) (L2 := [(0, vr (some a0)), (1, vi a1), (2, vi a2), (3, vi a3), (4, vi a4), (5, vi a5), (6, vi a6), (7, vi a7), (8, vi a8)]) [1, 2, 3, 4, 5, 6, 7, 8, 9] rfl <| x_X8_first_135 G K0 hK0 a0 a1 a2 a3 a4 a5 a6 a7 a8 (1 : Int32) r3 _ hf
def f_X8_first_62 : Nat → Nat → Int32 → Int32 → Int32 → Int32 → Int32 → Int32 → Int32 → Int32 → Int32 → AH → Option (Int32 × AH)
  | 0, _, _, _, _, _, _, _, _, _, _, _ => none
  | n + 1, a0, a1, a2, a3, a4, a5, a6, a7, a8, a9, h =>
    if a9 = 0 then (
      some (a8, h)
    ) else (
      (ck 8 h (some a0)).bind fun b6 =>
      (f_X8_effectBelow b6 a7 h).bind fun r7 =>
      if r7 = (-1 : Int32) then (
        f_X8_first_90 (f_X8_first_62 n) a0 a1 a2 a3 a4 a5 a6 r7 a7 (0 : Int32) h
      ) else (
        f_X8_first_90 (f_X8_first_62 n) a0 a1 a2 a3 a4 a5 a6 r7 a7 (1 : Int32) h
      )
    )
theorem x_X8_first_62 (G : Gm) : ∀ (n : Nat) (a0 : Nat) (a1 : Int32) (a2 : Int32) (a3 : Int32) (a4 : Int32) (a5 : Int32) (a6 : Int32) (a7 : Int32) (a8 : Int32) (a9 : Int32) (h : AH) (o : (Int32 × AH)), f_X8_first_62 n a0 a1 a2 a3 a4 a5 a6 a7 a8 a9 h = some o → GO G mX8_first 0 0 62 [(0, vr (some a0)), (1, vi a1), (2, vi a2), (3, vi a3), (4, vi a4), (5, vi a5), (6, vi a6), (7, vi a7), (8, vi a8), (9, vi a9)] [] h (some (vi o.1)) o.2 := by
  intro n
  induction n with
  | zero => intro a0 a1 a2 a3 a4 a5 a6 a7 a8 a9 h o hf; cases hf
  | succ n ih =>
    intro a0 a1 a2 a3 a4 a5 a6 a7 a8 a9 h o hf
    rw [f_X8_first_62] at hf
    refine g_iload (M := mX8_first) dX8_first_62 9 rfl ?_
    refine g_if_eq (M := mX8_first) (tgt := 140) dX8_first_64 rfl (fun q64 => ?_) (fun q64 => ?_)
    · replace hf := ift hf q64
      refine g_iload (M := mX8_first) dX8_first_140 8 rfl ?_
      cases hf
      exact g_ret (M := mX8_first) dX8_first_142 rfl
    · replace hf := iff_ hf q64
      refine g_iload (M := mX8_first) dX8_first_67 7 rfl ?_
      refine g_istore (M := mX8_first) (L2 := [(8, vi a7), (0, vr (some a0)), (1, vi a1), (2, vi a2), (3, vi a3), (4, vi a4), (5, vi a5), (6, vi a6), (7, vi a7), (9, vi a9)]) dX8_first_69 (Nat.le_of_ble_eq_true rfl) rfl ?_
      refine g_aload_n (M := mX8_first) dX8_first_71 rfl 1 rfl ?_
      refine g_iload (M := mX8_first) dX8_first_72 8 rfl ?_
      obtain ⟨b6, eb6, hf⟩ := bd hf
      obtain ⟨r7, er7, hf⟩ := bd hf
      refine g_callV (M := mX8_first) (kc := 0) (ks := 0) (as := [vi a7]) (rest := []) dX8_first_74 cbX8_effectBelow vwRX8_188 rfl eb6 rfl (Nat.le_of_ble_eq_true rfl) (Nat.le_of_ble_eq_true rfl) (c_X8_effectBelow G b6 a7 h r7 er7) ?_
      refine g_istore (M := mX8_first) (L2 := [(7, vi r7), (8, vi a7), (0, vr (some a0)), (1, vi a1), (2, vi a2), (3, vi a3), (4, vi a4), (5, vi a5), (6, vi a6), (9, vi a9)]) dX8_first_77 (Nat.le_of_ble_eq_true rfl) rfl ?_
      refine g_iload (M := mX8_first) dX8_first_79 0 rfl ?_
      refine g_iconst (M := mX8_first) (v := -1) dX8_first_81 rfl ?_
      refine g_ic_eq (M := mX8_first) (tgt := 89) dX8_first_82 rfl (fun q82 => ?_) (fun q82 => ?_)
      · replace hf := ift hf q82
        refine g_iconst (M := mX8_first) (v := 0) dX8_first_89 rfl ?_
        exact g_sub (M := mX8_first) (L2 := [(0, vr (some a0)), (1, vi a1), (2, vi a2), (3, vi a3), (4, vi a4), (5, vi a5), (6, vi a6), (7, vi r7), (8, vi a7)]) [2, 3, 4, 5, 6, 7, 8, 0, 1] rfl <| x_X8_first_90 G (f_X8_first_62 n) ih a0 a1 a2 a3 a4 a5 a6 r7 a7 (0 : Int32) h _ hf
      · replace hf := iff_ hf q82
        refine g_iconst (M := mX8_first) (v := 1) dX8_first_85 rfl ?_
        refine g_goto (M := mX8_first) (tgt := 90) dX8_first_86 rfl ?_
        exact g_sub (M := mX8_first) (L2 := [(0, vr (some a0)), (1, vi a1), (2, vi a2), (3, vi a3), (4, vi a4), (5, vi a5), (6, vi a6), (7, vi r7), (8, vi a7)]) [2, 3, 4, 5, 6, 7, 8, 0, 1] rfl <| x_X8_first_90 G (f_X8_first_62 n) ih a0 a1 a2 a3 a4 a5 a6 r7 a7 (1 : Int32) h _ hf
def f_X8_first (a0 : Nat) (a1 : Int32) (a2 : Int32) (a3 : Int32) (a4 : Int32) (h : AH) : Option (Int32 × AH) :=
  (ck 8 h (some a0)).bind fun b8 =>
  (f_X8_isAsked b8 a1 a2 a3 a4 h).bind fun r9 =>
  if (b2i r9) = 0 then (
    some ((-1 : Int32), h)
  ) else (
    (gI 8 0 h (some a0)).bind fun v10 =>
    (gI 8 0 h (some a0)).bind fun v11 =>
    (ck 8 h (some a0)).bind fun b12 =>
    (f_X8_finds b12 a1 a2 a3 a4 v10 v11 h).bind fun r13 =>
    (gI 8 20 r13 (some a0)).bind fun v14 =>
    (gI 8 21 r13 (some a0)).bind fun v15 =>
    (gI 8 0 r13 (some a0)).bind fun v16 =>
    (ck 8 r13 (some a0)).bind fun b17 =>
    (f_X8_effectBelow b17 (v16 + (1 : Int32)) r13).bind fun r18 =>
    f_X8_first_62 FU a0 a1 a2 a3 a4 v14 v15 r18 r18 (1 : Int32) r13
  )
theorem x_X8_first (G : Gm) (a0 : Nat) (a1 : Int32) (a2 : Int32) (a3 : Int32) (a4 : Int32) (h : AH) (o : (Int32 × AH)) (hf : f_X8_first a0 a1 a2 a3 a4 h = some o) : GO G mX8_first 0 0 0 [(0, vr (some a0)), (1, vi a1), (2, vi a2), (3, vi a3), (4, vi a4)] [] h (some (vi o.1)) o.2 := by
  unfold f_X8_first at hf
  refine g_aload_n (M := mX8_first) dX8_first_0 rfl 0 rfl ?_
  refine g_iload_n (M := mX8_first) dX8_first_1 rfl 1 rfl ?_
  refine g_iload_n (M := mX8_first) dX8_first_2 rfl 2 rfl ?_
  refine g_iload_n (M := mX8_first) dX8_first_3 rfl 3 rfl ?_
  refine g_iload (M := mX8_first) dX8_first_4 4 rfl ?_
  obtain ⟨b8, eb8, hf⟩ := bd hf
  obtain ⟨r9, er9, hf⟩ := bd hf
  refine g_callV (M := mX8_first) (kc := 0) (ks := 0) (as := [vi a1, vi a2, vi a3, vi a4]) (rest := []) dX8_first_6 cbX8_isAsked vwRX8_179 rfl eb8 rfl (Nat.le_of_ble_eq_true rfl) (Nat.le_of_ble_eq_true rfl) (c_X8_isAsked G b8 a1 a2 a3 a4 h r9 er9) ?_
  refine g_if_ne (M := mX8_first) (tgt := 14) dX8_first_9 rfl (fun q9 => ?_) (fun q9 => ?_)
  · replace hf := iff_ hf q9
    refine g_aload_n (M := mX8_first) dX8_first_14 rfl 0 rfl ?_
    refine g_iload_n (M := mX8_first) dX8_first_15 rfl 1 rfl ?_
    refine g_iload_n (M := mX8_first) dX8_first_16 rfl 2 rfl ?_
    refine g_iload_n (M := mX8_first) dX8_first_17 rfl 3 rfl ?_
    refine g_iload (M := mX8_first) dX8_first_18 4 rfl ?_
    refine g_aload_n (M := mX8_first) dX8_first_20 rfl 0 rfl ?_
    obtain ⟨v10, ev10, hf⟩ := bd hf
    refine g_getI (M := mX8_first) dX8_first_21 flRX8_98 (fun _ => rfl) ev10 ?_
    refine g_aload_n (M := mX8_first) dX8_first_24 rfl 0 rfl ?_
    obtain ⟨v11, ev11, hf⟩ := bd hf
    refine g_getI (M := mX8_first) dX8_first_25 flRX8_98 (fun _ => rfl) ev11 ?_
    obtain ⟨b12, eb12, hf⟩ := bd hf
    obtain ⟨r13, er13, hf⟩ := bd hf
    refine g_callV (M := mX8_first) (kc := 0) (ks := 0) (as := [vi a1, vi a2, vi a3, vi a4, vi v10, vi v11]) (rest := []) dX8_first_28 cbX8_finds vwRX8_185 rfl eb12 rfl (Nat.le_of_ble_eq_true rfl) (Nat.le_of_ble_eq_true rfl) (c_X8_finds G b12 a1 a2 a3 a4 v10 v11 h r13 er13) ?_
    refine g_aload_n (M := mX8_first) dX8_first_31 rfl 0 rfl ?_
    obtain ⟨v14, ev14, hf⟩ := bd hf
    refine g_getI (M := mX8_first) dX8_first_32 flRX8_150 (fun _ => rfl) ev14 ?_
    refine g_istore (M := mX8_first) (L2 := [(5, vi v14), (0, vr (some a0)), (1, vi a1), (2, vi a2), (3, vi a3), (4, vi a4)]) dX8_first_35 (Nat.le_of_ble_eq_true rfl) rfl ?_
    refine g_aload_n (M := mX8_first) dX8_first_37 rfl 1 rfl ?_
    obtain ⟨v15, ev15, hf⟩ := bd hf
    refine g_getI (M := mX8_first) dX8_first_38 flRX8_153 (fun _ => rfl) ev15 ?_
    refine g_istore (M := mX8_first) (L2 := [(6, vi v15), (5, vi v14), (0, vr (some a0)), (1, vi a1), (2, vi a2), (3, vi a3), (4, vi a4)]) dX8_first_41 (Nat.le_of_ble_eq_true rfl) rfl ?_
    refine g_aload_n (M := mX8_first) dX8_first_43 rfl 2 rfl ?_
    refine g_aload_n (M := mX8_first) dX8_first_44 rfl 2 rfl ?_
    obtain ⟨v16, ev16, hf⟩ := bd hf
    refine g_getI (M := mX8_first) dX8_first_45 flRX8_98 (fun _ => rfl) ev16 ?_
    refine g_iconst (M := mX8_first) (v := 1) dX8_first_48 rfl ?_
    refine g_iadd (M := mX8_first) dX8_first_49 ?_
    obtain ⟨b17, eb17, hf⟩ := bd hf
    obtain ⟨r18, er18, hf⟩ := bd hf
    refine g_callV (M := mX8_first) (kc := 0) (ks := 0) (as := [vi (v16 + (1 : Int32))]) (rest := []) dX8_first_50 cbX8_effectBelow vwRX8_188 rfl eb17 rfl (Nat.le_of_ble_eq_true rfl) (Nat.le_of_ble_eq_true rfl) (c_X8_effectBelow G b17 (v16 + (1 : Int32)) r13 r18 er18) ?_
    refine g_istore (M := mX8_first) (L2 := [(7, vi r18), (6, vi v15), (5, vi v14), (0, vr (some a0)), (1, vi a1), (2, vi a2), (3, vi a3), (4, vi a4)]) dX8_first_53 (Nat.le_of_ble_eq_true rfl) rfl ?_
    refine g_iload (M := mX8_first) dX8_first_55 0 rfl ?_
    refine g_istore (M := mX8_first) (L2 := [(8, vi r18), (7, vi r18), (6, vi v15), (5, vi v14), (0, vr (some a0)), (1, vi a1), (2, vi a2), (3, vi a3), (4, vi a4)]) dX8_first_57 (Nat.le_of_ble_eq_true rfl) rfl ?_
    refine g_iconst (M := mX8_first) (v := 1) dX8_first_59 rfl ?_
    refine g_istore (M := mX8_first) (L2 := [(9, vi (1 : Int32)), (8, vi r18), (7, vi r18), (6, vi v15), (5, vi v14), (0, vr (some a0)), (1, vi a1), (2, vi a2), (3, vi a3), (4, vi a4)]) dX8_first_60 (Nat.le_of_ble_eq_true rfl) rfl ?_
    exact g_sub (M := mX8_first) (L2 := [(0, vr (some a0)), (1, vi a1), (2, vi a2), (3, vi a3), (4, vi a4), (5, vi v14), (6, vi v15), (7, vi r18), (8, vi r18), (9, vi (1 : Int32))]) [5, 6, 7, 8, 9, 4, 3, 2, 1, 0] rfl <| x_X8_first_62 G FU a0 a1 a2 a3 a4 v14 v15 r18 r18 (1 : Int32) r13 _ hf
  · replace hf := ift hf q9
    refine g_iconst (M := mX8_first) (v := -1) dX8_first_12 rfl ?_
    cases hf
    exact g_ret (M := mX8_first) dX8_first_13 rfl
theorem c_X8_first (G : Gm) (a0 : Nat) (a1 : Int32) (a2 : Int32) (a3 : Int32) (a4 : Int32) (h : AH) (o : (Int32 × AH)) (hf : f_X8_first a0 a1 a2 a3 a4 h = some o) : CT G yX8_first mX8_first (some .int) 0 0 [vr (some a0), vi a1, vi a2, vi a3, vi a4] h (some (vi o.1)) o.2 :=
  CT.int (by decide +kernel) rfl rfl rfl (Nat.le_of_ble_eq_true rfl) (x_X8_first G a0 a1 a2 a3 a4 h o hf)
theorem cbX8_first : CB yX8_first mX8_first (some .int) 4 := ⟨cd_yX8_first, itRX8, ⟨by decide, by decide⟩, by decide +kernel, by decide⟩
abbrev mX8_member : MI := (RX8, "member", cX8_member, 5, .ireturn, 2)
def f_X8_member (a0 : Nat) (a1 : Int32) (a2 : Int32) (a3 : Int32) (a4 : Int32) (h : AH) : Option Int32 :=
  (ck 8 h (some a0)).bind fun b1 =>
  (f_X8_isParty b1 a1 h).bind fun r2 =>
  if (b2i r2) = 0 then (
    some (-1 : Int32)
  ) else (
    (ck 8 h (some a0)).bind fun b3 =>
    (f_X8_isAgreement b3 a2 h).bind fun r4 =>
    if (b2i r4) = 0 then (
      some (-1 : Int32)
    ) else (
      (f_X8_isDay a3 h).bind fun r5 =>
      if (b2i r5) = 0 then (
        some (-1 : Int32)
      ) else (
        (f_X8_isDay a4 h).bind fun r6 =>
        if (b2i r6) = 0 then (
          some (-1 : Int32)
        ) else (
          (ck 8 h (some a0)).bind fun b7 =>
          (f_X8_memberOf b7 a1 a2 a3 a4 h).bind fun r8 =>
          some r8
        )
      )
    )
  )
theorem x_X8_member (G : Gm) (a0 : Nat) (a1 : Int32) (a2 : Int32) (a3 : Int32) (a4 : Int32) (h : AH) (o : Int32) (hf : f_X8_member a0 a1 a2 a3 a4 h = some o) : GO G mX8_member 0 0 0 [(0, vr (some a0)), (1, vi a1), (2, vi a2), (3, vi a3), (4, vi a4)] [] h (some (vi o)) h := by
  unfold f_X8_member at hf
  refine g_aload_n (M := mX8_member) dX8_member_0 rfl 0 rfl ?_
  refine g_iload_n (M := mX8_member) dX8_member_1 rfl 1 rfl ?_
  obtain ⟨b1, eb1, hf⟩ := bd hf
  obtain ⟨r2, er2, hf⟩ := bd hf
  refine g_callV (M := mX8_member) (kc := 0) (ks := 0) (as := [vi a1]) (rest := []) dX8_member_2 cbX8_isParty vwRX8_115 rfl eb1 rfl (Nat.le_of_ble_eq_true rfl) (Nat.le_of_ble_eq_true rfl) (c_X8_isParty G b1 a1 h r2 er2) ?_
  refine g_if_eq (M := mX8_member) (tgt := 43) dX8_member_5 rfl (fun q5 => ?_) (fun q5 => ?_)
  · replace hf := ift hf q5
    refine g_iconst (M := mX8_member) (v := -1) dX8_member_43 rfl ?_
    cases hf
    exact g_ret (M := mX8_member) dX8_member_44 rfl
  · replace hf := iff_ hf q5
    refine g_aload_n (M := mX8_member) dX8_member_8 rfl 0 rfl ?_
    refine g_iload_n (M := mX8_member) dX8_member_9 rfl 2 rfl ?_
    obtain ⟨b3, eb3, hf⟩ := bd hf
    obtain ⟨r4, er4, hf⟩ := bd hf
    refine g_callV (M := mX8_member) (kc := 0) (ks := 0) (as := [vi a2]) (rest := []) dX8_member_10 cbX8_isAgreement vwRX8_85 rfl eb3 rfl (Nat.le_of_ble_eq_true rfl) (Nat.le_of_ble_eq_true rfl) (c_X8_isAgreement G b3 a2 h r4 er4) ?_
    refine g_if_eq (M := mX8_member) (tgt := 43) dX8_member_13 rfl (fun q13 => ?_) (fun q13 => ?_)
    · replace hf := ift hf q13
      refine g_iconst (M := mX8_member) (v := -1) dX8_member_43 rfl ?_
      cases hf
      exact g_ret (M := mX8_member) dX8_member_44 rfl
    · replace hf := iff_ hf q13
      refine g_iload_n (M := mX8_member) dX8_member_16 rfl 3 rfl ?_
      obtain ⟨r5, er5, hf⟩ := bd hf
      refine g_callS (M := mX8_member) (kc := 0) (ks := 0) (as := [vi a3]) (rest := []) dX8_member_17 cbX8_isDay mlRX8_182 st_yX8_isDay rfl rfl (Nat.le_of_ble_eq_true rfl) (Nat.le_of_ble_eq_true rfl) (c_X8_isDay G a3 h r5 er5) ?_
      refine g_if_eq (M := mX8_member) (tgt := 43) dX8_member_20 rfl (fun q20 => ?_) (fun q20 => ?_)
      · replace hf := ift hf q20
        refine g_iconst (M := mX8_member) (v := -1) dX8_member_43 rfl ?_
        cases hf
        exact g_ret (M := mX8_member) dX8_member_44 rfl
      · replace hf := iff_ hf q20
        refine g_iload (M := mX8_member) dX8_member_23 4 rfl ?_
        obtain ⟨r6, er6, hf⟩ := bd hf
        refine g_callS (M := mX8_member) (kc := 0) (ks := 0) (as := [vi a4]) (rest := []) dX8_member_25 cbX8_isDay mlRX8_182 st_yX8_isDay rfl rfl (Nat.le_of_ble_eq_true rfl) (Nat.le_of_ble_eq_true rfl) (c_X8_isDay G a4 h r6 er6) ?_
        refine g_if_eq (M := mX8_member) (tgt := 43) dX8_member_28 rfl (fun q28 => ?_) (fun q28 => ?_)
        · replace hf := ift hf q28
          refine g_iconst (M := mX8_member) (v := -1) dX8_member_43 rfl ?_
          cases hf
          exact g_ret (M := mX8_member) dX8_member_44 rfl
        · replace hf := iff_ hf q28
          refine g_aload_n (M := mX8_member) dX8_member_31 rfl 0 rfl ?_
          refine g_iload_n (M := mX8_member) dX8_member_32 rfl 1 rfl ?_
          refine g_iload_n (M := mX8_member) dX8_member_33 rfl 2 rfl ?_
          refine g_iload_n (M := mX8_member) dX8_member_34 rfl 3 rfl ?_
          refine g_iload (M := mX8_member) dX8_member_35 4 rfl ?_
          obtain ⟨b7, eb7, hf⟩ := bd hf
          obtain ⟨r8, er8, hf⟩ := bd hf
          refine g_callV (M := mX8_member) (kc := 0) (ks := 0) (as := [vi a1, vi a2, vi a3, vi a4]) (rest := []) dX8_member_37 cbX8_memberOf vwRX8_108 rfl eb7 rfl (Nat.le_of_ble_eq_true rfl) (Nat.le_of_ble_eq_true rfl) (c_X8_memberOf G b7 a1 a2 a3 a4 h r8 er8) ?_
          refine g_goto (M := mX8_member) (tgt := 44) dX8_member_40 rfl ?_
          cases hf
          exact g_ret (M := mX8_member) dX8_member_44 rfl
theorem c_X8_member (G : Gm) (a0 : Nat) (a1 : Int32) (a2 : Int32) (a3 : Int32) (a4 : Int32) (h : AH) (o : Int32) (hf : f_X8_member a0 a1 a2 a3 a4 h = some o) : CT G yX8_member mX8_member (some .int) 0 0 [vr (some a0), vi a1, vi a2, vi a3, vi a4] h (some (vi o)) h :=
  CT.int (by decide +kernel) rfl rfl rfl (Nat.le_of_ble_eq_true rfl) (x_X8_member G a0 a1 a2 a3 a4 h o hf)
theorem cbX8_member : CB yX8_member mX8_member (some .int) 4 := ⟨cd_yX8_member, itRX8, ⟨by decide, by decide⟩, by decide +kernel, by decide⟩
abbrev mX8_members : MI := (RX8, "members", cX8_members, 4, .ireturn, 3)
def f_X8_members (a0 : Nat) (a1 : Int32) (a2 : Int32) (a3 : Int32) (h : AH) : Option Int32 :=
  (ck 8 h (some a0)).bind fun b1 =>
  (f_X8_isAgreement b1 a1 h).bind fun r2 =>
  if (b2i r2) = 0 then (
    some (-1 : Int32)
  ) else (
    (f_X8_isDay a2 h).bind fun r3 =>
    if (b2i r3) = 0 then (
      some (-1 : Int32)
    ) else (
      (f_X8_isDay a3 h).bind fun r4 =>
      if (b2i r4) = 0 then (
        some (-1 : Int32)
      ) else (
        (ck 8 h (some a0)).bind fun b5 =>
        (f_X8_manyMembers b5 a1 a2 a3 h).bind fun r6 =>
        some r6
      )
    )
  )
theorem x_X8_members (G : Gm) (a0 : Nat) (a1 : Int32) (a2 : Int32) (a3 : Int32) (h : AH) (o : Int32) (hf : f_X8_members a0 a1 a2 a3 h = some o) : GO G mX8_members 0 0 0 [(0, vr (some a0)), (1, vi a1), (2, vi a2), (3, vi a3)] [] h (some (vi o)) h := by
  unfold f_X8_members at hf
  refine g_aload_n (M := mX8_members) dX8_members_0 rfl 0 rfl ?_
  refine g_iload_n (M := mX8_members) dX8_members_1 rfl 1 rfl ?_
  obtain ⟨b1, eb1, hf⟩ := bd hf
  obtain ⟨r2, er2, hf⟩ := bd hf
  refine g_callV (M := mX8_members) (kc := 0) (ks := 0) (as := [vi a1]) (rest := []) dX8_members_2 cbX8_isAgreement vwRX8_85 rfl eb1 rfl (Nat.le_of_ble_eq_true rfl) (Nat.le_of_ble_eq_true rfl) (c_X8_isAgreement G b1 a1 h r2 er2) ?_
  refine g_if_eq (M := mX8_members) (tgt := 32) dX8_members_5 rfl (fun q5 => ?_) (fun q5 => ?_)
  · replace hf := ift hf q5
    refine g_iconst (M := mX8_members) (v := -1) dX8_members_32 rfl ?_
    cases hf
    exact g_ret (M := mX8_members) dX8_members_33 rfl
  · replace hf := iff_ hf q5
    refine g_iload_n (M := mX8_members) dX8_members_8 rfl 2 rfl ?_
    obtain ⟨r3, er3, hf⟩ := bd hf
    refine g_callS (M := mX8_members) (kc := 0) (ks := 0) (as := [vi a2]) (rest := []) dX8_members_9 cbX8_isDay mlRX8_182 st_yX8_isDay rfl rfl (Nat.le_of_ble_eq_true rfl) (Nat.le_of_ble_eq_true rfl) (c_X8_isDay G a2 h r3 er3) ?_
    refine g_if_eq (M := mX8_members) (tgt := 32) dX8_members_12 rfl (fun q12 => ?_) (fun q12 => ?_)
    · replace hf := ift hf q12
      refine g_iconst (M := mX8_members) (v := -1) dX8_members_32 rfl ?_
      cases hf
      exact g_ret (M := mX8_members) dX8_members_33 rfl
    · replace hf := iff_ hf q12
      refine g_iload_n (M := mX8_members) dX8_members_15 rfl 3 rfl ?_
      obtain ⟨r4, er4, hf⟩ := bd hf
      refine g_callS (M := mX8_members) (kc := 0) (ks := 0) (as := [vi a3]) (rest := []) dX8_members_16 cbX8_isDay mlRX8_182 st_yX8_isDay rfl rfl (Nat.le_of_ble_eq_true rfl) (Nat.le_of_ble_eq_true rfl) (c_X8_isDay G a3 h r4 er4) ?_
      refine g_if_eq (M := mX8_members) (tgt := 32) dX8_members_19 rfl (fun q19 => ?_) (fun q19 => ?_)
      · replace hf := ift hf q19
        refine g_iconst (M := mX8_members) (v := -1) dX8_members_32 rfl ?_
        cases hf
        exact g_ret (M := mX8_members) dX8_members_33 rfl
      · replace hf := iff_ hf q19
        refine g_aload_n (M := mX8_members) dX8_members_22 rfl 0 rfl ?_
        refine g_iload_n (M := mX8_members) dX8_members_23 rfl 1 rfl ?_
        refine g_iload_n (M := mX8_members) dX8_members_24 rfl 2 rfl ?_
        refine g_iload_n (M := mX8_members) dX8_members_25 rfl 3 rfl ?_
        obtain ⟨b5, eb5, hf⟩ := bd hf
        obtain ⟨r6, er6, hf⟩ := bd hf
        refine g_callV (M := mX8_members) (kc := 0) (ks := 0) (as := [vi a1, vi a2, vi a3]) (rest := []) dX8_members_26 cbX8_manyMembers vwRX8_156 rfl eb5 rfl (Nat.le_of_ble_eq_true rfl) (Nat.le_of_ble_eq_true rfl) (c_X8_manyMembers G b5 a1 a2 a3 h r6 er6) ?_
        refine g_goto (M := mX8_members) (tgt := 33) dX8_members_29 rfl ?_
        cases hf
        exact g_ret (M := mX8_members) dX8_members_33 rfl
theorem c_X8_members (G : Gm) (a0 : Nat) (a1 : Int32) (a2 : Int32) (a3 : Int32) (h : AH) (o : Int32) (hf : f_X8_members a0 a1 a2 a3 h = some o) : CT G yX8_members mX8_members (some .int) 0 0 [vr (some a0), vi a1, vi a2, vi a3] h (some (vi o)) h :=
  CT.int (by decide +kernel) rfl rfl rfl (Nat.le_of_ble_eq_true rfl) (x_X8_members G a0 a1 a2 a3 h o hf)
theorem cbX8_members : CB yX8_members mX8_members (some .int) 3 := ⟨cd_yX8_members, itRX8, ⟨by decide, by decide⟩, by decide +kernel, by decide⟩
abbrev mX8_since : MI := (RX8, "since", cX8_since, 5, .ireturn, 3)
def f_X8_since_90 (K0 : Nat → Int32 → Int32 → Int32 → Int32 → AH → Option Int32) (a0 : Nat) (a1 : Int32) (a2 : Int32) (a3 : Int32) (s0 : Int32) (h : AH) : Option Int32 :=
  K0 a0 a1 a2 a3 s0 h
theorem x_X8_since_90 (G : Gm) (K0 : Nat → Int32 → Int32 → Int32 → Int32 → AH → Option Int32) (hK0 : ∀ (a0 : Nat) (a1 : Int32) (a2 : Int32) (a3 : Int32) (a4 : Int32) (h : AH) (o : Int32), K0 a0 a1 a2 a3 a4 h = some o → GO G mX8_since 0 0 48 [(0, vr (some a0)), (1, vi a1), (2, vi a2), (3, vi a3), (4, vi a4)] [] h (some (vi o)) h) (a0 : Nat) (a1 : Int32) (a2 : Int32) (a3 : Int32) (s0 : Int32) (h : AH) (o : Int32) (hf : f_X8_since_90 K0 a0 a1 a2 a3 s0 h = some o) : GO G mX8_since 0 0 90 [(0, vr (some a0)), (1, vi a1), (2, vi a2), (3, vi a3)] [vi s0] h (some (vi o)) h := by
  unfold f_X8_since_90 at hf
  refine g_istore (M := mX8_since) (L2 := [(4, vi s0), (0, vr (some a0)), (1, vi a1), (2, vi a2), (3, vi a3)]) dX8_since_90 (Nat.le_of_ble_eq_true rfl) rfl ?_
  refine g_goto (M := mX8_since) (tgt := 48) dX8_since_92 rfl ?_
  exact g_sub (M := mX8_since) (L2 := [(0, vr (some a0)), (1, vi a1), (2, vi a2), (3, vi a3), (4, vi s0)]) [1, 2, 3, 4, 0] rfl <| hK0 a0 a1 a2 a3 s0 h _ hf
def f_X8_since_89 (K0 : Nat → Int32 → Int32 → Int32 → Int32 → AH → Option Int32) (a0 : Nat) (a1 : Int32) (a2 : Int32) (a3 : Int32) (h : AH) : Option Int32 :=
  f_X8_since_90 K0 a0 a1 a2 a3 (0 : Int32) h
theorem x_X8_since_89 (G : Gm) (K0 : Nat → Int32 → Int32 → Int32 → Int32 → AH → Option Int32) (hK0 : ∀ (a0 : Nat) (a1 : Int32) (a2 : Int32) (a3 : Int32) (a4 : Int32) (h : AH) (o : Int32), K0 a0 a1 a2 a3 a4 h = some o → GO G mX8_since 0 0 48 [(0, vr (some a0)), (1, vi a1), (2, vi a2), (3, vi a3), (4, vi a4)] [] h (some (vi o)) h) (a0 : Nat) (a1 : Int32) (a2 : Int32) (a3 : Int32) (h : AH) (o : Int32) (hf : f_X8_since_89 K0 a0 a1 a2 a3 h = some o) : GO G mX8_since 0 0 89 [(0, vr (some a0)), (1, vi a1), (2, vi a2), (3, vi a3)] [] h (some (vi o)) h := by
  unfold f_X8_since_89 at hf
  refine g_iconst (M := mX8_since) (v := 0) dX8_since_89 rfl ?_
  exact x_X8_since_90 G K0 hK0 a0 a1 a2 a3 (0 : Int32) h _ hf
def f_X8_since_48 : Nat → Nat → Int32 → Int32 → Int32 → Int32 → AH → Option Int32
  | 0, _, _, _, _, _, _ => none
  | n + 1, a0, a1, a2, a3, a4, h =>
    if a4 = 0 then (
      some a3
    ) else (
      (ck 8 h (some a0)).bind fun b1 =>
      (f_X8_effectBelow b1 a2 h).bind fun r2 =>
      if r2 = (-1 : Int32) then (
        f_X8_since_89 (f_X8_since_48 n) a0 a1 r2 a2 h
      ) else (
        (gI 8 0 h (some a0)).bind fun v3 =>
        (ck 8 h (some a0)).bind fun b4 =>
        (f_X8_manyMembers b4 a1 r2 v3 h).bind fun r5 =>
        (gR 8 4 h (some a0)).bind fun v6 =>
        (lI 10 h v6 a1).bind fun v7 =>
        if r5 < v7 then (
          f_X8_since_89 (f_X8_since_48 n) a0 a1 r2 a2 h
        ) else (
          f_X8_since_90 (f_X8_since_48 n) a0 a1 r2 a2 (1 : Int32) h
        )
      )
    )
theorem x_X8_since_48 (G : Gm) : ∀ (n : Nat) (a0 : Nat) (a1 : Int32) (a2 : Int32) (a3 : Int32) (a4 : Int32) (h : AH) (o : Int32), f_X8_since_48 n a0 a1 a2 a3 a4 h = some o → GO G mX8_since 0 0 48 [(0, vr (some a0)), (1, vi a1), (2, vi a2), (3, vi a3), (4, vi a4)] [] h (some (vi o)) h := by
  intro n
  induction n with
  | zero => intro a0 a1 a2 a3 a4 h o hf; cases hf
  | succ n ih =>
    intro a0 a1 a2 a3 a4 h o hf
    rw [f_X8_since_48] at hf
    refine g_iload (M := mX8_since) dX8_since_48 4 rfl ?_
    refine g_if_eq (M := mX8_since) (tgt := 95) dX8_since_50 rfl (fun q50 => ?_) (fun q50 => ?_)
    · replace hf := ift hf q50
      refine g_iload_n (M := mX8_since) dX8_since_95 rfl 3 rfl ?_
      cases hf
      exact g_ret (M := mX8_since) dX8_since_96 rfl
    · replace hf := iff_ hf q50
      refine g_iload_n (M := mX8_since) dX8_since_53 rfl 2 rfl ?_
      refine g_istore_n (M := mX8_since) (L2 := [(3, vi a2), (0, vr (some a0)), (1, vi a1), (2, vi a2), (4, vi a4)]) dX8_since_54 rfl (Nat.le_of_ble_eq_true rfl) rfl ?_
      refine g_aload_n (M := mX8_since) dX8_since_55 rfl 1 rfl ?_
      refine g_iload_n (M := mX8_since) dX8_since_56 rfl 3 rfl ?_
      obtain ⟨b1, eb1, hf⟩ := bd hf
      obtain ⟨r2, er2, hf⟩ := bd hf
      refine g_callV (M := mX8_since) (kc := 0) (ks := 0) (as := [vi a2]) (rest := []) dX8_since_57 cbX8_effectBelow vwRX8_188 rfl eb1 rfl (Nat.le_of_ble_eq_true rfl) (Nat.le_of_ble_eq_true rfl) (c_X8_effectBelow G b1 a2 h r2 er2) ?_
      refine g_istore_n (M := mX8_since) (L2 := [(2, vi r2), (3, vi a2), (0, vr (some a0)), (1, vi a1), (4, vi a4)]) dX8_since_60 rfl (Nat.le_of_ble_eq_true rfl) rfl ?_
      refine g_iload_n (M := mX8_since) dX8_since_61 rfl 0 rfl ?_
      refine g_iconst (M := mX8_since) (v := -1) dX8_since_62 rfl ?_
      refine g_ic_eq (M := mX8_since) (tgt := 89) dX8_since_63 rfl (fun q63 => ?_) (fun q63 => ?_)
      · replace hf := ift hf q63
        exact g_sub (M := mX8_since) (L2 := [(0, vr (some a0)), (1, vi a1), (2, vi r2), (3, vi a2)]) [2, 3, 0, 1] rfl <| x_X8_since_89 G (f_X8_since_48 n) ih a0 a1 r2 a2 h _ hf
      · replace hf := iff_ hf q63
        refine g_aload_n (M := mX8_since) dX8_since_66 rfl 2 rfl ?_
        refine g_iload_n (M := mX8_since) dX8_since_67 rfl 3 rfl ?_
        refine g_iload_n (M := mX8_since) dX8_since_68 rfl 0 rfl ?_
        refine g_aload_n (M := mX8_since) dX8_since_69 rfl 2 rfl ?_
        obtain ⟨v3, ev3, hf⟩ := bd hf
        refine g_getI (M := mX8_since) dX8_since_70 flRX8_98 (fun _ => rfl) ev3 ?_
        obtain ⟨b4, eb4, hf⟩ := bd hf
        obtain ⟨r5, er5, hf⟩ := bd hf
        refine g_callV (M := mX8_since) (kc := 0) (ks := 0) (as := [vi a1, vi r2, vi v3]) (rest := []) dX8_since_73 cbX8_manyMembers vwRX8_156 rfl eb4 rfl (Nat.le_of_ble_eq_true rfl) (Nat.le_of_ble_eq_true rfl) (c_X8_manyMembers G b4 a1 r2 v3 h r5 er5) ?_
        refine g_aload_n (M := mX8_since) dX8_since_76 rfl 2 rfl ?_
        obtain ⟨v6, ev6, hf⟩ := bd hf
        refine g_getR (M := mX8_since) dX8_since_77 flRX8_13 (fun _ => rfl) ev6 ?_
        refine g_iload_n (M := mX8_since) dX8_since_80 rfl 3 rfl ?_
        obtain ⟨v7, ev7, hf⟩ := bd hf
        refine g_iald (M := mX8_since) dX8_since_81 ev7 ?_
        refine g_ic_lt (M := mX8_since) (tgt := 89) dX8_since_82 rfl (fun q82 => ?_) (fun q82 => ?_)
        · replace hf := ift hf q82
          exact g_sub (M := mX8_since) (L2 := [(0, vr (some a0)), (1, vi a1), (2, vi r2), (3, vi a2)]) [2, 3, 0, 1] rfl <| x_X8_since_89 G (f_X8_since_48 n) ih a0 a1 r2 a2 h _ hf
        · replace hf := iff_ hf q82
          refine g_iconst (M := mX8_since) (v := 1) dX8_since_85 rfl ?_
          refine g_goto (M := mX8_since) (tgt := 90) dX8_since_86 rfl ?_
          exact g_sub (M := mX8_since) (L2 := [(0, vr (some a0)), (1, vi a1), (2, vi r2), (3, vi a2)]) [2, 3, 0, 1] rfl <| x_X8_since_90 G (f_X8_since_48 n) ih a0 a1 r2 a2 (1 : Int32) h _ hf
def f_X8_since (a0 : Nat) (a1 : Int32) (h : AH) : Option Int32 :=
  (ck 8 h (some a0)).bind fun b8 =>
  (f_X8_isAgreement b8 a1 h).bind fun r9 =>
  if (b2i r9) = 0 then (
    some (-1 : Int32)
  ) else (
    (gI 8 0 h (some a0)).bind fun v10 =>
    (gI 8 0 h (some a0)).bind fun v11 =>
    (ck 8 h (some a0)).bind fun b12 =>
    (f_X8_manyMembers b12 a1 v10 v11 h).bind fun r13 =>
    (gR 8 4 h (some a0)).bind fun v14 =>
    (lI 10 h v14 a1).bind fun v15 =>
    if v15 ≤ r13 then (
      (gI 8 0 h (some a0)).bind fun v16 =>
      (ck 8 h (some a0)).bind fun b17 =>
      (f_X8_effectBelow b17 (v16 + (1 : Int32)) h).bind fun r18 =>
      f_X8_since_48 FU a0 a1 r18 r18 (1 : Int32) h
    ) else (
      some (-1 : Int32)
    )
  )
theorem x_X8_since (G : Gm) (a0 : Nat) (a1 : Int32) (h : AH) (o : Int32) (hf : f_X8_since a0 a1 h = some o) : GO G mX8_since 0 0 0 [(0, vr (some a0)), (1, vi a1)] [] h (some (vi o)) h := by
  unfold f_X8_since at hf
  refine g_aload_n (M := mX8_since) dX8_since_0 rfl 0 rfl ?_
  refine g_iload_n (M := mX8_since) dX8_since_1 rfl 1 rfl ?_
  obtain ⟨b8, eb8, hf⟩ := bd hf
  obtain ⟨r9, er9, hf⟩ := bd hf
  refine g_callV (M := mX8_since) (kc := 0) (ks := 0) (as := [vi a1]) (rest := []) dX8_since_2 cbX8_isAgreement vwRX8_85 rfl eb8 rfl (Nat.le_of_ble_eq_true rfl) (Nat.le_of_ble_eq_true rfl) (c_X8_isAgreement G b8 a1 h r9 er9) ?_
  refine g_if_eq (M := mX8_since) (tgt := 30) dX8_since_5 rfl (fun q5 => ?_) (fun q5 => ?_)
  · replace hf := ift hf q5
    refine g_iconst (M := mX8_since) (v := -1) dX8_since_30 rfl ?_
    cases hf
    exact g_ret (M := mX8_since) dX8_since_31 rfl
  · replace hf := iff_ hf q5
    refine g_aload_n (M := mX8_since) dX8_since_8 rfl 0 rfl ?_
    refine g_iload_n (M := mX8_since) dX8_since_9 rfl 1 rfl ?_
    refine g_aload_n (M := mX8_since) dX8_since_10 rfl 0 rfl ?_
    obtain ⟨v10, ev10, hf⟩ := bd hf
    refine g_getI (M := mX8_since) dX8_since_11 flRX8_98 (fun _ => rfl) ev10 ?_
    refine g_aload_n (M := mX8_since) dX8_since_14 rfl 0 rfl ?_
    obtain ⟨v11, ev11, hf⟩ := bd hf
    refine g_getI (M := mX8_since) dX8_since_15 flRX8_98 (fun _ => rfl) ev11 ?_
    obtain ⟨b12, eb12, hf⟩ := bd hf
    obtain ⟨r13, er13, hf⟩ := bd hf
    refine g_callV (M := mX8_since) (kc := 0) (ks := 0) (as := [vi a1, vi v10, vi v11]) (rest := []) dX8_since_18 cbX8_manyMembers vwRX8_156 rfl eb12 rfl (Nat.le_of_ble_eq_true rfl) (Nat.le_of_ble_eq_true rfl) (c_X8_manyMembers G b12 a1 v10 v11 h r13 er13) ?_
    refine g_aload_n (M := mX8_since) dX8_since_21 rfl 0 rfl ?_
    obtain ⟨v14, ev14, hf⟩ := bd hf
    refine g_getR (M := mX8_since) dX8_since_22 flRX8_13 (fun _ => rfl) ev14 ?_
    refine g_iload_n (M := mX8_since) dX8_since_25 rfl 1 rfl ?_
    obtain ⟨v15, ev15, hf⟩ := bd hf
    refine g_iald (M := mX8_since) dX8_since_26 ev15 ?_
    refine g_ic_ge (M := mX8_since) (tgt := 32) dX8_since_27 rfl (fun q27 => ?_) (fun q27 => ?_)
    · replace hf := ift hf q27
      refine g_aload_n (M := mX8_since) dX8_since_32 rfl 0 rfl ?_
      refine g_aload_n (M := mX8_since) dX8_since_33 rfl 0 rfl ?_
      obtain ⟨v16, ev16, hf⟩ := bd hf
      refine g_getI (M := mX8_since) dX8_since_34 flRX8_98 (fun _ => rfl) ev16 ?_
      refine g_iconst (M := mX8_since) (v := 1) dX8_since_37 rfl ?_
      refine g_iadd (M := mX8_since) dX8_since_38 ?_
      obtain ⟨b17, eb17, hf⟩ := bd hf
      obtain ⟨r18, er18, hf⟩ := bd hf
      refine g_callV (M := mX8_since) (kc := 0) (ks := 0) (as := [vi (v16 + (1 : Int32))]) (rest := []) dX8_since_39 cbX8_effectBelow vwRX8_188 rfl eb17 rfl (Nat.le_of_ble_eq_true rfl) (Nat.le_of_ble_eq_true rfl) (c_X8_effectBelow G b17 (v16 + (1 : Int32)) h r18 er18) ?_
      refine g_istore_n (M := mX8_since) (L2 := [(2, vi r18), (0, vr (some a0)), (1, vi a1)]) dX8_since_42 rfl (Nat.le_of_ble_eq_true rfl) rfl ?_
      refine g_iload_n (M := mX8_since) dX8_since_43 rfl 0 rfl ?_
      refine g_istore_n (M := mX8_since) (L2 := [(3, vi r18), (2, vi r18), (0, vr (some a0)), (1, vi a1)]) dX8_since_44 rfl (Nat.le_of_ble_eq_true rfl) rfl ?_
      refine g_iconst (M := mX8_since) (v := 1) dX8_since_45 rfl ?_
      refine g_istore (M := mX8_since) (L2 := [(4, vi (1 : Int32)), (3, vi r18), (2, vi r18), (0, vr (some a0)), (1, vi a1)]) dX8_since_46 (Nat.le_of_ble_eq_true rfl) rfl ?_
      exact g_sub (M := mX8_since) (L2 := [(0, vr (some a0)), (1, vi a1), (2, vi r18), (3, vi r18), (4, vi (1 : Int32))]) [3, 4, 2, 1, 0] rfl <| x_X8_since_48 G FU a0 a1 r18 r18 (1 : Int32) h _ hf
    · replace hf := iff_ hf q27
      refine g_iconst (M := mX8_since) (v := -1) dX8_since_30 rfl ?_
      cases hf
      exact g_ret (M := mX8_since) dX8_since_31 rfl
theorem c_X8_since (G : Gm) (a0 : Nat) (a1 : Int32) (h : AH) (o : Int32) (hf : f_X8_since a0 a1 h = some o) : CT G yX8_since mX8_since (some .int) 0 0 [vr (some a0), vi a1] h (some (vi o)) h :=
  CT.int (by decide +kernel) rfl rfl rfl (Nat.le_of_ble_eq_true rfl) (x_X8_since G a0 a1 h o hf)
theorem cbX8_since : CB yX8_since mX8_since (some .int) 1 := ⟨cd_yX8_since, itRX8, ⟨by decide, by decide⟩, by decide +kernel, by decide⟩
