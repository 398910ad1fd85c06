abbrev mX8_isParty : MI := (RX8, "isParty", cX8_isParty, 2, .ireturn, 0)
def f_X8_isParty (a0 : Nat) (a1 : Int32) (h : AH) : Option Bool :=
  if a1 < 0 then (
    some false
  ) else (
    (gI 8 1 h (some a0)).bind fun v1 =>
    if v1 ≤ a1 then (
      some false
    ) else (
      some true
    )
  )
theorem x_X8_isParty (G : Gm) (a0 : Nat) (a1 : Int32) (h : AH) (o : Bool) (hf : f_X8_isParty a0 a1 h = some o) : GO G mX8_isParty 0 0 0 [(0, vr (some a0)), (1, vi a1)] [] h (some (vi (b2i o))) h := by
  unfold f_X8_isParty at hf
  refine g_iload_n (M := mX8_isParty) dX8_isParty_0 rfl 1 rfl ?_
  refine g_if_lt (M := mX8_isParty) (tgt := 16) dX8_isParty_1 rfl (fun q1 => ?_) (fun q1 => ?_)
  · replace hf := ift hf q1
    refine g_iconst (M := mX8_isParty) (v := 0) dX8_isParty_16 rfl ?_
    cases hf
    exact g_ret (M := mX8_isParty) dX8_isParty_17 rfl
  · replace hf := iff_ hf q1
    refine g_iload_n (M := mX8_isParty) dX8_isParty_4 rfl 1 rfl ?_
    refine g_aload_n (M := mX8_isParty) dX8_isParty_5 rfl 0 rfl ?_
    obtain ⟨v1, ev1, hf⟩ := bd hf
    refine g_getI (M := mX8_isParty) dX8_isParty_6 flRX8_78 (fun _ => rfl) ev1 ?_
    refine g_ic_ge (M := mX8_isParty) (tgt := 16) dX8_isParty_9 rfl (fun q9 => ?_) (fun q9 => ?_)
    · replace hf := ift hf q9
      refine g_iconst (M := mX8_isParty) (v := 0) dX8_isParty_16 rfl ?_
      cases hf
      exact g_ret (M := mX8_isParty) dX8_isParty_17 rfl
    · replace hf := iff_ hf q9
      refine g_iconst (M := mX8_isParty) (v := 1) dX8_isParty_12 rfl ?_
      refine g_goto (M := mX8_isParty) (tgt := 17) dX8_isParty_13 rfl ?_
      cases hf
      exact g_ret (M := mX8_isParty) dX8_isParty_17 rfl
theorem c_X8_isParty (G : Gm) (a0 : Nat) (a1 : Int32) (h : AH) (o : Bool) (hf : f_X8_isParty a0 a1 h = some o) : CT G yX8_isParty mX8_isParty (some .boolean) 0 0 [vr (some a0), vi a1] h (some (vi (b2i o))) h :=
  CT.bool (by decide +kernel) rfl rfl rfl (Nat.le_of_ble_eq_true rfl) (b2i_01 _) (x_X8_isParty G a0 a1 h o hf)
theorem cbX8_isParty : CB yX8_isParty mX8_isParty (some .boolean) 1 := ⟨cd_yX8_isParty, itRX8, ⟨by decide, by decide⟩, by decide +kernel, by decide⟩
abbrev mX8_isAgreement : MI := (RX8, "isAgreement", cX8_isAgreement, 2, .ireturn, 0)
def f_X8_isAgreement (a0 : Nat) (a1 : Int32) (h : AH) : Option Bool :=
  if a1 < 0 then (
    some false
  ) else (
    (gI 8 2 h (some a0)).bind fun v1 =>
    if v1 ≤ a1 then (
      some false
    ) else (
      some true
    )
  )
theorem x_X8_isAgreement (G : Gm) (a0 : Nat) (a1 : Int32) (h : AH) (o : Bool) (hf : f_X8_isAgreement a0 a1 h = some o) : GO G mX8_isAgreement 0 0 0 [(0, vr (some a0)), (1, vi a1)] [] h (some (vi (b2i o))) h := by
  unfold f_X8_isAgreement at hf
  refine g_iload_n (M := mX8_isAgreement) dX8_isAgreement_0 rfl 1 rfl ?_
  refine g_if_lt (M := mX8_isAgreement) (tgt := 16) dX8_isAgreement_1 rfl (fun q1 => ?_) (fun q1 => ?_)
  · replace hf := ift hf q1
    refine g_iconst (M := mX8_isAgreement) (v := 0) dX8_isAgreement_16 rfl ?_
    cases hf
    exact g_ret (M := mX8_isAgreement) dX8_isAgreement_17 rfl
  · replace hf := iff_ hf q1
    refine g_iload_n (M := mX8_isAgreement) dX8_isAgreement_4 rfl 1 rfl ?_
    refine g_aload_n (M := mX8_isAgreement) dX8_isAgreement_5 rfl 0 rfl ?_
    obtain ⟨v1, ev1, hf⟩ := bd hf
    refine g_getI (M := mX8_isAgreement) dX8_isAgreement_6 flRX8_82 (fun _ => rfl) ev1 ?_
    refine g_ic_ge (M := mX8_isAgreement) (tgt := 16) dX8_isAgreement_9 rfl (fun q9 => ?_) (fun q9 => ?_)
    · replace hf := ift hf q9
      refine g_iconst (M := mX8_isAgreement) (v := 0) dX8_isAgreement_16 rfl ?_
      cases hf
      exact g_ret (M := mX8_isAgreement) dX8_isAgreement_17 rfl
    · replace hf := iff_ hf q9
      refine g_iconst (M := mX8_isAgreement) (v := 1) dX8_isAgreement_12 rfl ?_
      refine g_goto (M := mX8_isAgreement) (tgt := 17) dX8_isAgreement_13 rfl ?_
      cases hf
      exact g_ret (M := mX8_isAgreement) dX8_isAgreement_17 rfl
theorem c_X8_isAgreement (G : Gm) (a0 : Nat) (a1 : Int32) (h : AH) (o : Bool) (hf : f_X8_isAgreement a0 a1 h = some o) : CT G yX8_isAgreement mX8_isAgreement (some .boolean) 0 0 [vr (some a0), vi a1] h (some (vi (b2i o))) h :=
  CT.bool (by decide +kernel) rfl rfl rfl (Nat.le_of_ble_eq_true rfl) (b2i_01 _) (x_X8_isAgreement G a0 a1 h o hf)
theorem cbX8_isAgreement : CB yX8_isAgreement mX8_isAgreement (some .boolean) 1 := ⟨cd_yX8_isAgreement, itRX8, ⟨by decide, by decide⟩, by decide +kernel, by decide⟩
abbrev mX8_isArticle : MI := (RX8, "isArticle", cX8_isArticle, 3, .ireturn, 1)
def f_X8_isArticle (a0 : Nat) (a1 : Int32) (a2 : Int32) (h : AH) : Option Bool :=
  (ck 8 h (some a0)).bind fun b1 =>
  (f_X8_isAgreement b1 a1 h).bind fun r2 =>
  if (b2i r2) = 0 then (
    some false
  ) else (
    if a2 < 0 then (
      some false
    ) else (
      (gR 8 3 h (some a0)).bind fun v3 =>
      (lI 10 h v3 a1).bind fun v4 =>
      if v4 ≤ a2 then (
        some false
      ) else (
        some true
      )
    )
  )
theorem x_X8_isArticle (G : Gm) (a0 : Nat) (a1 : Int32) (a2 : Int32) (h : AH) (o : Bool) (hf : f_X8_isArticle a0 a1 a2 h = some o) : GO G mX8_isArticle 0 0 0 [(0, vr (some a0)), (1, vi a1), (2, vi a2)] [] h (some (vi (b2i o))) h := by
  unfold f_X8_isArticle at hf
  refine g_aload_n (M := mX8_isArticle) dX8_isArticle_0 rfl 0 rfl ?_
  refine g_iload_n (M := mX8_isArticle) dX8_isArticle_1 rfl 1 rfl ?_
  obtain ⟨b1, eb1, hf⟩ := bd hf
  obtain ⟨r2, er2, hf⟩ := bd hf
  refine g_callV (M := mX8_isArticle) (kc := 0) (ks := 0) (as := [vi a1]) (rest := []) dX8_isArticle_2 cbX8_isAgreement vwRX8_85 rfl eb1 rfl (Nat.le_of_ble_eq_true rfl) (Nat.le_of_ble_eq_true rfl) (c_X8_isAgreement G b1 a1 h r2 er2) ?_
  refine g_if_eq (M := mX8_isArticle) (tgt := 26) dX8_isArticle_5 rfl (fun q5 => ?_) (fun q5 => ?_)
  · replace hf := ift hf q5
    refine g_iconst (M := mX8_isArticle) (v := 0) dX8_isArticle_26 rfl ?_
    cases hf
    exact g_ret (M := mX8_isArticle) dX8_isArticle_27 rfl
  · replace hf := iff_ hf q5
    refine g_iload_n (M := mX8_isArticle) dX8_isArticle_8 rfl 2 rfl ?_
    refine g_if_lt (M := mX8_isArticle) (tgt := 26) dX8_isArticle_9 rfl (fun q9 => ?_) (fun q9 => ?_)
    · replace hf := ift hf q9
      refine g_iconst (M := mX8_isArticle) (v := 0) dX8_isArticle_26 rfl ?_
      cases hf
      exact g_ret (M := mX8_isArticle) dX8_isArticle_27 rfl
    · replace hf := iff_ hf q9
      refine g_iload_n (M := mX8_isArticle) dX8_isArticle_12 rfl 2 rfl ?_
      refine g_aload_n (M := mX8_isArticle) dX8_isArticle_13 rfl 0 rfl ?_
      obtain ⟨v3, ev3, hf⟩ := bd hf
      refine g_getR (M := mX8_isArticle) dX8_isArticle_14 flRX8_7 (fun _ => rfl) ev3 ?_
      refine g_iload_n (M := mX8_isArticle) dX8_isArticle_17 rfl 1 rfl ?_
      obtain ⟨v4, ev4, hf⟩ := bd hf
      refine g_iald (M := mX8_isArticle) dX8_isArticle_18 ev4 ?_
      refine g_ic_ge (M := mX8_isArticle) (tgt := 26) dX8_isArticle_19 rfl (fun q19 => ?_) (fun q19 => ?_)
      · replace hf := ift hf q19
        refine g_iconst (M := mX8_isArticle) (v := 0) dX8_isArticle_26 rfl ?_
        cases hf
        exact g_ret (M := mX8_isArticle) dX8_isArticle_27 rfl
      · replace hf := iff_ hf q19
        refine g_iconst (M := mX8_isArticle) (v := 1) dX8_isArticle_22 rfl ?_
        refine g_goto (M := mX8_isArticle) (tgt := 27) dX8_isArticle_23 rfl ?_
        cases hf
        exact g_ret (M := mX8_isArticle) dX8_isArticle_27 rfl
theorem c_X8_isArticle (G : Gm) (a0 : Nat) (a1 : Int32) (a2 : Int32) (h : AH) (o : Bool) (hf : f_X8_isArticle a0 a1 a2 h = some o) : CT G yX8_isArticle mX8_isArticle (some .boolean) 0 0 [vr (some a0), vi a1, vi a2] h (some (vi (b2i o))) h :=
  CT.bool (by decide +kernel) rfl rfl rfl (Nat.le_of_ble_eq_true rfl) (b2i_01 _) (x_X8_isArticle G a0 a1 a2 h o hf)
theorem cbX8_isArticle : CB yX8_isArticle mX8_isArticle (some .boolean) 2 := ⟨cd_yX8_isArticle, itRX8, ⟨by decide, by decide⟩, by decide +kernel, by decide⟩
abbrev mX8_isPaper : MI := (RX8, "isPaper", cX8_isPaper, 2, .ireturn, 0)
def f_X8_isPaper (a0 : Nat) (a1 : Int32) (h : AH) : Option Bool :=
  if a1 < 0 then (
    some false
  ) else (
    (gI 8 8 h (some a0)).bind fun v1 =>
    if v1 ≤ a1 then (
      some false
    ) else (
      some true
    )
  )
theorem x_X8_isPaper (G : Gm) (a0 : Nat) (a1 : Int32) (h : AH) (o : Bool) (hf : f_X8_isPaper a0 a1 h = some o) : GO G mX8_isPaper 0 0 0 [(0, vr (some a0)), (1, vi a1)] [] h (some (vi (b2i o))) h := by
  unfold f_X8_isPaper at hf
  refine g_iload_n (M := mX8_isPaper) dX8_isPaper_0 rfl 1 rfl ?_
  refine g_if_lt (M := mX8_isPaper) (tgt := 16) dX8_isPaper_1 rfl (fun q1 => ?_) (fun q1 => ?_)
  · replace hf := ift hf q1
    refine g_iconst (M := mX8_isPaper) (v := 0) dX8_isPaper_16 rfl ?_
    cases hf
    exact g_ret (M := mX8_isPaper) dX8_isPaper_17 rfl
  · replace hf := iff_ hf q1
    refine g_iload_n (M := mX8_isPaper) dX8_isPaper_4 rfl 1 rfl ?_
    refine g_aload_n (M := mX8_isPaper) dX8_isPaper_5 rfl 0 rfl ?_
    obtain ⟨v1, ev1, hf⟩ := bd hf
    refine g_getI (M := mX8_isPaper) dX8_isPaper_6 flRX8_89 (fun _ => rfl) ev1 ?_
    refine g_ic_ge (M := mX8_isPaper) (tgt := 16) dX8_isPaper_9 rfl (fun q9 => ?_) (fun q9 => ?_)
    · replace hf := ift hf q9
      refine g_iconst (M := mX8_isPaper) (v := 0) dX8_isPaper_16 rfl ?_
      cases hf
      exact g_ret (M := mX8_isPaper) dX8_isPaper_17 rfl
    · replace hf := iff_ hf q9
      refine g_iconst (M := mX8_isPaper) (v := 1) dX8_isPaper_12 rfl ?_
      refine g_goto (M := mX8_isPaper) (tgt := 17) dX8_isPaper_13 rfl ?_
      cases hf
      exact g_ret (M := mX8_isPaper) dX8_isPaper_17 rfl
theorem c_X8_isPaper (G : Gm) (a0 : Nat) (a1 : Int32) (h : AH) (o : Bool) (hf : f_X8_isPaper a0 a1 h = some o) : CT G yX8_isPaper mX8_isPaper (some .boolean) 0 0 [vr (some a0), vi a1] h (some (vi (b2i o))) h :=
  CT.bool (by decide +kernel) rfl rfl rfl (Nat.le_of_ble_eq_true rfl) (b2i_01 _) (x_X8_isPaper G a0 a1 h o hf)
theorem cbX8_isPaper : CB yX8_isPaper mX8_isPaper (some .boolean) 1 := ⟨cd_yX8_isPaper, itRX8, ⟨by decide, by decide⟩, by decide +kernel, by decide⟩
abbrev mX8_isDay : MI := (RX8, "isDay", cX8_isDay, 1, .ireturn, 0)
def f_X8_isDay (a0 : Int32) (h : AH) : Option Bool :=
  if a0 < 0 then (
    some false
  ) else (
    if (73000 : Int32) < a0 then (
      some false
    ) else (
      some true
    )
  )
theorem x_X8_isDay (G : Gm) (a0 : Int32) (h : AH) (o : Bool) (hf : f_X8_isDay a0 h = some o) : GO G mX8_isDay 0 0 0 [(0, vi a0)] [] h (some (vi (b2i o))) h := by
  unfold f_X8_isDay at hf
  refine g_iload_n (M := mX8_isDay) dX8_isDay_0 rfl 0 rfl ?_
  refine g_if_lt (M := mX8_isDay) (tgt := 14) dX8_isDay_1 rfl (fun q1 => ?_) (fun q1 => ?_)
  · replace hf := ift hf q1
    refine g_iconst (M := mX8_isDay) (v := 0) dX8_isDay_14 rfl ?_
    cases hf
    exact g_ret (M := mX8_isDay) dX8_isDay_15 rfl
  · replace hf := iff_ hf q1
    refine g_iload_n (M := mX8_isDay) dX8_isDay_4 rfl 0 rfl ?_
    refine g_ldc (M := mX8_isDay) dX8_isDay_5 csRX8_92 ?_
    refine g_ic_gt (M := mX8_isDay) (tgt := 14) dX8_isDay_7 rfl (fun q7 => ?_) (fun q7 => ?_)
    · replace hf := ift hf q7
      refine g_iconst (M := mX8_isDay) (v := 0) dX8_isDay_14 rfl ?_
      cases hf
      exact g_ret (M := mX8_isDay) dX8_isDay_15 rfl
    · replace hf := iff_ hf q7
      refine g_iconst (M := mX8_isDay) (v := 1) dX8_isDay_10 rfl ?_
      refine g_goto (M := mX8_isDay) (tgt := 15) dX8_isDay_11 rfl ?_
      cases hf
      exact g_ret (M := mX8_isDay) dX8_isDay_15 rfl
theorem c_X8_isDay (G : Gm) (a0 : Int32) (h : AH) (o : Bool) (hf : f_X8_isDay a0 h = some o) : CT G yX8_isDay mX8_isDay (some .boolean) 0 0 [vi a0] h (some (vi (b2i o))) h :=
  CT.bool (by decide +kernel) rfl rfl rfl (Nat.le_of_ble_eq_true rfl) (b2i_01 _) (x_X8_isDay G a0 h o hf)
theorem cbX8_isDay : CB yX8_isDay mX8_isDay (some .boolean) 1 := ⟨cd_yX8_isDay, itRX8, ⟨by decide, by decide⟩, by decide +kernel, by decide⟩
abbrev mX8_party : MI := (RX8, "party", cX8_party, 1, .ireturn, 0)
def f_X8_party (a0 : Nat) (h : AH) : Option (Int32 × AH) :=
  (gI 8 1 h (some a0)).bind fun v1 =>
  if v1 = (30 : Int32) then (
    some ((-1 : Int32), h)
  ) else (
    (gI 8 1 h (some a0)).bind fun v2 =>
    (pI 8 1 h (some a0) (v2 + (1 : Int32))).bind fun h3 =>
    (gI 8 1 h3 (some a0)).bind fun v4 =>
    some (v4 - (1 : Int32), h3)
  )
theorem x_X8_party (G : Gm) (a0 : Nat) (h : AH) (o : (Int32 × AH)) (hf : f_X8_party a0 h = some o) : GO G mX8_party 0 0 0 [(0, vr (some a0))] [] h (some (vi o.1)) o.2 := by
  unfold f_X8_party at hf
  refine g_aload_n (M := mX8_party) dX8_party_0 rfl 0 rfl ?_
  obtain ⟨v1, ev1, hf⟩ := bd hf
  refine g_getI (M := mX8_party) dX8_party_1 flRX8_78 (fun _ => rfl) ev1 ?_
  refine g_bipush (M := mX8_party) (v := 30) dX8_party_4 rfl ?_
  refine g_ic_ne (M := mX8_party) (tgt := 11) dX8_party_6 rfl (fun q6 => ?_) (fun q6 => ?_)
  · replace hf := iff_ hf q6
    refine g_aload_n (M := mX8_party) dX8_party_11 rfl 0 rfl ?_
    refine g_dup (M := mX8_party) dX8_party_12 rfl ?_
    obtain ⟨v2, ev2, hf⟩ := bd hf
    refine g_getI (M := mX8_party) dX8_party_13 flRX8_78 (fun _ => rfl) ev2 ?_
    refine g_iconst (M := mX8_party) (v := 1) dX8_party_16 rfl ?_
    refine g_iadd (M := mX8_party) dX8_party_17 ?_
    obtain ⟨h3, eh3, hf⟩ := bd hf
    refine g_putI (M := mX8_party) dX8_party_18 flRX8_78 rfl eh3 ?_
    refine g_aload_n (M := mX8_party) dX8_party_21 rfl 0 rfl ?_
    obtain ⟨v4, ev4, hf⟩ := bd hf
    refine g_getI (M := mX8_party) dX8_party_22 flRX8_78 (fun _ => rfl) ev4 ?_
    refine g_iconst (M := mX8_party) (v := 1) dX8_party_25 rfl ?_
    refine g_isub (M := mX8_party) dX8_party_26 ?_
    cases hf
    exact g_ret (M := mX8_party) dX8_party_27 rfl
  · replace hf := ift hf q6
    refine g_iconst (M := mX8_party) (v := -1) dX8_party_9 rfl ?_
    cases hf
    exact g_ret (M := mX8_party) dX8_party_10 rfl
theorem c_X8_party (G : Gm) (a0 : Nat) (h : AH) (o : (Int32 × AH)) (hf : f_X8_party a0 h = some o) : CT G yX8_party mX8_party (some .int) 0 0 [vr (some a0)] h (some (vi o.1)) o.2 :=
  CT.int (by decide +kernel) rfl rfl rfl (Nat.le_of_ble_eq_true rfl) (x_X8_party G a0 h o hf)
theorem cbX8_party : CB yX8_party mX8_party (some .int) 0 := ⟨cd_yX8_party, itRX8, ⟨by decide, by decide⟩, by decide +kernel, by decide⟩
abbrev mX8_agreement : MI := (RX8, "agreement", cX8_agreement, 8, .ireturn, 0)
def f_X8_agreement_133 : Nat → Nat → Int32 → Int32 → Int32 → AH → Option (Int32 × AH)
  | 0, _, _, _, _, _ => none
  | n + 1, a0, a1, a6, a7, h =>
    if a1 ≤ a7 then (
      (gR 8 23 h (some a0)).bind fun v1 =>
      (stI 10 h v1 a6 (0 : Int32)).bind fun h2 =>
      some (a6, h2)
    ) else (
      (gR 8 7 h (some a0)).bind fun v3 =>
      (stI 10 h v3 (((20 : Int32) * a6) + a7) (a7 + (1 : Int32))).bind fun h4 =>
      f_X8_agreement_133 n a0 a1 a6 (a7 + (1)) h4
    )
theorem x_X8_agreement_133 (G : Gm) : ∀ (n : Nat) (a0 : Nat) (a1 : Int32) (a6 : Int32) (a7 : Int32) (h : AH) (o : (Int32 × AH)), f_X8_agreement_133 n a0 a1 a6 a7 h = some o → GO G mX8_agreement 0 0 133 [(0, vr (some a0)), (1, vi a1), (6, vi a6), (7, vi a7)] [] h (some (vi o.1)) o.2 := by
  intro n
  induction n with
  | zero => intro a0 a1 a6 a7 h o hf; cases hf
  | succ n ih =>
    intro a0 a1 a6 a7 h o hf
    rw [f_X8_agreement_133] at hf
    refine g_iload (M := mX8_agreement) dX8_agreement_133 3 rfl ?_
    refine g_iload_n (M := mX8_agreement) dX8_agreement_135 rfl 1 rfl ?_
    refine g_ic_ge (M := mX8_agreement) (tgt := 162) dX8_agreement_136 rfl (fun q136 => ?_) (fun q136 => ?_)
    · replace hf := ift hf q136
      refine g_aload_n (M := mX8_agreement) dX8_agreement_162 rfl 0 rfl ?_
      obtain ⟨v1, ev1, hf⟩ := bd hf
      refine g_getR (M := mX8_agreement) dX8_agreement_163 flRX8_63 (fun _ => rfl) ev1 ?_
      refine g_iload (M := mX8_agreement) dX8_agreement_166 2 rfl ?_
      refine g_iconst (M := mX8_agreement) (v := 0) dX8_agreement_168 rfl ?_
      obtain ⟨h2, eh2, hf⟩ := bd hf
      refine g_iast (M := mX8_agreement) dX8_agreement_169 eh2 ?_
      refine g_iload (M := mX8_agreement) dX8_agreement_170 2 rfl ?_
      cases hf
      exact g_ret (M := mX8_agreement) dX8_agreement_172 rfl
    · replace hf := iff_ hf q136
      refine g_aload_n (M := mX8_agreement) dX8_agreement_139 rfl 0 rfl ?_
      obtain ⟨v3, ev3, hf⟩ := bd hf
      refine g_getR (M := mX8_agreement) dX8_agreement_140 flRX8_22 (fun _ => rfl) ev3 ?_
      refine g_bipush (M := mX8_agreement) (v := 20) dX8_agreement_143 rfl ?_
      refine g_iload (M := mX8_agreement) dX8_agreement_145 2 rfl ?_
      refine g_imul (M := mX8_agreement) dX8_agreement_147 ?_
      refine g_iload (M := mX8_agreement) dX8_agreement_148 3 rfl ?_
      refine g_iadd (M := mX8_agreement) dX8_agreement_150 ?_
      refine g_iload (M := mX8_agreement) dX8_agreement_151 3 rfl ?_
      refine g_iconst (M := mX8_agreement) (v := 1) dX8_agreement_153 rfl ?_
      refine g_iadd (M := mX8_agreement) dX8_agreement_154 ?_
      obtain ⟨h4, eh4, hf⟩ := bd hf
      refine g_iast (M := mX8_agreement) dX8_agreement_155 eh4 ?_
      refine g_iinc (M := mX8_agreement) (j := 3) (L2 := [(7, vi (a7 + (1))), (0, vr (some a0)), (1, vi a1), (6, vi a6)]) dX8_agreement_156 rfl rfl (Nat.le_of_ble_eq_true rfl) rfl ?_
      refine g_goto (M := mX8_agreement) (tgt := 133) dX8_agreement_159 rfl ?_
      exact g_sub (M := mX8_agreement) (L2 := [(0, vr (some a0)), (1, vi a1), (6, vi a6), (7, vi (a7 + (1)))]) [1, 2, 3, 0] rfl <| ih a0 a1 a6 (a7 + (1)) h4 _ hf
def f_X8_agreement_63 (a0 : Nat) (a1 : Int32) (a2 : Int32) (a3 : Int32) (a4 : Int32) (s0 : Int32) (h : AH) : Option (Int32 × AH) :=
  (gI 8 2 h (some a0)).bind fun v5 =>
  if v5 = (10 : Int32) then (
    some ((-1 : Int32), h)
  ) else (
    if s0 = 0 then (
      some ((-1 : Int32), h)
    ) else (
      (gI 8 2 h (some a0)).bind fun v6 =>
      (gI 8 2 h (some a0)).bind fun v7 =>
      (pI 8 2 h (some a0) (v7 + (1 : Int32))).bind fun h8 =>
      (gR 8 3 h8 (some a0)).bind fun v9 =>
      (stI 10 h8 v9 v6 a1).bind fun h10 =>
      (gR 8 4 h10 (some a0)).bind fun v11 =>
      (stI 10 h10 v11 v6 a2).bind fun h12 =>
      (gR 8 5 h12 (some a0)).bind fun v13 =>
      (stI 10 h12 v13 v6 a3).bind fun h14 =>
      (gR 8 6 h14 (some a0)).bind fun v15 =>
      (stI 10 h14 v15 v6 a4).bind fun h16 =>
      f_X8_agreement_133 FU a0 a1 v6 (0 : Int32) h16
    )
  )
theorem x_X8_agreement_63 (G : Gm) (a0 : Nat) (a1 : Int32) (a2 : Int32) (a3 : Int32) (a4 : Int32) (s0 : Int32) (h : AH) (o : (Int32 × AH)) (hf : f_X8_agreement_63 a0 a1 a2 a3 a4 s0 h = some o) : GO G mX8_agreement 0 0 63 [(0, vr (some a0)), (1, vi a1), (2, vi a2), (3, vi a3), (4, vi a4)] [vi s0] h (some (vi o.1)) o.2 := by
  unfold f_X8_agreement_63 at hf
  refine g_istore (M := mX8_agreement) (L2 := [(5, vi s0), (0, vr (some a0)), (1, vi a1), (2, vi a2), (3, vi a3), (4, vi a4)]) dX8_agreement_63 (Nat.le_of_ble_eq_true rfl) rfl ?_
  refine g_aload_n (M := mX8_agreement) dX8_agreement_65 rfl 1 rfl ?_
  obtain ⟨v5, ev5, hf⟩ := bd hf
  refine g_getI (M := mX8_agreement) dX8_agreement_66 flRX8_82 (fun _ => rfl) ev5 ?_
  refine g_bipush (M := mX8_agreement) (v := 10) dX8_agreement_69 rfl ?_
  refine g_ic_eq (M := mX8_agreement) (tgt := 79) dX8_agreement_71 rfl (fun q71 => ?_) (fun q71 => ?_)
  · replace hf := ift hf q71
    refine g_iconst (M := mX8_agreement) (v := -1) dX8_agreement_79 rfl ?_
    cases hf
    exact g_ret (M := mX8_agreement) dX8_agreement_80 rfl
  · replace hf := iff_ hf q71
    refine g_iload (M := mX8_agreement) dX8_agreement_74 0 rfl ?_
    refine g_if_ne (M := mX8_agreement) (tgt := 81) dX8_agreement_76 rfl (fun q76 => ?_) (fun q76 => ?_)
    · replace hf := iff_ hf q76
      refine g_aload_n (M := mX8_agreement) dX8_agreement_81 rfl 1 rfl ?_
      obtain ⟨v6, ev6, hf⟩ := bd hf
      refine g_getI (M := mX8_agreement) dX8_agreement_82 flRX8_82 (fun _ => rfl) ev6 ?_
      refine g_istore (M := mX8_agreement) (L2 := [(6, vi v6), (5, vi s0), (0, vr (some a0)), (1, vi a1), (2, vi a2), (3, vi a3), (4, vi a4)]) dX8_agreement_85 (Nat.le_of_ble_eq_true rfl) rfl ?_
      refine g_aload_n (M := mX8_agreement) dX8_agreement_87 rfl 2 rfl ?_
      refine g_dup (M := mX8_agreement) dX8_agreement_88 rfl ?_
      obtain ⟨v7, ev7, hf⟩ := bd hf
      refine g_getI (M := mX8_agreement) dX8_agreement_89 flRX8_82 (fun _ => rfl) ev7 ?_
      refine g_iconst (M := mX8_agreement) (v := 1) dX8_agreement_92 rfl ?_
      refine g_iadd (M := mX8_agreement) dX8_agreement_93 ?_
      obtain ⟨h8, eh8, hf⟩ := bd hf
      refine g_putI (M := mX8_agreement) dX8_agreement_94 flRX8_82 rfl eh8 ?_
      refine g_aload_n (M := mX8_agreement) dX8_agreement_97 rfl 2 rfl ?_
      obtain ⟨v9, ev9, hf⟩ := bd hf
      refine g_getR (M := mX8_agreement) dX8_agreement_98 flRX8_7 (fun _ => rfl) ev9 ?_
      refine g_iload (M := mX8_agreement) dX8_agreement_101 0 rfl ?_
      refine g_iload_n (M := mX8_agreement) dX8_agreement_103 rfl 3 rfl ?_
      obtain ⟨h10, eh10, hf⟩ := bd hf
      refine g_iast (M := mX8_agreement) dX8_agreement_104 eh10 ?_
      refine g_aload_n (M := mX8_agreement) dX8_agreement_105 rfl 2 rfl ?_
      obtain ⟨v11, ev11, hf⟩ := bd hf
      refine g_getR (M := mX8_agreement) dX8_agreement_106 flRX8_13 (fun _ => rfl) ev11 ?_
      refine g_iload (M := mX8_agreement) dX8_agreement_109 0 rfl ?_
      refine g_iload_n (M := mX8_agreement) dX8_agreement_111 rfl 4 rfl ?_
      obtain ⟨h12, eh12, hf⟩ := bd hf
      refine g_iast (M := mX8_agreement) dX8_agreement_112 eh12 ?_
      refine g_aload_n (M := mX8_agreement) dX8_agreement_113 rfl 2 rfl ?_
      obtain ⟨v13, ev13, hf⟩ := bd hf
      refine g_getR (M := mX8_agreement) dX8_agreement_114 flRX8_16 (fun _ => rfl) ev13 ?_
      refine g_iload (M := mX8_agreement) dX8_agreement_117 0 rfl ?_
      refine g_iload_n (M := mX8_agreement) dX8_agreement_119 rfl 5 rfl ?_
      obtain ⟨h14, eh14, hf⟩ := bd hf
      refine g_iast (M := mX8_agreement) dX8_agreement_120 eh14 ?_
      refine g_aload_n (M := mX8_agreement) dX8_agreement_121 rfl 2 rfl ?_
      obtain ⟨v15, ev15, hf⟩ := bd hf
      refine g_getR (M := mX8_agreement) dX8_agreement_122 flRX8_19 (fun _ => rfl) ev15 ?_
      refine g_iload (M := mX8_agreement) dX8_agreement_125 0 rfl ?_
      refine g_iload (M := mX8_agreement) dX8_agreement_127 6 rfl ?_
      obtain ⟨h16, eh16, hf⟩ := bd hf
      refine g_iast (M := mX8_agreement) dX8_agreement_129 eh16 ?_
      refine g_iconst (M := mX8_agreement) (v := 0) dX8_agreement_130 rfl ?_
      refine g_istore (M := mX8_agreement) (L2 := [(7, vi (0 : Int32)), (6, vi v6), (5, vi s0), (0, vr (some a0)), (1, vi a1), (2, vi a2), (3, vi a3), (4, vi a4)]) dX8_agreement_131 (Nat.le_of_ble_eq_true rfl) rfl ?_
      exact g_sub (M := mX8_agreement) (L2 := [(0, vr (some a0)), (1, vi a1), (6, vi v6), (7, vi (0 : Int32))]) [3, 4, 1, 0] rfl <| x_X8_agreement_133 G FU a0 a1 v6 (0 : Int32) h16 _ hf
    · replace hf := ift hf q76
      refine g_iconst (M := mX8_agreement) (v := -1) dX8_agreement_79 rfl ?_
      cases hf
      exact g_ret (M := mX8_agreement) dX8_agreement_80 rfl
def f_X8_agreement_62 (a0 : Nat) (a1 : Int32) (a2 : Int32) (a3 : Int32) (a4 : Int32) (h : AH) : Option (Int32 × AH) :=
  f_X8_agreement_63 a0 a1 a2 a3 a4 (0 : Int32) h
theorem x_X8_agreement_62 (G : Gm) (a0 : Nat) (a1 : Int32) (a2 : Int32) (a3 : Int32) (a4 : Int32) (h : AH) (o : (Int32 × AH)) (hf : f_X8_agreement_62 a0 a1 a2 a3 a4 h = some o) : GO G mX8_agreement 0 0 62 [(0, vr (some a0)), (1, vi a1), (2, vi a2), (3, vi a3), (4, vi a4)] [] h (some (vi o.1)) o.2 := by
  unfold f_X8_agreement_62 at hf
  refine g_iconst (M := mX8_agreement) (v := 0) dX8_agreement_62 rfl ?_
  exact x_X8_agreement_63 G a0 a1 a2 a3 a4 (0 : Int32) h _ hf
def f_X8_agreement_27 (a0 : Nat) (a1 : Int32) (a2 : Int32) (a3 : Int32) (a4 : Int32) (s0 : Int32) (h : AH) : Option (Int32 × AH) :=
  if s0 = 0 then (
    f_X8_agreement_62 a0 a1 a2 a3 a4 h
  ) else (
    if a3 < 0 then (
      f_X8_agreement_62 a0 a1 a2 a3 a4 h
    ) else (
      if (1000 : Int32) < a3 then (
        f_X8_agreement_62 a0 a1 a2 a3 a4 h
      ) else (
        if a4 < 0 then (
          f_X8_agreement_62 a0 a1 a2 a3 a4 h
        ) else (
          if (1000 : Int32) < a4 then (
            f_X8_agreement_62 a0 a1 a2 a3 a4 h
          ) else (
            f_X8_agreement_63 a0 a1 a2 a3 a4 (1 : Int32) h
          )
        )
      )
    )
  )
theorem x_X8_agreement_27 (G : Gm) (a0 : Nat) (a1 : Int32) (a2 : Int32) (a3 : Int32) (a4 : Int32) (s0 : Int32) (h : AH) (o : (Int32 × AH)) (hf : f_X8_agreement_27 a0 a1 a2 a3 a4 s0 h = some o) : GO G mX8_agreement 0 0 27 [(0, vr (some a0)), (1, vi a1), (2, vi a2), (3, vi a3), (4, vi a4)] [vi s0] h (some (vi o.1)) o.2 := by
  unfold f_X8_agreement_27 at hf
  refine g_istore (M := mX8_agreement) (L2 := [(5, vi s0), (0, vr (some a0)), (1, vi a1), (2, vi a2), (3, vi a3), (4, vi a4)]) dX8_agreement_27 (Nat.le_of_ble_eq_true rfl) rfl ?_
  refine g_iload (M := mX8_agreement) dX8_agreement_29 0 rfl ?_
  refine g_if_eq (M := mX8_agreement) (tgt := 62) dX8_agreement_31 rfl (fun q31 => ?_) (fun q31 => ?_)
  · replace hf := ift hf q31
    exact g_sub (M := mX8_agreement) (L2 := [(0, vr (some a0)), (1, vi a1), (2, vi a2), (3, vi a3), (4, vi a4)]) [1, 2, 3, 4, 5] rfl <| x_X8_agreement_62 G a0 a1 a2 a3 a4 h _ hf
  · replace hf := iff_ hf q31
    refine g_iload_n (M := mX8_agreement) dX8_agreement_34 rfl 4 rfl ?_
    refine g_if_lt (M := mX8_agreement) (tgt := 62) dX8_agreement_35 rfl (fun q35 => ?_) (fun q35 => ?_)
    · replace hf := ift hf q35
      exact g_sub (M := mX8_agreement) (L2 := [(0, vr (some a0)), (1, vi a1), (2, vi a2), (3, vi a3), (4, vi a4)]) [1, 2, 3, 4, 5] rfl <| x_X8_agreement_62 G a0 a1 a2 a3 a4 h _ hf
    · replace hf := iff_ hf q35
      refine g_iload_n (M := mX8_agreement) dX8_agreement_38 rfl 4 rfl ?_
      refine g_sipush (M := mX8_agreement) (v := 1000) dX8_agreement_39 rfl ?_
      refine g_ic_gt (M := mX8_agreement) (tgt := 62) dX8_agreement_42 rfl (fun q42 => ?_) (fun q42 => ?_)
      · replace hf := ift hf q42
        exact g_sub (M := mX8_agreement) (L2 := [(0, vr (some a0)), (1, vi a1), (2, vi a2), (3, vi a3), (4, vi a4)]) [1, 2, 3, 4, 5] rfl <| x_X8_agreement_62 G a0 a1 a2 a3 a4 h _ hf
      · replace hf := iff_ hf q42
        refine g_iload (M := mX8_agreement) dX8_agreement_45 5 rfl ?_
        refine g_if_lt (M := mX8_agreement) (tgt := 62) dX8_agreement_47 rfl (fun q47 => ?_) (fun q47 => ?_)
        · replace hf := ift hf q47
          exact g_sub (M := mX8_agreement) (L2 := [(0, vr (some a0)), (1, vi a1), (2, vi a2), (3, vi a3), (4, vi a4)]) [1, 2, 3, 4, 5] rfl <| x_X8_agreement_62 G a0 a1 a2 a3 a4 h _ hf
        · replace hf := iff_ hf q47
          refine g_iload (M := mX8_agreement) dX8_agreement_50 5 rfl ?_
          refine g_sipush (M := mX8_agreement) (v := 1000) dX8_agreement_52 rfl ?_
          refine g_ic_gt (M := mX8_agreement) (tgt := 62) dX8_agreement_55 rfl (fun q55 => ?_) (fun q55 => ?_)
          · replace hf := ift hf q55
            exact g_sub (M := mX8_agreement) (L2 := [(0, vr (some a0)), (1, vi a1), (2, vi a2), (3, vi a3), (4, vi a4)]) [1, 2, 3, 4, 5] rfl <| x_X8_agreement_62 G a0 a1 a2 a3 a4 h _ hf
          · replace hf := iff_ hf q55
            refine g_iconst (M := mX8_agreement) (v := 1) dX8_agreement_58 rfl ?_
            refine g_goto (M := mX8_agreement) (tgt := 63) dX8_agreement_59 rfl ?_
            exact g_sub (M := mX8_agreement) (L2 := [(0, vr (some a0)), (1, vi a1), (2, vi a2), (3, vi a3), (4, vi a4)]) [1, 2, 3, 4, 5] rfl <| x_X8_agreement_63 G a0 a1 a2 a3 a4 (1 : Int32) h _ hf
def f_X8_agreement_26 (a0 : Nat) (a1 : Int32) (a2 : Int32) (a3 : Int32) (a4 : Int32) (h : AH) : Option (Int32 × AH) :=
  f_X8_agreement_27 a0 a1 a2 a3 a4 (0 : Int32) h
theorem x_X8_agreement_26 (G : Gm) (a0 : Nat) (a1 : Int32) (a2 : Int32) (a3 : Int32) (a4 : Int32) (h : AH) (o : (Int32 × AH)) (hf : f_X8_agreement_26 a0 a1 a2 a3 a4 h = some o) : GO G mX8_agreement 0 0 26 [(0, vr (some a0)), (1, vi a1), (2, vi a2), (3, vi a3), (4, vi a4)] [] h (some (vi o.1)) o.2 := by
  unfold f_X8_agreement_26 at hf
  refine g_iconst (M := mX8_agreement) (v := 0) dX8_agreement_26 rfl ?_
  exact x_X8_agreement_27 G a0 a1 a2 a3 a4 (0 : Int32) h _ hf
def f_X8_agreement (a0 : Nat) (a1 : Int32) (a2 : Int32) (a3 : Int32) (a4 : Int32) (h : AH) : Option (Int32 × AH) :=
  if a1 < (1 : Int32) then (
    f_X8_agreement_26 a0 a1 a2 a3 a4 h
  ) else (
    if (20 : Int32) < a1 then (
      f_X8_agreement_26 a0 a1 a2 a3 a4 h
    ) else (
      if a2 < (1 : Int32) then (
        f_X8_agreement_26 a0 a1 a2 a3 a4 h
      ) else (
        if (10 : Int32) < a2 then (
          f_X8_agreement_26 a0 a1 a2 a3 a4 h
        ) else (
          f_X8_agreement_27 a0 a1 a2 a3 a4 (1 : Int32) h
        )
      )
    )
  )
theorem x_X8_agreement (G : Gm) (a0 : Nat) (a1 : Int32) (a2 : Int32) (a3 : Int32) (a4 : Int32) (h : AH) (o : (Int32 × AH)) (hf : f_X8_agreement a0 a1 a2 a3 a4 h = some o) : GO G mX8_agreement 0 0 0 [(0, vr (some a0)), (1, vi a1), (2, vi a2), (3, vi a3), (4, vi a4)] [] h (some (vi o.1)) o.2 := by
  unfold f_X8_agreement at hf
  refine g_iload_n (M := mX8_agreement) dX8_agreement_0 rfl 1 rfl ?_
  refine g_iconst (M := mX8_agreement) (v := 1) dX8_agreement_1 rfl ?_
  refine g_ic_lt (M := mX8_agreement) (tgt := 26) dX8_agreement_2 rfl (fun q2 => ?_) (fun q2 => ?_)
  · replace hf := ift hf q2
    exact x_X8_agreement_26 G a0 a1 a2 a3 a4 h _ hf
  · replace hf := iff_ hf q2
    refine g_iload_n (M := mX8_agreement) dX8_agreement_5 rfl 1 rfl ?_
    refine g_bipush (M := mX8_agreement) (v := 20) dX8_agreement_6 rfl ?_
    refine g_ic_gt (M := mX8_agreement) (tgt := 26) dX8_agreement_8 rfl (fun q8 => ?_) (fun q8 => ?_)
    · replace hf := ift hf q8
      exact x_X8_agreement_26 G a0 a1 a2 a3 a4 h _ hf
    · replace hf := iff_ hf q8
      refine g_iload_n (M := mX8_agreement) dX8_agreement_11 rfl 2 rfl ?_
      refine g_iconst (M := mX8_agreement) (v := 1) dX8_agreement_12 rfl ?_
      refine g_ic_lt (M := mX8_agreement) (tgt := 26) dX8_agreement_13 rfl (fun q13 => ?_) (fun q13 => ?_)
      · replace hf := ift hf q13
        exact x_X8_agreement_26 G a0 a1 a2 a3 a4 h _ hf
      · replace hf := iff_ hf q13
        refine g_iload_n (M := mX8_agreement) dX8_agreement_16 rfl 2 rfl ?_
        refine g_bipush (M := mX8_agreement) (v := 10) dX8_agreement_17 rfl ?_
        refine g_ic_gt (M := mX8_agreement) (tgt := 26) dX8_agreement_19 rfl (fun q19 => ?_) (fun q19 => ?_)
        · replace hf := ift hf q19
          exact x_X8_agreement_26 G a0 a1 a2 a3 a4 h _ hf
        · replace hf := iff_ hf q19
          refine g_iconst (M := mX8_agreement) (v := 1) dX8_agreement_22 rfl ?_
          refine g_goto (M := mX8_agreement) (tgt := 27) dX8_agreement_23 rfl ?_
          exact x_X8_agreement_27 G a0 a1 a2 a3 a4 (1 : Int32) h _ hf
theorem c_X8_agreement (G : Gm) (a0 : Nat) (a1 : Int32) (a2 : Int32) (a3 : Int32) (a4 : Int32) (h : AH) (o : (Int32 × AH)) (hf : f_X8_agreement a0 a1 a2 a3 a4 h = some o) : CT G yX8_agreement mX8_agreement (some .int) 0 0 [vr (some a0), vi a1, vi a2, vi a3, vi a4] h (some (vi o.1)) o.2 :=
  CT.int (by decide +kernel) rfl rfl rfl (Nat.le_of_ble_eq_true rfl) (x_X8_agreement G a0 a1 a2 a3 a4 h o hf)
theorem cbX8_agreement : CB yX8_agreement mX8_agreement (some .int) 4 := ⟨cd_yX8_agreement, itRX8, ⟨by decide, by decide⟩, by decide +kernel, by decide⟩
abbrev mX8_article : MI := (RX8, "article", cX8_article, 5, .ireturn, 2)
def f_X8_article_25 : Nat → Nat → Int32 → Int32 → Int32 → Int32 → AH → Option (Int32 × AH)
  | 0, _, _, _, _, _, _ => none
  | n + 1, a0, a1, a2, a3, a4, h =>
    (gI 8 8 h (some a0)).bind fun v1 =>
    if v1 ≤ a4 then (
      (gR 8 7 h (some a0)).bind fun v2 =>
      (lI 10 h v2 (((20 : Int32) * a1) + a2)).bind fun v3 =>
      (gR 8 7 h (some a0)).bind fun v4 =>
      (stI 10 h v4 (((20 : Int32) * a1) + a2) a3).bind fun h5 =>
      some (v3, h5)
    ) else (
      (gR 8 11 h (some a0)).bind fun v6 =>
      (lI 10 h v6 a4).bind fun v7 =>
      if v7 = a1 then (
        some ((-1 : Int32), h)
      ) else (
        f_X8_article_25 n a0 a1 a2 a3 (a4 + (1)) h
      )
    )
theorem x_X8_article_25 (G : Gm) : ∀ (n : Nat) (a0 : Nat) (a1 : Int32) (a2 : Int32) (a3 : Int32) (a4 : Int32) (h : AH) (o : (Int32 × AH)), f_X8_article_25 n a0 a1 a2 a3 a4 h = some o → GO G mX8_article 0 0 25 [(0, vr (some a0)), (1, vi a1), (2, vi a2), (3, vi a3), (4, vi a4)] [] h (some (vi o.1)) o.2 := by
  intro n
  induction n with
  | zero => intro a0 a1 a2 a3 a4 h o hf; cases hf
  | succ n ih =>
    intro a0 a1 a2 a3 a4 h o hf
    rw [f_X8_article_25] at hf
    refine g_iload (M := mX8_article) dX8_article_25 4 rfl ?_
    refine g_aload_n (M := mX8_article) dX8_article_27 rfl 0 rfl ?_
    obtain ⟨v1, ev1, hf⟩ := bd hf
    refine g_getI (M := mX8_article) dX8_article_28 flRX8_89 (fun _ => rfl) ev1 ?_
    refine g_ic_ge (M := mX8_article) (tgt := 53) dX8_article_31 rfl (fun q31 => ?_) (fun q31 => ?_)
    · replace hf := ift hf q31
      refine g_aload_n (M := mX8_article) dX8_article_53 rfl 0 rfl ?_
      obtain ⟨v2, ev2, hf⟩ := bd hf
      refine g_getR (M := mX8_article) dX8_article_54 flRX8_22 (fun _ => rfl) ev2 ?_
      refine g_bipush (M := mX8_article) (v := 20) dX8_article_57 rfl ?_
      refine g_iload_n (M := mX8_article) dX8_article_59 rfl 1 rfl ?_
      refine g_imul (M := mX8_article) dX8_article_60 ?_
      refine g_iload_n (M := mX8_article) dX8_article_61 rfl 2 rfl ?_
      refine g_iadd (M := mX8_article) dX8_article_62 ?_
      obtain ⟨v3, ev3, hf⟩ := bd hf
      refine g_iald (M := mX8_article) dX8_article_63 ev3 ?_
      refine g_istore (M := mX8_article) (L2 := [(4, vi v3), (0, vr (some a0)), (1, vi a1), (2, vi a2), (3, vi a3)]) dX8_article_64 (Nat.le_of_ble_eq_true rfl) rfl ?_
      refine g_aload_n (M := mX8_article) dX8_article_66 rfl 1 rfl ?_
      obtain ⟨v4, ev4, hf⟩ := bd hf
      refine g_getR (M := mX8_article) dX8_article_67 flRX8_22 (fun _ => rfl) ev4 ?_
      refine g_bipush (M := mX8_article) (v := 20) dX8_article_70 rfl ?_
      refine g_iload_n (M := mX8_article) dX8_article_72 rfl 2 rfl ?_
      refine g_imul (M := mX8_article) dX8_article_73 ?_
      refine g_iload_n (M := mX8_article) dX8_article_74 rfl 3 rfl ?_
      refine g_iadd (M := mX8_article) dX8_article_75 ?_
      refine g_iload_n (M := mX8_article) dX8_article_76 rfl 4 rfl ?_
      obtain ⟨h5, eh5, hf⟩ := bd hf
      refine g_iast (M := mX8_article) dX8_article_77 eh5 ?_
      refine g_iload (M := mX8_article) dX8_article_78 0 rfl ?_
      cases hf
      exact g_ret (M := mX8_article) dX8_article_80 rfl
    · replace hf := iff_ hf q31
      refine g_aload_n (M := mX8_article) dX8_article_34 rfl 0 rfl ?_
      obtain ⟨v6, ev6, hf⟩ := bd hf
      refine g_getR (M := mX8_article) dX8_article_35 flRX8_31 (fun _ => rfl) ev6 ?_
      refine g_iload (M := mX8_article) dX8_article_38 4 rfl ?_
      obtain ⟨v7, ev7, hf⟩ := bd hf
      refine g_iald (M := mX8_article) dX8_article_40 ev7 ?_
      refine g_iload_n (M := mX8_article) dX8_article_41 rfl 1 rfl ?_
      refine g_ic_ne (M := mX8_article) (tgt := 47) dX8_article_42 rfl (fun q42 => ?_) (fun q42 => ?_)
      · replace hf := iff_ hf q42
        refine g_iinc (M := mX8_article) (j := 4) (L2 := [(4, vi (a4 + (1))), (0, vr (some a0)), (1, vi a1), (2, vi a2), (3, vi a3)]) dX8_article_47 rfl rfl (Nat.le_of_ble_eq_true rfl) rfl ?_
        refine g_goto (M := mX8_article) (tgt := 25) dX8_article_50 rfl ?_
        exact g_sub (M := mX8_article) (L2 := [(0, vr (some a0)), (1, vi a1), (2, vi a2), (3, vi a3), (4, vi (a4 + (1)))]) [1, 2, 3, 4, 0] rfl <| ih a0 a1 a2 a3 (a4 + (1)) h _ hf
      · replace hf := ift hf q42
        refine g_iconst (M := mX8_article) (v := -1) dX8_article_45 rfl ?_
        cases hf
        exact g_ret (M := mX8_article) dX8_article_46 rfl
def f_X8_article (a0 : Nat) (a1 : Int32) (a2 : Int32) (a3 : Int32) (h : AH) : Option (Int32 × AH) :=
  (ck 8 h (some a0)).bind fun b8 =>
  (f_X8_isArticle b8 a1 a2 h).bind fun r9 =>
  if (b2i r9) = 0 then (
    some ((-1 : Int32), h)
  ) else (
    if a3 < (1 : Int32) then (
      some ((-1 : Int32), h)
    ) else (
      if a3 ≤ (1000000 : Int32) then (
        f_X8_article_25 FU a0 a1 a2 a3 (0 : Int32) h
      ) else (
        some ((-1 : Int32), h)
      )
    )
  )
theorem x_X8_article (G : Gm) (a0 : Nat) (a1 : Int32) (a2 : Int32) (a3 : Int32) (h : AH) (o : (Int32 × AH)) (hf : f_X8_article a0 a1 a2 a3 h = some o) : GO G mX8_article 0 0 0 [(0, vr (some a0)), (1, vi a1), (2, vi a2), (3, vi a3)] [] h (some (vi o.1)) o.2 := by
  unfold f_X8_article at hf
  refine g_aload_n (M := mX8_article) dX8_article_0 rfl 0 rfl ?_
  refine g_iload_n (M := mX8_article) dX8_article_1 rfl 1 rfl ?_
  refine g_iload_n (M := mX8_article) dX8_article_2 rfl 2 rfl ?_
  obtain ⟨b8, eb8, hf⟩ := bd hf
  obtain ⟨r9, er9, hf⟩ := bd hf
  refine g_callV (M := mX8_article) (kc := 0) (ks := 0) (as := [vi a1, vi a2]) (rest := []) dX8_article_3 cbX8_isArticle vwRX8_93 rfl eb8 rfl (Nat.le_of_ble_eq_true rfl) (Nat.le_of_ble_eq_true rfl) (c_X8_isArticle G b8 a1 a2 h r9 er9) ?_
  refine g_if_eq (M := mX8_article) (tgt := 20) dX8_article_6 rfl (fun q6 => ?_) (fun q6 => ?_)
  · replace hf := ift hf q6
    refine g_iconst (M := mX8_article) (v := -1) dX8_article_20 rfl ?_
    cases hf
    exact g_ret (M := mX8_article) dX8_article_21 rfl
  · replace hf := iff_ hf q6
    refine g_iload_n (M := mX8_article) dX8_article_9 rfl 3 rfl ?_
    refine g_iconst (M := mX8_article) (v := 1) dX8_article_10 rfl ?_
    refine g_ic_lt (M := mX8_article) (tgt := 20) dX8_article_11 rfl (fun q11 => ?_) (fun q11 => ?_)
    · replace hf := ift hf q11
      refine g_iconst (M := mX8_article) (v := -1) dX8_article_20 rfl ?_
      cases hf
      exact g_ret (M := mX8_article) dX8_article_21 rfl
    · replace hf := iff_ hf q11
      refine g_iload_n (M := mX8_article) dX8_article_14 rfl 3 rfl ?_
      refine g_ldc (M := mX8_article) dX8_article_15 csRX8_97 ?_
      refine g_ic_le (M := mX8_article) (tgt := 22) dX8_article_17 rfl (fun q17 => ?_) (fun q17 => ?_)
      · replace hf := ift hf q17
        refine g_iconst (M := mX8_article) (v := 0) dX8_article_22 rfl ?_
        refine g_istore (M := mX8_article) (L2 := [(4, vi (0 : Int32)), (0, vr (some a0)), (1, vi a1), (2, vi a2), (3, vi a3)]) dX8_article_23 (Nat.le_of_ble_eq_true rfl) rfl ?_
        exact g_sub (M := mX8_article) (L2 := [(0, vr (some a0)), (1, vi a1), (2, vi a2), (3, vi a3), (4, vi (0 : Int32))]) [1, 2, 3, 4, 0] rfl <| x_X8_article_25 G FU a0 a1 a2 a3 (0 : Int32) h _ hf
      · replace hf := iff_ hf q17
        refine g_iconst (M := mX8_article) (v := -1) dX8_article_20 rfl ?_
        cases hf
        exact g_ret (M := mX8_article) dX8_article_21 rfl
theorem c_X8_article (G : Gm) (a0 : Nat) (a1 : Int32) (a2 : Int32) (a3 : Int32) (h : AH) (o : (Int32 × AH)) (hf : f_X8_article a0 a1 a2 a3 h = some o) : CT G yX8_article mX8_article (some .int) 0 0 [vr (some a0), vi a1, vi a2, vi a3] h (some (vi o.1)) o.2 :=
  CT.int (by decide +kernel) rfl rfl rfl (Nat.le_of_ble_eq_true rfl) (x_X8_article G a0 a1 a2 a3 h o hf)
theorem cbX8_article : CB yX8_article mX8_article (some .int) 3 := ⟨cd_yX8_article, itRX8, ⟨by decide, by decide⟩, by decide +kernel, by decide⟩
abbrev mX8_clock : MI := (RX8, "clock", cX8_clock, 2, .ireturn, 0)
def f_X8_clock (a0 : Nat) (a1 : Int32) (h : AH) : Option (Bool × AH) :=
  (gI 8 0 h (some a0)).bind fun v1 =>
  if a1 < v1 then (
    some (false, h)
  ) else (
    if a1 ≤ (73000 : Int32) then (
      (pI 8 0 h (some a0) a1).bind fun h2 =>
      some (true, h2)
    ) else (
      some (false, h)
    )
  )
theorem x_X8_clock (G : Gm) (a0 : Nat) (a1 : Int32) (h : AH) (o : (Bool × AH)) (hf : f_X8_clock a0 a1 h = some o) : GO G mX8_clock 0 0 0 [(0, vr (some a0)), (1, vi a1)] [] h (some (vi (b2i o.1))) o.2 := by
  unfold f_X8_clock at hf
  refine g_iload_n (M := mX8_clock) dX8_clock_0 rfl 1 rfl ?_
  refine g_aload_n (M := mX8_clock) dX8_clock_1 rfl 0 rfl ?_
  obtain ⟨v1, ev1, hf⟩ := bd hf
  refine g_getI (M := mX8_clock) dX8_clock_2 flRX8_98 (fun _ => rfl) ev1 ?_
  refine g_ic_lt (M := mX8_clock) (tgt := 14) dX8_clock_5 rfl (fun q5 => ?_) (fun q5 => ?_)
  · replace hf := ift hf q5
    refine g_iconst (M := mX8_clock) (v := 0) dX8_clock_14 rfl ?_
    cases hf
    exact g_ret (M := mX8_clock) dX8_clock_15 rfl
  · replace hf := iff_ hf q5
    refine g_iload_n (M := mX8_clock) dX8_clock_8 rfl 1 rfl ?_
    refine g_ldc (M := mX8_clock) dX8_clock_9 csRX8_92 ?_
    refine g_ic_le (M := mX8_clock) (tgt := 16) dX8_clock_11 rfl (fun q11 => ?_) (fun q11 => ?_)
    · replace hf := ift hf q11
      refine g_aload_n (M := mX8_clock) dX8_clock_16 rfl 0 rfl ?_
      refine g_iload_n (M := mX8_clock) dX8_clock_17 rfl 1 rfl ?_
      obtain ⟨h2, eh2, hf⟩ := bd hf
      refine g_putI (M := mX8_clock) dX8_clock_18 flRX8_98 rfl eh2 ?_
      refine g_iconst (M := mX8_clock) (v := 1) dX8_clock_21 rfl ?_
      cases hf
      exact g_ret (M := mX8_clock) dX8_clock_22 rfl
    · replace hf := iff_ hf q11
      refine g_iconst (M := mX8_clock) (v := 0) dX8_clock_14 rfl ?_
      cases hf
      exact g_ret (M := mX8_clock) dX8_clock_15 rfl
theorem c_X8_clock (G : Gm) (a0 : Nat) (a1 : Int32) (h : AH) (o : (Bool × AH)) (hf : f_X8_clock a0 a1 h = some o) : CT G yX8_clock mX8_clock (some .boolean) 0 0 [vr (some a0), vi a1] h (some (vi (b2i o.1))) o.2 :=
  CT.bool (by decide +kernel) rfl rfl rfl (Nat.le_of_ble_eq_true rfl) (b2i_01 _) (x_X8_clock G a0 a1 h o hf)
theorem cbX8_clock : CB yX8_clock mX8_clock (some .boolean) 1 := ⟨cd_yX8_clock, itRX8, ⟨by decide, by decide⟩, by decide +kernel, by decide⟩
abbrev mX8_isMembership : MI := (RX8, "isMembership", cX8_isMembership, 2, .ireturn, 0)
def f_X8_isMembership (a0 : Nat) (a1 : Int32) (h : AH) : Option Bool :=
  (gR 8 9 h (some a0)).bind fun v1 =>
  (lI 10 h v1 a1).bind fun v2 =>
  if v2 = (1 : Int32) then (
    some true
  ) else (
    (gR 8 9 h (some a0)).bind fun v3 =>
    (lI 10 h v3 a1).bind fun v4 =>
    if v4 = (2 : Int32) then (
      some true
    ) else (
      (gR 8 9 h (some a0)).bind fun v5 =>
      (lI 10 h v5 a1).bind fun v6 =>
      if v6 = (8 : Int32) then (
        some true
      ) else (
        some false
      )
    )
  )
theorem x_X8_isMembership (G : Gm) (a0 : Nat) (a1 : Int32) (h : AH) (o : Bool) (hf : f_X8_isMembership a0 a1 h = some o) : GO G mX8_isMembership 0 0 0 [(0, vr (some a0)), (1, vi a1)] [] h (some (vi (b2i o))) h := by
  unfold f_X8_isMembership at hf
  refine g_aload_n (M := mX8_isMembership) dX8_isMembership_0 rfl 0 rfl ?_
  obtain ⟨v1, ev1, hf⟩ := bd hf
  refine g_getR (M := mX8_isMembership) dX8_isMembership_1 flRX8_25 (fun _ => rfl) ev1 ?_
  refine g_iload_n (M := mX8_isMembership) dX8_isMembership_4 rfl 1 rfl ?_
  obtain ⟨v2, ev2, hf⟩ := bd hf
  refine g_iald (M := mX8_isMembership) dX8_isMembership_5 ev2 ?_
  refine g_iconst (M := mX8_isMembership) (v := 1) dX8_isMembership_6 rfl ?_
  refine g_ic_eq (M := mX8_isMembership) (tgt := 31) dX8_isMembership_7 rfl (fun q7 => ?_) (fun q7 => ?_)
  · replace hf := ift hf q7
    refine g_iconst (M := mX8_isMembership) (v := 1) dX8_isMembership_31 rfl ?_
    refine g_goto (M := mX8_isMembership) (tgt := 36) dX8_isMembership_32 rfl ?_
    cases hf
    exact g_ret (M := mX8_isMembership) dX8_isMembership_36 rfl
  · replace hf := iff_ hf q7
    refine g_aload_n (M := mX8_isMembership) dX8_isMembership_10 rfl 0 rfl ?_
    obtain ⟨v3, ev3, hf⟩ := bd hf
    refine g_getR (M := mX8_isMembership) dX8_isMembership_11 flRX8_25 (fun _ => rfl) ev3 ?_
    refine g_iload_n (M := mX8_isMembership) dX8_isMembership_14 rfl 1 rfl ?_
    obtain ⟨v4, ev4, hf⟩ := bd hf
    refine g_iald (M := mX8_isMembership) dX8_isMembership_15 ev4 ?_
    refine g_iconst (M := mX8_isMembership) (v := 2) dX8_isMembership_16 rfl ?_
    refine g_ic_eq (M := mX8_isMembership) (tgt := 31) dX8_isMembership_17 rfl (fun q17 => ?_) (fun q17 => ?_)
    · replace hf := ift hf q17
      refine g_iconst (M := mX8_isMembership) (v := 1) dX8_isMembership_31 rfl ?_
      refine g_goto (M := mX8_isMembership) (tgt := 36) dX8_isMembership_32 rfl ?_
      cases hf
      exact g_ret (M := mX8_isMembership) dX8_isMembership_36 rfl
    · replace hf := iff_ hf q17
      refine g_aload_n (M := mX8_isMembership) dX8_isMembership_20 rfl 0 rfl ?_
      obtain ⟨v5, ev5, hf⟩ := bd hf
      refine g_getR (M := mX8_isMembership) dX8_isMembership_21 flRX8_25 (fun _ => rfl) ev5 ?_
      refine g_iload_n (M := mX8_isMembership) dX8_isMembership_24 rfl 1 rfl ?_
      obtain ⟨v6, ev6, hf⟩ := bd hf
      refine g_iald (M := mX8_isMembership) dX8_isMembership_25 ev6 ?_
      refine g_bipush (M := mX8_isMembership) (v := 8) dX8_isMembership_26 rfl ?_
      refine g_ic_ne (M := mX8_isMembership) (tgt := 35) dX8_isMembership_28 rfl (fun q28 => ?_) (fun q28 => ?_)
      · replace hf := iff_ hf q28
        refine g_iconst (M := mX8_isMembership) (v := 0) dX8_isMembership_35 rfl ?_
        cases hf
        exact g_ret (M := mX8_isMembership) dX8_isMembership_36 rfl
      · replace hf := ift hf q28
        refine g_iconst (M := mX8_isMembership) (v := 1) dX8_isMembership_31 rfl ?_
        refine g_goto (M := mX8_isMembership) (tgt := 36) dX8_isMembership_32 rfl ?_
        cases hf
        exact g_ret (M := mX8_isMembership) dX8_isMembership_36 rfl
theorem c_X8_isMembership (G : Gm) (a0 : Nat) (a1 : Int32) (h : AH) (o : Bool) (hf : f_X8_isMembership a0 a1 h = some o) : CT G yX8_isMembership mX8_isMembership (some .boolean) 0 0 [vr (some a0), vi a1] h (some (vi (b2i o))) h :=
  CT.bool (by decide +kernel) rfl rfl rfl (Nat.le_of_ble_eq_true rfl) (b2i_01 _) (x_X8_isMembership G a0 a1 h o hf)
theorem cbX8_isMembership : CB yX8_isMembership mX8_isMembership (some .boolean) 1 := ⟨cd_yX8_isMembership, itRX8, ⟨by decide, by decide⟩, by decide +kernel, by decide⟩
abbrev mX8_belongs : MI := (RX8, "belongs", cX8_belongs, 6, .ireturn, 1)
def f_X8_belongs_100 (K0 : Nat → Int32 → Int32 → Int32 → AH → Option Int32) (K1 : Nat → Int32 → Int32 → Int32 → Int32 → Int32 → AH → Option Int32) (a0 : Nat) (a1 : Int32) (a2 : Int32) (a3 : Int32) (a5 : Int32) (s0 : Int32) (h : AH) : Option Int32 :=
  K1 a0 a1 a2 a3 s0 (a5 + (1)) h
theorem x_X8_belongs_100 (G : Gm) (K0 : Nat → Int32 → Int32 → Int32 → AH → Option Int32) (hK0 : ∀ (a0 : Nat) (a1 : Int32) (a2 : Int32) (a3 : Int32) (h : AH) (o : Int32), K0 a0 a1 a2 a3 h = some o → GO G mX8_belongs 0 0 2 [(0, vr (some a0)), (1, vi a1), (2, vi a2), (3, vi a3)] [] h (some (vi o)) h) (K1 : Nat → Int32 → Int32 → Int32 → Int32 → Int32 → AH → Option Int32) (hK1 : ∀ (a0 : Nat) (a1 : Int32) (a2 : Int32) (a3 : Int32) (a4 : Int32) (a5 : Int32) (h : AH) (o : Int32), K1 a0 a1 a2 a3 a4 a5 h = some o → GO G mX8_belongs 0 0 47 [(0, vr (some a0)), (1, vi a1), (2, vi a2), (3, vi a3), (4, vi a4), (5, vi a5)] [] h (some (vi o)) h) (a0 : Nat) (a1 : Int32) (a2 : Int32) (a3 : Int32) (a5 : Int32) (s0 : Int32) (h : AH) (o : Int32) (hf : f_X8_belongs_100 K0 K1 a0 a1 a2 a3 a5 s0 h = some o) : GO G mX8_belongs 0 0 100 [(0, vr (some a0)), (1, vi a1), (2, vi a2), (3, vi a3), (5, vi a5)] [vi s0] h (some (vi o)) h := by
  unfold f_X8_belongs_100 at hf
  refine g_istore (M := mX8_belongs) (L2 := [(4, vi s0), (0, vr (some a0)), (1, vi a1), (2, vi a2), (3, vi a3), (5, vi a5)]) dX8_belongs_100 (Nat.le_of_ble_eq_true rfl) rfl ?_
  refine g_iinc (M := mX8_belongs) (j := 5) (L2 := [(5, vi (a5 + (1))), (4, vi s0), (0, vr (some a0)), (1, vi a1), (2, vi a2), (3, vi a3)]) dX8_belongs_102 rfl rfl (Nat.le_of_ble_eq_true rfl) rfl ?_
  refine g_goto (M := mX8_belongs) (tgt := 47) dX8_belongs_105 rfl ?_
  exact g_sub (M := mX8_belongs) (L2 := [(0, vr (some a0)), (1, vi a1), (2, vi a2), (3, vi a3), (4, vi s0), (5, vi (a5 + (1)))]) [2, 3, 4, 5, 1, 0] rfl <| hK1 a0 a1 a2 a3 s0 (a5 + (1)) h _ hf
def f_X8_belongs_99 (K0 : Nat → Int32 → Int32 → Int32 → AH → Option Int32) (K1 : Nat → Int32 → Int32 → Int32 → Int32 → Int32 → AH → Option Int32) (a0 : Nat) (a1 : Int32) (a2 : Int32) (a3 : Int32) (a5 : Int32) (h : AH) : Option Int32 :=
  f_X8_belongs_100 K0 K1 a0 a1 a2 a3 a5 (0 : Int32) h
theorem x_X8_belongs_99 (G : Gm) (K0 : Nat → Int32 → Int32 → Int32 → AH → Option Int32) (hK0 : ∀ (a0 : Nat) (a1 : Int32) (a2 : Int32) (a3 : Int32) (h : AH) (o : Int32), K0 a0 a1 a2 a3 h = some o → GO G mX8_belongs 0 0 2 [(0, vr (some a0)), (1, vi a1), (2, vi a2), (3, vi a3)] [] h (some (vi o)) h) (K1 : Nat → Int32 → Int32 → Int32 → Int32 → Int32 → AH → Option Int32) (hK1 : ∀ (a0 : Nat) (a1 : Int32) (a2 : Int32) (a3 : Int32) (a4 : Int32) (a5 : Int32) (h : AH) (o : Int32), K1 a0 a1 a2 a3 a4 a5 h = some o → GO G mX8_belongs 0 0 47 [(0, vr (some a0)), (1, vi a1), (2, vi a2), (3, vi a3), (4, vi a4), (5, vi a5)] [] h (some (vi o)) h) (a0 : Nat) (a1 : Int32) (a2 : Int32) (a3 : Int32) (a5 : Int32) (h : AH) (o : Int32) (hf : f_X8_belongs_99 K0 K1 a0 a1 a2 a3 a5 h = some o) : GO G mX8_belongs 0 0 99 [(0, vr (some a0)), (1, vi a1), (2, vi a2), (3, vi a3), (5, vi a5)] [] h (some (vi o)) h := by
  unfold f_X8_belongs_99 at hf
  refine g_iconst (M := mX8_belongs) (v := 0) dX8_belongs_99 rfl ?_
  exact x_X8_belongs_100 G K0 hK0 K1 hK1 a0 a1 a2 a3 a5 (0 : Int32) h _ hf
def f_X8_belongs_95 (K0 : Nat → Int32 → Int32 → Int32 → AH → Option Int32) (K1 : Nat → Int32 → Int32 → Int32 → Int32 → Int32 → AH → Option Int32) (a0 : Nat) (a1 : Int32) (a2 : Int32) (a3 : Int32) (a5 : Int32) (h : AH) : Option Int32 :=
  f_X8_belongs_100 K0 K1 a0 a1 a2 a3 a5 (1 : Int32) h
theorem x_X8_belongs_95 (G : Gm) (K0 : Nat → Int32 → Int32 → Int32 → AH → Option Int32) (hK0 : ∀ (a0 : Nat) (a1 : Int32) (a2 : Int32) (a3 : Int32) (h : AH) (o : Int32), K0 a0 a1 a2 a3 h = some o → GO G mX8_belongs 0 0 2 [(0, vr (some a0)), (1, vi a1), (2, vi a2), (3, vi a3)] [] h (some (vi o)) h) (K1 : Nat → Int32 → Int32 → Int32 → Int32 → Int32 → AH → Option Int32) (hK1 : ∀ (a0 : Nat) (a1 : Int32) (a2 : Int32) (a3 : Int32) (a4 : Int32) (a5 : Int32) (h : AH) (o : Int32), K1 a0 a1 a2 a3 a4 a5 h = some o → GO G mX8_belongs 0 0 47 [(0, vr (some a0)), (1, vi a1), (2, vi a2), (3, vi a3), (4, vi a4), (5, vi a5)] [] h (some (vi o)) h) (a0 : Nat) (a1 : Int32) (a2 : Int32) (a3 : Int32) (a5 : Int32) (h : AH) (o : Int32) (hf : f_X8_belongs_95 K0 K1 a0 a1 a2 a3 a5 h = some o) : GO G mX8_belongs 0 0 95 [(0, vr (some a0)), (1, vi a1), (2, vi a2), (3, vi a3), (5, vi a5)] [] h (some (vi o)) h := by
  unfold f_X8_belongs_95 at hf
  refine g_iconst (M := mX8_belongs) (v := 1) dX8_belongs_95 rfl ?_
  refine g_goto (M := mX8_belongs) (tgt := 100) dX8_belongs_96 rfl ?_
  exact x_X8_belongs_100 G K0 hK0 K1 hK1 a0 a1 a2 a3 a5 (1 : Int32) h _ hf
def f_X8_belongs_84 (K0 : Nat → Int32 → Int32 → Int32 → AH → Option Int32) (K1 : Nat → Int32 → Int32 → Int32 → Int32 → Int32 → AH → Option Int32) (a0 : Nat) (a1 : Int32) (a2 : Int32) (a3 : Int32) (a5 : Int32) (h : AH) : Option Int32 :=
  (gR 8 14 h (some a0)).bind fun v1 =>
  (lI 10 h v1 a5).bind fun v2 =>
  if v2 = a3 then (
    f_X8_belongs_95 K0 K1 a0 a1 a2 a3 a5 h
  ) else (
    f_X8_belongs_99 K0 K1 a0 a1 a2 a3 a5 h
  )
theorem x_X8_belongs_84 (G : Gm) (K0 : Nat → Int32 → Int32 → Int32 → AH → Option Int32) (hK0 : ∀ (a0 : Nat) (a1 : Int32) (a2 : Int32) (a3 : Int32) (h : AH) (o : Int32), K0 a0 a1 a2 a3 h = some o → GO G mX8_belongs 0 0 2 [(0, vr (some a0)), (1, vi a1), (2, vi a2), (3, vi a3)] [] h (some (vi o)) h) (K1 : Nat → Int32 → Int32 → Int32 → Int32 → Int32 → AH → Option Int32) (hK1 : ∀ (a0 : Nat) (a1 : Int32) (a2 : Int32) (a3 : Int32) (a4 : Int32) (a5 : Int32) (h : AH) (o : Int32), K1 a0 a1 a2 a3 a4 a5 h = some o → GO G mX8_belongs 0 0 47 [(0, vr (some a0)), (1, vi a1), (2, vi a2), (3, vi a3), (4, vi a4), (5, vi a5)] [] h (some (vi o)) h) (a0 : Nat) (a1 : Int32) (a2 : Int32) (a3 : Int32) (a5 : Int32) (h : AH) (o : Int32) (hf : f_X8_belongs_84 K0 K1 a0 a1 a2 a3 a5 h = some o) : GO G mX8_belongs 0 0 84 [(0, vr (some a0)), (1, vi a1), (2, vi a2), (3, vi a3), (5, vi a5)] [] h (some (vi o)) h := by
  unfold f_X8_belongs_84 at hf
  refine g_aload_n (M := mX8_belongs) dX8_belongs_84 rfl 0 rfl ?_
  obtain ⟨v1, ev1, hf⟩ := bd hf
  refine g_getR (M := mX8_belongs) dX8_belongs_85 flRX8_40 (fun _ => rfl) ev1 ?_
  refine g_iload (M := mX8_belongs) dX8_belongs_88 4 rfl ?_
  obtain ⟨v2, ev2, hf⟩ := bd hf
  refine g_iald (M := mX8_belongs) dX8_belongs_90 ev2 ?_
  refine g_iload_n (M := mX8_belongs) dX8_belongs_91 rfl 3 rfl ?_
  refine g_ic_ne (M := mX8_belongs) (tgt := 99) dX8_belongs_92 rfl (fun q92 => ?_) (fun q92 => ?_)
  · replace hf := iff_ hf q92
    exact x_X8_belongs_99 G K0 hK0 K1 hK1 a0 a1 a2 a3 a5 h _ hf
  · replace hf := ift hf q92
    exact x_X8_belongs_95 G K0 hK0 K1 hK1 a0 a1 a2 a3 a5 h _ hf
def f_X8_belongs_47 (K0 : Nat → Int32 → Int32 → Int32 → AH → Option Int32) : Nat → Nat → Int32 → Int32 → Int32 → Int32 → Int32 → AH → Option Int32
  | 0, _, _, _, _, _, _, _ => none
  | n + 1, a0, a1, a2, a3, a4, a5, h =>
    (gI 8 8 h (some a0)).bind fun v3 =>
    if v3 ≤ a5 then (
      if a4 = 0 then (
        some a3
      ) else (
        K0 a0 a1 a2 (a3 + (1)) h
      )
    ) else (
      if a4 = 0 then (
        (gR 8 9 h (some a0)).bind fun v4 =>
        (lI 10 h v4 a5).bind fun v5 =>
        if v5 = (5 : Int32) then (
          f_X8_belongs_84 K0 (f_X8_belongs_47 K0 n) a0 a1 a2 a3 a5 h
        ) else (
          (gR 8 9 h (some a0)).bind fun v6 =>
          (lI 10 h v6 a5).bind fun v7 =>
          if v7 = (8 : Int32) then (
            f_X8_belongs_84 K0 (f_X8_belongs_47 K0 n) a0 a1 a2 a3 a5 h
          ) else (
            f_X8_belongs_99 K0 (f_X8_belongs_47 K0 n) a0 a1 a2 a3 a5 h
          )
        )
      ) else (
        f_X8_belongs_95 K0 (f_X8_belongs_47 K0 n) a0 a1 a2 a3 a5 h
      )
    )
theorem x_X8_belongs_47 (G : Gm) (K0 : Nat → Int32 → Int32 → Int32 → AH → Option Int32) (hK0 : ∀ (a0 : Nat) (a1 : Int32) (a2 : Int32) (a3 : Int32) (h : AH) (o : Int32), K0 a0 a1 a2 a3 h = some o → GO G mX8_belongs 0 0 2 [(0, vr (some a0)), (1, vi a1), (2, vi a2), (3, vi a3)] [] h (some (vi o)) h) : ∀ (n : Nat) (a0 : Nat) (a1 : Int32) (a2 : Int32) (a3 : Int32) (a4 : Int32) (a5 : Int32) (h : AH) (o : Int32), f_X8_belongs_47 K0 n a0 a1 a2 a3 a4 a5 h = some o → GO G mX8_belongs 0 0 47 [(0, vr (some a0)), (1, vi a1), (2, vi a2), (3, vi a3), (4, vi a4), (5, vi a5)] [] h (some (vi o)) h := by
  intro n
  induction n with
  | zero => intro a0 a1 a2 a3 a4 a5 h o hf; cases hf
  | succ n ih =>
    intro a0 a1 a2 a3 a4 a5 h o hf
    rw [f_X8_belongs_47] at hf
    refine g_iload (M := mX8_belongs) dX8_belongs_47 5 rfl ?_
    refine g_aload_n (M := mX8_belongs) dX8_belongs_49 rfl 0 rfl ?_
    obtain ⟨v3, ev3, hf⟩ := bd hf
    refine g_getI (M := mX8_belongs) dX8_belongs_50 flRX8_89 (fun _ => rfl) ev3 ?_
    refine g_ic_ge (M := mX8_belongs) (tgt := 108) dX8_belongs_53 rfl (fun q53 => ?_) (fun q53 => ?_)
    · replace hf := ift hf q53
      refine g_iload (M := mX8_belongs) dX8_belongs_108 4 rfl ?_
      refine g_if_ne (M := mX8_belongs) (tgt := 115) dX8_belongs_110 rfl (fun q110 => ?_) (fun q110 => ?_)
      · replace hf := iff_ hf q110
        refine g_iinc (M := mX8_belongs) (j := 3) (L2 := [(3, vi (a3 + (1))), (0, vr (some a0)), (1, vi a1), (2, vi a2), (4, vi a4), (5, vi a5)]) dX8_belongs_115 rfl rfl (Nat.le_of_ble_eq_true rfl) rfl ?_
        refine g_goto (M := mX8_belongs) (tgt := 2) dX8_belongs_118 rfl ?_
        exact g_sub (M := mX8_belongs) (L2 := [(0, vr (some a0)), (1, vi a1), (2, vi a2), (3, vi (a3 + (1)))]) [1, 2, 3, 0] rfl <| hK0 a0 a1 a2 (a3 + (1)) h _ hf
      · replace hf := ift hf q110
        refine g_iload_n (M := mX8_belongs) dX8_belongs_113 rfl 3 rfl ?_
        cases hf
        exact g_ret (M := mX8_belongs) dX8_belongs_114 rfl
    · replace hf := iff_ hf q53
      refine g_iload (M := mX8_belongs) dX8_belongs_56 4 rfl ?_
      refine g_if_ne (M := mX8_belongs) (tgt := 95) dX8_belongs_58 rfl (fun q58 => ?_) (fun q58 => ?_)
      · replace hf := iff_ hf q58
        exact g_sub (M := mX8_belongs) (L2 := [(0, vr (some a0)), (1, vi a1), (2, vi a2), (3, vi a3), (5, vi a5)]) [0, 1, 2, 3, 5] rfl <| x_X8_belongs_95 G K0 hK0 (f_X8_belongs_47 K0 n) ih a0 a1 a2 a3 a5 h _ hf
      · replace hf := ift hf q58
        refine g_aload_n (M := mX8_belongs) dX8_belongs_61 rfl 0 rfl ?_
        obtain ⟨v4, ev4, hf⟩ := bd hf
        refine g_getR (M := mX8_belongs) dX8_belongs_62 flRX8_25 (fun _ => rfl) ev4 ?_
        refine g_iload (M := mX8_belongs) dX8_belongs_65 5 rfl ?_
        obtain ⟨v5, ev5, hf⟩ := bd hf
        refine g_iald (M := mX8_belongs) dX8_belongs_67 ev5 ?_
        refine g_iconst (M := mX8_belongs) (v := 5) dX8_belongs_68 rfl ?_
        refine g_ic_eq (M := mX8_belongs) (tgt := 84) dX8_belongs_69 rfl (fun q69 => ?_) (fun q69 => ?_)
        · replace hf := ift hf q69
          exact g_sub (M := mX8_belongs) (L2 := [(0, vr (some a0)), (1, vi a1), (2, vi a2), (3, vi a3), (5, vi a5)]) [0, 1, 2, 3, 5] rfl <| x_X8_belongs_84 G K0 hK0 (f_X8_belongs_47 K0 n) ih a0 a1 a2 a3 a5 h _ hf
        · replace hf := iff_ hf q69
          refine g_aload_n (M := mX8_belongs) dX8_belongs_72 rfl 0 rfl ?_
          obtain ⟨v6, ev6, hf⟩ := bd hf
          refine g_getR (M := mX8_belongs) dX8_belongs_73 flRX8_25 (fun _ => rfl) ev6 ?_
          refine g_iload (M := mX8_belongs) dX8_belongs_76 5 rfl ?_
          obtain ⟨v7, ev7, hf⟩ := bd hf
          refine g_iald (M := mX8_belongs) dX8_belongs_78 ev7 ?_
          refine g_bipush (M := mX8_belongs) (v := 8) dX8_belongs_79 rfl ?_
          refine g_ic_ne (M := mX8_belongs) (tgt := 99) dX8_belongs_81 rfl (fun q81 => ?_) (fun q81 => ?_)
          · replace hf := iff_ hf q81
            exact g_sub (M := mX8_belongs) (L2 := [(0, vr (some a0)), (1, vi a1), (2, vi a2), (3, vi a3), (5, vi a5)]) [0, 1, 2, 3, 5] rfl <| x_X8_belongs_99 G K0 hK0 (f_X8_belongs_47 K0 n) ih a0 a1 a2 a3 a5 h _ hf
          · replace hf := ift hf q81
            exact g_sub (M := mX8_belongs) (L2 := [(0, vr (some a0)), (1, vi a1), (2, vi a2), (3, vi a3), (5, vi a5)]) [0, 1, 2, 3, 5] rfl <| x_X8_belongs_84 G K0 hK0 (f_X8_belongs_47 K0 n) ih a0 a1 a2 a3 a5 h _ hf
def f_X8_belongs_2 : Nat → Nat → Int32 → Int32 → Int32 → AH → Option Int32
  | 0, _, _, _, _, _ => none
  | n + 1, a0, a1, a2, a3, h =>
    (gI 8 8 h (some a0)).bind fun v8 =>
    if v8 ≤ a3 then (
      some (-1 : Int32)
    ) else (
      (ck 8 h (some a0)).bind fun b9 =>
      (f_X8_isMembership b9 a3 h).bind fun r10 =>
      if (b2i r10) = 0 then (
        f_X8_belongs_2 n a0 a1 a2 (a3 + (1)) h
      ) else (
        (gR 8 10 h (some a0)).bind fun v11 =>
        (lI 10 h v11 a3).bind fun v12 =>
        if v12 = a1 then (
          (gR 8 11 h (some a0)).bind fun v13 =>
          (lI 10 h v13 a3).bind fun v14 =>
          if v14 = a2 then (
            f_X8_belongs_47 (f_X8_belongs_2 n) FU a0 a1 a2 a3 (0 : Int32) (0 : Int32) h
          ) else (
            f_X8_belongs_2 n a0 a1 a2 (a3 + (1)) h
          )
        ) else (
          f_X8_belongs_2 n a0 a1 a2 (a3 + (1)) h
        )
      )
    )
theorem x_X8_belongs_2 (G : Gm) : ∀ (n : Nat) (a0 : Nat) (a1 : Int32) (a2 : Int32) (a3 : Int32) (h : AH) (o : Int32), f_X8_belongs_2 n a0 a1 a2 a3 h = some o → GO G mX8_belongs 0 0 2 [(0, vr (some a0)), (1, vi a1), (2, vi a2), (3, vi a3)] [] h (some (vi o)) h := by
  intro n
  induction n with
  | zero => intro a0 a1 a2 a3 h o hf; cases hf
  | succ n ih =>
    intro a0 a1 a2 a3 h o hf
    rw [f_X8_belongs_2] at hf
    refine g_iload_n (M := mX8_belongs) dX8_belongs_2 rfl 3 rfl ?_
    refine g_aload_n (M := mX8_belongs) dX8_belongs_3 rfl 0 rfl ?_
    obtain ⟨v8, ev8, hf⟩ := bd hf
    refine g_getI (M := mX8_belongs) dX8_belongs_4 flRX8_89 (fun _ => rfl) ev8 ?_
    refine g_ic_ge (M := mX8_belongs) (tgt := 121) dX8_belongs_7 rfl (fun q7 => ?_) (fun q7 => ?_)
    · replace hf := ift hf q7
      refine g_iconst (M := mX8_belongs) (v := -1) dX8_belongs_121 rfl ?_
      cases hf
      exact g_ret (M := mX8_belongs) dX8_belongs_122 rfl
    · replace hf := iff_ hf q7
      refine g_aload_n (M := mX8_belongs) dX8_belongs_10 rfl 0 rfl ?_
      refine g_iload_n (M := mX8_belongs) dX8_belongs_11 rfl 3 rfl ?_
      obtain ⟨b9, eb9, hf⟩ := bd hf
      obtain ⟨r10, er10, hf⟩ := bd hf
      refine g_callV (M := mX8_belongs) (kc := 0) (ks := 0) (as := [vi a3]) (rest := []) dX8_belongs_12 cbX8_isMembership vwRX8_101 rfl eb9 rfl (Nat.le_of_ble_eq_true rfl) (Nat.le_of_ble_eq_true rfl) (c_X8_isMembership G b9 a3 h r10 er10) ?_
      refine g_if_eq (M := mX8_belongs) (tgt := 115) dX8_belongs_15 rfl (fun q15 => ?_) (fun q15 => ?_)
      · replace hf := ift hf q15
        refine g_iinc (M := mX8_belongs) (j := 3) (L2 := [(3, vi (a3 + (1))), (0, vr (some a0)), (1, vi a1), (2, vi a2)]) dX8_belongs_115 rfl rfl (Nat.le_of_ble_eq_true rfl) rfl ?_
        refine g_goto (M := mX8_belongs) (tgt := 2) dX8_belongs_118 rfl ?_
        exact g_sub (M := mX8_belongs) (L2 := [(0, vr (some a0)), (1, vi a1), (2, vi a2), (3, vi (a3 + (1)))]) [1, 2, 3, 0] rfl <| ih a0 a1 a2 (a3 + (1)) h _ hf
      · replace hf := iff_ hf q15
        refine g_aload_n (M := mX8_belongs) dX8_belongs_18 rfl 0 rfl ?_
        obtain ⟨v11, ev11, hf⟩ := bd hf
        refine g_getR (M := mX8_belongs) dX8_belongs_19 flRX8_28 (fun _ => rfl) ev11 ?_
        refine g_iload_n (M := mX8_belongs) dX8_belongs_22 rfl 3 rfl ?_
        obtain ⟨v12, ev12, hf⟩ := bd hf
        refine g_iald (M := mX8_belongs) dX8_belongs_23 ev12 ?_
        refine g_iload_n (M := mX8_belongs) dX8_belongs_24 rfl 1 rfl ?_
        refine g_ic_ne (M := mX8_belongs) (tgt := 115) dX8_belongs_25 rfl (fun q25 => ?_) (fun q25 => ?_)
        · replace hf := iff_ hf q25
          refine g_iinc (M := mX8_belongs) (j := 3) (L2 := [(3, vi (a3 + (1))), (0, vr (some a0)), (1, vi a1), (2, vi a2)]) dX8_belongs_115 rfl rfl (Nat.le_of_ble_eq_true rfl) rfl ?_
          refine g_goto (M := mX8_belongs) (tgt := 2) dX8_belongs_118 rfl ?_
          exact g_sub (M := mX8_belongs) (L2 := [(0, vr (some a0)), (1, vi a1), (2, vi a2), (3, vi (a3 + (1)))]) [1, 2, 3, 0] rfl <| ih a0 a1 a2 (a3 + (1)) h _ hf
        · replace hf := ift hf q25
          refine g_aload_n (M := mX8_belongs) dX8_belongs_28 rfl 0 rfl ?_
          obtain ⟨v13, ev13, hf⟩ := bd hf
          refine g_getR (M := mX8_belongs) dX8_belongs_29 flRX8_31 (fun _ => rfl) ev13 ?_
          refine g_iload_n (M := mX8_belongs) dX8_belongs_32 rfl 3 rfl ?_
          obtain ⟨v14, ev14, hf⟩ := bd hf
          refine g_iald (M := mX8_belongs) dX8_belongs_33 ev14 ?_
          refine g_iload_n (M := mX8_belongs) dX8_belongs_34 rfl 2 rfl ?_
          refine g_ic_eq (M := mX8_belongs) (tgt := 41) dX8_belongs_35 rfl (fun q35 => ?_) (fun q35 => ?_)
          · replace hf := ift hf q35
            refine g_iconst (M := mX8_belongs) (v := 0) dX8_belongs_41 rfl ?_
            refine g_istore (M := mX8_belongs) (L2 := [(4, vi (0 : Int32)), (0, vr (some a0)), (1, vi a1), (2, vi a2), (3, vi a3)]) dX8_belongs_42 (Nat.le_of_ble_eq_true rfl) rfl ?_
            refine g_iconst (M := mX8_belongs) (v := 0) dX8_belongs_44 rfl ?_
            refine g_istore (M := mX8_belongs) (L2 := [(5, vi (0 : Int32)), (4, vi (0 : Int32)), (0, vr (some a0)), (1, vi a1), (2, vi a2), (3, vi a3)]) dX8_belongs_45 (Nat.le_of_ble_eq_true rfl) rfl ?_
            exact g_sub (M := mX8_belongs) (L2 := [(0, vr (some a0)), (1, vi a1), (2, vi a2), (3, vi a3), (4, vi (0 : Int32)), (5, vi (0 : Int32))]) [2, 3, 4, 5, 1, 0] rfl <| x_X8_belongs_47 G (f_X8_belongs_2 n) ih FU a0 a1 a2 a3 (0 : Int32) (0 : Int32) h _ hf
          · replace hf := iff_ hf q35
            refine g_goto (M := mX8_belongs) (tgt := 115) dX8_belongs_38 rfl ?_
            refine g_iinc (M := mX8_belongs) (j := 3) (L2 := [(3, vi (a3 + (1))), (0, vr (some a0)), (1, vi a1), (2, vi a2)]) dX8_belongs_115 rfl rfl (Nat.le_of_ble_eq_true rfl) rfl ?_
            refine g_goto (M := mX8_belongs) (tgt := 2) dX8_belongs_118 rfl ?_
            exact g_sub (M := mX8_belongs) (L2 := [(0, vr (some a0)), (1, vi a1), (2, vi a2), (3, vi (a3 + (1)))]) [1, 2, 3, 0] rfl <| ih a0 a1 a2 (a3 + (1)) h _ hf
def f_X8_belongs (a0 : Nat) (a1 : Int32) (a2 : Int32) (h : AH) : Option Int32 :=
  f_X8_belongs_2 FU a0 a1 a2 (0 : Int32) h
theorem x_X8_belongs (G : Gm) (a0 : Nat) (a1 : Int32) (a2 : Int32) (h : AH) (o : Int32) (hf : f_X8_belongs a0 a1 a2 h = some o) : GO G mX8_belongs 0 0 0 [(0, vr (some a0)), (1, vi a1), (2, vi a2)] [] h (some (vi o)) h := by
  unfold f_X8_belongs at hf
  refine g_iconst (M := mX8_belongs) (v := 0) dX8_belongs_0 rfl ?_
  refine g_istore_n (M := mX8_belongs) (L2 := [(3, vi (0 : Int32)), (0, vr (some a0)), (1, vi a1), (2, vi a2)]) dX8_belongs_1 rfl (Nat.le_of_ble_eq_true rfl) rfl ?_
  exact g_sub (M := mX8_belongs) (L2 := [(0, vr (some a0)), (1, vi a1), (2, vi a2), (3, vi (0 : Int32))]) [1, 2, 3, 0] rfl <| x_X8_belongs_2 G FU a0 a1 a2 (0 : Int32) h _ hf
theorem c_X8_belongs (G : Gm) (a0 : Nat) (a1 : Int32) (a2 : Int32) (h : AH) (o : Int32) (hf : f_X8_belongs a0 a1 a2 h = some o) : CT G yX8_belongs mX8_belongs (some .int) 0 0 [vr (some a0), vi a1, vi a2] h (some (vi o)) h :=
  CT.int (by decide +kernel) rfl rfl rfl (Nat.le_of_ble_eq_true rfl) (x_X8_belongs G a0 a1 a2 h o hf)
theorem cbX8_belongs : CB yX8_belongs mX8_belongs (some .int) 2 := ⟨cd_yX8_belongs, itRX8, ⟨by decide, by decide⟩, by decide +kernel, by decide⟩
