abbrev mX8_change : MI := (RX8, "change", cX8_change, 7, .ireturn, 2)
def f_X8_change (a0 : Nat) (a1 : Int32) (a2 : Int32) (a3 : Int32) (a4 : Int32) (h : AH) : Option (Int32 × AH) :=
  (ck 8 h (some a0)).bind fun b1 =>
  (f_X8_isParty b1 a1 h).bind fun r2 =>
  if (b2i r2) = 0 then (
    some ((-2 : Int32), h)
  ) else (
    (ck 8 h (some a0)).bind fun b3 =>
    (f_X8_isArticle b3 a2 a3 h).bind fun r4 =>
    if (b2i r4) = 0 then (
      some ((-2 : Int32), h)
    ) else (
      if a4 < (1 : Int32) then (
        some ((-2 : Int32), h)
      ) else (
        if a4 ≤ (1000000 : Int32) then (
          (ck 8 h (some a0)).bind fun b5 =>
          (f_X8_isFull b5 h).bind fun r6 =>
          if (b2i r6) = 0 then (
            (ck 8 h (some a0)).bind fun b7 =>
            (f_X8_belongs b7 a1 a2 h).bind fun r8 =>
            if r8 = (-1 : Int32) then (
              some ((-6 : Int32), h)
            ) else (
              (ck 8 h (some a0)).bind fun b9 =>
              (f_X8_lodge b9 (6 : Int32) a1 a2 (0 : Int32) (-1 : Int32) r8 h).bind fun r10 =>
              (gR 8 16 r10.2 (some a0)).bind fun v11 =>
              (stI 10 r10.2 v11 r10.1 a3).bind fun h12 =>
              (gR 8 17 h12 (some a0)).bind fun v13 =>
              (stI 10 h12 v13 r10.1 a4).bind fun h14 =>
              some (r10.1, h14)
            )
          ) else (
            some ((-8 : Int32), h)
          )
        ) else (
          some ((-2 : Int32), h)
        )
      )
    )
  )
theorem x_X8_change (G : Gm) (a0 : Nat) (a1 : Int32) (a2 : Int32) (a3 : Int32) (a4 : Int32) (h : AH) (o : (Int32 × AH)) (hf : f_X8_change a0 a1 a2 a3 a4 h = some o) : GO G mX8_change 0 0 0 [(0, vr (some a0)), (1, vi a1), (2, vi a2), (3, vi a3), (4, vi a4)] [] h (some (vi o.1)) o.2 := by
  unfold f_X8_change at hf
  refine g_aload_n (M := mX8_change) dX8_change_0 rfl 0 rfl ?_
  refine g_iload_n (M := mX8_change) dX8_change_1 rfl 1 rfl ?_
  obtain ⟨b1, eb1, hf⟩ := bd hf
  obtain ⟨r2, er2, hf⟩ := bd hf
  refine g_callV (M := mX8_change) (kc := 0) (ks := 0) (as := [vi a1]) (rest := []) dX8_change_2 cbX8_isParty vwRX8_115 rfl eb1 rfl (Nat.le_of_ble_eq_true rfl) (Nat.le_of_ble_eq_true rfl) (c_X8_isParty G b1 a1 h r2 er2) ?_
  refine g_if_eq (M := mX8_change) (tgt := 30) dX8_change_5 rfl (fun q5 => ?_) (fun q5 => ?_)
  · replace hf := ift hf q5
    refine g_bipush (M := mX8_change) (v := -2) dX8_change_30 rfl ?_
    cases hf
    exact g_ret (M := mX8_change) dX8_change_32 rfl
  · replace hf := iff_ hf q5
    refine g_aload_n (M := mX8_change) dX8_change_8 rfl 0 rfl ?_
    refine g_iload_n (M := mX8_change) dX8_change_9 rfl 2 rfl ?_
    refine g_iload_n (M := mX8_change) dX8_change_10 rfl 3 rfl ?_
    obtain ⟨b3, eb3, hf⟩ := bd hf
    obtain ⟨r4, er4, hf⟩ := bd hf
    refine g_callV (M := mX8_change) (kc := 0) (ks := 0) (as := [vi a2, vi a3]) (rest := []) dX8_change_11 cbX8_isArticle vwRX8_93 rfl eb3 rfl (Nat.le_of_ble_eq_true rfl) (Nat.le_of_ble_eq_true rfl) (c_X8_isArticle G b3 a2 a3 h r4 er4) ?_
    refine g_if_eq (M := mX8_change) (tgt := 30) dX8_change_14 rfl (fun q14 => ?_) (fun q14 => ?_)
    · replace hf := ift hf q14
      refine g_bipush (M := mX8_change) (v := -2) dX8_change_30 rfl ?_
      cases hf
      exact g_ret (M := mX8_change) dX8_change_32 rfl
    · replace hf := iff_ hf q14
      refine g_iload (M := mX8_change) dX8_change_17 4 rfl ?_
      refine g_iconst (M := mX8_change) (v := 1) dX8_change_19 rfl ?_
      refine g_ic_lt (M := mX8_change) (tgt := 30) dX8_change_20 rfl (fun q20 => ?_) (fun q20 => ?_)
      · replace hf := ift hf q20
        refine g_bipush (M := mX8_change) (v := -2) dX8_change_30 rfl ?_
        cases hf
        exact g_ret (M := mX8_change) dX8_change_32 rfl
      · replace hf := iff_ hf q20
        refine g_iload (M := mX8_change) dX8_change_23 4 rfl ?_
        refine g_ldc (M := mX8_change) dX8_change_25 csRX8_97 ?_
        refine g_ic_le (M := mX8_change) (tgt := 33) dX8_change_27 rfl (fun q27 => ?_) (fun q27 => ?_)
        · replace hf := ift hf q27
          refine g_aload_n (M := mX8_change) dX8_change_33 rfl 0 rfl ?_
          obtain ⟨b5, eb5, hf⟩ := bd hf
          obtain ⟨r6, er6, hf⟩ := bd hf
          refine g_callV (M := mX8_change) (kc := 0) (ks := 0) (as := []) (rest := []) dX8_change_34 cbX8_isFull vwRX8_118 rfl eb5 rfl (Nat.le_of_ble_eq_true rfl) (Nat.le_of_ble_eq_true rfl) (c_X8_isFull G b5 h r6 er6) ?_
          refine g_if_eq (M := mX8_change) (tgt := 43) dX8_change_37 rfl (fun q37 => ?_) (fun q37 => ?_)
          · replace hf := ift hf q37
            refine g_aload_n (M := mX8_change) dX8_change_43 rfl 0 rfl ?_
            refine g_iload_n (M := mX8_change) dX8_change_44 rfl 1 rfl ?_
            refine g_iload_n (M := mX8_change) dX8_change_45 rfl 2 rfl ?_
            obtain ⟨b7, eb7, hf⟩ := bd hf
            obtain ⟨r8, er8, hf⟩ := bd hf
            refine g_callV (M := mX8_change) (kc := 0) (ks := 0) (as := [vi a1, vi a2]) (rest := []) dX8_change_46 cbX8_belongs vwRX8_129 rfl eb7 rfl (Nat.le_of_ble_eq_true rfl) (Nat.le_of_ble_eq_true rfl) (c_X8_belongs G b7 a1 a2 h r8 er8) ?_
            refine g_istore (M := mX8_change) (L2 := [(5, vi r8), (0, vr (some a0)), (1, vi a1), (2, vi a2), (3, vi a3), (4, vi a4)]) dX8_change_49 (Nat.le_of_ble_eq_true rfl) rfl ?_
            refine g_iload (M := mX8_change) dX8_change_51 0 rfl ?_
            refine g_iconst (M := mX8_change) (v := -1) dX8_change_53 rfl ?_
            refine g_ic_ne (M := mX8_change) (tgt := 60) dX8_change_54 rfl (fun q54 => ?_) (fun q54 => ?_)
            · replace hf := iff_ hf q54
              refine g_aload_n (M := mX8_change) dX8_change_60 rfl 1 rfl ?_
              refine g_bipush (M := mX8_change) (v := 6) dX8_change_61 rfl ?_
              refine g_iload_n (M := mX8_change) dX8_change_63 rfl 2 rfl ?_
              refine g_iload_n (M := mX8_change) dX8_change_64 rfl 3 rfl ?_
              refine g_iconst (M := mX8_change) (v := 0) dX8_change_65 rfl ?_
              refine g_iconst (M := mX8_change) (v := -1) dX8_change_66 rfl ?_
              refine g_iload (M := mX8_change) dX8_change_67 0 rfl ?_
              obtain ⟨b9, eb9, hf⟩ := bd hf
              obtain ⟨r10, er10, hf⟩ := bd hf
              refine g_callV (M := mX8_change) (kc := 0) (ks := 0) (as := [vi (6 : Int32), vi a1, vi a2, vi (0 : Int32), vi (-1 : Int32), vi r8]) (rest := []) dX8_change_69 cbX8_lodge vwRX8_125 rfl eb9 rfl (Nat.le_of_ble_eq_true rfl) (Nat.le_of_ble_eq_true rfl) (c_X8_lodge G b9 (6 : Int32) a1 a2 (0 : Int32) (-1 : Int32) r8 h r10 er10) ?_
              refine g_istore (M := mX8_change) (L2 := [(6, vi r10.1), (5, vi r8), (0, vr (some a0)), (1, vi a1), (2, vi a2), (3, vi a3), (4, vi a4)]) dX8_change_72 (Nat.le_of_ble_eq_true rfl) rfl ?_
              refine g_aload_n (M := mX8_change) dX8_change_74 rfl 2 rfl ?_
              obtain ⟨v11, ev11, hf⟩ := bd hf
              refine g_getR (M := mX8_change) dX8_change_75 flRX8_46 (fun _ => rfl) ev11 ?_
              refine g_iload (M := mX8_change) dX8_change_78 0 rfl ?_
              refine g_iload_n (M := mX8_change) dX8_change_80 rfl 5 rfl ?_
              obtain ⟨h12, eh12, hf⟩ := bd hf
              refine g_iast (M := mX8_change) dX8_change_81 eh12 ?_
              refine g_aload_n (M := mX8_change) dX8_change_82 rfl 2 rfl ?_
              obtain ⟨v13, ev13, hf⟩ := bd hf
              refine g_getR (M := mX8_change) dX8_change_83 flRX8_49 (fun _ => rfl) ev13 ?_
              refine g_iload (M := mX8_change) dX8_change_86 0 rfl ?_
              refine g_iload (M := mX8_change) dX8_change_88 6 rfl ?_
              obtain ⟨h14, eh14, hf⟩ := bd hf
              refine g_iast (M := mX8_change) dX8_change_90 eh14 ?_
              refine g_iload (M := mX8_change) dX8_change_91 0 rfl ?_
              cases hf
              exact g_ret (M := mX8_change) dX8_change_93 rfl
            · replace hf := ift hf q54
              refine g_bipush (M := mX8_change) (v := -6) dX8_change_57 rfl ?_
              cases hf
              exact g_ret (M := mX8_change) dX8_change_59 rfl
          · replace hf := iff_ hf q37
            refine g_bipush (M := mX8_change) (v := -8) dX8_change_40 rfl ?_
            cases hf
            exact g_ret (M := mX8_change) dX8_change_42 rfl
        · replace hf := iff_ hf q27
          refine g_bipush (M := mX8_change) (v := -2) dX8_change_30 rfl ?_
          cases hf
          exact g_ret (M := mX8_change) dX8_change_32 rfl
theorem c_X8_change (G : Gm) (a0 : Nat) (a1 : Int32) (a2 : Int32) (a3 : Int32) (a4 : Int32) (h : AH) (o : (Int32 × AH)) (hf : f_X8_change a0 a1 a2 a3 a4 h = some o) : CT G yX8_change mX8_change (some .int) 0 0 [vr (some a0), vi a1, vi a2, vi a3, vi a4] h (some (vi o.1)) o.2 :=
  CT.int (by decide +kernel) rfl rfl rfl (Nat.le_of_ble_eq_true rfl) (x_X8_change G a0 a1 a2 a3 a4 h o hf)
theorem cbX8_change : CB yX8_change mX8_change (some .int) 4 := ⟨cd_yX8_change, itRX8, ⟨by decide, by decide⟩, by decide +kernel, by decide⟩
abbrev mX8_consent : MI := (RX8, "consent", cX8_consent, 4, .ireturn, 2)
def f_X8_consent (a0 : Nat) (a1 : Int32) (a2 : Int32) (h : AH) : Option (Int32 × AH) :=
  (ck 8 h (some a0)).bind fun b1 =>
  (f_X8_isParty b1 a1 h).bind fun r2 =>
  if (b2i r2) = 0 then (
    some ((-2 : Int32), h)
  ) else (
    (ck 8 h (some a0)).bind fun b3 =>
    (f_X8_isPaper b3 a2 h).bind fun r4 =>
    if (b2i r4) = 0 then (
      some ((-2 : Int32), h)
    ) else (
      (gR 8 9 h (some a0)).bind fun v5 =>
      (lI 10 h v5 a2).bind fun v6 =>
      if v6 = (6 : Int32) then (
        (ck 8 h (some a0)).bind fun b7 =>
        (f_X8_isFull b7 h).bind fun r8 =>
        if (b2i r8) = 0 then (
          (gR 8 11 h (some a0)).bind fun v9 =>
          (lI 10 h v9 a2).bind fun v10 =>
          (ck 8 h (some a0)).bind fun b11 =>
          (f_X8_belongs b11 a1 v10 h).bind fun r12 =>
          if r12 = (-1 : Int32) then (
            some ((-6 : Int32), h)
          ) else (
            (ck 8 h (some a0)).bind fun b13 =>
            (f_X8_isSaid b13 (7 : Int32) a1 a2 r12 h).bind fun r14 =>
            if (b2i r14) = 0 then (
              (gR 8 11 h (some a0)).bind fun v15 =>
              (lI 10 h v15 a2).bind fun v16 =>
              (gR 8 5 h (some a0)).bind fun v17 =>
              (gR 8 11 h (some a0)).bind fun v18 =>
              (lI 10 h v18 a2).bind fun v19 =>
              (lI 10 h v17 v19).bind fun v20 =>
              (ck 8 h (some a0)).bind fun b21 =>
              (f_X8_lodge b21 (7 : Int32) a1 v16 v20 a2 r12 h).bind fun r22 =>
              some (r22.1, r22.2)
            ) else (
              some ((-4 : Int32), h)
            )
          )
        ) else (
          some ((-8 : Int32), h)
        )
      ) else (
        some ((-2 : Int32), h)
      )
    )
  )
theorem x_X8_consent (G : Gm) (a0 : Nat) (a1 : Int32) (a2 : Int32) (h : AH) (o : (Int32 × AH)) (hf : f_X8_consent a0 a1 a2 h = some o) : GO G mX8_consent 0 0 0 [(0, vr (some a0)), (1, vi a1), (2, vi a2)] [] h (some (vi o.1)) o.2 := by
  unfold f_X8_consent at hf
  refine g_aload_n (M := mX8_consent) dX8_consent_0 rfl 0 rfl ?_
  refine g_iload_n (M := mX8_consent) dX8_consent_1 rfl 1 rfl ?_
  obtain ⟨b1, eb1, hf⟩ := bd hf
  obtain ⟨r2, er2, hf⟩ := bd hf
  refine g_callV (M := mX8_consent) (kc := 0) (ks := 0) (as := [vi a1]) (rest := []) dX8_consent_2 cbX8_isParty vwRX8_115 rfl eb1 rfl (Nat.le_of_ble_eq_true rfl) (Nat.le_of_ble_eq_true rfl) (c_X8_isParty G b1 a1 h r2 er2) ?_
  refine g_if_eq (M := mX8_consent) (tgt := 27) dX8_consent_5 rfl (fun q5 => ?_) (fun q5 => ?_)
  · replace hf := ift hf q5
    refine g_bipush (M := mX8_consent) (v := -2) dX8_consent_27 rfl ?_
    cases hf
    exact g_ret (M := mX8_consent) dX8_consent_29 rfl
  · replace hf := iff_ hf q5
    refine g_aload_n (M := mX8_consent) dX8_consent_8 rfl 0 rfl ?_
    refine g_iload_n (M := mX8_consent) dX8_consent_9 rfl 2 rfl ?_
    obtain ⟨b3, eb3, hf⟩ := bd hf
    obtain ⟨r4, er4, hf⟩ := bd hf
    refine g_callV (M := mX8_consent) (kc := 0) (ks := 0) (as := [vi a2]) (rest := []) dX8_consent_10 cbX8_isPaper vwRX8_136 rfl eb3 rfl (Nat.le_of_ble_eq_true rfl) (Nat.le_of_ble_eq_true rfl) (c_X8_isPaper G b3 a2 h r4 er4) ?_
    refine g_if_eq (M := mX8_consent) (tgt := 27) dX8_consent_13 rfl (fun q13 => ?_) (fun q13 => ?_)
    · replace hf := ift hf q13
      refine g_bipush (M := mX8_consent) (v := -2) dX8_consent_27 rfl ?_
      cases hf
      exact g_ret (M := mX8_consent) dX8_consent_29 rfl
    · replace hf := iff_ hf q13
      refine g_aload_n (M := mX8_consent) dX8_consent_16 rfl 0 rfl ?_
      obtain ⟨v5, ev5, hf⟩ := bd hf
      refine g_getR (M := mX8_consent) dX8_consent_17 flRX8_25 (fun _ => rfl) ev5 ?_
      refine g_iload_n (M := mX8_consent) dX8_consent_20 rfl 2 rfl ?_
      obtain ⟨v6, ev6, hf⟩ := bd hf
      refine g_iald (M := mX8_consent) dX8_consent_21 ev6 ?_
      refine g_bipush (M := mX8_consent) (v := 6) dX8_consent_22 rfl ?_
      refine g_ic_eq (M := mX8_consent) (tgt := 30) dX8_consent_24 rfl (fun q24 => ?_) (fun q24 => ?_)
      · replace hf := ift hf q24
        refine g_aload_n (M := mX8_consent) dX8_consent_30 rfl 0 rfl ?_
        obtain ⟨b7, eb7, hf⟩ := bd hf
        obtain ⟨r8, er8, hf⟩ := bd hf
        refine g_callV (M := mX8_consent) (kc := 0) (ks := 0) (as := []) (rest := []) dX8_consent_31 cbX8_isFull vwRX8_118 rfl eb7 rfl (Nat.le_of_ble_eq_true rfl) (Nat.le_of_ble_eq_true rfl) (c_X8_isFull G b7 h r8 er8) ?_
        refine g_if_eq (M := mX8_consent) (tgt := 40) dX8_consent_34 rfl (fun q34 => ?_) (fun q34 => ?_)
        · replace hf := ift hf q34
          refine g_aload_n (M := mX8_consent) dX8_consent_40 rfl 0 rfl ?_
          refine g_iload_n (M := mX8_consent) dX8_consent_41 rfl 1 rfl ?_
          refine g_aload_n (M := mX8_consent) dX8_consent_42 rfl 0 rfl ?_
          obtain ⟨v9, ev9, hf⟩ := bd hf
          refine g_getR (M := mX8_consent) dX8_consent_43 flRX8_31 (fun _ => rfl) ev9 ?_
          refine g_iload_n (M := mX8_consent) dX8_consent_46 rfl 2 rfl ?_
          obtain ⟨v10, ev10, hf⟩ := bd hf
          refine g_iald (M := mX8_consent) dX8_consent_47 ev10 ?_
          obtain ⟨b11, eb11, hf⟩ := bd hf
          obtain ⟨r12, er12, hf⟩ := bd hf
          refine g_callV (M := mX8_consent) (kc := 0) (ks := 0) (as := [vi a1, vi v10]) (rest := []) dX8_consent_48 cbX8_belongs vwRX8_129 rfl eb11 rfl (Nat.le_of_ble_eq_true rfl) (Nat.le_of_ble_eq_true rfl) (c_X8_belongs G b11 a1 v10 h r12 er12) ?_
          refine g_istore_n (M := mX8_consent) (L2 := [(3, vi r12), (0, vr (some a0)), (1, vi a1), (2, vi a2)]) dX8_consent_51 rfl (Nat.le_of_ble_eq_true rfl) rfl ?_
          refine g_iload_n (M := mX8_consent) dX8_consent_52 rfl 0 rfl ?_
          refine g_iconst (M := mX8_consent) (v := -1) dX8_consent_53 rfl ?_
          refine g_ic_ne (M := mX8_consent) (tgt := 60) dX8_consent_54 rfl (fun q54 => ?_) (fun q54 => ?_)
          · replace hf := iff_ hf q54
            refine g_aload_n (M := mX8_consent) dX8_consent_60 rfl 1 rfl ?_
            refine g_bipush (M := mX8_consent) (v := 7) dX8_consent_61 rfl ?_
            refine g_iload_n (M := mX8_consent) dX8_consent_63 rfl 2 rfl ?_
            refine g_iload_n (M := mX8_consent) dX8_consent_64 rfl 3 rfl ?_
            refine g_iload_n (M := mX8_consent) dX8_consent_65 rfl 0 rfl ?_
            obtain ⟨b13, eb13, hf⟩ := bd hf
            obtain ⟨r14, er14, hf⟩ := bd hf
            refine g_callV (M := mX8_consent) (kc := 0) (ks := 0) (as := [vi (7 : Int32), vi a1, vi a2, vi r12]) (rest := []) dX8_consent_66 cbX8_isSaid vwRX8_139 rfl eb13 rfl (Nat.le_of_ble_eq_true rfl) (Nat.le_of_ble_eq_true rfl) (c_X8_isSaid G b13 (7 : Int32) a1 a2 r12 h r14 er14) ?_
            refine g_if_eq (M := mX8_consent) (tgt := 77) dX8_consent_69 rfl (fun q69 => ?_) (fun q69 => ?_)
            · replace hf := ift hf q69
              refine g_aload_n (M := mX8_consent) dX8_consent_77 rfl 1 rfl ?_
              refine g_bipush (M := mX8_consent) (v := 7) dX8_consent_78 rfl ?_
              refine g_iload_n (M := mX8_consent) dX8_consent_80 rfl 2 rfl ?_
              refine g_aload_n (M := mX8_consent) dX8_consent_81 rfl 1 rfl ?_
              obtain ⟨v15, ev15, hf⟩ := bd hf
              refine g_getR (M := mX8_consent) dX8_consent_82 flRX8_31 (fun _ => rfl) ev15 ?_
              refine g_iload_n (M := mX8_consent) dX8_consent_85 rfl 3 rfl ?_
              obtain ⟨v16, ev16, hf⟩ := bd hf
              refine g_iald (M := mX8_consent) dX8_consent_86 ev16 ?_
              refine g_aload_n (M := mX8_consent) dX8_consent_87 rfl 1 rfl ?_
              obtain ⟨v17, ev17, hf⟩ := bd hf
              refine g_getR (M := mX8_consent) dX8_consent_88 flRX8_16 (fun _ => rfl) ev17 ?_
              refine g_aload_n (M := mX8_consent) dX8_consent_91 rfl 1 rfl ?_
              obtain ⟨v18, ev18, hf⟩ := bd hf
              refine g_getR (M := mX8_consent) dX8_consent_92 flRX8_31 (fun _ => rfl) ev18 ?_
              refine g_iload_n (M := mX8_consent) dX8_consent_95 rfl 3 rfl ?_
              obtain ⟨v19, ev19, hf⟩ := bd hf
              refine g_iald (M := mX8_consent) dX8_consent_96 ev19 ?_
              obtain ⟨v20, ev20, hf⟩ := bd hf
              refine g_iald (M := mX8_consent) dX8_consent_97 ev20 ?_
              refine g_iload_n (M := mX8_consent) dX8_consent_98 rfl 3 rfl ?_
              refine g_iload_n (M := mX8_consent) dX8_consent_99 rfl 0 rfl ?_
              obtain ⟨b21, eb21, hf⟩ := bd hf
              obtain ⟨r22, er22, hf⟩ := bd hf
              refine g_callV (M := mX8_consent) (kc := 0) (ks := 0) (as := [vi (7 : Int32), vi a1, vi v16, vi v20, vi a2, vi r12]) (rest := []) dX8_consent_100 cbX8_lodge vwRX8_125 rfl eb21 rfl (Nat.le_of_ble_eq_true rfl) (Nat.le_of_ble_eq_true rfl) (c_X8_lodge G b21 (7 : Int32) a1 v16 v20 a2 r12 h r22 er22) ?_
              cases hf
              exact g_ret (M := mX8_consent) dX8_consent_103 rfl
            · replace hf := iff_ hf q69
              refine g_bipush (M := mX8_consent) (v := -4) dX8_consent_72 rfl ?_
              refine g_goto (M := mX8_consent) (tgt := 103) dX8_consent_74 rfl ?_
              cases hf
              exact g_ret (M := mX8_consent) dX8_consent_103 rfl
          · replace hf := ift hf q54
            refine g_bipush (M := mX8_consent) (v := -6) dX8_consent_57 rfl ?_
            cases hf
            exact g_ret (M := mX8_consent) dX8_consent_59 rfl
        · replace hf := iff_ hf q34
          refine g_bipush (M := mX8_consent) (v := -8) dX8_consent_37 rfl ?_
          cases hf
          exact g_ret (M := mX8_consent) dX8_consent_39 rfl
      · replace hf := iff_ hf q24
        refine g_bipush (M := mX8_consent) (v := -2) dX8_consent_27 rfl ?_
        cases hf
        exact g_ret (M := mX8_consent) dX8_consent_29 rfl
theorem c_X8_consent (G : Gm) (a0 : Nat) (a1 : Int32) (a2 : Int32) (h : AH) (o : (Int32 × AH)) (hf : f_X8_consent a0 a1 a2 h = some o) : CT G yX8_consent mX8_consent (some .int) 0 0 [vr (some a0), vi a1, vi a2] h (some (vi o.1)) o.2 :=
  CT.int (by decide +kernel) rfl rfl rfl (Nat.le_of_ble_eq_true rfl) (x_X8_consent G a0 a1 a2 h o hf)
theorem cbX8_consent : CB yX8_consent mX8_consent (some .int) 2 := ⟨cd_yX8_consent, itRX8, ⟨by decide, by decide⟩, by decide +kernel, by decide⟩
abbrev mX8_follow : MI := (RX8, "follow", cX8_follow, 7, .ireturn, 2)
def f_X8_follow_107 (a6 : Int32) (s0 : Option Nat) (s1 : Int32) (s2 : Int32) (h : AH) : Option (Int32 × AH) :=
  (stI 10 h s0 s1 s2).bind fun h1 =>
  some (a6, h1)
theorem x_X8_follow_107 (G : Gm) (a6 : Int32) (s0 : Option Nat) (s1 : Int32) (s2 : Int32) (h : AH) (o : (Int32 × AH)) (hf : f_X8_follow_107 a6 s0 s1 s2 h = some o) : GO G mX8_follow 0 0 107 [(6, vi a6)] [vi s2, vi s1, vr s0] h (some (vi o.1)) o.2 := by
  unfold f_X8_follow_107 at hf
  obtain ⟨h1, eh1, hf⟩ := bd hf
  refine g_iast (M := mX8_follow) dX8_follow_107 eh1 ?_
  refine g_iload (M := mX8_follow) dX8_follow_108 0 rfl ?_
  cases hf
  exact g_ret (M := mX8_follow) dX8_follow_110 rfl
def f_X8_follow (a0 : Nat) (a1 : Int32) (a2 : Int32) (a3 : Int32) (a4 : Int32) (h : AH) : Option (Int32 × AH) :=
  (ck 8 h (some a0)).bind fun b2 =>
  (f_X8_isParty b2 a1 h).bind fun r3 =>
  if (b2i r3) = 0 then (
    some ((-2 : Int32), h)
  ) else (
    (ck 8 h (some a0)).bind fun b4 =>
    (f_X8_isParty b4 a2 h).bind fun r5 =>
    if (b2i r5) = 0 then (
      some ((-2 : Int32), h)
    ) else (
      (ck 8 h (some a0)).bind fun b6 =>
      (f_X8_isAgreement b6 a3 h).bind fun r7 =>
      if (b2i r7) = 0 then (
        some ((-2 : Int32), h)
      ) else (
        (ck 8 h (some a0)).bind fun b8 =>
        (f_X8_isFull b8 h).bind fun r9 =>
        if (b2i r9) = 0 then (
          if a1 = a2 then (
            some ((-4 : Int32), h)
          ) else (
            (ck 8 h (some a0)).bind fun b10 =>
            (f_X8_belongs b10 a1 a3 h).bind fun r11 =>
            if r11 = (-1 : Int32) then (
              (ck 8 h (some a0)).bind fun b12 =>
              (f_X8_belongs b12 a2 a3 h).bind fun r13 =>
              if r13 = (-1 : Int32) then (
                some ((-6 : Int32), h)
              ) else (
                (gR 8 5 h (some a0)).bind fun v14 =>
                (lI 10 h v14 a3).bind fun v15 =>
                (ck 8 h (some a0)).bind fun b16 =>
                (f_X8_lodge b16 (8 : Int32) a1 a3 v15 r13 (-1 : Int32) h).bind fun r17 =>
                (gR 8 18 r17.2 (some a0)).bind fun v18 =>
                if a4 = 0 then (
                  f_X8_follow_107 r17.1 v18 r17.1 (0 : Int32) r17.2
                ) else (
                  f_X8_follow_107 r17.1 v18 r17.1 (1 : Int32) r17.2
                )
              )
            ) else (
              some ((-4 : Int32), h)
            )
          )
        ) else (
          some ((-8 : Int32), h)
        )
      )
    )
  )
theorem x_X8_follow (G : Gm) (a0 : Nat) (a1 : Int32) (a2 : Int32) (a3 : Int32) (a4 : Int32) (h : AH) (o : (Int32 × AH)) (hf : f_X8_follow a0 a1 a2 a3 a4 h = some o) : GO G mX8_follow 0 0 0 [(0, vr (some a0)), (1, vi a1), (2, vi a2), (3, vi a3), (4, vi a4)] [] h (some (vi o.1)) o.2 := by
  unfold f_X8_follow at hf
  refine g_aload_n (M := mX8_follow) dX8_follow_0 rfl 0 rfl ?_
  refine g_iload_n (M := mX8_follow) dX8_follow_1 rfl 1 rfl ?_
  obtain ⟨b2, eb2, hf⟩ := bd hf
  obtain ⟨r3, er3, hf⟩ := bd hf
  refine g_callV (M := mX8_follow) (kc := 0) (ks := 0) (as := [vi a1]) (rest := []) dX8_follow_2 cbX8_isParty vwRX8_115 rfl eb2 rfl (Nat.le_of_ble_eq_true rfl) (Nat.le_of_ble_eq_true rfl) (c_X8_isParty G b2 a1 h r3 er3) ?_
  refine g_if_eq (M := mX8_follow) (tgt := 24) dX8_follow_5 rfl (fun q5 => ?_) (fun q5 => ?_)
  · replace hf := ift hf q5
    refine g_bipush (M := mX8_follow) (v := -2) dX8_follow_24 rfl ?_
    cases hf
    exact g_ret (M := mX8_follow) dX8_follow_26 rfl
  · replace hf := iff_ hf q5
    refine g_aload_n (M := mX8_follow) dX8_follow_8 rfl 0 rfl ?_
    refine g_iload_n (M := mX8_follow) dX8_follow_9 rfl 2 rfl ?_
    obtain ⟨b4, eb4, hf⟩ := bd hf
    obtain ⟨r5, er5, hf⟩ := bd hf
    refine g_callV (M := mX8_follow) (kc := 0) (ks := 0) (as := [vi a2]) (rest := []) dX8_follow_10 cbX8_isParty vwRX8_115 rfl eb4 rfl (Nat.le_of_ble_eq_true rfl) (Nat.le_of_ble_eq_true rfl) (c_X8_isParty G b4 a2 h r5 er5) ?_
    refine g_if_eq (M := mX8_follow) (tgt := 24) dX8_follow_13 rfl (fun q13 => ?_) (fun q13 => ?_)
    · replace hf := ift hf q13
      refine g_bipush (M := mX8_follow) (v := -2) dX8_follow_24 rfl ?_
      cases hf
      exact g_ret (M := mX8_follow) dX8_follow_26 rfl
    · replace hf := iff_ hf q13
      refine g_aload_n (M := mX8_follow) dX8_follow_16 rfl 0 rfl ?_
      refine g_iload_n (M := mX8_follow) dX8_follow_17 rfl 3 rfl ?_
      obtain ⟨b6, eb6, hf⟩ := bd hf
      obtain ⟨r7, er7, hf⟩ := bd hf
      refine g_callV (M := mX8_follow) (kc := 0) (ks := 0) (as := [vi a3]) (rest := []) dX8_follow_18 cbX8_isAgreement vwRX8_85 rfl eb6 rfl (Nat.le_of_ble_eq_true rfl) (Nat.le_of_ble_eq_true rfl) (c_X8_isAgreement G b6 a3 h r7 er7) ?_
      refine g_if_ne (M := mX8_follow) (tgt := 27) dX8_follow_21 rfl (fun q21 => ?_) (fun q21 => ?_)
      · replace hf := iff_ hf q21
        refine g_aload_n (M := mX8_follow) dX8_follow_27 rfl 0 rfl ?_
        obtain ⟨b8, eb8, hf⟩ := bd hf
        obtain ⟨r9, er9, hf⟩ := bd hf
        refine g_callV (M := mX8_follow) (kc := 0) (ks := 0) (as := []) (rest := []) dX8_follow_28 cbX8_isFull vwRX8_118 rfl eb8 rfl (Nat.le_of_ble_eq_true rfl) (Nat.le_of_ble_eq_true rfl) (c_X8_isFull G b8 h r9 er9) ?_
        refine g_if_eq (M := mX8_follow) (tgt := 37) dX8_follow_31 rfl (fun q31 => ?_) (fun q31 => ?_)
        · replace hf := ift hf q31
          refine g_iload_n (M := mX8_follow) dX8_follow_37 rfl 1 rfl ?_
          refine g_iload_n (M := mX8_follow) dX8_follow_38 rfl 2 rfl ?_
          refine g_ic_eq (M := mX8_follow) (tgt := 52) dX8_follow_39 rfl (fun q39 => ?_) (fun q39 => ?_)
          · replace hf := ift hf q39
            refine g_bipush (M := mX8_follow) (v := -4) dX8_follow_52 rfl ?_
            cases hf
            exact g_ret (M := mX8_follow) dX8_follow_54 rfl
          · replace hf := iff_ hf q39
            refine g_aload_n (M := mX8_follow) dX8_follow_42 rfl 0 rfl ?_
            refine g_iload_n (M := mX8_follow) dX8_follow_43 rfl 1 rfl ?_
            refine g_iload_n (M := mX8_follow) dX8_follow_44 rfl 3 rfl ?_
            obtain ⟨b10, eb10, hf⟩ := bd hf
            obtain ⟨r11, er11, hf⟩ := bd hf
            refine g_callV (M := mX8_follow) (kc := 0) (ks := 0) (as := [vi a1, vi a3]) (rest := []) dX8_follow_45 cbX8_belongs vwRX8_129 rfl eb10 rfl (Nat.le_of_ble_eq_true rfl) (Nat.le_of_ble_eq_true rfl) (c_X8_belongs G b10 a1 a3 h r11 er11) ?_
            refine g_iconst (M := mX8_follow) (v := -1) dX8_follow_48 rfl ?_
            refine g_ic_eq (M := mX8_follow) (tgt := 55) dX8_follow_49 rfl (fun q49 => ?_) (fun q49 => ?_)
            · replace hf := ift hf q49
              refine g_aload_n (M := mX8_follow) dX8_follow_55 rfl 0 rfl ?_
              refine g_iload_n (M := mX8_follow) dX8_follow_56 rfl 2 rfl ?_
              refine g_iload_n (M := mX8_follow) dX8_follow_57 rfl 3 rfl ?_
              obtain ⟨b12, eb12, hf⟩ := bd hf
              obtain ⟨r13, er13, hf⟩ := bd hf
              refine g_callV (M := mX8_follow) (kc := 0) (ks := 0) (as := [vi a2, vi a3]) (rest := []) dX8_follow_58 cbX8_belongs vwRX8_129 rfl eb12 rfl (Nat.le_of_ble_eq_true rfl) (Nat.le_of_ble_eq_true rfl) (c_X8_belongs G b12 a2 a3 h r13 er13) ?_
              refine g_istore (M := mX8_follow) (L2 := [(5, vi r13), (0, vr (some a0)), (1, vi a1), (2, vi a2), (3, vi a3), (4, vi a4)]) dX8_follow_61 (Nat.le_of_ble_eq_true rfl) rfl ?_
              refine g_iload (M := mX8_follow) dX8_follow_63 0 rfl ?_
              refine g_iconst (M := mX8_follow) (v := -1) dX8_follow_65 rfl ?_
              refine g_ic_ne (M := mX8_follow) (tgt := 72) dX8_follow_66 rfl (fun q66 => ?_) (fun q66 => ?_)
              · replace hf := iff_ hf q66
                refine g_aload_n (M := mX8_follow) dX8_follow_72 rfl 1 rfl ?_
                refine g_bipush (M := mX8_follow) (v := 8) dX8_follow_73 rfl ?_
                refine g_iload_n (M := mX8_follow) dX8_follow_75 rfl 2 rfl ?_
                refine g_iload_n (M := mX8_follow) dX8_follow_76 rfl 4 rfl ?_
                refine g_aload_n (M := mX8_follow) dX8_follow_77 rfl 1 rfl ?_
                obtain ⟨v14, ev14, hf⟩ := bd hf
                refine g_getR (M := mX8_follow) dX8_follow_78 flRX8_16 (fun _ => rfl) ev14 ?_
                refine g_iload_n (M := mX8_follow) dX8_follow_81 rfl 4 rfl ?_
                obtain ⟨v15, ev15, hf⟩ := bd hf
                refine g_iald (M := mX8_follow) dX8_follow_82 ev15 ?_
                refine g_iload (M := mX8_follow) dX8_follow_83 0 rfl ?_
                refine g_iconst (M := mX8_follow) (v := -1) dX8_follow_85 rfl ?_
                obtain ⟨b16, eb16, hf⟩ := bd hf
                obtain ⟨r17, er17, hf⟩ := bd hf
                refine g_callV (M := mX8_follow) (kc := 0) (ks := 0) (as := [vi (8 : Int32), vi a1, vi a3, vi v15, vi r13, vi (-1 : Int32)]) (rest := []) dX8_follow_86 cbX8_lodge vwRX8_125 rfl eb16 rfl (Nat.le_of_ble_eq_true rfl) (Nat.le_of_ble_eq_true rfl) (c_X8_lodge G b16 (8 : Int32) a1 a3 v15 r13 (-1 : Int32) h r17 er17) ?_
                refine g_istore (M := mX8_follow) (L2 := [(6, vi r17.1), (5, vi r13), (0, vr (some a0)), (1, vi a1), (2, vi a2), (3, vi a3), (4, vi a4)]) dX8_follow_89 (Nat.le_of_ble_eq_true rfl) rfl ?_
                refine g_aload_n (M := mX8_follow) dX8_follow_91 rfl 2 rfl ?_
                obtain ⟨v18, ev18, hf⟩ := bd hf
                refine g_getR (M := mX8_follow) dX8_follow_92 flRX8_52 (fun _ => rfl) ev18 ?_
                refine g_iload (M := mX8_follow) dX8_follow_95 0 rfl ?_
                refine g_iload (M := mX8_follow) dX8_follow_97 6 rfl ?_
                refine g_if_eq (M := mX8_follow) (tgt := 106) dX8_follow_99 rfl (fun q99 => ?_) (fun q99 => ?_)
                · replace hf := ift hf q99
                  refine g_iconst (M := mX8_follow) (v := 0) dX8_follow_106 rfl ?_
                  exact g_sub (M := mX8_follow) (L2 := [(6, vi r17.1)]) [0] rfl <| x_X8_follow_107 G r17.1 v18 r17.1 (0 : Int32) r17.2 _ hf
                · replace hf := iff_ hf q99
                  refine g_iconst (M := mX8_follow) (v := 1) dX8_follow_102 rfl ?_
                  refine g_goto (M := mX8_follow) (tgt := 107) dX8_follow_103 rfl ?_
                  exact g_sub (M := mX8_follow) (L2 := [(6, vi r17.1)]) [0] rfl <| x_X8_follow_107 G r17.1 v18 r17.1 (1 : Int32) r17.2 _ hf
              · replace hf := ift hf q66
                refine g_bipush (M := mX8_follow) (v := -6) dX8_follow_69 rfl ?_
                cases hf
                exact g_ret (M := mX8_follow) dX8_follow_71 rfl
            · replace hf := iff_ hf q49
              refine g_bipush (M := mX8_follow) (v := -4) dX8_follow_52 rfl ?_
              cases hf
              exact g_ret (M := mX8_follow) dX8_follow_54 rfl
        · replace hf := iff_ hf q31
          refine g_bipush (M := mX8_follow) (v := -8) dX8_follow_34 rfl ?_
          cases hf
          exact g_ret (M := mX8_follow) dX8_follow_36 rfl
      · replace hf := ift hf q21
        refine g_bipush (M := mX8_follow) (v := -2) dX8_follow_24 rfl ?_
        cases hf
        exact g_ret (M := mX8_follow) dX8_follow_26 rfl
theorem c_X8_follow (G : Gm) (a0 : Nat) (a1 : Int32) (a2 : Int32) (a3 : Int32) (a4 : Int32) (h : AH) (o : (Int32 × AH)) (hf : f_X8_follow a0 a1 a2 a3 a4 h = some o) : CT G yX8_follow mX8_follow (some .int) 0 0 [vr (some a0), vi a1, vi a2, vi a3, vi a4] h (some (vi o.1)) o.2 :=
  CT.int (by decide +kernel) rfl rfl rfl (Nat.le_of_ble_eq_true rfl) (x_X8_follow G a0 a1 a2 a3 a4 h o hf)
theorem cbX8_follow : CB yX8_follow mX8_follow (some .int) 4 := ⟨cd_yX8_follow, itRX8, ⟨by decide, by decide⟩, by decide +kernel, by decide⟩
abbrev mX8_note : MI := (RX8, "note", cX8_note, 4, .ireturn, 1)
def f_X8_note (a0 : Nat) (a1 : Int64) (h : AH) : Option (Int32 × AH) :=
  (ck 8 h (some a0)).bind fun b1 =>
  (f_X8_isFull b1 h).bind fun r2 =>
  if (b2i r2) = 0 then (
    (ck 8 h (some a0)).bind fun b3 =>
    (f_X8_lodge b3 (9 : Int32) (-1 : Int32) (-1 : Int32) (0 : Int32) (-1 : Int32) (-1 : Int32) h).bind fun r4 =>
    (gR 8 19 r4.2 (some a0)).bind fun v5 =>
    (stJ 11 r4.2 v5 r4.1 a1).bind fun h6 =>
    some (r4.1, h6)
  ) else (
    some ((-8 : Int32), h)
  )
theorem x_X8_note (G : Gm) (a0 : Nat) (a1 : Int64) (h : AH) (o : (Int32 × AH)) (hf : f_X8_note a0 a1 h = some o) : GO G mX8_note 0 0 0 [(0, vr (some a0)), (1, vl a1)] [] h (some (vi o.1)) o.2 := by
  unfold f_X8_note at hf
  refine g_aload_n (M := mX8_note) dX8_note_0 rfl 0 rfl ?_
  obtain ⟨b1, eb1, hf⟩ := bd hf
  obtain ⟨r2, er2, hf⟩ := bd hf
  refine g_callV (M := mX8_note) (kc := 0) (ks := 0) (as := []) (rest := []) dX8_note_1 cbX8_isFull vwRX8_118 rfl eb1 rfl (Nat.le_of_ble_eq_true rfl) (Nat.le_of_ble_eq_true rfl) (c_X8_isFull G b1 h r2 er2) ?_
  refine g_if_eq (M := mX8_note) (tgt := 10) dX8_note_4 rfl (fun q4 => ?_) (fun q4 => ?_)
  · replace hf := ift hf q4
    refine g_aload_n (M := mX8_note) dX8_note_10 rfl 0 rfl ?_
    refine g_bipush (M := mX8_note) (v := 9) dX8_note_11 rfl ?_
    refine g_iconst (M := mX8_note) (v := -1) dX8_note_13 rfl ?_
    refine g_iconst (M := mX8_note) (v := -1) dX8_note_14 rfl ?_
    refine g_iconst (M := mX8_note) (v := 0) dX8_note_15 rfl ?_
    refine g_iconst (M := mX8_note) (v := -1) dX8_note_16 rfl ?_
    refine g_iconst (M := mX8_note) (v := -1) dX8_note_17 rfl ?_
    obtain ⟨b3, eb3, hf⟩ := bd hf
    obtain ⟨r4, er4, hf⟩ := bd hf
    refine g_callV (M := mX8_note) (kc := 0) (ks := 0) (as := [vi (9 : Int32), vi (-1 : Int32), vi (-1 : Int32), vi (0 : Int32), vi (-1 : Int32), vi (-1 : Int32)]) (rest := []) dX8_note_18 cbX8_lodge vwRX8_125 rfl eb3 rfl (Nat.le_of_ble_eq_true rfl) (Nat.le_of_ble_eq_true rfl) (c_X8_lodge G b3 (9 : Int32) (-1 : Int32) (-1 : Int32) (0 : Int32) (-1 : Int32) (-1 : Int32) h r4 er4) ?_
    refine g_istore_n (M := mX8_note) (L2 := [(3, vi r4.1), (0, vr (some a0)), (1, vl a1)]) dX8_note_21 rfl (Nat.le_of_ble_eq_true rfl) rfl ?_
    refine g_aload_n (M := mX8_note) dX8_note_22 rfl 1 rfl ?_
    obtain ⟨v5, ev5, hf⟩ := bd hf
    refine g_getR (M := mX8_note) dX8_note_23 flRX8_55 (fun _ => rfl) ev5 ?_
    refine g_iload_n (M := mX8_note) dX8_note_26 rfl 0 rfl ?_
    refine g_lload_n (M := mX8_note) dX8_note_27 rfl 2 rfl ?_
    obtain ⟨h6, eh6, hf⟩ := bd hf
    refine g_last (M := mX8_note) dX8_note_28 eh6 ?_
    refine g_iload_n (M := mX8_note) dX8_note_29 rfl 0 rfl ?_
    cases hf
    exact g_ret (M := mX8_note) dX8_note_30 rfl
  · replace hf := iff_ hf q4
    refine g_bipush (M := mX8_note) (v := -8) dX8_note_7 rfl ?_
    cases hf
    exact g_ret (M := mX8_note) dX8_note_9 rfl
theorem c_X8_note (G : Gm) (a0 : Nat) (a1 : Int64) (h : AH) (o : (Int32 × AH)) (hf : f_X8_note a0 a1 h = some o) : CT G yX8_note mX8_note (some .int) 0 0 [vr (some a0), vl a1] h (some (vi o.1)) o.2 :=
  CT.int (by decide +kernel) rfl rfl rfl (Nat.le_of_ble_eq_true rfl) (x_X8_note G a0 a1 h o hf)
theorem cbX8_note : CB yX8_note mX8_note (some .int) 1 := ⟨cd_yX8_note, itRX8, ⟨by decide, by decide⟩, by decide +kernel, by decide⟩
abbrev mX8_undo : MI := (RX8, "undo", cX8_undo, 1, .ireturn, 0)
def f_X8_undo (a0 : Nat) (h : AH) : Option (Int32 × AH) :=
  (gI 8 8 h (some a0)).bind fun v1 =>
  if v1 = 0 then (
    some ((-1 : Int32), h)
  ) else (
    (gR 8 12 h (some a0)).bind fun v2 =>
    (gI 8 8 h (some a0)).bind fun v3 =>
    (lI 10 h v2 (v3 - (1 : Int32))).bind fun v4 =>
    (gI 8 0 h (some a0)).bind fun v5 =>
    if v4 = v5 then (
      (gI 8 8 h (some a0)).bind fun v6 =>
      (pI 8 8 h (some a0) (v6 - (1 : Int32))).bind fun h7 =>
      (gI 8 8 h7 (some a0)).bind fun v8 =>
      some (v8, h7)
    ) else (
      some ((-1 : Int32), h)
    )
  )
theorem x_X8_undo (G : Gm) (a0 : Nat) (h : AH) (o : (Int32 × AH)) (hf : f_X8_undo a0 h = some o) : GO G mX8_undo 0 0 0 [(0, vr (some a0))] [] h (some (vi o.1)) o.2 := by
  unfold f_X8_undo at hf
  refine g_aload_n (M := mX8_undo) dX8_undo_0 rfl 0 rfl ?_
  obtain ⟨v1, ev1, hf⟩ := bd hf
  refine g_getI (M := mX8_undo) dX8_undo_1 flRX8_89 (fun _ => rfl) ev1 ?_
  refine g_if_eq (M := mX8_undo) (tgt := 25) dX8_undo_4 rfl (fun q4 => ?_) (fun q4 => ?_)
  · replace hf := ift hf q4
    refine g_iconst (M := mX8_undo) (v := -1) dX8_undo_25 rfl ?_
    cases hf
    exact g_ret (M := mX8_undo) dX8_undo_26 rfl
  · replace hf := iff_ hf q4
    refine g_aload_n (M := mX8_undo) dX8_undo_7 rfl 0 rfl ?_
    obtain ⟨v2, ev2, hf⟩ := bd hf
    refine g_getR (M := mX8_undo) dX8_undo_8 flRX8_34 (fun _ => rfl) ev2 ?_
    refine g_aload_n (M := mX8_undo) dX8_undo_11 rfl 0 rfl ?_
    obtain ⟨v3, ev3, hf⟩ := bd hf
    refine g_getI (M := mX8_undo) dX8_undo_12 flRX8_89 (fun _ => rfl) ev3 ?_
    refine g_iconst (M := mX8_undo) (v := 1) dX8_undo_15 rfl ?_
    refine g_isub (M := mX8_undo) dX8_undo_16 ?_
    obtain ⟨v4, ev4, hf⟩ := bd hf
    refine g_iald (M := mX8_undo) dX8_undo_17 ev4 ?_
    refine g_aload_n (M := mX8_undo) dX8_undo_18 rfl 0 rfl ?_
    obtain ⟨v5, ev5, hf⟩ := bd hf
    refine g_getI (M := mX8_undo) dX8_undo_19 flRX8_98 (fun _ => rfl) ev5 ?_
    refine g_ic_eq (M := mX8_undo) (tgt := 27) dX8_undo_22 rfl (fun q22 => ?_) (fun q22 => ?_)
    · replace hf := ift hf q22
      refine g_aload_n (M := mX8_undo) dX8_undo_27 rfl 0 rfl ?_
      refine g_dup (M := mX8_undo) dX8_undo_28 rfl ?_
      obtain ⟨v6, ev6, hf⟩ := bd hf
      refine g_getI (M := mX8_undo) dX8_undo_29 flRX8_89 (fun _ => rfl) ev6 ?_
      refine g_iconst (M := mX8_undo) (v := 1) dX8_undo_32 rfl ?_
      refine g_isub (M := mX8_undo) dX8_undo_33 ?_
      obtain ⟨h7, eh7, hf⟩ := bd hf
      refine g_putI (M := mX8_undo) dX8_undo_34 flRX8_89 rfl eh7 ?_
      refine g_aload_n (M := mX8_undo) dX8_undo_37 rfl 0 rfl ?_
      obtain ⟨v8, ev8, hf⟩ := bd hf
      refine g_getI (M := mX8_undo) dX8_undo_38 flRX8_89 (fun _ => rfl) ev8 ?_
      cases hf
      exact g_ret (M := mX8_undo) dX8_undo_41 rfl
    · replace hf := iff_ hf q22
      refine g_iconst (M := mX8_undo) (v := -1) dX8_undo_25 rfl ?_
      cases hf
      exact g_ret (M := mX8_undo) dX8_undo_26 rfl
theorem c_X8_undo (G : Gm) (a0 : Nat) (h : AH) (o : (Int32 × AH)) (hf : f_X8_undo a0 h = some o) : CT G yX8_undo mX8_undo (some .int) 0 0 [vr (some a0)] h (some (vi o.1)) o.2 :=
  CT.int (by decide +kernel) rfl rfl rfl (Nat.le_of_ble_eq_true rfl) (x_X8_undo G a0 h o hf)
theorem cbX8_undo : CB yX8_undo mX8_undo (some .int) 0 := ⟨cd_yX8_undo, itRX8, ⟨by decide, by decide⟩, by decide +kernel, by decide⟩
abbrev mX8_strong : MI := (RX8, "strong", cX8_strong, 6, .ireturn, 3)
def f_X8_strong_3 : Nat → Nat → Int32 → Int32 → Int32 → Int32 → Int32 → AH → Option Int32
  | 0, _, _, _, _, _, _, _ => none
  | n + 1, a0, a1, a2, a3, a4, a5, h =>
    (gI 8 8 h (some a0)).bind fun v1 =>
    if v1 ≤ a5 then (
      some (-1 : Int32)
    ) else (
      (gR 8 9 h (some a0)).bind fun v2 =>
      (lI 10 h v2 a5).bind fun v3 =>
      if v3 = (4 : Int32) then (
        (gR 8 18 h (some a0)).bind fun v4 =>
        (lI 10 h v4 a5).bind fun v5 =>
        if v5 = 0 then (
          (ck 8 h (some a0)).bind fun b6 =>
          (f_X8_hasPaper b6 a2 a5 a3 a4 h).bind fun r7 =>
          if (b2i r7) = 0 then (
            f_X8_strong_3 n a0 a1 a2 a3 a4 (a5 + (1)) h
          ) else (
            (gR 8 14 h (some a0)).bind fun v8 =>
            (lI 10 h v8 a5).bind fun v9 =>
            (ck 8 h (some a0)).bind fun b10 =>
            (f_X8_hasPaper b10 a1 v9 a3 a4 h).bind fun r11 =>
            if (b2i r11) = 0 then (
              f_X8_strong_3 n a0 a1 a2 a3 a4 (a5 + (1)) h
            ) else (
              some a5
            )
          )
        ) else (
          f_X8_strong_3 n a0 a1 a2 a3 a4 (a5 + (1)) h
        )
      ) else (
        f_X8_strong_3 n a0 a1 a2 a3 a4 (a5 + (1)) h
      )
    )
theorem x_X8_strong_3 (G : Gm) : ∀ (n : Nat) (a0 : Nat) (a1 : Int32) (a2 : Int32) (a3 : Int32) (a4 : Int32) (a5 : Int32) (h : AH) (o : Int32), f_X8_strong_3 n a0 a1 a2 a3 a4 a5 h = some o → GO G mX8_strong 0 0 3 [(0, vr (some a0)), (1, vi a1), (2, vi a2), (3, vi a3), (4, vi a4), (5, vi a5)] [] h (some (vi o)) h := by
  intro n
  induction n with
  | zero => intro a0 a1 a2 a3 a4 a5 h o hf; cases hf
  | succ n ih =>
    intro a0 a1 a2 a3 a4 a5 h o hf
    rw [f_X8_strong_3] at hf
    refine g_iload (M := mX8_strong) dX8_strong_3 5 rfl ?_
    refine g_aload_n (M := mX8_strong) dX8_strong_5 rfl 0 rfl ?_
    obtain ⟨v1, ev1, hf⟩ := bd hf
    refine g_getI (M := mX8_strong) dX8_strong_6 flRX8_89 (fun _ => rfl) ev1 ?_
    refine g_ic_ge (M := mX8_strong) (tgt := 73) dX8_strong_9 rfl (fun q9 => ?_) (fun q9 => ?_)
    · replace hf := ift hf q9
      refine g_iconst (M := mX8_strong) (v := -1) dX8_strong_73 rfl ?_
      cases hf
      exact g_ret (M := mX8_strong) dX8_strong_74 rfl
    · replace hf := iff_ hf q9
      refine g_aload_n (M := mX8_strong) dX8_strong_12 rfl 0 rfl ?_
      obtain ⟨v2, ev2, hf⟩ := bd hf
      refine g_getR (M := mX8_strong) dX8_strong_13 flRX8_25 (fun _ => rfl) ev2 ?_
      refine g_iload (M := mX8_strong) dX8_strong_16 5 rfl ?_
      obtain ⟨v3, ev3, hf⟩ := bd hf
      refine g_iald (M := mX8_strong) dX8_strong_18 ev3 ?_
      refine g_iconst (M := mX8_strong) (v := 4) dX8_strong_19 rfl ?_
      refine g_ic_ne (M := mX8_strong) (tgt := 67) dX8_strong_20 rfl (fun q20 => ?_) (fun q20 => ?_)
      · replace hf := iff_ hf q20
        refine g_iinc (M := mX8_strong) (j := 5) (L2 := [(5, vi (a5 + (1))), (0, vr (some a0)), (1, vi a1), (2, vi a2), (3, vi a3), (4, vi a4)]) dX8_strong_67 rfl rfl (Nat.le_of_ble_eq_true rfl) rfl ?_
        refine g_goto (M := mX8_strong) (tgt := 3) dX8_strong_70 rfl ?_
        exact g_sub (M := mX8_strong) (L2 := [(0, vr (some a0)), (1, vi a1), (2, vi a2), (3, vi a3), (4, vi a4), (5, vi (a5 + (1)))]) [1, 2, 3, 4, 5, 0] rfl <| ih a0 a1 a2 a3 a4 (a5 + (1)) h _ hf
      · replace hf := ift hf q20
        refine g_aload_n (M := mX8_strong) dX8_strong_23 rfl 0 rfl ?_
        obtain ⟨v4, ev4, hf⟩ := bd hf
        refine g_getR (M := mX8_strong) dX8_strong_24 flRX8_52 (fun _ => rfl) ev4 ?_
        refine g_iload (M := mX8_strong) dX8_strong_27 5 rfl ?_
        obtain ⟨v5, ev5, hf⟩ := bd hf
        refine g_iald (M := mX8_strong) dX8_strong_29 ev5 ?_
        refine g_if_ne (M := mX8_strong) (tgt := 67) dX8_strong_30 rfl (fun q30 => ?_) (fun q30 => ?_)
        · replace hf := iff_ hf q30
          refine g_iinc (M := mX8_strong) (j := 5) (L2 := [(5, vi (a5 + (1))), (0, vr (some a0)), (1, vi a1), (2, vi a2), (3, vi a3), (4, vi a4)]) dX8_strong_67 rfl rfl (Nat.le_of_ble_eq_true rfl) rfl ?_
          refine g_goto (M := mX8_strong) (tgt := 3) dX8_strong_70 rfl ?_
          exact g_sub (M := mX8_strong) (L2 := [(0, vr (some a0)), (1, vi a1), (2, vi a2), (3, vi a3), (4, vi a4), (5, vi (a5 + (1)))]) [1, 2, 3, 4, 5, 0] rfl <| ih a0 a1 a2 a3 a4 (a5 + (1)) h _ hf
        · replace hf := ift hf q30
          refine g_aload_n (M := mX8_strong) dX8_strong_33 rfl 0 rfl ?_
          refine g_iload_n (M := mX8_strong) dX8_strong_34 rfl 2 rfl ?_
          refine g_iload (M := mX8_strong) dX8_strong_35 5 rfl ?_
          refine g_iload_n (M := mX8_strong) dX8_strong_37 rfl 3 rfl ?_
          refine g_iload (M := mX8_strong) dX8_strong_38 4 rfl ?_
          obtain ⟨b6, eb6, hf⟩ := bd hf
          obtain ⟨r7, er7, hf⟩ := bd hf
          refine g_callV (M := mX8_strong) (kc := 0) (ks := 0) (as := [vi a2, vi a5, vi a3, vi a4]) (rest := []) dX8_strong_40 cbX8_hasPaper vwRX8_143 rfl eb6 rfl (Nat.le_of_ble_eq_true rfl) (Nat.le_of_ble_eq_true rfl) (c_X8_hasPaper G b6 a2 a5 a3 a4 h r7 er7) ?_
          refine g_if_eq (M := mX8_strong) (tgt := 67) dX8_strong_43 rfl (fun q43 => ?_) (fun q43 => ?_)
          · replace hf := ift hf q43
            refine g_iinc (M := mX8_strong) (j := 5) (L2 := [(5, vi (a5 + (1))), (0, vr (some a0)), (1, vi a1), (2, vi a2), (3, vi a3), (4, vi a4)]) dX8_strong_67 rfl rfl (Nat.le_of_ble_eq_true rfl) rfl ?_
            refine g_goto (M := mX8_strong) (tgt := 3) dX8_strong_70 rfl ?_
            exact g_sub (M := mX8_strong) (L2 := [(0, vr (some a0)), (1, vi a1), (2, vi a2), (3, vi a3), (4, vi a4), (5, vi (a5 + (1)))]) [1, 2, 3, 4, 5, 0] rfl <| ih a0 a1 a2 a3 a4 (a5 + (1)) h _ hf
          · replace hf := iff_ hf q43
            refine g_aload_n (M := mX8_strong) dX8_strong_46 rfl 0 rfl ?_
            refine g_iload_n (M := mX8_strong) dX8_strong_47 rfl 1 rfl ?_
            refine g_aload_n (M := mX8_strong) dX8_strong_48 rfl 0 rfl ?_
            obtain ⟨v8, ev8, hf⟩ := bd hf
            refine g_getR (M := mX8_strong) dX8_strong_49 flRX8_40 (fun _ => rfl) ev8 ?_
            refine g_iload (M := mX8_strong) dX8_strong_52 5 rfl ?_
            obtain ⟨v9, ev9, hf⟩ := bd hf
            refine g_iald (M := mX8_strong) dX8_strong_54 ev9 ?_
            refine g_iload_n (M := mX8_strong) dX8_strong_55 rfl 3 rfl ?_
            refine g_iload (M := mX8_strong) dX8_strong_56 4 rfl ?_
            obtain ⟨b10, eb10, hf⟩ := bd hf
            obtain ⟨r11, er11, hf⟩ := bd hf
            refine g_callV (M := mX8_strong) (kc := 0) (ks := 0) (as := [vi a1, vi v9, vi a3, vi a4]) (rest := []) dX8_strong_58 cbX8_hasPaper vwRX8_143 rfl eb10 rfl (Nat.le_of_ble_eq_true rfl) (Nat.le_of_ble_eq_true rfl) (c_X8_hasPaper G b10 a1 v9 a3 a4 h r11 er11) ?_
            refine g_if_eq (M := mX8_strong) (tgt := 67) dX8_strong_61 rfl (fun q61 => ?_) (fun q61 => ?_)
            · replace hf := ift hf q61
              refine g_iinc (M := mX8_strong) (j := 5) (L2 := [(5, vi (a5 + (1))), (0, vr (some a0)), (1, vi a1), (2, vi a2), (3, vi a3), (4, vi a4)]) dX8_strong_67 rfl rfl (Nat.le_of_ble_eq_true rfl) rfl ?_
              refine g_goto (M := mX8_strong) (tgt := 3) dX8_strong_70 rfl ?_
              exact g_sub (M := mX8_strong) (L2 := [(0, vr (some a0)), (1, vi a1), (2, vi a2), (3, vi a3), (4, vi a4), (5, vi (a5 + (1)))]) [1, 2, 3, 4, 5, 0] rfl <| ih a0 a1 a2 a3 a4 (a5 + (1)) h _ hf
            · replace hf := iff_ hf q61
              refine g_iload (M := mX8_strong) dX8_strong_64 5 rfl ?_
              cases hf
              exact g_ret (M := mX8_strong) dX8_strong_66 rfl
def f_X8_strong (a0 : Nat) (a1 : Int32) (a2 : Int32) (a3 : Int32) (a4 : Int32) (h : AH) : Option Int32 :=
  f_X8_strong_3 FU a0 a1 a2 a3 a4 (0 : Int32) h
theorem x_X8_strong (G : Gm) (a0 : Nat) (a1 : Int32) (a2 : Int32) (a3 : Int32) (a4 : Int32) (h : AH) (o : Int32) (hf : f_X8_strong a0 a1 a2 a3 a4 h = some o) : GO G mX8_strong 0 0 0 [(0, vr (some a0)), (1, vi a1), (2, vi a2), (3, vi a3), (4, vi a4)] [] h (some (vi o)) h := by
  unfold f_X8_strong at hf
  refine g_iconst (M := mX8_strong) (v := 0) dX8_strong_0 rfl ?_
  refine g_istore (M := mX8_strong) (L2 := [(5, vi (0 : Int32)), (0, vr (some a0)), (1, vi a1), (2, vi a2), (3, vi a3), (4, vi a4)]) dX8_strong_1 (Nat.le_of_ble_eq_true rfl) rfl ?_
  exact g_sub (M := mX8_strong) (L2 := [(0, vr (some a0)), (1, vi a1), (2, vi a2), (3, vi a3), (4, vi a4), (5, vi (0 : Int32))]) [1, 2, 3, 4, 5, 0] rfl <| x_X8_strong_3 G FU a0 a1 a2 a3 a4 (0 : Int32) h _ hf
theorem c_X8_strong (G : Gm) (a0 : Nat) (a1 : Int32) (a2 : Int32) (a3 : Int32) (a4 : Int32) (h : AH) (o : Int32) (hf : f_X8_strong a0 a1 a2 a3 a4 h = some o) : CT G yX8_strong mX8_strong (some .int) 0 0 [vr (some a0), vi a1, vi a2, vi a3, vi a4] h (some (vi o)) h :=
  CT.int (by decide +kernel) rfl rfl rfl (Nat.le_of_ble_eq_true rfl) (x_X8_strong G a0 a1 a2 a3 a4 h o hf)
theorem cbX8_strong : CB yX8_strong mX8_strong (some .int) 4 := ⟨cd_yX8_strong, itRX8, ⟨by decide, by decide⟩, by decide +kernel, by decide⟩
abbrev mX8_leastTo : MI := (RX8, "leastTo", cX8_leastTo, 7, .ireturn, 3)
def f_X8_leastTo_50 (K0 : Nat → Int32 → Int32 → Int32 → Int32 → Int32 → Int32 → AH → Option Int32) (a0 : Nat) (a1 : Int32) (a2 : Int32) (a3 : Int32) (a4 : Int32) (a5 : Int32) (a6 : Int32) (h : AH) : Option Int32 :=
  (ck 8 h (some a0)).bind fun b1 =>
  (f_X8_hasPaper b1 a3 a6 a4 a5 h).bind fun r2 =>
  if (b2i r2) = 0 then (
    K0 a0 a1 a2 a3 a4 a5 (a6 + (1)) h
  ) else (
    some a6
  )
theorem x_X8_leastTo_50 (G : Gm) (K0 : Nat → Int32 → Int32 → Int32 → Int32 → Int32 → Int32 → AH → Option Int32) (hK0 : ∀ (a0 : Nat) (a1 : Int32) (a2 : Int32) (a3 : Int32) (a4 : Int32) (a5 : Int32) (a6 : Int32) (h : AH) (o : Int32), K0 a0 a1 a2 a3 a4 a5 a6 h = some o → GO G mX8_leastTo 0 0 3 [(0, vr (some a0)), (1, vi a1), (2, vi a2), (3, vi a3), (4, vi a4), (5, vi a5), (6, vi a6)] [] h (some (vi o)) h) (a0 : Nat) (a1 : Int32) (a2 : Int32) (a3 : Int32) (a4 : Int32) (a5 : Int32) (a6 : Int32) (h : AH) (o : Int32) (hf : f_X8_leastTo_50 K0 a0 a1 a2 a3 a4 a5 a6 h = some o) : GO G mX8_leastTo 0 0 50 [(0, vr (some a0)), (1, vi a1), (2, vi a2), (3, vi a3), (4, vi a4), (5, vi a5), (6, vi a6)] [] h (some (vi o)) h := by
  unfold f_X8_leastTo_50 at hf
  refine g_aload_n (M := mX8_leastTo) dX8_leastTo_50 rfl 0 rfl ?_
  refine g_iload_n (M := mX8_leastTo) dX8_leastTo_51 rfl 3 rfl ?_
  refine g_iload (M := mX8_leastTo) dX8_leastTo_52 6 rfl ?_
  refine g_iload (M := mX8_leastTo) dX8_leastTo_54 4 rfl ?_
  refine g_iload (M := mX8_leastTo) dX8_leastTo_56 5 rfl ?_
  obtain ⟨b1, eb1, hf⟩ := bd hf
  obtain ⟨r2, er2, hf⟩ := bd hf
  refine g_callV (M := mX8_leastTo) (kc := 0) (ks := 0) (as := [vi a3, vi a6, vi a4, vi a5]) (rest := []) dX8_leastTo_58 cbX8_hasPaper vwRX8_143 rfl eb1 rfl (Nat.le_of_ble_eq_true rfl) (Nat.le_of_ble_eq_true rfl) (c_X8_hasPaper G b1 a3 a6 a4 a5 h r2 er2) ?_
  refine g_if_eq (M := mX8_leastTo) (tgt := 67) dX8_leastTo_61 rfl (fun q61 => ?_) (fun q61 => ?_)
  · replace hf := ift hf q61
    refine g_iinc (M := mX8_leastTo) (j := 6) (L2 := [(6, vi (a6 + (1))), (0, vr (some a0)), (1, vi a1), (2, vi a2), (3, vi a3), (4, vi a4), (5, vi a5)]) dX8_leastTo_67 rfl rfl (Nat.le_of_ble_eq_true rfl) rfl ?_
    refine g_goto (M := mX8_leastTo) (tgt := 3) dX8_leastTo_70 rfl ?_
    exact g_sub (M := mX8_leastTo) (L2 := [(0, vr (some a0)), (1, vi a1), (2, vi a2), (3, vi a3), (4, vi a4), (5, vi a5), (6, vi (a6 + (1)))]) [1, 2, 3, 4, 5, 6, 0] rfl <| hK0 a0 a1 a2 a3 a4 a5 (a6 + (1)) h _ hf
  · replace hf := iff_ hf q61
    refine g_iload (M := mX8_leastTo) dX8_leastTo_64 6 rfl ?_
    cases hf
    exact g_ret (M := mX8_leastTo) dX8_leastTo_66 rfl
def f_X8_leastTo_3 : Nat → Nat → Int32 → Int32 → Int32 → Int32 → Int32 → Int32 → AH → Option Int32
  | 0, _, _, _, _, _, _, _, _ => none
  | n + 1, a0, a1, a2, a3, a4, a5, a6, h =>
    (gI 8 8 h (some a0)).bind fun v3 =>
    if v3 ≤ a6 then (
      some (-1 : Int32)
    ) else (
      (gR 8 9 h (some a0)).bind fun v4 =>
      (lI 10 h v4 a6).bind fun v5 =>
      if v5 = a1 then (
        (gR 8 14 h (some a0)).bind fun v6 =>
        (lI 10 h v6 a6).bind fun v7 =>
        if v7 = a2 then (
          if a1 = (4 : Int32) then (
            (gR 8 18 h (some a0)).bind fun v8 =>
            (lI 10 h v8 a6).bind fun v9 =>
            if v9 = (1 : Int32) then (
              f_X8_leastTo_50 (f_X8_leastTo_3 n) a0 a1 a2 a3 a4 a5 a6 h
            ) else (
              f_X8_leastTo_3 n a0 a1 a2 a3 a4 a5 (a6 + (1)) h
            )
          ) else (
            f_X8_leastTo_50 (f_X8_leastTo_3 n) a0 a1 a2 a3 a4 a5 a6 h
          )
        ) else (
          f_X8_leastTo_3 n a0 a1 a2 a3 a4 a5 (a6 + (1)) h
        )
      ) else (
        f_X8_leastTo_3 n a0 a1 a2 a3 a4 a5 (a6 + (1)) h
      )
    )
theorem x_X8_leastTo_3 (G : Gm) : ∀ (n : Nat) (a0 : Nat) (a1 : Int32) (a2 : Int32) (a3 : Int32) (a4 : Int32) (a5 : Int32) (a6 : Int32) (h : AH) (o : Int32), f_X8_leastTo_3 n a0 a1 a2 a3 a4 a5 a6 h = some o → GO G mX8_leastTo 0 0 3 [(0, vr (some a0)), (1, vi a1), (2, vi a2), (3, vi a3), (4, vi a4), (5, vi a5), (6, vi a6)] [] h (some (vi o)) h := by
  intro n
  induction n with
  | zero => intro a0 a1 a2 a3 a4 a5 a6 h o hf; cases hf
  | succ n ih =>
    intro a0 a1 a2 a3 a4 a5 a6 h o hf
    rw [f_X8_leastTo_3] at hf
    refine g_iload (M := mX8_leastTo) dX8_leastTo_3 6 rfl ?_
    refine g_aload_n (M := mX8_leastTo) dX8_leastTo_5 rfl 0 rfl ?_
    obtain ⟨v3, ev3, hf⟩ := bd hf
    refine g_getI (M := mX8_leastTo) dX8_leastTo_6 flRX8_89 (fun _ => rfl) ev3 ?_
    refine g_ic_ge (M := mX8_leastTo) (tgt := 73) dX8_leastTo_9 rfl (fun q9 => ?_) (fun q9 => ?_)
    · replace hf := ift hf q9
      refine g_iconst (M := mX8_leastTo) (v := -1) dX8_leastTo_73 rfl ?_
      cases hf
      exact g_ret (M := mX8_leastTo) dX8_leastTo_74 rfl
    · replace hf := iff_ hf q9
      refine g_aload_n (M := mX8_leastTo) dX8_leastTo_12 rfl 0 rfl ?_
      obtain ⟨v4, ev4, hf⟩ := bd hf
      refine g_getR (M := mX8_leastTo) dX8_leastTo_13 flRX8_25 (fun _ => rfl) ev4 ?_
      refine g_iload (M := mX8_leastTo) dX8_leastTo_16 6 rfl ?_
      obtain ⟨v5, ev5, hf⟩ := bd hf
      refine g_iald (M := mX8_leastTo) dX8_leastTo_18 ev5 ?_
      refine g_iload_n (M := mX8_leastTo) dX8_leastTo_19 rfl 1 rfl ?_
      refine g_ic_ne (M := mX8_leastTo) (tgt := 67) dX8_leastTo_20 rfl (fun q20 => ?_) (fun q20 => ?_)
      · replace hf := iff_ hf q20
        refine g_iinc (M := mX8_leastTo) (j := 6) (L2 := [(6, vi (a6 + (1))), (0, vr (some a0)), (1, vi a1), (2, vi a2), (3, vi a3), (4, vi a4), (5, vi a5)]) dX8_leastTo_67 rfl rfl (Nat.le_of_ble_eq_true rfl) rfl ?_
        refine g_goto (M := mX8_leastTo) (tgt := 3) dX8_leastTo_70 rfl ?_
        exact g_sub (M := mX8_leastTo) (L2 := [(0, vr (some a0)), (1, vi a1), (2, vi a2), (3, vi a3), (4, vi a4), (5, vi a5), (6, vi (a6 + (1)))]) [1, 2, 3, 4, 5, 6, 0] rfl <| ih a0 a1 a2 a3 a4 a5 (a6 + (1)) h _ hf
      · replace hf := ift hf q20
        refine g_aload_n (M := mX8_leastTo) dX8_leastTo_23 rfl 0 rfl ?_
        obtain ⟨v6, ev6, hf⟩ := bd hf
        refine g_getR (M := mX8_leastTo) dX8_leastTo_24 flRX8_40 (fun _ => rfl) ev6 ?_
        refine g_iload (M := mX8_leastTo) dX8_leastTo_27 6 rfl ?_
        obtain ⟨v7, ev7, hf⟩ := bd hf
        refine g_iald (M := mX8_leastTo) dX8_leastTo_29 ev7 ?_
        refine g_iload_n (M := mX8_leastTo) dX8_leastTo_30 rfl 2 rfl ?_
        refine g_ic_ne (M := mX8_leastTo) (tgt := 67) dX8_leastTo_31 rfl (fun q31 => ?_) (fun q31 => ?_)
        · replace hf := iff_ hf q31
          refine g_iinc (M := mX8_leastTo) (j := 6) (L2 := [(6, vi (a6 + (1))), (0, vr (some a0)), (1, vi a1), (2, vi a2), (3, vi a3), (4, vi a4), (5, vi a5)]) dX8_leastTo_67 rfl rfl (Nat.le_of_ble_eq_true rfl) rfl ?_
          refine g_goto (M := mX8_leastTo) (tgt := 3) dX8_leastTo_70 rfl ?_
          exact g_sub (M := mX8_leastTo) (L2 := [(0, vr (some a0)), (1, vi a1), (2, vi a2), (3, vi a3), (4, vi a4), (5, vi a5), (6, vi (a6 + (1)))]) [1, 2, 3, 4, 5, 6, 0] rfl <| ih a0 a1 a2 a3 a4 a5 (a6 + (1)) h _ hf
        · replace hf := ift hf q31
          refine g_iload_n (M := mX8_leastTo) dX8_leastTo_34 rfl 1 rfl ?_
          refine g_iconst (M := mX8_leastTo) (v := 4) dX8_leastTo_35 rfl ?_
          refine g_ic_ne (M := mX8_leastTo) (tgt := 50) dX8_leastTo_36 rfl (fun q36 => ?_) (fun q36 => ?_)
          · replace hf := iff_ hf q36
            exact x_X8_leastTo_50 G (f_X8_leastTo_3 n) ih a0 a1 a2 a3 a4 a5 a6 h _ hf
          · replace hf := ift hf q36
            refine g_aload_n (M := mX8_leastTo) dX8_leastTo_39 rfl 0 rfl ?_
            obtain ⟨v8, ev8, hf⟩ := bd hf
            refine g_getR (M := mX8_leastTo) dX8_leastTo_40 flRX8_52 (fun _ => rfl) ev8 ?_
            refine g_iload (M := mX8_leastTo) dX8_leastTo_43 6 rfl ?_
            obtain ⟨v9, ev9, hf⟩ := bd hf
            refine g_iald (M := mX8_leastTo) dX8_leastTo_45 ev9 ?_
            refine g_iconst (M := mX8_leastTo) (v := 1) dX8_leastTo_46 rfl ?_
            refine g_ic_ne (M := mX8_leastTo) (tgt := 67) dX8_leastTo_47 rfl (fun q47 => ?_) (fun q47 => ?_)
            · replace hf := iff_ hf q47
              refine g_iinc (M := mX8_leastTo) (j := 6) (L2 := [(6, vi (a6 + (1))), (0, vr (some a0)), (1, vi a1), (2, vi a2), (3, vi a3), (4, vi a4), (5, vi a5)]) dX8_leastTo_67 rfl rfl (Nat.le_of_ble_eq_true rfl) rfl ?_
              refine g_goto (M := mX8_leastTo) (tgt := 3) dX8_leastTo_70 rfl ?_
              exact g_sub (M := mX8_leastTo) (L2 := [(0, vr (some a0)), (1, vi a1), (2, vi a2), (3, vi a3), (4, vi a4), (5, vi a5), (6, vi (a6 + (1)))]) [1, 2, 3, 4, 5, 6, 0] rfl <| ih a0 a1 a2 a3 a4 a5 (a6 + (1)) h _ hf
            · replace hf := ift hf q47
              exact x_X8_leastTo_50 G (f_X8_leastTo_3 n) ih a0 a1 a2 a3 a4 a5 a6 h _ hf
def f_X8_leastTo (a0 : Nat) (a1 : Int32) (a2 : Int32) (a3 : Int32) (a4 : Int32) (a5 : Int32) (h : AH) : Option Int32 :=
  f_X8_leastTo_3 FU a0 a1 a2 a3 a4 a5 (0 : Int32) h
theorem x_X8_leastTo (G : Gm) (a0 : Nat) (a1 : Int32) (a2 : Int32) (a3 : Int32) (a4 : Int32) (a5 : Int32) (h : AH) (o : Int32) (hf : f_X8_leastTo a0 a1 a2 a3 a4 a5 h = some o) : GO G mX8_leastTo 0 0 0 [(0, vr (some a0)), (1, vi a1), (2, vi a2), (3, vi a3), (4, vi a4), (5, vi a5)] [] h (some (vi o)) h := by
  unfold f_X8_leastTo at hf
  refine g_iconst (M := mX8_leastTo) (v := 0) dX8_leastTo_0 rfl ?_
  refine g_istore (M := mX8_leastTo) (L2 := [(6, vi (0 : Int32)), (0, vr (some a0)), (1, vi a1), (2, vi a2), (3, vi a3), (4, vi a4), (5, vi a5)]) dX8_leastTo_1 (Nat.le_of_ble_eq_true rfl) rfl ?_
  exact g_sub (M := mX8_leastTo) (L2 := [(0, vr (some a0)), (1, vi a1), (2, vi a2), (3, vi a3), (4, vi a4), (5, vi a5), (6, vi (0 : Int32))]) [1, 2, 3, 4, 5, 6, 0] rfl <| x_X8_leastTo_3 G FU a0 a1 a2 a3 a4 a5 (0 : Int32) h _ hf
theorem c_X8_leastTo (G : Gm) (a0 : Nat) (a1 : Int32) (a2 : Int32) (a3 : Int32) (a4 : Int32) (a5 : Int32) (h : AH) (o : Int32) (hf : f_X8_leastTo a0 a1 a2 a3 a4 a5 h = some o) : CT G yX8_leastTo mX8_leastTo (some .int) 0 0 [vr (some a0), vi a1, vi a2, vi a3, vi a4, vi a5] h (some (vi o)) h :=
  CT.int (by decide +kernel) rfl rfl rfl (Nat.le_of_ble_eq_true rfl) (x_X8_leastTo G a0 a1 a2 a3 a4 a5 h o hf)
theorem cbX8_leastTo : CB yX8_leastTo mX8_leastTo (some .int) 5 := ⟨cd_yX8_leastTo, itRX8, ⟨by decide, by decide⟩, by decide +kernel, by decide⟩
abbrev mX8_because : MI := (RX8, "because", cX8_because, 2, .return_, 0)
def f_X8_because (a0 : Nat) (a1 : Int32) (h : AH) : Option AH :=
  if a1 = (-1 : Int32) then (
    some h
  ) else (
    (gR 8 22 h (some a0)).bind fun v1 =>
    (stZ 12 h v1 a1 (1 : Int32)).bind fun h2 =>
    some h2
  )
theorem x_X8_because (G : Gm) (a0 : Nat) (a1 : Int32) (h : AH) (o : AH) (hf : f_X8_because a0 a1 h = some o) : GO G mX8_because 0 0 0 [(0, vr (some a0)), (1, vi a1)] [] h none o := by
  unfold f_X8_because at hf
  refine g_iload_n (M := mX8_because) dX8_because_0 rfl 1 rfl ?_
  refine g_iconst (M := mX8_because) (v := -1) dX8_because_1 rfl ?_
  refine g_ic_eq (M := mX8_because) (tgt := 12) dX8_because_2 rfl (fun q2 => ?_) (fun q2 => ?_)
  · replace hf := ift hf q2
    cases hf
    exact g_ret (M := mX8_because) dX8_because_12 rfl
  · replace hf := iff_ hf q2
    refine g_aload_n (M := mX8_because) dX8_because_5 rfl 0 rfl ?_
    obtain ⟨v1, ev1, hf⟩ := bd hf
    refine g_getR (M := mX8_because) dX8_because_6 flRX8_59 (fun _ => rfl) ev1 ?_
    refine g_iload_n (M := mX8_because) dX8_because_9 rfl 1 rfl ?_
    refine g_iconst (M := mX8_because) (v := 1) dX8_because_10 rfl ?_
    obtain ⟨h2, eh2, hf⟩ := bd hf
    refine g_zast (M := mX8_because) dX8_because_11 eh2 ?_
    cases hf
    exact g_ret (M := mX8_because) dX8_because_12 rfl
theorem c_X8_because (G : Gm) (a0 : Nat) (a1 : Int32) (h : AH) (o : AH) (hf : f_X8_because a0 a1 h = some o) : CT G yX8_because mX8_because none 0 0 [vr (some a0), vi a1] h none o :=
  CT.void (by decide +kernel) rfl rfl rfl (Nat.le_of_ble_eq_true rfl) (x_X8_because G a0 a1 h o hf)
theorem cbX8_because : CB yX8_because mX8_because none 1 := ⟨cd_yX8_because, itRX8, ⟨by decide, by decide⟩, by decide +kernel, by decide⟩
abbrev mX8_leans : MI := (RX8, "leans", cX8_leans, 2, .return_, 1)
def f_X8_leans_7 : Nat → Nat → Int32 → AH → Option AH
  | 0, _, _, _ => none
  | n + 1, a0, a1, h =>
    if a1 < 0 then (
      some h
    ) else (
      (gR 8 22 h (some a0)).bind fun v1 =>
      (lI 12 h v1 a1).bind fun v2 =>
      if v2 = 0 then (
        f_X8_leans_7 n a0 (a1 + (-1)) h
      ) else (
        (gR 8 15 h (some a0)).bind fun v3 =>
        (lI 10 h v3 a1).bind fun v4 =>
        (ck 8 h (some a0)).bind fun b5 =>
        (f_X8_because b5 v4 h).bind fun r6 =>
        (gR 8 9 r6 (some a0)).bind fun v7 =>
        (lI 10 r6 v7 a1).bind fun v8 =>
        if v8 = (8 : Int32) then (
          (gR 8 14 r6 (some a0)).bind fun v9 =>
          (lI 10 r6 v9 a1).bind fun v10 =>
          (ck 8 r6 (some a0)).bind fun b11 =>
          (f_X8_because b11 v10 r6).bind fun r12 =>
          f_X8_leans_7 n a0 (a1 + (-1)) r12
        ) else (
          f_X8_leans_7 n a0 (a1 + (-1)) r6
        )
      )
    )
theorem x_X8_leans_7 (G : Gm) : ∀ (n : Nat) (a0 : Nat) (a1 : Int32) (h : AH) (o : AH), f_X8_leans_7 n a0 a1 h = some o → GO G mX8_leans 0 0 7 [(0, vr (some a0)), (1, vi a1)] [] h none o := by
  intro n
  induction n with
  | zero => intro a0 a1 h o hf; cases hf
  | succ n ih =>
    intro a0 a1 h o hf
    rw [f_X8_leans_7] at hf
    refine g_iload_n (M := mX8_leans) dX8_leans_7 rfl 1 rfl ?_
    refine g_if_lt (M := mX8_leans) (tgt := 57) dX8_leans_8 rfl (fun q8 => ?_) (fun q8 => ?_)
    · replace hf := ift hf q8
      cases hf
      exact g_ret (M := mX8_leans) dX8_leans_57 rfl
    · replace hf := iff_ hf q8
      refine g_aload_n (M := mX8_leans) dX8_leans_11 rfl 0 rfl ?_
      obtain ⟨v1, ev1, hf⟩ := bd hf
      refine g_getR (M := mX8_leans) dX8_leans_12 flRX8_59 (fun _ => rfl) ev1 ?_
      refine g_iload_n (M := mX8_leans) dX8_leans_15 rfl 1 rfl ?_
      obtain ⟨v2, ev2, hf⟩ := bd hf
      refine g_zald (M := mX8_leans) dX8_leans_16 ev2 ?_
      refine g_if_eq (M := mX8_leans) (tgt := 51) dX8_leans_17 rfl (fun q17 => ?_) (fun q17 => ?_)
      · replace hf := ift hf q17
        refine g_iinc (M := mX8_leans) (j := 1) (L2 := [(1, vi (a1 + (-1))), (0, vr (some a0))]) dX8_leans_51 rfl rfl (Nat.le_of_ble_eq_true rfl) rfl ?_
        refine g_goto (M := mX8_leans) (tgt := 7) dX8_leans_54 rfl ?_
        exact g_sub (M := mX8_leans) (L2 := [(0, vr (some a0)), (1, vi (a1 + (-1)))]) [1, 0] rfl <| ih a0 (a1 + (-1)) h _ hf
      · replace hf := iff_ hf q17
        refine g_aload_n (M := mX8_leans) dX8_leans_20 rfl 0 rfl ?_
        refine g_aload_n (M := mX8_leans) dX8_leans_21 rfl 0 rfl ?_
        obtain ⟨v3, ev3, hf⟩ := bd hf
        refine g_getR (M := mX8_leans) dX8_leans_22 flRX8_43 (fun _ => rfl) ev3 ?_
        refine g_iload_n (M := mX8_leans) dX8_leans_25 rfl 1 rfl ?_
        obtain ⟨v4, ev4, hf⟩ := bd hf
        refine g_iald (M := mX8_leans) dX8_leans_26 ev4 ?_
        obtain ⟨b5, eb5, hf⟩ := bd hf
        obtain ⟨r6, er6, hf⟩ := bd hf
        refine g_callV (M := mX8_leans) (kc := 0) (ks := 0) (as := [vi v4]) (rest := []) dX8_leans_27 cbX8_because vwRX8_146 rfl eb5 rfl (Nat.le_of_ble_eq_true rfl) (Nat.le_of_ble_eq_true rfl) (c_X8_because G b5 v4 h r6 er6) ?_
        refine g_aload_n (M := mX8_leans) dX8_leans_30 rfl 0 rfl ?_
        obtain ⟨v7, ev7, hf⟩ := bd hf
        refine g_getR (M := mX8_leans) dX8_leans_31 flRX8_25 (fun _ => rfl) ev7 ?_
        refine g_iload_n (M := mX8_leans) dX8_leans_34 rfl 1 rfl ?_
        obtain ⟨v8, ev8, hf⟩ := bd hf
        refine g_iald (M := mX8_leans) dX8_leans_35 ev8 ?_
        refine g_bipush (M := mX8_leans) (v := 8) dX8_leans_36 rfl ?_
        refine g_ic_ne (M := mX8_leans) (tgt := 51) dX8_leans_38 rfl (fun q38 => ?_) (fun q38 => ?_)
        · replace hf := iff_ hf q38
          refine g_iinc (M := mX8_leans) (j := 1) (L2 := [(1, vi (a1 + (-1))), (0, vr (some a0))]) dX8_leans_51 rfl rfl (Nat.le_of_ble_eq_true rfl) rfl ?_
          refine g_goto (M := mX8_leans) (tgt := 7) dX8_leans_54 rfl ?_
          exact g_sub (M := mX8_leans) (L2 := [(0, vr (some a0)), (1, vi (a1 + (-1)))]) [1, 0] rfl <| ih a0 (a1 + (-1)) r6 _ hf
        · replace hf := ift hf q38
          refine g_aload_n (M := mX8_leans) dX8_leans_41 rfl 0 rfl ?_
          refine g_aload_n (M := mX8_leans) dX8_leans_42 rfl 0 rfl ?_
          obtain ⟨v9, ev9, hf⟩ := bd hf
          refine g_getR (M := mX8_leans) dX8_leans_43 flRX8_40 (fun _ => rfl) ev9 ?_
          refine g_iload_n (M := mX8_leans) dX8_leans_46 rfl 1 rfl ?_
          obtain ⟨v10, ev10, hf⟩ := bd hf
          refine g_iald (M := mX8_leans) dX8_leans_47 ev10 ?_
          obtain ⟨b11, eb11, hf⟩ := bd hf
          obtain ⟨r12, er12, hf⟩ := bd hf
          refine g_callV (M := mX8_leans) (kc := 0) (ks := 0) (as := [vi v10]) (rest := []) dX8_leans_48 cbX8_because vwRX8_146 rfl eb11 rfl (Nat.le_of_ble_eq_true rfl) (Nat.le_of_ble_eq_true rfl) (c_X8_because G b11 v10 r6 r12 er12) ?_
          refine g_iinc (M := mX8_leans) (j := 1) (L2 := [(1, vi (a1 + (-1))), (0, vr (some a0))]) dX8_leans_51 rfl rfl (Nat.le_of_ble_eq_true rfl) rfl ?_
          refine g_goto (M := mX8_leans) (tgt := 7) dX8_leans_54 rfl ?_
          exact g_sub (M := mX8_leans) (L2 := [(0, vr (some a0)), (1, vi (a1 + (-1)))]) [1, 0] rfl <| ih a0 (a1 + (-1)) r12 _ hf
def f_X8_leans (a0 : Nat) (h : AH) : Option AH :=
  (gI 8 8 h (some a0)).bind fun v13 =>
  f_X8_leans_7 FU a0 (v13 - (1 : Int32)) h
theorem x_X8_leans (G : Gm) (a0 : Nat) (h : AH) (o : AH) (hf : f_X8_leans a0 h = some o) : GO G mX8_leans 0 0 0 [(0, vr (some a0))] [] h none o := by
  unfold f_X8_leans at hf
  refine g_aload_n (M := mX8_leans) dX8_leans_0 rfl 0 rfl ?_
  obtain ⟨v13, ev13, hf⟩ := bd hf
  refine g_getI (M := mX8_leans) dX8_leans_1 flRX8_89 (fun _ => rfl) ev13 ?_
  refine g_iconst (M := mX8_leans) (v := 1) dX8_leans_4 rfl ?_
  refine g_isub (M := mX8_leans) dX8_leans_5 ?_
  refine g_istore_n (M := mX8_leans) (L2 := [(1, vi (v13 - (1 : Int32))), (0, vr (some a0))]) dX8_leans_6 rfl (Nat.le_of_ble_eq_true rfl) rfl ?_
  exact g_sub (M := mX8_leans) (L2 := [(0, vr (some a0)), (1, vi (v13 - (1 : Int32)))]) [1, 0] rfl <| x_X8_leans_7 G FU a0 (v13 - (1 : Int32)) h _ hf
theorem c_X8_leans (G : Gm) (a0 : Nat) (h : AH) (o : AH) (hf : f_X8_leans a0 h = some o) : CT G yX8_leans mX8_leans none 0 0 [vr (some a0)] h none o :=
  CT.void (by decide +kernel) rfl rfl rfl (Nat.le_of_ble_eq_true rfl) (x_X8_leans G a0 h o hf)
theorem cbX8_leans : CB yX8_leans mX8_leans none 0 := ⟨cd_yX8_leans, itRX8, ⟨by decide, by decide⟩, by decide +kernel, by decide⟩
