abbrev mL_law : MI := (RL, "law", cL_law, 4, .ireturn, 7)
def f_L_law_699 (G : Gm) (K0 : Option Nat → Option Nat → Int32 → AH → Option (Bool × AH)) (a1 : Option Nat) (a2 : Option Nat) (a3 : Int32) (s0 : Int32) (s1 : Option Nat) (s2 : Int32) (s3 : Int32) (s4 : Int32) (s5 : Int32) (h : AH) : Option (Bool × AH) :=
  (ck 8 h s1).bind fun b1 =>
  (f_X8_follow b1 s2 s3 s4 s5 h).bind fun r2 =>
  if s0 = r2.1 then (
    K0 a1 a2 (a3 + (8)) r2.2
  ) else (
    some (false, r2.2)
  )
theorem x_L_law_699 (G : Gm) (n : Nat) (K0 : Option Nat → Option Nat → Int32 → AH → Option (Bool × AH)) (hK0 : ∀ (a1 : Option Nat) (a2 : Option Nat) (a3 : Int32) (h : AH) (o : (Bool × AH)), K0 a1 a2 a3 h = some o → GO G mL_law (3 * n) (160 * n) 18 [(0, vr (some (gsb G))), (1, vr a1), (2, vr a2), (3, vi a3)] [] h (some (vi (b2i o.1))) o.2) (a1 : Option Nat) (a2 : Option Nat) (a3 : Int32) (s0 : Int32) (s1 : Option Nat) (s2 : Int32) (s3 : Int32) (s4 : Int32) (s5 : Int32) (h : AH) (o : (Bool × AH)) (hf : f_L_law_699 G K0 a1 a2 a3 s0 s1 s2 s3 s4 s5 h = some o) : GO G mL_law (3 * n + 0) (160 * n + 0) 699 [(0, vr (some (gsb G))), (1, vr a1), (2, vr a2), (3, vi a3)] [vi s5, vi s4, vi s3, vi s2, vr s1, vi s0] h (some (vi (b2i o.1))) o.2 := by
  unfold f_L_law_699 at hf
  refine g_weak (M := mL_law) (kc := (3 * n) + 0) (ks := (160 * n) + 0) (by omega) (by omega) ?_
  obtain ⟨b1, eb1, hf⟩ := bd hf
  obtain ⟨r2, er2, hf⟩ := bd hf
  refine g_callV (M := mL_law) (kc := (3 * n)) (ks := (160 * n)) (as := [vi s2, vi s3, vi s4, vi s5]) (rest := [vi s0]) dL_law_699 cbX8_follow vwRL_71 rfl eb1 rfl (Nat.le_of_ble_eq_true rfl) (Nat.le_of_ble_eq_true rfl) (c_X8_follow G b1 s2 s3 s4 s5 h r2 er2) ?_
  refine g_ic_eq (M := mL_law) (tgt := 1648) dL_law_702 rfl (fun q702 => ?_) (fun q702 => ?_)
  · replace hf := ift hf q702
    refine g_iinc (M := mL_law) (j := 3) (L2 := [(3, vi (a3 + (8))), (0, vr (some (gsb G))), (1, vr a1), (2, vr a2)]) dL_law_1648 rfl rfl (Nat.le_of_ble_eq_true rfl) rfl ?_
    refine g_goto (M := mL_law) (tgt := 18) dL_law_1651 rfl ?_
    exact g_weak (M := mL_law) (kc := 3 * n) (ks := 160 * n) (by omega) (by omega) <| g_sub (M := mL_law) (L2 := [(0, vr (some (gsb G))), (1, vr a1), (2, vr a2), (3, vi (a3 + (8)))]) [1, 2, 3, 0] rfl <| hK0 a1 a2 (a3 + (8)) r2.2 _ hf
  · replace hf := iff_ hf q702
    refine g_iconst (M := mL_law) (v := 0) dL_law_705 rfl ?_
    cases hf
    exact g_weak (M := mL_law) (Nat.zero_le _) (Nat.zero_le _) (g_ret (M := mL_law) dL_law_706 rfl)
def f_L_law_511 (G : Gm) (K0 : Option Nat → Option Nat → Int32 → AH → Option (Bool × AH)) (a1 : Option Nat) (a2 : Option Nat) (a3 : Int32) (s0 : Int32) (s1 : Option Nat) (s2 : Int32) (s3 : Int32) (s4 : Int32) (h : AH) : Option (Bool × AH) :=
  (ck 8 h s1).bind fun b3 =>
  (f_X8_object b3 s2 s3 s4 h).bind fun r4 =>
  if s0 = r4.1 then (
    K0 a1 a2 (a3 + (8)) r4.2
  ) else (
    some (false, r4.2)
  )
theorem x_L_law_511 (G : Gm) (n : Nat) (K0 : Option Nat → Option Nat → Int32 → AH → Option (Bool × AH)) (hK0 : ∀ (a1 : Option Nat) (a2 : Option Nat) (a3 : Int32) (h : AH) (o : (Bool × AH)), K0 a1 a2 a3 h = some o → GO G mL_law (3 * n) (160 * n) 18 [(0, vr (some (gsb G))), (1, vr a1), (2, vr a2), (3, vi a3)] [] h (some (vi (b2i o.1))) o.2) (a1 : Option Nat) (a2 : Option Nat) (a3 : Int32) (s0 : Int32) (s1 : Option Nat) (s2 : Int32) (s3 : Int32) (s4 : Int32) (h : AH) (o : (Bool × AH)) (hf : f_L_law_511 G K0 a1 a2 a3 s0 s1 s2 s3 s4 h = some o) : GO G mL_law (3 * n + 0) (160 * n + 0) 511 [(0, vr (some (gsb G))), (1, vr a1), (2, vr a2), (3, vi a3)] [vi s4, vi s3, vi s2, vr s1, vi s0] h (some (vi (b2i o.1))) o.2 := by
  unfold f_L_law_511 at hf
  refine g_weak (M := mL_law) (kc := (3 * n) + 0) (ks := (160 * n) + 0) (by omega) (by omega) ?_
  obtain ⟨b3, eb3, hf⟩ := bd hf
  obtain ⟨r4, er4, hf⟩ := bd hf
  refine g_callV (M := mL_law) (kc := (3 * n)) (ks := (160 * n)) (as := [vi s2, vi s3, vi s4]) (rest := [vi s0]) dL_law_511 cbX8_object vwRL_54 rfl eb3 rfl (Nat.le_of_ble_eq_true rfl) (Nat.le_of_ble_eq_true rfl) (c_X8_object G b3 s2 s3 s4 h r4 er4) ?_
  refine g_ic_eq (M := mL_law) (tgt := 1648) dL_law_514 rfl (fun q514 => ?_) (fun q514 => ?_)
  · replace hf := ift hf q514
    refine g_iinc (M := mL_law) (j := 3) (L2 := [(3, vi (a3 + (8))), (0, vr (some (gsb G))), (1, vr a1), (2, vr a2)]) dL_law_1648 rfl rfl (Nat.le_of_ble_eq_true rfl) rfl ?_
    refine g_goto (M := mL_law) (tgt := 18) dL_law_1651 rfl ?_
    exact g_weak (M := mL_law) (kc := 3 * n) (ks := 160 * n) (by omega) (by omega) <| g_sub (M := mL_law) (L2 := [(0, vr (some (gsb G))), (1, vr a1), (2, vr a2), (3, vi (a3 + (8)))]) [1, 2, 3, 0] rfl <| hK0 a1 a2 (a3 + (8)) r4.2 _ hf
  · replace hf := iff_ hf q514
    refine g_iconst (M := mL_law) (v := 0) dL_law_517 rfl ?_
    cases hf
    exact g_weak (M := mL_law) (Nat.zero_le _) (Nat.zero_le _) (g_ret (M := mL_law) dL_law_518 rfl)
def f_L_law_667 (G : Gm) (K0 : Option Nat → Option Nat → Int32 → AH → Option (Bool × AH)) (a1 : Option Nat) (a2 : Option Nat) (a3 : Int32) (s0 : Option Nat) (s1 : Int32) (s2 : Int32) (s3 : Int32) (s4 : Int32) (h : AH) : Option (Bool × AH) :=
  (ck 7 h s0).bind fun b5 =>
  (f_X7_follow b5 s1 s2 s3 s4 h).bind fun r6 =>
  (lS G (a3 + (1 : Int32))).bind fun v7 =>
  (lS G (a3 + (2 : Int32))).bind fun v8 =>
  (lS G (a3 + (3 : Int32))).bind fun v9 =>
  (lS G (a3 + (4 : Int32))).bind fun v10 =>
  if v10 = 0 then (
    f_L_law_699 G K0 a1 a2 a3 r6.1 a2 v7 v8 v9 (0 : Int32) r6.2
  ) else (
    f_L_law_699 G K0 a1 a2 a3 r6.1 a2 v7 v8 v9 (1 : Int32) r6.2
  )
theorem x_L_law_667 (G : Gm) (n : Nat) (K0 : Option Nat → Option Nat → Int32 → AH → Option (Bool × AH)) (hK0 : ∀ (a1 : Option Nat) (a2 : Option Nat) (a3 : Int32) (h : AH) (o : (Bool × AH)), K0 a1 a2 a3 h = some o → GO G mL_law (3 * n) (160 * n) 18 [(0, vr (some (gsb G))), (1, vr a1), (2, vr a2), (3, vi a3)] [] h (some (vi (b2i o.1))) o.2) (a1 : Option Nat) (a2 : Option Nat) (a3 : Int32) (s0 : Option Nat) (s1 : Int32) (s2 : Int32) (s3 : Int32) (s4 : Int32) (h : AH) (o : (Bool × AH)) (hf : f_L_law_667 G K0 a1 a2 a3 s0 s1 s2 s3 s4 h = some o) : GO G mL_law (3 * n + 1) (160 * n + 15) 667 [(0, vr (some (gsb G))), (1, vr a1), (2, vr a2), (3, vi a3)] [vi s4, vi s3, vi s2, vi s1, vr s0] h (some (vi (b2i o.1))) o.2 := by
  unfold f_L_law_667 at hf
  refine g_weak (M := mL_law) (kc := (3 * n) + 1) (ks := (160 * n) + 15) (by omega) (by omega) ?_
  obtain ⟨b5, eb5, hf⟩ := bd hf
  obtain ⟨r6, er6, hf⟩ := bd hf
  refine g_callV (M := mL_law) (kc := (3 * n)) (ks := (160 * n)) (as := [vi s1, vi s2, vi s3, vi s4]) (rest := []) dL_law_667 cbX7_follow vwRL_67 rfl eb5 rfl (Nat.le_of_ble_eq_true rfl) (Nat.le_of_ble_eq_true rfl) (c_X7_follow G b5 s1 s2 s3 s4 h r6 er6) ?_
  refine g_aload_n (M := mL_law) dL_law_670 rfl 2 rfl ?_
  refine g_aload_n (M := mL_law) dL_law_671 rfl 0 rfl ?_
  refine g_iload_n (M := mL_law) dL_law_672 rfl 3 rfl ?_
  refine g_iconst (M := mL_law) (v := 1) dL_law_673 rfl ?_
  refine g_iadd (M := mL_law) dL_law_674 ?_
  obtain ⟨v7, ev7, hf⟩ := bd hf
  refine g_sald (M := mL_law) dL_law_675 ev7 ?_
  refine g_aload_n (M := mL_law) dL_law_676 rfl 0 rfl ?_
  refine g_iload_n (M := mL_law) dL_law_677 rfl 3 rfl ?_
  refine g_iconst (M := mL_law) (v := 2) dL_law_678 rfl ?_
  refine g_iadd (M := mL_law) dL_law_679 ?_
  obtain ⟨v8, ev8, hf⟩ := bd hf
  refine g_sald (M := mL_law) dL_law_680 ev8 ?_
  refine g_aload_n (M := mL_law) dL_law_681 rfl 0 rfl ?_
  refine g_iload_n (M := mL_law) dL_law_682 rfl 3 rfl ?_
  refine g_iconst (M := mL_law) (v := 3) dL_law_683 rfl ?_
  refine g_iadd (M := mL_law) dL_law_684 ?_
  obtain ⟨v9, ev9, hf⟩ := bd hf
  refine g_sald (M := mL_law) dL_law_685 ev9 ?_
  refine g_aload_n (M := mL_law) dL_law_686 rfl 0 rfl ?_
  refine g_iload_n (M := mL_law) dL_law_687 rfl 3 rfl ?_
  refine g_iconst (M := mL_law) (v := 4) dL_law_688 rfl ?_
  refine g_iadd (M := mL_law) dL_law_689 ?_
  obtain ⟨v10, ev10, hf⟩ := bd hf
  refine g_sald (M := mL_law) dL_law_690 ev10 ?_
  refine g_if_eq (M := mL_law) (tgt := 698) dL_law_691 rfl (fun q691 => ?_) (fun q691 => ?_)
  · replace hf := ift hf q691
    refine g_iconst (M := mL_law) (v := 0) dL_law_698 rfl ?_
    exact g_weak (M := mL_law) (kc := 3 * n + 0) (ks := 160 * n + 0) (by omega) (by omega) <| x_L_law_699 G n K0 hK0 a1 a2 a3 r6.1 a2 v7 v8 v9 (0 : Int32) r6.2 _ hf
  · replace hf := iff_ hf q691
    refine g_iconst (M := mL_law) (v := 1) dL_law_694 rfl ?_
    refine g_goto (M := mL_law) (tgt := 699) dL_law_695 rfl ?_
    exact g_weak (M := mL_law) (kc := 3 * n + 0) (ks := 160 * n + 0) (by omega) (by omega) <| x_L_law_699 G n K0 hK0 a1 a2 a3 r6.1 a2 v7 v8 v9 (1 : Int32) r6.2 _ hf
def f_L_law_484 (G : Gm) (K0 : Option Nat → Option Nat → Int32 → AH → Option (Bool × AH)) (a1 : Option Nat) (a2 : Option Nat) (a3 : Int32) (s0 : Option Nat) (s1 : Int32) (s2 : Int32) (s3 : Int32) (h : AH) : Option (Bool × AH) :=
  (ck 7 h s0).bind fun b11 =>
  (f_X7_object b11 s1 s2 s3 h).bind fun r12 =>
  (lS G (a3 + (1 : Int32))).bind fun v13 =>
  (lS G (a3 + (2 : Int32))).bind fun v14 =>
  (lS G (a3 + (3 : Int32))).bind fun v15 =>
  if v15 = 0 then (
    f_L_law_511 G K0 a1 a2 a3 r12.1 a2 v13 v14 (0 : Int32) r12.2
  ) else (
    f_L_law_511 G K0 a1 a2 a3 r12.1 a2 v13 v14 (1 : Int32) r12.2
  )
theorem x_L_law_484 (G : Gm) (n : Nat) (K0 : Option Nat → Option Nat → Int32 → AH → Option (Bool × AH)) (hK0 : ∀ (a1 : Option Nat) (a2 : Option Nat) (a3 : Int32) (h : AH) (o : (Bool × AH)), K0 a1 a2 a3 h = some o → GO G mL_law (3 * n) (160 * n) 18 [(0, vr (some (gsb G))), (1, vr a1), (2, vr a2), (3, vi a3)] [] h (some (vi (b2i o.1))) o.2) (a1 : Option Nat) (a2 : Option Nat) (a3 : Int32) (s0 : Option Nat) (s1 : Int32) (s2 : Int32) (s3 : Int32) (h : AH) (o : (Bool × AH)) (hf : f_L_law_484 G K0 a1 a2 a3 s0 s1 s2 s3 h = some o) : GO G mL_law (3 * n + 1) (160 * n + 15) 484 [(0, vr (some (gsb G))), (1, vr a1), (2, vr a2), (3, vi a3)] [vi s3, vi s2, vi s1, vr s0] h (some (vi (b2i o.1))) o.2 := by
  unfold f_L_law_484 at hf
  refine g_weak (M := mL_law) (kc := (3 * n) + 1) (ks := (160 * n) + 15) (by omega) (by omega) ?_
  obtain ⟨b11, eb11, hf⟩ := bd hf
  obtain ⟨r12, er12, hf⟩ := bd hf
  refine g_callV (M := mL_law) (kc := (3 * n)) (ks := (160 * n)) (as := [vi s1, vi s2, vi s3]) (rest := []) dL_law_484 cbX7_object vwRL_50 rfl eb11 rfl (Nat.le_of_ble_eq_true rfl) (Nat.le_of_ble_eq_true rfl) (c_X7_object G b11 s1 s2 s3 h r12 er12) ?_
  refine g_aload_n (M := mL_law) dL_law_487 rfl 2 rfl ?_
  refine g_aload_n (M := mL_law) dL_law_488 rfl 0 rfl ?_
  refine g_iload_n (M := mL_law) dL_law_489 rfl 3 rfl ?_
  refine g_iconst (M := mL_law) (v := 1) dL_law_490 rfl ?_
  refine g_iadd (M := mL_law) dL_law_491 ?_
  obtain ⟨v13, ev13, hf⟩ := bd hf
  refine g_sald (M := mL_law) dL_law_492 ev13 ?_
  refine g_aload_n (M := mL_law) dL_law_493 rfl 0 rfl ?_
  refine g_iload_n (M := mL_law) dL_law_494 rfl 3 rfl ?_
  refine g_iconst (M := mL_law) (v := 2) dL_law_495 rfl ?_
  refine g_iadd (M := mL_law) dL_law_496 ?_
  obtain ⟨v14, ev14, hf⟩ := bd hf
  refine g_sald (M := mL_law) dL_law_497 ev14 ?_
  refine g_aload_n (M := mL_law) dL_law_498 rfl 0 rfl ?_
  refine g_iload_n (M := mL_law) dL_law_499 rfl 3 rfl ?_
  refine g_iconst (M := mL_law) (v := 3) dL_law_500 rfl ?_
  refine g_iadd (M := mL_law) dL_law_501 ?_
  obtain ⟨v15, ev15, hf⟩ := bd hf
  refine g_sald (M := mL_law) dL_law_502 ev15 ?_
  refine g_if_eq (M := mL_law) (tgt := 510) dL_law_503 rfl (fun q503 => ?_) (fun q503 => ?_)
  · replace hf := ift hf q503
    refine g_iconst (M := mL_law) (v := 0) dL_law_510 rfl ?_
    exact g_weak (M := mL_law) (kc := 3 * n + 0) (ks := 160 * n + 0) (by omega) (by omega) <| x_L_law_511 G n K0 hK0 a1 a2 a3 r12.1 a2 v13 v14 (0 : Int32) r12.2 _ hf
  · replace hf := iff_ hf q503
    refine g_iconst (M := mL_law) (v := 1) dL_law_506 rfl ?_
    refine g_goto (M := mL_law) (tgt := 511) dL_law_507 rfl ?_
    exact g_weak (M := mL_law) (kc := 3 * n + 0) (ks := 160 * n + 0) (by omega) (by omega) <| x_L_law_511 G n K0 hK0 a1 a2 a3 r12.1 a2 v13 v14 (1 : Int32) r12.2 _ hf
def f_L_law_18 (G : Gm) : Nat → Option Nat → Option Nat → Int32 → AH → Option (Bool × AH)
  | 0, _, _, _, _ => none
  | n + 1, a1, a2, a3, h =>
    if ((nI (gsL G)) - (8 : Int32)) < a3 then (
      some (true, h)
    ) else (
      (lS G a3).bind fun v16 =>
      if (v16 &&& (31 : Int32)) = 0 then (
        (ck 7 h a1).bind fun b17 =>
        (f_X7_party b17 h).bind fun r18 =>
        (ck 8 r18.2 a2).bind fun b19 =>
        (f_X8_party b19 r18.2).bind fun r20 =>
        if r18.1 = r20.1 then (
          f_L_law_18 G n a1 a2 (a3 + (8)) r20.2
        ) else (
          some (false, r20.2)
        )
      ) else (
        if (v16 &&& (31 : Int32)) = 1 then (
          (lS G (a3 + (1 : Int32))).bind fun v21 =>
          (lS G (a3 + (2 : Int32))).bind fun v22 =>
          (lS G (a3 + (3 : Int32))).bind fun v23 =>
          (lS G (a3 + (4 : Int32))).bind fun v24 =>
          (ck 7 h a1).bind fun b25 =>
          (f_X7_agreement b25 v21 v22 v23 v24 h).bind fun r26 =>
          (lS G (a3 + (1 : Int32))).bind fun v27 =>
          (lS G (a3 + (2 : Int32))).bind fun v28 =>
          (lS G (a3 + (3 : Int32))).bind fun v29 =>
          (lS G (a3 + (4 : Int32))).bind fun v30 =>
          (ck 8 r26.2 a2).bind fun b31 =>
          (f_X8_agreement b31 v27 v28 v29 v30 r26.2).bind fun r32 =>
          if r26.1 = r32.1 then (
            f_L_law_18 G n a1 a2 (a3 + (8)) r32.2
          ) else (
            some (false, r32.2)
          )
        ) else (
          if (v16 &&& (31 : Int32)) = 2 then (
            (lS G (a3 + (1 : Int32))).bind fun v33 =>
            (lS G (a3 + (2 : Int32))).bind fun v34 =>
            (lS G (a3 + (3 : Int32))).bind fun v35 =>
            (ck 7 h a1).bind fun b36 =>
            (f_X7_article b36 v33 v34 v35 h).bind fun r37 =>
            (lS G (a3 + (1 : Int32))).bind fun v38 =>
            (lS G (a3 + (2 : Int32))).bind fun v39 =>
            (lS G (a3 + (3 : Int32))).bind fun v40 =>
            (ck 8 r37.2 a2).bind fun b41 =>
            (f_X8_article b41 v38 v39 v40 r37.2).bind fun r42 =>
            if r37.1 = r42.1 then (
              f_L_law_18 G n a1 a2 (a3 + (8)) r42.2
            ) else (
              some (false, r42.2)
            )
          ) else (
            if (v16 &&& (31 : Int32)) = 3 then (
              (lS G (a3 + (1 : Int32))).bind fun v43 =>
              (ck 7 h a1).bind fun b44 =>
              (f_X7_clock b44 v43 h).bind fun r45 =>
              (lS G (a3 + (1 : Int32))).bind fun v46 =>
              (ck 8 r45.2 a2).bind fun b47 =>
              (f_X8_clock b47 v46 r45.2).bind fun r48 =>
              if (b2i r45.1) = (b2i r48.1) then (
                f_L_law_18 G n a1 a2 (a3 + (8)) r48.2
              ) else (
                some (false, r48.2)
              )
            ) else (
              if (v16 &&& (31 : Int32)) = 4 then (
                (lS G (a3 + (1 : Int32))).bind fun v49 =>
                (lS G (a3 + (2 : Int32))).bind fun v50 =>
                (ck 7 h a1).bind fun b51 =>
                (f_X7_sign b51 v49 v50 h).bind fun r52 =>
                (lS G (a3 + (1 : Int32))).bind fun v53 =>
                (lS G (a3 + (2 : Int32))).bind fun v54 =>
                (ck 8 r52.2 a2).bind fun b55 =>
                (f_X8_sign b55 v53 v54 r52.2).bind fun r56 =>
                if r52.1 = r56.1 then (
                  f_L_law_18 G n a1 a2 (a3 + (8)) r56.2
                ) else (
                  some (false, r56.2)
                )
              ) else (
                if (v16 &&& (31 : Int32)) = 5 then (
                  (lS G (a3 + (1 : Int32))).bind fun v57 =>
                  (lS G (a3 + (2 : Int32))).bind fun v58 =>
                  (ck 7 h a1).bind fun b59 =>
                  (f_X7_ratify b59 v57 v58 h).bind fun r60 =>
                  (lS G (a3 + (1 : Int32))).bind fun v61 =>
                  (lS G (a3 + (2 : Int32))).bind fun v62 =>
                  (ck 8 r60.2 a2).bind fun b63 =>
                  (f_X8_ratify b63 v61 v62 r60.2).bind fun r64 =>
                  if r60.1 = r64.1 then (
                    f_L_law_18 G n a1 a2 (a3 + (8)) r64.2
                  ) else (
                    some (false, r64.2)
                  )
                ) else (
                  if (v16 &&& (31 : Int32)) = 6 then (
                    (lS G (a3 + (1 : Int32))).bind fun v65 =>
                    (lS G (a3 + (2 : Int32))).bind fun v66 =>
                    (ck 7 h a1).bind fun b67 =>
                    (f_X7_join b67 v65 v66 h).bind fun r68 =>
                    (lS G (a3 + (1 : Int32))).bind fun v69 =>
                    (lS G (a3 + (2 : Int32))).bind fun v70 =>
                    (ck 8 r68.2 a2).bind fun b71 =>
                    (f_X8_join b71 v69 v70 r68.2).bind fun r72 =>
                    if r68.1 = r72.1 then (
                      f_L_law_18 G n a1 a2 (a3 + (8)) r72.2
                    ) else (
                      some (false, r72.2)
                    )
                  ) else (
                    if (v16 &&& (31 : Int32)) = 7 then (
                      (lS G (a3 + (1 : Int32))).bind fun v73 =>
                      (lS G (a3 + (2 : Int32))).bind fun v74 =>
                      (lS G (a3 + (3 : Int32))).bind fun v75 =>
                      (lS G (a3 + (4 : Int32))).bind fun v76 =>
                      (ck 7 h a1).bind fun b77 =>
                      (f_X7_reserve b77 v73 v74 v75 v76 h).bind fun r78 =>
                      (lS G (a3 + (1 : Int32))).bind fun v79 =>
                      (lS G (a3 + (2 : Int32))).bind fun v80 =>
                      (lS G (a3 + (3 : Int32))).bind fun v81 =>
                      (lS G (a3 + (4 : Int32))).bind fun v82 =>
                      (ck 8 r78.2 a2).bind fun b83 =>
                      (f_X8_reserve b83 v79 v80 v81 v82 r78.2).bind fun r84 =>
                      if r78.1 = r84.1 then (
                        f_L_law_18 G n a1 a2 (a3 + (8)) r84.2
                      ) else (
                        some (false, r84.2)
                      )
                    ) else (
                      if (v16 &&& (31 : Int32)) = 8 then (
                        (lS G (a3 + (1 : Int32))).bind fun v85 =>
                        (lS G (a3 + (2 : Int32))).bind fun v86 =>
                        (lS G (a3 + (3 : Int32))).bind fun v87 =>
                        if v87 = 0 then (
                          f_L_law_484 G (f_L_law_18 G n) a1 a2 a3 a1 v85 v86 (0 : Int32) h
                        ) else (
                          f_L_law_484 G (f_L_law_18 G n) a1 a2 a3 a1 v85 v86 (1 : Int32) h
                        )
                      ) else (
                        if (v16 &&& (31 : Int32)) = 9 then (
                          (lS G (a3 + (1 : Int32))).bind fun v88 =>
                          (lS G (a3 + (2 : Int32))).bind fun v89 =>
                          (ck 7 h a1).bind fun b90 =>
                          (f_X7_withdraw b90 v88 v89 h).bind fun r91 =>
                          (lS G (a3 + (1 : Int32))).bind fun v92 =>
                          (lS G (a3 + (2 : Int32))).bind fun v93 =>
                          (ck 8 r91.2 a2).bind fun b94 =>
                          (f_X8_withdraw b94 v92 v93 r91.2).bind fun r95 =>
                          if r91.1 = r95.1 then (
                            f_L_law_18 G n a1 a2 (a3 + (8)) r95.2
                          ) else (
                            some (false, r95.2)
                          )
                        ) else (
                          if (v16 &&& (31 : Int32)) = 10 then (
                            (lS G (a3 + (1 : Int32))).bind fun v96 =>
                            (lS G (a3 + (2 : Int32))).bind fun v97 =>
                            (lS G (a3 + (3 : Int32))).bind fun v98 =>
                            (lS G (a3 + (4 : Int32))).bind fun v99 =>
                            (ck 7 h a1).bind fun b100 =>
                            (f_X7_change b100 v96 v97 v98 v99 h).bind fun r101 =>
                            (lS G (a3 + (1 : Int32))).bind fun v102 =>
                            (lS G (a3 + (2 : Int32))).bind fun v103 =>
                            (lS G (a3 + (3 : Int32))).bind fun v104 =>
                            (lS G (a3 + (4 : Int32))).bind fun v105 =>
                            (ck 8 r101.2 a2).bind fun b106 =>
                            (f_X8_change b106 v102 v103 v104 v105 r101.2).bind fun r107 =>
                            if r101.1 = r107.1 then (
                              f_L_law_18 G n a1 a2 (a3 + (8)) r107.2
                            ) else (
                              some (false, r107.2)
                            )
                          ) else (
                            if (v16 &&& (31 : Int32)) = 11 then (
                              (lS G (a3 + (1 : Int32))).bind fun v108 =>
                              (lS G (a3 + (2 : Int32))).bind fun v109 =>
                              (ck 7 h a1).bind fun b110 =>
                              (f_X7_consent b110 v108 v109 h).bind fun r111 =>
                              (lS G (a3 + (1 : Int32))).bind fun v112 =>
                              (lS G (a3 + (2 : Int32))).bind fun v113 =>
                              (ck 8 r111.2 a2).bind fun b114 =>
                              (f_X8_consent b114 v112 v113 r111.2).bind fun r115 =>
                              if r111.1 = r115.1 then (
                                f_L_law_18 G n a1 a2 (a3 + (8)) r115.2
                              ) else (
                                some (false, r115.2)
                              )
                            ) else (
                              if (v16 &&& (31 : Int32)) = 12 then (
                                (lS G (a3 + (1 : Int32))).bind fun v116 =>
                                (lS G (a3 + (2 : Int32))).bind fun v117 =>
                                (lS G (a3 + (3 : Int32))).bind fun v118 =>
                                (lS G (a3 + (4 : Int32))).bind fun v119 =>
                                if v119 = 0 then (
                                  f_L_law_667 G (f_L_law_18 G n) a1 a2 a3 a1 v116 v117 v118 (0 : Int32) h
                                ) else (
                                  f_L_law_667 G (f_L_law_18 G n) a1 a2 a3 a1 v116 v117 v118 (1 : Int32) h
                                )
                              ) else (
                                if (v16 &&& (31 : Int32)) = 13 then (
                                  (lS G (a3 + (1 : Int32))).bind fun v120 =>
                                  (lS G (a3 + (2 : Int32))).bind fun v121 =>
                                  (ck 7 h a1).bind fun b122 =>
                                  (f_X7_note b122 ((v120.toInt64 <<< ((32 : Int32).toInt64 &&& 63)) ||| (v121.toInt64 &&& (4294967295 : Int64))) h).bind fun r123 =>
                                  (lS G (a3 + (1 : Int32))).bind fun v124 =>
                                  (lS G (a3 + (2 : Int32))).bind fun v125 =>
                                  (ck 8 r123.2 a2).bind fun b126 =>
                                  (f_X8_note b126 ((v124.toInt64 <<< ((32 : Int32).toInt64 &&& 63)) ||| (v125.toInt64 &&& (4294967295 : Int64))) r123.2).bind fun r127 =>
                                  if r123.1 = r127.1 then (
                                    f_L_law_18 G n a1 a2 (a3 + (8)) r127.2
                                  ) else (
                                    some (false, r127.2)
                                  )
                                ) else (
                                  if (v16 &&& (31 : Int32)) = 14 then (
                                    (ck 7 h a1).bind fun b128 =>
                                    (f_X7_undo b128 h).bind fun r129 =>
                                    (ck 8 r129.2 a2).bind fun b130 =>
                                    (f_X8_undo b130 r129.2).bind fun r131 =>
                                    if r129.1 = r131.1 then (
                                      f_L_law_18 G n a1 a2 (a3 + (8)) r131.2
                                    ) else (
                                      some (false, r131.2)
                                    )
                                  ) else (
                                    if (v16 &&& (31 : Int32)) = 15 then (
                                      (lS G (a3 + (1 : Int32))).bind fun v132 =>
                                      (lS G (a3 + (2 : Int32))).bind fun v133 =>
                                      (lS G (a3 + (3 : Int32))).bind fun v134 =>
                                      (lS G (a3 + (4 : Int32))).bind fun v135 =>
                                      (lS G (a3 + (5 : Int32))).bind fun v136 =>
                                      (lS G (a3 + (6 : Int32))).bind fun v137 =>
                                      (ck 7 h a1).bind fun b138 =>
                                      (f_X7_between b138 v132 v133 v134 v135 v136 v137 h).bind fun r139 =>
                                      (lS G (a3 + (1 : Int32))).bind fun v140 =>
                                      (lS G (a3 + (2 : Int32))).bind fun v141 =>
                                      (lS G (a3 + (3 : Int32))).bind fun v142 =>
                                      (lS G (a3 + (4 : Int32))).bind fun v143 =>
                                      (lS G (a3 + (5 : Int32))).bind fun v144 =>
                                      (lS G (a3 + (6 : Int32))).bind fun v145 =>
                                      (ck 8 r139.2 a2).bind fun b146 =>
                                      (f_X8_between b146 v140 v141 v142 v143 v144 v145 r139.2).bind fun r147 =>
                                      if r139.1 = r147.1 then (
                                        f_L_law_18 G n a1 a2 (a3 + (8)) r147.2
                                      ) else (
                                        some (false, r147.2)
                                      )
                                    ) else (
                                      if (v16 &&& (31 : Int32)) = 16 then (
                                        (lS G (a3 + (1 : Int32))).bind fun v148 =>
                                        (lS G (a3 + (2 : Int32))).bind fun v149 =>
                                        (lS G (a3 + (3 : Int32))).bind fun v150 =>
                                        (lS G (a3 + (4 : Int32))).bind fun v151 =>
                                        (lS G (a3 + (5 : Int32))).bind fun v152 =>
                                        (lS G (a3 + (6 : Int32))).bind fun v153 =>
                                        (ck 7 h a1).bind fun b154 =>
                                        (f_X7_words b154 v148 v149 v150 v151 v152 v153 h).bind fun r155 =>
                                        (lS G (a3 + (1 : Int32))).bind fun v156 =>
                                        (lS G (a3 + (2 : Int32))).bind fun v157 =>
                                        (lS G (a3 + (3 : Int32))).bind fun v158 =>
                                        (lS G (a3 + (4 : Int32))).bind fun v159 =>
                                        (lS G (a3 + (5 : Int32))).bind fun v160 =>
                                        (lS G (a3 + (6 : Int32))).bind fun v161 =>
                                        (ck 8 r155.2 a2).bind fun b162 =>
                                        (f_X8_words b162 v156 v157 v158 v159 v160 v161 r155.2).bind fun r163 =>
                                        if r155.1 = r163.1 then (
                                          f_L_law_18 G n a1 a2 (a3 + (8)) r163.2
                                        ) else (
                                          some (false, r163.2)
                                        )
                                      ) else (
                                        if (v16 &&& (31 : Int32)) = 17 then (
                                          (lS G (a3 + (1 : Int32))).bind fun v164 =>
                                          (lS G (a3 + (2 : Int32))).bind fun v165 =>
                                          (lS G (a3 + (3 : Int32))).bind fun v166 =>
                                          (lS G (a3 + (4 : Int32))).bind fun v167 =>
                                          (lS G (a3 + (5 : Int32))).bind fun v168 =>
                                          (lS G (a3 + (6 : Int32))).bind fun v169 =>
                                          (lS G (a3 + (7 : Int32))).bind fun v170 =>
                                          (ck 7 h a1).bind fun b171 =>
                                          (f_X7_why b171 v164 v165 v166 v167 v168 v169 v170 h).bind fun r172 =>
                                          (lS G (a3 + (1 : Int32))).bind fun v173 =>
                                          (lS G (a3 + (2 : Int32))).bind fun v174 =>
                                          (lS G (a3 + (3 : Int32))).bind fun v175 =>
                                          (lS G (a3 + (4 : Int32))).bind fun v176 =>
                                          (lS G (a3 + (5 : Int32))).bind fun v177 =>
                                          (lS G (a3 + (6 : Int32))).bind fun v178 =>
                                          (lS G (a3 + (7 : Int32))).bind fun v179 =>
                                          (ck 8 r172.2 a2).bind fun b180 =>
                                          (f_X8_why b180 v173 v174 v175 v176 v177 v178 v179 r172.2).bind fun r181 =>
                                          if r172.1 = r181.1 then (
                                            f_L_law_18 G n a1 a2 (a3 + (8)) r181.2
                                          ) else (
                                            some (false, r181.2)
                                          )
                                        ) else (
                                          if (v16 &&& (31 : Int32)) = 18 then (
                                            (lS G (a3 + (1 : Int32))).bind fun v182 =>
                                            (lS G (a3 + (2 : Int32))).bind fun v183 =>
                                            (lS G (a3 + (3 : Int32))).bind fun v184 =>
                                            (lS G (a3 + (4 : Int32))).bind fun v185 =>
                                            (ck 7 h a1).bind fun b186 =>
                                            (f_X7_first b186 v182 v183 v184 v185 h).bind fun r187 =>
                                            (lS G (a3 + (1 : Int32))).bind fun v188 =>
                                            (lS G (a3 + (2 : Int32))).bind fun v189 =>
                                            (lS G (a3 + (3 : Int32))).bind fun v190 =>
                                            (lS G (a3 + (4 : Int32))).bind fun v191 =>
                                            (ck 8 r187.2 a2).bind fun b192 =>
                                            (f_X8_first b192 v188 v189 v190 v191 r187.2).bind fun r193 =>
                                            if r187.1 = r193.1 then (
                                              f_L_law_18 G n a1 a2 (a3 + (8)) r193.2
                                            ) else (
                                              some (false, r193.2)
                                            )
                                          ) else (
                                            if (v16 &&& (31 : Int32)) = 19 then (
                                              (lS G (a3 + (1 : Int32))).bind fun v194 =>
                                              (lS G (a3 + (2 : Int32))).bind fun v195 =>
                                              (lS G (a3 + (3 : Int32))).bind fun v196 =>
                                              (lS G (a3 + (4 : Int32))).bind fun v197 =>
                                              (ck 7 h a1).bind fun b198 =>
                                              (f_X7_member b198 v194 v195 v196 v197 h).bind fun r199 =>
                                              (lS G (a3 + (1 : Int32))).bind fun v200 =>
                                              (lS G (a3 + (2 : Int32))).bind fun v201 =>
                                              (lS G (a3 + (3 : Int32))).bind fun v202 =>
                                              (lS G (a3 + (4 : Int32))).bind fun v203 =>
                                              (ck 8 r199.2 a2).bind fun b204 =>
                                              (f_X8_member b204 v200 v201 v202 v203 r199.2).bind fun r205 =>
                                              if r199.1 = r205 then (
                                                f_L_law_18 G n a1 a2 (a3 + (8)) r199.2
                                              ) else (
                                                some (false, r199.2)
                                              )
                                            ) else (
                                              if (v16 &&& (31 : Int32)) = 20 then (
                                                (lS G (a3 + (1 : Int32))).bind fun v206 =>
                                                (lS G (a3 + (2 : Int32))).bind fun v207 =>
                                                (lS G (a3 + (3 : Int32))).bind fun v208 =>
                                                (ck 7 h a1).bind fun b209 =>
                                                (f_X7_members b209 v206 v207 v208 h).bind fun r210 =>
                                                (lS G (a3 + (1 : Int32))).bind fun v211 =>
                                                (lS G (a3 + (2 : Int32))).bind fun v212 =>
                                                (lS G (a3 + (3 : Int32))).bind fun v213 =>
                                                (ck 8 r210.2 a2).bind fun b214 =>
                                                (f_X8_members b214 v211 v212 v213 r210.2).bind fun r215 =>
                                                if r210.1 = r215 then (
                                                  f_L_law_18 G n a1 a2 (a3 + (8)) r210.2
                                                ) else (
                                                  some (false, r210.2)
                                                )
                                              ) else (
                                                if (v16 &&& (31 : Int32)) = 21 then (
                                                  (lS G (a3 + (1 : Int32))).bind fun v216 =>
                                                  (ck 7 h a1).bind fun b217 =>
                                                  (f_X7_since b217 v216 h).bind fun r218 =>
                                                  (lS G (a3 + (1 : Int32))).bind fun v219 =>
                                                  (ck 8 r218.2 a2).bind fun b220 =>
                                                  (f_X8_since b220 v219 r218.2).bind fun r221 =>
                                                  if r218.1 = r221 then (
                                                    f_L_law_18 G n a1 a2 (a3 + (8)) r218.2
                                                  ) else (
                                                    some (false, r218.2)
                                                  )
                                                ) else (
                                                  if (v16 &&& (31 : Int32)) = 22 then (
                                                    (lS G (a3 + (1 : Int32))).bind fun v222 =>
                                                    (lS G (a3 + (2 : Int32))).bind fun v223 =>
                                                    (lS G (a3 + (3 : Int32))).bind fun v224 =>
                                                    (lS G (a3 + (4 : Int32))).bind fun v225 =>
                                                    (lS G (a3 + (5 : Int32))).bind fun v226 =>
                                                    (ck 7 h a1).bind fun b227 =>
                                                    (f_X7_has b227 v222 v223 v224 v225 v226 h).bind fun r228 =>
                                                    (lS G (a3 + (1 : Int32))).bind fun v229 =>
                                                    (lS G (a3 + (2 : Int32))).bind fun v230 =>
                                                    (lS G (a3 + (3 : Int32))).bind fun v231 =>
                                                    (lS G (a3 + (4 : Int32))).bind fun v232 =>
                                                    (lS G (a3 + (5 : Int32))).bind fun v233 =>
                                                    (ck 8 r228.2 a2).bind fun b234 =>
                                                    (f_X8_has b234 v229 v230 v231 v232 v233 r228.2).bind fun r235 =>
                                                    if r228.1 = r235 then (
                                                      f_L_law_18 G n a1 a2 (a3 + (8)) r228.2
                                                    ) else (
                                                      some (false, r228.2)
                                                    )
                                                  ) else (
                                                    if (v16 &&& (31 : Int32)) = 23 then (
                                                      (lS G (a3 + (1 : Int32))).bind fun v236 =>
                                                      (lS G (a3 + (2 : Int32))).bind fun v237 =>
                                                      (ck 7 h a1).bind fun b238 =>
                                                      (f_X7_paper b238 v236 v237 h).bind fun r239 =>
                                                      (lS G (a3 + (1 : Int32))).bind fun v240 =>
                                                      (lS G (a3 + (2 : Int32))).bind fun v241 =>
                                                      (ck 8 h a2).bind fun b242 =>
                                                      (f_X8_paper b242 v240 v241 h).bind fun r243 =>
                                                      if r239 = r243 then (
                                                        f_L_law_18 G n a1 a2 (a3 + (8)) h
                                                      ) else (
                                                        some (false, h)
                                                      )
                                                    ) else (
                                                      if (v16 &&& (31 : Int32)) = 24 then (
                                                        (lS G (a3 + (1 : Int32))).bind fun v244 =>
                                                        (ck 7 h a1).bind fun b245 =>
                                                        (f_X7_noted b245 v244 h).bind fun r246 =>
                                                        (lS G (a3 + (1 : Int32))).bind fun v247 =>
                                                        (ck 8 h a2).bind fun b248 =>
                                                        (f_X8_noted b248 v247 h).bind fun r249 =>
                                                        if (lg_cmp r246 r249) = 0 then (
                                                          f_L_law_18 G n a1 a2 (a3 + (8)) h
                                                        ) else (
                                                          some (false, h)
                                                        )
                                                      ) else (
                                                        if (v16 &&& (31 : Int32)) = 25 then (
                                                          (lS G (a3 + (1 : Int32))).bind fun v250 =>
                                                          (lS G (a3 + (2 : Int32))).bind fun v251 =>
                                                          (lS G (a3 + (3 : Int32))).bind fun v252 =>
                                                          (ck 7 h a1).bind fun b253 =>
                                                          (f_X7_annex b253 v250 v251 v252 h).bind fun r254 =>
                                                          (lS G (a3 + (1 : Int32))).bind fun v255 =>
                                                          (lS G (a3 + (2 : Int32))).bind fun v256 =>
                                                          (lS G (a3 + (3 : Int32))).bind fun v257 =>
                                                          (ck 8 r254.2 a2).bind fun b258 =>
                                                          (f_X8_annex b258 v255 v256 v257 r254.2).bind fun r259 =>
                                                          if r254.1 = r259.1 then (
                                                            f_L_law_18 G n a1 a2 (a3 + (8)) r259.2
                                                          ) else (
                                                            some (false, r259.2)
                                                          )
                                                        ) else (
                                                          if (v16 &&& (31 : Int32)) = 26 then (
                                                            (lS G (a3 + (1 : Int32))).bind fun v260 =>
                                                            (lS G (a3 + (2 : Int32))).bind fun v261 =>
                                                            (ck 7 h a1).bind fun b262 =>
                                                            (f_X7_tear b262 v260 v261 h).bind fun r263 =>
                                                            (lS G (a3 + (1 : Int32))).bind fun v264 =>
                                                            (lS G (a3 + (2 : Int32))).bind fun v265 =>
                                                            (ck 8 r263.2 a2).bind fun b266 =>
                                                            (f_X8_tear b266 v264 v265 r263.2).bind fun r267 =>
                                                            if (b2i r263.1) = (b2i r267.1) then (
                                                              f_L_law_18 G n a1 a2 (a3 + (8)) r267.2
                                                            ) else (
                                                              some (false, r267.2)
                                                            )
                                                          ) else (
                                                            if (v16 &&& (31 : Int32)) = 27 then (
                                                              (lS G (a3 + (1 : Int32))).bind fun v268 =>
                                                              (lS G (a3 + (2 : Int32))).bind fun v269 =>
                                                              (lS G (a3 + (3 : Int32))).bind fun v270 =>
                                                              (lS G (a3 + (4 : Int32))).bind fun v271 =>
                                                              (lS G (a3 + (5 : Int32))).bind fun v272 =>
                                                              (ck 7 h a1).bind fun b273 =>
                                                              (f_X7_write b273 v268 v269 v270 ((v271.toInt64 <<< ((32 : Int32).toInt64 &&& 63)) ||| (v272.toInt64 &&& (4294967295 : Int64))) h).bind fun r274 =>
                                                              (lS G (a3 + (1 : Int32))).bind fun v275 =>
                                                              (lS G (a3 + (2 : Int32))).bind fun v276 =>
                                                              (lS G (a3 + (3 : Int32))).bind fun v277 =>
                                                              (lS G (a3 + (4 : Int32))).bind fun v278 =>
                                                              (lS G (a3 + (5 : Int32))).bind fun v279 =>
                                                              (ck 8 r274.2 a2).bind fun b280 =>
                                                              (f_X8_write b280 v275 v276 v277 ((v278.toInt64 <<< ((32 : Int32).toInt64 &&& 63)) ||| (v279.toInt64 &&& (4294967295 : Int64))) r274.2).bind fun r281 =>
                                                              if r274.1 = r281.1 then (
                                                                f_L_law_18 G n a1 a2 (a3 + (8)) r281.2
                                                              ) else (
                                                                some (false, r281.2)
                                                              )
                                                            ) else (
                                                              if (v16 &&& (31 : Int32)) = 28 then (
                                                                (lS G (a3 + (1 : Int32))).bind fun v282 =>
                                                                (lS G (a3 + (2 : Int32))).bind fun v283 =>
                                                                (lS G (a3 + (3 : Int32))).bind fun v284 =>
                                                                (ck 7 h a1).bind fun b285 =>
                                                                (f_X7_read b285 v282 v283 v284 h).bind fun r286 =>
                                                                (lS G (a3 + (1 : Int32))).bind fun v287 =>
                                                                (lS G (a3 + (2 : Int32))).bind fun v288 =>
                                                                (lS G (a3 + (3 : Int32))).bind fun v289 =>
                                                                (ck 8 h a2).bind fun b290 =>
                                                                (f_X8_read b290 v287 v288 v289 h).bind fun r291 =>
                                                                if (lg_cmp r286 r291) = 0 then (
                                                                  f_L_law_18 G n a1 a2 (a3 + (8)) h
                                                                ) else (
                                                                  some (false, h)
                                                                )
                                                              ) else (
                                                                if (v16 &&& (31 : Int32)) = 29 then (
                                                                  (lS G (a3 + (1 : Int32))).bind fun v292 =>
                                                                  (lS G (a3 + (2 : Int32))).bind fun v293 =>
                                                                  (ck 7 h a1).bind fun b294 =>
                                                                  (f_X7_size b294 v292 v293 h).bind fun r295 =>
                                                                  (lS G (a3 + (1 : Int32))).bind fun v296 =>
                                                                  (lS G (a3 + (2 : Int32))).bind fun v297 =>
                                                                  (ck 8 h a2).bind fun b298 =>
                                                                  (f_X8_size b298 v296 v297 h).bind fun r299 =>
                                                                  if r295 = r299 then (
                                                                    f_L_law_18 G n a1 a2 (a3 + (8)) h
                                                                  ) else (
                                                                    some (false, h)
                                                                  )
                                                                ) else (
                                                                  if (v16 &&& (31 : Int32)) = 30 then (
                                                                    (lS G (a3 + (1 : Int32))).bind fun v300 =>
                                                                    (lS G (a3 + (2 : Int32))).bind fun v301 =>
                                                                    (lS G (a3 + (3 : Int32))).bind fun v302 =>
                                                                    (lS G (a3 + (4 : Int32))).bind fun v303 =>
                                                                    (lS G (a3 + (5 : Int32))).bind fun v304 =>
                                                                    (lS G (a3 + (6 : Int32))).bind fun v305 =>
                                                                    (lS G (a3 + (7 : Int32))).bind fun v306 =>
                                                                    (ck 7 h a1).bind fun b307 =>
                                                                    (f_X7_copy b307 v300 v301 v302 v303 v304 v305 v306 h).bind fun r308 =>
                                                                    (lS G (a3 + (1 : Int32))).bind fun v309 =>
                                                                    (lS G (a3 + (2 : Int32))).bind fun v310 =>
                                                                    (lS G (a3 + (3 : Int32))).bind fun v311 =>
                                                                    (lS G (a3 + (4 : Int32))).bind fun v312 =>
                                                                    (lS G (a3 + (5 : Int32))).bind fun v313 =>
                                                                    (lS G (a3 + (6 : Int32))).bind fun v314 =>
                                                                    (lS G (a3 + (7 : Int32))).bind fun v315 =>
                                                                    (ck 8 r308.2 a2).bind fun b316 =>
                                                                    (f_X8_copy b316 v309 v310 v311 v312 v313 v314 v315 r308.2).bind fun r317 =>
                                                                    if r308.1 = r317.1 then (
                                                                      f_L_law_18 G n a1 a2 (a3 + (8)) r317.2
                                                                    ) else (
                                                                      some (false, r317.2)
                                                                    )
                                                                  ) else (
                                                                    if (v16 &&& (31 : Int32)) = 31 then (
                                                                      (lS G (a3 + (1 : Int32))).bind fun v318 =>
                                                                      (ck 7 h a1).bind fun b319 =>
                                                                      (f_X7_count b319 v318 h).bind fun r320 =>
                                                                      (lS G (a3 + (1 : Int32))).bind fun v321 =>
                                                                      (ck 8 h a2).bind fun b322 =>
                                                                      (f_X8_count b322 v321 h).bind fun r323 =>
                                                                      if r320 = r323 then (
                                                                        f_L_law_18 G n a1 a2 (a3 + (8)) h
                                                                      ) else (
                                                                        some (false, h)
                                                                      )
                                                                    ) else (
                                                                      f_L_law_18 G n a1 a2 (a3 + (8)) h
                                                                    )
                                                                  )
                                                                )
                                                              )
                                                            )
                                                          )
                                                        )
                                                      )
                                                    )
                                                  )
                                                )
                                              )
                                            )
                                          )
                                        )
                                      )
                                    )
                                  )
                                )
                              )
                            )
                          )
                        )
                      )
                    )
                  )
                )
              )
            )
          )
        )
      )
    )
theorem x_L_law_18 (G : Gm) : ∀ (n : Nat) (a1 : Option Nat) (a2 : Option Nat) (a3 : Int32) (h : AH) (o : (Bool × AH)), f_L_law_18 G n a1 a2 a3 h = some o → GO G mL_law (3 * n) (160 * n) 18 [(0, vr (some (gsb G))), (1, vr a1), (2, vr a2), (3, vi a3)] [] h (some (vi (b2i o.1))) o.2 := by
  intro n
  induction n with
  | zero => intro a1 a2 a3 h o hf; cases hf
  | succ n ih =>
    intro a1 a2 a3 h o hf
    rw [f_L_law_18] at hf
    refine g_iload_n (M := mL_law) dL_law_18 rfl 3 rfl ?_
    refine g_aload_n (M := mL_law) dL_law_19 rfl 0 rfl ?_
    refine g_slen (M := mL_law) dL_law_20 ?_
    refine g_bipush (M := mL_law) (v := 8) dL_law_21 rfl ?_
    refine g_isub (M := mL_law) dL_law_23 ?_
    refine g_ic_gt (M := mL_law) (tgt := 1654) dL_law_24 rfl (fun q24 => ?_) (fun q24 => ?_)
    · replace hf := ift hf q24
      refine g_iconst (M := mL_law) (v := 1) dL_law_1654 rfl ?_
      cases hf
      exact g_weak (M := mL_law) (Nat.zero_le _) (Nat.zero_le _) (g_ret (M := mL_law) dL_law_1655 rfl)
    · replace hf := iff_ hf q24
      refine g_aload_n (M := mL_law) dL_law_27 rfl 0 rfl ?_
      refine g_iload_n (M := mL_law) dL_law_28 rfl 3 rfl ?_
      obtain ⟨v16, ev16, hf⟩ := bd hf
      refine g_sald (M := mL_law) dL_law_29 ev16 ?_
      refine g_bipush (M := mL_law) (v := 31) dL_law_30 rfl ?_
      refine g_iand (M := mL_law) dL_law_32 ?_
      by_cases q33_0 : (v16 &&& (31 : Int32)) = 0
      · replace hf := ift hf q33_0
        refine g_sw_in (M := mL_law) (off := 143) (tgt := 176) dL_law_33 (by rw [q33_0]; decide) (by rw [q33_0]; decide) (by rw [q33_0]; rfl) (by decide) ?_
        refine g_aload_n (M := mL_law) dL_law_176 rfl 1 rfl ?_
        refine g_weak (M := mL_law) (kc := (3 * n) + 0) (ks := (160 * n) + 0) (by omega) (by omega) ?_
        obtain ⟨b17, eb17, hf⟩ := bd hf
        obtain ⟨r18, er18, hf⟩ := bd hf
        refine g_callV (M := mL_law) (kc := (3 * n)) (ks := (160 * n)) (as := []) (rest := []) dL_law_177 cbX7_party vwRL_13 rfl eb17 rfl (Nat.le_of_ble_eq_true rfl) (Nat.le_of_ble_eq_true rfl) (c_X7_party G b17 h r18 er18) ?_
        refine g_aload_n (M := mL_law) dL_law_180 rfl 2 rfl ?_
        refine g_weak (M := mL_law) (kc := (3 * n) + 0) (ks := (160 * n) + 0) (by omega) (by omega) ?_
        obtain ⟨b19, eb19, hf⟩ := bd hf
        obtain ⟨r20, er20, hf⟩ := bd hf
        refine g_callV (M := mL_law) (kc := (3 * n)) (ks := (160 * n)) (as := []) (rest := [vi r18.1]) dL_law_181 cbX8_party vwRL_17 rfl eb19 rfl (Nat.le_of_ble_eq_true rfl) (Nat.le_of_ble_eq_true rfl) (c_X8_party G b19 r18.2 r20 er20) ?_
        refine g_ic_eq (M := mL_law) (tgt := 1648) dL_law_184 rfl (fun q184 => ?_) (fun q184 => ?_)
        · replace hf := ift hf q184
          refine g_iinc (M := mL_law) (j := 3) (L2 := [(3, vi (a3 + (8))), (0, vr (some (gsb G))), (1, vr a1), (2, vr a2)]) dL_law_1648 rfl rfl (Nat.le_of_ble_eq_true rfl) rfl ?_
          refine g_goto (M := mL_law) (tgt := 18) dL_law_1651 rfl ?_
          exact g_weak (M := mL_law) (kc := 3 * n) (ks := 160 * n) (by omega) (by omega) <| g_sub (M := mL_law) (L2 := [(0, vr (some (gsb G))), (1, vr a1), (2, vr a2), (3, vi (a3 + (8)))]) [1, 2, 3, 0] rfl <| ih a1 a2 (a3 + (8)) r20.2 _ hf
        · replace hf := iff_ hf q184
          refine g_iconst (M := mL_law) (v := 0) dL_law_187 rfl ?_
          cases hf
          exact g_weak (M := mL_law) (Nat.zero_le _) (Nat.zero_le _) (g_ret (M := mL_law) dL_law_188 rfl)
      · replace hf := iff_ hf q33_0
        by_cases q33_1 : (v16 &&& (31 : Int32)) = 1
        · replace hf := ift hf q33_1
          refine g_sw_in (M := mL_law) (off := 156) (tgt := 189) dL_law_33 (by rw [q33_1]; decide) (by rw [q33_1]; decide) (by rw [q33_1]; rfl) (by decide) ?_
          refine g_aload_n (M := mL_law) dL_law_189 rfl 1 rfl ?_
          refine g_aload_n (M := mL_law) dL_law_190 rfl 0 rfl ?_
          refine g_iload_n (M := mL_law) dL_law_191 rfl 3 rfl ?_
          refine g_iconst (M := mL_law) (v := 1) dL_law_192 rfl ?_
          refine g_iadd (M := mL_law) dL_law_193 ?_
          obtain ⟨v21, ev21, hf⟩ := bd hf
          refine g_sald (M := mL_law) dL_law_194 ev21 ?_
          refine g_aload_n (M := mL_law) dL_law_195 rfl 0 rfl ?_
          refine g_iload_n (M := mL_law) dL_law_196 rfl 3 rfl ?_
          refine g_iconst (M := mL_law) (v := 2) dL_law_197 rfl ?_
          refine g_iadd (M := mL_law) dL_law_198 ?_
          obtain ⟨v22, ev22, hf⟩ := bd hf
          refine g_sald (M := mL_law) dL_law_199 ev22 ?_
          refine g_aload_n (M := mL_law) dL_law_200 rfl 0 rfl ?_
          refine g_iload_n (M := mL_law) dL_law_201 rfl 3 rfl ?_
          refine g_iconst (M := mL_law) (v := 3) dL_law_202 rfl ?_
          refine g_iadd (M := mL_law) dL_law_203 ?_
          obtain ⟨v23, ev23, hf⟩ := bd hf
          refine g_sald (M := mL_law) dL_law_204 ev23 ?_
          refine g_aload_n (M := mL_law) dL_law_205 rfl 0 rfl ?_
          refine g_iload_n (M := mL_law) dL_law_206 rfl 3 rfl ?_
          refine g_iconst (M := mL_law) (v := 4) dL_law_207 rfl ?_
          refine g_iadd (M := mL_law) dL_law_208 ?_
          obtain ⟨v24, ev24, hf⟩ := bd hf
          refine g_sald (M := mL_law) dL_law_209 ev24 ?_
          refine g_weak (M := mL_law) (kc := (3 * n) + 3) (ks := (160 * n) + 35) (by omega) (by omega) ?_
          obtain ⟨b25, eb25, hf⟩ := bd hf
          obtain ⟨r26, er26, hf⟩ := bd hf
          refine g_callV (M := mL_law) (kc := (3 * n)) (ks := (160 * n)) (as := [vi v21, vi v22, vi v23, vi v24]) (rest := []) dL_law_210 cbX7_agreement vwRL_18 rfl eb25 rfl (Nat.le_of_ble_eq_true rfl) (Nat.le_of_ble_eq_true rfl) (c_X7_agreement G b25 v21 v22 v23 v24 h r26 er26) ?_
          refine g_aload_n (M := mL_law) dL_law_213 rfl 2 rfl ?_
          refine g_aload_n (M := mL_law) dL_law_214 rfl 0 rfl ?_
          refine g_iload_n (M := mL_law) dL_law_215 rfl 3 rfl ?_
          refine g_iconst (M := mL_law) (v := 1) dL_law_216 rfl ?_
          refine g_iadd (M := mL_law) dL_law_217 ?_
          obtain ⟨v27, ev27, hf⟩ := bd hf
          refine g_sald (M := mL_law) dL_law_218 ev27 ?_
          refine g_aload_n (M := mL_law) dL_law_219 rfl 0 rfl ?_
          refine g_iload_n (M := mL_law) dL_law_220 rfl 3 rfl ?_
          refine g_iconst (M := mL_law) (v := 2) dL_law_221 rfl ?_
          refine g_iadd (M := mL_law) dL_law_222 ?_
          obtain ⟨v28, ev28, hf⟩ := bd hf
          refine g_sald (M := mL_law) dL_law_223 ev28 ?_
          refine g_aload_n (M := mL_law) dL_law_224 rfl 0 rfl ?_
          refine g_iload_n (M := mL_law) dL_law_225 rfl 3 rfl ?_
          refine g_iconst (M := mL_law) (v := 3) dL_law_226 rfl ?_
          refine g_iadd (M := mL_law) dL_law_227 ?_
          obtain ⟨v29, ev29, hf⟩ := bd hf
          refine g_sald (M := mL_law) dL_law_228 ev29 ?_
          refine g_aload_n (M := mL_law) dL_law_229 rfl 0 rfl ?_
          refine g_iload_n (M := mL_law) dL_law_230 rfl 3 rfl ?_
          refine g_iconst (M := mL_law) (v := 4) dL_law_231 rfl ?_
          refine g_iadd (M := mL_law) dL_law_232 ?_
          obtain ⟨v30, ev30, hf⟩ := bd hf
          refine g_sald (M := mL_law) dL_law_233 ev30 ?_
          refine g_weak (M := mL_law) (kc := (3 * n) + 0) (ks := (160 * n) + 0) (by omega) (by omega) ?_
          obtain ⟨b31, eb31, hf⟩ := bd hf
          obtain ⟨r32, er32, hf⟩ := bd hf
          refine g_callV (M := mL_law) (kc := (3 * n)) (ks := (160 * n)) (as := [vi v27, vi v28, vi v29, vi v30]) (rest := [vi r26.1]) dL_law_234 cbX8_agreement vwRL_22 rfl eb31 rfl (Nat.le_of_ble_eq_true rfl) (Nat.le_of_ble_eq_true rfl) (c_X8_agreement G b31 v27 v28 v29 v30 r26.2 r32 er32) ?_
          refine g_ic_eq (M := mL_law) (tgt := 1648) dL_law_237 rfl (fun q237 => ?_) (fun q237 => ?_)
          · replace hf := ift hf q237
            refine g_iinc (M := mL_law) (j := 3) (L2 := [(3, vi (a3 + (8))), (0, vr (some (gsb G))), (1, vr a1), (2, vr a2)]) dL_law_1648 rfl rfl (Nat.le_of_ble_eq_true rfl) rfl ?_
            refine g_goto (M := mL_law) (tgt := 18) dL_law_1651 rfl ?_
            exact g_weak (M := mL_law) (kc := 3 * n) (ks := 160 * n) (by omega) (by omega) <| g_sub (M := mL_law) (L2 := [(0, vr (some (gsb G))), (1, vr a1), (2, vr a2), (3, vi (a3 + (8)))]) [1, 2, 3, 0] rfl <| ih a1 a2 (a3 + (8)) r32.2 _ hf
          · replace hf := iff_ hf q237
            refine g_iconst (M := mL_law) (v := 0) dL_law_240 rfl ?_
            cases hf
            exact g_weak (M := mL_law) (Nat.zero_le _) (Nat.zero_le _) (g_ret (M := mL_law) dL_law_241 rfl)
        · replace hf := iff_ hf q33_1
          by_cases q33_2 : (v16 &&& (31 : Int32)) = 2
          · replace hf := ift hf q33_2
            refine g_sw_in (M := mL_law) (off := 209) (tgt := 242) dL_law_33 (by rw [q33_2]; decide) (by rw [q33_2]; decide) (by rw [q33_2]; rfl) (by decide) ?_
            refine g_aload_n (M := mL_law) dL_law_242 rfl 1 rfl ?_
            refine g_aload_n (M := mL_law) dL_law_243 rfl 0 rfl ?_
            refine g_iload_n (M := mL_law) dL_law_244 rfl 3 rfl ?_
            refine g_iconst (M := mL_law) (v := 1) dL_law_245 rfl ?_
            refine g_iadd (M := mL_law) dL_law_246 ?_
            obtain ⟨v33, ev33, hf⟩ := bd hf
            refine g_sald (M := mL_law) dL_law_247 ev33 ?_
            refine g_aload_n (M := mL_law) dL_law_248 rfl 0 rfl ?_
            refine g_iload_n (M := mL_law) dL_law_249 rfl 3 rfl ?_
            refine g_iconst (M := mL_law) (v := 2) dL_law_250 rfl ?_
            refine g_iadd (M := mL_law) dL_law_251 ?_
            obtain ⟨v34, ev34, hf⟩ := bd hf
            refine g_sald (M := mL_law) dL_law_252 ev34 ?_
            refine g_aload_n (M := mL_law) dL_law_253 rfl 0 rfl ?_
            refine g_iload_n (M := mL_law) dL_law_254 rfl 3 rfl ?_
            refine g_iconst (M := mL_law) (v := 3) dL_law_255 rfl ?_
            refine g_iadd (M := mL_law) dL_law_256 ?_
            obtain ⟨v35, ev35, hf⟩ := bd hf
            refine g_sald (M := mL_law) dL_law_257 ev35 ?_
            refine g_weak (M := mL_law) (kc := (3 * n) + 0) (ks := (160 * n) + 0) (by omega) (by omega) ?_
            obtain ⟨b36, eb36, hf⟩ := bd hf
            obtain ⟨r37, er37, hf⟩ := bd hf
            refine g_callV (M := mL_law) (kc := (3 * n)) (ks := (160 * n)) (as := [vi v33, vi v34, vi v35]) (rest := []) dL_law_258 cbX7_article vwRL_23 rfl eb36 rfl (Nat.le_of_ble_eq_true rfl) (Nat.le_of_ble_eq_true rfl) (c_X7_article G b36 v33 v34 v35 h r37 er37) ?_
            refine g_aload_n (M := mL_law) dL_law_261 rfl 2 rfl ?_
            refine g_aload_n (M := mL_law) dL_law_262 rfl 0 rfl ?_
            refine g_iload_n (M := mL_law) dL_law_263 rfl 3 rfl ?_
            refine g_iconst (M := mL_law) (v := 1) dL_law_264 rfl ?_
            refine g_iadd (M := mL_law) dL_law_265 ?_
            obtain ⟨v38, ev38, hf⟩ := bd hf
            refine g_sald (M := mL_law) dL_law_266 ev38 ?_
            refine g_aload_n (M := mL_law) dL_law_267 rfl 0 rfl ?_
            refine g_iload_n (M := mL_law) dL_law_268 rfl 3 rfl ?_
            refine g_iconst (M := mL_law) (v := 2) dL_law_269 rfl ?_
            refine g_iadd (M := mL_law) dL_law_270 ?_
            obtain ⟨v39, ev39, hf⟩ := bd hf
            refine g_sald (M := mL_law) dL_law_271 ev39 ?_
            refine g_aload_n (M := mL_law) dL_law_272 rfl 0 rfl ?_
            refine g_iload_n (M := mL_law) dL_law_273 rfl 3 rfl ?_
            refine g_iconst (M := mL_law) (v := 3) dL_law_274 rfl ?_
            refine g_iadd (M := mL_law) dL_law_275 ?_
            obtain ⟨v40, ev40, hf⟩ := bd hf
            refine g_sald (M := mL_law) dL_law_276 ev40 ?_
            refine g_weak (M := mL_law) (kc := (3 * n) + 0) (ks := (160 * n) + 0) (by omega) (by omega) ?_
            obtain ⟨b41, eb41, hf⟩ := bd hf
            obtain ⟨r42, er42, hf⟩ := bd hf
            refine g_callV (M := mL_law) (kc := (3 * n)) (ks := (160 * n)) (as := [vi v38, vi v39, vi v40]) (rest := [vi r37.1]) dL_law_277 cbX8_article vwRL_27 rfl eb41 rfl (Nat.le_of_ble_eq_true rfl) (Nat.le_of_ble_eq_true rfl) (c_X8_article G b41 v38 v39 v40 r37.2 r42 er42) ?_
            refine g_ic_eq (M := mL_law) (tgt := 1648) dL_law_280 rfl (fun q280 => ?_) (fun q280 => ?_)
            · replace hf := ift hf q280
              refine g_iinc (M := mL_law) (j := 3) (L2 := [(3, vi (a3 + (8))), (0, vr (some (gsb G))), (1, vr a1), (2, vr a2)]) dL_law_1648 rfl rfl (Nat.le_of_ble_eq_true rfl) rfl ?_
              refine g_goto (M := mL_law) (tgt := 18) dL_law_1651 rfl ?_
              exact g_weak (M := mL_law) (kc := 3 * n) (ks := 160 * n) (by omega) (by omega) <| g_sub (M := mL_law) (L2 := [(0, vr (some (gsb G))), (1, vr a1), (2, vr a2), (3, vi (a3 + (8)))]) [1, 2, 3, 0] rfl <| ih a1 a2 (a3 + (8)) r42.2 _ hf
            · replace hf := iff_ hf q280
              refine g_iconst (M := mL_law) (v := 0) dL_law_283 rfl ?_
              cases hf
              exact g_weak (M := mL_law) (Nat.zero_le _) (Nat.zero_le _) (g_ret (M := mL_law) dL_law_284 rfl)
          · replace hf := iff_ hf q33_2
            by_cases q33_3 : (v16 &&& (31 : Int32)) = 3
            · replace hf := ift hf q33_3
              refine g_sw_in (M := mL_law) (off := 252) (tgt := 285) dL_law_33 (by rw [q33_3]; decide) (by rw [q33_3]; decide) (by rw [q33_3]; rfl) (by decide) ?_
              refine g_aload_n (M := mL_law) dL_law_285 rfl 1 rfl ?_
              refine g_aload_n (M := mL_law) dL_law_286 rfl 0 rfl ?_
              refine g_iload_n (M := mL_law) dL_law_287 rfl 3 rfl ?_
              refine g_iconst (M := mL_law) (v := 1) dL_law_288 rfl ?_
              refine g_iadd (M := mL_law) dL_law_289 ?_
              obtain ⟨v43, ev43, hf⟩ := bd hf
              refine g_sald (M := mL_law) dL_law_290 ev43 ?_
              refine g_weak (M := mL_law) (kc := (3 * n) + 0) (ks := (160 * n) + 0) (by omega) (by omega) ?_
              obtain ⟨b44, eb44, hf⟩ := bd hf
              obtain ⟨r45, er45, hf⟩ := bd hf
              refine g_callV (M := mL_law) (kc := (3 * n)) (ks := (160 * n)) (as := [vi v43]) (rest := []) dL_law_291 cbX7_clock vwRL_28 rfl eb44 rfl (Nat.le_of_ble_eq_true rfl) (Nat.le_of_ble_eq_true rfl) (c_X7_clock G b44 v43 h r45 er45) ?_
              refine g_aload_n (M := mL_law) dL_law_294 rfl 2 rfl ?_
              refine g_aload_n (M := mL_law) dL_law_295 rfl 0 rfl ?_
              refine g_iload_n (M := mL_law) dL_law_296 rfl 3 rfl ?_
              refine g_iconst (M := mL_law) (v := 1) dL_law_297 rfl ?_
              refine g_iadd (M := mL_law) dL_law_298 ?_
              obtain ⟨v46, ev46, hf⟩ := bd hf
              refine g_sald (M := mL_law) dL_law_299 ev46 ?_
              refine g_weak (M := mL_law) (kc := (3 * n) + 0) (ks := (160 * n) + 0) (by omega) (by omega) ?_
              obtain ⟨b47, eb47, hf⟩ := bd hf
              obtain ⟨r48, er48, hf⟩ := bd hf
              refine g_callV (M := mL_law) (kc := (3 * n)) (ks := (160 * n)) (as := [vi v46]) (rest := [vi (b2i r45.1)]) dL_law_300 cbX8_clock vwRL_32 rfl eb47 rfl (Nat.le_of_ble_eq_true rfl) (Nat.le_of_ble_eq_true rfl) (c_X8_clock G b47 v46 r45.2 r48 er48) ?_
              refine g_ic_eq (M := mL_law) (tgt := 1648) dL_law_303 rfl (fun q303 => ?_) (fun q303 => ?_)
              · replace hf := ift hf q303
                refine g_iinc (M := mL_law) (j := 3) (L2 := [(3, vi (a3 + (8))), (0, vr (some (gsb G))), (1, vr a1), (2, vr a2)]) dL_law_1648 rfl rfl (Nat.le_of_ble_eq_true rfl) rfl ?_
                refine g_goto (M := mL_law) (tgt := 18) dL_law_1651 rfl ?_
                exact g_weak (M := mL_law) (kc := 3 * n) (ks := 160 * n) (by omega) (by omega) <| g_sub (M := mL_law) (L2 := [(0, vr (some (gsb G))), (1, vr a1), (2, vr a2), (3, vi (a3 + (8)))]) [1, 2, 3, 0] rfl <| ih a1 a2 (a3 + (8)) r48.2 _ hf
              · replace hf := iff_ hf q303
                refine g_iconst (M := mL_law) (v := 0) dL_law_306 rfl ?_
                cases hf
                exact g_weak (M := mL_law) (Nat.zero_le _) (Nat.zero_le _) (g_ret (M := mL_law) dL_law_307 rfl)
            · replace hf := iff_ hf q33_3
              by_cases q33_4 : (v16 &&& (31 : Int32)) = 4
              · replace hf := ift hf q33_4
                refine g_sw_in (M := mL_law) (off := 275) (tgt := 308) dL_law_33 (by rw [q33_4]; decide) (by rw [q33_4]; decide) (by rw [q33_4]; rfl) (by decide) ?_
                refine g_aload_n (M := mL_law) dL_law_308 rfl 1 rfl ?_
                refine g_aload_n (M := mL_law) dL_law_309 rfl 0 rfl ?_
                refine g_iload_n (M := mL_law) dL_law_310 rfl 3 rfl ?_
                refine g_iconst (M := mL_law) (v := 1) dL_law_311 rfl ?_
                refine g_iadd (M := mL_law) dL_law_312 ?_
                obtain ⟨v49, ev49, hf⟩ := bd hf
                refine g_sald (M := mL_law) dL_law_313 ev49 ?_
                refine g_aload_n (M := mL_law) dL_law_314 rfl 0 rfl ?_
                refine g_iload_n (M := mL_law) dL_law_315 rfl 3 rfl ?_
                refine g_iconst (M := mL_law) (v := 2) dL_law_316 rfl ?_
                refine g_iadd (M := mL_law) dL_law_317 ?_
                obtain ⟨v50, ev50, hf⟩ := bd hf
                refine g_sald (M := mL_law) dL_law_318 ev50 ?_
                refine g_weak (M := mL_law) (kc := (3 * n) + 1) (ks := (160 * n) + 15) (by omega) (by omega) ?_
                obtain ⟨b51, eb51, hf⟩ := bd hf
                obtain ⟨r52, er52, hf⟩ := bd hf
                refine g_callV (M := mL_law) (kc := (3 * n)) (ks := (160 * n)) (as := [vi v49, vi v50]) (rest := []) dL_law_319 cbX7_sign vwRL_33 rfl eb51 rfl (Nat.le_of_ble_eq_true rfl) (Nat.le_of_ble_eq_true rfl) (c_X7_sign G b51 v49 v50 h r52 er52) ?_
                refine g_aload_n (M := mL_law) dL_law_322 rfl 2 rfl ?_
                refine g_aload_n (M := mL_law) dL_law_323 rfl 0 rfl ?_
                refine g_iload_n (M := mL_law) dL_law_324 rfl 3 rfl ?_
                refine g_iconst (M := mL_law) (v := 1) dL_law_325 rfl ?_
                refine g_iadd (M := mL_law) dL_law_326 ?_
                obtain ⟨v53, ev53, hf⟩ := bd hf
                refine g_sald (M := mL_law) dL_law_327 ev53 ?_
                refine g_aload_n (M := mL_law) dL_law_328 rfl 0 rfl ?_
                refine g_iload_n (M := mL_law) dL_law_329 rfl 3 rfl ?_
                refine g_iconst (M := mL_law) (v := 2) dL_law_330 rfl ?_
                refine g_iadd (M := mL_law) dL_law_331 ?_
                obtain ⟨v54, ev54, hf⟩ := bd hf
                refine g_sald (M := mL_law) dL_law_332 ev54 ?_
                refine g_weak (M := mL_law) (kc := (3 * n) + 0) (ks := (160 * n) + 0) (by omega) (by omega) ?_
                obtain ⟨b55, eb55, hf⟩ := bd hf
                obtain ⟨r56, er56, hf⟩ := bd hf
                refine g_callV (M := mL_law) (kc := (3 * n)) (ks := (160 * n)) (as := [vi v53, vi v54]) (rest := [vi r52.1]) dL_law_333 cbX8_sign vwRL_37 rfl eb55 rfl (Nat.le_of_ble_eq_true rfl) (Nat.le_of_ble_eq_true rfl) (c_X8_sign G b55 v53 v54 r52.2 r56 er56) ?_
                refine g_ic_eq (M := mL_law) (tgt := 1648) dL_law_336 rfl (fun q336 => ?_) (fun q336 => ?_)
                · replace hf := ift hf q336
                  refine g_iinc (M := mL_law) (j := 3) (L2 := [(3, vi (a3 + (8))), (0, vr (some (gsb G))), (1, vr a1), (2, vr a2)]) dL_law_1648 rfl rfl (Nat.le_of_ble_eq_true rfl) rfl ?_
                  refine g_goto (M := mL_law) (tgt := 18) dL_law_1651 rfl ?_
                  exact g_weak (M := mL_law) (kc := 3 * n) (ks := 160 * n) (by omega) (by omega) <| g_sub (M := mL_law) (L2 := [(0, vr (some (gsb G))), (1, vr a1), (2, vr a2), (3, vi (a3 + (8)))]) [1, 2, 3, 0] rfl <| ih a1 a2 (a3 + (8)) r56.2 _ hf
                · replace hf := iff_ hf q336
                  refine g_iconst (M := mL_law) (v := 0) dL_law_339 rfl ?_
                  cases hf
                  exact g_weak (M := mL_law) (Nat.zero_le _) (Nat.zero_le _) (g_ret (M := mL_law) dL_law_340 rfl)
              · replace hf := iff_ hf q33_4
                by_cases q33_5 : (v16 &&& (31 : Int32)) = 5
                · replace hf := ift hf q33_5
                  refine g_sw_in (M := mL_law) (off := 308) (tgt := 341) dL_law_33 (by rw [q33_5]; decide) (by rw [q33_5]; decide) (by rw [q33_5]; rfl) (by decide) ?_
                  refine g_aload_n (M := mL_law) dL_law_341 rfl 1 rfl ?_
                  refine g_aload_n (M := mL_law) dL_law_342 rfl 0 rfl ?_
                  refine g_iload_n (M := mL_law) dL_law_343 rfl 3 rfl ?_
                  refine g_iconst (M := mL_law) (v := 1) dL_law_344 rfl ?_
                  refine g_iadd (M := mL_law) dL_law_345 ?_
                  obtain ⟨v57, ev57, hf⟩ := bd hf
                  refine g_sald (M := mL_law) dL_law_346 ev57 ?_
                  refine g_aload_n (M := mL_law) dL_law_347 rfl 0 rfl ?_
                  refine g_iload_n (M := mL_law) dL_law_348 rfl 3 rfl ?_
                  refine g_iconst (M := mL_law) (v := 2) dL_law_349 rfl ?_
                  refine g_iadd (M := mL_law) dL_law_350 ?_
                  obtain ⟨v58, ev58, hf⟩ := bd hf
                  refine g_sald (M := mL_law) dL_law_351 ev58 ?_
                  refine g_weak (M := mL_law) (kc := (3 * n) + 1) (ks := (160 * n) + 15) (by omega) (by omega) ?_
                  obtain ⟨b59, eb59, hf⟩ := bd hf
                  obtain ⟨r60, er60, hf⟩ := bd hf
                  refine g_callV (M := mL_law) (kc := (3 * n)) (ks := (160 * n)) (as := [vi v57, vi v58]) (rest := []) dL_law_352 cbX7_ratify vwRL_38 rfl eb59 rfl (Nat.le_of_ble_eq_true rfl) (Nat.le_of_ble_eq_true rfl) (c_X7_ratify G b59 v57 v58 h r60 er60) ?_
                  refine g_aload_n (M := mL_law) dL_law_355 rfl 2 rfl ?_
                  refine g_aload_n (M := mL_law) dL_law_356 rfl 0 rfl ?_
                  refine g_iload_n (M := mL_law) dL_law_357 rfl 3 rfl ?_
                  refine g_iconst (M := mL_law) (v := 1) dL_law_358 rfl ?_
                  refine g_iadd (M := mL_law) dL_law_359 ?_
                  obtain ⟨v61, ev61, hf⟩ := bd hf
                  refine g_sald (M := mL_law) dL_law_360 ev61 ?_
                  refine g_aload_n (M := mL_law) dL_law_361 rfl 0 rfl ?_
                  refine g_iload_n (M := mL_law) dL_law_362 rfl 3 rfl ?_
                  refine g_iconst (M := mL_law) (v := 2) dL_law_363 rfl ?_
                  refine g_iadd (M := mL_law) dL_law_364 ?_
                  obtain ⟨v62, ev62, hf⟩ := bd hf
                  refine g_sald (M := mL_law) dL_law_365 ev62 ?_
                  refine g_weak (M := mL_law) (kc := (3 * n) + 0) (ks := (160 * n) + 0) (by omega) (by omega) ?_
                  obtain ⟨b63, eb63, hf⟩ := bd hf
                  obtain ⟨r64, er64, hf⟩ := bd hf
                  refine g_callV (M := mL_law) (kc := (3 * n)) (ks := (160 * n)) (as := [vi v61, vi v62]) (rest := [vi r60.1]) dL_law_366 cbX8_ratify vwRL_41 rfl eb63 rfl (Nat.le_of_ble_eq_true rfl) (Nat.le_of_ble_eq_true rfl) (c_X8_ratify G b63 v61 v62 r60.2 r64 er64) ?_
                  refine g_ic_eq (M := mL_law) (tgt := 1648) dL_law_369 rfl (fun q369 => ?_) (fun q369 => ?_)
                  · replace hf := ift hf q369
                    refine g_iinc (M := mL_law) (j := 3) (L2 := [(3, vi (a3 + (8))), (0, vr (some (gsb G))), (1, vr a1), (2, vr a2)]) dL_law_1648 rfl rfl (Nat.le_of_ble_eq_true rfl) rfl ?_
                    refine g_goto (M := mL_law) (tgt := 18) dL_law_1651 rfl ?_
                    exact g_weak (M := mL_law) (kc := 3 * n) (ks := 160 * n) (by omega) (by omega) <| g_sub (M := mL_law) (L2 := [(0, vr (some (gsb G))), (1, vr a1), (2, vr a2), (3, vi (a3 + (8)))]) [1, 2, 3, 0] rfl <| ih a1 a2 (a3 + (8)) r64.2 _ hf
                  · replace hf := iff_ hf q369
                    refine g_iconst (M := mL_law) (v := 0) dL_law_372 rfl ?_
                    cases hf
                    exact g_weak (M := mL_law) (Nat.zero_le _) (Nat.zero_le _) (g_ret (M := mL_law) dL_law_373 rfl)
                · replace hf := iff_ hf q33_5
                  by_cases q33_6 : (v16 &&& (31 : Int32)) = 6
                  · replace hf := ift hf q33_6
                    refine g_sw_in (M := mL_law) (off := 341) (tgt := 374) dL_law_33 (by rw [q33_6]; decide) (by rw [q33_6]; decide) (by rw [q33_6]; rfl) (by decide) ?_
                    refine g_aload_n (M := mL_law) dL_law_374 rfl 1 rfl ?_
                    refine g_aload_n (M := mL_law) dL_law_375 rfl 0 rfl ?_
                    refine g_iload_n (M := mL_law) dL_law_376 rfl 3 rfl ?_
                    refine g_iconst (M := mL_law) (v := 1) dL_law_377 rfl ?_
                    refine g_iadd (M := mL_law) dL_law_378 ?_
                    obtain ⟨v65, ev65, hf⟩ := bd hf
                    refine g_sald (M := mL_law) dL_law_379 ev65 ?_
                    refine g_aload_n (M := mL_law) dL_law_380 rfl 0 rfl ?_
                    refine g_iload_n (M := mL_law) dL_law_381 rfl 3 rfl ?_
                    refine g_iconst (M := mL_law) (v := 2) dL_law_382 rfl ?_
                    refine g_iadd (M := mL_law) dL_law_383 ?_
                    obtain ⟨v66, ev66, hf⟩ := bd hf
                    refine g_sald (M := mL_law) dL_law_384 ev66 ?_
                    refine g_weak (M := mL_law) (kc := (3 * n) + 1) (ks := (160 * n) + 15) (by omega) (by omega) ?_
                    obtain ⟨b67, eb67, hf⟩ := bd hf
                    obtain ⟨r68, er68, hf⟩ := bd hf
                    refine g_callV (M := mL_law) (kc := (3 * n)) (ks := (160 * n)) (as := [vi v65, vi v66]) (rest := []) dL_law_385 cbX7_join vwRL_42 rfl eb67 rfl (Nat.le_of_ble_eq_true rfl) (Nat.le_of_ble_eq_true rfl) (c_X7_join G b67 v65 v66 h r68 er68) ?_
                    refine g_aload_n (M := mL_law) dL_law_388 rfl 2 rfl ?_
                    refine g_aload_n (M := mL_law) dL_law_389 rfl 0 rfl ?_
                    refine g_iload_n (M := mL_law) dL_law_390 rfl 3 rfl ?_
                    refine g_iconst (M := mL_law) (v := 1) dL_law_391 rfl ?_
                    refine g_iadd (M := mL_law) dL_law_392 ?_
                    obtain ⟨v69, ev69, hf⟩ := bd hf
                    refine g_sald (M := mL_law) dL_law_393 ev69 ?_
                    refine g_aload_n (M := mL_law) dL_law_394 rfl 0 rfl ?_
                    refine g_iload_n (M := mL_law) dL_law_395 rfl 3 rfl ?_
                    refine g_iconst (M := mL_law) (v := 2) dL_law_396 rfl ?_
                    refine g_iadd (M := mL_law) dL_law_397 ?_
                    obtain ⟨v70, ev70, hf⟩ := bd hf
                    refine g_sald (M := mL_law) dL_law_398 ev70 ?_
                    refine g_weak (M := mL_law) (kc := (3 * n) + 0) (ks := (160 * n) + 0) (by omega) (by omega) ?_
                    obtain ⟨b71, eb71, hf⟩ := bd hf
                    obtain ⟨r72, er72, hf⟩ := bd hf
                    refine g_callV (M := mL_law) (kc := (3 * n)) (ks := (160 * n)) (as := [vi v69, vi v70]) (rest := [vi r68.1]) dL_law_399 cbX8_join vwRL_45 rfl eb71 rfl (Nat.le_of_ble_eq_true rfl) (Nat.le_of_ble_eq_true rfl) (c_X8_join G b71 v69 v70 r68.2 r72 er72) ?_
                    refine g_ic_eq (M := mL_law) (tgt := 1648) dL_law_402 rfl (fun q402 => ?_) (fun q402 => ?_)
                    · replace hf := ift hf q402
                      refine g_iinc (M := mL_law) (j := 3) (L2 := [(3, vi (a3 + (8))), (0, vr (some (gsb G))), (1, vr a1), (2, vr a2)]) dL_law_1648 rfl rfl (Nat.le_of_ble_eq_true rfl) rfl ?_
                      refine g_goto (M := mL_law) (tgt := 18) dL_law_1651 rfl ?_
                      exact g_weak (M := mL_law) (kc := 3 * n) (ks := 160 * n) (by omega) (by omega) <| g_sub (M := mL_law) (L2 := [(0, vr (some (gsb G))), (1, vr a1), (2, vr a2), (3, vi (a3 + (8)))]) [1, 2, 3, 0] rfl <| ih a1 a2 (a3 + (8)) r72.2 _ hf
                    · replace hf := iff_ hf q402
                      refine g_iconst (M := mL_law) (v := 0) dL_law_405 rfl ?_
                      cases hf
                      exact g_weak (M := mL_law) (Nat.zero_le _) (Nat.zero_le _) (g_ret (M := mL_law) dL_law_406 rfl)
                  · replace hf := iff_ hf q33_6
                    by_cases q33_7 : (v16 &&& (31 : Int32)) = 7
                    · replace hf := ift hf q33_7
                      refine g_sw_in (M := mL_law) (off := 374) (tgt := 407) dL_law_33 (by rw [q33_7]; decide) (by rw [q33_7]; decide) (by rw [q33_7]; rfl) (by decide) ?_
                      refine g_aload_n (M := mL_law) dL_law_407 rfl 1 rfl ?_
                      refine g_aload_n (M := mL_law) dL_law_408 rfl 0 rfl ?_
                      refine g_iload_n (M := mL_law) dL_law_409 rfl 3 rfl ?_
                      refine g_iconst (M := mL_law) (v := 1) dL_law_410 rfl ?_
                      refine g_iadd (M := mL_law) dL_law_411 ?_
                      obtain ⟨v73, ev73, hf⟩ := bd hf
                      refine g_sald (M := mL_law) dL_law_412 ev73 ?_
                      refine g_aload_n (M := mL_law) dL_law_413 rfl 0 rfl ?_
                      refine g_iload_n (M := mL_law) dL_law_414 rfl 3 rfl ?_
                      refine g_iconst (M := mL_law) (v := 2) dL_law_415 rfl ?_
                      refine g_iadd (M := mL_law) dL_law_416 ?_
                      obtain ⟨v74, ev74, hf⟩ := bd hf
                      refine g_sald (M := mL_law) dL_law_417 ev74 ?_
                      refine g_aload_n (M := mL_law) dL_law_418 rfl 0 rfl ?_
                      refine g_iload_n (M := mL_law) dL_law_419 rfl 3 rfl ?_
                      refine g_iconst (M := mL_law) (v := 3) dL_law_420 rfl ?_
                      refine g_iadd (M := mL_law) dL_law_421 ?_
                      obtain ⟨v75, ev75, hf⟩ := bd hf
                      refine g_sald (M := mL_law) dL_law_422 ev75 ?_
                      refine g_aload_n (M := mL_law) dL_law_423 rfl 0 rfl ?_
                      refine g_iload_n (M := mL_law) dL_law_424 rfl 3 rfl ?_
                      refine g_iconst (M := mL_law) (v := 4) dL_law_425 rfl ?_
                      refine g_iadd (M := mL_law) dL_law_426 ?_
                      obtain ⟨v76, ev76, hf⟩ := bd hf
                      refine g_sald (M := mL_law) dL_law_427 ev76 ?_
                      refine g_weak (M := mL_law) (kc := (3 * n) + 1) (ks := (160 * n) + 15) (by omega) (by omega) ?_
                      obtain ⟨b77, eb77, hf⟩ := bd hf
                      obtain ⟨r78, er78, hf⟩ := bd hf
                      refine g_callV (M := mL_law) (kc := (3 * n)) (ks := (160 * n)) (as := [vi v73, vi v74, vi v75, vi v76]) (rest := []) dL_law_428 cbX7_reserve vwRL_46 rfl eb77 rfl (Nat.le_of_ble_eq_true rfl) (Nat.le_of_ble_eq_true rfl) (c_X7_reserve G b77 v73 v74 v75 v76 h r78 er78) ?_
                      refine g_aload_n (M := mL_law) dL_law_431 rfl 2 rfl ?_
                      refine g_aload_n (M := mL_law) dL_law_432 rfl 0 rfl ?_
                      refine g_iload_n (M := mL_law) dL_law_433 rfl 3 rfl ?_
                      refine g_iconst (M := mL_law) (v := 1) dL_law_434 rfl ?_
                      refine g_iadd (M := mL_law) dL_law_435 ?_
                      obtain ⟨v79, ev79, hf⟩ := bd hf
                      refine g_sald (M := mL_law) dL_law_436 ev79 ?_
                      refine g_aload_n (M := mL_law) dL_law_437 rfl 0 rfl ?_
                      refine g_iload_n (M := mL_law) dL_law_438 rfl 3 rfl ?_
                      refine g_iconst (M := mL_law) (v := 2) dL_law_439 rfl ?_
                      refine g_iadd (M := mL_law) dL_law_440 ?_
                      obtain ⟨v80, ev80, hf⟩ := bd hf
                      refine g_sald (M := mL_law) dL_law_441 ev80 ?_
                      refine g_aload_n (M := mL_law) dL_law_442 rfl 0 rfl ?_
                      refine g_iload_n (M := mL_law) dL_law_443 rfl 3 rfl ?_
                      refine g_iconst (M := mL_law) (v := 3) dL_law_444 rfl ?_
                      refine g_iadd (M := mL_law) dL_law_445 ?_
                      obtain ⟨v81, ev81, hf⟩ := bd hf
                      refine g_sald (M := mL_law) dL_law_446 ev81 ?_
                      refine g_aload_n (M := mL_law) dL_law_447 rfl 0 rfl ?_
                      refine g_iload_n (M := mL_law) dL_law_448 rfl 3 rfl ?_
                      refine g_iconst (M := mL_law) (v := 4) dL_law_449 rfl ?_
                      refine g_iadd (M := mL_law) dL_law_450 ?_
                      obtain ⟨v82, ev82, hf⟩ := bd hf
                      refine g_sald (M := mL_law) dL_law_451 ev82 ?_
                      refine g_weak (M := mL_law) (kc := (3 * n) + 0) (ks := (160 * n) + 0) (by omega) (by omega) ?_
                      obtain ⟨b83, eb83, hf⟩ := bd hf
                      obtain ⟨r84, er84, hf⟩ := bd hf
                      refine g_callV (M := mL_law) (kc := (3 * n)) (ks := (160 * n)) (as := [vi v79, vi v80, vi v81, vi v82]) (rest := [vi r78.1]) dL_law_452 cbX8_reserve vwRL_49 rfl eb83 rfl (Nat.le_of_ble_eq_true rfl) (Nat.le_of_ble_eq_true rfl) (c_X8_reserve G b83 v79 v80 v81 v82 r78.2 r84 er84) ?_
                      refine g_ic_eq (M := mL_law) (tgt := 1648) dL_law_455 rfl (fun q455 => ?_) (fun q455 => ?_)
                      · replace hf := ift hf q455
                        refine g_iinc (M := mL_law) (j := 3) (L2 := [(3, vi (a3 + (8))), (0, vr (some (gsb G))), (1, vr a1), (2, vr a2)]) dL_law_1648 rfl rfl (Nat.le_of_ble_eq_true rfl) rfl ?_
                        refine g_goto (M := mL_law) (tgt := 18) dL_law_1651 rfl ?_
                        exact g_weak (M := mL_law) (kc := 3 * n) (ks := 160 * n) (by omega) (by omega) <| g_sub (M := mL_law) (L2 := [(0, vr (some (gsb G))), (1, vr a1), (2, vr a2), (3, vi (a3 + (8)))]) [1, 2, 3, 0] rfl <| ih a1 a2 (a3 + (8)) r84.2 _ hf
                      · replace hf := iff_ hf q455
                        refine g_iconst (M := mL_law) (v := 0) dL_law_458 rfl ?_
                        cases hf
                        exact g_weak (M := mL_law) (Nat.zero_le _) (Nat.zero_le _) (g_ret (M := mL_law) dL_law_459 rfl)
                    · replace hf := iff_ hf q33_7
                      by_cases q33_8 : (v16 &&& (31 : Int32)) = 8
                      · replace hf := ift hf q33_8
                        refine g_sw_in (M := mL_law) (off := 427) (tgt := 460) dL_law_33 (by rw [q33_8]; decide) (by rw [q33_8]; decide) (by rw [q33_8]; rfl) (by decide) ?_
                        refine g_aload_n (M := mL_law) dL_law_460 rfl 1 rfl ?_
                        refine g_aload_n (M := mL_law) dL_law_461 rfl 0 rfl ?_
                        refine g_iload_n (M := mL_law) dL_law_462 rfl 3 rfl ?_
                        refine g_iconst (M := mL_law) (v := 1) dL_law_463 rfl ?_
                        refine g_iadd (M := mL_law) dL_law_464 ?_
                        obtain ⟨v85, ev85, hf⟩ := bd hf
                        refine g_sald (M := mL_law) dL_law_465 ev85 ?_
                        refine g_aload_n (M := mL_law) dL_law_466 rfl 0 rfl ?_
                        refine g_iload_n (M := mL_law) dL_law_467 rfl 3 rfl ?_
                        refine g_iconst (M := mL_law) (v := 2) dL_law_468 rfl ?_
                        refine g_iadd (M := mL_law) dL_law_469 ?_
                        obtain ⟨v86, ev86, hf⟩ := bd hf
                        refine g_sald (M := mL_law) dL_law_470 ev86 ?_
                        refine g_aload_n (M := mL_law) dL_law_471 rfl 0 rfl ?_
                        refine g_iload_n (M := mL_law) dL_law_472 rfl 3 rfl ?_
                        refine g_iconst (M := mL_law) (v := 3) dL_law_473 rfl ?_
                        refine g_iadd (M := mL_law) dL_law_474 ?_
                        obtain ⟨v87, ev87, hf⟩ := bd hf
                        refine g_sald (M := mL_law) dL_law_475 ev87 ?_
                        refine g_if_eq (M := mL_law) (tgt := 483) dL_law_476 rfl (fun q476 => ?_) (fun q476 => ?_)
                        · replace hf := ift hf q476
                          refine g_iconst (M := mL_law) (v := 0) dL_law_483 rfl ?_
                          exact g_weak (M := mL_law) (kc := 3 * n + 1) (ks := 160 * n + 15) (by omega) (by omega) <| x_L_law_484 G n (f_L_law_18 G n) ih a1 a2 a3 a1 v85 v86 (0 : Int32) h _ hf
                        · replace hf := iff_ hf q476
                          refine g_iconst (M := mL_law) (v := 1) dL_law_479 rfl ?_
                          refine g_goto (M := mL_law) (tgt := 484) dL_law_480 rfl ?_
                          exact g_weak (M := mL_law) (kc := 3 * n + 1) (ks := 160 * n + 15) (by omega) (by omega) <| x_L_law_484 G n (f_L_law_18 G n) ih a1 a2 a3 a1 v85 v86 (1 : Int32) h _ hf
                      · replace hf := iff_ hf q33_8
                        by_cases q33_9 : (v16 &&& (31 : Int32)) = 9
                        · replace hf := ift hf q33_9
                          refine g_sw_in (M := mL_law) (off := 486) (tgt := 519) dL_law_33 (by rw [q33_9]; decide) (by rw [q33_9]; decide) (by rw [q33_9]; rfl) (by decide) ?_
                          refine g_aload_n (M := mL_law) dL_law_519 rfl 1 rfl ?_
                          refine g_aload_n (M := mL_law) dL_law_520 rfl 0 rfl ?_
                          refine g_iload_n (M := mL_law) dL_law_521 rfl 3 rfl ?_
                          refine g_iconst (M := mL_law) (v := 1) dL_law_522 rfl ?_
                          refine g_iadd (M := mL_law) dL_law_523 ?_
                          obtain ⟨v88, ev88, hf⟩ := bd hf
                          refine g_sald (M := mL_law) dL_law_524 ev88 ?_
                          refine g_aload_n (M := mL_law) dL_law_525 rfl 0 rfl ?_
                          refine g_iload_n (M := mL_law) dL_law_526 rfl 3 rfl ?_
                          refine g_iconst (M := mL_law) (v := 2) dL_law_527 rfl ?_
                          refine g_iadd (M := mL_law) dL_law_528 ?_
                          obtain ⟨v89, ev89, hf⟩ := bd hf
                          refine g_sald (M := mL_law) dL_law_529 ev89 ?_
                          refine g_weak (M := mL_law) (kc := (3 * n) + 1) (ks := (160 * n) + 15) (by omega) (by omega) ?_
                          obtain ⟨b90, eb90, hf⟩ := bd hf
                          obtain ⟨r91, er91, hf⟩ := bd hf
                          refine g_callV (M := mL_law) (kc := (3 * n)) (ks := (160 * n)) (as := [vi v88, vi v89]) (rest := []) dL_law_530 cbX7_withdraw vwRL_55 rfl eb90 rfl (Nat.le_of_ble_eq_true rfl) (Nat.le_of_ble_eq_true rfl) (c_X7_withdraw G b90 v88 v89 h r91 er91) ?_
                          refine g_aload_n (M := mL_law) dL_law_533 rfl 2 rfl ?_
                          refine g_aload_n (M := mL_law) dL_law_534 rfl 0 rfl ?_
                          refine g_iload_n (M := mL_law) dL_law_535 rfl 3 rfl ?_
                          refine g_iconst (M := mL_law) (v := 1) dL_law_536 rfl ?_
                          refine g_iadd (M := mL_law) dL_law_537 ?_
                          obtain ⟨v92, ev92, hf⟩ := bd hf
                          refine g_sald (M := mL_law) dL_law_538 ev92 ?_
                          refine g_aload_n (M := mL_law) dL_law_539 rfl 0 rfl ?_
                          refine g_iload_n (M := mL_law) dL_law_540 rfl 3 rfl ?_
                          refine g_iconst (M := mL_law) (v := 2) dL_law_541 rfl ?_
                          refine g_iadd (M := mL_law) dL_law_542 ?_
                          obtain ⟨v93, ev93, hf⟩ := bd hf
                          refine g_sald (M := mL_law) dL_law_543 ev93 ?_
                          refine g_weak (M := mL_law) (kc := (3 * n) + 0) (ks := (160 * n) + 0) (by omega) (by omega) ?_
                          obtain ⟨b94, eb94, hf⟩ := bd hf
                          obtain ⟨r95, er95, hf⟩ := bd hf
                          refine g_callV (M := mL_law) (kc := (3 * n)) (ks := (160 * n)) (as := [vi v92, vi v93]) (rest := [vi r91.1]) dL_law_544 cbX8_withdraw vwRL_58 rfl eb94 rfl (Nat.le_of_ble_eq_true rfl) (Nat.le_of_ble_eq_true rfl) (c_X8_withdraw G b94 v92 v93 r91.2 r95 er95) ?_
                          refine g_ic_eq (M := mL_law) (tgt := 1648) dL_law_547 rfl (fun q547 => ?_) (fun q547 => ?_)
                          · replace hf := ift hf q547
                            refine g_iinc (M := mL_law) (j := 3) (L2 := [(3, vi (a3 + (8))), (0, vr (some (gsb G))), (1, vr a1), (2, vr a2)]) dL_law_1648 rfl rfl (Nat.le_of_ble_eq_true rfl) rfl ?_
                            refine g_goto (M := mL_law) (tgt := 18) dL_law_1651 rfl ?_
                            exact g_weak (M := mL_law) (kc := 3 * n) (ks := 160 * n) (by omega) (by omega) <| g_sub (M := mL_law) (L2 := [(0, vr (some (gsb G))), (1, vr a1), (2, vr a2), (3, vi (a3 + (8)))]) [1, 2, 3, 0] rfl <| ih a1 a2 (a3 + (8)) r95.2 _ hf
                          · replace hf := iff_ hf q547
                            refine g_iconst (M := mL_law) (v := 0) dL_law_550 rfl ?_
                            cases hf
                            exact g_weak (M := mL_law) (Nat.zero_le _) (Nat.zero_le _) (g_ret (M := mL_law) dL_law_551 rfl)
                        · replace hf := iff_ hf q33_9
                          by_cases q33_10 : (v16 &&& (31 : Int32)) = 10
                          · replace hf := ift hf q33_10
                            refine g_sw_in (M := mL_law) (off := 519) (tgt := 552) dL_law_33 (by rw [q33_10]; decide) (by rw [q33_10]; decide) (by rw [q33_10]; rfl) (by decide) ?_
                            refine g_aload_n (M := mL_law) dL_law_552 rfl 1 rfl ?_
                            refine g_aload_n (M := mL_law) dL_law_553 rfl 0 rfl ?_
                            refine g_iload_n (M := mL_law) dL_law_554 rfl 3 rfl ?_
                            refine g_iconst (M := mL_law) (v := 1) dL_law_555 rfl ?_
                            refine g_iadd (M := mL_law) dL_law_556 ?_
                            obtain ⟨v96, ev96, hf⟩ := bd hf
                            refine g_sald (M := mL_law) dL_law_557 ev96 ?_
                            refine g_aload_n (M := mL_law) dL_law_558 rfl 0 rfl ?_
                            refine g_iload_n (M := mL_law) dL_law_559 rfl 3 rfl ?_
                            refine g_iconst (M := mL_law) (v := 2) dL_law_560 rfl ?_
                            refine g_iadd (M := mL_law) dL_law_561 ?_
                            obtain ⟨v97, ev97, hf⟩ := bd hf
                            refine g_sald (M := mL_law) dL_law_562 ev97 ?_
                            refine g_aload_n (M := mL_law) dL_law_563 rfl 0 rfl ?_
                            refine g_iload_n (M := mL_law) dL_law_564 rfl 3 rfl ?_
                            refine g_iconst (M := mL_law) (v := 3) dL_law_565 rfl ?_
                            refine g_iadd (M := mL_law) dL_law_566 ?_
                            obtain ⟨v98, ev98, hf⟩ := bd hf
                            refine g_sald (M := mL_law) dL_law_567 ev98 ?_
                            refine g_aload_n (M := mL_law) dL_law_568 rfl 0 rfl ?_
                            refine g_iload_n (M := mL_law) dL_law_569 rfl 3 rfl ?_
                            refine g_iconst (M := mL_law) (v := 4) dL_law_570 rfl ?_
                            refine g_iadd (M := mL_law) dL_law_571 ?_
                            obtain ⟨v99, ev99, hf⟩ := bd hf
                            refine g_sald (M := mL_law) dL_law_572 ev99 ?_
                            refine g_weak (M := mL_law) (kc := (3 * n) + 1) (ks := (160 * n) + 15) (by omega) (by omega) ?_
                            obtain ⟨b100, eb100, hf⟩ := bd hf
                            obtain ⟨r101, er101, hf⟩ := bd hf
                            refine g_callV (M := mL_law) (kc := (3 * n)) (ks := (160 * n)) (as := [vi v96, vi v97, vi v98, vi v99]) (rest := []) dL_law_573 cbX7_change vwRL_59 rfl eb100 rfl (Nat.le_of_ble_eq_true rfl) (Nat.le_of_ble_eq_true rfl) (c_X7_change G b100 v96 v97 v98 v99 h r101 er101) ?_
                            refine g_aload_n (M := mL_law) dL_law_576 rfl 2 rfl ?_
                            refine g_aload_n (M := mL_law) dL_law_577 rfl 0 rfl ?_
                            refine g_iload_n (M := mL_law) dL_law_578 rfl 3 rfl ?_
                            refine g_iconst (M := mL_law) (v := 1) dL_law_579 rfl ?_
                            refine g_iadd (M := mL_law) dL_law_580 ?_
                            obtain ⟨v102, ev102, hf⟩ := bd hf
                            refine g_sald (M := mL_law) dL_law_581 ev102 ?_
                            refine g_aload_n (M := mL_law) dL_law_582 rfl 0 rfl ?_
                            refine g_iload_n (M := mL_law) dL_law_583 rfl 3 rfl ?_
                            refine g_iconst (M := mL_law) (v := 2) dL_law_584 rfl ?_
                            refine g_iadd (M := mL_law) dL_law_585 ?_
                            obtain ⟨v103, ev103, hf⟩ := bd hf
                            refine g_sald (M := mL_law) dL_law_586 ev103 ?_
                            refine g_aload_n (M := mL_law) dL_law_587 rfl 0 rfl ?_
                            refine g_iload_n (M := mL_law) dL_law_588 rfl 3 rfl ?_
                            refine g_iconst (M := mL_law) (v := 3) dL_law_589 rfl ?_
                            refine g_iadd (M := mL_law) dL_law_590 ?_
                            obtain ⟨v104, ev104, hf⟩ := bd hf
                            refine g_sald (M := mL_law) dL_law_591 ev104 ?_
                            refine g_aload_n (M := mL_law) dL_law_592 rfl 0 rfl ?_
                            refine g_iload_n (M := mL_law) dL_law_593 rfl 3 rfl ?_
                            refine g_iconst (M := mL_law) (v := 4) dL_law_594 rfl ?_
                            refine g_iadd (M := mL_law) dL_law_595 ?_
                            obtain ⟨v105, ev105, hf⟩ := bd hf
                            refine g_sald (M := mL_law) dL_law_596 ev105 ?_
                            refine g_weak (M := mL_law) (kc := (3 * n) + 0) (ks := (160 * n) + 0) (by omega) (by omega) ?_
                            obtain ⟨b106, eb106, hf⟩ := bd hf
                            obtain ⟨r107, er107, hf⟩ := bd hf
                            refine g_callV (M := mL_law) (kc := (3 * n)) (ks := (160 * n)) (as := [vi v102, vi v103, vi v104, vi v105]) (rest := [vi r101.1]) dL_law_597 cbX8_change vwRL_62 rfl eb106 rfl (Nat.le_of_ble_eq_true rfl) (Nat.le_of_ble_eq_true rfl) (c_X8_change G b106 v102 v103 v104 v105 r101.2 r107 er107) ?_
                            refine g_ic_eq (M := mL_law) (tgt := 1648) dL_law_600 rfl (fun q600 => ?_) (fun q600 => ?_)
                            · replace hf := ift hf q600
                              refine g_iinc (M := mL_law) (j := 3) (L2 := [(3, vi (a3 + (8))), (0, vr (some (gsb G))), (1, vr a1), (2, vr a2)]) dL_law_1648 rfl rfl (Nat.le_of_ble_eq_true rfl) rfl ?_
                              refine g_goto (M := mL_law) (tgt := 18) dL_law_1651 rfl ?_
                              exact g_weak (M := mL_law) (kc := 3 * n) (ks := 160 * n) (by omega) (by omega) <| g_sub (M := mL_law) (L2 := [(0, vr (some (gsb G))), (1, vr a1), (2, vr a2), (3, vi (a3 + (8)))]) [1, 2, 3, 0] rfl <| ih a1 a2 (a3 + (8)) r107.2 _ hf
                            · replace hf := iff_ hf q600
                              refine g_iconst (M := mL_law) (v := 0) dL_law_603 rfl ?_
                              cases hf
                              exact g_weak (M := mL_law) (Nat.zero_le _) (Nat.zero_le _) (g_ret (M := mL_law) dL_law_604 rfl)
                          · replace hf := iff_ hf q33_10
                            by_cases q33_11 : (v16 &&& (31 : Int32)) = 11
                            · replace hf := ift hf q33_11
                              refine g_sw_in (M := mL_law) (off := 572) (tgt := 605) dL_law_33 (by rw [q33_11]; decide) (by rw [q33_11]; decide) (by rw [q33_11]; rfl) (by decide) ?_
                              refine g_aload_n (M := mL_law) dL_law_605 rfl 1 rfl ?_
                              refine g_aload_n (M := mL_law) dL_law_606 rfl 0 rfl ?_
                              refine g_iload_n (M := mL_law) dL_law_607 rfl 3 rfl ?_
                              refine g_iconst (M := mL_law) (v := 1) dL_law_608 rfl ?_
                              refine g_iadd (M := mL_law) dL_law_609 ?_
                              obtain ⟨v108, ev108, hf⟩ := bd hf
                              refine g_sald (M := mL_law) dL_law_610 ev108 ?_
                              refine g_aload_n (M := mL_law) dL_law_611 rfl 0 rfl ?_
                              refine g_iload_n (M := mL_law) dL_law_612 rfl 3 rfl ?_
                              refine g_iconst (M := mL_law) (v := 2) dL_law_613 rfl ?_
                              refine g_iadd (M := mL_law) dL_law_614 ?_
                              obtain ⟨v109, ev109, hf⟩ := bd hf
                              refine g_sald (M := mL_law) dL_law_615 ev109 ?_
                              refine g_weak (M := mL_law) (kc := (3 * n) + 1) (ks := (160 * n) + 15) (by omega) (by omega) ?_
                              obtain ⟨b110, eb110, hf⟩ := bd hf
                              obtain ⟨r111, er111, hf⟩ := bd hf
                              refine g_callV (M := mL_law) (kc := (3 * n)) (ks := (160 * n)) (as := [vi v108, vi v109]) (rest := []) dL_law_616 cbX7_consent vwRL_63 rfl eb110 rfl (Nat.le_of_ble_eq_true rfl) (Nat.le_of_ble_eq_true rfl) (c_X7_consent G b110 v108 v109 h r111 er111) ?_
                              refine g_aload_n (M := mL_law) dL_law_619 rfl 2 rfl ?_
                              refine g_aload_n (M := mL_law) dL_law_620 rfl 0 rfl ?_
                              refine g_iload_n (M := mL_law) dL_law_621 rfl 3 rfl ?_
                              refine g_iconst (M := mL_law) (v := 1) dL_law_622 rfl ?_
                              refine g_iadd (M := mL_law) dL_law_623 ?_
                              obtain ⟨v112, ev112, hf⟩ := bd hf
                              refine g_sald (M := mL_law) dL_law_624 ev112 ?_
                              refine g_aload_n (M := mL_law) dL_law_625 rfl 0 rfl ?_
                              refine g_iload_n (M := mL_law) dL_law_626 rfl 3 rfl ?_
                              refine g_iconst (M := mL_law) (v := 2) dL_law_627 rfl ?_
                              refine g_iadd (M := mL_law) dL_law_628 ?_
                              obtain ⟨v113, ev113, hf⟩ := bd hf
                              refine g_sald (M := mL_law) dL_law_629 ev113 ?_
                              refine g_weak (M := mL_law) (kc := (3 * n) + 0) (ks := (160 * n) + 0) (by omega) (by omega) ?_
                              obtain ⟨b114, eb114, hf⟩ := bd hf
                              obtain ⟨r115, er115, hf⟩ := bd hf
                              refine g_callV (M := mL_law) (kc := (3 * n)) (ks := (160 * n)) (as := [vi v112, vi v113]) (rest := [vi r111.1]) dL_law_630 cbX8_consent vwRL_66 rfl eb114 rfl (Nat.le_of_ble_eq_true rfl) (Nat.le_of_ble_eq_true rfl) (c_X8_consent G b114 v112 v113 r111.2 r115 er115) ?_
                              refine g_ic_eq (M := mL_law) (tgt := 1648) dL_law_633 rfl (fun q633 => ?_) (fun q633 => ?_)
                              · replace hf := ift hf q633
                                refine g_iinc (M := mL_law) (j := 3) (L2 := [(3, vi (a3 + (8))), (0, vr (some (gsb G))), (1, vr a1), (2, vr a2)]) dL_law_1648 rfl rfl (Nat.le_of_ble_eq_true rfl) rfl ?_
                                refine g_goto (M := mL_law) (tgt := 18) dL_law_1651 rfl ?_
                                exact g_weak (M := mL_law) (kc := 3 * n) (ks := 160 * n) (by omega) (by omega) <| g_sub (M := mL_law) (L2 := [(0, vr (some (gsb G))), (1, vr a1), (2, vr a2), (3, vi (a3 + (8)))]) [1, 2, 3, 0] rfl <| ih a1 a2 (a3 + (8)) r115.2 _ hf
                              · replace hf := iff_ hf q633
                                refine g_iconst (M := mL_law) (v := 0) dL_law_636 rfl ?_
                                cases hf
                                exact g_weak (M := mL_law) (Nat.zero_le _) (Nat.zero_le _) (g_ret (M := mL_law) dL_law_637 rfl)
                            · replace hf := iff_ hf q33_11
                              by_cases q33_12 : (v16 &&& (31 : Int32)) = 12
                              · replace hf := ift hf q33_12
                                refine g_sw_in (M := mL_law) (off := 605) (tgt := 638) dL_law_33 (by rw [q33_12]; decide) (by rw [q33_12]; decide) (by rw [q33_12]; rfl) (by decide) ?_
                                refine g_aload_n (M := mL_law) dL_law_638 rfl 1 rfl ?_
                                refine g_aload_n (M := mL_law) dL_law_639 rfl 0 rfl ?_
                                refine g_iload_n (M := mL_law) dL_law_640 rfl 3 rfl ?_
                                refine g_iconst (M := mL_law) (v := 1) dL_law_641 rfl ?_
                                refine g_iadd (M := mL_law) dL_law_642 ?_
                                obtain ⟨v116, ev116, hf⟩ := bd hf
                                refine g_sald (M := mL_law) dL_law_643 ev116 ?_
                                refine g_aload_n (M := mL_law) dL_law_644 rfl 0 rfl ?_
                                refine g_iload_n (M := mL_law) dL_law_645 rfl 3 rfl ?_
                                refine g_iconst (M := mL_law) (v := 2) dL_law_646 rfl ?_
                                refine g_iadd (M := mL_law) dL_law_647 ?_
                                obtain ⟨v117, ev117, hf⟩ := bd hf
                                refine g_sald (M := mL_law) dL_law_648 ev117 ?_
                                refine g_aload_n (M := mL_law) dL_law_649 rfl 0 rfl ?_
                                refine g_iload_n (M := mL_law) dL_law_650 rfl 3 rfl ?_
                                refine g_iconst (M := mL_law) (v := 3) dL_law_651 rfl ?_
                                refine g_iadd (M := mL_law) dL_law_652 ?_
                                obtain ⟨v118, ev118, hf⟩ := bd hf
                                refine g_sald (M := mL_law) dL_law_653 ev118 ?_
                                refine g_aload_n (M := mL_law) dL_law_654 rfl 0 rfl ?_
                                refine g_iload_n (M := mL_law) dL_law_655 rfl 3 rfl ?_
                                refine g_iconst (M := mL_law) (v := 4) dL_law_656 rfl ?_
                                refine g_iadd (M := mL_law) dL_law_657 ?_
                                obtain ⟨v119, ev119, hf⟩ := bd hf
                                refine g_sald (M := mL_law) dL_law_658 ev119 ?_
                                refine g_if_eq (M := mL_law) (tgt := 666) dL_law_659 rfl (fun q659 => ?_) (fun q659 => ?_)
                                · replace hf := ift hf q659
                                  refine g_iconst (M := mL_law) (v := 0) dL_law_666 rfl ?_
                                  exact g_weak (M := mL_law) (kc := 3 * n + 1) (ks := 160 * n + 15) (by omega) (by omega) <| x_L_law_667 G n (f_L_law_18 G n) ih a1 a2 a3 a1 v116 v117 v118 (0 : Int32) h _ hf
                                · replace hf := iff_ hf q659
                                  refine g_iconst (M := mL_law) (v := 1) dL_law_662 rfl ?_
                                  refine g_goto (M := mL_law) (tgt := 667) dL_law_663 rfl ?_
                                  exact g_weak (M := mL_law) (kc := 3 * n + 1) (ks := 160 * n + 15) (by omega) (by omega) <| x_L_law_667 G n (f_L_law_18 G n) ih a1 a2 a3 a1 v116 v117 v118 (1 : Int32) h _ hf
                              · replace hf := iff_ hf q33_12
                                by_cases q33_13 : (v16 &&& (31 : Int32)) = 13
                                · replace hf := ift hf q33_13
                                  refine g_sw_in (M := mL_law) (off := 674) (tgt := 707) dL_law_33 (by rw [q33_13]; decide) (by rw [q33_13]; decide) (by rw [q33_13]; rfl) (by decide) ?_
                                  refine g_aload_n (M := mL_law) dL_law_707 rfl 1 rfl ?_
                                  refine g_aload_n (M := mL_law) dL_law_708 rfl 0 rfl ?_
                                  refine g_iload_n (M := mL_law) dL_law_709 rfl 3 rfl ?_
                                  refine g_iconst (M := mL_law) (v := 1) dL_law_710 rfl ?_
                                  refine g_iadd (M := mL_law) dL_law_711 ?_
                                  obtain ⟨v120, ev120, hf⟩ := bd hf
                                  refine g_sald (M := mL_law) dL_law_712 ev120 ?_
                                  refine g_i2l (M := mL_law) dL_law_713 ?_
                                  refine g_bipush (M := mL_law) (v := 32) dL_law_714 rfl ?_
                                  refine g_lshl (M := mL_law) dL_law_716 ?_
                                  refine g_aload_n (M := mL_law) dL_law_717 rfl 0 rfl ?_
                                  refine g_iload_n (M := mL_law) dL_law_718 rfl 3 rfl ?_
                                  refine g_iconst (M := mL_law) (v := 2) dL_law_719 rfl ?_
                                  refine g_iadd (M := mL_law) dL_law_720 ?_
                                  obtain ⟨v121, ev121, hf⟩ := bd hf
                                  refine g_sald (M := mL_law) dL_law_721 ev121 ?_
                                  refine g_i2l (M := mL_law) dL_law_722 ?_
                                  refine g_ldc2 (M := mL_law) dL_law_723 csRL_72 ?_
                                  refine g_land (M := mL_law) dL_law_726 ?_
                                  refine g_lor (M := mL_law) dL_law_727 ?_
                                  refine g_weak (M := mL_law) (kc := (3 * n) + 1) (ks := (160 * n) + 15) (by omega) (by omega) ?_
                                  obtain ⟨b122, eb122, hf⟩ := bd hf
                                  obtain ⟨r123, er123, hf⟩ := bd hf
                                  refine g_callV (M := mL_law) (kc := (3 * n)) (ks := (160 * n)) (as := [vl ((v120.toInt64 <<< ((32 : Int32).toInt64 &&& 63)) ||| (v121.toInt64 &&& (4294967295 : Int64)))]) (rest := []) dL_law_728 cbX7_note vwRL_74 rfl eb122 rfl (Nat.le_of_ble_eq_true rfl) (Nat.le_of_ble_eq_true rfl) (c_X7_note G b122 ((v120.toInt64 <<< ((32 : Int32).toInt64 &&& 63)) ||| (v121.toInt64 &&& (4294967295 : Int64))) h r123 er123) ?_
                                  refine g_aload_n (M := mL_law) dL_law_731 rfl 2 rfl ?_
                                  refine g_aload_n (M := mL_law) dL_law_732 rfl 0 rfl ?_
                                  refine g_iload_n (M := mL_law) dL_law_733 rfl 3 rfl ?_
                                  refine g_iconst (M := mL_law) (v := 1) dL_law_734 rfl ?_
                                  refine g_iadd (M := mL_law) dL_law_735 ?_
                                  obtain ⟨v124, ev124, hf⟩ := bd hf
                                  refine g_sald (M := mL_law) dL_law_736 ev124 ?_
                                  refine g_i2l (M := mL_law) dL_law_737 ?_
                                  refine g_bipush (M := mL_law) (v := 32) dL_law_738 rfl ?_
                                  refine g_lshl (M := mL_law) dL_law_740 ?_
                                  refine g_aload_n (M := mL_law) dL_law_741 rfl 0 rfl ?_
                                  refine g_iload_n (M := mL_law) dL_law_742 rfl 3 rfl ?_
                                  refine g_iconst (M := mL_law) (v := 2) dL_law_743 rfl ?_
                                  refine g_iadd (M := mL_law) dL_law_744 ?_
                                  obtain ⟨v125, ev125, hf⟩ := bd hf
                                  refine g_sald (M := mL_law) dL_law_745 ev125 ?_
                                  refine g_i2l (M := mL_law) dL_law_746 ?_
                                  refine g_ldc2 (M := mL_law) dL_law_747 csRL_72 ?_
                                  refine g_land (M := mL_law) dL_law_750 ?_
                                  refine g_lor (M := mL_law) dL_law_751 ?_
                                  refine g_weak (M := mL_law) (kc := (3 * n) + 0) (ks := (160 * n) + 0) (by omega) (by omega) ?_
                                  obtain ⟨b126, eb126, hf⟩ := bd hf
                                  obtain ⟨r127, er127, hf⟩ := bd hf
                                  refine g_callV (M := mL_law) (kc := (3 * n)) (ks := (160 * n)) (as := [vl ((v124.toInt64 <<< ((32 : Int32).toInt64 &&& 63)) ||| (v125.toInt64 &&& (4294967295 : Int64)))]) (rest := [vi r123.1]) dL_law_752 cbX8_note vwRL_78 rfl eb126 rfl (Nat.le_of_ble_eq_true rfl) (Nat.le_of_ble_eq_true rfl) (c_X8_note G b126 ((v124.toInt64 <<< ((32 : Int32).toInt64 &&& 63)) ||| (v125.toInt64 &&& (4294967295 : Int64))) r123.2 r127 er127) ?_
                                  refine g_ic_eq (M := mL_law) (tgt := 1648) dL_law_755 rfl (fun q755 => ?_) (fun q755 => ?_)
                                  · replace hf := ift hf q755
                                    refine g_iinc (M := mL_law) (j := 3) (L2 := [(3, vi (a3 + (8))), (0, vr (some (gsb G))), (1, vr a1), (2, vr a2)]) dL_law_1648 rfl rfl (Nat.le_of_ble_eq_true rfl) rfl ?_
                                    refine g_goto (M := mL_law) (tgt := 18) dL_law_1651 rfl ?_
                                    exact g_weak (M := mL_law) (kc := 3 * n) (ks := 160 * n) (by omega) (by omega) <| g_sub (M := mL_law) (L2 := [(0, vr (some (gsb G))), (1, vr a1), (2, vr a2), (3, vi (a3 + (8)))]) [1, 2, 3, 0] rfl <| ih a1 a2 (a3 + (8)) r127.2 _ hf
                                  · replace hf := iff_ hf q755
                                    refine g_iconst (M := mL_law) (v := 0) dL_law_758 rfl ?_
                                    cases hf
                                    exact g_weak (M := mL_law) (Nat.zero_le _) (Nat.zero_le _) (g_ret (M := mL_law) dL_law_759 rfl)
                                · replace hf := iff_ hf q33_13
                                  by_cases q33_14 : (v16 &&& (31 : Int32)) = 14
                                  · replace hf := ift hf q33_14
                                    refine g_sw_in (M := mL_law) (off := 727) (tgt := 760) dL_law_33 (by rw [q33_14]; decide) (by rw [q33_14]; decide) (by rw [q33_14]; rfl) (by decide) ?_
                                    refine g_aload_n (M := mL_law) dL_law_760 rfl 1 rfl ?_
                                    refine g_weak (M := mL_law) (kc := (3 * n) + 0) (ks := (160 * n) + 0) (by omega) (by omega) ?_
                                    obtain ⟨b128, eb128, hf⟩ := bd hf
                                    obtain ⟨r129, er129, hf⟩ := bd hf
                                    refine g_callV (M := mL_law) (kc := (3 * n)) (ks := (160 * n)) (as := []) (rest := []) dL_law_761 cbX7_undo vwRL_79 rfl eb128 rfl (Nat.le_of_ble_eq_true rfl) (Nat.le_of_ble_eq_true rfl) (c_X7_undo G b128 h r129 er129) ?_
                                    refine g_aload_n (M := mL_law) dL_law_764 rfl 2 rfl ?_
                                    refine g_weak (M := mL_law) (kc := (3 * n) + 0) (ks := (160 * n) + 0) (by omega) (by omega) ?_
                                    obtain ⟨b130, eb130, hf⟩ := bd hf
                                    obtain ⟨r131, er131, hf⟩ := bd hf
                                    refine g_callV (M := mL_law) (kc := (3 * n)) (ks := (160 * n)) (as := []) (rest := [vi r129.1]) dL_law_765 cbX8_undo vwRL_82 rfl eb130 rfl (Nat.le_of_ble_eq_true rfl) (Nat.le_of_ble_eq_true rfl) (c_X8_undo G b130 r129.2 r131 er131) ?_
                                    refine g_ic_eq (M := mL_law) (tgt := 1648) dL_law_768 rfl (fun q768 => ?_) (fun q768 => ?_)
                                    · replace hf := ift hf q768
                                      refine g_iinc (M := mL_law) (j := 3) (L2 := [(3, vi (a3 + (8))), (0, vr (some (gsb G))), (1, vr a1), (2, vr a2)]) dL_law_1648 rfl rfl (Nat.le_of_ble_eq_true rfl) rfl ?_
                                      refine g_goto (M := mL_law) (tgt := 18) dL_law_1651 rfl ?_
                                      exact g_weak (M := mL_law) (kc := 3 * n) (ks := 160 * n) (by omega) (by omega) <| g_sub (M := mL_law) (L2 := [(0, vr (some (gsb G))), (1, vr a1), (2, vr a2), (3, vi (a3 + (8)))]) [1, 2, 3, 0] rfl <| ih a1 a2 (a3 + (8)) r131.2 _ hf
                                    · replace hf := iff_ hf q768
                                      refine g_iconst (M := mL_law) (v := 0) dL_law_771 rfl ?_
                                      cases hf
                                      exact g_weak (M := mL_law) (Nat.zero_le _) (Nat.zero_le _) (g_ret (M := mL_law) dL_law_772 rfl)
                                  · replace hf := iff_ hf q33_14
                                    by_cases q33_15 : (v16 &&& (31 : Int32)) = 15
                                    · replace hf := ift hf q33_15
                                      refine g_sw_in (M := mL_law) (off := 740) (tgt := 773) dL_law_33 (by rw [q33_15]; decide) (by rw [q33_15]; decide) (by rw [q33_15]; rfl) (by decide) ?_
                                      refine g_aload_n (M := mL_law) dL_law_773 rfl 1 rfl ?_
                                      refine g_aload_n (M := mL_law) dL_law_774 rfl 0 rfl ?_
                                      refine g_iload_n (M := mL_law) dL_law_775 rfl 3 rfl ?_
                                      refine g_iconst (M := mL_law) (v := 1) dL_law_776 rfl ?_
                                      refine g_iadd (M := mL_law) dL_law_777 ?_
                                      obtain ⟨v132, ev132, hf⟩ := bd hf
                                      refine g_sald (M := mL_law) dL_law_778 ev132 ?_
                                      refine g_aload_n (M := mL_law) dL_law_779 rfl 0 rfl ?_
                                      refine g_iload_n (M := mL_law) dL_law_780 rfl 3 rfl ?_
                                      refine g_iconst (M := mL_law) (v := 2) dL_law_781 rfl ?_
                                      refine g_iadd (M := mL_law) dL_law_782 ?_
                                      obtain ⟨v133, ev133, hf⟩ := bd hf
                                      refine g_sald (M := mL_law) dL_law_783 ev133 ?_
                                      refine g_aload_n (M := mL_law) dL_law_784 rfl 0 rfl ?_
                                      refine g_iload_n (M := mL_law) dL_law_785 rfl 3 rfl ?_
                                      refine g_iconst (M := mL_law) (v := 3) dL_law_786 rfl ?_
                                      refine g_iadd (M := mL_law) dL_law_787 ?_
                                      obtain ⟨v134, ev134, hf⟩ := bd hf
                                      refine g_sald (M := mL_law) dL_law_788 ev134 ?_
                                      refine g_aload_n (M := mL_law) dL_law_789 rfl 0 rfl ?_
                                      refine g_iload_n (M := mL_law) dL_law_790 rfl 3 rfl ?_
                                      refine g_iconst (M := mL_law) (v := 4) dL_law_791 rfl ?_
                                      refine g_iadd (M := mL_law) dL_law_792 ?_
                                      obtain ⟨v135, ev135, hf⟩ := bd hf
                                      refine g_sald (M := mL_law) dL_law_793 ev135 ?_
                                      refine g_aload_n (M := mL_law) dL_law_794 rfl 0 rfl ?_
                                      refine g_iload_n (M := mL_law) dL_law_795 rfl 3 rfl ?_
                                      refine g_iconst (M := mL_law) (v := 5) dL_law_796 rfl ?_
                                      refine g_iadd (M := mL_law) dL_law_797 ?_
                                      obtain ⟨v136, ev136, hf⟩ := bd hf
                                      refine g_sald (M := mL_law) dL_law_798 ev136 ?_
                                      refine g_aload_n (M := mL_law) dL_law_799 rfl 0 rfl ?_
                                      refine g_iload_n (M := mL_law) dL_law_800 rfl 3 rfl ?_
                                      refine g_bipush (M := mL_law) (v := 6) dL_law_801 rfl ?_
                                      refine g_iadd (M := mL_law) dL_law_803 ?_
                                      obtain ⟨v137, ev137, hf⟩ := bd hf
                                      refine g_sald (M := mL_law) dL_law_804 ev137 ?_
                                      refine g_weak (M := mL_law) (kc := (3 * n) + 0) (ks := (160 * n) + 0) (by omega) (by omega) ?_
                                      obtain ⟨b138, eb138, hf⟩ := bd hf
                                      obtain ⟨r139, er139, hf⟩ := bd hf
                                      refine g_callV (M := mL_law) (kc := (3 * n)) (ks := (160 * n)) (as := [vi v132, vi v133, vi v134, vi v135, vi v136, vi v137]) (rest := []) dL_law_805 cbX7_between vwRL_83 rfl eb138 rfl (Nat.le_of_ble_eq_true rfl) (Nat.le_of_ble_eq_true rfl) (c_X7_between G b138 v132 v133 v134 v135 v136 v137 h r139 er139) ?_
                                      refine g_aload_n (M := mL_law) dL_law_808 rfl 2 rfl ?_
                                      refine g_aload_n (M := mL_law) dL_law_809 rfl 0 rfl ?_
                                      refine g_iload_n (M := mL_law) dL_law_810 rfl 3 rfl ?_
                                      refine g_iconst (M := mL_law) (v := 1) dL_law_811 rfl ?_
                                      refine g_iadd (M := mL_law) dL_law_812 ?_
                                      obtain ⟨v140, ev140, hf⟩ := bd hf
                                      refine g_sald (M := mL_law) dL_law_813 ev140 ?_
                                      refine g_aload_n (M := mL_law) dL_law_814 rfl 0 rfl ?_
                                      refine g_iload_n (M := mL_law) dL_law_815 rfl 3 rfl ?_
                                      refine g_iconst (M := mL_law) (v := 2) dL_law_816 rfl ?_
                                      refine g_iadd (M := mL_law) dL_law_817 ?_
                                      obtain ⟨v141, ev141, hf⟩ := bd hf
                                      refine g_sald (M := mL_law) dL_law_818 ev141 ?_
                                      refine g_aload_n (M := mL_law) dL_law_819 rfl 0 rfl ?_
                                      refine g_iload_n (M := mL_law) dL_law_820 rfl 3 rfl ?_
                                      refine g_iconst (M := mL_law) (v := 3) dL_law_821 rfl ?_
                                      refine g_iadd (M := mL_law) dL_law_822 ?_
                                      obtain ⟨v142, ev142, hf⟩ := bd hf
                                      refine g_sald (M := mL_law) dL_law_823 ev142 ?_
                                      refine g_aload_n (M := mL_law) dL_law_824 rfl 0 rfl ?_
                                      refine g_iload_n (M := mL_law) dL_law_825 rfl 3 rfl ?_
                                      refine g_iconst (M := mL_law) (v := 4) dL_law_826 rfl ?_
                                      refine g_iadd (M := mL_law) dL_law_827 ?_
                                      obtain ⟨v143, ev143, hf⟩ := bd hf
                                      refine g_sald (M := mL_law) dL_law_828 ev143 ?_
                                      refine g_aload_n (M := mL_law) dL_law_829 rfl 0 rfl ?_
                                      refine g_iload_n (M := mL_law) dL_law_830 rfl 3 rfl ?_
                                      refine g_iconst (M := mL_law) (v := 5) dL_law_831 rfl ?_
                                      refine g_iadd (M := mL_law) dL_law_832 ?_
                                      obtain ⟨v144, ev144, hf⟩ := bd hf
                                      refine g_sald (M := mL_law) dL_law_833 ev144 ?_
                                      refine g_aload_n (M := mL_law) dL_law_834 rfl 0 rfl ?_
                                      refine g_iload_n (M := mL_law) dL_law_835 rfl 3 rfl ?_
                                      refine g_bipush (M := mL_law) (v := 6) dL_law_836 rfl ?_
                                      refine g_iadd (M := mL_law) dL_law_838 ?_
                                      obtain ⟨v145, ev145, hf⟩ := bd hf
                                      refine g_sald (M := mL_law) dL_law_839 ev145 ?_
                                      refine g_weak (M := mL_law) (kc := (3 * n) + 0) (ks := (160 * n) + 0) (by omega) (by omega) ?_
                                      obtain ⟨b146, eb146, hf⟩ := bd hf
                                      obtain ⟨r147, er147, hf⟩ := bd hf
                                      refine g_callV (M := mL_law) (kc := (3 * n)) (ks := (160 * n)) (as := [vi v140, vi v141, vi v142, vi v143, vi v144, vi v145]) (rest := [vi r139.1]) dL_law_840 cbX8_between vwRL_87 rfl eb146 rfl (Nat.le_of_ble_eq_true rfl) (Nat.le_of_ble_eq_true rfl) (c_X8_between G b146 v140 v141 v142 v143 v144 v145 r139.2 r147 er147) ?_
                                      refine g_ic_eq (M := mL_law) (tgt := 1648) dL_law_843 rfl (fun q843 => ?_) (fun q843 => ?_)
                                      · replace hf := ift hf q843
                                        refine g_iinc (M := mL_law) (j := 3) (L2 := [(3, vi (a3 + (8))), (0, vr (some (gsb G))), (1, vr a1), (2, vr a2)]) dL_law_1648 rfl rfl (Nat.le_of_ble_eq_true rfl) rfl ?_
                                        refine g_goto (M := mL_law) (tgt := 18) dL_law_1651 rfl ?_
                                        exact g_weak (M := mL_law) (kc := 3 * n) (ks := 160 * n) (by omega) (by omega) <| g_sub (M := mL_law) (L2 := [(0, vr (some (gsb G))), (1, vr a1), (2, vr a2), (3, vi (a3 + (8)))]) [1, 2, 3, 0] rfl <| ih a1 a2 (a3 + (8)) r147.2 _ hf
                                      · replace hf := iff_ hf q843
                                        refine g_iconst (M := mL_law) (v := 0) dL_law_846 rfl ?_
                                        cases hf
                                        exact g_weak (M := mL_law) (Nat.zero_le _) (Nat.zero_le _) (g_ret (M := mL_law) dL_law_847 rfl)
                                    · replace hf := iff_ hf q33_15
                                      by_cases q33_16 : (v16 &&& (31 : Int32)) = 16
                                      · replace hf := ift hf q33_16
                                        refine g_sw_in (M := mL_law) (off := 815) (tgt := 848) dL_law_33 (by rw [q33_16]; decide) (by rw [q33_16]; decide) (by rw [q33_16]; rfl) (by decide) ?_
                                        refine g_aload_n (M := mL_law) dL_law_848 rfl 1 rfl ?_
                                        refine g_aload_n (M := mL_law) dL_law_849 rfl 0 rfl ?_
                                        refine g_iload_n (M := mL_law) dL_law_850 rfl 3 rfl ?_
                                        refine g_iconst (M := mL_law) (v := 1) dL_law_851 rfl ?_
                                        refine g_iadd (M := mL_law) dL_law_852 ?_
                                        obtain ⟨v148, ev148, hf⟩ := bd hf
                                        refine g_sald (M := mL_law) dL_law_853 ev148 ?_
                                        refine g_aload_n (M := mL_law) dL_law_854 rfl 0 rfl ?_
                                        refine g_iload_n (M := mL_law) dL_law_855 rfl 3 rfl ?_
                                        refine g_iconst (M := mL_law) (v := 2) dL_law_856 rfl ?_
                                        refine g_iadd (M := mL_law) dL_law_857 ?_
                                        obtain ⟨v149, ev149, hf⟩ := bd hf
                                        refine g_sald (M := mL_law) dL_law_858 ev149 ?_
                                        refine g_aload_n (M := mL_law) dL_law_859 rfl 0 rfl ?_
                                        refine g_iload_n (M := mL_law) dL_law_860 rfl 3 rfl ?_
                                        refine g_iconst (M := mL_law) (v := 3) dL_law_861 rfl ?_
                                        refine g_iadd (M := mL_law) dL_law_862 ?_
                                        obtain ⟨v150, ev150, hf⟩ := bd hf
                                        refine g_sald (M := mL_law) dL_law_863 ev150 ?_
                                        refine g_aload_n (M := mL_law) dL_law_864 rfl 0 rfl ?_
                                        refine g_iload_n (M := mL_law) dL_law_865 rfl 3 rfl ?_
                                        refine g_iconst (M := mL_law) (v := 4) dL_law_866 rfl ?_
                                        refine g_iadd (M := mL_law) dL_law_867 ?_
                                        obtain ⟨v151, ev151, hf⟩ := bd hf
                                        refine g_sald (M := mL_law) dL_law_868 ev151 ?_
                                        refine g_aload_n (M := mL_law) dL_law_869 rfl 0 rfl ?_
                                        refine g_iload_n (M := mL_law) dL_law_870 rfl 3 rfl ?_
                                        refine g_iconst (M := mL_law) (v := 5) dL_law_871 rfl ?_
                                        refine g_iadd (M := mL_law) dL_law_872 ?_
                                        obtain ⟨v152, ev152, hf⟩ := bd hf
                                        refine g_sald (M := mL_law) dL_law_873 ev152 ?_
                                        refine g_aload_n (M := mL_law) dL_law_874 rfl 0 rfl ?_
                                        refine g_iload_n (M := mL_law) dL_law_875 rfl 3 rfl ?_
                                        refine g_bipush (M := mL_law) (v := 6) dL_law_876 rfl ?_
                                        refine g_iadd (M := mL_law) dL_law_878 ?_
                                        obtain ⟨v153, ev153, hf⟩ := bd hf
                                        refine g_sald (M := mL_law) dL_law_879 ev153 ?_
                                        refine g_weak (M := mL_law) (kc := (3 * n) + 0) (ks := (160 * n) + 0) (by omega) (by omega) ?_
                                        obtain ⟨b154, eb154, hf⟩ := bd hf
                                        obtain ⟨r155, er155, hf⟩ := bd hf
                                        refine g_callV (M := mL_law) (kc := (3 * n)) (ks := (160 * n)) (as := [vi v148, vi v149, vi v150, vi v151, vi v152, vi v153]) (rest := []) dL_law_880 cbX7_words vwRL_88 rfl eb154 rfl (Nat.le_of_ble_eq_true rfl) (Nat.le_of_ble_eq_true rfl) (c_X7_words G b154 v148 v149 v150 v151 v152 v153 h r155 er155) ?_
                                        refine g_aload_n (M := mL_law) dL_law_883 rfl 2 rfl ?_
                                        refine g_aload_n (M := mL_law) dL_law_884 rfl 0 rfl ?_
                                        refine g_iload_n (M := mL_law) dL_law_885 rfl 3 rfl ?_
                                        refine g_iconst (M := mL_law) (v := 1) dL_law_886 rfl ?_
                                        refine g_iadd (M := mL_law) dL_law_887 ?_
                                        obtain ⟨v156, ev156, hf⟩ := bd hf
                                        refine g_sald (M := mL_law) dL_law_888 ev156 ?_
                                        refine g_aload_n (M := mL_law) dL_law_889 rfl 0 rfl ?_
                                        refine g_iload_n (M := mL_law) dL_law_890 rfl 3 rfl ?_
                                        refine g_iconst (M := mL_law) (v := 2) dL_law_891 rfl ?_
                                        refine g_iadd (M := mL_law) dL_law_892 ?_
                                        obtain ⟨v157, ev157, hf⟩ := bd hf
                                        refine g_sald (M := mL_law) dL_law_893 ev157 ?_
                                        refine g_aload_n (M := mL_law) dL_law_894 rfl 0 rfl ?_
                                        refine g_iload_n (M := mL_law) dL_law_895 rfl 3 rfl ?_
                                        refine g_iconst (M := mL_law) (v := 3) dL_law_896 rfl ?_
                                        refine g_iadd (M := mL_law) dL_law_897 ?_
                                        obtain ⟨v158, ev158, hf⟩ := bd hf
                                        refine g_sald (M := mL_law) dL_law_898 ev158 ?_
                                        refine g_aload_n (M := mL_law) dL_law_899 rfl 0 rfl ?_
                                        refine g_iload_n (M := mL_law) dL_law_900 rfl 3 rfl ?_
                                        refine g_iconst (M := mL_law) (v := 4) dL_law_901 rfl ?_
                                        refine g_iadd (M := mL_law) dL_law_902 ?_
                                        obtain ⟨v159, ev159, hf⟩ := bd hf
                                        refine g_sald (M := mL_law) dL_law_903 ev159 ?_
                                        refine g_aload_n (M := mL_law) dL_law_904 rfl 0 rfl ?_
                                        refine g_iload_n (M := mL_law) dL_law_905 rfl 3 rfl ?_
                                        refine g_iconst (M := mL_law) (v := 5) dL_law_906 rfl ?_
                                        refine g_iadd (M := mL_law) dL_law_907 ?_
                                        obtain ⟨v160, ev160, hf⟩ := bd hf
                                        refine g_sald (M := mL_law) dL_law_908 ev160 ?_
                                        refine g_aload_n (M := mL_law) dL_law_909 rfl 0 rfl ?_
                                        refine g_iload_n (M := mL_law) dL_law_910 rfl 3 rfl ?_
                                        refine g_bipush (M := mL_law) (v := 6) dL_law_911 rfl ?_
                                        refine g_iadd (M := mL_law) dL_law_913 ?_
                                        obtain ⟨v161, ev161, hf⟩ := bd hf
                                        refine g_sald (M := mL_law) dL_law_914 ev161 ?_
                                        refine g_weak (M := mL_law) (kc := (3 * n) + 0) (ks := (160 * n) + 0) (by omega) (by omega) ?_
                                        obtain ⟨b162, eb162, hf⟩ := bd hf
                                        obtain ⟨r163, er163, hf⟩ := bd hf
                                        refine g_callV (M := mL_law) (kc := (3 * n)) (ks := (160 * n)) (as := [vi v156, vi v157, vi v158, vi v159, vi v160, vi v161]) (rest := [vi r155.1]) dL_law_915 cbX8_words vwRL_91 rfl eb162 rfl (Nat.le_of_ble_eq_true rfl) (Nat.le_of_ble_eq_true rfl) (c_X8_words G b162 v156 v157 v158 v159 v160 v161 r155.2 r163 er163) ?_
                                        refine g_ic_eq (M := mL_law) (tgt := 1648) dL_law_918 rfl (fun q918 => ?_) (fun q918 => ?_)
                                        · replace hf := ift hf q918
                                          refine g_iinc (M := mL_law) (j := 3) (L2 := [(3, vi (a3 + (8))), (0, vr (some (gsb G))), (1, vr a1), (2, vr a2)]) dL_law_1648 rfl rfl (Nat.le_of_ble_eq_true rfl) rfl ?_
                                          refine g_goto (M := mL_law) (tgt := 18) dL_law_1651 rfl ?_
                                          exact g_weak (M := mL_law) (kc := 3 * n) (ks := 160 * n) (by omega) (by omega) <| g_sub (M := mL_law) (L2 := [(0, vr (some (gsb G))), (1, vr a1), (2, vr a2), (3, vi (a3 + (8)))]) [1, 2, 3, 0] rfl <| ih a1 a2 (a3 + (8)) r163.2 _ hf
                                        · replace hf := iff_ hf q918
                                          refine g_iconst (M := mL_law) (v := 0) dL_law_921 rfl ?_
                                          cases hf
                                          exact g_weak (M := mL_law) (Nat.zero_le _) (Nat.zero_le _) (g_ret (M := mL_law) dL_law_922 rfl)
                                      · replace hf := iff_ hf q33_16
                                        by_cases q33_17 : (v16 &&& (31 : Int32)) = 17
                                        · replace hf := ift hf q33_17
                                          refine g_sw_in (M := mL_law) (off := 890) (tgt := 923) dL_law_33 (by rw [q33_17]; decide) (by rw [q33_17]; decide) (by rw [q33_17]; rfl) (by decide) ?_
                                          refine g_aload_n (M := mL_law) dL_law_923 rfl 1 rfl ?_
                                          refine g_aload_n (M := mL_law) dL_law_924 rfl 0 rfl ?_
                                          refine g_iload_n (M := mL_law) dL_law_925 rfl 3 rfl ?_
                                          refine g_iconst (M := mL_law) (v := 1) dL_law_926 rfl ?_
                                          refine g_iadd (M := mL_law) dL_law_927 ?_
                                          obtain ⟨v164, ev164, hf⟩ := bd hf
                                          refine g_sald (M := mL_law) dL_law_928 ev164 ?_
                                          refine g_aload_n (M := mL_law) dL_law_929 rfl 0 rfl ?_
                                          refine g_iload_n (M := mL_law) dL_law_930 rfl 3 rfl ?_
                                          refine g_iconst (M := mL_law) (v := 2) dL_law_931 rfl ?_
                                          refine g_iadd (M := mL_law) dL_law_932 ?_
                                          obtain ⟨v165, ev165, hf⟩ := bd hf
                                          refine g_sald (M := mL_law) dL_law_933 ev165 ?_
                                          refine g_aload_n (M := mL_law) dL_law_934 rfl 0 rfl ?_
                                          refine g_iload_n (M := mL_law) dL_law_935 rfl 3 rfl ?_
                                          refine g_iconst (M := mL_law) (v := 3) dL_law_936 rfl ?_
                                          refine g_iadd (M := mL_law) dL_law_937 ?_
                                          obtain ⟨v166, ev166, hf⟩ := bd hf
                                          refine g_sald (M := mL_law) dL_law_938 ev166 ?_
                                          refine g_aload_n (M := mL_law) dL_law_939 rfl 0 rfl ?_
                                          refine g_iload_n (M := mL_law) dL_law_940 rfl 3 rfl ?_
                                          refine g_iconst (M := mL_law) (v := 4) dL_law_941 rfl ?_
                                          refine g_iadd (M := mL_law) dL_law_942 ?_
                                          obtain ⟨v167, ev167, hf⟩ := bd hf
                                          refine g_sald (M := mL_law) dL_law_943 ev167 ?_
                                          refine g_aload_n (M := mL_law) dL_law_944 rfl 0 rfl ?_
                                          refine g_iload_n (M := mL_law) dL_law_945 rfl 3 rfl ?_
                                          refine g_iconst (M := mL_law) (v := 5) dL_law_946 rfl ?_
                                          refine g_iadd (M := mL_law) dL_law_947 ?_
                                          obtain ⟨v168, ev168, hf⟩ := bd hf
                                          refine g_sald (M := mL_law) dL_law_948 ev168 ?_
                                          refine g_aload_n (M := mL_law) dL_law_949 rfl 0 rfl ?_
                                          refine g_iload_n (M := mL_law) dL_law_950 rfl 3 rfl ?_
                                          refine g_bipush (M := mL_law) (v := 6) dL_law_951 rfl ?_
                                          refine g_iadd (M := mL_law) dL_law_953 ?_
                                          obtain ⟨v169, ev169, hf⟩ := bd hf
                                          refine g_sald (M := mL_law) dL_law_954 ev169 ?_
                                          refine g_aload_n (M := mL_law) dL_law_955 rfl 0 rfl ?_
                                          refine g_iload_n (M := mL_law) dL_law_956 rfl 3 rfl ?_
                                          refine g_bipush (M := mL_law) (v := 7) dL_law_957 rfl ?_
                                          refine g_iadd (M := mL_law) dL_law_959 ?_
                                          obtain ⟨v170, ev170, hf⟩ := bd hf
                                          refine g_sald (M := mL_law) dL_law_960 ev170 ?_
                                          refine g_weak (M := mL_law) (kc := (3 * n) + 0) (ks := (160 * n) + 0) (by omega) (by omega) ?_
                                          obtain ⟨b171, eb171, hf⟩ := bd hf
                                          obtain ⟨r172, er172, hf⟩ := bd hf
                                          refine g_callV (M := mL_law) (kc := (3 * n)) (ks := (160 * n)) (as := [vi v164, vi v165, vi v166, vi v167, vi v168, vi v169, vi v170]) (rest := []) dL_law_961 cbX7_why vwRL_92 rfl eb171 rfl (Nat.le_of_ble_eq_true rfl) (Nat.le_of_ble_eq_true rfl) (c_X7_why G b171 v164 v165 v166 v167 v168 v169 v170 h r172 er172) ?_
                                          refine g_aload_n (M := mL_law) dL_law_964 rfl 2 rfl ?_
                                          refine g_aload_n (M := mL_law) dL_law_965 rfl 0 rfl ?_
                                          refine g_iload_n (M := mL_law) dL_law_966 rfl 3 rfl ?_
                                          refine g_iconst (M := mL_law) (v := 1) dL_law_967 rfl ?_
                                          refine g_iadd (M := mL_law) dL_law_968 ?_
                                          obtain ⟨v173, ev173, hf⟩ := bd hf
                                          refine g_sald (M := mL_law) dL_law_969 ev173 ?_
                                          refine g_aload_n (M := mL_law) dL_law_970 rfl 0 rfl ?_
                                          refine g_iload_n (M := mL_law) dL_law_971 rfl 3 rfl ?_
                                          refine g_iconst (M := mL_law) (v := 2) dL_law_972 rfl ?_
                                          refine g_iadd (M := mL_law) dL_law_973 ?_
                                          obtain ⟨v174, ev174, hf⟩ := bd hf
                                          refine g_sald (M := mL_law) dL_law_974 ev174 ?_
                                          refine g_aload_n (M := mL_law) dL_law_975 rfl 0 rfl ?_
                                          refine g_iload_n (M := mL_law) dL_law_976 rfl 3 rfl ?_
                                          refine g_iconst (M := mL_law) (v := 3) dL_law_977 rfl ?_
                                          refine g_iadd (M := mL_law) dL_law_978 ?_
                                          obtain ⟨v175, ev175, hf⟩ := bd hf
                                          refine g_sald (M := mL_law) dL_law_979 ev175 ?_
                                          refine g_aload_n (M := mL_law) dL_law_980 rfl 0 rfl ?_
                                          refine g_iload_n (M := mL_law) dL_law_981 rfl 3 rfl ?_
                                          refine g_iconst (M := mL_law) (v := 4) dL_law_982 rfl ?_
                                          refine g_iadd (M := mL_law) dL_law_983 ?_
                                          obtain ⟨v176, ev176, hf⟩ := bd hf
                                          refine g_sald (M := mL_law) dL_law_984 ev176 ?_
                                          refine g_aload_n (M := mL_law) dL_law_985 rfl 0 rfl ?_
                                          refine g_iload_n (M := mL_law) dL_law_986 rfl 3 rfl ?_
                                          refine g_iconst (M := mL_law) (v := 5) dL_law_987 rfl ?_
                                          refine g_iadd (M := mL_law) dL_law_988 ?_
                                          obtain ⟨v177, ev177, hf⟩ := bd hf
                                          refine g_sald (M := mL_law) dL_law_989 ev177 ?_
                                          refine g_aload_n (M := mL_law) dL_law_990 rfl 0 rfl ?_
                                          refine g_iload_n (M := mL_law) dL_law_991 rfl 3 rfl ?_
                                          refine g_bipush (M := mL_law) (v := 6) dL_law_992 rfl ?_
                                          refine g_iadd (M := mL_law) dL_law_994 ?_
                                          obtain ⟨v178, ev178, hf⟩ := bd hf
                                          refine g_sald (M := mL_law) dL_law_995 ev178 ?_
                                          refine g_aload_n (M := mL_law) dL_law_996 rfl 0 rfl ?_
                                          refine g_iload_n (M := mL_law) dL_law_997 rfl 3 rfl ?_
                                          refine g_bipush (M := mL_law) (v := 7) dL_law_998 rfl ?_
                                          refine g_iadd (M := mL_law) dL_law_1000 ?_
                                          obtain ⟨v179, ev179, hf⟩ := bd hf
                                          refine g_sald (M := mL_law) dL_law_1001 ev179 ?_
                                          refine g_weak (M := mL_law) (kc := (3 * n) + 0) (ks := (160 * n) + 0) (by omega) (by omega) ?_
                                          obtain ⟨b180, eb180, hf⟩ := bd hf
                                          obtain ⟨r181, er181, hf⟩ := bd hf
                                          refine g_callV (M := mL_law) (kc := (3 * n)) (ks := (160 * n)) (as := [vi v173, vi v174, vi v175, vi v176, vi v177, vi v178, vi v179]) (rest := [vi r172.1]) dL_law_1002 cbX8_why vwRL_96 rfl eb180 rfl (Nat.le_of_ble_eq_true rfl) (Nat.le_of_ble_eq_true rfl) (c_X8_why G b180 v173 v174 v175 v176 v177 v178 v179 r172.2 r181 er181) ?_
                                          refine g_ic_eq (M := mL_law) (tgt := 1648) dL_law_1005 rfl (fun q1005 => ?_) (fun q1005 => ?_)
                                          · replace hf := ift hf q1005
                                            refine g_iinc (M := mL_law) (j := 3) (L2 := [(3, vi (a3 + (8))), (0, vr (some (gsb G))), (1, vr a1), (2, vr a2)]) dL_law_1648 rfl rfl (Nat.le_of_ble_eq_true rfl) rfl ?_
                                            refine g_goto (M := mL_law) (tgt := 18) dL_law_1651 rfl ?_
                                            exact g_weak (M := mL_law) (kc := 3 * n) (ks := 160 * n) (by omega) (by omega) <| g_sub (M := mL_law) (L2 := [(0, vr (some (gsb G))), (1, vr a1), (2, vr a2), (3, vi (a3 + (8)))]) [1, 2, 3, 0] rfl <| ih a1 a2 (a3 + (8)) r181.2 _ hf
                                          · replace hf := iff_ hf q1005
                                            refine g_iconst (M := mL_law) (v := 0) dL_law_1008 rfl ?_
                                            cases hf
                                            exact g_weak (M := mL_law) (Nat.zero_le _) (Nat.zero_le _) (g_ret (M := mL_law) dL_law_1009 rfl)
                                        · replace hf := iff_ hf q33_17
                                          by_cases q33_18 : (v16 &&& (31 : Int32)) = 18
                                          · replace hf := ift hf q33_18
                                            refine g_sw_in (M := mL_law) (off := 977) (tgt := 1010) dL_law_33 (by rw [q33_18]; decide) (by rw [q33_18]; decide) (by rw [q33_18]; rfl) (by decide) ?_
                                            refine g_aload_n (M := mL_law) dL_law_1010 rfl 1 rfl ?_
                                            refine g_aload_n (M := mL_law) dL_law_1011 rfl 0 rfl ?_
                                            refine g_iload_n (M := mL_law) dL_law_1012 rfl 3 rfl ?_
                                            refine g_iconst (M := mL_law) (v := 1) dL_law_1013 rfl ?_
                                            refine g_iadd (M := mL_law) dL_law_1014 ?_
                                            obtain ⟨v182, ev182, hf⟩ := bd hf
                                            refine g_sald (M := mL_law) dL_law_1015 ev182 ?_
                                            refine g_aload_n (M := mL_law) dL_law_1016 rfl 0 rfl ?_
                                            refine g_iload_n (M := mL_law) dL_law_1017 rfl 3 rfl ?_
                                            refine g_iconst (M := mL_law) (v := 2) dL_law_1018 rfl ?_
                                            refine g_iadd (M := mL_law) dL_law_1019 ?_
                                            obtain ⟨v183, ev183, hf⟩ := bd hf
                                            refine g_sald (M := mL_law) dL_law_1020 ev183 ?_
                                            refine g_aload_n (M := mL_law) dL_law_1021 rfl 0 rfl ?_
                                            refine g_iload_n (M := mL_law) dL_law_1022 rfl 3 rfl ?_
                                            refine g_iconst (M := mL_law) (v := 3) dL_law_1023 rfl ?_
                                            refine g_iadd (M := mL_law) dL_law_1024 ?_
                                            obtain ⟨v184, ev184, hf⟩ := bd hf
                                            refine g_sald (M := mL_law) dL_law_1025 ev184 ?_
                                            refine g_aload_n (M := mL_law) dL_law_1026 rfl 0 rfl ?_
                                            refine g_iload_n (M := mL_law) dL_law_1027 rfl 3 rfl ?_
                                            refine g_iconst (M := mL_law) (v := 4) dL_law_1028 rfl ?_
                                            refine g_iadd (M := mL_law) dL_law_1029 ?_
                                            obtain ⟨v185, ev185, hf⟩ := bd hf
                                            refine g_sald (M := mL_law) dL_law_1030 ev185 ?_
                                            refine g_weak (M := mL_law) (kc := (3 * n) + 0) (ks := (160 * n) + 0) (by omega) (by omega) ?_
                                            obtain ⟨b186, eb186, hf⟩ := bd hf
                                            obtain ⟨r187, er187, hf⟩ := bd hf
                                            refine g_callV (M := mL_law) (kc := (3 * n)) (ks := (160 * n)) (as := [vi v182, vi v183, vi v184, vi v185]) (rest := []) dL_law_1031 cbX7_first vwRL_97 rfl eb186 rfl (Nat.le_of_ble_eq_true rfl) (Nat.le_of_ble_eq_true rfl) (c_X7_first G b186 v182 v183 v184 v185 h r187 er187) ?_
                                            refine g_aload_n (M := mL_law) dL_law_1034 rfl 2 rfl ?_
                                            refine g_aload_n (M := mL_law) dL_law_1035 rfl 0 rfl ?_
                                            refine g_iload_n (M := mL_law) dL_law_1036 rfl 3 rfl ?_
                                            refine g_iconst (M := mL_law) (v := 1) dL_law_1037 rfl ?_
                                            refine g_iadd (M := mL_law) dL_law_1038 ?_
                                            obtain ⟨v188, ev188, hf⟩ := bd hf
                                            refine g_sald (M := mL_law) dL_law_1039 ev188 ?_
                                            refine g_aload_n (M := mL_law) dL_law_1040 rfl 0 rfl ?_
                                            refine g_iload_n (M := mL_law) dL_law_1041 rfl 3 rfl ?_
                                            refine g_iconst (M := mL_law) (v := 2) dL_law_1042 rfl ?_
                                            refine g_iadd (M := mL_law) dL_law_1043 ?_
                                            obtain ⟨v189, ev189, hf⟩ := bd hf
                                            refine g_sald (M := mL_law) dL_law_1044 ev189 ?_
                                            refine g_aload_n (M := mL_law) dL_law_1045 rfl 0 rfl ?_
                                            refine g_iload_n (M := mL_law) dL_law_1046 rfl 3 rfl ?_
                                            refine g_iconst (M := mL_law) (v := 3) dL_law_1047 rfl ?_
                                            refine g_iadd (M := mL_law) dL_law_1048 ?_
                                            obtain ⟨v190, ev190, hf⟩ := bd hf
                                            refine g_sald (M := mL_law) dL_law_1049 ev190 ?_
                                            refine g_aload_n (M := mL_law) dL_law_1050 rfl 0 rfl ?_
                                            refine g_iload_n (M := mL_law) dL_law_1051 rfl 3 rfl ?_
                                            refine g_iconst (M := mL_law) (v := 4) dL_law_1052 rfl ?_
                                            refine g_iadd (M := mL_law) dL_law_1053 ?_
                                            obtain ⟨v191, ev191, hf⟩ := bd hf
                                            refine g_sald (M := mL_law) dL_law_1054 ev191 ?_
                                            refine g_weak (M := mL_law) (kc := (3 * n) + 0) (ks := (160 * n) + 0) (by omega) (by omega) ?_
                                            obtain ⟨b192, eb192, hf⟩ := bd hf
                                            obtain ⟨r193, er193, hf⟩ := bd hf
                                            refine g_callV (M := mL_law) (kc := (3 * n)) (ks := (160 * n)) (as := [vi v188, vi v189, vi v190, vi v191]) (rest := [vi r187.1]) dL_law_1055 cbX8_first vwRL_100 rfl eb192 rfl (Nat.le_of_ble_eq_true rfl) (Nat.le_of_ble_eq_true rfl) (c_X8_first G b192 v188 v189 v190 v191 r187.2 r193 er193) ?_
                                            refine g_ic_eq (M := mL_law) (tgt := 1648) dL_law_1058 rfl (fun q1058 => ?_) (fun q1058 => ?_)
                                            · replace hf := ift hf q1058
                                              refine g_iinc (M := mL_law) (j := 3) (L2 := [(3, vi (a3 + (8))), (0, vr (some (gsb G))), (1, vr a1), (2, vr a2)]) dL_law_1648 rfl rfl (Nat.le_of_ble_eq_true rfl) rfl ?_
                                              refine g_goto (M := mL_law) (tgt := 18) dL_law_1651 rfl ?_
                                              exact g_weak (M := mL_law) (kc := 3 * n) (ks := 160 * n) (by omega) (by omega) <| g_sub (M := mL_law) (L2 := [(0, vr (some (gsb G))), (1, vr a1), (2, vr a2), (3, vi (a3 + (8)))]) [1, 2, 3, 0] rfl <| ih a1 a2 (a3 + (8)) r193.2 _ hf
                                            · replace hf := iff_ hf q1058
                                              refine g_iconst (M := mL_law) (v := 0) dL_law_1061 rfl ?_
                                              cases hf
                                              exact g_weak (M := mL_law) (Nat.zero_le _) (Nat.zero_le _) (g_ret (M := mL_law) dL_law_1062 rfl)
                                          · replace hf := iff_ hf q33_18
                                            by_cases q33_19 : (v16 &&& (31 : Int32)) = 19
                                            · replace hf := ift hf q33_19
                                              refine g_sw_in (M := mL_law) (off := 1030) (tgt := 1063) dL_law_33 (by rw [q33_19]; decide) (by rw [q33_19]; decide) (by rw [q33_19]; rfl) (by decide) ?_
                                              refine g_aload_n (M := mL_law) dL_law_1063 rfl 1 rfl ?_
                                              refine g_aload_n (M := mL_law) dL_law_1064 rfl 0 rfl ?_
                                              refine g_iload_n (M := mL_law) dL_law_1065 rfl 3 rfl ?_
                                              refine g_iconst (M := mL_law) (v := 1) dL_law_1066 rfl ?_
                                              refine g_iadd (M := mL_law) dL_law_1067 ?_
                                              obtain ⟨v194, ev194, hf⟩ := bd hf
                                              refine g_sald (M := mL_law) dL_law_1068 ev194 ?_
                                              refine g_aload_n (M := mL_law) dL_law_1069 rfl 0 rfl ?_
                                              refine g_iload_n (M := mL_law) dL_law_1070 rfl 3 rfl ?_
                                              refine g_iconst (M := mL_law) (v := 2) dL_law_1071 rfl ?_
                                              refine g_iadd (M := mL_law) dL_law_1072 ?_
                                              obtain ⟨v195, ev195, hf⟩ := bd hf
                                              refine g_sald (M := mL_law) dL_law_1073 ev195 ?_
                                              refine g_aload_n (M := mL_law) dL_law_1074 rfl 0 rfl ?_
                                              refine g_iload_n (M := mL_law) dL_law_1075 rfl 3 rfl ?_
                                              refine g_iconst (M := mL_law) (v := 3) dL_law_1076 rfl ?_
                                              refine g_iadd (M := mL_law) dL_law_1077 ?_
                                              obtain ⟨v196, ev196, hf⟩ := bd hf
                                              refine g_sald (M := mL_law) dL_law_1078 ev196 ?_
                                              refine g_aload_n (M := mL_law) dL_law_1079 rfl 0 rfl ?_
                                              refine g_iload_n (M := mL_law) dL_law_1080 rfl 3 rfl ?_
                                              refine g_iconst (M := mL_law) (v := 4) dL_law_1081 rfl ?_
                                              refine g_iadd (M := mL_law) dL_law_1082 ?_
                                              obtain ⟨v197, ev197, hf⟩ := bd hf
                                              refine g_sald (M := mL_law) dL_law_1083 ev197 ?_
                                              refine g_weak (M := mL_law) (kc := (3 * n) + 0) (ks := (160 * n) + 0) (by omega) (by omega) ?_
                                              obtain ⟨b198, eb198, hf⟩ := bd hf
                                              obtain ⟨r199, er199, hf⟩ := bd hf
                                              refine g_callV (M := mL_law) (kc := (3 * n)) (ks := (160 * n)) (as := [vi v194, vi v195, vi v196, vi v197]) (rest := []) dL_law_1084 cbX7_member vwRL_101 rfl eb198 rfl (Nat.le_of_ble_eq_true rfl) (Nat.le_of_ble_eq_true rfl) (c_X7_member G b198 v194 v195 v196 v197 h r199 er199) ?_
                                              refine g_aload_n (M := mL_law) dL_law_1087 rfl 2 rfl ?_
                                              refine g_aload_n (M := mL_law) dL_law_1088 rfl 0 rfl ?_
                                              refine g_iload_n (M := mL_law) dL_law_1089 rfl 3 rfl ?_
                                              refine g_iconst (M := mL_law) (v := 1) dL_law_1090 rfl ?_
                                              refine g_iadd (M := mL_law) dL_law_1091 ?_
                                              obtain ⟨v200, ev200, hf⟩ := bd hf
                                              refine g_sald (M := mL_law) dL_law_1092 ev200 ?_
                                              refine g_aload_n (M := mL_law) dL_law_1093 rfl 0 rfl ?_
                                              refine g_iload_n (M := mL_law) dL_law_1094 rfl 3 rfl ?_
                                              refine g_iconst (M := mL_law) (v := 2) dL_law_1095 rfl ?_
                                              refine g_iadd (M := mL_law) dL_law_1096 ?_
                                              obtain ⟨v201, ev201, hf⟩ := bd hf
                                              refine g_sald (M := mL_law) dL_law_1097 ev201 ?_
                                              refine g_aload_n (M := mL_law) dL_law_1098 rfl 0 rfl ?_
                                              refine g_iload_n (M := mL_law) dL_law_1099 rfl 3 rfl ?_
                                              refine g_iconst (M := mL_law) (v := 3) dL_law_1100 rfl ?_
                                              refine g_iadd (M := mL_law) dL_law_1101 ?_
                                              obtain ⟨v202, ev202, hf⟩ := bd hf
                                              refine g_sald (M := mL_law) dL_law_1102 ev202 ?_
                                              refine g_aload_n (M := mL_law) dL_law_1103 rfl 0 rfl ?_
                                              refine g_iload_n (M := mL_law) dL_law_1104 rfl 3 rfl ?_
                                              refine g_iconst (M := mL_law) (v := 4) dL_law_1105 rfl ?_
                                              refine g_iadd (M := mL_law) dL_law_1106 ?_
                                              obtain ⟨v203, ev203, hf⟩ := bd hf
                                              refine g_sald (M := mL_law) dL_law_1107 ev203 ?_
                                              refine g_weak (M := mL_law) (kc := (3 * n) + 0) (ks := (160 * n) + 0) (by omega) (by omega) ?_
                                              obtain ⟨b204, eb204, hf⟩ := bd hf
                                              obtain ⟨r205, er205, hf⟩ := bd hf
                                              refine g_callV (M := mL_law) (kc := (3 * n)) (ks := (160 * n)) (as := [vi v200, vi v201, vi v202, vi v203]) (rest := [vi r199.1]) dL_law_1108 cbX8_member vwRL_104 rfl eb204 rfl (Nat.le_of_ble_eq_true rfl) (Nat.le_of_ble_eq_true rfl) (c_X8_member G b204 v200 v201 v202 v203 r199.2 r205 er205) ?_
                                              refine g_ic_eq (M := mL_law) (tgt := 1648) dL_law_1111 rfl (fun q1111 => ?_) (fun q1111 => ?_)
                                              · replace hf := ift hf q1111
                                                refine g_iinc (M := mL_law) (j := 3) (L2 := [(3, vi (a3 + (8))), (0, vr (some (gsb G))), (1, vr a1), (2, vr a2)]) dL_law_1648 rfl rfl (Nat.le_of_ble_eq_true rfl) rfl ?_
                                                refine g_goto (M := mL_law) (tgt := 18) dL_law_1651 rfl ?_
                                                exact g_weak (M := mL_law) (kc := 3 * n) (ks := 160 * n) (by omega) (by omega) <| g_sub (M := mL_law) (L2 := [(0, vr (some (gsb G))), (1, vr a1), (2, vr a2), (3, vi (a3 + (8)))]) [1, 2, 3, 0] rfl <| ih a1 a2 (a3 + (8)) r199.2 _ hf
                                              · replace hf := iff_ hf q1111
                                                refine g_iconst (M := mL_law) (v := 0) dL_law_1114 rfl ?_
                                                cases hf
                                                exact g_weak (M := mL_law) (Nat.zero_le _) (Nat.zero_le _) (g_ret (M := mL_law) dL_law_1115 rfl)
                                            · replace hf := iff_ hf q33_19
                                              by_cases q33_20 : (v16 &&& (31 : Int32)) = 20
                                              · replace hf := ift hf q33_20
                                                refine g_sw_in (M := mL_law) (off := 1083) (tgt := 1116) dL_law_33 (by rw [q33_20]; decide) (by rw [q33_20]; decide) (by rw [q33_20]; rfl) (by decide) ?_
                                                refine g_aload_n (M := mL_law) dL_law_1116 rfl 1 rfl ?_
                                                refine g_aload_n (M := mL_law) dL_law_1117 rfl 0 rfl ?_
                                                refine g_iload_n (M := mL_law) dL_law_1118 rfl 3 rfl ?_
                                                refine g_iconst (M := mL_law) (v := 1) dL_law_1119 rfl ?_
                                                refine g_iadd (M := mL_law) dL_law_1120 ?_
                                                obtain ⟨v206, ev206, hf⟩ := bd hf
                                                refine g_sald (M := mL_law) dL_law_1121 ev206 ?_
                                                refine g_aload_n (M := mL_law) dL_law_1122 rfl 0 rfl ?_
                                                refine g_iload_n (M := mL_law) dL_law_1123 rfl 3 rfl ?_
                                                refine g_iconst (M := mL_law) (v := 2) dL_law_1124 rfl ?_
                                                refine g_iadd (M := mL_law) dL_law_1125 ?_
                                                obtain ⟨v207, ev207, hf⟩ := bd hf
                                                refine g_sald (M := mL_law) dL_law_1126 ev207 ?_
                                                refine g_aload_n (M := mL_law) dL_law_1127 rfl 0 rfl ?_
                                                refine g_iload_n (M := mL_law) dL_law_1128 rfl 3 rfl ?_
                                                refine g_iconst (M := mL_law) (v := 3) dL_law_1129 rfl ?_
                                                refine g_iadd (M := mL_law) dL_law_1130 ?_
                                                obtain ⟨v208, ev208, hf⟩ := bd hf
                                                refine g_sald (M := mL_law) dL_law_1131 ev208 ?_
                                                refine g_weak (M := mL_law) (kc := (3 * n) + 0) (ks := (160 * n) + 0) (by omega) (by omega) ?_
                                                obtain ⟨b209, eb209, hf⟩ := bd hf
                                                obtain ⟨r210, er210, hf⟩ := bd hf
                                                refine g_callV (M := mL_law) (kc := (3 * n)) (ks := (160 * n)) (as := [vi v206, vi v207, vi v208]) (rest := []) dL_law_1132 cbX7_members vwRL_105 rfl eb209 rfl (Nat.le_of_ble_eq_true rfl) (Nat.le_of_ble_eq_true rfl) (c_X7_members G b209 v206 v207 v208 h r210 er210) ?_
                                                refine g_aload_n (M := mL_law) dL_law_1135 rfl 2 rfl ?_
                                                refine g_aload_n (M := mL_law) dL_law_1136 rfl 0 rfl ?_
                                                refine g_iload_n (M := mL_law) dL_law_1137 rfl 3 rfl ?_
                                                refine g_iconst (M := mL_law) (v := 1) dL_law_1138 rfl ?_
                                                refine g_iadd (M := mL_law) dL_law_1139 ?_
                                                obtain ⟨v211, ev211, hf⟩ := bd hf
                                                refine g_sald (M := mL_law) dL_law_1140 ev211 ?_
                                                refine g_aload_n (M := mL_law) dL_law_1141 rfl 0 rfl ?_
                                                refine g_iload_n (M := mL_law) dL_law_1142 rfl 3 rfl ?_
                                                refine g_iconst (M := mL_law) (v := 2) dL_law_1143 rfl ?_
                                                refine g_iadd (M := mL_law) dL_law_1144 ?_
                                                obtain ⟨v212, ev212, hf⟩ := bd hf
                                                refine g_sald (M := mL_law) dL_law_1145 ev212 ?_
                                                refine g_aload_n (M := mL_law) dL_law_1146 rfl 0 rfl ?_
                                                refine g_iload_n (M := mL_law) dL_law_1147 rfl 3 rfl ?_
                                                refine g_iconst (M := mL_law) (v := 3) dL_law_1148 rfl ?_
                                                refine g_iadd (M := mL_law) dL_law_1149 ?_
                                                obtain ⟨v213, ev213, hf⟩ := bd hf
                                                refine g_sald (M := mL_law) dL_law_1150 ev213 ?_
                                                refine g_weak (M := mL_law) (kc := (3 * n) + 0) (ks := (160 * n) + 0) (by omega) (by omega) ?_
                                                obtain ⟨b214, eb214, hf⟩ := bd hf
                                                obtain ⟨r215, er215, hf⟩ := bd hf
                                                refine g_callV (M := mL_law) (kc := (3 * n)) (ks := (160 * n)) (as := [vi v211, vi v212, vi v213]) (rest := [vi r210.1]) dL_law_1151 cbX8_members vwRL_108 rfl eb214 rfl (Nat.le_of_ble_eq_true rfl) (Nat.le_of_ble_eq_true rfl) (c_X8_members G b214 v211 v212 v213 r210.2 r215 er215) ?_
                                                refine g_ic_eq (M := mL_law) (tgt := 1648) dL_law_1154 rfl (fun q1154 => ?_) (fun q1154 => ?_)
                                                · replace hf := ift hf q1154
                                                  refine g_iinc (M := mL_law) (j := 3) (L2 := [(3, vi (a3 + (8))), (0, vr (some (gsb G))), (1, vr a1), (2, vr a2)]) dL_law_1648 rfl rfl (Nat.le_of_ble_eq_true rfl) rfl ?_
                                                  refine g_goto (M := mL_law) (tgt := 18) dL_law_1651 rfl ?_
                                                  exact g_weak (M := mL_law) (kc := 3 * n) (ks := 160 * n) (by omega) (by omega) <| g_sub (M := mL_law) (L2 := [(0, vr (some (gsb G))), (1, vr a1), (2, vr a2), (3, vi (a3 + (8)))]) [1, 2, 3, 0] rfl <| ih a1 a2 (a3 + (8)) r210.2 _ hf
                                                · replace hf := iff_ hf q1154
                                                  refine g_iconst (M := mL_law) (v := 0) dL_law_1157 rfl ?_
                                                  cases hf
                                                  exact g_weak (M := mL_law) (Nat.zero_le _) (Nat.zero_le _) (g_ret (M := mL_law) dL_law_1158 rfl)
                                              · replace hf := iff_ hf q33_20
                                                by_cases q33_21 : (v16 &&& (31 : Int32)) = 21
                                                · replace hf := ift hf q33_21
                                                  refine g_sw_in (M := mL_law) (off := 1126) (tgt := 1159) dL_law_33 (by rw [q33_21]; decide) (by rw [q33_21]; decide) (by rw [q33_21]; rfl) (by decide) ?_
                                                  refine g_aload_n (M := mL_law) dL_law_1159 rfl 1 rfl ?_
                                                  refine g_aload_n (M := mL_law) dL_law_1160 rfl 0 rfl ?_
                                                  refine g_iload_n (M := mL_law) dL_law_1161 rfl 3 rfl ?_
                                                  refine g_iconst (M := mL_law) (v := 1) dL_law_1162 rfl ?_
                                                  refine g_iadd (M := mL_law) dL_law_1163 ?_
                                                  obtain ⟨v216, ev216, hf⟩ := bd hf
                                                  refine g_sald (M := mL_law) dL_law_1164 ev216 ?_
                                                  refine g_weak (M := mL_law) (kc := (3 * n) + 0) (ks := (160 * n) + 0) (by omega) (by omega) ?_
                                                  obtain ⟨b217, eb217, hf⟩ := bd hf
                                                  obtain ⟨r218, er218, hf⟩ := bd hf
                                                  refine g_callV (M := mL_law) (kc := (3 * n)) (ks := (160 * n)) (as := [vi v216]) (rest := []) dL_law_1165 cbX7_since vwRL_109 rfl eb217 rfl (Nat.le_of_ble_eq_true rfl) (Nat.le_of_ble_eq_true rfl) (c_X7_since G b217 v216 h r218 er218) ?_
                                                  refine g_aload_n (M := mL_law) dL_law_1168 rfl 2 rfl ?_
                                                  refine g_aload_n (M := mL_law) dL_law_1169 rfl 0 rfl ?_
                                                  refine g_iload_n (M := mL_law) dL_law_1170 rfl 3 rfl ?_
                                                  refine g_iconst (M := mL_law) (v := 1) dL_law_1171 rfl ?_
                                                  refine g_iadd (M := mL_law) dL_law_1172 ?_
                                                  obtain ⟨v219, ev219, hf⟩ := bd hf
                                                  refine g_sald (M := mL_law) dL_law_1173 ev219 ?_
                                                  refine g_weak (M := mL_law) (kc := (3 * n) + 0) (ks := (160 * n) + 0) (by omega) (by omega) ?_
                                                  obtain ⟨b220, eb220, hf⟩ := bd hf
                                                  obtain ⟨r221, er221, hf⟩ := bd hf
                                                  refine g_callV (M := mL_law) (kc := (3 * n)) (ks := (160 * n)) (as := [vi v219]) (rest := [vi r218.1]) dL_law_1174 cbX8_since vwRL_113 rfl eb220 rfl (Nat.le_of_ble_eq_true rfl) (Nat.le_of_ble_eq_true rfl) (c_X8_since G b220 v219 r218.2 r221 er221) ?_
                                                  refine g_ic_eq (M := mL_law) (tgt := 1648) dL_law_1177 rfl (fun q1177 => ?_) (fun q1177 => ?_)
                                                  · replace hf := ift hf q1177
                                                    refine g_iinc (M := mL_law) (j := 3) (L2 := [(3, vi (a3 + (8))), (0, vr (some (gsb G))), (1, vr a1), (2, vr a2)]) dL_law_1648 rfl rfl (Nat.le_of_ble_eq_true rfl) rfl ?_
                                                    refine g_goto (M := mL_law) (tgt := 18) dL_law_1651 rfl ?_
                                                    exact g_weak (M := mL_law) (kc := 3 * n) (ks := 160 * n) (by omega) (by omega) <| g_sub (M := mL_law) (L2 := [(0, vr (some (gsb G))), (1, vr a1), (2, vr a2), (3, vi (a3 + (8)))]) [1, 2, 3, 0] rfl <| ih a1 a2 (a3 + (8)) r218.2 _ hf
                                                  · replace hf := iff_ hf q1177
                                                    refine g_iconst (M := mL_law) (v := 0) dL_law_1180 rfl ?_
                                                    cases hf
                                                    exact g_weak (M := mL_law) (Nat.zero_le _) (Nat.zero_le _) (g_ret (M := mL_law) dL_law_1181 rfl)
                                                · replace hf := iff_ hf q33_21
                                                  by_cases q33_22 : (v16 &&& (31 : Int32)) = 22
                                                  · replace hf := ift hf q33_22
                                                    refine g_sw_in (M := mL_law) (off := 1149) (tgt := 1182) dL_law_33 (by rw [q33_22]; decide) (by rw [q33_22]; decide) (by rw [q33_22]; rfl) (by decide) ?_
                                                    refine g_aload_n (M := mL_law) dL_law_1182 rfl 1 rfl ?_
                                                    refine g_aload_n (M := mL_law) dL_law_1183 rfl 0 rfl ?_
                                                    refine g_iload_n (M := mL_law) dL_law_1184 rfl 3 rfl ?_
                                                    refine g_iconst (M := mL_law) (v := 1) dL_law_1185 rfl ?_
                                                    refine g_iadd (M := mL_law) dL_law_1186 ?_
                                                    obtain ⟨v222, ev222, hf⟩ := bd hf
                                                    refine g_sald (M := mL_law) dL_law_1187 ev222 ?_
                                                    refine g_aload_n (M := mL_law) dL_law_1188 rfl 0 rfl ?_
                                                    refine g_iload_n (M := mL_law) dL_law_1189 rfl 3 rfl ?_
                                                    refine g_iconst (M := mL_law) (v := 2) dL_law_1190 rfl ?_
                                                    refine g_iadd (M := mL_law) dL_law_1191 ?_
                                                    obtain ⟨v223, ev223, hf⟩ := bd hf
                                                    refine g_sald (M := mL_law) dL_law_1192 ev223 ?_
                                                    refine g_aload_n (M := mL_law) dL_law_1193 rfl 0 rfl ?_
                                                    refine g_iload_n (M := mL_law) dL_law_1194 rfl 3 rfl ?_
                                                    refine g_iconst (M := mL_law) (v := 3) dL_law_1195 rfl ?_
                                                    refine g_iadd (M := mL_law) dL_law_1196 ?_
                                                    obtain ⟨v224, ev224, hf⟩ := bd hf
                                                    refine g_sald (M := mL_law) dL_law_1197 ev224 ?_
                                                    refine g_aload_n (M := mL_law) dL_law_1198 rfl 0 rfl ?_
                                                    refine g_iload_n (M := mL_law) dL_law_1199 rfl 3 rfl ?_
                                                    refine g_iconst (M := mL_law) (v := 4) dL_law_1200 rfl ?_
                                                    refine g_iadd (M := mL_law) dL_law_1201 ?_
                                                    obtain ⟨v225, ev225, hf⟩ := bd hf
                                                    refine g_sald (M := mL_law) dL_law_1202 ev225 ?_
                                                    refine g_aload_n (M := mL_law) dL_law_1203 rfl 0 rfl ?_
                                                    refine g_iload_n (M := mL_law) dL_law_1204 rfl 3 rfl ?_
                                                    refine g_iconst (M := mL_law) (v := 5) dL_law_1205 rfl ?_
                                                    refine g_iadd (M := mL_law) dL_law_1206 ?_
                                                    obtain ⟨v226, ev226, hf⟩ := bd hf
                                                    refine g_sald (M := mL_law) dL_law_1207 ev226 ?_
                                                    refine g_weak (M := mL_law) (kc := (3 * n) + 0) (ks := (160 * n) + 0) (by omega) (by omega) ?_
                                                    obtain ⟨b227, eb227, hf⟩ := bd hf
                                                    obtain ⟨r228, er228, hf⟩ := bd hf
                                                    refine g_callV (M := mL_law) (kc := (3 * n)) (ks := (160 * n)) (as := [vi v222, vi v223, vi v224, vi v225, vi v226]) (rest := []) dL_law_1208 cbX7_has vwRL_114 rfl eb227 rfl (Nat.le_of_ble_eq_true rfl) (Nat.le_of_ble_eq_true rfl) (c_X7_has G b227 v222 v223 v224 v225 v226 h r228 er228) ?_
                                                    refine g_aload_n (M := mL_law) dL_law_1211 rfl 2 rfl ?_
                                                    refine g_aload_n (M := mL_law) dL_law_1212 rfl 0 rfl ?_
                                                    refine g_iload_n (M := mL_law) dL_law_1213 rfl 3 rfl ?_
                                                    refine g_iconst (M := mL_law) (v := 1) dL_law_1214 rfl ?_
                                                    refine g_iadd (M := mL_law) dL_law_1215 ?_
                                                    obtain ⟨v229, ev229, hf⟩ := bd hf
                                                    refine g_sald (M := mL_law) dL_law_1216 ev229 ?_
                                                    refine g_aload_n (M := mL_law) dL_law_1217 rfl 0 rfl ?_
                                                    refine g_iload_n (M := mL_law) dL_law_1218 rfl 3 rfl ?_
                                                    refine g_iconst (M := mL_law) (v := 2) dL_law_1219 rfl ?_
                                                    refine g_iadd (M := mL_law) dL_law_1220 ?_
                                                    obtain ⟨v230, ev230, hf⟩ := bd hf
                                                    refine g_sald (M := mL_law) dL_law_1221 ev230 ?_
                                                    refine g_aload_n (M := mL_law) dL_law_1222 rfl 0 rfl ?_
                                                    refine g_iload_n (M := mL_law) dL_law_1223 rfl 3 rfl ?_
                                                    refine g_iconst (M := mL_law) (v := 3) dL_law_1224 rfl ?_
                                                    refine g_iadd (M := mL_law) dL_law_1225 ?_
                                                    obtain ⟨v231, ev231, hf⟩ := bd hf
                                                    refine g_sald (M := mL_law) dL_law_1226 ev231 ?_
                                                    refine g_aload_n (M := mL_law) dL_law_1227 rfl 0 rfl ?_
                                                    refine g_iload_n (M := mL_law) dL_law_1228 rfl 3 rfl ?_
                                                    refine g_iconst (M := mL_law) (v := 4) dL_law_1229 rfl ?_
                                                    refine g_iadd (M := mL_law) dL_law_1230 ?_
                                                    obtain ⟨v232, ev232, hf⟩ := bd hf
                                                    refine g_sald (M := mL_law) dL_law_1231 ev232 ?_
                                                    refine g_aload_n (M := mL_law) dL_law_1232 rfl 0 rfl ?_
                                                    refine g_iload_n (M := mL_law) dL_law_1233 rfl 3 rfl ?_
                                                    refine g_iconst (M := mL_law) (v := 5) dL_law_1234 rfl ?_
                                                    refine g_iadd (M := mL_law) dL_law_1235 ?_
                                                    obtain ⟨v233, ev233, hf⟩ := bd hf
                                                    refine g_sald (M := mL_law) dL_law_1236 ev233 ?_
                                                    refine g_weak (M := mL_law) (kc := (3 * n) + 0) (ks := (160 * n) + 0) (by omega) (by omega) ?_
                                                    obtain ⟨b234, eb234, hf⟩ := bd hf
                                                    obtain ⟨r235, er235, hf⟩ := bd hf
                                                    refine g_callV (M := mL_law) (kc := (3 * n)) (ks := (160 * n)) (as := [vi v229, vi v230, vi v231, vi v232, vi v233]) (rest := [vi r228.1]) dL_law_1237 cbX8_has vwRL_118 rfl eb234 rfl (Nat.le_of_ble_eq_true rfl) (Nat.le_of_ble_eq_true rfl) (c_X8_has G b234 v229 v230 v231 v232 v233 r228.2 r235 er235) ?_
                                                    refine g_ic_eq (M := mL_law) (tgt := 1648) dL_law_1240 rfl (fun q1240 => ?_) (fun q1240 => ?_)
                                                    · replace hf := ift hf q1240
                                                      refine g_iinc (M := mL_law) (j := 3) (L2 := [(3, vi (a3 + (8))), (0, vr (some (gsb G))), (1, vr a1), (2, vr a2)]) dL_law_1648 rfl rfl (Nat.le_of_ble_eq_true rfl) rfl ?_
                                                      refine g_goto (M := mL_law) (tgt := 18) dL_law_1651 rfl ?_
                                                      exact g_weak (M := mL_law) (kc := 3 * n) (ks := 160 * n) (by omega) (by omega) <| g_sub (M := mL_law) (L2 := [(0, vr (some (gsb G))), (1, vr a1), (2, vr a2), (3, vi (a3 + (8)))]) [1, 2, 3, 0] rfl <| ih a1 a2 (a3 + (8)) r228.2 _ hf
                                                    · replace hf := iff_ hf q1240
                                                      refine g_iconst (M := mL_law) (v := 0) dL_law_1243 rfl ?_
                                                      cases hf
                                                      exact g_weak (M := mL_law) (Nat.zero_le _) (Nat.zero_le _) (g_ret (M := mL_law) dL_law_1244 rfl)
                                                  · replace hf := iff_ hf q33_22
                                                    by_cases q33_23 : (v16 &&& (31 : Int32)) = 23
                                                    · replace hf := ift hf q33_23
                                                      refine g_sw_in (M := mL_law) (off := 1212) (tgt := 1245) dL_law_33 (by rw [q33_23]; decide) (by rw [q33_23]; decide) (by rw [q33_23]; rfl) (by decide) ?_
                                                      refine g_aload_n (M := mL_law) dL_law_1245 rfl 1 rfl ?_
                                                      refine g_aload_n (M := mL_law) dL_law_1246 rfl 0 rfl ?_
                                                      refine g_iload_n (M := mL_law) dL_law_1247 rfl 3 rfl ?_
                                                      refine g_iconst (M := mL_law) (v := 1) dL_law_1248 rfl ?_
                                                      refine g_iadd (M := mL_law) dL_law_1249 ?_
                                                      obtain ⟨v236, ev236, hf⟩ := bd hf
                                                      refine g_sald (M := mL_law) dL_law_1250 ev236 ?_
                                                      refine g_aload_n (M := mL_law) dL_law_1251 rfl 0 rfl ?_
                                                      refine g_iload_n (M := mL_law) dL_law_1252 rfl 3 rfl ?_
                                                      refine g_iconst (M := mL_law) (v := 2) dL_law_1253 rfl ?_
                                                      refine g_iadd (M := mL_law) dL_law_1254 ?_
                                                      obtain ⟨v237, ev237, hf⟩ := bd hf
                                                      refine g_sald (M := mL_law) dL_law_1255 ev237 ?_
                                                      refine g_weak (M := mL_law) (kc := (3 * n) + 0) (ks := (160 * n) + 0) (by omega) (by omega) ?_
                                                      obtain ⟨b238, eb238, hf⟩ := bd hf
                                                      obtain ⟨r239, er239, hf⟩ := bd hf
                                                      refine g_callV (M := mL_law) (kc := (3 * n)) (ks := (160 * n)) (as := [vi v236, vi v237]) (rest := []) dL_law_1256 cbX7_paper vwRL_119 rfl eb238 rfl (Nat.le_of_ble_eq_true rfl) (Nat.le_of_ble_eq_true rfl) (c_X7_paper G b238 v236 v237 h r239 er239) ?_
                                                      refine g_aload_n (M := mL_law) dL_law_1259 rfl 2 rfl ?_
                                                      refine g_aload_n (M := mL_law) dL_law_1260 rfl 0 rfl ?_
                                                      refine g_iload_n (M := mL_law) dL_law_1261 rfl 3 rfl ?_
                                                      refine g_iconst (M := mL_law) (v := 1) dL_law_1262 rfl ?_
                                                      refine g_iadd (M := mL_law) dL_law_1263 ?_
                                                      obtain ⟨v240, ev240, hf⟩ := bd hf
                                                      refine g_sald (M := mL_law) dL_law_1264 ev240 ?_
                                                      refine g_aload_n (M := mL_law) dL_law_1265 rfl 0 rfl ?_
                                                      refine g_iload_n (M := mL_law) dL_law_1266 rfl 3 rfl ?_
                                                      refine g_iconst (M := mL_law) (v := 2) dL_law_1267 rfl ?_
                                                      refine g_iadd (M := mL_law) dL_law_1268 ?_
                                                      obtain ⟨v241, ev241, hf⟩ := bd hf
                                                      refine g_sald (M := mL_law) dL_law_1269 ev241 ?_
                                                      refine g_weak (M := mL_law) (kc := (3 * n) + 0) (ks := (160 * n) + 0) (by omega) (by omega) ?_
                                                      obtain ⟨b242, eb242, hf⟩ := bd hf
                                                      obtain ⟨r243, er243, hf⟩ := bd hf
                                                      refine g_callV (M := mL_law) (kc := (3 * n)) (ks := (160 * n)) (as := [vi v240, vi v241]) (rest := [vi r239]) dL_law_1270 cbX8_paper vwRL_122 rfl eb242 rfl (Nat.le_of_ble_eq_true rfl) (Nat.le_of_ble_eq_true rfl) (c_X8_paper G b242 v240 v241 h r243 er243) ?_
                                                      refine g_ic_eq (M := mL_law) (tgt := 1648) dL_law_1273 rfl (fun q1273 => ?_) (fun q1273 => ?_)
                                                      · replace hf := ift hf q1273
                                                        refine g_iinc (M := mL_law) (j := 3) (L2 := [(3, vi (a3 + (8))), (0, vr (some (gsb G))), (1, vr a1), (2, vr a2)]) dL_law_1648 rfl rfl (Nat.le_of_ble_eq_true rfl) rfl ?_
                                                        refine g_goto (M := mL_law) (tgt := 18) dL_law_1651 rfl ?_
                                                        exact g_weak (M := mL_law) (kc := 3 * n) (ks := 160 * n) (by omega) (by omega) <| g_sub (M := mL_law) (L2 := [(0, vr (some (gsb G))), (1, vr a1), (2, vr a2), (3, vi (a3 + (8)))]) [1, 2, 3, 0] rfl <| ih a1 a2 (a3 + (8)) h _ hf
                                                      · replace hf := iff_ hf q1273
                                                        refine g_iconst (M := mL_law) (v := 0) dL_law_1276 rfl ?_
                                                        cases hf
                                                        exact g_weak (M := mL_law) (Nat.zero_le _) (Nat.zero_le _) (g_ret (M := mL_law) dL_law_1277 rfl)
                                                    · replace hf := iff_ hf q33_23
                                                      by_cases q33_24 : (v16 &&& (31 : Int32)) = 24
                                                      · replace hf := ift hf q33_24
                                                        refine g_sw_in (M := mL_law) (off := 1245) (tgt := 1278) dL_law_33 (by rw [q33_24]; decide) (by rw [q33_24]; decide) (by rw [q33_24]; rfl) (by decide) ?_
                                                        refine g_aload_n (M := mL_law) dL_law_1278 rfl 1 rfl ?_
                                                        refine g_aload_n (M := mL_law) dL_law_1279 rfl 0 rfl ?_
                                                        refine g_iload_n (M := mL_law) dL_law_1280 rfl 3 rfl ?_
                                                        refine g_iconst (M := mL_law) (v := 1) dL_law_1281 rfl ?_
                                                        refine g_iadd (M := mL_law) dL_law_1282 ?_
                                                        obtain ⟨v244, ev244, hf⟩ := bd hf
                                                        refine g_sald (M := mL_law) dL_law_1283 ev244 ?_
                                                        refine g_weak (M := mL_law) (kc := (3 * n) + 0) (ks := (160 * n) + 0) (by omega) (by omega) ?_
                                                        obtain ⟨b245, eb245, hf⟩ := bd hf
                                                        obtain ⟨r246, er246, hf⟩ := bd hf
                                                        refine g_callV (M := mL_law) (kc := (3 * n)) (ks := (160 * n)) (as := [vi v244]) (rest := []) dL_law_1284 cbX7_noted vwRL_123 rfl eb245 rfl (Nat.le_of_ble_eq_true rfl) (Nat.le_of_ble_eq_true rfl) (c_X7_noted G b245 v244 h r246 er246) ?_
                                                        refine g_aload_n (M := mL_law) dL_law_1287 rfl 2 rfl ?_
                                                        refine g_aload_n (M := mL_law) dL_law_1288 rfl 0 rfl ?_
                                                        refine g_iload_n (M := mL_law) dL_law_1289 rfl 3 rfl ?_
                                                        refine g_iconst (M := mL_law) (v := 1) dL_law_1290 rfl ?_
                                                        refine g_iadd (M := mL_law) dL_law_1291 ?_
                                                        obtain ⟨v247, ev247, hf⟩ := bd hf
                                                        refine g_sald (M := mL_law) dL_law_1292 ev247 ?_
                                                        refine g_weak (M := mL_law) (kc := (3 * n) + 0) (ks := (160 * n) + 0) (by omega) (by omega) ?_
                                                        obtain ⟨b248, eb248, hf⟩ := bd hf
                                                        obtain ⟨r249, er249, hf⟩ := bd hf
                                                        refine g_callV (M := mL_law) (kc := (3 * n)) (ks := (160 * n)) (as := [vi v247]) (rest := [vl r246]) dL_law_1293 cbX8_noted vwRL_127 rfl eb248 rfl (Nat.le_of_ble_eq_true rfl) (Nat.le_of_ble_eq_true rfl) (c_X8_noted G b248 v247 h r249 er249) ?_
                                                        refine g_lcmp (M := mL_law) dL_law_1296 ?_
                                                        refine g_if_eq (M := mL_law) (tgt := 1648) dL_law_1297 rfl (fun q1297 => ?_) (fun q1297 => ?_)
                                                        · replace hf := ift hf q1297
                                                          refine g_iinc (M := mL_law) (j := 3) (L2 := [(3, vi (a3 + (8))), (0, vr (some (gsb G))), (1, vr a1), (2, vr a2)]) dL_law_1648 rfl rfl (Nat.le_of_ble_eq_true rfl) rfl ?_
                                                          refine g_goto (M := mL_law) (tgt := 18) dL_law_1651 rfl ?_
                                                          exact g_weak (M := mL_law) (kc := 3 * n) (ks := 160 * n) (by omega) (by omega) <| g_sub (M := mL_law) (L2 := [(0, vr (some (gsb G))), (1, vr a1), (2, vr a2), (3, vi (a3 + (8)))]) [1, 2, 3, 0] rfl <| ih a1 a2 (a3 + (8)) h _ hf
                                                        · replace hf := iff_ hf q1297
                                                          refine g_iconst (M := mL_law) (v := 0) dL_law_1300 rfl ?_
                                                          cases hf
                                                          exact g_weak (M := mL_law) (Nat.zero_le _) (Nat.zero_le _) (g_ret (M := mL_law) dL_law_1301 rfl)
                                                      · replace hf := iff_ hf q33_24
                                                        by_cases q33_25 : (v16 &&& (31 : Int32)) = 25
                                                        · replace hf := ift hf q33_25
                                                          refine g_sw_in (M := mL_law) (off := 1269) (tgt := 1302) dL_law_33 (by rw [q33_25]; decide) (by rw [q33_25]; decide) (by rw [q33_25]; rfl) (by decide) ?_
                                                          refine g_aload_n (M := mL_law) dL_law_1302 rfl 1 rfl ?_
                                                          refine g_aload_n (M := mL_law) dL_law_1303 rfl 0 rfl ?_
                                                          refine g_iload_n (M := mL_law) dL_law_1304 rfl 3 rfl ?_
                                                          refine g_iconst (M := mL_law) (v := 1) dL_law_1305 rfl ?_
                                                          refine g_iadd (M := mL_law) dL_law_1306 ?_
                                                          obtain ⟨v250, ev250, hf⟩ := bd hf
                                                          refine g_sald (M := mL_law) dL_law_1307 ev250 ?_
                                                          refine g_aload_n (M := mL_law) dL_law_1308 rfl 0 rfl ?_
                                                          refine g_iload_n (M := mL_law) dL_law_1309 rfl 3 rfl ?_
                                                          refine g_iconst (M := mL_law) (v := 2) dL_law_1310 rfl ?_
                                                          refine g_iadd (M := mL_law) dL_law_1311 ?_
                                                          obtain ⟨v251, ev251, hf⟩ := bd hf
                                                          refine g_sald (M := mL_law) dL_law_1312 ev251 ?_
                                                          refine g_aload_n (M := mL_law) dL_law_1313 rfl 0 rfl ?_
                                                          refine g_iload_n (M := mL_law) dL_law_1314 rfl 3 rfl ?_
                                                          refine g_iconst (M := mL_law) (v := 3) dL_law_1315 rfl ?_
                                                          refine g_iadd (M := mL_law) dL_law_1316 ?_
                                                          obtain ⟨v252, ev252, hf⟩ := bd hf
                                                          refine g_sald (M := mL_law) dL_law_1317 ev252 ?_
                                                          refine g_weak (M := mL_law) (kc := (3 * n) + 2) (ks := (160 * n) + 102) (by omega) (by omega) ?_
                                                          obtain ⟨b253, eb253, hf⟩ := bd hf
                                                          obtain ⟨r254, er254, hf⟩ := bd hf
                                                          refine g_callV (M := mL_law) (kc := (3 * n)) (ks := (160 * n)) (as := [vi v250, vi v251, vi v252]) (rest := []) dL_law_1318 cbX7_annex vwRL_128 rfl eb253 rfl (Nat.le_of_ble_eq_true rfl) (Nat.le_of_ble_eq_true rfl) (c_X7_annex G b253 v250 v251 v252 h r254 er254) ?_
                                                          refine g_aload_n (M := mL_law) dL_law_1321 rfl 2 rfl ?_
                                                          refine g_aload_n (M := mL_law) dL_law_1322 rfl 0 rfl ?_
                                                          refine g_iload_n (M := mL_law) dL_law_1323 rfl 3 rfl ?_
                                                          refine g_iconst (M := mL_law) (v := 1) dL_law_1324 rfl ?_
                                                          refine g_iadd (M := mL_law) dL_law_1325 ?_
                                                          obtain ⟨v255, ev255, hf⟩ := bd hf
                                                          refine g_sald (M := mL_law) dL_law_1326 ev255 ?_
                                                          refine g_aload_n (M := mL_law) dL_law_1327 rfl 0 rfl ?_
                                                          refine g_iload_n (M := mL_law) dL_law_1328 rfl 3 rfl ?_
                                                          refine g_iconst (M := mL_law) (v := 2) dL_law_1329 rfl ?_
                                                          refine g_iadd (M := mL_law) dL_law_1330 ?_
                                                          obtain ⟨v256, ev256, hf⟩ := bd hf
                                                          refine g_sald (M := mL_law) dL_law_1331 ev256 ?_
                                                          refine g_aload_n (M := mL_law) dL_law_1332 rfl 0 rfl ?_
                                                          refine g_iload_n (M := mL_law) dL_law_1333 rfl 3 rfl ?_
                                                          refine g_iconst (M := mL_law) (v := 3) dL_law_1334 rfl ?_
                                                          refine g_iadd (M := mL_law) dL_law_1335 ?_
                                                          obtain ⟨v257, ev257, hf⟩ := bd hf
                                                          refine g_sald (M := mL_law) dL_law_1336 ev257 ?_
                                                          refine g_weak (M := mL_law) (kc := (3 * n) + 0) (ks := (160 * n) + 0) (by omega) (by omega) ?_
                                                          obtain ⟨b258, eb258, hf⟩ := bd hf
                                                          obtain ⟨r259, er259, hf⟩ := bd hf
                                                          refine g_callV (M := mL_law) (kc := (3 * n)) (ks := (160 * n)) (as := [vi v255, vi v256, vi v257]) (rest := [vi r254.1]) dL_law_1337 cbX8_annex vwRL_131 rfl eb258 rfl (Nat.le_of_ble_eq_true rfl) (Nat.le_of_ble_eq_true rfl) (c_X8_annex G b258 v255 v256 v257 r254.2 r259 er259) ?_
                                                          refine g_ic_eq (M := mL_law) (tgt := 1648) dL_law_1340 rfl (fun q1340 => ?_) (fun q1340 => ?_)
                                                          · replace hf := ift hf q1340
                                                            refine g_iinc (M := mL_law) (j := 3) (L2 := [(3, vi (a3 + (8))), (0, vr (some (gsb G))), (1, vr a1), (2, vr a2)]) dL_law_1648 rfl rfl (Nat.le_of_ble_eq_true rfl) rfl ?_
                                                            refine g_goto (M := mL_law) (tgt := 18) dL_law_1651 rfl ?_
                                                            exact g_weak (M := mL_law) (kc := 3 * n) (ks := 160 * n) (by omega) (by omega) <| g_sub (M := mL_law) (L2 := [(0, vr (some (gsb G))), (1, vr a1), (2, vr a2), (3, vi (a3 + (8)))]) [1, 2, 3, 0] rfl <| ih a1 a2 (a3 + (8)) r259.2 _ hf
                                                          · replace hf := iff_ hf q1340
                                                            refine g_iconst (M := mL_law) (v := 0) dL_law_1343 rfl ?_
                                                            cases hf
                                                            exact g_weak (M := mL_law) (Nat.zero_le _) (Nat.zero_le _) (g_ret (M := mL_law) dL_law_1344 rfl)
                                                        · replace hf := iff_ hf q33_25
                                                          by_cases q33_26 : (v16 &&& (31 : Int32)) = 26
                                                          · replace hf := ift hf q33_26
                                                            refine g_sw_in (M := mL_law) (off := 1312) (tgt := 1345) dL_law_33 (by rw [q33_26]; decide) (by rw [q33_26]; decide) (by rw [q33_26]; rfl) (by decide) ?_
                                                            refine g_aload_n (M := mL_law) dL_law_1345 rfl 1 rfl ?_
                                                            refine g_aload_n (M := mL_law) dL_law_1346 rfl 0 rfl ?_
                                                            refine g_iload_n (M := mL_law) dL_law_1347 rfl 3 rfl ?_
                                                            refine g_iconst (M := mL_law) (v := 1) dL_law_1348 rfl ?_
                                                            refine g_iadd (M := mL_law) dL_law_1349 ?_
                                                            obtain ⟨v260, ev260, hf⟩ := bd hf
                                                            refine g_sald (M := mL_law) dL_law_1350 ev260 ?_
                                                            refine g_aload_n (M := mL_law) dL_law_1351 rfl 0 rfl ?_
                                                            refine g_iload_n (M := mL_law) dL_law_1352 rfl 3 rfl ?_
                                                            refine g_iconst (M := mL_law) (v := 2) dL_law_1353 rfl ?_
                                                            refine g_iadd (M := mL_law) dL_law_1354 ?_
                                                            obtain ⟨v261, ev261, hf⟩ := bd hf
                                                            refine g_sald (M := mL_law) dL_law_1355 ev261 ?_
                                                            refine g_weak (M := mL_law) (kc := (3 * n) + 0) (ks := (160 * n) + 0) (by omega) (by omega) ?_
                                                            obtain ⟨b262, eb262, hf⟩ := bd hf
                                                            obtain ⟨r263, er263, hf⟩ := bd hf
                                                            refine g_callV (M := mL_law) (kc := (3 * n)) (ks := (160 * n)) (as := [vi v260, vi v261]) (rest := []) dL_law_1356 cbX7_tear vwRL_132 rfl eb262 rfl (Nat.le_of_ble_eq_true rfl) (Nat.le_of_ble_eq_true rfl) (c_X7_tear G b262 v260 v261 h r263 er263) ?_
                                                            refine g_aload_n (M := mL_law) dL_law_1359 rfl 2 rfl ?_
                                                            refine g_aload_n (M := mL_law) dL_law_1360 rfl 0 rfl ?_
                                                            refine g_iload_n (M := mL_law) dL_law_1361 rfl 3 rfl ?_
                                                            refine g_iconst (M := mL_law) (v := 1) dL_law_1362 rfl ?_
                                                            refine g_iadd (M := mL_law) dL_law_1363 ?_
                                                            obtain ⟨v264, ev264, hf⟩ := bd hf
                                                            refine g_sald (M := mL_law) dL_law_1364 ev264 ?_
                                                            refine g_aload_n (M := mL_law) dL_law_1365 rfl 0 rfl ?_
                                                            refine g_iload_n (M := mL_law) dL_law_1366 rfl 3 rfl ?_
                                                            refine g_iconst (M := mL_law) (v := 2) dL_law_1367 rfl ?_
                                                            refine g_iadd (M := mL_law) dL_law_1368 ?_
                                                            obtain ⟨v265, ev265, hf⟩ := bd hf
                                                            refine g_sald (M := mL_law) dL_law_1369 ev265 ?_
                                                            refine g_weak (M := mL_law) (kc := (3 * n) + 0) (ks := (160 * n) + 0) (by omega) (by omega) ?_
                                                            obtain ⟨b266, eb266, hf⟩ := bd hf
                                                            obtain ⟨r267, er267, hf⟩ := bd hf
                                                            refine g_callV (M := mL_law) (kc := (3 * n)) (ks := (160 * n)) (as := [vi v264, vi v265]) (rest := [vi (b2i r263.1)]) dL_law_1370 cbX8_tear vwRL_136 rfl eb266 rfl (Nat.le_of_ble_eq_true rfl) (Nat.le_of_ble_eq_true rfl) (c_X8_tear G b266 v264 v265 r263.2 r267 er267) ?_
                                                            refine g_ic_eq (M := mL_law) (tgt := 1648) dL_law_1373 rfl (fun q1373 => ?_) (fun q1373 => ?_)
                                                            · replace hf := ift hf q1373
                                                              refine g_iinc (M := mL_law) (j := 3) (L2 := [(3, vi (a3 + (8))), (0, vr (some (gsb G))), (1, vr a1), (2, vr a2)]) dL_law_1648 rfl rfl (Nat.le_of_ble_eq_true rfl) rfl ?_
                                                              refine g_goto (M := mL_law) (tgt := 18) dL_law_1651 rfl ?_
                                                              exact g_weak (M := mL_law) (kc := 3 * n) (ks := 160 * n) (by omega) (by omega) <| g_sub (M := mL_law) (L2 := [(0, vr (some (gsb G))), (1, vr a1), (2, vr a2), (3, vi (a3 + (8)))]) [1, 2, 3, 0] rfl <| ih a1 a2 (a3 + (8)) r267.2 _ hf
                                                            · replace hf := iff_ hf q1373
                                                              refine g_iconst (M := mL_law) (v := 0) dL_law_1376 rfl ?_
                                                              cases hf
                                                              exact g_weak (M := mL_law) (Nat.zero_le _) (Nat.zero_le _) (g_ret (M := mL_law) dL_law_1377 rfl)
                                                          · replace hf := iff_ hf q33_26
                                                            by_cases q33_27 : (v16 &&& (31 : Int32)) = 27
                                                            · replace hf := ift hf q33_27
                                                              refine g_sw_in (M := mL_law) (off := 1345) (tgt := 1378) dL_law_33 (by rw [q33_27]; decide) (by rw [q33_27]; decide) (by rw [q33_27]; rfl) (by decide) ?_
                                                              refine g_aload_n (M := mL_law) dL_law_1378 rfl 1 rfl ?_
                                                              refine g_aload_n (M := mL_law) dL_law_1379 rfl 0 rfl ?_
                                                              refine g_iload_n (M := mL_law) dL_law_1380 rfl 3 rfl ?_
                                                              refine g_iconst (M := mL_law) (v := 1) dL_law_1381 rfl ?_
                                                              refine g_iadd (M := mL_law) dL_law_1382 ?_
                                                              obtain ⟨v268, ev268, hf⟩ := bd hf
                                                              refine g_sald (M := mL_law) dL_law_1383 ev268 ?_
                                                              refine g_aload_n (M := mL_law) dL_law_1384 rfl 0 rfl ?_
                                                              refine g_iload_n (M := mL_law) dL_law_1385 rfl 3 rfl ?_
                                                              refine g_iconst (M := mL_law) (v := 2) dL_law_1386 rfl ?_
                                                              refine g_iadd (M := mL_law) dL_law_1387 ?_
                                                              obtain ⟨v269, ev269, hf⟩ := bd hf
                                                              refine g_sald (M := mL_law) dL_law_1388 ev269 ?_
                                                              refine g_aload_n (M := mL_law) dL_law_1389 rfl 0 rfl ?_
                                                              refine g_iload_n (M := mL_law) dL_law_1390 rfl 3 rfl ?_
                                                              refine g_iconst (M := mL_law) (v := 3) dL_law_1391 rfl ?_
                                                              refine g_iadd (M := mL_law) dL_law_1392 ?_
                                                              obtain ⟨v270, ev270, hf⟩ := bd hf
                                                              refine g_sald (M := mL_law) dL_law_1393 ev270 ?_
                                                              refine g_aload_n (M := mL_law) dL_law_1394 rfl 0 rfl ?_
                                                              refine g_iload_n (M := mL_law) dL_law_1395 rfl 3 rfl ?_
                                                              refine g_iconst (M := mL_law) (v := 4) dL_law_1396 rfl ?_
                                                              refine g_iadd (M := mL_law) dL_law_1397 ?_
                                                              obtain ⟨v271, ev271, hf⟩ := bd hf
                                                              refine g_sald (M := mL_law) dL_law_1398 ev271 ?_
                                                              refine g_i2l (M := mL_law) dL_law_1399 ?_
                                                              refine g_bipush (M := mL_law) (v := 32) dL_law_1400 rfl ?_
                                                              refine g_lshl (M := mL_law) dL_law_1402 ?_
                                                              refine g_aload_n (M := mL_law) dL_law_1403 rfl 0 rfl ?_
                                                              refine g_iload_n (M := mL_law) dL_law_1404 rfl 3 rfl ?_
                                                              refine g_iconst (M := mL_law) (v := 5) dL_law_1405 rfl ?_
                                                              refine g_iadd (M := mL_law) dL_law_1406 ?_
                                                              obtain ⟨v272, ev272, hf⟩ := bd hf
                                                              refine g_sald (M := mL_law) dL_law_1407 ev272 ?_
                                                              refine g_i2l (M := mL_law) dL_law_1408 ?_
                                                              refine g_ldc2 (M := mL_law) dL_law_1409 csRL_72 ?_
                                                              refine g_land (M := mL_law) dL_law_1412 ?_
                                                              refine g_lor (M := mL_law) dL_law_1413 ?_
                                                              refine g_weak (M := mL_law) (kc := (3 * n) + 0) (ks := (160 * n) + 0) (by omega) (by omega) ?_
                                                              obtain ⟨b273, eb273, hf⟩ := bd hf
                                                              obtain ⟨r274, er274, hf⟩ := bd hf
                                                              refine g_callV (M := mL_law) (kc := (3 * n)) (ks := (160 * n)) (as := [vi v268, vi v269, vi v270, vl ((v271.toInt64 <<< ((32 : Int32).toInt64 &&& 63)) ||| (v272.toInt64 &&& (4294967295 : Int64)))]) (rest := []) dL_law_1414 cbX7_write vwRL_137 rfl eb273 rfl (Nat.le_of_ble_eq_true rfl) (Nat.le_of_ble_eq_true rfl) (c_X7_write G b273 v268 v269 v270 ((v271.toInt64 <<< ((32 : Int32).toInt64 &&& 63)) ||| (v272.toInt64 &&& (4294967295 : Int64))) h r274 er274) ?_
                                                              refine g_aload_n (M := mL_law) dL_law_1417 rfl 2 rfl ?_
                                                              refine g_aload_n (M := mL_law) dL_law_1418 rfl 0 rfl ?_
                                                              refine g_iload_n (M := mL_law) dL_law_1419 rfl 3 rfl ?_
                                                              refine g_iconst (M := mL_law) (v := 1) dL_law_1420 rfl ?_
                                                              refine g_iadd (M := mL_law) dL_law_1421 ?_
                                                              obtain ⟨v275, ev275, hf⟩ := bd hf
                                                              refine g_sald (M := mL_law) dL_law_1422 ev275 ?_
                                                              refine g_aload_n (M := mL_law) dL_law_1423 rfl 0 rfl ?_
                                                              refine g_iload_n (M := mL_law) dL_law_1424 rfl 3 rfl ?_
                                                              refine g_iconst (M := mL_law) (v := 2) dL_law_1425 rfl ?_
                                                              refine g_iadd (M := mL_law) dL_law_1426 ?_
                                                              obtain ⟨v276, ev276, hf⟩ := bd hf
                                                              refine g_sald (M := mL_law) dL_law_1427 ev276 ?_
                                                              refine g_aload_n (M := mL_law) dL_law_1428 rfl 0 rfl ?_
                                                              refine g_iload_n (M := mL_law) dL_law_1429 rfl 3 rfl ?_
                                                              refine g_iconst (M := mL_law) (v := 3) dL_law_1430 rfl ?_
                                                              refine g_iadd (M := mL_law) dL_law_1431 ?_
                                                              obtain ⟨v277, ev277, hf⟩ := bd hf
                                                              refine g_sald (M := mL_law) dL_law_1432 ev277 ?_
                                                              refine g_aload_n (M := mL_law) dL_law_1433 rfl 0 rfl ?_
                                                              refine g_iload_n (M := mL_law) dL_law_1434 rfl 3 rfl ?_
                                                              refine g_iconst (M := mL_law) (v := 4) dL_law_1435 rfl ?_
                                                              refine g_iadd (M := mL_law) dL_law_1436 ?_
                                                              obtain ⟨v278, ev278, hf⟩ := bd hf
                                                              refine g_sald (M := mL_law) dL_law_1437 ev278 ?_
                                                              refine g_i2l (M := mL_law) dL_law_1438 ?_
                                                              refine g_bipush (M := mL_law) (v := 32) dL_law_1439 rfl ?_
                                                              refine g_lshl (M := mL_law) dL_law_1441 ?_
                                                              refine g_aload_n (M := mL_law) dL_law_1442 rfl 0 rfl ?_
                                                              refine g_iload_n (M := mL_law) dL_law_1443 rfl 3 rfl ?_
                                                              refine g_iconst (M := mL_law) (v := 5) dL_law_1444 rfl ?_
                                                              refine g_iadd (M := mL_law) dL_law_1445 ?_
                                                              obtain ⟨v279, ev279, hf⟩ := bd hf
                                                              refine g_sald (M := mL_law) dL_law_1446 ev279 ?_
                                                              refine g_i2l (M := mL_law) dL_law_1447 ?_
                                                              refine g_ldc2 (M := mL_law) dL_law_1448 csRL_72 ?_
                                                              refine g_land (M := mL_law) dL_law_1451 ?_
                                                              refine g_lor (M := mL_law) dL_law_1452 ?_
                                                              refine g_weak (M := mL_law) (kc := (3 * n) + 0) (ks := (160 * n) + 0) (by omega) (by omega) ?_
                                                              obtain ⟨b280, eb280, hf⟩ := bd hf
                                                              obtain ⟨r281, er281, hf⟩ := bd hf
                                                              refine g_callV (M := mL_law) (kc := (3 * n)) (ks := (160 * n)) (as := [vi v275, vi v276, vi v277, vl ((v278.toInt64 <<< ((32 : Int32).toInt64 &&& 63)) ||| (v279.toInt64 &&& (4294967295 : Int64)))]) (rest := [vi r274.1]) dL_law_1453 cbX8_write vwRL_141 rfl eb280 rfl (Nat.le_of_ble_eq_true rfl) (Nat.le_of_ble_eq_true rfl) (c_X8_write G b280 v275 v276 v277 ((v278.toInt64 <<< ((32 : Int32).toInt64 &&& 63)) ||| (v279.toInt64 &&& (4294967295 : Int64))) r274.2 r281 er281) ?_
                                                              refine g_ic_eq (M := mL_law) (tgt := 1648) dL_law_1456 rfl (fun q1456 => ?_) (fun q1456 => ?_)
                                                              · replace hf := ift hf q1456
                                                                refine g_iinc (M := mL_law) (j := 3) (L2 := [(3, vi (a3 + (8))), (0, vr (some (gsb G))), (1, vr a1), (2, vr a2)]) dL_law_1648 rfl rfl (Nat.le_of_ble_eq_true rfl) rfl ?_
                                                                refine g_goto (M := mL_law) (tgt := 18) dL_law_1651 rfl ?_
                                                                exact g_weak (M := mL_law) (kc := 3 * n) (ks := 160 * n) (by omega) (by omega) <| g_sub (M := mL_law) (L2 := [(0, vr (some (gsb G))), (1, vr a1), (2, vr a2), (3, vi (a3 + (8)))]) [1, 2, 3, 0] rfl <| ih a1 a2 (a3 + (8)) r281.2 _ hf
                                                              · replace hf := iff_ hf q1456
                                                                refine g_iconst (M := mL_law) (v := 0) dL_law_1459 rfl ?_
                                                                cases hf
                                                                exact g_weak (M := mL_law) (Nat.zero_le _) (Nat.zero_le _) (g_ret (M := mL_law) dL_law_1460 rfl)
                                                            · replace hf := iff_ hf q33_27
                                                              by_cases q33_28 : (v16 &&& (31 : Int32)) = 28
                                                              · replace hf := ift hf q33_28
                                                                refine g_sw_in (M := mL_law) (off := 1428) (tgt := 1461) dL_law_33 (by rw [q33_28]; decide) (by rw [q33_28]; decide) (by rw [q33_28]; rfl) (by decide) ?_
                                                                refine g_aload_n (M := mL_law) dL_law_1461 rfl 1 rfl ?_
                                                                refine g_aload_n (M := mL_law) dL_law_1462 rfl 0 rfl ?_
                                                                refine g_iload_n (M := mL_law) dL_law_1463 rfl 3 rfl ?_
                                                                refine g_iconst (M := mL_law) (v := 1) dL_law_1464 rfl ?_
                                                                refine g_iadd (M := mL_law) dL_law_1465 ?_
                                                                obtain ⟨v282, ev282, hf⟩ := bd hf
                                                                refine g_sald (M := mL_law) dL_law_1466 ev282 ?_
                                                                refine g_aload_n (M := mL_law) dL_law_1467 rfl 0 rfl ?_
                                                                refine g_iload_n (M := mL_law) dL_law_1468 rfl 3 rfl ?_
                                                                refine g_iconst (M := mL_law) (v := 2) dL_law_1469 rfl ?_
                                                                refine g_iadd (M := mL_law) dL_law_1470 ?_
                                                                obtain ⟨v283, ev283, hf⟩ := bd hf
                                                                refine g_sald (M := mL_law) dL_law_1471 ev283 ?_
                                                                refine g_aload_n (M := mL_law) dL_law_1472 rfl 0 rfl ?_
                                                                refine g_iload_n (M := mL_law) dL_law_1473 rfl 3 rfl ?_
                                                                refine g_iconst (M := mL_law) (v := 3) dL_law_1474 rfl ?_
                                                                refine g_iadd (M := mL_law) dL_law_1475 ?_
                                                                obtain ⟨v284, ev284, hf⟩ := bd hf
                                                                refine g_sald (M := mL_law) dL_law_1476 ev284 ?_
                                                                refine g_weak (M := mL_law) (kc := (3 * n) + 0) (ks := (160 * n) + 0) (by omega) (by omega) ?_
                                                                obtain ⟨b285, eb285, hf⟩ := bd hf
                                                                obtain ⟨r286, er286, hf⟩ := bd hf
                                                                refine g_callV (M := mL_law) (kc := (3 * n)) (ks := (160 * n)) (as := [vi v282, vi v283, vi v284]) (rest := []) dL_law_1477 cbX7_read vwRL_142 rfl eb285 rfl (Nat.le_of_ble_eq_true rfl) (Nat.le_of_ble_eq_true rfl) (c_X7_read G b285 v282 v283 v284 h r286 er286) ?_
                                                                refine g_aload_n (M := mL_law) dL_law_1480 rfl 2 rfl ?_
                                                                refine g_aload_n (M := mL_law) dL_law_1481 rfl 0 rfl ?_
                                                                refine g_iload_n (M := mL_law) dL_law_1482 rfl 3 rfl ?_
                                                                refine g_iconst (M := mL_law) (v := 1) dL_law_1483 rfl ?_
                                                                refine g_iadd (M := mL_law) dL_law_1484 ?_
                                                                obtain ⟨v287, ev287, hf⟩ := bd hf
                                                                refine g_sald (M := mL_law) dL_law_1485 ev287 ?_
                                                                refine g_aload_n (M := mL_law) dL_law_1486 rfl 0 rfl ?_
                                                                refine g_iload_n (M := mL_law) dL_law_1487 rfl 3 rfl ?_
                                                                refine g_iconst (M := mL_law) (v := 2) dL_law_1488 rfl ?_
                                                                refine g_iadd (M := mL_law) dL_law_1489 ?_
                                                                obtain ⟨v288, ev288, hf⟩ := bd hf
                                                                refine g_sald (M := mL_law) dL_law_1490 ev288 ?_
                                                                refine g_aload_n (M := mL_law) dL_law_1491 rfl 0 rfl ?_
                                                                refine g_iload_n (M := mL_law) dL_law_1492 rfl 3 rfl ?_
                                                                refine g_iconst (M := mL_law) (v := 3) dL_law_1493 rfl ?_
                                                                refine g_iadd (M := mL_law) dL_law_1494 ?_
                                                                obtain ⟨v289, ev289, hf⟩ := bd hf
                                                                refine g_sald (M := mL_law) dL_law_1495 ev289 ?_
                                                                refine g_weak (M := mL_law) (kc := (3 * n) + 0) (ks := (160 * n) + 0) (by omega) (by omega) ?_
                                                                obtain ⟨b290, eb290, hf⟩ := bd hf
                                                                obtain ⟨r291, er291, hf⟩ := bd hf
                                                                refine g_callV (M := mL_law) (kc := (3 * n)) (ks := (160 * n)) (as := [vi v287, vi v288, vi v289]) (rest := [vl r286]) dL_law_1496 cbX8_read vwRL_146 rfl eb290 rfl (Nat.le_of_ble_eq_true rfl) (Nat.le_of_ble_eq_true rfl) (c_X8_read G b290 v287 v288 v289 h r291 er291) ?_
                                                                refine g_lcmp (M := mL_law) dL_law_1499 ?_
                                                                refine g_if_eq (M := mL_law) (tgt := 1648) dL_law_1500 rfl (fun q1500 => ?_) (fun q1500 => ?_)
                                                                · replace hf := ift hf q1500
                                                                  refine g_iinc (M := mL_law) (j := 3) (L2 := [(3, vi (a3 + (8))), (0, vr (some (gsb G))), (1, vr a1), (2, vr a2)]) dL_law_1648 rfl rfl (Nat.le_of_ble_eq_true rfl) rfl ?_
                                                                  refine g_goto (M := mL_law) (tgt := 18) dL_law_1651 rfl ?_
                                                                  exact g_weak (M := mL_law) (kc := 3 * n) (ks := 160 * n) (by omega) (by omega) <| g_sub (M := mL_law) (L2 := [(0, vr (some (gsb G))), (1, vr a1), (2, vr a2), (3, vi (a3 + (8)))]) [1, 2, 3, 0] rfl <| ih a1 a2 (a3 + (8)) h _ hf
                                                                · replace hf := iff_ hf q1500
                                                                  refine g_iconst (M := mL_law) (v := 0) dL_law_1503 rfl ?_
                                                                  cases hf
                                                                  exact g_weak (M := mL_law) (Nat.zero_le _) (Nat.zero_le _) (g_ret (M := mL_law) dL_law_1504 rfl)
                                                              · replace hf := iff_ hf q33_28
                                                                by_cases q33_29 : (v16 &&& (31 : Int32)) = 29
                                                                · replace hf := ift hf q33_29
                                                                  refine g_sw_in (M := mL_law) (off := 1472) (tgt := 1505) dL_law_33 (by rw [q33_29]; decide) (by rw [q33_29]; decide) (by rw [q33_29]; rfl) (by decide) ?_
                                                                  refine g_aload_n (M := mL_law) dL_law_1505 rfl 1 rfl ?_
                                                                  refine g_aload_n (M := mL_law) dL_law_1506 rfl 0 rfl ?_
                                                                  refine g_iload_n (M := mL_law) dL_law_1507 rfl 3 rfl ?_
                                                                  refine g_iconst (M := mL_law) (v := 1) dL_law_1508 rfl ?_
                                                                  refine g_iadd (M := mL_law) dL_law_1509 ?_
                                                                  obtain ⟨v292, ev292, hf⟩ := bd hf
                                                                  refine g_sald (M := mL_law) dL_law_1510 ev292 ?_
                                                                  refine g_aload_n (M := mL_law) dL_law_1511 rfl 0 rfl ?_
                                                                  refine g_iload_n (M := mL_law) dL_law_1512 rfl 3 rfl ?_
                                                                  refine g_iconst (M := mL_law) (v := 2) dL_law_1513 rfl ?_
                                                                  refine g_iadd (M := mL_law) dL_law_1514 ?_
                                                                  obtain ⟨v293, ev293, hf⟩ := bd hf
                                                                  refine g_sald (M := mL_law) dL_law_1515 ev293 ?_
                                                                  refine g_weak (M := mL_law) (kc := (3 * n) + 0) (ks := (160 * n) + 0) (by omega) (by omega) ?_
                                                                  obtain ⟨b294, eb294, hf⟩ := bd hf
                                                                  obtain ⟨r295, er295, hf⟩ := bd hf
                                                                  refine g_callV (M := mL_law) (kc := (3 * n)) (ks := (160 * n)) (as := [vi v292, vi v293]) (rest := []) dL_law_1516 cbX7_size vwRL_147 rfl eb294 rfl (Nat.le_of_ble_eq_true rfl) (Nat.le_of_ble_eq_true rfl) (c_X7_size G b294 v292 v293 h r295 er295) ?_
                                                                  refine g_aload_n (M := mL_law) dL_law_1519 rfl 2 rfl ?_
                                                                  refine g_aload_n (M := mL_law) dL_law_1520 rfl 0 rfl ?_
                                                                  refine g_iload_n (M := mL_law) dL_law_1521 rfl 3 rfl ?_
                                                                  refine g_iconst (M := mL_law) (v := 1) dL_law_1522 rfl ?_
                                                                  refine g_iadd (M := mL_law) dL_law_1523 ?_
                                                                  obtain ⟨v296, ev296, hf⟩ := bd hf
                                                                  refine g_sald (M := mL_law) dL_law_1524 ev296 ?_
                                                                  refine g_aload_n (M := mL_law) dL_law_1525 rfl 0 rfl ?_
                                                                  refine g_iload_n (M := mL_law) dL_law_1526 rfl 3 rfl ?_
                                                                  refine g_iconst (M := mL_law) (v := 2) dL_law_1527 rfl ?_
                                                                  refine g_iadd (M := mL_law) dL_law_1528 ?_
                                                                  obtain ⟨v297, ev297, hf⟩ := bd hf
                                                                  refine g_sald (M := mL_law) dL_law_1529 ev297 ?_
                                                                  refine g_weak (M := mL_law) (kc := (3 * n) + 0) (ks := (160 * n) + 0) (by omega) (by omega) ?_
                                                                  obtain ⟨b298, eb298, hf⟩ := bd hf
                                                                  obtain ⟨r299, er299, hf⟩ := bd hf
                                                                  refine g_callV (M := mL_law) (kc := (3 * n)) (ks := (160 * n)) (as := [vi v296, vi v297]) (rest := [vi r295]) dL_law_1530 cbX8_size vwRL_150 rfl eb298 rfl (Nat.le_of_ble_eq_true rfl) (Nat.le_of_ble_eq_true rfl) (c_X8_size G b298 v296 v297 h r299 er299) ?_
                                                                  refine g_ic_eq (M := mL_law) (tgt := 1648) dL_law_1533 rfl (fun q1533 => ?_) (fun q1533 => ?_)
                                                                  · replace hf := ift hf q1533
                                                                    refine g_iinc (M := mL_law) (j := 3) (L2 := [(3, vi (a3 + (8))), (0, vr (some (gsb G))), (1, vr a1), (2, vr a2)]) dL_law_1648 rfl rfl (Nat.le_of_ble_eq_true rfl) rfl ?_
                                                                    refine g_goto (M := mL_law) (tgt := 18) dL_law_1651 rfl ?_
                                                                    exact g_weak (M := mL_law) (kc := 3 * n) (ks := 160 * n) (by omega) (by omega) <| g_sub (M := mL_law) (L2 := [(0, vr (some (gsb G))), (1, vr a1), (2, vr a2), (3, vi (a3 + (8)))]) [1, 2, 3, 0] rfl <| ih a1 a2 (a3 + (8)) h _ hf
                                                                  · replace hf := iff_ hf q1533
                                                                    refine g_iconst (M := mL_law) (v := 0) dL_law_1536 rfl ?_
                                                                    cases hf
                                                                    exact g_weak (M := mL_law) (Nat.zero_le _) (Nat.zero_le _) (g_ret (M := mL_law) dL_law_1537 rfl)
                                                                · replace hf := iff_ hf q33_29
                                                                  by_cases q33_30 : (v16 &&& (31 : Int32)) = 30
                                                                  · replace hf := ift hf q33_30
                                                                    refine g_sw_in (M := mL_law) (off := 1505) (tgt := 1538) dL_law_33 (by rw [q33_30]; decide) (by rw [q33_30]; decide) (by rw [q33_30]; rfl) (by decide) ?_
                                                                    refine g_aload_n (M := mL_law) dL_law_1538 rfl 1 rfl ?_
                                                                    refine g_aload_n (M := mL_law) dL_law_1539 rfl 0 rfl ?_
                                                                    refine g_iload_n (M := mL_law) dL_law_1540 rfl 3 rfl ?_
                                                                    refine g_iconst (M := mL_law) (v := 1) dL_law_1541 rfl ?_
                                                                    refine g_iadd (M := mL_law) dL_law_1542 ?_
                                                                    obtain ⟨v300, ev300, hf⟩ := bd hf
                                                                    refine g_sald (M := mL_law) dL_law_1543 ev300 ?_
                                                                    refine g_aload_n (M := mL_law) dL_law_1544 rfl 0 rfl ?_
                                                                    refine g_iload_n (M := mL_law) dL_law_1545 rfl 3 rfl ?_
                                                                    refine g_iconst (M := mL_law) (v := 2) dL_law_1546 rfl ?_
                                                                    refine g_iadd (M := mL_law) dL_law_1547 ?_
                                                                    obtain ⟨v301, ev301, hf⟩ := bd hf
                                                                    refine g_sald (M := mL_law) dL_law_1548 ev301 ?_
                                                                    refine g_aload_n (M := mL_law) dL_law_1549 rfl 0 rfl ?_
                                                                    refine g_iload_n (M := mL_law) dL_law_1550 rfl 3 rfl ?_
                                                                    refine g_iconst (M := mL_law) (v := 3) dL_law_1551 rfl ?_
                                                                    refine g_iadd (M := mL_law) dL_law_1552 ?_
                                                                    obtain ⟨v302, ev302, hf⟩ := bd hf
                                                                    refine g_sald (M := mL_law) dL_law_1553 ev302 ?_
                                                                    refine g_aload_n (M := mL_law) dL_law_1554 rfl 0 rfl ?_
                                                                    refine g_iload_n (M := mL_law) dL_law_1555 rfl 3 rfl ?_
                                                                    refine g_iconst (M := mL_law) (v := 4) dL_law_1556 rfl ?_
                                                                    refine g_iadd (M := mL_law) dL_law_1557 ?_
                                                                    obtain ⟨v303, ev303, hf⟩ := bd hf
                                                                    refine g_sald (M := mL_law) dL_law_1558 ev303 ?_
                                                                    refine g_aload_n (M := mL_law) dL_law_1559 rfl 0 rfl ?_
                                                                    refine g_iload_n (M := mL_law) dL_law_1560 rfl 3 rfl ?_
                                                                    refine g_iconst (M := mL_law) (v := 5) dL_law_1561 rfl ?_
                                                                    refine g_iadd (M := mL_law) dL_law_1562 ?_
                                                                    obtain ⟨v304, ev304, hf⟩ := bd hf
                                                                    refine g_sald (M := mL_law) dL_law_1563 ev304 ?_
                                                                    refine g_aload_n (M := mL_law) dL_law_1564 rfl 0 rfl ?_
                                                                    refine g_iload_n (M := mL_law) dL_law_1565 rfl 3 rfl ?_
                                                                    refine g_bipush (M := mL_law) (v := 6) dL_law_1566 rfl ?_
                                                                    refine g_iadd (M := mL_law) dL_law_1568 ?_
                                                                    obtain ⟨v305, ev305, hf⟩ := bd hf
                                                                    refine g_sald (M := mL_law) dL_law_1569 ev305 ?_
                                                                    refine g_aload_n (M := mL_law) dL_law_1570 rfl 0 rfl ?_
                                                                    refine g_iload_n (M := mL_law) dL_law_1571 rfl 3 rfl ?_
                                                                    refine g_bipush (M := mL_law) (v := 7) dL_law_1572 rfl ?_
                                                                    refine g_iadd (M := mL_law) dL_law_1574 ?_
                                                                    obtain ⟨v306, ev306, hf⟩ := bd hf
                                                                    refine g_sald (M := mL_law) dL_law_1575 ev306 ?_
                                                                    refine g_weak (M := mL_law) (kc := (3 * n) + 0) (ks := (160 * n) + 0) (by omega) (by omega) ?_
                                                                    obtain ⟨b307, eb307, hf⟩ := bd hf
                                                                    obtain ⟨r308, er308, hf⟩ := bd hf
                                                                    refine g_callV (M := mL_law) (kc := (3 * n)) (ks := (160 * n)) (as := [vi v300, vi v301, vi v302, vi v303, vi v304, vi v305, vi v306]) (rest := []) dL_law_1576 cbX7_copy vwRL_151 rfl eb307 rfl (Nat.le_of_ble_eq_true rfl) (Nat.le_of_ble_eq_true rfl) (c_X7_copy G b307 v300 v301 v302 v303 v304 v305 v306 h r308 er308) ?_
                                                                    refine g_aload_n (M := mL_law) dL_law_1579 rfl 2 rfl ?_
                                                                    refine g_aload_n (M := mL_law) dL_law_1580 rfl 0 rfl ?_
                                                                    refine g_iload_n (M := mL_law) dL_law_1581 rfl 3 rfl ?_
                                                                    refine g_iconst (M := mL_law) (v := 1) dL_law_1582 rfl ?_
                                                                    refine g_iadd (M := mL_law) dL_law_1583 ?_
                                                                    obtain ⟨v309, ev309, hf⟩ := bd hf
                                                                    refine g_sald (M := mL_law) dL_law_1584 ev309 ?_
                                                                    refine g_aload_n (M := mL_law) dL_law_1585 rfl 0 rfl ?_
                                                                    refine g_iload_n (M := mL_law) dL_law_1586 rfl 3 rfl ?_
                                                                    refine g_iconst (M := mL_law) (v := 2) dL_law_1587 rfl ?_
                                                                    refine g_iadd (M := mL_law) dL_law_1588 ?_
                                                                    obtain ⟨v310, ev310, hf⟩ := bd hf
                                                                    refine g_sald (M := mL_law) dL_law_1589 ev310 ?_
                                                                    refine g_aload_n (M := mL_law) dL_law_1590 rfl 0 rfl ?_
                                                                    refine g_iload_n (M := mL_law) dL_law_1591 rfl 3 rfl ?_
                                                                    refine g_iconst (M := mL_law) (v := 3) dL_law_1592 rfl ?_
                                                                    refine g_iadd (M := mL_law) dL_law_1593 ?_
                                                                    obtain ⟨v311, ev311, hf⟩ := bd hf
                                                                    refine g_sald (M := mL_law) dL_law_1594 ev311 ?_
                                                                    refine g_aload_n (M := mL_law) dL_law_1595 rfl 0 rfl ?_
                                                                    refine g_iload_n (M := mL_law) dL_law_1596 rfl 3 rfl ?_
                                                                    refine g_iconst (M := mL_law) (v := 4) dL_law_1597 rfl ?_
                                                                    refine g_iadd (M := mL_law) dL_law_1598 ?_
                                                                    obtain ⟨v312, ev312, hf⟩ := bd hf
                                                                    refine g_sald (M := mL_law) dL_law_1599 ev312 ?_
                                                                    refine g_aload_n (M := mL_law) dL_law_1600 rfl 0 rfl ?_
                                                                    refine g_iload_n (M := mL_law) dL_law_1601 rfl 3 rfl ?_
                                                                    refine g_iconst (M := mL_law) (v := 5) dL_law_1602 rfl ?_
                                                                    refine g_iadd (M := mL_law) dL_law_1603 ?_
                                                                    obtain ⟨v313, ev313, hf⟩ := bd hf
                                                                    refine g_sald (M := mL_law) dL_law_1604 ev313 ?_
                                                                    refine g_aload_n (M := mL_law) dL_law_1605 rfl 0 rfl ?_
                                                                    refine g_iload_n (M := mL_law) dL_law_1606 rfl 3 rfl ?_
                                                                    refine g_bipush (M := mL_law) (v := 6) dL_law_1607 rfl ?_
                                                                    refine g_iadd (M := mL_law) dL_law_1609 ?_
                                                                    obtain ⟨v314, ev314, hf⟩ := bd hf
                                                                    refine g_sald (M := mL_law) dL_law_1610 ev314 ?_
                                                                    refine g_aload_n (M := mL_law) dL_law_1611 rfl 0 rfl ?_
                                                                    refine g_iload_n (M := mL_law) dL_law_1612 rfl 3 rfl ?_
                                                                    refine g_bipush (M := mL_law) (v := 7) dL_law_1613 rfl ?_
                                                                    refine g_iadd (M := mL_law) dL_law_1615 ?_
                                                                    obtain ⟨v315, ev315, hf⟩ := bd hf
                                                                    refine g_sald (M := mL_law) dL_law_1616 ev315 ?_
                                                                    refine g_weak (M := mL_law) (kc := (3 * n) + 0) (ks := (160 * n) + 0) (by omega) (by omega) ?_
                                                                    obtain ⟨b316, eb316, hf⟩ := bd hf
                                                                    obtain ⟨r317, er317, hf⟩ := bd hf
                                                                    refine g_callV (M := mL_law) (kc := (3 * n)) (ks := (160 * n)) (as := [vi v309, vi v310, vi v311, vi v312, vi v313, vi v314, vi v315]) (rest := [vi r308.1]) dL_law_1617 cbX8_copy vwRL_154 rfl eb316 rfl (Nat.le_of_ble_eq_true rfl) (Nat.le_of_ble_eq_true rfl) (c_X8_copy G b316 v309 v310 v311 v312 v313 v314 v315 r308.2 r317 er317) ?_
                                                                    refine g_ic_eq (M := mL_law) (tgt := 1648) dL_law_1620 rfl (fun q1620 => ?_) (fun q1620 => ?_)
                                                                    · replace hf := ift hf q1620
                                                                      refine g_iinc (M := mL_law) (j := 3) (L2 := [(3, vi (a3 + (8))), (0, vr (some (gsb G))), (1, vr a1), (2, vr a2)]) dL_law_1648 rfl rfl (Nat.le_of_ble_eq_true rfl) rfl ?_
                                                                      refine g_goto (M := mL_law) (tgt := 18) dL_law_1651 rfl ?_
                                                                      exact g_weak (M := mL_law) (kc := 3 * n) (ks := 160 * n) (by omega) (by omega) <| g_sub (M := mL_law) (L2 := [(0, vr (some (gsb G))), (1, vr a1), (2, vr a2), (3, vi (a3 + (8)))]) [1, 2, 3, 0] rfl <| ih a1 a2 (a3 + (8)) r317.2 _ hf
                                                                    · replace hf := iff_ hf q1620
                                                                      refine g_iconst (M := mL_law) (v := 0) dL_law_1623 rfl ?_
                                                                      cases hf
                                                                      exact g_weak (M := mL_law) (Nat.zero_le _) (Nat.zero_le _) (g_ret (M := mL_law) dL_law_1624 rfl)
                                                                  · replace hf := iff_ hf q33_30
                                                                    by_cases q33_31 : (v16 &&& (31 : Int32)) = 31
                                                                    · replace hf := ift hf q33_31
                                                                      refine g_sw_in (M := mL_law) (off := 1592) (tgt := 1625) dL_law_33 (by rw [q33_31]; decide) (by rw [q33_31]; decide) (by rw [q33_31]; rfl) (by decide) ?_
                                                                      refine g_aload_n (M := mL_law) dL_law_1625 rfl 1 rfl ?_
                                                                      refine g_aload_n (M := mL_law) dL_law_1626 rfl 0 rfl ?_
                                                                      refine g_iload_n (M := mL_law) dL_law_1627 rfl 3 rfl ?_
                                                                      refine g_iconst (M := mL_law) (v := 1) dL_law_1628 rfl ?_
                                                                      refine g_iadd (M := mL_law) dL_law_1629 ?_
                                                                      obtain ⟨v318, ev318, hf⟩ := bd hf
                                                                      refine g_sald (M := mL_law) dL_law_1630 ev318 ?_
                                                                      refine g_weak (M := mL_law) (kc := (3 * n) + 0) (ks := (160 * n) + 0) (by omega) (by omega) ?_
                                                                      obtain ⟨b319, eb319, hf⟩ := bd hf
                                                                      obtain ⟨r320, er320, hf⟩ := bd hf
                                                                      refine g_callV (M := mL_law) (kc := (3 * n)) (ks := (160 * n)) (as := [vi v318]) (rest := []) dL_law_1631 cbX7_count vwRL_155 rfl eb319 rfl (Nat.le_of_ble_eq_true rfl) (Nat.le_of_ble_eq_true rfl) (c_X7_count G b319 v318 h r320 er320) ?_
                                                                      refine g_aload_n (M := mL_law) dL_law_1634 rfl 2 rfl ?_
                                                                      refine g_aload_n (M := mL_law) dL_law_1635 rfl 0 rfl ?_
                                                                      refine g_iload_n (M := mL_law) dL_law_1636 rfl 3 rfl ?_
                                                                      refine g_iconst (M := mL_law) (v := 1) dL_law_1637 rfl ?_
                                                                      refine g_iadd (M := mL_law) dL_law_1638 ?_
                                                                      obtain ⟨v321, ev321, hf⟩ := bd hf
                                                                      refine g_sald (M := mL_law) dL_law_1639 ev321 ?_
                                                                      refine g_weak (M := mL_law) (kc := (3 * n) + 0) (ks := (160 * n) + 0) (by omega) (by omega) ?_
                                                                      obtain ⟨b322, eb322, hf⟩ := bd hf
                                                                      obtain ⟨r323, er323, hf⟩ := bd hf
                                                                      refine g_callV (M := mL_law) (kc := (3 * n)) (ks := (160 * n)) (as := [vi v321]) (rest := [vi r320]) dL_law_1640 cbX8_count vwRL_158 rfl eb322 rfl (Nat.le_of_ble_eq_true rfl) (Nat.le_of_ble_eq_true rfl) (c_X8_count G b322 v321 h r323 er323) ?_
                                                                      refine g_ic_eq (M := mL_law) (tgt := 1648) dL_law_1643 rfl (fun q1643 => ?_) (fun q1643 => ?_)
                                                                      · replace hf := ift hf q1643
                                                                        refine g_iinc (M := mL_law) (j := 3) (L2 := [(3, vi (a3 + (8))), (0, vr (some (gsb G))), (1, vr a1), (2, vr a2)]) dL_law_1648 rfl rfl (Nat.le_of_ble_eq_true rfl) rfl ?_
                                                                        refine g_goto (M := mL_law) (tgt := 18) dL_law_1651 rfl ?_
                                                                        exact g_weak (M := mL_law) (kc := 3 * n) (ks := 160 * n) (by omega) (by omega) <| g_sub (M := mL_law) (L2 := [(0, vr (some (gsb G))), (1, vr a1), (2, vr a2), (3, vi (a3 + (8)))]) [1, 2, 3, 0] rfl <| ih a1 a2 (a3 + (8)) h _ hf
                                                                      · replace hf := iff_ hf q1643
                                                                        refine g_iconst (M := mL_law) (v := 0) dL_law_1646 rfl ?_
                                                                        cases hf
                                                                        exact g_weak (M := mL_law) (Nat.zero_le _) (Nat.zero_le _) (g_ret (M := mL_law) dL_law_1647 rfl)
                                                                    · replace hf := iff_ hf q33_31
                                                                      refine g_sw_out (M := mL_law) (tgt := 1648) dL_law_33 (sw_def 32 ⟨q33_0, q33_1, q33_2, q33_3, q33_4, q33_5, q33_6, q33_7, q33_8, q33_9, q33_10, q33_11, q33_12, q33_13, q33_14, q33_15, q33_16, q33_17, q33_18, q33_19, q33_20, q33_21, q33_22, q33_23, q33_24, q33_25, q33_26, q33_27, q33_28, q33_29, q33_30, q33_31, trivial⟩) (by decide) ?_
                                                                      refine g_iinc (M := mL_law) (j := 3) (L2 := [(3, vi (a3 + (8))), (0, vr (some (gsb G))), (1, vr a1), (2, vr a2)]) dL_law_1648 rfl rfl (Nat.le_of_ble_eq_true rfl) rfl ?_
                                                                      refine g_goto (M := mL_law) (tgt := 18) dL_law_1651 rfl ?_
                                                                      exact g_weak (M := mL_law) (kc := 3 * n) (ks := 160 * n) (by omega) (by omega) <| g_sub (M := mL_law) (L2 := [(0, vr (some (gsb G))), (1, vr a1), (2, vr a2), (3, vi (a3 + (8)))]) [1, 2, 3, 0] rfl <| ih a1 a2 (a3 + (8)) h _ hf
def f_L_law (G : Gm) (h : AH) : Option (Bool × AH) :=
  (f_X7_init (hz h) (nw h 7 0)).bind fun r324 =>
  (f_X8_init (hz r324) (nw r324 8 0)).bind fun r325 =>
  f_L_law_18 G FU (some (hz h)) (some (hz r324)) (0 : Int32) r325
theorem x_L_law (G : Gm) (h : AH) (o : (Bool × AH)) (hf : f_L_law G h = some o) : GO G mL_law 3037 175037 0 [(0, vr (some (gsb G)))] [] h (some (vi (b2i o.1))) o.2 := by
  unfold f_L_law at hf
  refine g_new (M := mL_law) (kc := 3036) (ks := 175030) dL_law_0 ck7 clRL_7 inRX7 itRX7 (by decide) ?_
  refine g_dup (M := mL_law) dL_law_3 rfl ?_
  obtain ⟨r324, er324, hf⟩ := bd hf
  refine g_callI (M := mL_law) (kc := 3023) (ks := 173338) (as := []) (rest := [vr (some (hz h))]) (b := (hz h)) dL_law_4 cbX7_init mlRL_9 im_yX7_init rfl rfl rfl (Nat.le_of_ble_eq_true rfl) (Nat.le_of_ble_eq_true rfl) (c_X7_init G (hz h) (nw h 7 0) r324 er324) ?_
  refine g_astore_n (M := mL_law) (L2 := [(1, vr (some (hz h))), (0, vr (some (gsb G)))]) dL_law_7 rfl (Nat.le_of_ble_eq_true rfl) rfl ?_
  refine g_new (M := mL_law) (kc := 3022) (ks := 173310) dL_law_8 ck8 clRL_10 inRX8 itRX8 (by decide) ?_
  refine g_dup (M := mL_law) dL_law_11 rfl ?_
  obtain ⟨r325, er325, hf⟩ := bd hf
  refine g_callI (M := mL_law) (kc := 3000) (ks := 160000) (as := []) (rest := [vr (some (hz r324))]) (b := (hz r324)) dL_law_12 cbX8_init mlRL_12 im_yX8_init rfl rfl rfl (Nat.le_of_ble_eq_true rfl) (Nat.le_of_ble_eq_true rfl) (c_X8_init G (hz r324) (nw r324 8 0) r325 er325) ?_
  refine g_astore_n (M := mL_law) (L2 := [(2, vr (some (hz r324))), (1, vr (some (hz h))), (0, vr (some (gsb G)))]) dL_law_15 rfl (Nat.le_of_ble_eq_true rfl) rfl ?_
  refine g_iconst (M := mL_law) (v := 0) dL_law_16 rfl ?_
  refine g_istore_n (M := mL_law) (L2 := [(3, vi (0 : Int32)), (2, vr (some (hz r324))), (1, vr (some (hz h))), (0, vr (some (gsb G)))]) dL_law_17 rfl (Nat.le_of_ble_eq_true rfl) rfl ?_
  exact g_weak (M := mL_law) (kc := 3 * FU) (ks := 160 * FU) (by decide) (by decide) <| g_sub (M := mL_law) (L2 := [(0, vr (some (gsb G))), (1, vr (some (hz h))), (2, vr (some (hz r324))), (3, vi (0 : Int32))]) [3, 2, 1, 0] rfl <| x_L_law_18 G FU (some (hz h)) (some (hz r324)) (0 : Int32) r325 _ hf
