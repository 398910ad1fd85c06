/-! PURE 19: settle -/
section CSe
variable {c : Nat} {L : LM} {n np ng : Nat} {A : Nat → Nat → Nat} {h : AH}
theorem STD_RD {p q : Int32} {g' a' : Nat} {d k : Int32} {T : TM} (h6 : T.1 6 6 = L.1 2 g') (h8 : ∀ x, x < 30 → T.2 8 x = (mof L n (nI x) (nI g') d k).map (A 0)) (r : RD T 0 0 none none none none none) (hno : mof L n p (nI g') d k = none ∨ mof L n q (nI g') d k = none ∨ ¬ L.1 2 g' ≤ nI (many L n np (nI g') d k)) : STD L n np A p q g' a' d k T := by
  refine ⟨h6, h8, ?_⟩
  cases c1 : mof L n p (nI g') d k with
  | none => exact r
  | some m =>
    cases c2 : mof L n q (nI g') d k with
    | none => exact r
    | some m' =>
      simp only
      rcases hno with e | e | e
      · rw [c1] at e; cases e
      · rw [c2] at e; cases e
      · rw [if_neg e]; exact r
theorem c_settle (C : COK c L n np ng A h) (F : WF L n np ng) (hn : n ≤ 400) (hnp : np ≤ 30) (hng : ng ≤ 10) (T : TM) {p' q' g' a' : Nat} (hp : p' < np) (hq : q' < np) (hg : g' < ng) (ha : a' < 20) (hag : nI a' < L.1 1 g') (d k : Int32) : ∃ T', f_X2_settle (c + 6) (some (c + 2)) (nI p') (nI q') (some (A 1 g')) (nI a') d k (pS c T h) = some (pS c T' h) ∧ STD L n np A (nI p') (nI q') g' a' d k T' := by
  unfold f_X2_settle f_X2_forget
  simp only [sck6 C.1, spI6 C.1, spR6 C.1 _ _ _ (show fx 6 7 = none from rfl), spR6 C.1 _ _ _ (show fx 6 8 = none from rfl), spR6 C.1 _ _ _ (show fx 6 9 = none from rfl), spR6 C.1 _ _ _ (show fx 6 10 = none from rfl), spR6 C.1 _ _ _ (show fx 6 11 = none from rfl), sgR6 C.1, sfx, fx, sck7 C.1, Option.bind_some]
  obtain ⟨mm, m1, m2⟩ := c_fill_7 C F hn hnp hng (TR (TR (TR (TR (TR (TI (TI T 6 4 0) 6 5 0) 6 7 none) 6 8 none) 6 9 none) 6 10 none) 6 11 none) hg d k
  simp only [m2, Option.bind_some]
  have CG := fun T => cG1 (COK_pS C T) hg
  simp only [CG, spI6 C.1, sgR6 C.1, sfx, fx, sck7 C.1, c_rat_7 C, Option.bind_some, inR_nI (show p' < 2 ^ 31 by omega) (show 30 < 2 ^ 31 by omega), inR_nI (show q' < 2 ^ 31 by omega) (show 30 < 2 ^ 31 by omega), nIt (show p' < 1000 by omega), nIt (show q' < 1000 by omega)]
  generalize e1 : TI (RT 7 (TR (TR (TR (TR (TR (TI (TI T 6 4 0) 6 5 0) 6 7 none) 6 8 none) 6 9 none) 6 10 none) 6 11 none) mm (nI (many L n np (nI g') d k))) 6 6 (L.1 2 g') = T1
  have t1 : RD T1 0 0 none none none none none := by
    subst e1
    simp [RD, TI1, TI2, TR1, TR2, RT, u2]
  have t2 : T1.1 6 6 = L.1 2 g' := by subst e1; simp [TI1]
  have t3 : T1.1 7 1 = nI (many L n np (nI g') d k) := by
    subst e1
    simp [TI1, RT, u2]
  have t4 : ∀ x, x < 30 → T1.2 8 x = (mof L n (nI x) (nI g') d k).map (A 0) := by
    intro x hx
    rw [← m1 x hx, ← e1]
    simp [TI2, RT]
  clear e1 m1 m2
  rw [decide_eq_true (show p' < 30 by omega), decide_eq_true (show q' < 30 by omega)]
  simp only [if_true, t4 p' (by omega), t4 q' (by omega)]
  cases c1 : mof L n (nI p') (nI g') d k with
  | none =>
    exact ⟨T1, rfl, STD_RD t2 t4 t1 (Or.inl c1)⟩
  | some m =>
    have hm := mof_lt c1
    rw [if_neg (by simp)]
    cases c2 : mof L n (nI q') (nI g') d k with
    | none =>
      exact ⟨T1, rfl, STD_RD t2 t4 t1 (Or.inr (Or.inl c2))⟩
    | some m' =>
      have hm' := mof_lt c2
      rw [if_neg (by simp)]
      simp only [sgI7 C.1, sgI6 C.1, t2, t3, Option.bind_some]
      by_cases c3 : L.1 2 g' ≤ nI (many L n np (nI g') d k)
      · rw [if_pos c3]
        obtain ⟨w1, w1a, w1b⟩ := c_sf_9 C F hn T1 hm d k
        simp only [sck9 C.1, Option.map_some, w1b, Option.bind_some, sgR6 C.1, sfx, fx, sck7 C.1, c_rat_7 C, inR_nI (show q' < 2 ^ 31 by omega) (show 30 < 2 ^ 31 by omega), nIt (show q' < 1000 by omega), sck11 C.1]
        rw [decide_eq_true (show q' < 30 by omega)]
        have t5 : (ST 9 T1 w1 (some (A 0 m))).2 8 q' = some (A 0 m') := by
          rw [ST2o 9 T1 _ _ (by decide), t4 q' (by omega), c2]
          rfl
        simp only [t5, if_true]
        obtain ⟨w2, w2a, w2b⟩ := c_sf_11 C F hn (ST 9 T1 w1 (some (A 0 m))) hm' d k
        simp only [w2b, Option.bind_some, sck6 C.1]
        generalize e3 : ST 11 (ST 9 T1 w1 (some (A 0 m))) w2 (some (A 0 m')) = T3
        have S : SD T3 L n m m' d k := by
          subst e3
          refine ⟨fun x hx => ?_, fun x hx => ?_⟩
          · rw [ST1o 11 _ _ _ (by decide), ST1]; exact w1a x hx
          · rw [ST1]; exact w2a x hx
        have u1 : RD T3 0 0 none none none none none := by
          subst e3
          unfold RD
          rw [ST1o 11 _ _ _ (show 6 ≠ 11 + 1 by decide), ST1o 9 _ _ _ (show 6 ≠ 9 + 1 by decide), ST2o 11 _ _ _ (show 6 ≠ 11 by decide), ST2o 9 _ _ _ (show 6 ≠ 9 by decide)]
          exact t1
        have u2' : T3.1 6 6 = L.1 2 g' := by
          subst e3
          rw [ST1o 11 _ _ _ (show 6 ≠ 11 + 1 by decide), ST1o 9 _ _ _ (show 6 ≠ 9 + 1 by decide)]
          exact t2
        have u3 : ∀ x, x < 30 → T3.2 8 x = (mof L n (nI x) (nI g') d k).map (A 0) := by
          subst e3
          rw [ST2o 11 _ _ _ (show 8 ≠ 11 by decide), ST2o 9 _ _ _ (show 8 ≠ 9 by decide)]
          exact t4
        have u4 : T3.2 9 1 = some (A 0 m) := by
          subst e3
          rw [ST2o 11 _ _ _ (show 9 ≠ 11 by decide), ST2]
        have u5 : T3.2 11 1 = some (A 0 m') := by
          subst e3
          rw [ST2]
        clear e3 w1b w2b t5 w1a w2a
        obtain ⟨x4, x5, x7, x8, x9, x10, x11⟩ := u1
        have fin : ∀ T' : TM, T'.1 6 6 = T3.1 6 6 → T'.2 8 = T3.2 8 → T'.2 9 = T3.2 9 → T'.2 11 = T3.2 11 → BND L n A m m' g' a' d k T' → STD L n np A (nI p') (nI q') g' a' d k T' := by
          intro T' y1 y2 y3 y4 y5
          refine ⟨by rw [y1, u2'], fun x hx => by rw [y2]; exact u3 x hx, ?_⟩
          rw [c1, c2]
          simp only
          rw [if_pos c3]
          exact ⟨by rw [y3, u4], by rw [y4, u5], y5⟩
        rw [c_fso C F hn T3 S x7]
        simp only [Option.bind_some, sgR6 C.1, sfx, fx]
        cases c4 : mnO (stg L n m m' d k) (stg L n m' m d k) with
        | some o =>
          have ho : o < n := by
            have := mnO_fst (stgB L n m m' d k) (stgB L n m' m d k) n
            have e : mnO (stg L n m m' d k) (stg L n m' m d k) = fstF (fun x => stgB L n m m' d k x || stgB L n m' m d k x) 0 n := this
            rw [e] at c4
            have := (fstF_some _ _ _ _ c4).2.1
            omega
          have C4 := COK_pS C (TR T3 6 7 (some (A 0 o)))
          simp only [Option.map_some, TR2]
          rw [if_neg (by simp)]
          simp only [cP6 C4 ho, Option.bind_some, spR6 C.1 _ _ _ (show fx 6 8 = none from rfl), and_self, if_true]
          refine ⟨_, rfl, fin _ rfl ?_ ?_ ?_ ?_⟩
          · funext y; simp [TR2]
          · funext y; simp [TR2]
          · funext y; simp [TR2]
          · unfold BND
            rw [c4]
            simp [RD, TR1, TR2, x4, x5, x9, x10, x11]
        | none =>
          simp only [Option.map_none]
          rw [TR_self x7]
          simp only [x7, if_true, sck6 C.1, c_fr C hn T3 S (nI a') x8, Option.bind_some, sgR6 C.1, sfx, fx]
          cases c5 : rsv L n m m' (nI a') d k with
          | some r =>
            have hr : r < n ∧ L.1 6 r = 3 := by
              obtain ⟨r1, r2, -⟩ := lstF_some _ _ _ c5
              simp only [rsB, Bool.and_eq_true, decide_eq_true_eq] at r2
              exact ⟨r1, r2.1.1⟩
            simp only [Option.map_some, TR2]
            rw [if_neg (by simp)]
            rw [c_srv C F hn (TR T3 6 8 (some (A 0 r))) hm hm' (SD_TR S _ _ _) hr.1 hr.2 (by rw [TR2]; simp [x7]) (by rw [TR2]; simp) (fun _ => false)]
            refine ⟨_, rfl, fin _ ?_ ?_ ?_ ?_ ?_⟩
            · simp [TI1, TR1]
            · funext y; simp [TR2, TI2]
            · funext y; simp [TR2, TI2]
            · funext y; simp [TR2, TI2]
            · unfold BND
              rw [c4, c5]
              simp [RD, TR1, TR2, TI1, TI2, x9, x10, x11]
          | none =>
            simp only [Option.map_none]
            rw [TR_self x8]
            simp only [x8, if_true, sck6 C.1, c_fc C F hn hng T3 S hg (nI a') x9, Option.bind_some, sgR6 C.1, sfx, fx]
            unfold f_X2_settle_171 f_X2_settle_199
            cases c6 : chg L n m m' (nI g') (nI a') d k with
            | none =>
              have CW := fun T => c_wordsOf (COK_pS C T) hg hag ha
              have CK := fun T => cckG (COK_pS C T) hg
              simp only [TC, x9, if_true, spI6 C.1, sgR6 C.1, sfx, fx, TI2, CK, CW, Option.bind_some]
              refine ⟨_, rfl, fin _ ?_ rfl rfl rfl ?_⟩
              · simp [TI1]
              · unfold BND
                rw [c4, c5, c6]
                simp [RD, TI1, TI2, x7, x8, x9, x10, x11]
            | some x =>
              have hx : x < n := (lstF_some _ _ _ c6).1
              have CP := fun T => cP9 (COK_pS C T) hx
              simp only [TC_9, spI6 C.1, sgR6 C.1, sfx, fx, TI2, Option.bind_some]
              rw [if_neg (by simp)]
              rw [if_neg (by simp)]
              simp only [CP, Option.bind_some]
              refine ⟨_, rfl, fin _ ?_ ?_ ?_ ?_ ?_⟩
              · simp [TI1, TC, TR1]
              · funext y; simp [TI2, TC, TR2]
              · funext y; simp [TI2, TC, TR2]
              · funext y; simp [TI2, TC, TR2]
              · unfold BND
                rw [c4, c5, c6]
                simp [RD, TI1, TI2, TC, TR1, TR2, x7, x8]
      · rw [if_neg c3]
        exact ⟨T1, rfl, STD_RD t2 t4 t1 (Or.inr (Or.inr c3))⟩
end CSe
