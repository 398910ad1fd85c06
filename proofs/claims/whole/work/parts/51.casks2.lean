/-! PURE 22: the program's asking calls, whole -/
section CAt
variable {c : Nat} {L : LM} {n np ng : Nat} {A : Nat → Nat → Nat} {h : AH}
theorem c_agAt (C : COK c L n np ng A h) (hng : ng ≤ 10) (g : Int32) : f_X7_agreementAt c g h = some (if inR g (nI ng) = true then some (A 1 g.toNatClampNeg) else none) := by
  unfold f_X7_agreementAt
  by_cases c1 : g < 0
  · simp [c1, inR]
  · rw [if_neg c1]
    simp only [cH4 C, Option.bind_some]
    by_cases c2 : nI ng ≤ g
    · simp [c2, inR]
    · rw [if_neg c2]
      obtain ⟨x, hx, rfl⟩ := inR_of (x := g) (n := ng) (by omega) (by simp [inR, c1, c2])
      simp only [cH0 C, cal1 C, cl1 C hng hx, Option.bind_some, inR_nI (show x < 2 ^ 31 by omega) (show ng < 2 ^ 31 by omega), nIt (show x < 1000 by omega)]
      rw [if_neg (nI_ge (show x < 10 by omega) (by omega)), if_pos (decide_eq_true hx)]
theorem c_isParty (C : COK c L n np ng A h) (p : Int32) : f_X7_isParty c p h = some (inR p (nI np)) := by
  unfold f_X7_isParty inR
  by_cases c1 : p < 0
  · simp [c1]
  · simp only [cH5 C, Option.bind_some]
    by_cases c2 : nI np ≤ p <;> simp [c1, c2]
theorem c_isFrom (a b x : Int32) (h : AH) : f_X7_isFrom a b x h = some (decide (¬ x < a) && decide (¬ b < x)) := by
  unfold f_X7_isFrom
  by_cases c1 : x < a
  · simp [c1]
  · by_cases c2 : b < x <;> simp [c1, c2]
theorem c_isDay (d : Int32) (h : AH) : f_X7_isDay d h = some (dyB d) := by
  unfold f_X7_isDay dyB
  simp only [c_isFrom, Option.bind_some]
theorem c_hasArt (C : COK c L n np ng A h) {g : Nat} (hg : g < ng) (a : Int32) : f_X0_hasArticle (A 1 g) a h = some (inR a (L.1 1 g)) := by
  obtain ⟨-, -, -, ⟨j, j1, j2, j3, j4⟩, -⟩ := (C.2.2.2.1 g hg).2
  unfold f_X0_hasArticle inR
  rw [j2]
  by_cases c1 : a < 0
  · simp [c1]
  · simp only [cG4 C hg, al_k j3 (by decide), Option.bind_some]
    by_cases c2 : nI j ≤ a <;> simp [c1, c2]
theorem arB_eq (W : MW L n np ng) (g a : Int32) : arB L g a = (inR g (nI ng) && inR a (L.1 1 g.toNatClampNeg)) := by
  unfold arB
  rw [W.2.2.2.2.2.2.1]
theorem asB_eq (W : MW L n np ng) (p q g a : Int32) : asB L p q g a = (inR p (nI np) && inR q (nI np) && decide (¬ p = q) && arB L g a) := by
  unfold asB
  rw [W.2.2.2.2.1]
theorem c_settle7 (C : COK c L n np ng A h) (F : WF L n np ng) (W : MW L n np ng) (T : TM) (p q g a d k : Int32) : ∃ T', f_X7_settle c p q g a d k (pS c T h) = some (asB L p q g a && dyB d && dyB k, pS c T' h) ∧ ((asB L p q g a && dyB d && dyB k) = true → STD L n np A p q g.toNatClampNeg a.toNatClampNeg d k T') := by
  obtain ⟨w1, hn, w3, w4, w5, hnp, w7, hng, w9⟩ := id W
  have C' := COK_pS C T
  unfold f_X7_settle
  simp only [cck7 C', c_agAt C' hng, c_isParty C', c_isDay, Option.bind_some, b2i_z]
  rw [asB_eq W]
  cases c1 : inR p (nI np)
  · exact ⟨T, by simp, by simp⟩
  · cases c2 : inR q (nI np)
    · exact ⟨T, by simp, by simp⟩
    · by_cases c3 : p = q
      · exact ⟨T, by simp [c3], by simp [c3]⟩
      · rw [arB_eq W]
        cases c4 : inR g (nI ng)
        · exact ⟨T, by simp [c3], by simp⟩
        · obtain ⟨g', hg, rfl⟩ := inR_of (by omega) c4
          simp only [if_true, c3, if_false, nIt (show g' < 1000 by omega), cckG C' hg, c_hasArt C' hg, Option.bind_some, b2i_z]
          cases c5 : inR a (L.1 1 g')
          · exact ⟨T, by simp, by simp⟩
          · cases c6 : dyB d
            · exact ⟨T, by simp, by simp⟩
            · cases c7 : dyB k
              · exact ⟨T, by simp, by simp⟩
              · obtain ⟨p', hp, rfl⟩ := inR_of (by omega) c1
                obtain ⟨q', hq, rfl⟩ := inR_of (by omega) c2
                obtain ⟨g2, a', -, hg2, ha, e1, rfl, hag⟩ := arB_of W (g := nI g') (a := a) (by rw [arB_eq W, c4, nIt (by omega), c5]; rfl)
                have := nI_inj (by omega) (by omega) e1
                subst this
                obtain ⟨T', s1, s2⟩ := c_settle C F hn hnp hng T hp hq hg ha hag d k
                refine ⟨T', ?_, fun _ => ?_⟩
                · simp [cH3 C', cH1 C', cck2 C', s1]
                · rw [nIt (show a' < 1000 by omega)]; exact s2
theorem c_between (C : COK c L n np ng A h) (F : WF L n np ng) (W : MW L n np ng) (T : TM) (p q g a d k : Int32) : ∃ T', f_X7_between c p q g a d k (pS c T h) = some (if (asB L p q g a && dyB d && dyB k) = true then (ans L n np p q g a d k).1 else -1, pS c T' h) := by
  obtain ⟨T', s1, s2⟩ := c_settle7 C F W T p q g a d k
  refine ⟨T', ?_⟩
  unfold f_X7_between
  simp only [cck7 (COK_pS C T), s1, Option.bind_some, b2i_z]
  by_cases z : (asB L p q g a && dyB d && dyB k) = true
  · have e := (STD_ans (s2 z)).1
    rw [z, if_neg (by simp), if_pos rfl]
    simp only [cH3 (COK_pS C T'), sgI6 C.1, e, Option.bind_some]
    rfl
  · rw [bf z]
    simp
theorem c_words (C : COK c L n np ng A h) (F : WF L n np ng) (W : MW L n np ng) (T : TM) (p q g a d k : Int32) : ∃ T', f_X7_words c p q g a d k (pS c T h) = some (if (asB L p q g a && dyB d && dyB k) = true then (ans L n np p q g a d k).2 else -1, pS c T' h) := by
  obtain ⟨T', s1, s2⟩ := c_settle7 C F W T p q g a d k
  refine ⟨T', ?_⟩
  unfold f_X7_words
  simp only [cck7 (COK_pS C T), s1, Option.bind_some, b2i_z]
  by_cases z : (asB L p q g a && dyB d && dyB k) = true
  · have e := (STD_ans (s2 z)).2
    rw [z, if_neg (by simp), if_pos rfl]
    simp only [cH3 (COK_pS C T'), sgI6 C.1, e, Option.bind_some]
    rfl
  · rw [bf z]
    simp
theorem c_why (C : COK c L n np ng A h) (F : WF L n np ng) (W : MW L n np ng) (T : TM) (p q g a d k i : Int32) : ∃ T', f_X7_why c p q g a d k i (pS c T h) = some (if (asB L p q g a && dyB d && dyB k) = true then nth (fndI L n np p q g a d k (fun _ => false)).2.2 i 0 n else -1, pS c T' h) := by
  obtain ⟨T', s1, s2⟩ := c_settle7 C F W T p q g a d k
  unfold f_X7_why
  simp only [cck7 (COK_pS C T), s1, Option.bind_some, b2i_z]
  by_cases z : (asB L p q g a && dyB d && dyB k) = true
  · obtain ⟨T2, e⟩ := c_reason C F W.2.1 W.2.2.2.2.2.1 T' (s2 z) i
    refine ⟨T2, ?_⟩
    rw [z, if_neg (by simp), if_pos rfl]
    simp only [cH3 (COK_pS C T'), cH1 (COK_pS C T'), cck2 (COK_pS C T'), e, Option.bind_some]
    rfl
  · refine ⟨T', ?_⟩
    rw [bf z]
    simp
theorem c_member (C : COK c L n np ng A h) (F : WF L n np ng) (W : MW L n np ng) (T : TM) (p g d k : Int32) : ∃ T', f_X7_member c p g d k (pS c T h) = some (if (inR p (L.1 0 1) && inR g (L.1 0 2) && dyB d && dyB k) = true then oi (mof L n p g d k) else -1, pS c T' h) := by
  obtain ⟨w1, hn, w3, w4, w5, hnp, w7, hng, w9⟩ := id W
  have C' := COK_pS C T
  unfold f_X7_member
  simp only [cck7 C', c_agAt C' hng, c_isParty C', c_isDay, Option.bind_some, b2i_z, w5, w7]
  cases c1 : inR p (nI np)
  · exact ⟨T, by simp⟩
  · cases c4 : inR g (nI ng)
    · exact ⟨T, by simp⟩
    · cases c6 : dyB d
      · exact ⟨T, by simp⟩
      · cases c7 : dyB k
        · exact ⟨T, by simp⟩
        · obtain ⟨p', hp, rfl⟩ := inR_of (by omega) c1
          obtain ⟨g', hg, rfl⟩ := inR_of (by omega) c4
          obtain ⟨m, m1, m2⟩ := c_fill_4 C F hn hnp hng T hg d k
          have C2 := COK_pS C (RT 4 T m (nI (many L n np (nI g') d k)))
          refine ⟨RT 4 T m (nI (many L n np (nI g') d k)), ?_⟩
          have e5 : (RT 4 T m (nI (many L n np (nI g') d k))).2 5 = m := RT2 4 _ _ _
          simp [cH2 C', cH1 C', cck5 C', nIt (show g' < 1000 by omega), m2, cH2 C2, cck5 C2, c_rat_4 C, inR_nI (show p' < 2 ^ 31 by omega) (show 30 < 2 ^ 31 by omega), show p' < 30 by omega, nIt (show p' < 1000 by omega), e5, m1 p' (by omega), c_num C2 (fun x e => mof_lt e)]
theorem c_members (C : COK c L n np ng A h) (F : WF L n np ng) (W : MW L n np ng) (T : TM) (g d k : Int32) : ∃ T', f_X7_members c g d k (pS c T h) = some (if (inR g (L.1 0 2) && dyB d && dyB k) = true then nI (many L n np g d k) else -1, pS c T' h) := by
  obtain ⟨w1, hn, w3, w4, w5, hnp, w7, hng, w9⟩ := id W
  have C' := COK_pS C T
  unfold f_X7_members
  simp only [cck7 C', c_agAt C' hng, c_isDay, Option.bind_some, b2i_z, w7]
  cases c4 : inR g (nI ng)
  · exact ⟨T, by simp⟩
  · cases c6 : dyB d
    · exact ⟨T, by simp⟩
    · cases c7 : dyB k
      · exact ⟨T, by simp⟩
      · obtain ⟨g', hg, rfl⟩ := inR_of (by omega) c4
        obtain ⟨m, m1, m2⟩ := c_fill_4 C F hn hnp hng T hg d k
        have C2 := COK_pS C (RT 4 T m (nI (many L n np (nI g') d k)))
        refine ⟨RT 4 T m (nI (many L n np (nI g') d k)), ?_⟩
        simp [cH2 C', cH1 C', cck5 C', nIt (show g' < 1000 by omega), m2, cH2 C2, sgI4 C.1, RT1]
theorem nthN_neg (p : Nat → Bool) {i : Int32} (hi : i < 0) : ∀ m j, nthN p i j m = none := by
  intro m j
  cases m with
  | zero => rfl
  | succ m => unfold nthN; rw [if_pos hi]
theorem c_has (C : COK c L n np ng A h) (F : WF L n np ng) (W : MW L n np ng) (T : TM) (p g d k i : Int32) : ∃ T', f_X7_has c p g d k i (pS c T h) = some (if (inR p (L.1 0 1) && inR g (L.1 0 2) && dyB d && dyB k && decide (0 ≤ i)) = true then (match mof L n p g d k with
    | none => -1
    | some m => nth (fun x => hasB L n m x d k) i 0 n) else -1, pS c T' h) := by
  obtain ⟨w1, hn, w3, w4, w5, hnp, w7, hng, w9⟩ := id W
  have C' := COK_pS C T
  unfold f_X7_has
  simp only [cck7 C', c_agAt C' hng, c_isParty C', c_isDay, Option.bind_some, b2i_z, w5, w7]
  cases c1 : inR p (nI np)
  · exact ⟨T, by simp⟩
  · cases c4 : inR g (nI ng)
    · exact ⟨T, by simp⟩
    · cases c6 : dyB d
      · exact ⟨T, by simp⟩
      · cases c7 : dyB k
        · exact ⟨T, by simp⟩
        · obtain ⟨p', hp, rfl⟩ := inR_of (by omega) c1
          obtain ⟨g', hg, rfl⟩ := inR_of (by omega) c4
          obtain ⟨m, m1, m2⟩ := c_fill_4 C F hn hnp hng T hg d k
          have C2 := COK_pS C (RT 4 T m (nI (many L n np (nI g') d k)))
          refine ⟨RT 4 T m (nI (many L n np (nI g') d k)), ?_⟩
          have e5 : (RT 4 T m (nI (many L n np (nI g') d k))).2 5 = m := RT2 4 _ _ _
          have e6 : f_X4_nthOfMember (c + 2) ((mof L n (nI p') (nI g') d k).map (A 0)) d k i (pS c (RT 4 T m (nI (many L n np (nI g') d k))) h) = some ((match mof L n (nI p') (nI g') d k with
            | none => none
            | some m => nthN (fun x => hasB L n m x d k) i 0 n).map (A 0)) := by
            cases e : mof L n (nI p') (nI g') d k with
            | none => exact c_nth0 C2 F hn d k i
            | some m => exact c_nth C2 F hn (mof_lt e) d k i
          have e7 : ∀ x, (match mof L n (nI p') (nI g') d k with
            | none => none
            | some m => nthN (fun x => hasB L n m x d k) i 0 n) = some x → x < n := by
            intro x q
            cases e : mof L n (nI p') (nI g') d k with
            | none => rw [e] at q; cases q
            | some m => rw [e] at q; have := nthN_lt _ _ _ _ _ q; omega
          simp [cH2 C', cH1 C', cck5 C', nIt (show g' < 1000 by omega), m2, cH2 C2, cH1 C2, cck5 C2, cck4 C2, c_rat_4 C, inR_nI (show p' < 2 ^ 31 by omega) (show 30 < 2 ^ 31 by omega), show p' < 30 by omega, nIt (show p' < 1000 by omega), e5, m1 p' (by omega), e6, c_num C2 e7]
          cases e : mof L n (nI p') (nI g') d k with
          | none => simp [oi]
          | some m =>
            by_cases z : 0 ≤ i
            · simp [z, nth_nthN]
            · have : i < 0 := by rw [Int32.lt_iff_toInt_lt]; rw [Int32.le_iff_toInt_le] at z; omega
              simp [z, nthN_neg _ this, oi]
theorem c_paper (C : COK c L n np ng A h) (F : WF L n np ng) (W : MW L n np ng) (x w : Int32) : f_X7_paper c x w h = some (if inR x (L.1 0 8) = true then dtl L x.toNatClampNeg w else -1) := by
  obtain ⟨w1, hn, w3, w4, w5, hnp, w7, hng, w9⟩ := id W
  unfold f_X7_paper
  simp only [cH1 C, cck4 C, c_atv C hn, Option.bind_some, w1]
  by_cases z : inR x (nI n) = true
  · obtain ⟨x', hx, rfl⟩ := inR_of (by omega) z
    rw [if_pos z, nIt (by omega), if_pos z]
    simp [cckP C hx, c_det C F hn hng hx]
  · rw [if_neg z, if_neg z]
    simp
theorem c_noted (C : COK c L n np ng A h) (F : WF L n np ng) (W : MW L n np ng) (x : Int32) : f_X7_noted c x h = some (if inR x (L.1 0 8) = true then (if L.1 6 x.toNatClampNeg = 9 then L.2 16 x.toNatClampNeg else 0) else 0) := by
  obtain ⟨w1, hn, w3, w4, w5, hnp, w7, hng, w9⟩ := id W
  unfold f_X7_noted
  simp only [cH1 C, cck4 C, c_atv C hn, Option.bind_some, w1]
  by_cases z : inR x (nI n) = true
  · obtain ⟨x', hx, rfl⟩ := inR_of (by omega) z
    rw [if_pos z, nIt (by omega), if_pos z, if_neg (by simp)]
    simp only [cP11 C hx, Option.bind_some]
    by_cases k : L.1 6 x' = 9
    · rw [if_pos k]
    · obtain ⟨⟨-, -, h3⟩, -⟩ := F x' hx
      rw [if_neg k, (h3 k).2.2]
  · rw [if_neg z, if_neg z]
    simp
theorem c_count (C : COK c L n np ng A h) (W : MW L n np ng) (w : Int32) : f_X7_count c w h = some (cnt L w) := by
  obtain ⟨w1, hn, w3, w4, w5, hnp, w7, hng, w9⟩ := id W
  unfold f_X7_count cnt
  simp only [cck7 C, cH1 C, cH4 C, cH5 C, cH6 C, cR1 C, c_agAt C hng, Option.bind_some, w1, w5, w7]
  by_cases c0 : w = 0
  · subst c0; rw [if_pos rfl, if_neg (by decide), if_pos rfl]
  by_cases c1 : w = 1
  · subst c1; rw [if_neg (by decide), if_pos rfl, if_neg (by decide), if_neg (by decide), if_pos rfl]
  by_cases c2 : w = 2
  · subst c2; rw [if_neg (by decide), if_neg (by decide), if_pos rfl, if_neg (by decide), if_neg (by decide), if_neg (by decide), if_pos rfl]
  by_cases c3 : w = 3
  · subst c3; rw [if_neg (by decide), if_neg (by decide), if_neg (by decide), if_pos rfl, if_neg (by decide), if_neg (by decide), if_neg (by decide), if_neg (by decide), if_pos rfl]
  simp only [c0, c1, c2, c3, if_false]
  by_cases c10 : 10 ≤ w
  · rw [if_pos c10, if_pos c10]
    by_cases z : inR (w / 10 - 1) (nI ng) = true
    · obtain ⟨g, hg, e⟩ := inR_of (by omega) z
      obtain ⟨-, -, -, ⟨j, j1, j2, j3, j4⟩, -⟩ := (C.2.2.2.1 g hg).2
      rw [if_pos z, if_pos z, if_neg (by simp), e, nIt (by omega)]
      simp only [cckG C hg, Option.bind_some]
      unfold f_X0_detail
      simp only [cG1 C hg, cG2 C hg, cG3 C hg, cG6 C hg, cG4 C hg, al_k j3 (by decide), Option.bind_some, j2]
      by_cases q0 : w - w / 10 * 10 = 0
      · simp [q0]
      by_cases q1 : w - w / 10 * 10 = 1
      · simp [q1]
      by_cases q2 : w - w / 10 * 10 = 2
      · simp [q2]
      by_cases q3 : w - w / 10 * 10 = 3
      · simp [q3]
      by_cases q4 : w - w / 10 * 10 = 4
      · simp [q4]
      simp [q0, q1, q2, q3, q4]
    · rw [if_neg z, if_neg z]
      simp
  · rw [if_neg c10, if_neg c10]
end CAt
