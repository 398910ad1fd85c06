/-! PURE 46: the other calls keep it -/
section IW
variable {L L' : LM} {n np ng : Nat}
theorem JV_of (e : L'.1 0 8 = nI n) (hn : n ≤ 400) (I : INV L' n np ng) : JV L' np ng := by
  unfold JV nn
  rw [e, nIt (by omega)]
  exact I
/-- the PAPERS, the parties and the agreements are as they were -/
theorem INV_q (I : INV L n np ng) (E : ∀ q k, q ≠ 5 → q ≠ 18 → q ≠ 19 → q ≠ 20 → L'.1 q k = L.1 q k) (E2 : ∀ k, L'.2 16 k = L.2 16 k) (X : AX L' ng) : JV L' np ng := by
  obtain ⟨F, W, -, D, wt, w, hw⟩ := I
  have hn := W.2.1
  have F' : WF L' n np ng := WF_EqP hn ⟨fun q h1 h2 k _ => E q k (by omega) (by omega) (by omega) (by omega), fun k _ => E2 k, fun _ _ _ => E _ _ (by omega) (by omega) (by omega) (by omega)⟩ F
  obtain ⟨w1, w2, w3, w4, w5, w6, w7, w8, w9⟩ := W
  have e8 : L'.1 0 8 = nI n := by rw [E 0 8 (by omega) (by omega) (by omega) (by omega)]; exact w1
  refine JV_of e8 hn ⟨F', ⟨e8, w2, F'.nm, F'.of, ?_, w6, ?_, w8, fun g hg => ?_⟩, X, ⟨?_, fun g hg => ?_⟩, fun g hg => ?_, w, fun k => ?_⟩
  · rw [E 0 1 (by omega) (by omega) (by omega) (by omega)]; exact w5
  · rw [E 0 2 (by omega) (by omega) (by omega) (by omega)]; exact w7
  · rw [E 1 g (by omega) (by omega) (by omega) (by omega)]; exact w9 g hg
  · obtain ⟨t, t1, t2, t3⟩ := D.1
    exact ⟨t, t1, by rw [E 0 0 (by omega) (by omega) (by omega) (by omega)]; exact t2, fun x hx => by rw [E 9 x (by omega) (by omega) (by omega) (by omega)]; exact t3 x hx⟩
  · rw [E 4 g (by omega) (by omega) (by omega) (by omega)]; exact D.2 g hg
  · rw [E 3 g (by omega) (by omega) (by omega) (by omega)]; exact wt g hg
  · rw [E 17 k (by omega) (by omega) (by omega) (by omega)]; exact hw k
theorem AX_q (X : AX L ng) (e18 : ∀ k, L'.1 18 k = L.1 18 k) (e20 : ∀ k, L'.1 20 k = L.1 20 k) : AX L' ng := by
  intro g hg
  obtain ⟨c, c1, c2, c3⟩ := X g hg
  exact ⟨c, c1, by rw [e18]; exact c2, fun x hx => by rw [e20]; exact c3 x hx⟩
theorem I_article (I : INV L n np ng) (g a s : Int32) : JV (U_article L n g a s).2 np ng := by
  unfold U_article
  by_cases c1 : (arB L g a && decide (¬ s < 1) && decide (s ≤ 1000000)) = true
  · rw [if_pos c1]
    by_cases c2 : anyAb L n g = true
    · rw [if_pos c2]; exact JV_same I
    · rw [if_neg c2]
      exact INV_q I (fun q k h5 _ _ _ => by rw [LI1, if_neg (fun u => h5 u.1)]) (fun _ => rfl) (AX_q I.2.2.1 (fun k => by rw [LI1, if_neg (by omega)]) (fun k => by rw [LI1, if_neg (by omega)]))
  · rw [if_neg c1]; exact JV_same I
theorem I_tear (I : INV L n np ng) (g x : Int32) : JV (U_tear L g x).2 np ng := by
  unfold U_tear
  by_cases c1 : anB L g x = true
  · rw [if_pos c1]
    by_cases c2 : 0 ≤ L.1 20 (8 * g.toNatClampNeg + x.toNatClampNeg)
    · rw [if_pos c2]
      refine INV_q I (fun q k _ _ _ h20 => by rw [LI1, if_neg (fun u => h20 u.1)]) (fun _ => rfl) (fun g' hg => ?_)
      obtain ⟨c, d1, d2, d3⟩ := I.2.2.1 g' hg
      refine ⟨c, d1, by rw [LI1, if_neg (by omega)]; exact d2, fun y hy => ?_⟩
      rw [LI1]
      by_cases q : 20 = 20 ∧ 8 * g' + y = 8 * g.toNatClampNeg + x.toNatClampNeg
      · rw [if_pos q]; exact Or.inl rfl
      · rw [if_neg q]; exact d3 y hy
    · rw [if_neg c2]; exact JV_same I
  · rw [if_neg c1]; exact JV_same I
theorem I_write (I : INV L n np ng) (g x i : Int32) (v : Int64) : JV (U_write L g x i v).2 np ng := by
  unfold U_write
  show JV (ite _ _ _) np ng
  by_cases c1 : wrg L g x i = 0
  · rw [if_pos c1]
    exact INV_q I (fun _ _ _ _ _ _ => rfl) (fun k => by rw [LJ2, if_neg (by omega)]) (AX_q I.2.2.1 (fun _ => rfl) (fun _ => rfl))
  · rw [if_neg c1]; exact JV_same I
theorem I_copy (I : INV L n np ng) (g x i g2 y j k : Int32) : JV (U_copy L g x i g2 y j k).2 np ng := by
  unfold U_copy
  by_cases c1 : (anB L g x && anB L g2 y) = true
  · rw [if_pos c1]
    by_cases c2 : L.1 20 (8 * g.toNatClampNeg + x.toNatClampNeg) < 0
    · rw [if_pos c2]; exact JV_same I
    · rw [if_neg c2]
      by_cases c3 : 0 ≤ L.1 20 (8 * g2.toNatClampNeg + y.toNatClampNeg)
      · rw [if_pos c3]
        by_cases c4 : L.1 19 (8 * g.toNatClampNeg + x.toNatClampNeg) = L.1 19 (8 * g2.toNatClampNeg + y.toNatClampNeg)
        · rw [if_pos c4]
          by_cases c5 : (decide (¬ i < 0) && decide (¬ j < 0) && decide (¬ k < 0) && decide (i.toNatClampNeg + k.toNatClampNeg ≤ (L.1 20 (8 * g.toNatClampNeg + x.toNatClampNeg)).toNatClampNeg) && decide (j.toNatClampNeg + k.toNatClampNeg ≤ (L.1 20 (8 * g2.toNatClampNeg + y.toNatClampNeg)).toNatClampNeg)) = true
          · rw [if_pos c5]
            exact INV_q I (fun q k _ _ _ _ => by rw [gvL_1, tkL_1]) (fun k => by rw [gvL_2, if_neg (by omega), tkL_2, if_neg (by omega)]) (AX_q I.2.2.1 (fun k => by rw [gvL_1, tkL_1]) (fun k => by rw [gvL_1, tkL_1]))
          · rw [if_neg c5]; exact JV_same I
        · rw [if_neg c4]; exact JV_same I
      · rw [if_neg c3]; exact JV_same I
  · rw [if_neg c1]; exact JV_same I
theorem I_annex (I : INV L n np ng) (g w s : Int32) : JV (U_annex L g w s).2 np ng := by
  unfold U_annex
  by_cases c1 : (inR g (L.1 0 2) && decide (¬ w < 0) && decide (¬ 3 < w) && decide (s ≤ 100)) = true
  · rw [if_pos c1]
    by_cases c2 : L.1 18 g.toNatClampNeg = 8
    · rw [if_pos c2]; exact JV_same I
    · rw [if_neg c2]
      by_cases c3 : 0 ≤ s
      · rw [if_pos c3]
        simp only [Bool.and_eq_true, decide_eq_true_eq] at c1
        obtain ⟨g', hg, rfl⟩ := inG I.2.1 c1.1.1.1
        have hng := I.2.1.2.2.2.2.2.2.2.1
        obtain ⟨c, d1, d2, d3⟩ := I.2.2.1 g' hg
        rw [nIt (by omega)] at c2 ⊢
        have c8 : c < 8 := by
          rcases Nat.lt_or_ge c 8 with q | q
          · exact q
          · obtain rfl : c = 8 := by omega
            exact absurd (d2.trans (by decide)) c2
        have c3' : ¬ s < 0 := by rw [Int32.lt_iff_toInt_lt]; rw [Int32.le_iff_toInt_le] at c3; omega
        obtain ⟨S, hS, rfl⟩ := nI_of c3'
        have hS2 : S ≤ 100 := (nIle hS (b := 100) (by omega)).mp c1.2
        rw [d2, nIt (by omega), nIt (by omega), nI_1]
        refine INV_q I (fun q k _ h18 h19 h20 => by rw [zrL_1, LI1, if_neg (fun u => h20 u.1), LI1, if_neg (fun u => h19 u.1), LI1, if_neg (fun u => h18 u.1)]) (fun k => by rw [zrL_2, if_neg (by omega)]; rfl) (fun g2 hg2 => ?_)
        by_cases e : g2 = g'
        · subst e
          refine ⟨c + 1, by omega, by rw [zrL_1, LI1, if_neg (by omega), LI1, if_neg (by omega), LI1, if_pos ⟨rfl, rfl⟩], fun y hy => ?_⟩
          rw [zrL_1, LI1]
          by_cases q : y = c
          · rw [if_pos ⟨rfl, by omega⟩]; exact Or.inr ⟨S, hS2, rfl⟩
          · rw [if_neg (by omega), LI1, if_neg (by omega), LI1, if_neg (by omega)]
            exact d3 y (by omega)
        · obtain ⟨c', e1, e2, e3⟩ := I.2.2.1 g2 hg2
          refine ⟨c', e1, by rw [zrL_1, LI1, if_neg (by omega), LI1, if_neg (by omega), LI1, if_neg (by omega)]; exact e2, fun y hy => ?_⟩
          rw [zrL_1, LI1, if_neg (by omega), LI1, if_neg (by omega), LI1, if_neg (by omega)]
          exact e3 y hy
      · rw [if_neg c3]; exact JV_same I
  · rw [if_neg c1]; exact JV_same I
theorem I_party (I : INV L n np ng) : JV (U_party L np).2 (if np = 30 then np else np + 1) ng := by
  unfold U_party
  by_cases c : np = 30
  · rw [if_pos c, if_pos c]; exact JV_same I
  · rw [if_neg c, if_neg c]
    obtain ⟨F, W, X, D, wt, w, hw⟩ := I
    have hn := W.2.1
    have F1 : WF (LI L 0 1 (nI (np + 1))) n np ng := WF_EqP (L := L) hn ⟨fun q h1 h2 k _ => by rw [LI1, if_neg (by omega)], fun k _ => rfl, fun _ _ _ => by rw [LI1, if_neg (by omega)]⟩ F
    have F' : WF (LI L 0 1 (nI (np + 1))) n (np + 1) ng := by
      intro x hx
      obtain ⟨⟨a1, a2, a3⟩, b⟩ := F1 x hx
      refine ⟨⟨a1, a2, fun q => ?_⟩, b⟩
      obtain ⟨⟨p, p1, p2⟩, r⟩ := a3 q
      exact ⟨⟨p, by omega, p2⟩, r⟩
    obtain ⟨w1, w2, w3, w4, w5, w6, w7, w8, w9⟩ := W
    have e8 : (LI L 0 1 (nI (np + 1))).1 0 8 = nI n := by rw [LI1, if_neg (by omega)]; exact w1
    refine JV_of e8 hn ⟨F', ⟨e8, w2, F'.nm, F'.of, by rw [LI1, if_pos ⟨rfl, rfl⟩], by omega, by rw [LI1, if_neg (by omega)]; exact w7, w8, fun g hg => by rw [LI1, if_neg (by omega)]; exact w9 g hg⟩, AX_q X (fun k => by rw [LI1, if_neg (by omega)]) (fun k => by rw [LI1, if_neg (by omega)]), ⟨?_, fun g hg => ?_⟩, fun g hg => ?_, w, fun k => ?_⟩
    · obtain ⟨t, t1, t2, t3⟩ := D.1
      exact ⟨t, t1, by rw [LI1, if_neg (by omega)]; exact t2, fun x hx => by rw [LI1, if_neg (by omega)]; exact t3 x hx⟩
    · rw [LI1, if_neg (by omega)]; exact D.2 g hg
    · rw [LI1, if_neg (by omega)]; exact wt g hg
    · rw [LI1, if_neg (by omega)]; exact hw k
theorem I_clock (I : INV L n np ng) (d : Int32) : JV (U_clock L d).2 np ng := by
  unfold U_clock
  by_cases c : (decide (¬ d < L.1 0 0) && decide (d ≤ 73000)) = true
  · rw [if_pos c]
    rw [Bool.and_eq_true, decide_eq_true_eq, decide_eq_true_eq] at c
    obtain ⟨F, W, X, D, wt, w, hw⟩ := I
    obtain ⟨⟨t, t1, t2, t3⟩, ds⟩ := D
    have hn := W.2.1
    have F' : WF (LI L 0 0 d) n np ng := WF_EqP (L := L) hn ⟨fun q h1 h2 k _ => by rw [LI1, if_neg (by omega)], fun k _ => rfl, fun _ _ _ => by rw [LI1, if_neg (by omega)]⟩ F
    obtain ⟨w1, w2, w3, w4, w5, w6, w7, w8, w9⟩ := W
    have hd0 : ¬ d < 0 := by
      intro q
      refine c.1 ?_
      rw [t2]
      rw [Int32.lt_iff_toInt_lt] at q ⊢
      have e0 : (0 : Int32).toInt = 0 := by decide
      rw [nI_toInt (by omega)]
      omega
    obtain ⟨t', ht', rfl⟩ := nI_of hd0
    have b1 : t' ≤ 73000 := (nIle ht' (b := 73000) (by omega)).mp c.2
    have b2 : t ≤ t' := by
      have := not_lt_le.mp c.1
      rw [t2] at this
      exact (nIle (by omega) ht').mp this
    have e8 : (LI L 0 0 (nI t')).1 0 8 = nI n := by rw [LI1, if_neg (by omega)]; exact w1
    refine JV_of e8 hn ⟨F', ⟨e8, w2, F'.nm, F'.of, by rw [LI1, if_neg (by omega)]; exact w5, w6, by rw [LI1, if_neg (by omega)]; exact w7, w8, fun g hg => by rw [LI1, if_neg (by omega)]; exact w9 g hg⟩, AX_q X (fun k => by rw [LI1, if_neg (by omega)]) (fun k => by rw [LI1, if_neg (by omega)]), ⟨⟨t', b1, by rw [LI1, if_pos ⟨rfl, rfl⟩], fun x hx => ?_⟩, fun g hg => ?_⟩, fun g hg => ?_, w, fun k => ?_⟩
    · rw [LI1, if_neg (by omega)]; exact le_tr (t3 x hx) (nI_le b2 (by omega))
    · rw [LI1, if_neg (by omega)]; exact ds g hg
    · rw [LI1, if_neg (by omega)]; exact wt g hg
    · rw [LI1, if_neg (by omega)]; exact hw k
  · rw [if_neg c]; exact JV_same I
theorem I_undo (I : INV L n np ng) : JV (U_undo L n).2 np ng := by
  unfold U_undo
  cases n with
  | zero => exact JV_same I
  | succ n =>
    show JV (ite _ _ _ : Int32 × LM).2 np ng
    by_cases c : L.1 9 n = L.1 0 0
    · rw [if_pos c]
      obtain ⟨F, W, X, D, wt, w, hw⟩ := I
      have hn : n ≤ 400 := by have := W.2.1; omega
      have F' : WF (LI L 0 8 (nI n)) n np ng := WF_EqP (L := L) hn ⟨fun q h1 h2 k _ => by rw [LI1, if_neg (by omega)], fun k _ => rfl, fun _ _ _ => by rw [LI1, if_neg (by omega)]⟩ (F.mono (by omega))
      obtain ⟨w1, w2, w3, w4, w5, w6, w7, w8, w9⟩ := W
      have e8 : (LI L 0 8 (nI n)).1 0 8 = nI n := by rw [LI1, if_pos ⟨rfl, rfl⟩]
      refine JV_of e8 hn ⟨F', ⟨e8, hn, F'.nm, F'.of, by rw [LI1, if_neg (by omega)]; exact w5, w6, by rw [LI1, if_neg (by omega)]; exact w7, w8, fun g hg => by rw [LI1, if_neg (by omega)]; exact w9 g hg⟩, AX_q X (fun k => by rw [LI1, if_neg (by omega)]) (fun k => by rw [LI1, if_neg (by omega)]), ⟨?_, fun g hg => ?_⟩, fun g hg => ?_, w, fun k => ?_⟩
      · obtain ⟨t, t1, t2, t3⟩ := D.1
        exact ⟨t, t1, by rw [LI1, if_neg (by omega)]; exact t2, fun x hx => by rw [LI1, if_neg (by omega)]; exact t3 x (by omega)⟩
      · rw [LI1, if_neg (by omega)]; exact D.2 g hg
      · rw [LI1, if_neg (by omega)]; exact wt g hg
      · rw [LI1, if_neg (by omega)]; exact hw k
    · rw [if_neg c]; exact JV_same I
theorem nI_rn0 {a : Int32} {n : Nat} (hn : n < 2 ^ 31) (h1 : ¬ a < 0) (h2 : ¬ nI n < a) : ∃ j, j ≤ n ∧ a = nI j := by
  obtain ⟨j, hj, rfl⟩ := nI_of h1
  refine ⟨j, ?_, rfl⟩
  rcases Nat.lt_or_ge n j with q | q
  · exact absurd (nI_lt q hj) h2
  · exact q
theorem I_agreement (I : INV L n np ng) (a b w d : Int32) : JV (U_agreement L ng a b w d).2 np (if ng = 10 then ng else if okA a b w d = true then ng + 1 else ng) := by
  unfold U_agreement
  by_cases c : ng = 10
  · rw [if_pos c, if_pos c]; exact JV_same I
  · rw [if_neg c, if_neg c]
    by_cases ok : okA a b w d = true
    · rw [if_pos ok, if_pos ok]
      unfold okA at ok
      simp only [Bool.and_eq_true, decide_eq_true_eq] at ok
      obtain ⟨j, j1, j2, rfl⟩ := nI_rng (n := 20) (by omega) ok.1.1.1.1.1.1.1 ok.1.1.1.1.1.1.2
      obtain ⟨w', u1, rfl⟩ := nI_rn0 (n := 1000) (by omega) ok.1.1.1.2 ok.1.1.2
      obtain ⟨d', u2, rfl⟩ := nI_rn0 (n := 1000) (by omega) ok.1.2 ok.2
      rw [nIt (by omega)]
      obtain ⟨F, W, X, D, wt, w, hw⟩ := I
      have hn := W.2.1
      have hng := W.2.2.2.2.2.2.2.1
      have l1 : ∀ q k, ¬ (q = 18 ∧ k = ng) → ¬ q = 5 → ¬ (q = 4 ∧ k = ng) → ¬ (q = 3 ∧ k = ng) → ¬ (q = 2 ∧ k = ng) → ¬ (q = 1 ∧ k = ng) → ¬ (q = 0 ∧ k = 2) → (agT (agL L ng (nI j) b (nI w') (nI d')) ng 0 j).1 q k = L.1 q k := by
        intro q k h1 h2 h3 h4 h5 h6 h7
        rw [agT_1, if_neg h1, if_neg (fun u => h2 u.1), agL_1, if_neg h3, if_neg h4, if_neg h5, if_neg h6, if_neg h7]
      have l18 : (agT (agL L ng (nI j) b (nI w') (nI d')) ng 0 j).1 18 ng = nI 0 := by rw [agT_1, if_pos ⟨rfl, rfl⟩]; rfl
      have l4 : (agT (agL L ng (nI j) b (nI w') (nI d')) ng 0 j).1 4 ng = nI d' := by rw [agT_1, if_neg (by omega), if_neg (by omega), agL_1, if_pos ⟨rfl, rfl⟩]
      have l3 : (agT (agL L ng (nI j) b (nI w') (nI d')) ng 0 j).1 3 ng = nI w' := by rw [agT_1, if_neg (by omega), if_neg (by omega), agL_1, if_neg (by omega), if_pos ⟨rfl, rfl⟩]
      have lA : (agT (agL L ng (nI j) b (nI w') (nI d')) ng 0 j).1 1 ng = nI j := by rw [agT_1, if_neg (by omega), if_neg (by omega), agL_1, if_neg (by omega), if_neg (by omega), if_neg (by omega), if_pos ⟨rfl, rfl⟩]
      have l0 : (agT (agL L ng (nI j) b (nI w') (nI d')) ng 0 j).1 0 2 = nI (ng + 1) := by rw [agT_1, if_neg (by omega), if_neg (by omega), agL_1, if_neg (by omega), if_neg (by omega), if_neg (by omega), if_neg (by omega), if_pos ⟨rfl, rfl⟩]
      have l2 : (agT (agL L ng (nI j) b (nI w') (nI d')) ng 0 j).2 = L.2 := by rw [agT_2]; rfl
      generalize agT (agL L ng (nI j) b (nI w') (nI d')) ng 0 j = L' at l1 l18 l4 l3 lA l0 l2 ⊢
      have ab := F.ab
      have F1 : WF L' n np ng := WF_EqP hn ⟨fun q h1 h2 k _ => l1 q k (by omega) (by omega) (by omega) (by omega) (by omega) (by omega) (by omega), fun k _ => by rw [l2], fun x hx h9 => by
        obtain ⟨g, hg, e⟩ := ab x hx h9
        rw [e, nIt (by omega)]
        exact l1 3 g (by omega) (by omega) (by omega) (by omega) (by omega) (by omega) (by omega)⟩ F
      have F' : WF L' n np (ng + 1) := by
        intro x hx
        obtain ⟨⟨a1, a2, a3⟩, b⟩ := F1 x hx
        refine ⟨⟨a1, a2, fun q => ?_⟩, b⟩
        obtain ⟨r1, ⟨g, g1, g2⟩, r2⟩ := a3 q
        exact ⟨r1, ⟨g, by omega, g2⟩, r2⟩
      obtain ⟨w1, w2, w3, w4, w5, w6, w7, w8, w9⟩ := W
      have e8 : L'.1 0 8 = nI n := by rw [l1 0 8 (by omega) (by omega) (by omega) (by omega) (by omega) (by omega) (by omega)]; exact w1
      refine JV_of e8 hn ⟨F', ⟨e8, w2, F'.nm, F'.of, by rw [l1 0 1 (by omega) (by omega) (by omega) (by omega) (by omega) (by omega) (by omega)]; exact w5, w6, l0, by omega, fun g hg => ?_⟩, fun g hg => ?_, ⟨?_, fun g hg => ?_⟩, fun g hg => ?_, w, fun k => ?_⟩
      · by_cases e : g = ng
        · rw [e]; exact ⟨j, j2, lA⟩
        · rw [l1 1 g (by omega) (by omega) (by omega) (by omega) (by omega) (by omega) (by omega)]; exact w9 g (by omega)
      · by_cases e : g = ng
        · rw [e]; exact ⟨0, by omega, l18, fun x hx => absurd hx (Nat.not_lt_zero _)⟩
        · obtain ⟨c', c1, c2, c3⟩ := X g (by omega)
          refine ⟨c', c1, by rw [l1 18 g (by omega) (by omega) (by omega) (by omega) (by omega) (by omega) (by omega)]; exact c2, fun x hx => ?_⟩
          rw [l1 20 _ (by omega) (by omega) (by omega) (by omega) (by omega) (by omega) (by omega)]; exact c3 x hx
      · obtain ⟨t, t1, t2, t3⟩ := D.1
        exact ⟨t, t1, by rw [l1 0 0 (by omega) (by omega) (by omega) (by omega) (by omega) (by omega) (by omega)]; exact t2, fun x hx => by rw [l1 9 x (by omega) (by omega) (by omega) (by omega) (by omega) (by omega) (by omega)]; exact t3 x hx⟩
      · by_cases e : g = ng
        · rw [e]; exact ⟨d', u2, l4⟩
        · rw [l1 4 g (by omega) (by omega) (by omega) (by omega) (by omega) (by omega) (by omega)]; exact D.2 g (by omega)
      · by_cases e : g = ng
        · rw [e]; exact ⟨w', u1, l3⟩
        · rw [l1 3 g (by omega) (by omega) (by omega) (by omega) (by omega) (by omega) (by omega)]; exact wt g (by omega)
      · rw [l1 17 k (by omega) (by omega) (by omega) (by omega) (by omega) (by omega) (by omega)]; exact hw k
    · rw [if_neg ok, if_neg ok]; exact JV_same I
end IW
