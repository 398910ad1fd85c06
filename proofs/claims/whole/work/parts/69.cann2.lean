/-! PURE 40: tear, write, read, size, copy -/
section AN
variable {c : Nat} {L : LM} {n np ng : Nat} {A : Nat → Nat → Nat} {h : AH}
theorem c_anx (C : COK c L n np ng A h) (W : MW L n np ng) {g x : Int32} (q : anB L g x = true) : ∃ g' x' m, g' < ng ∧ g' < 10 ∧ x' < m ∧ m ≤ 8 ∧ L.1 18 g' = nI m ∧ g = nI g' ∧ x = nI x' ∧ g.toNatClampNeg = g' ∧ x.toNatClampNeg = x' ∧ XOK L A h (8 * g' + x') ∧ c + 37 ≤ A 4 (8 * g' + x') := by
  obtain ⟨w1, hn, w3, w4, w5, hnp, w7, hng, w9⟩ := id W
  unfold anB at q
  rw [Bool.and_eq_true, w7] at q
  obtain ⟨g', hg, rfl⟩ := inR_of (by omega) q.1
  obtain ⟨m, m1, m2, m3, m4⟩ := C.an hg
  have q2 := q.2
  rw [nIt (by omega), m2] at q2
  obtain ⟨x', hx, rfl⟩ := inR_of (by omega) q2
  exact ⟨g', x', m, hg, by omega, hx, m1, m2, rfl, rfl, nIt (by omega), nIt (by omega), (m4 x' hx).2, (C.2.2.2.2.1 4 _ (C.v4 hg m2 m1 hx)).1⟩
theorem c_an5 (C : COK c L n np ng A h) {g x m s : Nat} (hg : g < ng) (hx : x < m) (hm : m ≤ 8) (em : L.1 18 g = nI m) (hs : s ≤ 100) (e : L.1 20 (8 * g + x) = nI s) : c + 37 ≤ A 5 (8 * g + x) := (C.2.2.2.2.1 5 _ (C.v5 hg em hm hx (by rw [e]; exact nI_m1 (by omega)))).1
theorem OUT_ck {L' : LM} {A' : Nat → Nat → Nat} {h' : AH} (hn : n ≤ 400) (C : COK c L' n np ng A' h') (e : L'.1 0 8 = nI n) (k : KEP c h h') : OUT c np ng h L' h' := by
  refine ⟨A', ?_, k⟩
  have : nn L' = n := by
    unfold nn
    rw [e]
    exact nIt (by omega)
  rw [this]
  exact C
theorem KEP_R {a k : Nat} {v : Option Nat} (ha : c + 37 ≤ a) : KEP c h (sR h a k v) := ⟨Nat.le_refl _, fun b _ b2 => ⟨rfl, fun _ => rfl, fun _ => rfl, fun j => by rw [hR_sR, if_neg (by omega)]⟩⟩
theorem KEP_J {a k : Nat} {v : Int64} (ha : c + 37 ≤ a) : KEP c h (sJ h a k v) := ⟨Nat.le_refl _, fun b _ b2 => ⟨rfl, fun _ => rfl, fun j => by rw [hJ_sJ, if_neg (by omega)], fun _ => rfl⟩⟩
theorem nI_0le (s : Nat) (hs : s ≤ 100) : (0 : Int32) ≤ nI s := by rw [← nI_0]; exact nI_le (by omega) (by omega)
theorem m1_0le : ¬ (0 : Int32) ≤ -1 := by decide
theorem c_tear (C : COK c L n np ng A h) (F : WF L n np ng) (W : MW L n np ng) (g x : Int32) : ∃ h', f_X7_tear c g x h = some ((U_tear L g x).1, h') ∧ OUT c np ng h (U_tear L g x).2 h' := by
  unfold f_X7_tear U_tear
  simp only [cck7 C, c_anAt C W, Option.bind_some]
  by_cases q : anB L g x = true
  · obtain ⟨g', x', m, hg, hg10, hx, hm, em, rfl, rfl, t1, t2, ⟨X1, X2, X3⟩, lo⟩ := c_anx C W q
    simp only [q, if_true, t1, t2, gR_k X1, Option.bind_some]
    rw [if_neg (by simp)]
    rcases X3 with ⟨e, r⟩ | ⟨s, hs, e, r, -, -⟩
    · refine ⟨h, by rw [r, e]; simp [m1_0le], ?_⟩
      rw [e, if_neg m1_0le]
      exact OUT_same C W
    · refine ⟨sR h (A 4 (8 * g' + x')) 1 none, by rw [r, e, pR_k X1]; simp [nI_0le s hs], ?_⟩
      rw [e, if_pos (nI_0le s hs)]
      refine OUT_ck W.2.1 (A' := A) (COK_ann (L' := LI L 20 (8 * g' + x') (-1)) (h' := sR h (A 4 (8 * g' + x')) 1 none) C F W.2.1 W.2.2.2.2.2.2.2.1 hg em hm hx rfl rfl rfl (fun a k ha => by rw [hR_sR, if_neg (fun w => ha w.1)]) (fun _ _ _ => rfl) (fun q k w => by rw [LI1, if_neg (by omega)]) (fun _ => rfl) (fun _ _ _ _ => rfl) (fun w => absurd (show (LI L 20 (8 * g' + x') (-1)).1 20 (8 * g' + x') = -1 by rw [LI1, if_pos ⟨rfl, rfl⟩]) w) ?_) ?_ (KEP_R lo)
      · refine ⟨X1, ?_, Or.inl ⟨?_, ?_⟩⟩
        · rw [LI1, if_neg (by omega)]; exact X2
        · rw [LI1, if_pos ⟨rfl, rfl⟩]
        · rw [hR_sR, if_pos ⟨rfl, rfl⟩]
      · rw [LI1, if_neg (by omega)]; exact W.1
  · rw [bf q]
    exact ⟨h, by simp, by simpa using OUT_same C W⟩
theorem c_cut {a : Nat} {w : Int32} (k : hk h a = some (1, 0)) (e : hI h a 0 = w) (v : Int64) : f_X1_cut a v h = some (cutJ w v) := by
  unfold f_X1_cut cutJ
  simp only [gI_k k, e, Option.bind_some]
  by_cases c1 : w = 0
  · simp [c1]
  by_cases c2 : w = 1
  · simp [c2]
  by_cases c3 : w = 2
  · simp [c3]
  simp [c1, c2, c3]
theorem c_write (C : COK c L n np ng A h) (F : WF L n np ng) (W : MW L n np ng) (g x i : Int32) (v : Int64) : ∃ h', f_X7_write c g x i v h = some ((U_write L g x i v).1, h') ∧ OUT c np ng h (U_write L g x i v).2 h' := by
  unfold f_X7_write U_write wrg
  simp only [cck7 C, c_anAt C W, Option.bind_some]
  by_cases q : anB L g x = true
  · obtain ⟨g', x', m, hg, hg10, hx, hm, em, rfl, rfl, t1, t2, ⟨X1, X2, X3⟩, lo⟩ := c_anx C W q
    simp only [q, if_true, t1, t2, ck_k X1, Option.bind_some]
    rw [if_neg (by simp)]
    unfold f_X1_put
    simp only [gR_k X1, Option.bind_some]
    rcases X3 with ⟨e, r⟩ | ⟨s, hs, e, r, X4, X5⟩
    · refine ⟨h, by rw [r, e]; simp [m1_0le], ?_⟩
      rw [e, if_neg m1_0le, if_neg (by decide)]
      exact OUT_same C W
    · rw [r, e, if_neg (by simp)]
      simp only [if_pos (nI_0le s hs)]
      by_cases c1 : i < 0
      · exact ⟨h, by simp [c1], by simpa [c1] using OUT_same C W⟩
      · simp only [if_neg c1, al_k X4 (by decide), Option.bind_some]
        by_cases c2 : i < nI s
        · obtain ⟨i', hi, rfl⟩ := nI_of c1
          have hi' : i' < s := (nIlt hi (by omega)).mp c2
          simp only [if_pos c2, if_true, ck_k X1, c_cut X1 X2, stJ_k X4 hi' (by omega), Option.bind_some, nIt (show i' < 1000 by omega)]
          have lo5 := c_an5 C hg hx hm em hs e
          refine ⟨_, rfl, OUT_ck W.2.1 (A' := A) (COK_ann (L' := LJ L 21 (100 * (8 * g' + x') + i') (cutJ (L.1 19 (8 * g' + x')) v)) (h' := sJ h (A 5 (8 * g' + x')) i' (cutJ (L.1 19 (8 * g' + x')) v)) C F W.2.1 W.2.2.2.2.2.2.2.1 hg em hm hx rfl rfl rfl (fun _ _ _ => rfl) (fun a k ha => ?_) (fun _ _ _ => rfl) (fun k => ?_) (fun b j hb hj => ?_) (fun w => w) ?_) W.1 (KEP_J lo5)⟩
          · rcases ha with ha | ha
            · rw [hJ_sJ, if_neg (fun w => ha w.1)]
            · rw [e] at ha; exact absurd ha (nI_m1 (by omega))
          · rw [LJ2, if_neg (by omega)]
          · rw [LJ2, if_neg (by omega)]
          · refine ⟨X1, X2, Or.inr ⟨s, hs, e, r, X4, fun j hj => ?_⟩⟩
            rw [hJ_sJ, LJ2]
            by_cases w : j = i'
            · rw [w, if_pos ⟨rfl, rfl⟩, if_pos ⟨rfl, rfl⟩]
            · rw [if_neg (fun u => w u.2), if_neg (by omega)]
              exact X5 j hj
        · refine ⟨h, by simp [c2], ?_⟩
          simp only [if_neg c2]
          rw [if_neg (by decide)]
          exact OUT_same C W
  · rw [bf q]
    exact ⟨h, by simp, by simpa using OUT_same C W⟩
theorem c_read (C : COK c L n np ng A h) (W : MW L n np ng) (g x i : Int32) : f_X7_read c g x i h = some (rea L g x i) := by
  unfold f_X7_read rea wrg
  simp only [cck7 C, c_anAt C W, Option.bind_some]
  by_cases q : anB L g x = true
  · obtain ⟨g', x', m, hg, hg10, hx, hm, em, rfl, rfl, t1, t2, ⟨X1, X2, X3⟩, lo⟩ := c_anx C W q
    simp only [q, if_true, t1, t2, ck_k X1, Option.bind_some]
    rw [if_neg (by simp)]
    unfold f_X1_get f_X1_get_29
    simp only [gR_k X1, Option.bind_some]
    rcases X3 with ⟨e, r⟩ | ⟨s, hs, e, r, X4, X5⟩
    · rw [r, e, if_pos rfl, if_neg m1_0le]
      simp
    · rw [r, e, if_neg (by simp)]
      simp only [if_pos (nI_0le s hs)]
      by_cases c1 : i < 0
      · simp [c1]
      · simp only [if_neg c1, al_k X4 (by decide), Option.bind_some]
        by_cases c2 : i < nI s
        · obtain ⟨i', hi, rfl⟩ := nI_of c1
          have hi' : i' < s := (nIlt hi (by omega)).mp c2
          rw [if_neg (nI_ge hi' (by omega))]
          simp only [if_pos c2, if_true, lJ_k X4 hi' (by omega), Option.bind_some, nIt (show i' < 1000 by omega), X5 i' hi']
        · have : nI s ≤ i := not_lt_le.mp c2
          simp only [if_neg c2, if_pos this]
          rw [if_neg (by decide)]
          simp
  · rw [bf q]
    simp
theorem c_size (C : COK c L n np ng A h) (W : MW L n np ng) (g x : Int32) : f_X7_size c g x h = some (siz L g x) := by
  unfold f_X7_size siz
  simp only [cck7 C, c_anAt C W, Option.bind_some]
  by_cases q : anB L g x = true
  · obtain ⟨g', x', m, hg, hg10, hx, hm, em, rfl, rfl, t1, t2, ⟨X1, X2, X3⟩, lo⟩ := c_anx C W q
    simp only [q, if_true, t1, t2, gR_k X1, Option.bind_some]
    rw [if_neg (by simp)]
    rcases X3 with ⟨e, r⟩ | ⟨s, hs, e, r, X4, X5⟩
    · rw [r, e, if_neg m1_0le]
      simp
    · rw [r, e, if_pos (nI_0le s hs), if_neg (by simp)]
      simp only [al_k X4 (by decide), Option.bind_some]
  · rw [bf q]
    simp
theorem c_range {b s : Nat} (hs : s ≤ 100) (X1 : hk h (A 4 b) = some (1, 0)) (r : hR h (A 4 b) 1 = some (A 5 b)) (X4 : hk h (A 5 b) = some (11, s)) (i k : Int32) : f_X1_hasRange (A 4 b) i k h = some (decide (¬ i < 0) && decide (¬ k < 0) && decide (i.toNatClampNeg + k.toNatClampNeg ≤ s)) := by
  unfold f_X1_hasRange
  simp only [gR_k X1, r, Option.bind_some, al_k X4 (by decide)]
  rw [if_neg (by simp)]
  by_cases c1 : i < 0
  · simp [c1]
  by_cases c2 : k < 0
  · simp [c1, c2]
  obtain ⟨i', hi, rfl⟩ := nI_of c1
  obtain ⟨k', hk', rfl⟩ := nI_of c2
  have t1 : (nI i').toNatClampNeg = i' := nI_clamp hi
  have t2 : (nI k').toNatClampNeg = k' := nI_clamp hk'
  rw [if_neg c1, if_neg c2, t1, t2]
  simp only [nIlt (show s < 2 ^ 31 by omega) hi]
  by_cases c3 : s < i'
  · rw [if_pos c3]
    have : ¬ i' + k' ≤ s := by omega
    simp [this]
  · rw [if_neg c3, nI_subs (by omega)]
    simp only [nIlt (show s - i' < 2 ^ 31 by omega) hk']
    by_cases c4 : s - i' < k'
    · rw [if_pos c4]
      have : ¬ i' + k' ≤ s := by omega
      simp [this]
    · rw [if_neg c4]
      have : i' + k' ≤ s := by omega
      simp [this, c1, c2]
theorem tkL_1 : ∀ m j L b, (tkL L b j m).1 = L.1 := by
  intro m
  induction m with
  | zero => intro j L b; rfl
  | succ m ih => intro j L b; unfold tkL; rw [ih]; rfl
theorem tkL_2 : ∀ m j L b q k, (tkL L b j m).2 q k = if q = 22 ∧ j ≤ k ∧ k < j + m then L.2 21 (b + k) else L.2 q k := by
  intro m
  induction m with
  | zero => intro j L b q k; rw [if_neg (by omega)]; rfl
  | succ m ih =>
    intro j L b q k
    unfold tkL
    rw [ih, LJ2, LJ2]
    rw [if_neg (show ¬ (21 = 22 ∧ b + k = j) by omega)]
    by_cases w : q = 22 ∧ k = j
    · obtain ⟨rfl, rfl⟩ := w
      rw [if_neg (by omega), if_pos ⟨rfl, rfl⟩, if_pos (by omega)]
    · rw [if_neg w]
      by_cases w2 : q = 22 ∧ j + 1 ≤ k ∧ k < j + 1 + m
      · rw [if_pos w2, if_pos (by omega)]
      · rw [if_neg w2, if_neg (by omega)]
theorem gvL_1 : ∀ m j L b, (gvL L b j m).1 = L.1 := by
  intro m
  induction m with
  | zero => intro j L b; rfl
  | succ m ih => intro j L b; unfold gvL; rw [ih]; rfl
theorem gvL_2 : ∀ m j L b q k, (gvL L b j m).2 q k = if q = 21 ∧ b + j ≤ k ∧ k < b + j + m then L.2 22 (k - b) else L.2 q k := by
  intro m
  induction m with
  | zero => intro j L b q k; rw [if_neg (by omega)]; rfl
  | succ m ih =>
    intro j L b q k
    unfold gvL
    rw [ih, LJ2, LJ2]
    rw [if_neg (show ¬ (22 = 21 ∧ k - b = b + j) by omega)]
    by_cases w : q = 21 ∧ k = b + j
    · obtain ⟨rfl, rfl⟩ := w
      rw [if_neg (by omega), if_pos ⟨rfl, rfl⟩, if_pos (by omega), Nat.add_sub_cancel_left]
    · rw [if_neg w]
      by_cases w2 : q = 21 ∧ b + (j + 1) ≤ k ∧ k < b + (j + 1) + m
      · rw [if_pos w2, if_pos (by omega)]
      · rw [if_neg w2, if_neg (by omega)]
theorem hJ_cpJ (a i b j n x k : Nat) : hJ (cpJ h a i b j n) x k = if x = b ∧ j ≤ k ∧ k < j + n then hJ h a (i + (k - j)) else hJ h x k := by
  show (if x = b then va_cpy (hJ h a) (hJ h b) i j n else hJ h x) k = _
  by_cases q : x = b
  · rw [if_pos q, q]
    unfold va_cpy
    by_cases w : j ≤ k ∧ k < j + n
    · rw [if_pos w, if_pos ⟨rfl, w.1, w.2⟩]
    · rw [if_neg w, if_neg (fun u => w u.2)]
  · rw [if_neg q, if_neg (fun u => q u.1)]
theorem c_copy (C : COK c L n np ng A h) (F : WF L n np ng) (W : MW L n np ng) (g x i g2 y j k : Int32) : ∃ h', f_X7_copy c g x i g2 y j k h = some ((U_copy L g x i g2 y j k).1, h') ∧ OUT c np ng h (U_copy L g x i g2 y j k).2 h' := by
  unfold f_X7_copy U_copy
  simp only [cck7 C, c_anAt C W, Option.bind_some]
  by_cases q : anB L g x = true
  · by_cases q2 : anB L g2 y = true
    · obtain ⟨g', x', m, hg, hg10, hx, hm, em, rfl, rfl, t1, t2, ⟨X1, X2, X3⟩, lo⟩ := c_anx C W q
      obtain ⟨g2', y', m', hg2, hg210, hy, hm', em', rfl, rfl, t3, t4, ⟨Y1, Y2, Y3⟩, lo2⟩ := c_anx C W q2
      simp only [q, q2, if_true, t1, t2, t3, t4, ck_k X1, ck_k Y1, gR_k X1, gR_k Y1, gI_k X1, gI_k Y1, Option.bind_some, Bool.and_self, X2, Y2]
      rw [if_neg (by simp), if_neg (by simp)]
      rcases X3 with ⟨e, r⟩ | ⟨s, hs, e, r, X4, X5⟩
      · have : (-1 : Int32) < 0 := by decide
        refine ⟨h, by rw [r, e]; simp [this], ?_⟩
        rw [e, if_pos this]
        exact OUT_same C W
      · rcases Y3 with ⟨e2, r2⟩ | ⟨s2, hs2, e2, r2, Y4, Y5⟩
        · have : ¬ nI s < 0 := nI_pos (by omega)
          refine ⟨h, by rw [r, r2, e, e2]; simp [this, m1_0le], ?_⟩
          rw [e, e2, if_neg this, if_neg m1_0le]
          exact OUT_same C W
        · simp only [r, r2, e, e2, if_neg (show ¬ nI s < 0 from nI_pos (by omega)), if_pos (nI_0le s2 hs2), c_range hs X1 r X4, c_range hs2 Y1 r2 Y4, Option.bind_some, b2i_z, nIt (show s < 1000 by omega), nIt (show s2 < 1000 by omega)]
          rw [if_neg (by simp), if_neg (by simp)]
          by_cases d1 : L.1 19 (8 * g' + x') = L.1 19 (8 * g2' + y')
          · simp only [if_pos d1]
            by_cases d2 : i < 0
            · exact ⟨h, by simp [d2], by simpa [d2] using OUT_same C W⟩
            by_cases d3 : j < 0
            · refine ⟨h, ?_, ?_⟩
              · by_cases d4 : (decide (¬ i < 0) && decide (¬ k < 0) && decide (i.toNatClampNeg + k.toNatClampNeg ≤ s)) = true
                · rw [d4]; simp [d3]
                · rw [bf d4]; simp [d3]
              · simpa [d3] using OUT_same C W
            by_cases d4 : k < 0
            · exact ⟨h, by simp [d4], by simpa [d4] using OUT_same C W⟩
            by_cases d5 : i.toNatClampNeg + k.toNatClampNeg ≤ s
            · by_cases d6 : j.toNatClampNeg + k.toNatClampNeg ≤ s2
              · have ea : acp h (some (A 5 (8 * g' + x'))) i (some (A 5 (8 * g2' + y'))) j k = some (cpJ h (A 5 (8 * g' + x')) i.toNatClampNeg (A 5 (8 * g2' + y')) j.toNatClampNeg k.toNatClampNeg) := by
                  unfold acp
                  simp only [X4, Y4]
                  rw [if_pos ⟨by simp, ⟨d2, d3, d4⟩, d5, d6⟩]
                have hc : (decide (¬ i < 0) && decide (¬ j < 0) && decide (¬ k < 0) && decide (i.toNatClampNeg + k.toNatClampNeg ≤ s) && decide (j.toNatClampNeg + k.toNatClampNeg ≤ s2)) = true := by simp only [decide_eq_true d2, decide_eq_true d3, decide_eq_true d4, decide_eq_true d5, decide_eq_true d6, Bool.and_self]
                have hc1 : (decide (¬ i < 0) && decide (¬ k < 0) && decide (i.toNatClampNeg + k.toNatClampNeg ≤ s)) = true := by simp only [decide_eq_true d2, decide_eq_true d4, decide_eq_true d5, Bool.and_self]
                have hc2 : (decide (¬ j < 0) && decide (¬ k < 0) && decide (j.toNatClampNeg + k.toNatClampNeg ≤ s2)) = true := by simp only [decide_eq_true d3, decide_eq_true d4, decide_eq_true d6, Bool.and_self]
                rw [hc1, hc2, hc, ea, if_neg (by simp), if_neg (by simp), if_pos rfl]
                have lo5 := c_an5 C hg2 hy hm' em' hs2 e2
                refine ⟨_, rfl, OUT_ck W.2.1 (A' := A) (COK_ann (L' := gvL (tkL L (100 * (8 * g' + x') + i.toNatClampNeg) 0 k.toNatClampNeg) (100 * (8 * g2' + y') + j.toNatClampNeg) 0 k.toNatClampNeg) (h' := cpJ h (A 5 (8 * g' + x')) i.toNatClampNeg (A 5 (8 * g2' + y')) j.toNatClampNeg k.toNatClampNeg) C F W.2.1 W.2.2.2.2.2.2.2.1 hg2 em' hm' hy rfl rfl rfl (fun _ _ _ => rfl) (fun a z ha => ?_) (fun q z _ => ?_) (fun z => ?_) (fun b z hb hz => ?_) (fun w => ?_) ?_) ?_ ⟨Nat.le_refl _, fun b _ b2 => ⟨rfl, fun _ => rfl, fun z => ?_, fun _ => rfl⟩⟩⟩
                · rcases ha with ha | ha
                  · rw [hJ_cpJ, if_neg (fun w => ha w.1)]
                  · rw [e2] at ha; exact absurd ha (nI_m1 (by omega))
                · rw [gvL_1, tkL_1]
                · rw [gvL_2, if_neg (by omega), tkL_2, if_neg (by omega)]
                · rw [gvL_2, if_neg (by omega), tkL_2, if_neg (by omega)]
                · rw [e2]; exact nI_m1 (by omega)
                · unfold XOK
                  rw [gvL_1, tkL_1]
                  refine ⟨Y1, Y2, Or.inr ⟨s2, hs2, e2, r2, Y4, fun z hz => ?_⟩⟩
                  rw [hJ_cpJ, gvL_2]
                  by_cases w : j.toNatClampNeg ≤ z ∧ z < j.toNatClampNeg + k.toNatClampNeg
                  · rw [if_pos ⟨rfl, w.1, w.2⟩, if_pos ⟨rfl, by omega, by omega⟩, tkL_2, if_pos ⟨rfl, by omega, by omega⟩, X5 _ (by omega)]
                    exact congrArg (L.2 21) (by omega)
                  · rw [if_neg (fun u => w u.2), if_neg (by omega), tkL_2, if_neg (by omega)]
                    exact Y5 z hz
                · show (gvL _ _ _ _).1 0 8 = _
                  rw [gvL_1, tkL_1]; exact W.1
                · rw [hJ_cpJ, if_neg (by omega)]
              · refine ⟨h, ?_, ?_⟩
                · simp only [decide_eq_true d2, decide_eq_true d3, decide_eq_true d4, decide_eq_true d5, decide_eq_false d6, Bool.and_self, Bool.and_false]
                  simp
                · simp only [decide_eq_true d2, decide_eq_true d3, decide_eq_true d4, decide_eq_true d5, decide_eq_false d6, Bool.and_self, Bool.and_false]
                  simpa using OUT_same C W
            · refine ⟨h, ?_, ?_⟩
              · simp only [decide_eq_true d2, decide_eq_true d3, decide_eq_true d4, decide_eq_false d5, Bool.and_self, Bool.and_false, Bool.false_and]
                simp
              · simp only [decide_eq_true d2, decide_eq_true d3, decide_eq_true d4, decide_eq_false d5, Bool.and_self, Bool.and_false, Bool.false_and]
                simpa using OUT_same C W
          · simp only [if_neg d1]
            exact ⟨h, rfl, OUT_same C W⟩
    · rw [q, bf q2]
      exact ⟨h, by simp, by simpa using OUT_same C W⟩
  · rw [bf q]
    exact ⟨h, by simp, by simpa using OUT_same C W⟩
end AN
