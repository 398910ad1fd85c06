/-! PURE 24: the program's first and since -/
section CFi
variable {c : Nat} {L : LM} {n np ng : Nat} {A : Nat → Nat → Nat} {h : AH}
theorem dnT_const (F : Nat → Bool) {d e : Nat} (hed : e ≤ d) (h : ∀ x, e ≤ x → x < d → F x = true) : dnT F d = dnT F e := by
  obtain ⟨m, rfl⟩ : ∃ m, d = e + m := ⟨d - e, by omega⟩
  exact dnT_run F m e h
theorem dyB_nI {d : Nat} (hd : d ≤ 73000) : dyB (nI d) = true := by
  have e : (73000 : Int32) = nI 73000 := rfl
  unfold dyB
  rw [e, decide_eq_true (nI_pos (by omega)), decide_eq_true (nI_nlt (by omega) (by omega))]
  rfl
theorem nI_lt0 {e : Nat} (he : e < 2 ^ 31) : 0 < nI e ↔ 0 < e := by
  rw [← nI_0]
  exact nIlt (by omega) he
theorem c_first_56 (C : COK c L n np ng A h) (F : WF L n np ng) (W : MW L n np ng) {p q g a : Int32} (hA : asB L p q g a = true) {t : Nat} (ht : t ≤ 73000) (hT : L.1 0 0 = nI t) : ∀ f d s (T : TM), d ≤ t → mu L n (d + 1) + s ≤ n → n + 1 < s + f → anF L n np p q g a t d = true → ∃ T', f_X7_first_56 f c p q g a (some (A 1 g.toNatClampNeg)) (ans L n np p q g a (nI t) (nI t)).1 (ans L n np p q g a (nI t) (nI t)).2 (nI d) (nI s) (pS c T h) = some (nI (dnT (anF L n np p q g a t) d), pS c T' h) := by
  obtain ⟨w1, hn, w3, w4, w5, hnp, w7, hng, w9⟩ := id W
  obtain ⟨g', a', hg, hg', ha, rfl, rfl, hag⟩ := arB_of W (asB_ar hA)
  intro f
  induction f with
  | zero => intro d s T h1 h2 h3; omega
  | succ f ih =>
    intro d s T h1 h2 h3 hF
    have C' := COK_pS C T
    rw [f_X7_first_56]
    have e4 : (400 : Int32) = nI 400 := rfl
    rw [e4, if_neg (nI_nlt (by omega) (by omega))]
    obtain ⟨e, e1, e2, e3, e5⟩ := eG_0 F (nI g') (show d ≤ 80000 by omega)
    rw [nIt (show g' < 1000 by omega)]
    simp only [cH1 C', cck4 C', c_lat C' F hn hng hg, e1, Option.bind_some, nI_lt0 (show e < 2 ^ 31 by omega)]
    have fl : ∀ x, e ≤ x → x ≤ d → anF L n np p q (nI g') (nI a') t x = true := by
      intro x x1 x2
      rw [← hF]
      symm
      have k1 := an_flat (np := np) F hn (show g' < 1000 by omega) (show e ≤ d by omega) (show d ≤ 73000 by omega) (fun y hy h8 => e5 y hy h8) p q (nI a') t
      have k2 := an_flat (np := np) F hn (show g' < 1000 by omega) x1 (show x ≤ 73000 by omega) (fun y hy h8 => by have := e5 y hy h8; omega) p q (nI a') t
      rw [k1, k2]
    have hd : dnT (anF L n np p q (nI g') (nI a') t) d = dnT (anF L n np p q (nI g') (nI a') t) e := dnT_const _ e2 (fun x x1 x2 => fl x x1 (by omega))
    rw [hd]
    rcases Nat.eq_zero_or_pos e with z | z
    · subst z
      rw [if_neg (by omega), ← nI_0]
      exact ⟨T, rfl⟩
    · rw [if_pos z]
      obtain ⟨e', rfl⟩ : ∃ e', e = e' + 1 := ⟨e - 1, by omega⟩
      obtain ⟨T', s1, s2⟩ := c_settle7 C F W T p q (nI g') (nI a') (nI e') (nI t)
      have ok : (asB L p q (nI g') (nI a') && dyB (nI e') && dyB (nI t)) = true := by rw [hA, dyB_nI (show e' ≤ 73000 by omega), dyB_nI ht]; rfl
      have s3 := STD_ans (s2 ok)
      have C2 := COK_pS C T'
      simp only [cH6 C', hT, cck7 C', nI_sub1, nI_m1', s1, cH3 C2, sgI6 C.1, s3.1, s3.2, Option.bind_some]
      have a1 : (fnd L n np p q (nI g').toNatClampNeg (nI a').toNatClampNeg (nI e') (nI t) (fun _ => false)).1 = (ans L n np p q (nI g') (nI a') (nI e') (nI t)).1 := rfl
      have a2 : (fnd L n np p q (nI g').toNatClampNeg (nI a').toNatClampNeg (nI e') (nI t) (fun _ => false)).2.1 = (ans L n np p q (nI g') (nI a') (nI e') (nI t)).2 := rfl
      rw [a1, a2]
      by_cases c0 : anF L n np p q (nI g') (nI a') t e' = true
      · have c0' := c0
        unfold anF at c0'
        rw [decide_eq_true_eq] at c0'
        rw [c0', if_pos rfl, if_pos rfl, nI_1]
        have hmu : mu L n (e' + 1) + (s + 1) ≤ n := by
          rcases e3 with q0 | ⟨x, q1, q2⟩
          · omega
          · have m1 := mu_lt (d := e' + 1 + 1) q1 q2 (by omega)
            have m2 := mu_le (L := L) (n := n) (show e' + 1 + 1 ≤ d + 1 by omega)
            omega
        obtain ⟨T2, r⟩ := ih e' (s + 1) T' (by omega) hmu (by omega) c0
        refine ⟨T2, ?_⟩
        rw [nIt (show g' < 1000 by omega)] at r
        rw [r]
        show _ = some (nI (if anF L n np p q (nI g') (nI a') t e' = true then dnT (anF L n np p q (nI g') (nI a') t) e' else e' + 1), _)
        rw [if_pos c0]
      · have : dnT (anF L n np p q (nI g') (nI a') t) (e' + 1) = e' + 1 := dnT_stop _ (by omega) (bf c0)
        rw [this]
        have c0' : ¬ ans L n np p q (nI g') (nI a') (nI e') (nI t) = ans L n np p q (nI g') (nI a') (nI t) (nI t) := by
          intro z
          exact c0 (by unfold anF; exact decide_eq_true z)
        by_cases d1 : (ans L n np p q (nI g') (nI a') (nI e') (nI t)).1 = (ans L n np p q (nI g') (nI a') (nI t) (nI t)).1
        · by_cases d2 : (ans L n np p q (nI g') (nI a') (nI e') (nI t)).2 = (ans L n np p q (nI g') (nI a') (nI t) (nI t)).2
          · exact absurd (Prod.ext d1 d2) c0'
          · rw [if_pos d1, if_neg d2]
            exact ⟨T', rfl⟩
        · rw [if_neg d1]
          exact ⟨T', rfl⟩
theorem c_first (C : COK c L n np ng A h) (F : WF L n np ng) (W : MW L n np ng) (T : TM) (p q g a : Int32) {t : Nat} (ht : t ≤ 73000) (hT : L.1 0 0 = nI t) : ∃ T', f_X7_first c p q g a (pS c T h) = some (if asB L p q g a = true then nI (dnT (anF L n np p q g a t) t) else -1, pS c T' h) := by
  obtain ⟨w1, hn, w3, w4, w5, hnp, w7, hng, w9⟩ := id W
  have C' := COK_pS C T
  obtain ⟨T', s1, s2⟩ := c_settle7 C F W T p q g a (nI t) (nI t)
  have C2 := COK_pS C T'
  unfold f_X7_first
  simp only [cH6 C', hT, cck7 C', s1, Option.bind_some, b2i_z, dyB_nI ht, Bool.and_true]
  by_cases z : asB L p q g a = true
  · have ok : (asB L p q g a && dyB (nI t) && dyB (nI t)) = true := by rw [z, dyB_nI ht]; rfl
    have s3 := STD_ans (s2 ok)
    have hin : inR g (nI ng) = true := by
      have := arB_g (asB_ar z)
      rw [w7] at this
      exact this
    rw [z, if_neg (by simp), if_pos rfl]
    simp only [cck7 C2, c_agAt C2 hng, hin, if_true, cH3 C2, sgI6 C.1, s3.1, s3.2, cH6 C2, hT, Option.bind_some]
    have e := c_first_56 C F W z ht hT FU t 0 T' (Nat.le_refl _) (by have := cntF_le (fun x => decide (efn L x < t + 1)) n 0; unfold mu; omega) (by unfold FU; omega) (by unfold anF; exact decide_eq_true rfl)
    rw [nI_0] at e
    exact e
  · rw [bf z]
    exact ⟨T', by simp⟩
theorem c_since_56 (C : COK c L n np ng A h) (F : WF L n np ng) (W : MW L n np ng) {g' : Nat} (hg : g' < ng) {t : Nat} (ht : t ≤ 73000) (hT : L.1 0 0 = nI t) : ∀ f d s (T : TM), d ≤ t → mu L n (d + 1) + s ≤ n → n + 1 < s + f → sinF L n np g' t d = true → ∃ T', f_X7_since_56 f c (some (A 1 g')) (nI d) (nI s) (pS c T h) = some (nI (dnT (sinF L n np g' t) d), pS c T' h) := by
  obtain ⟨w1, hn, w3, w4, w5, hnp, w7, hng, w9⟩ := id W
  intro f
  induction f with
  | zero => intro d s T h1 h2 h3; omega
  | succ f ih =>
    intro d s T h1 h2 h3 hF
    have C' := COK_pS C T
    rw [f_X7_since_56]
    have e4 : (400 : Int32) = nI 400 := rfl
    rw [e4, if_neg (nI_nlt (by omega) (by omega))]
    obtain ⟨e, e1, e2, e3, e5⟩ := eG_0 F (nI g') (show d ≤ 80000 by omega)
    simp only [cH1 C', cck4 C', c_lat C' F hn hng hg, e1, Option.bind_some, nI_lt0 (show e < 2 ^ 31 by omega)]
    have fl : ∀ x, e ≤ x → x ≤ d → sinF L n np g' t x = true := by
      intro x x1 x2
      rw [← hF]
      symm
      have k1 := sin_flat (np := np) F hn (show g' < 1000 by omega) (show e ≤ d by omega) (show d ≤ 73000 by omega) (fun y hy h8 => e5 y hy h8) t
      have k2 := sin_flat (np := np) F hn (show g' < 1000 by omega) x1 (show x ≤ 73000 by omega) (fun y hy h8 => by have := e5 y hy h8; omega) t
      rw [k1, k2]
    have hd : dnT (sinF L n np g' t) d = dnT (sinF L n np g' t) e := dnT_const _ e2 (fun x x1 x2 => fl x x1 (by omega))
    rw [hd]
    rcases Nat.eq_zero_or_pos e with z | z
    · subst z
      rw [if_neg (by omega), ← nI_0]
      exact ⟨T, rfl⟩
    · rw [if_pos z]
      obtain ⟨e', rfl⟩ : ∃ e', e = e' + 1 := ⟨e - 1, by omega⟩
      obtain ⟨m, m1, m2⟩ := c_fill_4 C F hn hnp hng T hg (nI e') (nI t)
      have C2 := COK_pS C (RT 4 T m (nI (many L n np (nI g') (nI e') (nI t))))
      simp only [cH6 C', hT, cH2 C', cck5 C', nI_sub1, nI_m1', m2, cH2 C2, sgI4 C.1, RT1, cG1 C2 hg, Option.bind_some]
      by_cases c0 : sinF L n np g' t e' = true
      · have c0' := c0
        unfold sinF at c0'
        rw [decide_eq_true_eq] at c0'
        rw [if_pos c0', nI_1]
        have hmu : mu L n (e' + 1) + (s + 1) ≤ n := by
          rcases e3 with q0 | ⟨x, q1, q2⟩
          · omega
          · have m1 := mu_lt (d := e' + 1 + 1) q1 q2 (by omega)
            have m2 := mu_le (L := L) (n := n) (show e' + 1 + 1 ≤ d + 1 by omega)
            omega
        obtain ⟨T2, r⟩ := ih e' (s + 1) _ (by omega) hmu (by omega) c0
        refine ⟨T2, ?_⟩
        rw [r]
        show _ = some (nI (if sinF L n np g' t e' = true then dnT (sinF L n np g' t) e' else e' + 1), _)
        rw [if_pos c0]
      · have : dnT (sinF L n np g' t) (e' + 1) = e' + 1 := dnT_stop _ (by omega) (bf c0)
        rw [this]
        have c0' := c0
        unfold sinF at c0'
        rw [decide_eq_true_eq] at c0'
        rw [if_neg c0']
        exact ⟨_, rfl⟩
theorem c_since (C : COK c L n np ng A h) (F : WF L n np ng) (W : MW L n np ng) (T : TM) (g : Int32) {t : Nat} (ht : t ≤ 73000) (hT : L.1 0 0 = nI t) : ∃ T', f_X7_since c g (pS c T h) = some (if inR g (L.1 0 2) = true then (if sinF L n np g.toNatClampNeg t t = true then nI (dnT (sinF L n np g.toNatClampNeg t) t) else -1) else -1, pS c T' h) := by
  obtain ⟨w1, hn, w3, w4, w5, hnp, w7, hng, w9⟩ := id W
  have C' := COK_pS C T
  unfold f_X7_since
  simp only [cck7 C', c_agAt C' hng, w7, Option.bind_some]
  by_cases z : inR g (nI ng) = true
  · obtain ⟨g', hg, rfl⟩ := inR_of (by omega) z
    rw [if_pos z, if_neg (by simp), if_pos z, nIt (show g' < 1000 by omega)]
    obtain ⟨m, m1, m2⟩ := c_fill_4 C F hn hnp hng T hg (nI t) (nI t)
    have C2 := COK_pS C (RT 4 T m (nI (many L n np (nI g') (nI t) (nI t))))
    simp only [cH6 C', hT, cH1 C', cH2 C', cck5 C', m2, cH2 C2, sgI4 C.1, RT1, cG1 C2 hg, cH6 C2, Option.bind_some]
    by_cases c0 : sinF L n np g' t t = true
    · have c0' := c0
      unfold sinF at c0'
      rw [decide_eq_true_eq] at c0'
      rw [if_pos c0', if_pos c0]
      have e := c_since_56 C F W hg ht hT FU t 0 (RT 4 T m (nI (many L n np (nI g') (nI t) (nI t)))) (Nat.le_refl _) (by have := cntF_le (fun x => decide (efn L x < t + 1)) n 0; unfold mu; omega) (by unfold FU; omega) c0
      rw [nI_0] at e
      exact e
    · have c0' := c0
      unfold sinF at c0'
      rw [decide_eq_true_eq] at c0'
      rw [if_neg c0', if_neg c0]
      exact ⟨_, rfl⟩
  · rw [if_neg z, if_neg z]
    exact ⟨T, by simp⟩
end CFi
