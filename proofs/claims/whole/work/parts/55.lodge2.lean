/-! PURE 26: one more PAPER in the program's memory -/
def A1 (A : Nat → Nat → Nat) (n z : Nat) : Nat → Nat → Nat := fun i x => if i = 0 ∧ x = n then z else A i x
theorem A1_n (A : Nat → Nat → Nat) (n z : Nat) : A1 A n z 0 n = z := by simp [A1]
theorem A1_lt (A : Nat → Nat → Nat) (n z : Nat) {x : Nat} (hx : x < n) : A1 A n z 0 x = A 0 x := by
  unfold A1
  rw [if_neg (by omega)]
theorem A1_o (A : Nat → Nat → Nat) (n z : Nat) {i : Nat} (hi : i ≠ 0) (x : Nat) : A1 A n z i x = A i x := by
  unfold A1
  rw [if_neg (by omega)]
/-- h' is h with a paper more at its end; where ud says, a reference to it -/
def FRM (c n : Nat) (h h' : AH) (ud : Option (Nat × Nat)) : Prop := hz h' = hz h + 1 ∧ (∀ b, hk h' b = if b = hz h then some (3, 0) else hk h b) ∧ (∀ b k, b ≠ hz h → hI h' b k = if b = c + 2 ∧ k = 1 then nI (n + 1) else hI h b k) ∧ (∀ b k, b ≠ hz h → hJ h' b k = hJ h b k) ∧ ∀ b k, b ≠ hz h → hR h' b k = if b = c + 3 ∧ k = n then some (hz h) else if ud = some (b, k) then some (hz h) else hR h b k
section LP
variable {c : Nat} {L : LM} {n np ng : Nat} {A : Nat → Nat → Nat} {h h' : AH}
theorem map_A1 {z : Nat} {o : Option Nat} (ho : ∀ x, o = some x → x < n) : o.map (A1 A n z 0) = o.map (A 0) := by
  cases o with
  | none => rfl
  | some x => simp only [Option.map_some]; rw [A1_lt A n z (ho x rfl)]
theorem ora_A1 {z : Nat} (hn : n ≤ 400) {v : Int32} (hv : v = -1 ∨ ∃ i, i < n ∧ v = nI i) : ora (A1 A n z 0) v = ora (A 0) v := by
  rcases hv with rfl | ⟨i, hi, rfl⟩
  · rfl
  · rw [ora_nI _ (by omega), ora_nI _ (by omega), A1_lt A n z hi]
theorem ora_A1g {z : Nat} {v : Int32} : ora (A1 A n z 1) v = ora (A 1) v := by
  unfold ora
  rw [A1_o A n z (by decide)]
theorem COK_LG (C : COK c L n np ng A h) (F : WF L n np ng) (hn : n < 400) (hz37 : c + 37 ≤ hz h) {v : Nat → Int32} {z : Int64} {ud : Option (Nat × Nat)} (f : FRM c n h h' ud)
    (n0 : hI h' (hz h) 0 = nI n) (n1 : hI h' (hz h) 1 = v 6) (n2 : hI h' (hz h) 2 = v 7) (n4 : hI h' (hz h) 4 = v 9) (n5 : hI h' (hz h) 5 = v 10) (n8 : hI h' (hz h) 8 = v 13) (n9 : hI h' (hz h) 9 = v 14) (n10 : hI h' (hz h) 10 = v 15) (n11 : hJ h' (hz h) 11 = z) (n3 : hR h' (hz h) 3 = ora (A 1) (v 8)) (n6 : hR h' (hz h) 6 = ora (A 0) (v 11)) (n7 : hR h' (hz h) 7 = ora (A 0) (v 12)) (n12 : hR h' (hz h) 12 = none) (n13 : hR h' (hz h) 13 = none)
    (hv12 : v 12 = -1 ∨ ∃ i, i < n ∧ v 12 = nI i)
    (kind : (v 6 ≠ 4 ∧ v 6 ≠ 7 ∧ v 6 ≠ 5 ∧ v 6 ≠ 8 ∧ ud = none ∧ hR h' (hz h) 14 = none ∧ v 11 = -1) ∨ (∃ y, y < n ∧ v 11 = nI y ∧ (((v 6 = 4 ∨ v 6 = 7) ∧ ud = some (A 0 y, 13) ∧ hR h' (hz h) 14 = (latO L n y).map (A 0)) ∨ ((v 6 = 5 ∨ v 6 = 8) ∧ ud = some (A 0 y, 12) ∧ endO L n y = none ∧ hR h' (hz h) 14 = none)))) :
    COK c (LG L n v z) (n + 1) np ng (A1 A n (hz h)) h' := by
  obtain ⟨B, ⟨s1, s2, s3, s4⟩, P, G, D⟩ := id C
  obtain ⟨f1, f2, f3, f4, f5⟩ := f
  have kz : ∀ b, b < hz h → b ≠ hz h := fun b hb => by omega
  have kk : ∀ b, b ≠ hz h → hk h' b = hk h b := fun b hb => by rw [f2, if_neg hb]
  have hsm : ∀ p, p < 37 → c + p ≠ hz h := fun p hp => by omega
  have hAz : ∀ i x, vld L n ng i x → A i x ≠ hz h := fun i x w => by have := (D.1 i x w).2; omega
  have hud : ∀ b k, b ≠ hz h → (∀ y, y < n → b ≠ A 0 y) → b ≠ c + 3 → hR h' b k = hR h b k := by
    intro b k hb hy h3
    rw [f5 b k hb, if_neg (by omega)]
    have : ud ≠ some (b, k) := by
      intro e
      rcases kind with ⟨-, -, -, -, u, -⟩ | ⟨y, y1, -, ⟨-, u, -⟩ | ⟨-, u, -⟩⟩
      · rw [u] at e; cases e
      · rw [u] at e; cases e; exact hy y y1 rfl
      · rw [u] at e; cases e; exact hy y y1 rfl
    rw [if_neg this]
  have hA0 : ∀ p, p < 14 → ∀ y, y < n → c + p ≠ A 0 y := fun p hp y hy => by have := C.lo hy; omega
  have pk : ∀ i x, vld L n ng i x → hk h (A i x) ≠ some (3, 0) → ∀ y, y < n → A i x ≠ A 0 y := by
    intro i x _ hk0 y hy e
    rw [e] at hk0
    exact hk0 (C.kp hy)
  have vl : ∀ i x, vld (LG L n v z) (n + 1) ng i x → vld L n ng i x ∨ (i = 0 ∧ x = n) := by
    intro i x w
    rcases w with ⟨rfl, hx⟩ | ⟨w1, w2⟩ | ⟨w1, g, y, w2, w3, w4⟩ | ⟨w1, ⟨g, y, w2, w3, w4⟩, w5⟩
    · rcases Nat.lt_or_ge x n with q | q
      · exact Or.inl (Or.inl ⟨rfl, q⟩)
      · exact Or.inr ⟨rfl, by omega⟩
    · exact Or.inl (Or.inr (Or.inl ⟨w1, w2⟩))
    · rw [LG_o (by omega) (by omega)] at w4
      exact Or.inl (Or.inr (Or.inr (Or.inl ⟨w1, g, y, w2, w3, w4⟩)))
    · rw [LG_o (by omega) (by omega)] at w4 w5
      exact Or.inl (Or.inr (Or.inr (Or.inr ⟨w1, ⟨g, y, w2, w3, w4⟩, w5⟩)))
  have nv : ¬ vld L n ng 0 n := by
    intro w
    rcases w with ⟨-, q⟩ | ⟨q, -⟩ | ⟨q, -⟩ | ⟨q, -⟩ <;> omega
  have av : ∀ i x, vld L n ng i x → A1 A n (hz h) i x = A i x := by
    intro i x w
    unfold A1
    rw [if_neg]
    rintro ⟨rfl, rfl⟩
    exact nv w
  have hB : BOK c h' := by
    refine ⟨fun p hp => ?_, fun p k o fo => ?_⟩
    · rw [kk _ (hsm p (by omega))]; exact B.1 p hp
    · have hp : p < 14 ∧ (p = 3 → False) := by
        unfold fx at fo
        split at fo <;> first | (constructor <;> intros <;> omega) | (constructor <;> omega) | cases fo
      rw [hud _ _ (hsm p (by omega)) (fun y hy => hA0 p hp.1 y hy) (by intro e; exact hp.2 (by omega))]
      exact B.2 p k o fo
  refine ⟨hB, ⟨?_, ?_, ?_, ?_⟩, fun x hx => ?_, fun g hg => ?_, fun i x w => ?_, fun i x y w1 w2 e => ?_⟩
  · have := f3 c 4 (by have := hsm 0 (by omega); omega)
    rw [this, if_neg (by omega)]; exact s1
  · have := f3 c 5 (by have := hsm 0 (by omega); omega)
    rw [this, if_neg (by omega)]; exact s2
  · have := f3 c 6 (by have := hsm 0 (by omega); omega)
    rw [this, if_neg (by omega), LG_o (by omega) (by omega)]; exact s3
  · rw [f3 _ _ (hsm 2 (by omega)), if_pos ⟨rfl, rfl⟩]
  · rcases Nat.lt_or_ge x n with q | q
    · obtain ⟨p1, p2⟩ := P x q
      have hxz : A 0 x ≠ hz h := hAz 0 x (Or.inl ⟨rfl, q⟩)
      have hx2 : A 0 x ≠ c + 2 := fun e => hA0 2 (by omega) x q e.symm
      have hx3 : A 0 x ≠ c + 3 := fun e => hA0 3 (by omega) x q e.symm
      refine ⟨?_, ?_⟩
      · rw [f5 _ _ (hsm 3 (by omega)), if_neg (by omega), A1_lt A n _ q]
        have : ud ≠ some (c + 3, x) := by
          intro e
          rcases kind with ⟨-, -, -, -, u, -⟩ | ⟨y, y1, -, ⟨-, u, -⟩ | ⟨-, u, -⟩⟩
          · rw [u] at e; cases e
          · rw [u] at e
            have := congrArg Prod.fst (Option.some.inj e)
            exact hA0 3 (by omega) y y1 this.symm
          · rw [u] at e
            have := congrArg Prod.fst (Option.some.inj e)
            exact hA0 3 (by omega) y y1 this.symm
        rw [if_neg this]; exact p1
      · obtain ⟨e0, ⟨e1, e2, e3, e4, e5, e6, e7, e8⟩, e9, e10, e11, e12, e13, e14, e15⟩ := p2
        have Ei : ∀ k, hI h' (A 0 x) k = hI h (A 0 x) k := fun k => by rw [f3 _ _ hxz, if_neg (fun w => hx2 w.1)]
        have Er : ∀ k, k ≠ 12 → k ≠ 13 → hR h' (A 0 x) k = hR h (A 0 x) k := by
          intro k k1 k2
          rw [f5 _ _ hxz, if_neg (fun w => hx3 w.1)]
          have : ud ≠ some (A 0 x, k) := by
            intro e
            rcases kind with ⟨-, -, -, -, u, -⟩ | ⟨y, y1, -, ⟨-, u, -⟩ | ⟨-, u, -⟩⟩
            · rw [u] at e; cases e
            · rw [u] at e
              have := congrArg Prod.snd (Option.some.inj e)
              exact k2 this.symm
            · rw [u] at e
              have := congrArg Prod.snd (Option.some.inj e)
              exact k1 this.symm
          rw [if_neg this]
        have hof : L.1 12 x = -1 ∨ ∃ i, i < n ∧ L.1 12 x = nI i := F.ofv q
        have hnm : L.1 11 x = -1 ∨ ∃ i, i < n ∧ L.1 11 x = nI i := by
          rcases F.nmv q with w | ⟨i, i1, i2⟩
          · exact Or.inl w
          · exact Or.inr ⟨i, by omega, i2⟩
        unfold POK
        rw [A1_lt A n _ q, ora_A1g]
        simp only [LG_lt q (show 6 ≠ 0 by decide), LG_lt q (show 7 ≠ 0 by decide), LG_lt q (show 8 ≠ 0 by decide), LG_lt q (show 9 ≠ 0 by decide), LG_lt q (show 10 ≠ 0 by decide), LG_lt q (show 11 ≠ 0 by decide), LG_lt q (show 12 ≠ 0 by decide), LG_lt q (show 13 ≠ 0 by decide), LG_lt q (show 14 ≠ 0 by decide), LG_lt q (show 15 ≠ 0 by decide), LG_2lt q, Ei, Er 3 (by decide) (by decide), Er 6 (by decide) (by decide), Er 7 (by decide) (by decide), Er 14 (by decide) (by decide), f4 _ 11 hxz, kk _ hxz, ora_A1 (show n ≤ 400 by omega) hof, ora_A1 (show n ≤ 400 by omega) hnm, EqP_earO LG_EqP q, map_A1 (fun w e => by have := earO_lt e; omega : ∀ w, earO L x = some w → w < n)]
        refine ⟨e0, ⟨e1, e2, e3, e4, e5, e6, e7, e8⟩, e9, e10, e11, e12, ?_, ?_, e15⟩
        · rw [f5 _ _ hxz, if_neg (fun w => hx3 w.1), LG_endO]
          rcases kind with ⟨k4, k7, k5, k8, u, -, -⟩ | ⟨y, y1, y2, ⟨k, u, -⟩ | ⟨k, u, ue, -⟩⟩
          · rw [u, if_neg (by simp), e13]
            cases w : endO L n x with
            | some b => simp only [Option.map_some]; rw [A1_lt A n _ (endO_some w).1]
            | none => simp [k5, k8]
          · have : ud ≠ some (A 0 x, 12) := by rw [u]; intro e; have := congrArg Prod.snd (Option.some.inj e); exact absurd (show (13 : Nat) = 12 from this) (by decide)
            rw [if_neg this, e13]
            cases w : endO L n x with
            | some b => simp only [Option.map_some]; rw [A1_lt A n _ (endO_some w).1]
            | none =>
              have k5 : ¬ v 6 = 5 := by rcases k with k | k <;> rw [k] <;> decide
              have k8 : ¬ v 6 = 8 := by rcases k with k | k <;> rw [k] <;> decide
              simp [k5, k8]
          · by_cases hxy : x = y
            · subst hxy
              rw [u, if_pos rfl, ue]
              have : ((decide (v 6 = 5) || decide (v 6 = 8)) && decide (v 11 = nI x)) = true := by
                rcases k with k | k <;> simp [k, y2]
              simp only
              rw [if_pos this, Option.map_some, A1_n]
            · have : ud ≠ some (A 0 x, 12) := by
                rw [u]; intro e
                have := congrArg Prod.fst (Option.some.inj e)
                exact hxy (C.inj q y1 this.symm)
              rw [if_neg this, e13]
              have hne : ¬ v 11 = nI x := by
                rw [y2]; intro e
                exact hxy (nI_inj (by omega) (by omega) e).symm
              cases w : endO L n x with
              | some b => simp only [Option.map_some]; rw [A1_lt A n _ (endO_some w).1]
              | none => simp [hne]
        · rw [f5 _ _ hxz, if_neg (fun w => hx3 w.1), LG_latO]
          have old : ((latO L n x).map (A1 A n (hz h) 0)) = (latO L n x).map (A 0) := map_A1 (fun w e => (latO_some e).1)
          rcases kind with ⟨k4, k7, k5, k8, u, -, -⟩ | ⟨y, y1, y2, ⟨k, u, -⟩ | ⟨k, u, ue, -⟩⟩
          · rw [u, if_neg (by simp), e14, if_neg (by simp [k4, k7]), old]
          · by_cases hxy : x = y
            · subst hxy
              rw [u, if_pos rfl]
              have : ((decide (v 6 = 4) || decide (v 6 = 7)) && decide (v 11 = nI x)) = true := by
                rcases k with k | k <;> simp [k, y2]
              rw [if_pos this, Option.map_some, A1_n]
            · have : ud ≠ some (A 0 x, 13) := by
                rw [u]; intro e
                have := congrArg Prod.fst (Option.some.inj e)
                exact hxy (C.inj q y1 this.symm)
              have hne : ¬ v 11 = nI x := by
                rw [y2]; intro e
                exact hxy (nI_inj (by omega) (by omega) e).symm
              rw [if_neg this, e14, if_neg (by simp [hne]), old]
          · have : ud ≠ some (A 0 x, 13) := by rw [u]; intro e; have := congrArg Prod.snd (Option.some.inj e); exact absurd (show (12 : Nat) = 13 from this) (by decide)
            have k4 : ¬ v 6 = 4 := by rcases k with k | k <;> rw [k] <;> decide
            have k7 : ¬ v 6 = 7 := by rcases k with k | k <;> rw [k] <;> decide
            rw [if_neg this, e14, if_neg (by simp [k4, k7]), old]
    · obtain rfl : x = n := by omega
      refine ⟨?_, ?_⟩
      · rw [f5 _ _ (hsm 3 (by omega)), if_pos ⟨rfl, rfl⟩, A1_n]
      · have hv11 : v 11 = -1 ∨ ∃ i, i < x ∧ v 11 = nI i := by
          rcases kind with ⟨-, -, -, -, -, -, w⟩ | ⟨y, y1, y2, -⟩
          · exact Or.inl w
          · exact Or.inr ⟨y, y1, y2⟩
        unfold POK
        rw [A1_n, ora_A1g]
        simp only [LG_n (show 6 ≤ 6 by decide) (show 6 ≤ 15 by decide), LG_n (show 6 ≤ 7 by decide) (show 7 ≤ 15 by decide), LG_n (show 6 ≤ 8 by decide) (show 8 ≤ 15 by decide), LG_n (show 6 ≤ 9 by decide) (show 9 ≤ 15 by decide), LG_n (show 6 ≤ 10 by decide) (show 10 ≤ 15 by decide), LG_n (show 6 ≤ 11 by decide) (show 11 ≤ 15 by decide), LG_n (show 6 ≤ 12 by decide) (show 12 ≤ 15 by decide), LG_n (show 6 ≤ 13 by decide) (show 13 ≤ 15 by decide), LG_n (show 6 ≤ 14 by decide) (show 14 ≤ 15 by decide), LG_n (show 6 ≤ 15 by decide) (show 15 ≤ 15 by decide), LG_2n, ora_A1 (show x ≤ 400 by omega) hv11, ora_A1 (show x ≤ 400 by omega) hv12]
        have hself : ∀ w, w < x → ¬ (L.1 11 w = nI x) := by
          intro w hw e
          rcases F.nmv hw with q0 | ⟨i, i1, i2⟩
          · rw [q0] at e; exact nI_m1 (by omega) e.symm
          · rw [i2] at e
            have := nI_inj (by omega) (by omega) e
            omega
        have hno : ¬ v 11 = nI x := by
          rcases hv11 with q0 | ⟨i, i1, i2⟩
          · rw [q0]; intro e; exact nI_m1 (by omega) e.symm
          · rw [i2]; intro e
            have := nI_inj (by omega) (by omega) e
            omega
        have en : endO L x x = none := by
          unfold endO
          rw [fstF_none]
          intro w _ hw
          simp [hself w (by omega)]
        have la : latO L x x = none := by
          unfold latO
          rw [lstF_none]
          intro w hw
          simp [hself w hw]
        refine ⟨by rw [f2, if_pos rfl], ⟨n0, n1, n2, n4, n5, n8, n9, n10⟩, n11, n3, n6, n7, ?_, ?_, ?_⟩
        · rw [n12, LG_endO, en]
          simp [hno]
        · rw [n13, LG_latO, la]
          simp [hno]
        · rcases kind with ⟨k4, k7, k5, k8, u, u2, -⟩ | ⟨y, y1, y2, ⟨k, u, u2⟩ | ⟨k, u, ue, u2⟩⟩
          · rw [u2, LG_earO_0 (fun q0 => q0.elim k4 k7)]
            rfl
          · rw [u2, LG_earO_n y2, if_pos (by rcases k with k | k <;> simp [k]), map_A1 (fun w e => (latO_some e).1)]
          · rw [u2, LG_earO_0 (by rcases k with k | k <;> rw [k] <;> decide)]
            rfl
  · obtain ⟨g1, g2⟩ := G g hg
    have v1 : vld L n ng 1 g := Or.inr (Or.inl ⟨Or.inl rfl, hg⟩)
    have v2 : vld L n ng 2 g := Or.inr (Or.inl ⟨Or.inr (Or.inl rfl), hg⟩)
    have v3 : vld L n ng 3 g := Or.inr (Or.inl ⟨Or.inr (Or.inr rfl), hg⟩)
    have same : ∀ i x, vld L n ng i x → hk h (A i x) ≠ some (3, 0) → (∀ k, hI h' (A i x) k = hI h (A i x) k) ∧ (∀ k, hJ h' (A i x) k = hJ h (A i x) k) ∧ (∀ k, hR h' (A i x) k = hR h (A i x) k) ∧ hk h' (A i x) = hk h (A i x) := by
      intro i x w hk0
      have w1 := hAz i x w
      have w2 := (D.1 i x w).1
      refine ⟨fun k => ?_, fun k => f4 _ _ w1, fun k => hud _ _ w1 (pk i x w hk0) (by omega), kk _ w1⟩
      rw [f3 _ _ w1, if_neg (by omega)]
    refine ⟨?_, ?_⟩
    · rw [hud _ _ (hsm 1 (by omega)) (fun y hy => hA0 1 (by omega) y hy) (by omega), A1_o A n _ (by decide)]; exact g1
    · obtain ⟨e1, e2, e3, ⟨j, j1, j2, j3, j4⟩, e5, m, e6, e7, e8⟩ := g2
      obtain ⟨b1, b2, b3, b4⟩ := same 1 g v1 (by rw [e1]; decide)
      obtain ⟨c1, c2, c3, c4⟩ := same 2 g v2 (by rw [j3]; intro q0; have := congrArg Prod.fst (Option.some.inj q0); exact absurd (show (10 : Nat) = 3 from this) (by decide))
      obtain ⟨d1, d2, d3, d4⟩ := same 3 g v3 (by rw [e5]; decide)
      unfold GOK
      simp only [A1_o A n _ (show 1 ≠ 0 by decide), A1_o A n _ (show 2 ≠ 0 by decide), A1_o A n _ (show 3 ≠ 0 by decide), A1_o A n _ (show 4 ≠ 0 by decide), b1, b3, b4, c1, c4, d3, d4, LG_o (show 1 < 6 ∨ 15 < 1 by omega) (show ¬ (1 = 0 ∧ g = 8) by omega), LG_o (show 2 < 6 ∨ 15 < 2 by omega) (show ¬ (2 = 0 ∧ g = 8) by omega), LG_o (show 3 < 6 ∨ 15 < 3 by omega) (show ¬ (3 = 0 ∧ g = 8) by omega), LG_o (show 4 < 6 ∨ 15 < 4 by omega) (show ¬ (4 = 0 ∧ g = 8) by omega), LG_o (show 18 < 6 ∨ 15 < 18 by omega) (show ¬ (18 = 0 ∧ g = 8) by omega)]
      refine ⟨e1, e2, e3, ⟨j, j1, j2, j3, fun a ha => ?_⟩, e5, m, e6, e7, fun x hx => ?_⟩
      · rw [LG_o (by omega) (by omega)]; exact j4 a ha
      · obtain ⟨x1, x2, x3, x4⟩ := e8 x hx
        refine ⟨x1, ?_⟩
        have hm : (L.1 18 g).toNatClampNeg = m := by rw [e7]; exact nI_clamp (by omega)
        have v4 : vld L n ng 4 (8 * g + x) := Or.inr (Or.inr (Or.inl ⟨rfl, g, x, hg, rfl, by omega⟩))
        obtain ⟨y1, y2, y3, y4⟩ := same 4 _ v4 (by rw [x2]; decide)
        unfold XOK
        simp only [A1_o A n _ (show 4 ≠ 0 by decide), A1_o A n _ (show 5 ≠ 0 by decide), y1, y3, y4, LG_o (show 19 < 6 ∨ 15 < 19 by omega) (show ¬ (19 = 0 ∧ 8 * g + x = 8) by omega), LG_o (show 20 < 6 ∨ 15 < 20 by omega) (show ¬ (20 = 0 ∧ 8 * g + x = 8) by omega), LG_2o (show 21 ≠ 16 by decide)]
        refine ⟨x2, x3, ?_⟩
        rcases x4 with q0 | ⟨s, q1, q2, q3, q4, q5⟩
        · exact Or.inl q0
        · have v5 : vld L n ng 5 (8 * g + x) := Or.inr (Or.inr (Or.inr ⟨rfl, ⟨g, x, hg, rfl, by omega⟩, by rw [q2]; exact nI_m1 (by omega)⟩))
          obtain ⟨z1, z2, z3, z4⟩ := same 5 _ v5 (by rw [q4]; intro q0; have := congrArg Prod.fst (Option.some.inj q0); exact absurd (show (11 : Nat) = 3 from this) (by decide))
          refine Or.inr ⟨s, q1, q2, q3, by rw [z4]; exact q4, fun i hi => by rw [z2]; exact q5 i hi⟩
  · rcases vl i x w with q | ⟨rfl, rfl⟩
    · rw [av i x q, f1]
      have := D.1 i x q
      omega
    · rw [A1_n, f1]
      omega
  · rcases vl i x w1 with q | ⟨rfl, rfl⟩
    · rcases vl i y w2 with q' | ⟨rfl, rfl⟩
      · rw [av i x q, av i y q'] at e
        exact D.2 i x y q q' e
      · rw [av 0 x q, A1_n] at e
        exact absurd e (hAz 0 x q)
    · rcases vl 0 y w2 with q' | ⟨-, rfl⟩
      · rw [av 0 y q', A1_n] at e
        exact absurd e.symm (hAz 0 y q')
      · rfl
end LP
