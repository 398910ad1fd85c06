/-! PURE 39: what leaves the PAPERS alone -/
def T3 (L L' : LM) : LM := (fun q k => if q = 3 then L.1 3 k else L'.1 q k, L'.2)
theorem T3_o (L L' : LM) {q : Nat} (hq : q ≠ 3) : (T3 L L').1 q = L'.1 q := by
  funext k
  show (if q = 3 then L.1 3 k else L'.1 q k) = _
  rw [if_neg hq]
theorem ora_cg {n : Nat} (hn : n ≤ 400) {f g : Nat → Nat} {v : Int32} (hv : v = -1 ∨ ∃ i, i < n ∧ v = nI i) (e : ∀ i, i < n → f i = g i) : ora f v = ora g v := by
  rcases hv with rfl | ⟨i, hi, rfl⟩
  · rfl
  · rw [ora_nI _ (by omega), ora_nI _ (by omega), e i hi]
theorem map_cg {n : Nat} {f g : Nat → Nat} {o : Option Nat} (ho : ∀ y, o = some y → y < n) (e : ∀ i, i < n → f i = g i) : o.map f = o.map g := by
  cases o with
  | none => rfl
  | some y => simp only [Option.map_some]; rw [e y (ho y rfl)]
section PA
variable {c : Nat} {L : LM} {n np ng : Nat} {A : Nat → Nat → Nat} {h : AH}
theorem COK_pap (C : COK c L n np ng A h) (F : WF L n np ng) (hn : n ≤ 400) (hng : ng ≤ 10) {L' : LM} {h' : AH} {np' ng' : Nat} {A' : Nat → Nat → Nat} (hB : BOK c h') (s4 : hI h' c 4 = nI ng') (s5 : hI h' c 5 = nI np') (s6 : hI h' c 6 = L'.1 0 0) (s1 : hI h' (c + 2) 1 = nI n) (E : ∀ q, 6 ≤ q → q ≤ 15 → ∀ k, k < n → L'.1 q k = L.1 q k) (E2 : ∀ k, k < n → L'.2 16 k = L.2 16 k) (a0 : ∀ x, x < n → A' 0 x = A 0 x) (a1 : ∀ g, g < ng → A' 1 g = A 1 g) (r3 : ∀ x, x < n → hR h' (c + 3) x = hR h (c + 3) x) (sm : ∀ x, x < n → hk h' (A 0 x) = hk h (A 0 x) ∧ (∀ k, hI h' (A 0 x) k = hI h (A 0 x) k) ∧ (∀ k, hJ h' (A 0 x) k = hJ h (A 0 x) k) ∧ ∀ k, hR h' (A 0 x) k = hR h (A 0 x) k) (G : ∀ g, g < ng' → hR h' (c + 1) g = some (A' 1 g) ∧ GOK L' A' h' g) (D : ADK c L' n ng' A' h') : COK c L' n np' ng' A' h' := by
  refine ⟨hB, ⟨s4, s5, s6, s1⟩, fun x hx => ?_, G, D⟩
  obtain ⟨p1, a1', a2, a3, a4, a5, a6, a7, a8, a9⟩ := C.2.2.1 x hx
  obtain ⟨m1, m2, m3, m4⟩ := sm x hx
  have ET : EqP n L (T3 L L') := ⟨fun q h1 h2 k hk => by rw [T3_o L L' (by omega)]; exact E q h1 h2 k hk, fun k hk => E2 k hk, fun _ _ _ => rfl⟩
  have e12 : endO L' n x = endO L n x := by
    rw [← EqP_endO ET]
    unfold endO isE
    simp only [T3_o L L' (show 6 ≠ 3 by decide), T3_o L L' (show 11 ≠ 3 by decide)]
  have e13 : latO L' n x = latO L n x := by
    rw [← EqP_latO ET]
    unfold latO isA
    simp only [T3_o L L' (show 6 ≠ 3 by decide), T3_o L L' (show 11 ≠ 3 by decide)]
  have e14 : earO L' x = earO L x := by
    rw [← EqP_earO ET hx]
    unfold earO isA
    simp only [T3_o L L' (show 6 ≠ 3 by decide), T3_o L L' (show 11 ≠ 3 by decide)]
  have v8 : L.1 8 x = -1 ∨ ∃ g, g < ng ∧ L.1 8 x = nI g := by
    obtain ⟨⟨-, h9, hn9⟩, -⟩ := F x hx
    by_cases q : L.1 6 x = 9
    · exact Or.inl (h9 q).2
    · exact Or.inr (hn9 q).2.1
  have v11 : L.1 11 x = -1 ∨ ∃ i, i < n ∧ L.1 11 x = nI i := by
    rcases F.nmv hx with q | ⟨i, hi, e⟩
    · exact Or.inl q
    · exact Or.inr ⟨i, by omega, e⟩
  refine ⟨by rw [r3 x hx, a0 x hx]; exact p1, ?_⟩
  unfold POK
  rw [a0 x hx]
  refine ⟨by rw [m1]; exact a1', ?_, ?_, ?_, ?_, ?_, ?_, ?_, ?_⟩
  · simp only [m2]
    rw [E 6 (by omega) (by omega) x hx, E 7 (by omega) (by omega) x hx, E 9 (by omega) (by omega) x hx, E 10 (by omega) (by omega) x hx, E 13 (by omega) (by omega) x hx, E 14 (by omega) (by omega) x hx, E 15 (by omega) (by omega) x hx]
    exact a2
  · rw [m3, E2 x hx]; exact a3
  · rw [m4, E 8 (by omega) (by omega) x hx, ora_cg (n := ng) (by omega) v8 a1]; exact a4
  · rw [m4, E 11 (by omega) (by omega) x hx, ora_cg (n := n) (by omega) v11 a0]; exact a5
  · rw [m4, E 12 (by omega) (by omega) x hx, ora_cg (n := n) (by omega) (F.ofv hx) a0]; exact a6
  · rw [m4, e12, map_cg (n := n) (fun y hy => (endO_some hy).1) a0]; exact a7
  · rw [m4, e13, map_cg (n := n) (fun y hy => (latO_some hy).1) a0]; exact a8
  · rw [m4, e14, map_cg (n := n) (fun y hy => by have := earO_lt hy; omega) a0]; exact a9
/-- the number of an AGREEMENT's ANNEXES -/
theorem COK.an (C : COK c L n np ng A h) {g : Nat} (hg : g < ng) : ∃ m, m ≤ 8 ∧ L.1 18 g = nI m ∧ (L.1 18 g).toNatClampNeg = m ∧ ∀ x, x < m → hR h (A 3 g) x = some (A 4 (8 * g + x)) ∧ XOK L A h (8 * g + x) := by
  obtain ⟨-, -, -, -, -, m, e6, e7, e8⟩ := (C.2.2.2.1 g hg).2
  exact ⟨m, e6, e7, by rw [e7]; exact nI_clamp (by omega), e8⟩
theorem COK.v4 (C : COK c L n np ng A h) {g x m : Nat} (hg : g < ng) (hm : L.1 18 g = nI m) (hm8 : m ≤ 8) (hx : x < m) : vld L n ng 4 (8 * g + x) := Or.inr (Or.inr (Or.inl ⟨rfl, g, x, hg, rfl, by rw [hm, nI_clamp (by omega)]; exact hx⟩))
theorem COK.v5 (C : COK c L n np ng A h) {g x m : Nat} (hg : g < ng) (hm : L.1 18 g = nI m) (hm8 : m ≤ 8) (hx : x < m) (h20 : ¬ L.1 20 (8 * g + x) = -1) : vld L n ng 5 (8 * g + x) := Or.inr (Or.inr (Or.inr ⟨rfl, ⟨g, x, hg, rfl, by rw [hm, nI_clamp (by omega)]; exact hx⟩, h20⟩))
/-- one ANNEX alone is changed -/
theorem COK_ann (C : COK c L n np ng A h) (F : WF L n np ng) (hn : n ≤ 400) (hng : ng ≤ 10) {L' : LM} {h' : AH} {g0 x0 m0 : Nat} (hg0 : g0 < ng) (hm0 : L.1 18 g0 = nI m0) (hm8 : m0 ≤ 8) (hx0 : x0 < m0) (z1 : hz h' = hz h) (k1 : hk h' = hk h) (i1 : hI h' = hI h) (r1 : ∀ a k, a ≠ A 4 (8 * g0 + x0) → hR h' a k = hR h a k) (j1 : ∀ a k, a ≠ A 5 (8 * g0 + x0) ∨ L.1 20 (8 * g0 + x0) = -1 → hJ h' a k = hJ h a k) (l1 : ∀ q k, (q ≠ 20 ∨ k ≠ 8 * g0 + x0) → L'.1 q k = L.1 q k) (l2 : ∀ k, L'.2 16 k = L.2 16 k) (l21 : ∀ b i, b ≠ 8 * g0 + x0 → i < 100 → L'.2 21 (100 * b + i) = L.2 21 (100 * b + i)) (l20 : ¬ L'.1 20 (8 * g0 + x0) = -1 → ¬ L.1 20 (8 * g0 + x0) = -1) (X : XOK L' A h' (8 * g0 + x0)) : COK c L' n np ng A h' := by
  obtain ⟨B, ⟨s4, s5, s6, s1⟩, P, G, D⟩ := id C
  have v4 := C.v4 hg0 hm0 hm8 hx0
  obtain ⟨m', hm', em', -, xs⟩ := C.an hg0
  have x0k := xs x0 (by rw [em'] at hm0; have := nI_inj (by omega) (by omega) hm0; omega)
  have lo4 := (D.1 4 _ v4).1
  have l18 : ∀ k, L'.1 18 k = L.1 18 k := fun k => l1 18 k (Or.inl (by decide))
  have vl : ∀ i x, vld L' n ng i x → vld L n ng i x := by
    intro i x
    unfold vld
    simp only [l18]
    rintro (w | w | w | ⟨w1, w2, w3⟩)
    · exact Or.inl w
    · exact Or.inr (Or.inl w)
    · exact Or.inr (Or.inr (Or.inl w))
    · refine Or.inr (Or.inr (Or.inr ⟨w1, w2, ?_⟩))
      by_cases q : x = 8 * g0 + x0
      · rw [q] at w3 ⊢; exact l20 w3
      · rw [l1 20 x (Or.inr q)] at w3; exact w3
  have k4 : hk h (A 4 (8 * g0 + x0)) = some (1, 0) := x0k.2.1
  have k5 : ¬ L.1 20 (8 * g0 + x0) = -1 → ∃ s, hk h (A 5 (8 * g0 + x0)) = some (11, s) := by
    intro q
    rcases x0k.2.2.2 with ⟨w, -⟩ | ⟨s, -, -, -, w, -⟩
    · exact absurd w q
    · exact ⟨s, w⟩
  have n4 : ∀ a, hk h a ≠ some (1, 0) → a ≠ A 4 (8 * g0 + x0) := fun a ha e => ha (by rw [e]; exact k4)
  have n5 : ∀ a, (∀ s, hk h a ≠ some (11, s)) → a ≠ A 5 (8 * g0 + x0) ∨ L.1 20 (8 * g0 + x0) = -1 := by
    intro a ha
    by_cases q : L.1 20 (8 * g0 + x0) = -1
    · exact Or.inr q
    · obtain ⟨s, w⟩ := k5 q
      exact Or.inl (fun e => ha s (by rw [e]; exact w))
  refine COK_pap C F hn hng ⟨fun p hp => by rw [k1]; exact B.1 p hp, fun p k o fo => ?_⟩ (by rw [i1]; exact s4) (by rw [i1]; exact s5) (by rw [i1, l1 0 0 (Or.inl (by decide))]; exact s6) (by rw [i1]; exact s1) (fun q h1 h2 k hk => l1 q k (Or.inl (by omega))) (fun k hk => l2 k) (fun x _ => rfl) (fun g _ => rfl) (fun x hx => r1 _ _ (by omega)) (fun x hx => ⟨by rw [k1], fun k => by rw [i1], fun k => j1 _ _ (n5 _ (fun s e => by rw [C.kp hx] at e; cases e)), fun k => r1 _ _ (n4 _ (fun e => by rw [C.kp hx] at e; cases e))⟩) (fun g hg => ?_) ⟨fun i x w => by rw [z1]; exact D.1 i x (vl i x w), fun i x y w1 w2 e => D.2 i x y (vl i x w1) (vl i y w2) e⟩
  · have hp : p < 14 := by
      unfold fx at fo
      split at fo <;> first | omega | cases fo
    rw [r1 _ _ (by omega)]
    exact B.2 p k o fo
  · obtain ⟨g1, e1, e2, e3, ⟨j, e41, e42, e43, e44⟩, e5, m, e6, e7, e8⟩ := G g hg
    refine ⟨by rw [r1 _ _ (by omega)]; exact g1, ?_⟩
    unfold GOK
    have n1 := n4 (A 1 g) (fun e => by rw [e1] at e; cases e)
    have n3 := n4 (A 3 g) (fun e => by rw [e5] at e; cases e)
    simp only [k1, i1, r1 _ _ n1, r1 _ _ n3, l18, l1 1 _ (Or.inl (by decide)), l1 2 _ (Or.inl (by decide)), l1 3 _ (Or.inl (by decide)), l1 4 _ (Or.inl (by decide)), l1 5 _ (Or.inl (by decide))]
    refine ⟨e1, e2, e3, ⟨j, e41, e42, e43, e44⟩, e5, m, e6, e7, fun x hx => ?_⟩
    obtain ⟨f1, f2⟩ := e8 x hx
    refine ⟨f1, ?_⟩
    by_cases q : 8 * g + x = 8 * g0 + x0
    · rw [q]; exact X
    · have w4 := C.v4 hg e7 e6 hx
      have a4 : A 4 (8 * g + x) ≠ A 4 (8 * g0 + x0) := fun e => q (D.2 4 _ _ w4 v4 e)
      unfold XOK at f2 ⊢
      obtain ⟨f3, f4, f5⟩ := f2
      rw [k1, i1, r1 _ _ a4, l1 19 _ (Or.inl (by decide)), l1 20 _ (Or.inr q)]
      refine ⟨f3, f4, ?_⟩
      rcases f5 with f5 | ⟨s, f5, f6, f7, f8, f9⟩
      · exact Or.inl f5
      · refine Or.inr ⟨s, f5, f6, f7, f8, fun i hi => ?_⟩
        have w5 := C.v5 hg e7 e6 hx (by rw [f6]; exact nI_m1 (by omega))
        have a5 : A 5 (8 * g + x) ≠ A 5 (8 * g0 + x0) ∨ L.1 20 (8 * g0 + x0) = -1 := by
          by_cases q2 : L.1 20 (8 * g0 + x0) = -1
          · exact Or.inr q2
          · exact Or.inl (fun e => q (D.2 5 _ _ w5 (C.v5 hg0 hm0 hm8 hx0 q2) e))
        rw [j1 _ _ a5, l21 _ _ q (by omega)]
        exact f9 i hi
/-- the ANNEX at a place -/
theorem c_anAt (C : COK c L n np ng A h) (W : MW L n np ng) (g x : Int32) : f_X7_annexAt c g x h = some (if anB L g x = true then some (A 4 (8 * g.toNatClampNeg + x.toNatClampNeg)) else none) := by
  obtain ⟨w1, hn, w3, w4, w5, hnp, w7, hng, w9⟩ := id W
  unfold f_X7_annexAt anB
  simp only [cck7 C, c_agAt C hng, Option.bind_some, w7]
  cases c1 : inR g (nI ng)
  · simp
  · obtain ⟨g', hg, rfl⟩ := inR_of (by omega) c1
    obtain ⟨m, m1, m2, m3, m4⟩ := C.an hg
    simp only [if_true, nIt (show g' < 1000 by omega), cckG C hg, Option.bind_some, Bool.true_and]
    rw [if_neg (by simp)]
    unfold f_X0_annexAt inR
    rw [m2]
    by_cases c2 : x < 0
    · simp [c2]
    · simp only [if_neg c2, cG6 C hg, m2, Option.bind_some]
      by_cases c3 : nI m ≤ x
      · simp [c2, c3]
      · obtain ⟨x', hx, rfl⟩ := inR_of (x := x) (n := m) (by omega) (by simp [inR, c2, c3])
        have k5 : hk h (A 3 g') = some (15, 8) := by
          obtain ⟨-, -, -, -, e5, -⟩ := (C.2.2.2.1 g' hg).2
          exact e5
        simp only [if_neg c3, cG5 C hg, al_k k5 (by decide), lR_k k5 (show x' < 8 by omega) (by decide), (m4 x' hx).1, Option.bind_some, nIt (show x' < 1000 by omega)]
        rw [if_neg (nI_ge (by omega) (by omega))]
        simp [c2, c3]
end PA
