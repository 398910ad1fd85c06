/-! PURE 41: article, annex -/
theorem XOK_tr {L L' : LM} {A A' : Nat → Nat → Nat} {h h' : AH} {b : Nat} (X : XOK L A h b) (a4 : A' 4 b = A 4 b) (a5 : ¬ L.1 20 b = -1 → A' 5 b = A 5 b) (s4 : hk h' (A 4 b) = hk h (A 4 b) ∧ (∀ k, hI h' (A 4 b) k = hI h (A 4 b) k) ∧ ∀ k, hR h' (A 4 b) k = hR h (A 4 b) k) (s5 : ¬ L.1 20 b = -1 → hk h' (A 5 b) = hk h (A 5 b) ∧ ∀ k, hJ h' (A 5 b) k = hJ h (A 5 b) k) (l19 : L'.1 19 b = L.1 19 b) (l20 : L'.1 20 b = L.1 20 b) (l21 : ∀ i, i < 100 → L'.2 21 (100 * b + i) = L.2 21 (100 * b + i)) : XOK L' A' h' b := by
  obtain ⟨X1, X2, X3⟩ := X
  unfold XOK
  rw [a4, s4.1, s4.2.1, s4.2.2, l19, l20]
  refine ⟨X1, X2, ?_⟩
  rcases X3 with w | ⟨s, hs, e, r, k, v⟩
  · exact Or.inl w
  · have q : ¬ L.1 20 b = -1 := by rw [e]; exact nI_m1 (by omega)
    rw [a5 q, (s5 q).1]
    exact Or.inr ⟨s, hs, e, r, k, fun i hi => by rw [(s5 q).2, l21 i (by omega)]; exact v i hi⟩
theorem GOK_tr {L L' : LM} {A A' : Nat → Nat → Nat} {h h' : AH} {g : Nat} (G : GOK L A h g) (a : A' 1 g = A 1 g ∧ A' 2 g = A 2 g ∧ A' 3 g = A 3 g) (s1 : hk h' (A 1 g) = hk h (A 1 g) ∧ (∀ k, k < 6 → hI h' (A 1 g) k = hI h (A 1 g) k) ∧ ∀ k, hR h' (A 1 g) k = hR h (A 1 g) k) (s2 : hk h' (A 2 g) = hk h (A 2 g) ∧ ∀ j, j < 20 → hI h (A 2 g) j = L.1 5 (20 * g + j) → hI h' (A 2 g) j = L'.1 5 (20 * g + j)) (s3 : hk h' (A 3 g) = hk h (A 3 g)) (r : L'.1 1 g = L.1 1 g ∧ L'.1 2 g = L.1 2 g ∧ L'.1 3 g = L.1 3 g ∧ L'.1 4 g = L.1 4 g) (x : ∃ m, m ≤ 8 ∧ L'.1 18 g = nI m ∧ hI h' (A 1 g) 6 = nI m ∧ ∀ y, y < m → hR h' (A 3 g) y = some (A' 4 (8 * g + y)) ∧ XOK L' A' h' (8 * g + y)) : GOK L' A' h' g := by
  obtain ⟨e1, ⟨e20, e21, e22, e23, -⟩, ⟨e31, e32⟩, ⟨j, e41, e42, e43, e44⟩, e5, -⟩ := G
  obtain ⟨m, m1, m2, m3, m4⟩ := x
  unfold GOK
  rw [a.1, a.2.1, a.2.2, s1.1, s1.2.1 0 (by decide), s1.2.1 1 (by decide), s1.2.1 2 (by decide), s1.2.1 3 (by decide), s1.2.2, s1.2.2, s2.1, s3, r.1, r.2.1, r.2.2.1, r.2.2.2]
  exact ⟨e1, ⟨e20, e21, e22, e23, by rw [m3, m2]⟩, ⟨e31, e32⟩, ⟨j, e41, e42, e43, fun a' ha => s2.2 a' (by omega) (e44 a' ha)⟩, e5, m, m1, m2, m4⟩
section AR
variable {c : Nat} {L : LM} {n np ng : Nat} {A : Nat → Nat → Nat} {h : AH}
theorem COK.k2 (C : COK c L n np ng A h) {g : Nat} (hg : g < ng) : ∃ j, j ≤ 20 ∧ L.1 1 g = nI j ∧ hk h (A 2 g) = some (10, j) := by
  obtain ⟨-, -, -, ⟨j, e41, e42, e43, e44⟩, -⟩ := (C.2.2.2.1 g hg).2
  exact ⟨j, e41, e42, e43⟩
theorem COK.k3 (C : COK c L n np ng A h) {g : Nat} (hg : g < ng) : hk h (A 3 g) = some (15, 8) := by
  obtain ⟨-, -, -, -, e5, -⟩ := (C.2.2.2.1 g hg).2
  exact e5
theorem COK.v (_ : COK c L n np ng A h) {g i : Nat} (hi : i = 1 ∨ i = 2 ∨ i = 3) (hg : g < ng) : vld L n ng i g := Or.inr (Or.inl ⟨hi, hg⟩)
theorem c_reword (C : COK c L n np ng A h) {g a : Nat} (hg : g < ng) {j : Nat} (ej : L.1 1 g = nI j) (hj : j ≤ 20) (ha : a < j) (s : Int32) : f_X0_reword (A 1 g) (nI a) s h = some (L.1 5 (20 * g + a), sI h (A 2 g) a s) := by
  obtain ⟨-, -, -, ⟨j', e41, e42, e43, e44⟩, -⟩ := (C.2.2.2.1 g hg).2
  obtain rfl : j' = j := nI_inj (by omega) (by omega) (by rw [← e42, ej])
  unfold f_X0_reword
  rw [if_neg (nI_pos (by omega))]
  simp only [cG4 C hg, al_k e43 (by decide), lI_k e43 ha (by omega), stI_k e43 ha (by omega), Option.bind_some, e44 a ha]
  rw [if_pos (nI_lt ha (by omega))]
theorem COK_art (C : COK c L n np ng A h) (F : WF L n np ng) (W : MW L n np ng) {g a : Nat} (hg : g < ng) (ha : a < 20) (s : Int32) : COK c (LI L 5 (20 * g + a) s) n np ng A (sI h (A 2 g) a s) := by
  obtain ⟨B, ⟨s4, s5, s6, s1⟩, P, G, D⟩ := id C
  obtain ⟨j, -, -, k2⟩ := C.k2 hg
  have lo := (D.1 2 g (C.v (Or.inr (Or.inl rfl)) hg)).1
  have ne : ∀ b, hk h b ≠ some (10, j) → b ≠ A 2 g := fun b hb e => hb (by rw [e]; exact k2)
  have io : ∀ b k, b ≠ A 2 g → hI (sI h (A 2 g) a s) b k = hI h b k := fun b k hb => by rw [hI_sI, if_neg (fun w => hb w.1)]
  have vl : ∀ i x, vld (LI L 5 (20 * g + a) s) n ng i x ↔ vld L n ng i x := by
    intro i x
    unfold vld
    simp only [LI1]
    simp
  refine COK_pap C F W.2.1 W.2.2.2.2.2.2.2.1 ⟨B.1, B.2⟩ (by rw [io _ _ (by omega)]; exact s4) (by rw [io _ _ (by omega)]; exact s5) (by rw [io _ _ (by omega), LI1, if_neg (by omega)]; exact s6) (by rw [io _ _ (by omega)]; exact s1) (fun q h1 h2 k hk => by rw [LI1, if_neg (by omega)]) (fun _ _ => rfl) (fun _ _ => rfl) (fun _ _ => rfl) (fun _ _ => rfl) (fun x hx => ⟨rfl, fun k => io _ _ (ne _ (by rw [C.kp hx]; intro e; cases e)), fun _ => rfl, fun _ => rfl⟩) (fun g2 hg2 => ⟨(G g2 hg2).1, ?_⟩) ⟨fun i x w => D.1 i x ((vl i x).mp w), fun i x y w1 w2 e => D.2 i x y ((vl i x).mp w1) ((vl i y).mp w2) e⟩
  obtain ⟨m, m1, m2, m3, m4⟩ := C.an hg2
  have n1 := ne (A 1 g2) (by rw [C.kg hg2]; intro e; cases e)
  refine GOK_tr (G g2 hg2).2 ⟨rfl, rfl, rfl⟩ ⟨rfl, fun k _ => io _ _ n1, fun _ => rfl⟩ ⟨rfl, fun y hy e => ?_⟩ rfl ⟨by rw [LI1, if_neg (by omega)], by rw [LI1, if_neg (by omega)], by rw [LI1, if_neg (by omega)], by rw [LI1, if_neg (by omega)]⟩ ⟨m, m1, by rw [LI1, if_neg (by omega)]; exact m2, by rw [io _ _ n1, ← m2]; exact (G g2 hg2).2.2.1.2.2.2.2, fun y hy => ⟨(m4 y hy).1, XOK_tr (m4 y hy).2 rfl (fun _ => rfl) ⟨rfl, fun k => io _ _ (ne _ (by rw [(m4 y hy).2.1]; intro e; cases e)), fun _ => rfl⟩ (fun _ => ⟨rfl, fun _ => rfl⟩) (by rw [LI1, if_neg (by omega)]) (by rw [LI1, if_neg (by omega)]) (fun _ _ => rfl)⟩⟩
  by_cases w : g2 = g
  · subst w
    rw [hI_sI, LI1]
    by_cases w2 : y = a
    · rw [if_pos ⟨rfl, w2⟩, if_pos ⟨rfl, by omega⟩]
    · rw [if_neg (fun u => w2 u.2), if_neg (by omega)]
      exact e
  · have : A 2 g2 ≠ A 2 g := fun u => w (D.2 2 g2 g (C.v (Or.inr (Or.inl rfl)) hg2) (C.v (Or.inr (Or.inl rfl)) hg) u)
    rw [io _ _ this, LI1, if_neg (by omega)]
    exact e
theorem c_article (C : COK c L n np ng A h) (F : WF L n np ng) (W : MW L n np ng) (g a s : Int32) : ∃ h', f_X7_article c g a s h = some ((U_article L n g a s).1, h') ∧ OUT c np ng h (U_article L n g a s).2 h' := by
  obtain ⟨w1, hn, w3, w4, w5, hnp, w7, hng, w9⟩ := id W
  unfold f_X7_article U_article
  rw [arB_eq W]
  simp only [cck7 C, c_agAt C hng, Option.bind_some]
  cases c1 : inR g (nI ng)
  · exact ⟨h, by simp, by simpa using OUT_same C W⟩
  · obtain ⟨g', hg, rfl⟩ := inR_of (by omega) c1
    simp only [if_true, nIt (show g' < 1000 by omega), cckG C hg, c_hasArt C hg, c_isFrom, Option.bind_some, b2i_z, Bool.true_and]
    rw [if_neg (by simp)]
    obtain ⟨j, j1, j2, j3⟩ := C.k2 hg
    rw [j2]
    cases c2 : inR a (nI j)
    · exact ⟨h, by simp, by simpa using OUT_same C W⟩
    · obtain ⟨a', ha, rfl⟩ := inR_of (by omega) c2
      simp only [Bool.true_and]
      have eb : (decide (¬ s < 1) && decide (¬ (1000000 : Int32) < s)) = (decide (¬ s < 1) && decide (s ≤ 1000000)) := by
        congr 1
        by_cases q : s ≤ 1000000
        · have : ¬ (1000000 : Int32) < s := fun w => not_lt_le.mpr q w
          simp [q, this]
        · have : (1000000 : Int32) < s := by
            rcases Classical.em ((1000000 : Int32) < s) with w | w
            · exact w
            · exact absurd (not_lt_le.mp w) q
          simp [q, this]
      rw [eb]
      generalize (decide (¬ s < 1) && decide (s ≤ 1000000)) = b
      cases b
      · exact ⟨h, by simp, by simpa using OUT_same C W⟩
      · simp only [cH1 C, cck4 C, c_hasAny C F hn hng hg, Option.bind_some, b2i_z, if_true, cckG C hg, c_reword C hg j2 j1 ha, nIt (show a' < 1000 by omega)]
        rw [if_neg (by simp)]
        by_cases c3 : anyAb L n (nI g') = true
        · refine ⟨h, by rw [c3]; simp, ?_⟩
          rw [c3, if_pos rfl]
          exact OUT_same C W
        · rw [bf c3]
          refine ⟨_, by simp; rfl, ?_⟩
          rw [if_neg (by simp)]
          refine OUT_ck hn (A' := A) (COK_art C F W hg (show a' < 20 by omega) s) ?_ ⟨Nat.le_refl _, fun b _ b2 => ⟨rfl, fun k => ?_, fun _ => rfl, fun _ => rfl⟩⟩
          · rw [LI1, if_neg (by omega)]; exact w1
          · have lo := (C.2.2.2.2.1 2 g' (C.v (Or.inr (Or.inl rfl)) hg)).1
            rw [hI_sI, if_neg (by omega)]
end AR
