/-! PURE 34: party, clock -/
section CY
variable {c : Nat} {L L' : LM} {n np np' ng : Nat} {A : Nat → Nat → Nat} {h h' : AH}
/-- the house's own ints apart, all is as it was -/
theorem COK_c (C : COK c L n np ng A h) (i1 : ∀ b k, b ≠ c → hI h' b k = hI h b k) (k1 : hk h' = hk h) (j1 : hJ h' = hJ h) (r1 : hR h' = hR h) (z1 : hz h' = hz h) (l1 : ∀ q, q ≠ 0 → L'.1 q = L.1 q) (l2 : L'.2 = L.2) (s4 : hI h' c 4 = nI ng) (s5 : hI h' c 5 = nI np') (s6 : hI h' c 6 = L'.1 0 0) : COK c L' n np' ng A h' := by
  obtain ⟨B, ⟨-, -, -, t4⟩, P, G, D⟩ := C
  have hi : ∀ i x k, vld L n ng i x → hI h' (A i x) k = hI h (A i x) k := fun i x k w => i1 _ k (by have := (D.1 i x w).1; omega)
  have E : EqP n L L' := ⟨fun q h1 _ k _ => by rw [l1 q (by omega)], fun k _ => by rw [l2], fun _ _ _ => by rw [l1 3 (by decide)]⟩
  have vl : ∀ i x, vld L' n ng i x ↔ vld L n ng i x := by
    intro i x
    unfold vld
    rw [l1 18 (by decide), l1 20 (by decide)]
  refine ⟨⟨fun p hp => by rw [k1]; exact B.1 p hp, fun p k o f => by rw [r1]; exact B.2 p k o f⟩, ⟨s4, s5, s6, by rw [i1 _ _ (by omega)]; exact t4⟩, fun x hx => ?_, fun g hg => ?_, ⟨fun i x w => by rw [z1]; exact D.1 i x ((vl i x).mp w), fun i x y w1 w2 e => D.2 i x y ((vl i x).mp w1) ((vl i y).mp w2) e⟩⟩
  · obtain ⟨p1, p2⟩ := P x hx
    refine ⟨by rw [r1]; exact p1, ?_⟩
    have v : vld L n ng 0 x := Or.inl ⟨rfl, hx⟩
    unfold POK at p2 ⊢
    simp only [k1, j1, r1, hi 0 x _ v, l1 6 (by decide), l1 7 (by decide), l1 8 (by decide), l1 9 (by decide), l1 10 (by decide), l1 11 (by decide), l1 12 (by decide), l1 13 (by decide), l1 14 (by decide), l1 15 (by decide), l2, EqP_endO E, EqP_latO E, EqP_earO E hx]
    exact p2
  · obtain ⟨g1, g2⟩ := G g hg
    refine ⟨by rw [r1]; exact g1, ?_⟩
    have v1 : vld L n ng 1 g := Or.inr (Or.inl ⟨Or.inl rfl, hg⟩)
    have v2 : vld L n ng 2 g := Or.inr (Or.inl ⟨Or.inr (Or.inl rfl), hg⟩)
    unfold GOK at g2 ⊢
    simp only [k1, r1, hi 1 g _ v1, hi 2 g _ v2, l1 1 (by decide), l1 2 (by decide), l1 3 (by decide), l1 4 (by decide), l1 5 (by decide), l1 18 (by decide)]
    obtain ⟨e1, e2, e3, e4, e5, m, e6, e7, e8⟩ := g2
    refine ⟨e1, e2, e3, e4, e5, m, e6, e7, fun x hx => ?_⟩
    obtain ⟨f1, f2⟩ := e8 x hx
    have hm : (L.1 18 g).toNatClampNeg = m := by rw [e7]; exact nI_clamp (by omega)
    have v4 : vld L n ng 4 (8 * g + x) := Or.inr (Or.inr (Or.inl ⟨rfl, g, x, hg, rfl, by omega⟩))
    refine ⟨f1, ?_⟩
    unfold XOK at f2 ⊢
    simp only [k1, j1, r1, hi 4 _ _ v4, l1 19 (by decide), l1 20 (by decide), l2]
    exact f2
theorem KEP_c {f : Nat} {v : Int32} : KEP c h (sI h c f v) := ⟨Nat.le_refl _, fun b b1 _ => ⟨rfl, fun k => by rw [hI_sI, if_neg (fun w => by omega)], fun _ => rfl, fun _ => rfl⟩⟩
theorem LI_0 {f : Nat} {v : Int32} {q : Nat} (hq : q ≠ 0) : (LI L 0 f v).1 q = L.1 q := by
  funext k
  rw [LI1, if_neg (fun w => hq w.1)]
theorem c_clock (C : COK c L n np ng A h) (d : Int32) : ∃ h', f_X7_clock c d h = some ((U_clock L d).1, h') ∧ COK c (U_clock L d).2 n np ng A h' ∧ KEP c h h' := by
  unfold f_X7_clock U_clock
  simp only [cH6 C, Option.bind_some]
  by_cases c1 : d < L.1 0 0
  · exact ⟨h, by simp [c1], by simpa [c1] using ⟨C, KEP_refl c h⟩⟩
  · by_cases c2 : d ≤ 73000
    · refine ⟨sI h c 6 d, ?_, ?_⟩
      · rw [if_neg c1, if_pos c2, pI_k (kB0 C.1)]
        simp [c1, c2]
      · have : (decide (¬ d < L.1 0 0) && decide (d ≤ 73000)) = true := by simp [c1, c2]
        rw [if_pos this]
        refine ⟨COK_c C (fun b k hb => by rw [hI_sI, if_neg (fun w => hb w.1)]) rfl rfl rfl rfl (fun q hq => LI_0 hq) rfl ?_ ?_ ?_, KEP_c⟩
        · rw [hI_sI, if_neg (by omega)]; exact C.2.1.1
        · rw [hI_sI, if_neg (by omega)]; exact C.2.1.2.1
        · rw [hI_sI, if_pos ⟨rfl, rfl⟩]; rfl
    · exact ⟨h, by simp [c1, c2], by simpa [c1, c2] using ⟨C, KEP_refl c h⟩⟩
end CY
