/-! PURE 37: undo -/
section DZ
variable {c : Nat} {L : LM} {n np ng : Nat} {A : Nat → Nat → Nat} {h : AH}
theorem endO_last {x : Nat} (F : WF L (n + 1) np ng) (hx : x < n) : endO L n x = if endO L (n + 1) x = some n then none else endO L (n + 1) x := by
  have e : endO L (n + 1) x = match endO L n x with
    | some y => some y
    | none => if (isE L n && decide (L.1 11 n = nI x)) = true then some n else none := fstF_snoc _ n
  rw [e]
  cases q : endO L n x with
  | some y =>
    have := (endO_some q).1
    have h2 : ¬ (some y = some n) := fun w => by cases w; omega
    simp [h2]
  | none =>
    by_cases w : (isE L n && decide (L.1 11 n = nI x)) = true
    · simp only [w, if_true]
    · simp only [bf w]
      simp
theorem endO_lasto {x : Nat} (hx : ¬ L.1 11 n = nI x) : endO L (n + 1) x = endO L n x := by
  have e : endO L (n + 1) x = match endO L n x with
    | some y => some y
    | none => if (isE L n && decide (L.1 11 n = nI x)) = true then some n else none := fstF_snoc _ n
  rw [e]
  cases q : endO L n x <;> simp [hx]
theorem latO_last {x : Nat} : latO L (n + 1) x = if (isA L n && decide (L.1 11 n = nI x)) = true then some n else latO L n x := lstF_succ _ n
theorem latO_lasto {x : Nat} (hx : ¬ L.1 11 n = nI x) : latO L (n + 1) x = latO L n x := by
  rw [latO_last, if_neg (by simp [hx])]
/-- what dropLatest leaves -/
def DH (c n : Nat) (h2 : AH) : AH := sR (sI h2 (c + 2) 1 (nI n)) (c + 3) n none
theorem COK_drop (C : COK c L (n + 1) np ng A h) {h2 : AH} (z2 : hz h2 = hz h) (k2 : hk h2 = hk h) (i2 : hI h2 = hI h) (j2 : hJ h2 = hJ h) (r2 : ∀ b k, (∀ x, x < n → b = A 0 x → k ≠ 12 ∧ k ≠ 13) → hR h2 b k = hR h b k) (e2 : ∀ x, x < n → hR h2 (A 0 x) 12 = (endO L n x).map (A 0)) (l2 : ∀ x, x < n → hR h2 (A 0 x) 13 = (latO L n x).map (A 0)) : COK c (LI L 0 8 (nI n)) n np ng A (DH c n h2) := by
  obtain ⟨B, ⟨s4, s5, s6, -⟩, P, G, D⟩ := id C
  have vl : ∀ i x, vld (LI L 0 8 (nI n)) n ng i x → vld L (n + 1) ng i x := by
    intro i x
    unfold vld
    rw [LI_0 (by decide), LI_0 (by decide)]
    rintro (⟨w1, w2⟩ | w)
    · exact Or.inl ⟨w1, by omega⟩
    · exact Or.inr w
  have E : EqP n L (LI L 0 8 (nI n)) := ⟨fun q h1 _ k _ => by rw [LI_0 (by omega)], fun k _ => rfl, fun _ _ _ => by rw [LI_0 (by decide)]⟩
  have nA : ∀ b, (b < c + 37) → ∀ x, x < n → b ≠ A 0 x := fun b hb x hx => by have := C.lo (show x < n + 1 by omega); omega
  have kP : ∀ b, hk h b ≠ some (3, 0) → ∀ x, x < n → b ≠ A 0 x := fun b hb x hx e => hb (by rw [e]; exact C.kp (by omega))
  have I : ∀ b k, b ≠ c + 2 → hI (DH c n h2) b k = hI h b k := fun b k hb => by
    show hI (sR (sI h2 (c + 2) 1 (nI n)) (c + 3) n none) b k = _
    rw [hI_sR, hI_sI, if_neg (fun w => hb w.1), i2]
  have K : hk (DH c n h2) = hk h := k2
  have J : hJ (DH c n h2) = hJ h := j2
  have Q : ∀ b k, b ≠ c + 3 → hR (DH c n h2) b k = hR h2 b k := fun b k hb => by
    show hR (sR (sI h2 (c + 2) 1 (nI n)) (c + 3) n none) b k = _
    rw [hR_sR, if_neg (fun w => hb w.1), hR_sI]
  have Qo : ∀ b k, b ≠ c + 3 → (∀ x, x < n → b ≠ A 0 x) → hR (DH c n h2) b k = hR h b k := fun b k hb hx => by
    rw [Q b k hb, r2 b k (fun x x1 e => absurd e (hx x x1))]
  have lo : ∀ i x, vld L (n + 1) ng i x → A i x ≠ c + 2 ∧ A i x ≠ c + 3 := fun i x w => by have := (D.1 i x w).1; omega
  refine ⟨⟨fun p hp => by rw [K]; exact B.1 p hp, fun p k o fo => ?_⟩, ⟨?_, ?_, ?_, ?_⟩, fun x hx => ?_, fun g hg => ?_, ⟨fun i x w => ?_, fun i x y w1 w2 e => D.2 i x y (vl i x w1) (vl i y w2) e⟩⟩
  · have hp : p < 14 ∧ (p = 3 → False) := by
      unfold fx at fo
      split at fo <;> first | (constructor <;> intros <;> omega) | (constructor <;> omega) | cases fo
    rw [Qo _ _ (fun e => hp.2 (by omega)) (nA _ (by omega))]
    exact B.2 p k o fo
  · rw [I _ _ (by omega)]; exact s4
  · rw [I _ _ (by omega)]; exact s5
  · rw [I _ _ (by omega), LI1, if_neg (by omega)]; exact s6
  · show hI (sR (sI h2 (c + 2) 1 (nI n)) (c + 3) n none) (c + 2) 1 = _
    rw [hI_sR, hI_sI, if_pos ⟨rfl, rfl⟩]
  · obtain ⟨p1, p2⟩ := P x (by omega)
    have v0 : vld L (n + 1) ng 0 x := Or.inl ⟨rfl, by omega⟩
    obtain ⟨lo2, lo3⟩ := lo 0 x v0
    refine ⟨?_, ?_⟩
    · show hR (sR (sI h2 (c + 2) 1 (nI n)) (c + 3) n none) (c + 3) x = _
      rw [hR_sR, if_neg (by omega), hR_sI, r2 _ _ (fun y y1 e => absurd e (nA _ (by omega) y y1))]
      exact p1
    · have r : ∀ k, k ≠ 12 → k ≠ 13 → hR (DH c n h2) (A 0 x) k = hR h (A 0 x) k := fun k q1 q2 => by rw [Q _ _ lo3, r2 _ _ (fun _ _ _ => ⟨q1, q2⟩)]
      obtain ⟨a1, a2, a3, a4, a5, a6, -, -, a9⟩ := p2
      unfold POK
      refine ⟨by rw [K]; exact a1, ?_, ?_, ?_, ?_, ?_, ?_, ?_, ?_⟩
      · simp only [I _ _ lo2, LI_0 (q := 6) (by decide), LI_0 (q := 7) (by decide), LI_0 (q := 9) (by decide), LI_0 (q := 10) (by decide), LI_0 (q := 13) (by decide), LI_0 (q := 14) (by decide), LI_0 (q := 15) (by decide)]
        exact a2
      · rw [J]; exact a3
      · rw [r _ (by decide) (by decide), LI_0 (by decide)]; exact a4
      · rw [r _ (by decide) (by decide), LI_0 (by decide)]; exact a5
      · rw [r _ (by decide) (by decide), LI_0 (by decide)]; exact a6
      · rw [Q _ _ lo3, e2 x hx, EqP_endO E]
      · rw [Q _ _ lo3, l2 x hx, EqP_latO E]
      · rw [r _ (by decide) (by decide), EqP_earO E hx]; exact a9
  · obtain ⟨g1, g2⟩ := G g hg
    refine ⟨by rw [Qo _ _ (by omega) (nA _ (by omega))]; exact g1, ?_⟩
    have v1 : vld L (n + 1) ng 1 g := Or.inr (Or.inl ⟨Or.inl rfl, hg⟩)
    have v2 : vld L (n + 1) ng 2 g := Or.inr (Or.inl ⟨Or.inr (Or.inl rfl), hg⟩)
    have v3 : vld L (n + 1) ng 3 g := Or.inr (Or.inl ⟨Or.inr (Or.inr rfl), hg⟩)
    unfold GOK at g2 ⊢
    obtain ⟨e1, e2', e3, ⟨j, e41, e42, e43, e44⟩, e5, m, e6, e7, e8⟩ := g2
    have n1 := kP _ (by rw [e1]; decide)
    have n3 := kP _ (by rw [e5]; decide)
    simp only [K, I _ _ (lo _ _ v1).1, I _ _ (lo _ _ v2).1, Qo _ _ (lo _ _ v1).2 n1, Qo _ _ (lo _ _ v3).2 n3, LI_0 (q := 1) (by decide), LI_0 (q := 2) (by decide), LI_0 (q := 3) (by decide), LI_0 (q := 4) (by decide), LI_0 (q := 5) (by decide), LI_0 (q := 18) (by decide)]
    refine ⟨e1, e2', e3, ⟨j, e41, e42, e43, e44⟩, e5, m, e6, e7, fun x hx => ?_⟩
    obtain ⟨f1, f2⟩ := e8 x hx
    have hm : (L.1 18 g).toNatClampNeg = m := by rw [e7]; exact nI_clamp (by omega)
    have v4 : vld L (n + 1) ng 4 (8 * g + x) := Or.inr (Or.inr (Or.inl ⟨rfl, g, x, hg, rfl, by omega⟩))
    refine ⟨f1, ?_⟩
    unfold XOK at f2 ⊢
    have n4 := kP _ (by rw [f2.1]; decide)
    simp only [K, J, I _ _ (lo _ _ v4).1, Qo _ _ (lo _ _ v4).2 n4, LI_0 (q := 19) (by decide), LI_0 (q := 20) (by decide), LI2]
    exact f2
  · have := D.1 i x (vl i x w)
    show _ ∧ _ < hz h2
    rw [z2]
    exact this
theorem KEP_DH {h2 : AH} (k : KEP c h h2) : KEP c h (DH c n h2) := by
  refine ⟨k.1, fun b b1 b2 => ?_⟩
  obtain ⟨q1, q2, q3, q4⟩ := k.2 b b1 b2
  refine ⟨q1, fun j => ?_, q3, fun j => ?_⟩
  · show hI (sR (sI h2 (c + 2) 1 (nI n)) (c + 3) n none) b j = _
    rw [hI_sR, hI_sI, if_neg (by omega)]
    exact q2 j
  · show hR (sR (sI h2 (c + 2) 1 (nI n)) (c + 3) n none) b j = _
    rw [hR_sR, if_neg (by omega), hR_sI]
    exact q4 j
theorem c_drop (C : COK c L (n + 1) np ng A h) (hn : n < 400) {h2 : AH} (k2 : hk h2 = hk h) (i2 : hI h2 = hI h) (r0 : hR h2 (c + 2) 0 = some (c + 3)) : f_X4_dropLatest (c + 2) h2 = some (DH c n h2) := by
  have kb2 : hk h2 (c + 2) = some (4, 0) := by rw [k2]; exact kB2 C.1
  have kb3 : hk h2 (c + 3) = some (13, 400) := by rw [k2]; exact kB3 C.1
  have e1 : gI 4 1 h2 (some (c + 2)) = some (nI (n + 1)) := by rw [gI_k kb2, i2, C.2.1.2.2.2]
  have e2 : gR 4 0 h2 (some (c + 2)) = some (some (c + 3)) := by rw [gR_k kb2, r0]
  have e3 : al h2 (some (c + 3)) = some (nI 400) := al_k kb3 (by decide)
  have h0 : ¬ nI (n + 1) ≤ 0 := by
    have : (0 : Int32) = nI 0 := rfl
    rw [this, nIle (by omega) (by omega)]
    omega
  have h4 : ¬ nI 400 < nI (n + 1) := by
    rw [nIlt (by omega) (by omega)]
    omega
  unfold f_X4_dropLatest
  simp only [e1, e2, e3, Option.bind_some, if_neg h0, if_neg h4, pI_k kb2, nI_sub1, nI_m1']
  have q1 := gR_k (h := sI h2 (c + 2) 1 (nI n)) kb2 0
  have q2 := gI_k (h := sI h2 (c + 2) 1 (nI n)) kb2 1
  have q3 := stR_n (h := sI h2 (c + 2) 1 (nI n)) (ci := 3) kb3 (x := n) (by omega) (by decide)
  rw [hR_sI, r0] at q1
  rw [hI_sI, if_pos ⟨rfl, rfl⟩] at q2
  simp only [q1, q2, q3, Option.bind_some]
  rfl
end DZ
