/-! PURE 38: release and undo -/
section EZ
variable {c : Nat} {L : LM} {n np ng : Nat} {A : Nat → Nat → Nat} {h : AH}
theorem map_eqn (C : COK c L (n + 1) np ng A h) {o : Option Nat} (ho : ∀ y, o = some y → y < n + 1) : o.map (A 0) = some (A 0 n) ↔ o = some n := by
  cases o with
  | none => simp
  | some y =>
    have hy := ho y rfl
    simp only [Option.map_some, Option.some.injEq]
    constructor
    · intro e; exact C.inj hy (by omega) e
    · intro e; rw [e]
theorem c_rel27 (C : COK c L (n + 1) np ng A h) {i : Nat} (hi : i < n) (hn : n < 400) (hnm : L.1 11 n = nI i) {h1 : AH} (k1 : hk h1 = hk h) (r1 : ∀ b k, ¬ (b = A 0 i ∧ k = 12) → hR h1 b k = hR h b k) : f_X3_release_27 (A 0 n) h1 = some (if isA L n = true then sR h1 (A 0 i) 13 ((latO L n i).map (A 0)) else h1) := by
  have kn : hk h1 (A 0 n) = some (3, 0) := by rw [k1]; exact C.kp (by omega)
  have ki : hk h1 (A 0 i) = some (3, 0) := by rw [k1]; exact C.kp (by omega)
  have P := (C.2.2.1 n (by omega)).2
  have Pi := (C.2.2.1 i (by omega)).2
  have e6 : gR 3 6 h1 (some (A 0 n)) = some (some (A 0 i)) := by
    rw [gR_k kn, r1 _ _ (fun w => by omega), P.2.2.2.2.1, hnm, ora_nI _ (by omega)]
  have e13 : gR 3 13 h1 (some (A 0 i)) = some ((latO L (n + 1) i).map (A 0)) := by
    rw [gR_k ki, r1 _ _ (fun w => by omega), Pi.2.2.2.2.2.2.2.1]
  have e14 : gR 3 14 h1 (some (A 0 n)) = some ((earO L n).map (A 0)) := by
    rw [gR_k kn, r1 _ _ (fun w => by omega), P.2.2.2.2.2.2.2.2]
  unfold f_X3_release_27
  simp only [e6, e13, e14, Option.bind_some, map_eqn C (fun y hy => (latO_some hy).1), pR_k ki]
  by_cases q : isA L n = true
  · rw [if_pos q, if_pos (by rw [latO_last, if_pos (by simp [q, hnm])]), earO_eq q hnm]
  · rw [if_neg q, if_neg]
    rw [latO_last, if_neg (by simp [q])]
    intro e
    have := (latO_some e).1
    omega
theorem c_release (C : COK c L (n + 1) np ng A h) (F : WF L (n + 1) np ng) (hn : n < 400) : ∃ h2, f_X3_release (A 0 n) h = some h2 ∧ hz h2 = hz h ∧ hk h2 = hk h ∧ hI h2 = hI h ∧ hJ h2 = hJ h ∧ (∀ b k, (∀ x, x < n → b = A 0 x → k ≠ 12 ∧ k ≠ 13) → hR h2 b k = hR h b k) ∧ (∀ x, x < n → hR h2 (A 0 x) 12 = (endO L n x).map (A 0)) ∧ ∀ x, x < n → hR h2 (A 0 x) 13 = (latO L n x).map (A 0) := by
  have hE : ∀ x, x < n → hR h (A 0 x) 12 = (endO L (n + 1) x).map (A 0) := fun x hx => (C.2.2.1 x (by omega)).2.2.2.2.2.2.2.1
  have hLa : ∀ x, x < n → hR h (A 0 x) 13 = (latO L (n + 1) x).map (A 0) := fun x hx => (C.2.2.1 x (by omega)).2.2.2.2.2.2.2.2.1
  unfold f_X3_release
  simp only [cP6 C (show n < n + 1 by omega), Option.bind_some]
  rcases F.nmv (show n < n + 1 by omega) with e | ⟨i, hi, e⟩
  · have ne : ∀ x, x < n → ¬ L.1 11 n = nI x := fun x hx q => by rw [e] at q; exact nI_m1 (by omega) q.symm
    refine ⟨h, by rw [e]; rfl, rfl, rfl, rfl, rfl, fun _ _ _ => rfl, fun x hx => ?_, fun x hx => ?_⟩
    · rw [hE x hx, endO_lasto (ne x hx)]
    · rw [hLa x hx, latO_lasto (ne x hx)]
  · have ne : ∀ x, x < n → x ≠ i → ¬ L.1 11 n = nI x := fun x hx q w => q (nI_inj (by omega) (by omega) (by rw [← w, e]))
    have ai : ∀ x, x < n → x ≠ i → A 0 x ≠ A 0 i := fun x hx q w => q (C.inj (by omega) (by omega) w)
    simp only [e, ora_nI _ (show i < 1000 by omega), cP12 C (show i < n + 1 by omega), Option.bind_some, map_eqn C (fun y hy => (endO_some hy).1)]
    rw [if_neg (by simp)]
    have key : ∀ h1 : AH, hz h1 = hz h → hk h1 = hk h → hI h1 = hI h → hJ h1 = hJ h → (∀ b k, ¬ (b = A 0 i ∧ k = 12) → hR h1 b k = hR h b k) → hR h1 (A 0 i) 12 = (endO L n i).map (A 0) → ∃ h2, f_X3_release_27 (A 0 n) h1 = some h2 ∧ hz h2 = hz h ∧ hk h2 = hk h ∧ hI h2 = hI h ∧ hJ h2 = hJ h ∧ (∀ b k, (∀ x, x < n → b = A 0 x → k ≠ 12 ∧ k ≠ 13) → hR h2 b k = hR h b k) ∧ (∀ x, x < n → hR h2 (A 0 x) 12 = (endO L n x).map (A 0)) ∧ ∀ x, x < n → hR h2 (A 0 x) 13 = (latO L n x).map (A 0) := by
      intro h1 z1 k1 i1 j1 r1 r12
      rw [c_rel27 C hi hn e k1 r1]
      by_cases q : isA L n = true
      · rw [if_pos q]
        refine ⟨_, rfl, z1, k1, i1, j1, fun b k hb => ?_, fun x hx => ?_, fun x hx => ?_⟩
        · rw [hR_sR, if_neg, r1]
          · rintro ⟨w1, w2⟩; exact (hb i hi w1).1 w2
          · rintro ⟨w1, w2⟩; exact (hb i hi w1).2 w2
        · rw [hR_sR, if_neg (by omega)]
          by_cases w : x = i
          · rw [w]; exact r12
          · rw [r1 _ _ (fun u => ai x hx w u.1), hE x hx, endO_lasto (ne x hx w)]
        · rw [hR_sR]
          by_cases w : x = i
          · rw [w, if_pos ⟨rfl, rfl⟩]
          · rw [if_neg (fun u => ai x hx w u.1), r1 _ _ (fun u => ai x hx w u.1), hLa x hx, latO_lasto (ne x hx w)]
      · rw [if_neg q]
        refine ⟨_, rfl, z1, k1, i1, j1, fun b k hb => ?_, fun x hx => ?_, fun x hx => ?_⟩
        · rw [r1]
          rintro ⟨w1, w2⟩; exact (hb i hi w1).1 w2
        · by_cases w : x = i
          · rw [w]; exact r12
          · rw [r1 _ _ (fun u => ai x hx w u.1), hE x hx, endO_lasto (ne x hx w)]
        · rw [r1 _ _ (fun u => by omega), hLa x hx]
          by_cases w : x = i
          · rw [w, latO_last, if_neg (by simp [q])]
          · rw [latO_lasto (ne x hx w)]
    by_cases q : endO L (n + 1) i = some n
    · rw [if_pos q]
      simp only [pR_k (C.kp (show i < n + 1 by omega)), Option.bind_some]
      refine key _ rfl rfl rfl rfl (fun b k w => by rw [hR_sR, if_neg w]) ?_
      rw [hR_sR, if_pos ⟨rfl, rfl⟩, endO_last F hi, if_pos q]
      rfl
    · rw [if_neg q]
      refine key h rfl rfl rfl rfl (fun b k w => rfl) ?_
      rw [hE i hi, endO_last F hi, if_neg q]
theorem c_undo (C : COK c L n np ng A h) (F : WF L n np ng) (W : MW L n np ng) : ∃ h', f_X7_undo c h = some ((U_undo L n).1, h') ∧ OUT c np ng h (U_undo L n).2 h' := by
  obtain ⟨w1, hn, w3, w4, w5, hnp, w7, hng, w9⟩ := id W
  cases n with
  | zero =>
    unfold f_X7_undo U_undo
    have e0 : nI 0 - (1 : Int32) = -1 := by decide
    have e1 : inR (-1) (nI 0) = false := by decide
    simp only [cH1 C, cR1 C, cck4 C, c_atv C hn, Option.bind_some, e0, e1]
    exact ⟨h, by simp, OUT_same C W⟩
  | succ n =>
    have hn' : n < 400 := by omega
    unfold f_X7_undo U_undo
    simp only [cH1 C, cR1 C, cck4 C, nI_sub1, nI_m1', c_at C hn (show n < n + 1 by omega), Option.bind_some, cP4 C (show n < n + 1 by omega), cH6 C, cckP C (show n < n + 1 by omega)]
    rw [if_neg (by simp)]
    by_cases q : L.1 9 n = L.1 0 0
    · obtain ⟨h2, f1, z2, k2, i2, j2, r2, e2, l2⟩ := c_release C F hn'
      have nA : ∀ b, (b < c + 37) → ∀ x, x < n → b ≠ A 0 x := fun b hb x hx => by have := C.lo (show x < n + 1 by omega); omega
      have ro : ∀ b, (b < c + 37) → ∀ k, hR h2 b k = hR h b k := fun b hb k => r2 b k (fun x hx w => absurd w (nA b hb x hx))
      have g1 : gR 7 1 h2 (some c) = some (some (c + 2)) := by
        rw [gR_k (show hk h2 c = some (7, 0) by rw [k2]; exact kB0 C.1), ro c (by omega)]
        exact congrArg some (C.1.2 0 1 2 rfl)
      have g2 : ck 4 h2 (some (c + 2)) = some (c + 2) := ck_k (by rw [k2]; exact kB2 C.1)
      have g3 := c_drop C hn' k2 i2 (by rw [ro _ (by omega)]; exact C.1.2 2 0 3 rfl)
      have g4 : gI 3 0 (DH c n h2) (some (A 0 n)) = some (nI n) := by
        have lo := C.lo (show n < n + 1 by omega)
        rw [gI_k (h := DH c n h2) (show hk h2 (A 0 n) = some (3, 0) by rw [k2]; exact C.kp (by omega))]
        show some (hI (sR (sI h2 (c + 2) 1 (nI n)) (c + 3) n none) (A 0 n) 0) = _
        rw [hI_sR, hI_sI, if_neg (by omega), i2, (C.2.2.1 n (by omega)).2.2.1.1]
      refine ⟨DH c n h2, ?_, A, ?_, ?_⟩
      · rw [if_pos q, if_pos q]
        simp only [f1, g1, g2, g3, g4, Option.bind_some]
      · rw [if_pos q]
        have : nn (LI L 0 8 (nI n)) = n := nIt (show n < 1000 by omega)
        rw [this]
        exact COK_drop C z2 k2 i2 j2 r2 e2 l2
      · exact KEP_DH ⟨by rw [z2]; exact Nat.le_refl _, fun b b1 b2 => ⟨by rw [k2], fun k => by rw [i2], fun k => by rw [j2], fun k => ro b b2 k⟩⟩
    · exact ⟨h, by rw [if_neg q, if_neg q], by rw [if_neg q]; exact OUT_same C W⟩
end EZ
