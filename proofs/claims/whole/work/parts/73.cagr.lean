/-! PURE 44: the call agreement -/
def fiH (b : Nat) : Nat → Nat → AH → AH
  | _, 0, h => h
  | j, m + 1, h => fiH b (j + 1) m (sI h b j (nI (j + 1)))
theorem fiH_z (b : Nat) : ∀ m j h, hz (fiH b j m h) = hz h := by
  intro m
  induction m with
  | zero => intro j h; rfl
  | succ m ih => intro j h; unfold fiH; rw [ih]; rfl
theorem fiH_k (b : Nat) : ∀ m j h, hk (fiH b j m h) = hk h := by
  intro m
  induction m with
  | zero => intro j h; rfl
  | succ m ih => intro j h; unfold fiH; rw [ih]; rfl
theorem fiH_J (b : Nat) : ∀ m j h, hJ (fiH b j m h) = hJ h := by
  intro m
  induction m with
  | zero => intro j h; rfl
  | succ m ih => intro j h; unfold fiH; rw [ih]; rfl
theorem fiH_R (b : Nat) : ∀ m j h, hR (fiH b j m h) = hR h := by
  intro m
  induction m with
  | zero => intro j h; rfl
  | succ m ih => intro j h; unfold fiH; rw [ih]; rfl
theorem fiH_I (b : Nat) : ∀ m j h x k, hI (fiH b j m h) x k = if x = b ∧ j ≤ k ∧ k < j + m then nI (k + 1) else hI h x k := by
  intro m
  induction m with
  | zero => intro j h x k; rw [if_neg (by omega)]; rfl
  | succ m ih =>
    intro j h x k
    unfold fiH
    rw [ih, hI_sI]
    by_cases w : x = b ∧ k = j
    · obtain ⟨rfl, rfl⟩ := w
      rw [if_neg (by omega), if_pos ⟨rfl, rfl⟩, if_pos (by omega)]
    · by_cases w2 : x = b ∧ j + 1 ≤ k ∧ k < j + 1 + m
      · rw [if_pos w2, if_pos (by omega)]
      · rw [if_neg w2, if_neg w, if_neg (by omega)]
theorem c_i53 {z b J : Nat} (hJ20 : J ≤ 20) : ∀ m j f h, j + m = J → m < f → hk h z = some (0, 0) → hk h b = some (10, J) → hR h z 4 = some b → f_X0_init_53 f z (nI j) h = some (fiH b j m h) := by
  intro m
  induction m with
  | zero =>
    intro j f h h1 h2 k1 k2 r
    obtain ⟨f, rfl⟩ : ∃ f', f = f' + 1 := ⟨f - 1, by omega⟩
    rw [f_X0_init_53]
    simp only [gR_k k1, r, al_k k2 (by decide), Option.bind_some]
    rw [if_pos (nI_le (by omega) (by omega))]
    rfl
  | succ m ih =>
    intro j f h h1 h2 k1 k2 r
    obtain ⟨f, rfl⟩ : ∃ f', f = f' + 1 := ⟨f - 1, by omega⟩
    rw [f_X0_init_53]
    simp only [gR_k k1, r, al_k k2 (by decide), Option.bind_some]
    rw [if_neg (nI_ge (by omega) (by omega))]
    simp only [nI_1, stI_k k2 (show j < J by omega) (by omega), Option.bind_some]
    rw [ih (j + 1) f (sI h b j (nI (j + 1))) (by omega) (by omega) k1 k2 r]
    rfl
/-- what a new AGREEMENT leaves: the cells z, z + 1, z + 2 -/
def GH (h : AH) (c ng j : Nat) (b w d : Int32) : AH := sI (sR (fiH (hz h + 1) 0 j (sR (nw (sR (nw (sI (sI (sI (sI (nw h 0 0) (hz h) 0 (nI ng)) (hz h) 1 b) (hz h) 2 w) (hz h) 3 d) 10 j) (hz h) 4 (some (hz h + 1))) 15 8) (hz h) 5 (some (hz h + 2)))) (c + 1) ng (some (hz h))) c 4 (nI (ng + 1))
section GHs
variable {h : AH} {c ng j : Nat} {b w d : Int32}
theorem GH_z : hz (GH h c ng j b w d) = hz h + 3 := by
  show hz (fiH _ _ _ _) = _
  rw [fiH_z]
  rfl
theorem GH_k (x : Nat) : hk (GH h c ng j b w d) x = if x = hz h then some (0, 0) else if x = hz h + 1 then some (10, j) else if x = hz h + 2 then some (15, 8) else hk h x := by
  show hk (fiH _ _ _ _) x = _
  rw [fiH_k]
  show (if x = hz h + 1 + 1 then some (15, 8) else if x = hz h + 1 then some (10, j) else if x = hz h then some (0, 0) else hk h x) = _
  by_cases q : x = hz h
  · rw [if_neg (by omega), if_neg (by omega), if_pos q, if_pos q]
  · by_cases q1 : x = hz h + 1
    · rw [if_neg (by omega), if_pos q1, if_neg q, if_pos q1]
    · by_cases q2 : x = hz h + 2
      · rw [if_pos (by omega), if_neg q, if_neg q1, if_pos q2]
      · rw [if_neg (by omega), if_neg q1, if_neg q, if_neg q, if_neg q1, if_neg q2]
theorem GH_Io {x : Nat} (hx : x < hz h) (k : Nat) : hI (GH h c ng j b w d) x k = if x = c ∧ k = 4 then nI (ng + 1) else hI h x k := by
  unfold GH
  rw [hI_sI]
  by_cases q : x = c ∧ k = 4
  · rw [if_pos q, if_pos q]
  · rw [if_neg q, if_neg q, hI_sR, fiH_I, if_neg (by omega), hI_sR, hI_nw]
    show (if x = hz h + 1 + 1 then (fun _ => 0) else hI (nw (sI (sI (sI (sI (nw h 0 0) (hz h) 0 (nI ng)) (hz h) 1 b) (hz h) 2 w) (hz h) 3 d) 10 j) x) k = _
    rw [if_neg (by omega), hI_nw]
    show (if x = hz h + 1 then (fun _ => 0) else hI (sI (sI (sI (sI (nw h 0 0) (hz h) 0 (nI ng)) (hz h) 1 b) (hz h) 2 w) (hz h) 3 d) x) k = _
    rw [if_neg (by omega), hI_sI, if_neg (by omega), hI_sI, if_neg (by omega), hI_sI, if_neg (by omega), hI_sI, if_neg (by omega), hI_nw, if_neg (by omega)]
theorem GH_I (hc : c < hz h) (k : Nat) : hI (GH h c ng j b w d) (hz h) k = if k = 3 then d else if k = 2 then w else if k = 1 then b else if k = 0 then nI ng else 0 := by
  unfold GH
  rw [hI_sI, if_neg (by omega), hI_sR, fiH_I, if_neg (by omega), hI_sR, hI_nw]
  show (if hz h = hz h + 1 + 1 then (fun _ => 0) else hI (nw (sI (sI (sI (sI (nw h 0 0) (hz h) 0 (nI ng)) (hz h) 1 b) (hz h) 2 w) (hz h) 3 d) 10 j) (hz h)) k = _
  rw [if_neg (by omega), hI_nw]
  show (if hz h = hz h + 1 then (fun _ => 0) else hI (sI (sI (sI (sI (nw h 0 0) (hz h) 0 (nI ng)) (hz h) 1 b) (hz h) 2 w) (hz h) 3 d) (hz h)) k = _
  rw [if_neg (by omega), hI_sI, hI_sI, hI_sI, hI_sI, hI_nw, if_pos rfl]
  simp only [true_and]
theorem GH_I1 (hc : c < hz h) {k : Nat} (hk : k < j) : hI (GH h c ng j b w d) (hz h + 1) k = nI (k + 1) := by
  unfold GH
  rw [hI_sI, if_neg (by omega), hI_sR, fiH_I, if_pos ⟨rfl, by omega, by omega⟩]
theorem GH_Jo {x : Nat} (hx : x < hz h) (k : Nat) : hJ (GH h c ng j b w d) x k = hJ h x k := by
  show hJ (fiH _ _ _ _) x k = _
  rw [fiH_J]
  show (if x = hz h + 1 + 1 then (fun _ => 0) else if x = hz h + 1 then (fun _ => 0) else if x = hz h then (fun _ => 0) else hJ h x) k = _
  rw [if_neg (by omega), if_neg (by omega), if_neg (by omega)]
theorem GH_Ro {x : Nat} (hx : x < hz h) (k : Nat) : hR (GH h c ng j b w d) x k = if x = c + 1 ∧ k = ng then some (hz h) else hR h x k := by
  unfold GH
  rw [hR_sI, hR_sR]
  by_cases q : x = c + 1 ∧ k = ng
  · rw [if_pos q, if_pos q]
  · rw [if_neg q, if_neg q, fiH_R, hR_sR, if_neg (by omega), hR_nw]
    show (if x = hz h + 1 + 1 then (fun _ => none) else hR (sR (nw (sI (sI (sI (sI (nw h 0 0) (hz h) 0 (nI ng)) (hz h) 1 b) (hz h) 2 w) (hz h) 3 d) 10 j) (hz h) 4 (some (hz h + 1))) x) k = _
    rw [if_neg (by omega), hR_sR, if_neg (by omega), hR_nw]
    show (if x = hz h + 1 then (fun _ => none) else if x = hz h then (fun _ => none) else hR h x) k = _
    rw [if_neg (by omega), if_neg (by omega)]
theorem GH_R4 (hc : c + 1 < hz h) : hR (GH h c ng j b w d) (hz h) 4 = some (hz h + 1) := by
  unfold GH
  rw [hR_sI, hR_sR, if_neg (by omega), fiH_R, hR_sR, if_neg (by omega), hR_nw]
  show (if hz h = hz h + 1 + 1 then (fun _ => none) else hR (sR (nw (sI (sI (sI (sI (nw h 0 0) (hz h) 0 (nI ng)) (hz h) 1 b) (hz h) 2 w) (hz h) 3 d) 10 j) (hz h) 4 (some (hz h + 1))) (hz h)) 4 = _
  rw [if_neg (by omega), hR_sR, if_pos ⟨rfl, rfl⟩]
theorem GH_R5 (hc : c + 1 < hz h) : hR (GH h c ng j b w d) (hz h) 5 = some (hz h + 2) := by
  unfold GH
  rw [hR_sI, hR_sR, if_neg (by omega), fiH_R, hR_sR, if_pos ⟨rfl, rfl⟩]
end GHs
/-- the reference's side of it -/
theorem agT_1 : ∀ m j L ng q k, (agT L ng j m).1 q k = if q = 18 ∧ k = ng then 0 else if q = 5 ∧ 20 * ng + j ≤ k ∧ k < 20 * ng + j + m then nI (k - 20 * ng + 1) else L.1 q k := by
  intro m
  induction m with
  | zero =>
    intro j L ng q k
    show (LI L 18 ng 0).1 q k = _
    rw [LI1]
    by_cases q1 : q = 18 ∧ k = ng
    · rw [if_pos q1, if_pos q1]
    · rw [if_neg q1, if_neg q1, if_neg (by omega)]
  | succ m ih =>
    intro j L ng q k
    show (agT (LI L 5 (20 * ng + j) (nI (j + 1))) ng (j + 1) m).1 q k = _
    rw [ih, LI1]
    by_cases q1 : q = 18 ∧ k = ng
    · rw [if_pos q1, if_pos q1]
    · rw [if_neg q1, if_neg q1]
      by_cases q2 : q = 5 ∧ k = 20 * ng + j
      · obtain ⟨rfl, rfl⟩ := q2
        rw [if_neg (by omega), if_pos ⟨rfl, rfl⟩, if_pos (by omega)]
        exact congrArg nI (by omega)
      · rw [if_neg q2]
        by_cases q3 : q = 5 ∧ 20 * ng + (j + 1) ≤ k ∧ k < 20 * ng + (j + 1) + m
        · rw [if_pos q3, if_pos (by omega)]
        · rw [if_neg q3, if_neg (by omega)]
theorem agT_2 : ∀ m j L ng, (agT L ng j m).2 = L.2 := by
  intro m
  induction m with
  | zero => intro j L ng; rfl
  | succ m ih => intro j L ng; show (agT _ ng (j + 1) m).2 = _; rw [ih]; rfl
theorem agL_1 (L : LM) (ng : Nat) (a b c d : Int32) (q k : Nat) : (agL L ng a b c d).1 q k = if q = 4 ∧ k = ng then d else if q = 3 ∧ k = ng then c else if q = 2 ∧ k = ng then b else if q = 1 ∧ k = ng then a else if q = 0 ∧ k = 2 then nI (ng + 1) else L.1 q k := rfl
def AG1 (A : Nat → Nat → Nat) (ng z : Nat) : Nat → Nat → Nat := fun i x => if x = ng ∧ i = 1 then z else if x = ng ∧ i = 2 then z + 1 else if x = ng ∧ i = 3 then z + 2 else A i x
theorem AG1_o (A : Nat → Nat → Nat) (ng z : Nat) {i x : Nat} (h : x ≠ ng ∨ (i ≠ 1 ∧ i ≠ 2 ∧ i ≠ 3)) : AG1 A ng z i x = A i x := by
  unfold AG1
  rw [if_neg (by omega), if_neg (by omega), if_neg (by omega)]
theorem AG1_1 (A : Nat → Nat → Nat) (ng z : Nat) : AG1 A ng z 1 ng = z := by simp [AG1]
theorem AG1_2 (A : Nat → Nat → Nat) (ng z : Nat) : AG1 A ng z 2 ng = z + 1 := by simp [AG1]
theorem AG1_3 (A : Nat → Nat → Nat) (ng z : Nat) : AG1 A ng z 3 ng = z + 2 := by simp [AG1]
section AGs
variable {c : Nat} {L : LM} {n np ng : Nat} {A : Nat → Nat → Nat} {h : AH}
theorem COK_agr (C : COK c L n np ng A h) (F : WF L n np ng) (hn : n ≤ 400) (hz37 : c + 37 ≤ hz h) (hng : ng < 10) {j : Nat} (hj : j ≤ 20) (b w d : Int32) : COK c (agT (agL L ng (nI j) b w d) ng 0 j) n np (ng + 1) (AG1 A ng (hz h)) (GH h c ng j b w d) := by
  obtain ⟨B, ⟨s4, s5, s6, s1⟩, P, G, D⟩ := id C
  have l1 : ∀ q k, ¬ (q = 18 ∧ k = ng) → ¬ (q = 5 ∧ 20 * ng ≤ k ∧ k < 20 * ng + j) → ¬ (q = 4 ∧ k = ng) → ¬ (q = 3 ∧ k = ng) → ¬ (q = 2 ∧ k = ng) → ¬ (q = 1 ∧ k = ng) → ¬ (q = 0 ∧ k = 2) → (agT (agL L ng (nI j) b w d) ng 0 j).1 q k = L.1 q k := by
    intro q k h1 h2 h3 h4 h5 h6 h7
    rw [agT_1, if_neg h1, if_neg (by omega), agL_1, if_neg h3, if_neg h4, if_neg h5, if_neg h6, if_neg h7]
  have l18 : (agT (agL L ng (nI j) b w d) ng 0 j).1 18 ng = 0 := by rw [agT_1, if_pos ⟨rfl, rfl⟩]
  have l5 : ∀ a, a < j → (agT (agL L ng (nI j) b w d) ng 0 j).1 5 (20 * ng + a) = nI (a + 1) := by
    intro a ha
    rw [agT_1, if_neg (by omega), if_pos (by omega)]
    exact congrArg nI (by omega)
  have la : ∀ q, q ≠ 18 → q ≠ 5 → (agT (agL L ng (nI j) b w d) ng 0 j).1 q ng = (agL L ng (nI j) b w d).1 q ng := by
    intro q h1 h2
    rw [agT_1, if_neg (by omega), if_neg (by omega)]
  have l4 := la 4 (by decide) (by decide)
  have l3 := la 3 (by decide) (by decide)
  have l2' := la 2 (by decide) (by decide)
  have l1' := la 1 (by decide) (by decide)
  rw [agL_1, if_pos ⟨rfl, rfl⟩] at l4
  rw [agL_1, if_neg (by omega), if_pos ⟨rfl, rfl⟩] at l3
  rw [agL_1, if_neg (by omega), if_neg (by omega), if_pos ⟨rfl, rfl⟩] at l2'
  rw [agL_1, if_neg (by omega), if_neg (by omega), if_neg (by omega), if_pos ⟨rfl, rfl⟩] at l1'
  have l2 : (agT (agL L ng (nI j) b w d) ng 0 j).2 = L.2 := by rw [agT_2]; rfl
  generalize agT (agL L ng (nI j) b w d) ng 0 j = L' at l1 l18 l5 l4 l3 l2' l1' l2 ⊢
  clear la
  have hA : ∀ i x, vld L n ng i x → c + 37 ≤ A i x ∧ A i x < hz h := D.1
  have io : ∀ x k, x < hz h → x ≠ c → hI (GH h c ng j b w d) x k = hI h x k := fun x k hx h1 => by rw [GH_Io hx, if_neg (fun u => h1 u.1)]
  have ro : ∀ x k, x < hz h → x ≠ c + 1 → hR (GH h c ng j b w d) x k = hR h x k := fun x k hx h1 => by rw [GH_Ro hx, if_neg (fun u => h1 u.1)]
  have ko : ∀ x, x < hz h → hk (GH h c ng j b w d) x = hk h x := fun x hx => by rw [GH_k, if_neg (by omega), if_neg (by omega), if_neg (by omega)]
  have vl : ∀ i x, vld L' n (ng + 1) i x → vld L n ng i x ∧ (x ≠ ng ∨ (i ≠ 1 ∧ i ≠ 2 ∧ i ≠ 3)) ∨ (x = ng ∧ (i = 1 ∨ i = 2 ∨ i = 3)) := by
    intro i x q
    by_cases qx : x = ng ∧ (i = 1 ∨ i = 2 ∨ i = 3)
    · exact Or.inr qx
    · refine Or.inl ⟨?_, by omega⟩
      have e18 : ∀ g2 y, g2 < ng + 1 → y < (L'.1 18 g2).toNatClampNeg → g2 < ng ∧ y < (L.1 18 g2).toNatClampNeg := by
        intro g2 y h1 h2
        by_cases e : g2 = ng
        · rw [e, l18] at h2
          exact absurd h2 (Nat.not_lt_zero _)
        · rw [l1 _ _ (by omega) (by omega) (by omega) (by omega) (by omega) (by omega) (by omega)] at h2
          exact ⟨by omega, h2⟩
      rcases q with q | q | ⟨q1, g2, y, q2, q3, q4⟩ | ⟨q1, ⟨g2, y, q2, q3, q4⟩, q5⟩
      · exact Or.inl q
      · exact Or.inr (Or.inl ⟨q.1, by omega⟩)
      · obtain ⟨u1, u2⟩ := e18 g2 y q2 q4
        exact Or.inr (Or.inr (Or.inl ⟨q1, g2, y, u1, q3, u2⟩))
      · obtain ⟨u1, u2⟩ := e18 g2 y q2 q4
        rw [l1 20 x (by omega) (by omega) (by omega) (by omega) (by omega) (by omega) (by omega)] at q5
        exact Or.inr (Or.inr (Or.inr ⟨q1, ⟨g2, y, u1, q3, u2⟩, q5⟩))
  refine COK_pap C F hn (by omega) ⟨fun p hp => by rw [ko _ (by omega)]; exact B.1 p hp, fun p k o fo => ?_⟩ (by rw [GH_Io (by omega), if_pos ⟨rfl, rfl⟩]) (by rw [GH_Io (by omega), if_neg (by omega)]; exact s5) (by rw [GH_Io (by omega), if_neg (by omega), l1 _ _ (by omega) (by omega) (by omega) (by omega) (by omega) (by omega) (by omega)]; exact s6) (by rw [io _ _ (by omega) (by omega)]; exact s1) (fun q h1 h2 k hk => l1 _ _ (by omega) (by omega) (by omega) (by omega) (by omega) (by omega) (by omega)) (fun k _ => by rw [l2]) (fun _ _ => AG1_o A _ _ (Or.inr (by omega))) (fun _ _ => AG1_o A _ _ (Or.inl (by omega))) (fun _ _ => ro _ _ (by omega) (by omega)) (fun x hx => ?_) (fun g2 hg2 => ?_) ⟨fun i x q => ?_, fun i x y q1 q2 e => ?_⟩
  · have hp : p < 14 ∧ (p = 1 → False) := by
      unfold fx at fo
      split at fo <;> first | (constructor <;> intros <;> omega) | (constructor <;> omega) | cases fo
    rw [ro _ _ (by omega) (fun u => hp.2 (by omega))]
    exact B.2 p k o fo
  · have hx2 := hA 0 x (Or.inl ⟨rfl, hx⟩)
    exact ⟨ko _ hx2.2, fun k => io _ _ hx2.2 (by omega), fun k => GH_Jo hx2.2 k, fun k => ro _ _ hx2.2 (by omega)⟩
  · by_cases e : g2 = ng
    · subst e
      refine ⟨by rw [GH_Ro (by omega), if_pos ⟨rfl, rfl⟩, AG1_1], ?_⟩
      unfold GOK
      rw [AG1_1, AG1_2, AG1_3, l18, l1', l2', l3, l4, GH_I (by omega), GH_I (by omega), GH_I (by omega), GH_I (by omega), GH_I (by omega)]
      refine ⟨by rw [GH_k, if_pos rfl], ⟨by simp, by simp, by simp, by simp, by simp⟩, ⟨GH_R4 (by omega), GH_R5 (by omega)⟩, ⟨j, hj, rfl, by rw [GH_k, if_neg (by omega), if_pos rfl], fun a ha => by rw [GH_I1 (by omega) ha, l5 a ha]⟩, by rw [GH_k, if_neg (by omega), if_neg (by omega), if_pos rfl], 0, by omega, rfl, fun y hy => absurd hy (Nat.not_lt_zero _)⟩
    · have hg2' : g2 < ng := by omega
      obtain ⟨m2, m21, m22, -, m24⟩ := C.an hg2'
      have g1 := hA 1 g2 (C.v (Or.inl rfl) hg2')
      have g2' := hA 2 g2 (C.v (Or.inr (Or.inl rfl)) hg2')
      have g3 := hA 3 g2 (C.v (Or.inr (Or.inr rfl)) hg2')
      refine ⟨?_, ?_⟩
      · rw [GH_Ro (by omega), if_neg (by omega), AG1_o A _ _ (Or.inl e)]
        exact (G g2 hg2').1
      · refine GOK_tr (G g2 hg2').2 ⟨AG1_o A _ _ (Or.inl e), AG1_o A _ _ (Or.inl e), AG1_o A _ _ (Or.inl e)⟩ ⟨ko _ g1.2, fun k _ => io _ _ g1.2 (by omega), fun k => ro _ _ g1.2 (by omega)⟩ ⟨ko _ g2'.2, fun y hy e2 => ?_⟩ (ko _ g3.2) ⟨l1 _ _ (by omega) (by omega) (by omega) (by omega) (by omega) (by omega) (by omega), l1 _ _ (by omega) (by omega) (by omega) (by omega) (by omega) (by omega) (by omega), l1 _ _ (by omega) (by omega) (by omega) (by omega) (by omega) (by omega) (by omega), l1 _ _ (by omega) (by omega) (by omega) (by omega) (by omega) (by omega) (by omega)⟩ ⟨m2, m21, by rw [l1 _ _ (by omega) (by omega) (by omega) (by omega) (by omega) (by omega) (by omega)]; exact m22, ?_, fun y hy => ⟨?_, ?_⟩⟩
        · rw [io _ _ g2'.2 (by omega), l1 _ _ (by omega) (by omega) (by omega) (by omega) (by omega) (by omega) (by omega)]
          exact e2
        · rw [io _ _ g1.2 (by omega), ← m22]
          exact (G g2 hg2').2.2.1.2.2.2.2
        · rw [ro _ _ g3.2 (by omega), AG1_o A _ _ (Or.inr (by omega))]
          exact (m24 y hy).1
        · have v4 := hA 4 _ (C.v4 hg2' m22 m21 hy)
          refine XOK_tr (m24 y hy).2 (AG1_o A _ _ (Or.inr (by omega))) (fun _ => AG1_o A _ _ (Or.inr (by omega))) ⟨ko _ v4.2, fun k => io _ _ v4.2 (by omega), fun k => ro _ _ v4.2 (by omega)⟩ (fun q => ?_) (l1 _ _ (by omega) (by omega) (by omega) (by omega) (by omega) (by omega) (by omega)) (l1 _ _ (by omega) (by omega) (by omega) (by omega) (by omega) (by omega) (by omega)) (fun i hi => by rw [l2])
          have v5 := (hA 5 _ (C.v5 hg2' m22 m21 hy q)).2
          exact ⟨ko _ v5, fun k => GH_Jo v5 k⟩
  · rw [GH_z]
    rcases vl i x q with ⟨q1, q2⟩ | ⟨rfl, rfl | rfl | rfl⟩
    · have := hA i x q1
      rw [AG1_o A _ _ q2]
      omega
    · rw [AG1_1]; omega
    · rw [AG1_2]; omega
    · rw [AG1_3]; omega
  · rcases vl i x q1 with ⟨u1, u2⟩ | ⟨rfl, u⟩
    · have ux := hA i x u1
      rw [AG1_o A _ _ u2] at e
      rcases vl i y q2 with ⟨v1, v2⟩ | ⟨rfl, v⟩
      · rw [AG1_o A _ _ v2] at e
        exact D.2 i x y u1 v1 e
      · rcases v with rfl | rfl | rfl
        · rw [AG1_1] at e; omega
        · rw [AG1_2] at e; omega
        · rw [AG1_3] at e; omega
    · rcases vl i y q2 with ⟨v1, v2⟩ | ⟨v0, v⟩
      · have uy := hA i y v1
        rw [AG1_o A _ _ v2] at e
        rcases u with rfl | rfl | rfl
        · rw [AG1_1] at e; omega
        · rw [AG1_2] at e; omega
        · rw [AG1_3] at e; omega
      · exact v0.symm
theorem c_ginit {ng j : Nat} {b w d : Int32} (hj : j ≤ 20) : f_X0_init (hz h) (nI ng) (nI j) b w d (nw h 0 0) = some (fiH (hz h + 1) 0 j (sR (nw (sR (nw (sI (sI (sI (sI (nw h 0 0) (hz h) 0 (nI ng)) (hz h) 1 b) (hz h) 2 w) (hz h) 3 d) 10 j) (hz h) 4 (some (hz h + 1))) 15 8) (hz h) 5 (some (hz h + 2)))) := by
  have k0 : hk (nw h 0 0) (hz h) = some (0, 0) := by rw [hk_nw, if_pos rfl]
  have a1 := pI_k (h := nw h 0 0) k0 0 (nI ng)
  have a2 := pI_k (h := sI (nw h 0 0) (hz h) 0 (nI ng)) k0 1 b
  have a3 := pI_k (h := sI (sI (nw h 0 0) (hz h) 0 (nI ng)) (hz h) 1 b) k0 2 w
  have a4 := pI_k (h := sI (sI (sI (nw h 0 0) (hz h) 0 (nI ng)) (hz h) 1 b) (hz h) 2 w) k0 3 d
  generalize hh : sI (sI (sI (sI (nw h 0 0) (hz h) 0 (nI ng)) (hz h) 1 b) (hz h) 2 w) (hz h) 3 d = h1 at a4
  have z1 : hz h1 = hz h + 1 := by rw [← hh]; rfl
  have k1 : hk h1 (hz h) = some (0, 0) := by rw [← hh]; exact k0
  have e1 : na 10 20 h1 (nI j) = some (nw h1 10 j) := by
    unfold na
    rw [nIt (by omega), if_pos ⟨nI_pos (by omega), hj⟩]
  have k2 : hk (nw h1 10 j) (hz h) = some (0, 0) := by rw [hk_nw, if_neg (by omega)]; exact k1
  have a5 := pR_k (h := nw h1 10 j) k2 4 (some (hz h1))
  have e2 : na 15 8 (sR (nw h1 10 j) (hz h) 4 (some (hz h1))) (8 : Int32) = some (nw (sR (nw h1 10 j) (hz h) 4 (some (hz h1))) 15 8) := by
    unfold na
    have q1 : ¬ (8 : Int32) < 0 := by decide
    have q2 : (8 : Int32).toNatClampNeg = 8 := by decide
    rw [q2, if_pos ⟨q1, Nat.le_refl _⟩]
  have z2 : hz (sR (nw h1 10 j) (hz h) 4 (some (hz h1))) = hz h + 2 := by
    show hz h1 + 1 = _
    rw [z1]
  have k3 : hk (nw (sR (nw h1 10 j) (hz h) 4 (some (hz h1))) 15 8) (hz h) = some (0, 0) := by
    rw [hk_nw, if_neg (by omega)]
    exact k2
  have a6 := pR_k (h := nw (sR (nw h1 10 j) (hz h) 4 (some (hz h1))) 15 8) k3 5 (some (hz (sR (nw h1 10 j) (hz h) 4 (some (hz h1)))))
  have k4 : hk (nw (sR (nw h1 10 j) (hz h) 4 (some (hz h1))) 15 8) (hz h + 1) = some (10, j) := by
    rw [hk_nw, if_neg (by omega)]
    show hk (nw h1 10 j) (hz h + 1) = _
    rw [hk_nw, if_pos (by omega)]
  have r4 : hR (sR (nw (sR (nw h1 10 j) (hz h) 4 (some (hz h1))) 15 8) (hz h) 5 (some (hz (sR (nw h1 10 j) (hz h) 4 (some (hz h1)))))) (hz h) 4 = some (hz h + 1) := by
    rw [hR_sR, if_neg (by omega), hR_nw, if_neg (by omega), hR_sR, if_pos ⟨rfl, rfl⟩, z1]
  have a7 := c_i53 hj j 0 FU (sR (nw (sR (nw h1 10 j) (hz h) 4 (some (hz h1))) 15 8) (hz h) 5 (some (hz (sR (nw h1 10 j) (hz h) 4 (some (hz h1)))))) (by omega) (by unfold FU; omega) k3 k4 r4
  rw [nI_0] at a7
  unfold f_X0_init f_X0_init_36
  have p0 : (0 : Int32) ≤ nI j := nI_pos' (by omega)
  simp only [a1, a2, a3, a4, Option.bind_some, if_pos p0, e1, a5, e2, a6, a7]
  rw [z2, z1]
theorem c_agreement (C : COK c L n np ng A h) (F : WF L n np ng) (W : MW L n np ng) (hz37 : c + 37 ≤ hz h) (a b w d : Int32) : ∃ h' A', f_X7_agreement c a b w d h = some ((U_agreement L ng a b w d).1, h') ∧ COK c (U_agreement L ng a b w d).2 n np (if ng = 10 then ng else if okA a b w d = true then ng + 1 else ng) A' h' ∧ KEP c h h' := by
  obtain ⟨w1, hn, w3, w4, w5, hnp, w7, hng, w9⟩ := id W
  unfold f_X7_agreement U_agreement okA
  simp only [cH4 C, cH0 C, cal1 C, c_isFrom, Option.bind_some, b2i_z]
  rw [if_neg (nI_pos (by omega))]
  by_cases c0 : ng = 10
  · have q : ¬ nI ng < nI 10 := by rw [c0]; decide
    rw [if_neg q, if_pos c0, if_pos c0]
    exact ⟨h, A, rfl, C, KEP_refl c h⟩
  · have hng' : ng < 10 := by omega
    rw [if_pos (nI_lt hng' (by omega)), if_neg c0, if_neg c0]
    simp only [Bool.and_assoc]
    rw [← Bool.and_assoc (decide (¬ a < 1)), ← Bool.and_assoc (decide (¬ b < 1)), ← Bool.and_assoc (decide (¬ w < 0))]
    by_cases d1 : (decide (¬ a < 1) && decide (¬ (20 : Int32) < a)) = true
    · have d1' := d1
      rw [Bool.and_eq_true, decide_eq_true_eq, decide_eq_true_eq] at d1'
      obtain ⟨j, j1, j2, rfl⟩ := nI_rng (n := 20) (by omega) d1'.1 d1'.2
      rw [d1]
      generalize (decide (¬ b < 1) && decide (¬ (10 : Int32) < b)) = b1
      cases b1
      · exact ⟨h, A, by simp, by simpa using C, KEP_refl c h⟩
      generalize (decide (¬ w < 0) && decide (¬ (1000 : Int32) < w)) = b2
      cases b2
      · exact ⟨h, A, by simp, by simpa using C, KEP_refl c h⟩
      generalize (decide (¬ d < 0) && decide (¬ (1000 : Int32) < d)) = b3
      cases b3
      · exact ⟨h, A, by simp, by simpa using C, KEP_refl c h⟩
      simp only [Bool.and_self, if_true]
      rw [if_neg (by simp), if_neg (by simp), if_neg (by simp), if_neg (by simp)]
      have k0 : hk (nw h 0 0) c = some (7, 0) := by rw [hk_nw, if_neg (by omega)]; exact kB0 C.1
      have i0 : hI (nw h 0 0) c 4 = nI ng := by rw [hI_nw, if_neg (by omega)]; exact C.2.1.1
      have q := COK_agr C F hn hz37 hng' j2 b w d
      simp only [gI_k k0, i0, c_ginit j2, Option.bind_some]
      generalize hh : fiH (hz h + 1) 0 j (sR (nw (sR (nw (sI (sI (sI (sI (nw h 0 0) (hz h) 0 (nI ng)) (hz h) 1 b) (hz h) 2 w) (hz h) 3 d) 10 j) (hz h) 4 (some (hz h + 1))) 15 8) (hz h) 5 (some (hz h + 2))) = h1
      have eG : GH h c ng j b w d = sI (sR h1 (c + 1) ng (some (hz h))) c 4 (nI (ng + 1)) := by rw [← hh]; rfl
      have kx : ∀ x, x ≠ c → hk h1 x = hk (GH h c ng j b w d) x := fun x _ => by rw [eG]; rfl
      have kk : ∀ x, hk h1 x = hk (GH h c ng j b w d) x := fun x => by rw [eG]; rfl
      have k1 : hk h1 (c + 1) = some (14, 10) := by rw [kk, GH_k, if_neg (by omega), if_neg (by omega), if_neg (by omega)]; exact kB1 C.1
      have kz : hk h1 (hz h) = some (0, 0) := by rw [kk, GH_k, if_pos rfl]
      have kc : hk h1 c = some (7, 0) := by rw [kk, GH_k, if_neg (by omega), if_neg (by omega), if_neg (by omega)]; exact kB0 C.1
      have ic : hI h1 c 4 = nI ng := by
        rw [← hh, fiH_I, if_neg (by omega), hI_sR, hI_nw]
        show (if c = hz h + 1 + 1 then (fun _ => 0) else hI (nw (sI (sI (sI (sI (nw h 0 0) (hz h) 0 (nI ng)) (hz h) 1 b) (hz h) 2 w) (hz h) 3 d) 10 j) c) 4 = _
        rw [if_neg (by omega), hI_nw]
        show (if c = hz h + 1 then (fun _ => 0) else hI (sI (sI (sI (sI (nw h 0 0) (hz h) 0 (nI ng)) (hz h) 1 b) (hz h) 2 w) (hz h) 3 d) c) 4 = _
        rw [if_neg (by omega), hI_sI, if_neg (by omega), hI_sI, if_neg (by omega), hI_sI, if_neg (by omega), hI_sI, if_neg (by omega)]
        exact i0
      have e1 := stR_s (h := h1) k1 (show ng < 10 by omega) (by decide) kz
      have k2 : hk (sR h1 (c + 1) ng (some (hz h))) c = some (7, 0) := kc
      have k3 : hk (sI (sR h1 (c + 1) ng (some (hz h))) c 4 (nI ng + 1)) c = some (7, 0) := kc
      simp only [e1, Option.bind_some, gI_k k2, pI_k k2, hI_sR, ic]
      simp only [gI_k k3, Option.bind_some, hI_sI, and_self, if_true]
      rw [nI_1, nI_sub1, nI_m1', ← eG, nIt (by omega)]
      refine ⟨_, _, rfl, q, ⟨by rw [GH_z]; omega, fun x _ b2 => ⟨?_, fun k => ?_, fun k => ?_, fun k => ?_⟩⟩⟩
      · rw [GH_k, if_neg (by omega), if_neg (by omega), if_neg (by omega)]
      · rw [GH_Io (by omega), if_neg (by omega)]
      · rw [GH_Jo (by omega)]
      · rw [GH_Ro (by omega), if_neg (by omega)]
    · rw [bf d1]
      exact ⟨h, A, by simp, by simpa using C, KEP_refl c h⟩
end AGs
