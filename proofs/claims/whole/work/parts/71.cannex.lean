/-! PURE 42: annex -/
theorem zrL_1 : ∀ m j L b, (zrL L b j m).1 = L.1 := by
  intro m
  induction m with
  | zero => intro j L b; rfl
  | succ m ih => intro j L b; unfold zrL; rw [ih]; rfl
theorem zrL_2 : ∀ m j L b q k, (zrL L b j m).2 q k = if q = 21 ∧ b + j ≤ k ∧ k < b + j + m then 0 else L.2 q k := by
  intro m
  induction m with
  | zero => intro j L b q k; rw [if_neg (by omega)]; rfl
  | succ m ih =>
    intro j L b q k
    unfold zrL
    rw [ih, LJ2]
    by_cases w : q = 21 ∧ k = b + j
    · obtain ⟨rfl, rfl⟩ := w
      rw [if_neg (by omega), if_pos ⟨rfl, rfl⟩, if_pos (by omega)]
    · rw [if_neg w]
      by_cases w2 : q = 21 ∧ b + (j + 1) ≤ k ∧ k < b + (j + 1) + m
      · rw [if_pos w2, if_pos (by omega)]
      · rw [if_neg w2, if_neg (by omega)]
/-- what a new ANNEX leaves -/
def XH (h : AH) (a1 a3 m s : Nat) (w : Int32) : AH := sI (sR (sR (nw (sI (nw h 1 0) (hz h) 0 w) 11 s) (hz h) 1 (some (hz h + 1))) a3 m (some (hz h))) a1 6 (nI (m + 1))
section XHs
variable {h : AH} {a1 a3 m s : Nat} {w : Int32}
theorem XH_z : hz (XH h a1 a3 m s w) = hz h + 2 := rfl
theorem XH_k (b : Nat) : hk (XH h a1 a3 m s w) b = if b = hz h then some (1, 0) else if b = hz h + 1 then some (11, s) else hk h b := by
  show (if b = hz h + 1 then some (11, s) else if b = hz h then some (1, 0) else hk h b) = _
  by_cases q : b = hz h
  · rw [if_neg (by omega), if_pos q, if_pos q]
  · rw [if_neg q, if_neg q]
theorem XH_I (ha : a1 < hz h) (k : Nat) : hI (XH h a1 a3 m s w) (hz h) k = if k = 0 then w else 0 := by
  unfold XH
  rw [hI_sI, if_neg (by omega), hI_sR, hI_sR, hI_nw]
  show (if hz h = hz h + 1 then (fun _ => 0) else hI (sI (nw h 1 0) (hz h) 0 w) (hz h)) k = _
  rw [if_neg (by omega), hI_sI, hI_nw]
  by_cases q : k = 0
  · rw [if_pos ⟨rfl, q⟩, if_pos q]
  · rw [if_neg (fun u => q u.2), if_neg q, if_pos rfl]
theorem XH_Io {b : Nat} (hb : b < hz h) (k : Nat) : hI (XH h a1 a3 m s w) b k = if b = a1 ∧ k = 6 then nI (m + 1) else hI h b k := by
  unfold XH
  rw [hI_sI]
  by_cases q : b = a1 ∧ k = 6
  · rw [if_pos q, if_pos q]
  · rw [if_neg q, if_neg q, hI_sR, hI_sR, hI_nw]
    show (if b = hz h + 1 then (fun _ => 0) else hI (sI (nw h 1 0) (hz h) 0 w) b) k = _
    rw [if_neg (by omega), hI_sI, if_neg (by omega), hI_nw, if_neg (by omega)]
theorem XH_Jo {b : Nat} (hb : b < hz h) (k : Nat) : hJ (XH h a1 a3 m s w) b k = hJ h b k := by
  show (if b = hz h + 1 then (fun _ => 0) else if b = hz h then (fun _ => 0) else hJ h b) k = _
  rw [if_neg (by omega), if_neg (by omega)]
theorem XH_J (k : Nat) : hJ (XH h a1 a3 m s w) (hz h + 1) k = 0 := by
  show (if hz h + 1 = hz h + 1 then (fun _ => (0 : Int64)) else if hz h + 1 = hz h then (fun _ => 0) else hJ h (hz h + 1)) k = _
  rw [if_pos rfl]
theorem XH_Ro {b : Nat} (hb : b < hz h) (k : Nat) : hR (XH h a1 a3 m s w) b k = if b = a3 ∧ k = m then some (hz h) else hR h b k := by
  unfold XH
  rw [hR_sI, hR_sR]
  by_cases q : b = a3 ∧ k = m
  · rw [if_pos q, if_pos q]
  · rw [if_neg q, if_neg q, hR_sR, if_neg (by omega), hR_nw]
    show (if b = hz h + 1 then (fun _ => none) else hR (sI (nw h 1 0) (hz h) 0 w) b) k = _
    rw [if_neg (by omega), hR_sI, hR_nw, if_neg (by omega)]
theorem XH_R (ha : a3 < hz h) : hR (XH h a1 a3 m s w) (hz h) 1 = some (hz h + 1) := by
  unfold XH
  rw [hR_sI, hR_sR, if_neg (by omega), hR_sR, if_pos ⟨rfl, rfl⟩]
end XHs
def AX1 (A : Nat → Nat → Nat) (b z : Nat) : Nat → Nat → Nat := fun i x => if x = b ∧ i = 4 then z else if x = b ∧ i = 5 then z + 1 else A i x
theorem AX1_o (A : Nat → Nat → Nat) (b z : Nat) {i x : Nat} (h : x ≠ b ∨ (i ≠ 4 ∧ i ≠ 5)) : AX1 A b z i x = A i x := by
  unfold AX1
  rw [if_neg (by omega), if_neg (by omega)]
theorem AX1_4 (A : Nat → Nat → Nat) (b z : Nat) : AX1 A b z 4 b = z := by simp [AX1]
theorem AX1_5 (A : Nat → Nat → Nat) (b z : Nat) : AX1 A b z 5 b = z + 1 := by simp [AX1]
section AA
variable {c : Nat} {L : LM} {n np ng : Nat} {A : Nat → Nat → Nat} {h : AH}
theorem COK_annex (C : COK c L n np ng A h) (F : WF L n np ng) (W : MW L n np ng) (hz37 : c + 37 ≤ hz h) {g m s : Nat} (hg : g < ng) (em : L.1 18 g = nI m) (hm : m < 8) (hs : s ≤ 100) (w : Int32) : COK c (zrL (LI (LI (LI L 18 g (nI (m + 1))) 19 (8 * g + m) w) 20 (8 * g + m) (nI s)) (100 * (8 * g + m)) 0 s) n np ng (AX1 A (8 * g + m) (hz h)) (XH h (A 1 g) (A 3 g) m s w) := by
  obtain ⟨B, ⟨s4, s5, s6, s1⟩, P, G, D⟩ := id C
  have l1 : ∀ q k, ¬ (q = 18 ∧ k = g) → ¬ (q = 19 ∧ k = 8 * g + m) → ¬ (q = 20 ∧ k = 8 * g + m) → (zrL (LI (LI (LI L 18 g (nI (m + 1))) 19 (8 * g + m) w) 20 (8 * g + m) (nI s)) (100 * (8 * g + m)) 0 s).1 q k = L.1 q k := by
    intro q k h1 h2 h3
    rw [zrL_1, LI1, if_neg h3, LI1, if_neg h2, LI1, if_neg h1]
  have l18 : (zrL (LI (LI (LI L 18 g (nI (m + 1))) 19 (8 * g + m) w) 20 (8 * g + m) (nI s)) (100 * (8 * g + m)) 0 s).1 18 g = nI (m + 1) := by
    rw [zrL_1, LI1, if_neg (by omega), LI1, if_neg (by omega), LI1, if_pos ⟨rfl, rfl⟩]
  have l19 : (zrL (LI (LI (LI L 18 g (nI (m + 1))) 19 (8 * g + m) w) 20 (8 * g + m) (nI s)) (100 * (8 * g + m)) 0 s).1 19 (8 * g + m) = w := by
    rw [zrL_1, LI1, if_neg (by omega), LI1, if_pos ⟨rfl, rfl⟩]
  have l20 : (zrL (LI (LI (LI L 18 g (nI (m + 1))) 19 (8 * g + m) w) 20 (8 * g + m) (nI s)) (100 * (8 * g + m)) 0 s).1 20 (8 * g + m) = nI s := by
    rw [zrL_1, LI1, if_pos ⟨rfl, rfl⟩]
  have l2 : ∀ q k, (zrL (LI (LI (LI L 18 g (nI (m + 1))) 19 (8 * g + m) w) 20 (8 * g + m) (nI s)) (100 * (8 * g + m)) 0 s).2 q k = if q = 21 ∧ 100 * (8 * g + m) + 0 ≤ k ∧ k < 100 * (8 * g + m) + 0 + s then 0 else L.2 q k := by
    intro q k
    rw [zrL_2]
    rfl
  generalize zrL (LI (LI (LI L 18 g (nI (m + 1))) 19 (8 * g + m) w) 20 (8 * g + m) (nI s)) (100 * (8 * g + m)) 0 s = L' at l1 l18 l19 l20 l2 ⊢
  have hA : ∀ i x, vld L n ng i x → c + 37 ≤ A i x ∧ A i x < hz h := D.1
  have b1 := hA 1 g (C.v (Or.inl rfl) hg)
  have b3 := hA 3 g (C.v (Or.inr (Or.inr rfl)) hg)
  have io : ∀ b k, b < hz h → b ≠ A 1 g → hI (XH h (A 1 g) (A 3 g) m s w) b k = hI h b k := fun b k hb h1 => by rw [XH_Io hb, if_neg (fun u => h1 u.1)]
  have ro : ∀ b k, b < hz h → b ≠ A 3 g → hR (XH h (A 1 g) (A 3 g) m s w) b k = hR h b k := fun b k hb h1 => by rw [XH_Ro hb, if_neg (fun u => h1 u.1)]
  have ko : ∀ b, b < hz h → hk (XH h (A 1 g) (A 3 g) m s w) b = hk h b := fun b hb => by rw [XH_k, if_neg (by omega), if_neg (by omega)]
  have n1 : ∀ b, hk h b ≠ some (0, 0) → b ≠ A 1 g := fun b hb e => hb (by rw [e]; exact C.kg hg)
  have n3 : ∀ b, hk h b ≠ some (15, 8) → b ≠ A 3 g := fun b hb e => hb (by rw [e]; exact C.k3 hg)
  have vl : ∀ i x, vld L' n ng i x → vld L n ng i x ∧ (x ≠ 8 * g + m ∨ (i ≠ 4 ∧ i ≠ 5)) ∨ (x = 8 * g + m ∧ (i = 4 ∨ i = 5)) := by
    intro i x q
    by_cases qx : x = 8 * g + m ∧ (i = 4 ∨ i = 5)
    · exact Or.inr qx
    · refine Or.inl ⟨?_, by omega⟩
      rcases q with q | q | ⟨q1, g2, y, q2, q3, q4⟩ | ⟨q1, ⟨g2, y, q2, q3, q4⟩, q5⟩
      · exact Or.inl q
      · exact Or.inr (Or.inl q)
      · refine Or.inr (Or.inr (Or.inl ⟨q1, g2, y, q2, q3, ?_⟩))
        by_cases e : g2 = g
        · rw [e] at q4 q3 ⊢
          rw [l18, nI_clamp (by omega)] at q4
          rw [em, nI_clamp (by omega)]
          omega
        · rw [l1 _ _ (by omega) (by omega) (by omega)] at q4
          exact q4
      · rw [l1 20 x (by omega) (by omega) (by omega)] at q5
        refine Or.inr (Or.inr (Or.inr ⟨q1, ⟨g2, y, q2, q3, ?_⟩, q5⟩))
        by_cases e : g2 = g
        · rw [e] at q4 q3 ⊢
          rw [l18, nI_clamp (by omega)] at q4
          rw [em, nI_clamp (by omega)]
          omega
        · rw [l1 _ _ (by omega) (by omega) (by omega)] at q4
          exact q4
  refine COK_pap C F W.2.1 W.2.2.2.2.2.2.2.1 ⟨fun p hp => by rw [ko _ (by omega)]; exact B.1 p hp, fun p k o fo => ?_⟩ (by rw [io _ _ (by omega) (by omega)]; exact s4) (by rw [io _ _ (by omega) (by omega)]; exact s5) (by rw [io _ _ (by omega) (by omega), l1 _ _ (by omega) (by omega) (by omega)]; exact s6) (by rw [io _ _ (by omega) (by omega)]; exact s1) (fun q h1 h2 k hk => l1 _ _ (by omega) (by omega) (by omega)) (fun k _ => by rw [l2, if_neg (by omega)]) (fun _ _ => AX1_o A _ _ (Or.inr (by omega))) (fun _ _ => AX1_o A _ _ (Or.inr (by omega))) (fun _ _ => ro _ _ (by omega) (by omega)) (fun x hx => ?_) (fun g2 hg2 => ⟨?_, ?_⟩) ⟨fun i x q => ?_, fun i x y q1 q2 e => ?_⟩
  · have hp : p < 14 := by
      unfold fx at fo
      split at fo <;> first | omega | cases fo
    rw [ro _ _ (by omega) (by omega)]
    exact B.2 p k o fo
  · have hx2 := (hA 0 x (Or.inl ⟨rfl, hx⟩)).2
    exact ⟨ko _ hx2, fun k => io _ _ hx2 (n1 _ (by rw [C.kp hx]; intro e; cases e)), fun k => XH_Jo hx2 k, fun k => ro _ _ hx2 (n3 _ (by rw [C.kp hx]; intro e; cases e))⟩
  · rw [ro _ _ (by omega) (by omega), AX1_o A _ _ (Or.inr (by omega))]
    exact (G g2 hg2).1
  · have g1 := (hA 1 g2 (C.v (Or.inl rfl) hg2)).2
    have g2' := (hA 2 g2 (C.v (Or.inr (Or.inl rfl)) hg2)).2
    have g3 := (hA 3 g2 (C.v (Or.inr (Or.inr rfl)) hg2)).2
    obtain ⟨j, -, -, j3⟩ := C.k2 hg2
    obtain ⟨m2, m21, m22, -, m24⟩ := C.an hg2
    refine GOK_tr (G g2 hg2).2 ⟨AX1_o A _ _ (Or.inr (by omega)), AX1_o A _ _ (Or.inr (by omega)), AX1_o A _ _ (Or.inr (by omega))⟩ ⟨ko _ g1, fun k hk6 => ?_, fun k => ro _ _ g1 (n3 _ (by rw [C.kg hg2]; intro e; cases e))⟩ ⟨ko _ g2', fun y _ e => ?_⟩ (ko _ g3) ⟨l1 _ _ (by omega) (by omega) (by omega), l1 _ _ (by omega) (by omega) (by omega), l1 _ _ (by omega) (by omega) (by omega), l1 _ _ (by omega) (by omega) (by omega)⟩ ?_
    · rw [XH_Io g1, if_neg (by omega)]
    · rw [io _ _ g2' (n1 _ (by rw [j3]; intro e; cases e)), l1 _ _ (by omega) (by omega) (by omega)]
      exact e
    · have old : ∀ y, y < m2 → 8 * g2 + y ≠ 8 * g + m → XOK L' (AX1 A (8 * g + m) (hz h)) (XH h (A 1 g) (A 3 g) m s w) (8 * g2 + y) := by
        intro y hy hne
        have X := (m24 y hy).2
        have v4 := (hA 4 _ (C.v4 hg2 m22 m21 hy)).2
        refine XOK_tr X (AX1_o A _ _ (Or.inl hne)) (fun _ => AX1_o A _ _ (Or.inl hne)) ⟨ko _ v4, fun k => io _ _ v4 (n1 _ (by rw [X.1]; intro e; cases e)), fun k => ro _ _ v4 (n3 _ (by rw [X.1]; intro e; cases e))⟩ (fun q => ?_) (l1 _ _ (by omega) (by omega) (by omega)) (l1 _ _ (by omega) (by omega) (by omega)) (fun i hi => by rw [l2, if_neg (by omega)])
        have v5 := (hA 5 _ (C.v5 hg2 m22 m21 hy q)).2
        exact ⟨ko _ v5, fun k => XH_Jo v5 k⟩
      by_cases e : g2 = g
      · subst e
        obtain rfl : m2 = m := nI_inj (by omega) (by omega) (by rw [← m22, em])
        refine ⟨m2 + 1, by omega, l18, by rw [XH_Io g1, if_pos ⟨rfl, rfl⟩], fun y hy => ?_⟩
        by_cases ey : y = m2
        · subst ey
          refine ⟨by rw [XH_Ro g3, if_pos ⟨rfl, rfl⟩, AX1_4], ?_⟩
          unfold XOK
          rw [AX1_4, AX1_5, l19, l20]
          refine ⟨by rw [XH_k, if_pos rfl], by rw [XH_I g1, if_pos rfl], Or.inr ⟨s, hs, rfl, XH_R g3, by rw [XH_k, if_neg (by omega), if_pos rfl], fun i hi => ?_⟩⟩
          rw [XH_J, l2, if_pos ⟨rfl, by omega, by omega⟩]
        · refine ⟨?_, old y (by omega) (by omega)⟩
          rw [XH_Ro g3, if_neg (fun u => ey u.2), AX1_o A _ _ (Or.inl (by omega))]
          exact (m24 y (by omega)).1
      · refine ⟨m2, m21, by rw [l1 _ _ (by omega) (by omega) (by omega)]; exact m22, ?_, fun y hy => ⟨?_, old y hy (by omega)⟩⟩
        · have : A 1 g2 ≠ A 1 g := fun u => e (C.inj1 hg2 hg u)
          rw [io _ _ g1 this, ← m22]
          exact (G g2 hg2).2.2.1.2.2.2.2
        · have : A 3 g2 ≠ A 3 g := fun u => e (D.2 3 g2 g (C.v (Or.inr (Or.inr rfl)) hg2) (C.v (Or.inr (Or.inr rfl)) hg) u)
          rw [ro _ _ g3 this, AX1_o A _ _ (Or.inl (by omega))]
          exact (m24 y hy).1
  · rw [XH_z]
    rcases vl i x q with ⟨q1, q2⟩ | ⟨rfl, rfl | rfl⟩
    · have := hA i x q1
      rw [AX1_o A _ _ q2]
      omega
    · rw [AX1_4]; omega
    · rw [AX1_5]; omega
  · rcases vl i x q1 with ⟨u1, u2⟩ | ⟨rfl, u⟩
    · have ux := hA i x u1
      rw [AX1_o A _ _ u2] at e
      rcases vl i y q2 with ⟨v1, v2⟩ | ⟨rfl, v⟩
      · rw [AX1_o A _ _ v2] at e
        exact D.2 i x y u1 v1 e
      · rcases v with rfl | rfl
        · rw [AX1_4] at e; omega
        · rw [AX1_5] at e; omega
    · rcases vl i y q2 with ⟨v1, v2⟩ | ⟨v0, v⟩
      · have uy := hA i y v1
        rw [AX1_o A _ _ v2] at e
        rcases u with rfl | rfl
        · rw [AX1_4] at e; omega
        · rw [AX1_5] at e; omega
      · exact v0.symm
end AA
