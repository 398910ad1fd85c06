/-! PURE 43: the call annex -/
section AB2
variable {c : Nat} {L : LM} {n np ng : Nat} {A : Nat → Nat → Nat} {h : AH}
theorem c_xinit {w : Int32} {s : Nat} (hs : s ≤ 100) : f_X1_init (hz h) w (nI s) (nw h 1 0) = some (sR (nw (sI (nw h 1 0) (hz h) 0 w) 11 s) (hz h) 1 (some (hz h + 1))) := by
  have k1 : hk (nw h 1 0) (hz h) = some (1, 0) := by rw [hk_nw, if_pos rfl]
  have k2 : hk (nw (sI (nw h 1 0) (hz h) 0 w) 11 s) (hz h) = some (1, 0) := by
    rw [hk_nw, if_neg (by show ¬ hz h = hz h + 1; omega)]
    exact k1
  have e1 : na 11 100 (sI (nw h 1 0) (hz h) 0 w) (nI s) = some (nw (sI (nw h 1 0) (hz h) 0 w) 11 s) := by
    unfold na
    rw [nIt (by omega), if_pos ⟨nI_pos (by omega), hs⟩]
  unfold f_X1_init f_X1_init_19
  rw [pI_k k1]
  simp only [Option.bind_some, e1, if_pos (nI_0le s hs)]
  have e2 := pR_k k2 1 (some (hz (sI (nw h 1 0) (hz h) 0 w)))
  rw [e2]
  rfl
theorem c_addX (C : COK c L n np ng A h) {g m s : Nat} {w : Int32} (hz37 : c + 37 ≤ hz h) (hg : g < ng) (em : L.1 18 g = nI m) (hm : m < 8) : f_X0_addAnnex (A 1 g) (some (hz h)) (sR (nw (sI (nw h 1 0) (hz h) 0 w) 11 s) (hz h) 1 (some (hz h + 1))) = some (nI m, XH h (A 1 g) (A 3 g) m s w) := by
  have b1 := (C.2.2.2.2.1 1 g (C.v (Or.inl rfl) hg)).2
  have b3 := (C.2.2.2.2.1 3 g (C.v (Or.inr (Or.inr rfl)) hg)).2
  have n31 : A 3 g ≠ A 1 g := fun e => by
    have q := C.k3 hg
    rw [e, C.kg hg] at q
    cases q
  generalize hh : sR (nw (sI (nw h 1 0) (hz h) 0 w) 11 s) (hz h) 1 (some (hz h + 1)) = h1
  have ko : ∀ b, b < hz h → hk h1 b = hk h b := fun b hb => by
    rw [← hh]
    show (if b = hz h + 1 then some (11, s) else if b = hz h then some (1, 0) else hk h b) = _
    rw [if_neg (by omega), if_neg (by omega)]
  have io : ∀ b k, b < hz h → hI h1 b k = hI h b k := fun b k hb => by
    rw [← hh, hI_sR, hI_nw]
    show (if b = hz h + 1 then (fun _ => 0) else hI (sI (nw h 1 0) (hz h) 0 w) b) k = _
    rw [if_neg (by omega), hI_sI, if_neg (by omega), hI_nw, if_neg (by omega)]
  have ro : ∀ b k, b < hz h → hR h1 b k = hR h b k := fun b k hb => by
    rw [← hh, hR_sR, if_neg (by omega), hR_nw]
    show (if b = hz h + 1 then (fun _ => none) else hR (sI (nw h 1 0) (hz h) 0 w) b) k = _
    rw [if_neg (by omega), hR_sI, hR_nw, if_neg (by omega)]
  have kz : hk h1 (hz h) = some (1, 0) := by
    rw [← hh]
    show (if hz h = hz h + 1 then some (11, s) else if hz h = hz h then some (1, 0) else hk h (hz h)) = _
    rw [if_neg (by omega), if_pos rfl]
  have k1 : hk h1 (A 1 g) = some (0, 0) := by rw [ko _ b1]; exact C.kg hg
  have k3 : hk h1 (A 3 g) = some (15, 8) := by rw [ko _ b3]; exact C.k3 hg
  have G := (C.2.2.2.1 g hg).2
  have i6 : hI h1 (A 1 g) 6 = nI m := by rw [io _ _ b1, ← em]; exact G.2.1.2.2.2.2
  have r5 : hR h1 (A 1 g) 5 = some (A 3 g) := by rw [ro _ _ b1]; exact G.2.2.1.2
  unfold f_X0_addAnnex
  simp only [gI_k k1, gR_k k1, i6, r5, Option.bind_some, al_k k3 (by decide), stR_s k3 (show m < 8 by omega) (by decide) kz]
  rw [if_neg (nI_pos (by omega)), if_pos (nI_lt hm (by omega))]
  have q1 : hk (sR h1 (A 3 g) m (some (hz h))) (A 1 g) = some (0, 0) := k1
  have q2 : hk (sI (sR h1 (A 3 g) m (some (hz h))) (A 1 g) 6 (nI m + 1)) (A 1 g) = some (0, 0) := k1
  simp only [gI_k q1, pI_k q1, Option.bind_some, hI_sR, i6]
  simp only [gI_k q2, Option.bind_some, hI_sI, and_self, if_true]
  rw [nI_1, nI_sub1, nI_m1', ← hh]
  rfl
theorem c_annex (C : COK c L n np ng A h) (F : WF L n np ng) (W : MW L n np ng) (hz37 : c + 37 ≤ hz h) (g w s : Int32) : ∃ h', f_X7_annex c g w s h = some ((U_annex L g w s).1, h') ∧ OUT c np ng h (U_annex L g w s).2 h' := by
  obtain ⟨w1, hn, w3, w4, w5, hnp, w7, hng, w9⟩ := id W
  unfold f_X7_annex U_annex
  simp only [cck7 C, c_agAt C hng, Option.bind_some, w7]
  cases c1 : inR g (nI ng)
  · exact ⟨h, by simp, by simpa using OUT_same C W⟩
  · obtain ⟨g', hg, rfl⟩ := inR_of (by omega) c1
    obtain ⟨m, m1, m2, m3, m4⟩ := C.an hg
    simp only [if_true, nIt (show g' < 1000 by omega), c_isFrom, Option.bind_some, b2i_z, Bool.true_and]
    rw [if_neg (by simp)]
    generalize (decide (¬ w < 0) && decide (¬ (3 : Int32) < w)) = b
    cases b
    · exact ⟨h, by simp, by simpa using OUT_same C W⟩
    · simp only [Bool.true_and]
      rw [if_neg (by simp)]
      by_cases c3 : s ≤ 100
      · have b1 := (C.2.2.2.2.1 1 g' (C.v (Or.inl rfl) hg)).2
        simp only [if_pos c3, decide_eq_true c3, cG6 C hg, m2, Option.bind_some, if_true]
        by_cases c4 : m = 8
        · subst c4
          have q1 : ¬ nI 8 < (8 : Int32) := by decide
          have q2 : nI 8 = (8 : Int32) := by decide
          rw [if_neg q1, if_pos q2]
          exact ⟨h, rfl, OUT_same C W⟩
        · have q1 : nI m < (8 : Int32) := nI_lt (b := 8) (by omega) (by omega)
          have q2 : ¬ nI m = (8 : Int32) := fun e => c4 (nI_inj (b := 8) (by omega) (by omega) e)
          rw [if_pos q1, if_neg q2]
          by_cases c5 : 0 ≤ s
          · have c5' : ¬ s < 0 := by rw [Int32.lt_iff_toInt_lt]; rw [Int32.le_iff_toInt_le] at c5; omega
            obtain ⟨S, hS, rfl⟩ := nI_of c5'
            have hS2 : S ≤ 100 := (nIle hS (b := 100) (by omega)).mp c3
            have kg1 : hk (sR (nw (sI (nw h 1 0) (hz h) 0 w) 11 S) (hz h) 1 (some (hz h + 1))) (A 1 g') = some (0, 0) := by
              show (if A 1 g' = hz h + 1 then some (11, S) else if A 1 g' = hz h then some (1, 0) else hk h (A 1 g')) = _
              rw [if_neg (by omega), if_neg (by omega)]
              exact C.kg hg
            rw [if_pos c5, if_pos c5, c_xinit hS2]
            simp only [Option.bind_some, ck_k kg1, c_addX C hz37 hg m2 (show m < 8 by omega)]
            refine ⟨_, rfl, OUT_ck hn (A' := AX1 A (8 * g' + m) (hz h)) ?_ ?_ ⟨by rw [XH_z]; omega, fun b _ b2 => ⟨?_, fun k => ?_, fun k => ?_, fun k => ?_⟩⟩⟩
            · have q := COK_annex C F W hz37 hg m2 (show m < 8 by omega) hS2 w
              simp only [nI_1, nIt (show m < 1000 by omega), nIt (show S < 1000 by omega)]
              exact q
            · rw [zrL_1, LI1, if_neg (by omega), LI1, if_neg (by omega), LI1, if_neg (by omega)]; exact w1
            · rw [XH_k, if_neg (by omega), if_neg (by omega)]
            · have lo := (C.2.2.2.2.1 1 g' (C.v (Or.inl rfl) hg)).1
              rw [XH_Io (by omega), if_neg (by omega)]
            · rw [XH_Jo (by omega)]
            · have lo := (C.2.2.2.2.1 3 g' (C.v (Or.inr (Or.inr rfl)) hg)).1
              rw [XH_Ro (by omega), if_neg (by omega)]
          · rw [if_neg c5, if_neg c5]
            exact ⟨h, rfl, OUT_same C W⟩
      · refine ⟨h, by rw [if_neg c3, decide_eq_false c3]; simp, ?_⟩
        rw [decide_eq_false c3]
        simpa using OUT_same C W
end AB2
