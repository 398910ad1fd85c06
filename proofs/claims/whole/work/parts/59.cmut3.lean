/-! PURE 30: object, consent, withdraw, follow -/
section CO
variable {c : Nat} {L : LM} {n np ng : Nat} {A : Nat → Nat → Nat} {h : AH}
/-- what end leaves -/
def EH (c n : Nat) (A : Nat → Nat → Nat) (h h0 : AH) (y : Nat) : AH := sR (sR h0 (hz h) 6 (some (A 0 y))) (A 0 y) 12 (some (hz h))
theorem c_end (C : COK c L n np ng A h) {h0 : AH} (k0 : hk h0 (hz h) = some (3, 0)) {y : Nat} (hy : y < n) (ky : hk h0 (A 0 y) = some (3, 0)) : f_X3_end (hz h) (some (A 0 y)) h0 = some (EH c n A h h0 y) := by
  unfold f_X3_end
  rw [pR_k k0]
  simp only [Option.bind_some]
  rw [pR_k (h := sR h0 (hz h) 6 (some (A 0 y))) ky]
  rfl
/-- what answer leaves -/
def NH (L : LM) (c n : Nat) (A : Nat → Nat → Nat) (h h0 : AH) (y : Nat) : AH := sR (sR (sR h0 (hz h) 6 (some (A 0 y))) (hz h) 14 ((latO L n y).map (A 0))) (A 0 y) 13 (some (hz h))
theorem c_answer (C : COK c L n np ng A h) {h0 : AH} (k0 : hk h0 (hz h) = some (3, 0)) {y : Nat} (hy : y < n) (hyz : A 0 y ≠ hz h) (ky : hk h0 (A 0 y) = some (3, 0)) (r13 : hR h0 (A 0 y) 13 = (latO L n y).map (A 0)) : f_X3_answer (hz h) (some (A 0 y)) h0 = some (NH L c n A h h0 y) := by
  unfold f_X3_answer
  rw [pR_k k0]
  simp only [Option.bind_some]
  rw [gR_k (h := sR h0 (hz h) 6 (some (A 0 y))) ky]
  simp only [Option.bind_some]
  rw [hR_sR, if_neg (fun w => hyz w.1), r13, pR_k (h := sR h0 (hz h) 6 (some (A 0 y))) k0]
  simp only [Option.bind_some]
  rw [pR_k (h := sR (sR h0 (hz h) 6 (some (A 0 y))) (hz h) 14 ((latO L n y).map (A 0))) ky]
  rfl
theorem OUT_end (C : COK c L n np ng A h) (F : WF L n np ng) (hn : n < 400) (hz37 : c + 37 ≤ hz h) {s p g t e fl : Int32} {y : Nat} (hy : y < n) (hs : s = 5 ∨ s = 8) (hend : endO L n y = none) : OUT c np ng h (LG L n (row s p g t e (nI y) (-1) (-1) (-1) fl) 0) (EH c n A h (sI (LH c n h s p (ora (A 1) g) t e) (hz h) 10 fl) y) := by
  have hyz : A 0 y ≠ hz h := by have := (C.2.2.2.2.1 0 y (Or.inl ⟨rfl, hy⟩)).2; omega
  have hy3 : A 0 y ≠ c + 3 := by have := C.lo hy; omega
  have f := FRM_ud (b := A 0 y) (k := 12) (FRM_sR (FRM_sI (LH_F (c := c) (n := n) (h := h) s p (ora (A 1) g) t e) 10 fl) 6 (some (A 0 y))) hy3
  refine ⟨A1 A n (hz h), ?_, FRM_KEP C hz37 f (Or.inr ⟨y, 12, hy, rfl⟩)⟩
  rw [nn_LG hn]
  refine COK_LG C F hn hz37 f ?_ ?_ ?_ ?_ ?_ ?_ ?_ ?_ ?_ ?_ ?_ ?_ ?_ ?_ ?_ ?_
  all_goals first | (simp [EH, NH, LH_I hz37, LH_R hz37, LH_J, row, ora_m1, hI_sI, hI_sR, hR_sI, hR_sR, hJ_sI, hJ_sR, ora_nI _ (show y < 1000 by omega), hyz.symm]; done) | skip
  · exact Or.inr ⟨y, hy, rfl, Or.inr ⟨hs, rfl, hend, by simp [EH, LH_R hz37, hR_sI, hR_sR, hyz.symm]⟩⟩
theorem OUT_ans (C : COK c L n np ng A h) (F : WF L n np ng) (hn : n < 400) (hz37 : c + 37 ≤ hz h) {s p g t e fl : Int32} {y m : Nat} (hy : y < n) (hm : m < n) (hs : s = 4 ∨ s = 7) : OUT c np ng h (LG L n (row s p g t e (nI y) (nI m) (-1) (-1) fl) 0) (NH L c n A h (sI (sR (LH c n h s p (ora (A 1) g) t e) (hz h) 7 (some (A 0 m))) (hz h) 10 fl) y) := by
  have hyz : A 0 y ≠ hz h := by have := (C.2.2.2.2.1 0 y (Or.inl ⟨rfl, hy⟩)).2; omega
  have hy3 : A 0 y ≠ c + 3 := by have := C.lo hy; omega
  have f := FRM_ud (b := A 0 y) (k := 13) (FRM_sR (FRM_sR (FRM_sI (FRM_sR (LH_F (c := c) (n := n) (h := h) s p (ora (A 1) g) t e) 7 (some (A 0 m))) 10 fl) 6 (some (A 0 y))) 14 ((latO L n y).map (A 0))) hy3
  refine ⟨A1 A n (hz h), ?_, FRM_KEP C hz37 f (Or.inr ⟨y, 13, hy, rfl⟩)⟩
  rw [nn_LG hn]
  refine COK_LG C F hn hz37 f ?_ ?_ ?_ ?_ ?_ ?_ ?_ ?_ ?_ ?_ ?_ ?_ ?_ ?_ ?_ ?_
  all_goals first | (simp [EH, NH, LH_I hz37, LH_R hz37, LH_J, row, ora_m1, hI_sI, hI_sR, hR_sI, hR_sR, hJ_sI, hJ_sR, ora_nI _ (show y < 1000 by omega), ora_nI _ (show m < 1000 by omega), hyz.symm]; done) | skip
  · exact Or.inr ⟨m, hm, rfl⟩
  · exact Or.inr ⟨y, hy, rfl, Or.inl ⟨hs, rfl, by simp [NH, hR_sR, hyz.symm]⟩⟩
end CO
