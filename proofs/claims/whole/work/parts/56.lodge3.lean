/-! PURE 27: lodging in the program -/
def LH (c n : Nat) (h : AH) (s p : Int32) (ab : Option Nat) (t e : Int32) : AH := sI (sR (sI (sI (sR (sI (sI (sI (sI (sI (nw h 3 0) (hz h) 8 (-1)) (hz h) 9 (-1)) (hz h) 0 (nI n)) (hz h) 1 s) (hz h) 2 p) (hz h) 3 ab) (hz h) 4 t) (hz h) 5 e) (c + 3) n (some (hz h))) (c + 2) 1 (nI (n + 1))
section LQ
variable {c : Nat} {L : LM} {n np ng : Nat} {A : Nat → Nat → Nat} {h : AH}
theorem c_lodge (C : COK c L n np ng A h) (hn : n < 400) (hz37 : c + 37 ≤ hz h) (s p : Int32) (ab : Option Nat) (t e : Int32) : f_X4_lodge (c + 2) s p ab t e h = some (some (hz h), LH c n h s p ab t e) := by
  have ne2 : ¬ c + 2 = hz h := by omega
  have ne3 : ¬ c + 3 = hz h := by omega
  have k2 : hk (nw h 3 0) (c + 2) = some (4, 0) := by rw [hk_nw, if_neg ne2]; exact kB2 C.1
  have kz : hk (nw h 3 0) (hz h) = some (3, 0) := by rw [hk_nw, if_pos rfl]
  have k3 : hk (nw h 3 0) (c + 3) = some (13, 400) := by rw [hk_nw, if_neg ne3]; exact kB3 C.1
  have i2 : hI (nw h 3 0) (c + 2) 1 = nI n := by rw [hI_nw, if_neg ne2]; exact C.2.1.2.2.2
  have r2 : hR (nw h 3 0) (c + 2) 0 = some (c + 3) := by rw [hR_nw, if_neg ne2]; exact C.1.2 2 0 3 rfl
  have e1 : ¬ nI n < 0 := nI_pos (by omega)
  have e2 : (nI n).toNatClampNeg = n := nI_clamp (by omega)
  have e3 : ¬ 400 ≤ n := by omega
  have e4 : ¬ nI 400 ≤ nI n := nI_ge hn (by omega)
  unfold f_X4_lodge f_X3_init
  simp [gI, gR, pI, pR, ck, al, stR, ca, hk_sI, hk_sR, kz, k2, k3, i2, r2, hI_sI, hI_sR, hR_sI, hR_sR, ne2, e1, e2, e3, e4, nI_1]
  have h0 : 0 ≤ nI n := by rw [← nI_0]; exact nI_le (by omega) (by omega)
  rw [if_pos ⟨h0, hn⟩]
  simp [hk_sI, hk_sR, k2, i2, hI_sI, hI_sR, ne2, nI_1]
  rfl
theorem LH_z (s p : Int32) (ab : Option Nat) (t e : Int32) : hz (LH c n h s p ab t e) = hz h + 1 := rfl
theorem LH_k (s p : Int32) (ab : Option Nat) (t e : Int32) (b : Nat) : hk (LH c n h s p ab t e) b = if b = hz h then some (3, 0) else hk h b := rfl
theorem LH_I (hz37 : c + 37 ≤ hz h) (s p : Int32) (ab : Option Nat) (t e : Int32) (k : Nat) : hI (LH c n h s p ab t e) (hz h) k = if k = 5 then e else if k = 4 then t else if k = 2 then p else if k = 1 then s else if k = 0 then nI n else if k = 9 then -1 else if k = 8 then -1 else 0 := by
  have ne2 : ¬ hz h = c + 2 := by omega
  simp [LH, hI_sI, hI_sR, hI_nw, ne2]
theorem LH_Io (s p : Int32) (ab : Option Nat) (t e : Int32) {b : Nat} (hb : b ≠ hz h) (k : Nat) : hI (LH c n h s p ab t e) b k = if b = c + 2 ∧ k = 1 then nI (n + 1) else hI h b k := by
  simp [LH, hI_sI, hI_sR, hI_nw, hb]
theorem LH_R (hz37 : c + 37 ≤ hz h) (s p : Int32) (ab : Option Nat) (t e : Int32) (k : Nat) : hR (LH c n h s p ab t e) (hz h) k = if k = 3 then ab else none := by
  have ne3 : ¬ hz h = c + 3 := by omega
  simp [LH, hR_sI, hR_sR, hR_nw, ne3]
theorem LH_Ro (s p : Int32) (ab : Option Nat) (t e : Int32) {b : Nat} (hb : b ≠ hz h) (k : Nat) : hR (LH c n h s p ab t e) b k = if b = c + 3 ∧ k = n then some (hz h) else hR h b k := by
  simp [LH, hR_sI, hR_sR, hR_nw, hb]
theorem LH_J (s p : Int32) (ab : Option Nat) (t e : Int32) (k : Nat) : hJ (LH c n h s p ab t e) (hz h) k = 0 := by
  simp [LH, hJ_sI, hJ_sR, hJ_nw]
theorem LH_Jo (s p : Int32) (ab : Option Nat) (t e : Int32) {b : Nat} (hb : b ≠ hz h) (k : Nat) : hJ (LH c n h s p ab t e) b k = hJ h b k := by
  simp [LH, hJ_sI, hJ_sR, hJ_nw, hb]
theorem LH_F (s p : Int32) (ab : Option Nat) (t e : Int32) : FRM c n h (LH c n h s p ab t e) none := ⟨LH_z s p ab t e, LH_k s p ab t e, fun _ k hb => LH_Io s p ab t e hb k, fun _ k hb => LH_Jo s p ab t e hb k, fun _ k hb => by rw [LH_Ro s p ab t e hb k]; simp⟩
theorem FRM_sI {h' : AH} {ud : Option (Nat × Nat)} (f : FRM c n h h' ud) (k : Nat) (v : Int32) : FRM c n h (sI h' (hz h) k v) ud := by
  obtain ⟨f1, f2, f3, f4, f5⟩ := f
  exact ⟨f1, f2, fun b j hb => by rw [hI_sI, if_neg (fun w => hb w.1)]; exact f3 b j hb, f4, f5⟩
theorem FRM_sJ {h' : AH} {ud : Option (Nat × Nat)} (f : FRM c n h h' ud) (k : Nat) (v : Int64) : FRM c n h (sJ h' (hz h) k v) ud := by
  obtain ⟨f1, f2, f3, f4, f5⟩ := f
  exact ⟨f1, f2, f3, fun b j hb => by rw [hJ_sJ, if_neg (fun w => hb w.1)]; exact f4 b j hb, f5⟩
theorem FRM_sR {h' : AH} {ud : Option (Nat × Nat)} (f : FRM c n h h' ud) (k : Nat) (v : Option Nat) : FRM c n h (sR h' (hz h) k v) ud := by
  obtain ⟨f1, f2, f3, f4, f5⟩ := f
  exact ⟨f1, f2, f3, f4, fun b j hb => by rw [hR_sR, if_neg (fun w => hb w.1)]; exact f5 b j hb⟩
theorem FRM_ud {h' : AH} (f : FRM c n h h' none) {b k : Nat} (h3 : b ≠ c + 3) : FRM c n h (sR h' b k (some (hz h))) (some (b, k)) := by
  obtain ⟨f1, f2, f3, f4, f5⟩ := f
  refine ⟨f1, f2, f3, f4, fun x j hx => ?_⟩
  rw [hR_sR]
  by_cases w : x = b ∧ j = k
  · obtain ⟨rfl, rfl⟩ := w
    rw [if_pos ⟨rfl, rfl⟩, if_neg (fun q => h3 q.1), if_pos rfl]
  · rw [if_neg w, f5 x j hx]
    have : ¬ some (b, k) = some (x, j) := by
      intro q
      have q1 := congrArg Prod.fst (Option.some.inj q)
      have q2 := congrArg Prod.snd (Option.some.inj q)
      exact w ⟨q1.symm, q2.symm⟩
    rw [if_neg this]
    simp
end LQ
