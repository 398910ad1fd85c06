/-! PURE 35: party; what undo takes back -/
section CZ
variable {c : Nat} {L : LM} {n np ng : Nat} {A : Nat → Nat → Nat} {h : AH}
theorem c_party (C : COK c L n np ng A h) (hnp : np ≤ 30) : ∃ h', f_X7_party c h = some ((U_party L np).1, h') ∧ COK c (U_party L np).2 n (if np = 30 then np else np + 1) ng A h' ∧ KEP c h h' := by
  unfold f_X7_party U_party
  have e30 : (30 : Int32) = nI 30 := rfl
  simp only [cH5 C, Option.bind_some, e30, nIlt (show np < 2 ^ 31 by omega) (show 30 < 2 ^ 31 by omega)]
  by_cases c1 : np = 30
  · refine ⟨h, ?_, ?_⟩
    · rw [if_neg (by omega), if_pos c1]
    · rw [if_pos c1, if_pos c1]
      exact ⟨C, KEP_refl c h⟩
  · have q1 := pI_k (kB0 C.1) 5 (nI np + 1)
    have q2 := gI_k (h := sI h c 5 (nI (np + 1))) (kB0 C.1) 5
    refine ⟨sI h c 5 (nI (np + 1)), ?_, ?_⟩
    · rw [if_pos (by omega), if_neg c1, q1]
      simp only [Option.bind_some, q2, hI_sI, and_self, if_true, nI_1, nI_sub1, nI_m1']
    · rw [if_neg c1, if_neg c1]
      refine ⟨COK_c C (fun b k hb => by rw [hI_sI, if_neg (fun w => hb w.1)]) rfl rfl rfl rfl (fun q hq => LI_0 hq) rfl ?_ ?_ ?_, KEP_c⟩
      · rw [hI_sI, if_neg (by omega)]; exact C.2.1.1
      · rw [hI_sI, if_pos ⟨rfl, rfl⟩]
      · rw [hI_sI, if_neg (by omega)]; exact C.2.1.2.2.1
end CZ
