/-! PURE 36: what is kept to stays kept to, with one more PAPER -/
section WL
variable {L : LM} {n np ng : Nat} {v : Nat → Int32} {z : Int64}
theorem WF_LG (F : WF L n np ng) (hn : n ≤ 400) (l : LC (LG L n v z) np ng n) : WF (LG L n v z) (n + 1) np ng := by
  intro x hx
  rcases Nat.lt_or_ge x n with q | q
  · exact LC_EqP hn LG_EqP F q
  · obtain rfl : x = n := by omega
    exact l
theorem MW_LG (W : MW L n np ng) (hn : n < 400) (F : WF (LG L n v z) (n + 1) np ng) : MW (LG L n v z) (n + 1) np ng := by
  obtain ⟨w1, w2, w3, w4, w5, w6, w7, w8, w9⟩ := W
  refine ⟨LG_8, by omega, F.nm, F.of, ?_, w6, ?_, w8, fun g hg => ?_⟩
  · rw [LG_o (by omega) (by omega)]; exact w5
  · rw [LG_o (by omega) (by omega)]; exact w7
  · rw [LG_o (by omega) (by omega)]; exact w9 g hg
theorem AX_LG (X : AX L ng) : AX (LG L n v z) ng := by
  intro g hg
  obtain ⟨c, c1, c2, c3⟩ := X g hg
  refine ⟨c, c1, ?_, fun x hx => ?_⟩
  · rw [LG_o (by omega) (by omega)]; exact c2
  · rw [LG_o (by omega) (by omega)]; exact c3 x hx
theorem TD_LG (D : TD L n ng) (h9 : v 9 = L.1 0 0) : TD (LG L n v z) (n + 1) ng := by
  obtain ⟨⟨t, t1, t2, t3⟩, ds⟩ := D
  refine ⟨⟨t, t1, ?_, fun x hx => ?_⟩, fun g hg => ?_⟩
  · rw [LG_o (by omega) (by omega)]; exact t2
  · rcases Nat.lt_or_ge x n with q | q
    · rw [LG_lt q (by omega)]; exact t3 x q
    · obtain rfl : x = n := by omega
      rw [LG_n (by omega) (by omega), h9, t2]
      exact nI_le (Nat.le_refl _) (by omega)
  · rw [LG_o (by omega) (by omega)]; exact ds g hg
end WL
