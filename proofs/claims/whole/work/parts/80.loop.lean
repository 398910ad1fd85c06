/-! PURE 51: the law's loop -/
section LO
variable {G : Gm}
theorem lS_k {i k : Nat} (hL : gsL G ≤ 4096) (h : 8 * i + k < gsL G) {v : Int32} (e : v = nI k) : lS G (nI (8 * i) + v) = some (gsx G (8 * i + k)) := by
  unfold lS
  rw [e, nI_add, nI_clamp (by omega), if_pos]
  rintro (q | q)
  · exact nI_pos (by omega) q
  · omega
theorem lg_self (x : Int64) : lg_cmp x x = 0 := by
  unfold lg_cmp
  rw [if_neg (by rw [gt_iff_lt, Int64.lt_iff_toInt_lt]; omega), if_pos rfl]
theorem stop_t {l i : Nat} (hl : l ≤ 4096) (h : l < 8 * i + 8) (hi : 8 * i ≤ l) : nI l - (8 : Int32) < nI (8 * i) := by
  have e8 : (8 : Int32) = nI 8 := rfl
  rcases Nat.lt_or_ge l 8 with q | q
  · have h0 : nI l - (8 : Int32) < 0 := by
      have : l = 0 ∨ l = 1 ∨ l = 2 ∨ l = 3 ∨ l = 4 ∨ l = 5 ∨ l = 6 ∨ l = 7 := by omega
      rcases this with rfl | rfl | rfl | rfl | rfl | rfl | rfl | rfl <;> decide
    rw [Int32.lt_iff_toInt_lt] at h0 ⊢
    have e0 : (0 : Int32).toInt = 0 := by decide
    rw [nI_toInt (show 8 * i < 2 ^ 31 by omega)]
    omega
  · rw [e8, nI_subs q]
    exact nI_lt (by omega) (by omega)
theorem stop_f {l i : Nat} (hl : l ≤ 4096) (h : 8 * i + 8 ≤ l) : ¬ nI l - (8 : Int32) < nI (8 * i) := by
  have e8 : (8 : Int32) = nI 8 := rfl
  rw [e8, nI_subs (by omega), nIlt (by omega) (by omega)]
  omega
set_option maxHeartbeats 2000000 in
theorem law_loop (hL : gsL G ≤ 4096) (c : Nat) : ∀ f i h, LXc c h → i ≤ gsL G / 8 → gsL G / 8 < i + f → ∃ h', f_L_law_18 G f (some c) (some (c + 14)) (nI (8 * i)) h = some (true, h') := by
  intro f
  induction f with
  | zero => intro i h V h1 h2; omega
  | succ f ih =>
    intro i h V h1 h2
    rw [f_L_law_18]
    by_cases q : i = gsL G / 8
    · exact ⟨h, by rw [if_pos (stop_t hL (by omega) (by omega))]⟩
    · have hb : 8 * i + 8 ≤ gsL G := by omega
      rw [if_neg (stop_f hL hb)]
      have l0 : lS G (nI (8 * i)) = some (gsx G (8 * i)) := by
        have := lS_k (G := G) (i := i) (k := 0) hL (by omega) (v := 0) rfl
        rw [Int32.add_zero] at this
        exact this
      have l1 : lS G (nI (8 * i) + (1 : Int32)) = some (gsx G (8 * i + 1)) := lS_k hL (by omega) rfl
      have l2 : lS G (nI (8 * i) + (2 : Int32)) = some (gsx G (8 * i + 2)) := lS_k hL (by omega) rfl
      have l3 : lS G (nI (8 * i) + (3 : Int32)) = some (gsx G (8 * i + 3)) := lS_k hL (by omega) rfl
      have l4 : lS G (nI (8 * i) + (4 : Int32)) = some (gsx G (8 * i + 4)) := lS_k hL (by omega) rfl
      have l5 : lS G (nI (8 * i) + (5 : Int32)) = some (gsx G (8 * i + 5)) := lS_k hL (by omega) rfl
      have l6 : lS G (nI (8 * i) + (6 : Int32)) = some (gsx G (8 * i + 6)) := lS_k hL (by omega) rfl
      have l7 : lS G (nI (8 * i) + (7 : Int32)) = some (gsx G (8 * i + 7)) := lS_k hL (by omega) rfl
      have e8 : nI (8 * i) + (8 : Int32) = nI (8 * (i + 1)) := by
        have : (8 : Int32) = nI 8 := rfl
        rw [this, nI_add, Nat.mul_add]
      have nx : ∀ h2, LXc c h2 → ∃ h', f_L_law_18 G f (some c) (some (c + 14)) (nI (8 * i) + (8 : Int32)) h2 = some (true, h') := fun h2 V2 => by
        rw [e8]
        exact ih (i + 1) h2 V2 (by omega) (by omega)
      have kc := V.ck7
      have k8 := V.ck8
      clear ih
      rw [l0, Option.bind_some]
      generalize gsx G (8 * i) &&& 31 = op
      generalize gsx G (8 * i + 1) = x1 at l1
      generalize gsx G (8 * i + 2) = x2 at l2
      generalize gsx G (8 * i + 3) = x3 at l3
      generalize gsx G (8 * i + 4) = x4 at l4
      generalize gsx G (8 * i + 5) = x5 at l5
      generalize gsx G (8 * i + 6) = x6 at l6
      generalize gsx G (8 * i + 7) = x7 at l7
      by_cases c0 : op = 0
      · rw [if_pos c0]
        obtain ⟨a, g1, g2, e1, e2, e3, V2⟩ := t_party V 
        simp only [kc, e1, e2, e3, Option.bind_some, if_true]
        exact nx g2 V2
      rw [if_neg c0]
      by_cases c1 : op = 1
      · rw [if_pos c1]
        obtain ⟨a, g1, g2, e1, e2, e3, V2⟩ := t_agreement V x1 x2 x3 x4
        simp only [l1, l2, l3, l4, kc, e1, e2, e3, Option.bind_some, if_true]
        exact nx g2 V2
      rw [if_neg c1]
      by_cases c2 : op = 2
      · rw [if_pos c2]
        obtain ⟨a, g1, g2, e1, e2, e3, V2⟩ := t_article V x1 x2 x3
        simp only [l1, l2, l3, kc, e1, e2, e3, Option.bind_some, if_true]
        exact nx g2 V2
      rw [if_neg c2]
      by_cases c3 : op = 3
      · rw [if_pos c3]
        obtain ⟨a, g1, g2, e1, e2, e3, V2⟩ := t_clock V x1
        simp only [l1, kc, e1, e2, e3, Option.bind_some, if_true]
        exact nx g2 V2
      rw [if_neg c3]
      by_cases c4 : op = 4
      · rw [if_pos c4]
        obtain ⟨a, g1, g2, e1, e2, e3, V2⟩ := t_sign V x1 x2
        simp only [l1, l2, kc, e1, e2, e3, Option.bind_some, if_true]
        exact nx g2 V2
      rw [if_neg c4]
      by_cases c5 : op = 5
      · rw [if_pos c5]
        obtain ⟨a, g1, g2, e1, e2, e3, V2⟩ := t_ratify V x1 x2
        simp only [l1, l2, kc, e1, e2, e3, Option.bind_some, if_true]
        exact nx g2 V2
      rw [if_neg c5]
      by_cases c6 : op = 6
      · rw [if_pos c6]
        obtain ⟨a, g1, g2, e1, e2, e3, V2⟩ := t_join V x1 x2
        simp only [l1, l2, kc, e1, e2, e3, Option.bind_some, if_true]
        exact nx g2 V2
      rw [if_neg c6]
      by_cases c7 : op = 7
      · rw [if_pos c7]
        obtain ⟨a, g1, g2, e1, e2, e3, V2⟩ := t_reserve V x1 x2 x3 x4
        simp only [l1, l2, l3, l4, kc, e1, e2, e3, Option.bind_some, if_true]
        exact nx g2 V2
      rw [if_neg c7]
      by_cases c8 : op = 8
      · rw [if_pos c8]
        simp only [l1, l2, l3, Option.bind_some]
        by_cases z : x3 = 0
        · rw [if_pos z]
          obtain ⟨a, g1, g2, e1, e2, e3, V2⟩ := t_object V x1 x2 false
          have e1 : f_X7_object c x1 x2 0 h = some (a, g1) := e1
          have e3 : f_X8_object (c + 14) x1 x2 0 g1 = some (a, g2) := e3
          unfold f_L_law_484
          simp only [l1, l2, l3, kc, e1, Option.bind_some, if_pos z]
          unfold f_L_law_511
          simp only [e2, e3, Option.bind_some, if_true]
          exact nx g2 V2
        · rw [if_neg z]
          obtain ⟨a, g1, g2, e1, e2, e3, V2⟩ := t_object V x1 x2 true
          have e1 : f_X7_object c x1 x2 1 h = some (a, g1) := e1
          have e3 : f_X8_object (c + 14) x1 x2 1 g1 = some (a, g2) := e3
          unfold f_L_law_484
          simp only [l1, l2, l3, kc, e1, Option.bind_some, if_neg z]
          unfold f_L_law_511
          simp only [e2, e3, Option.bind_some, if_true]
          exact nx g2 V2
      rw [if_neg c8]
      by_cases c9 : op = 9
      · rw [if_pos c9]
        obtain ⟨a, g1, g2, e1, e2, e3, V2⟩ := t_withdraw V x1 x2
        simp only [l1, l2, kc, e1, e2, e3, Option.bind_some, if_true]
        exact nx g2 V2
      rw [if_neg c9]
      by_cases c10 : op = 10
      · rw [if_pos c10]
        obtain ⟨a, g1, g2, e1, e2, e3, V2⟩ := t_change V x1 x2 x3 x4
        simp only [l1, l2, l3, l4, kc, e1, e2, e3, Option.bind_some, if_true]
        exact nx g2 V2
      rw [if_neg c10]
      by_cases c11 : op = 11
      · rw [if_pos c11]
        obtain ⟨a, g1, g2, e1, e2, e3, V2⟩ := t_consent V x1 x2
        simp only [l1, l2, kc, e1, e2, e3, Option.bind_some, if_true]
        exact nx g2 V2
      rw [if_neg c11]
      by_cases c12 : op = 12
      · rw [if_pos c12]
        simp only [l1, l2, l3, l4, Option.bind_some]
        by_cases z : x4 = 0
        · rw [if_pos z]
          obtain ⟨a, g1, g2, e1, e2, e3, V2⟩ := t_follow V x1 x2 x3 false
          have e1 : f_X7_follow c x1 x2 x3 0 h = some (a, g1) := e1
          have e3 : f_X8_follow (c + 14) x1 x2 x3 0 g1 = some (a, g2) := e3
          unfold f_L_law_667
          simp only [l1, l2, l3, l4, kc, e1, Option.bind_some, if_pos z]
          unfold f_L_law_699
          simp only [e2, e3, Option.bind_some, if_true]
          exact nx g2 V2
        · rw [if_neg z]
          obtain ⟨a, g1, g2, e1, e2, e3, V2⟩ := t_follow V x1 x2 x3 true
          have e1 : f_X7_follow c x1 x2 x3 1 h = some (a, g1) := e1
          have e3 : f_X8_follow (c + 14) x1 x2 x3 1 g1 = some (a, g2) := e3
          unfold f_L_law_667
          simp only [l1, l2, l3, l4, kc, e1, Option.bind_some, if_neg z]
          unfold f_L_law_699
          simp only [e2, e3, Option.bind_some, if_true]
          exact nx g2 V2
      rw [if_neg c12]
      by_cases c13 : op = 13
      · rw [if_pos c13]
        obtain ⟨a, g1, g2, e1, e2, e3, V2⟩ := t_note V  ((x1.toInt64 <<< ((32 : Int32).toInt64 &&& 63)) ||| (x2.toInt64 &&& (4294967295 : Int64)))
        simp only [l1, l2, kc, e1, e2, e3, Option.bind_some, if_true]
        exact nx g2 V2
      rw [if_neg c13]
      by_cases c14 : op = 14
      · rw [if_pos c14]
        obtain ⟨a, g1, g2, e1, e2, e3, V2⟩ := t_undo V 
        simp only [kc, e1, e2, e3, Option.bind_some, if_true]
        exact nx g2 V2
      rw [if_neg c14]
      by_cases c15 : op = 15
      · rw [if_pos c15]
        obtain ⟨a, g1, g2, e1, e2, e3, V2⟩ := t_between V x1 x2 x3 x4 x5 x6
        simp only [l1, l2, l3, l4, l5, l6, kc, e1, e2, e3, Option.bind_some, if_true]
        exact nx g2 V2
      rw [if_neg c15]
      by_cases c16 : op = 16
      · rw [if_pos c16]
        obtain ⟨a, g1, g2, e1, e2, e3, V2⟩ := t_words V x1 x2 x3 x4 x5 x6
        simp only [l1, l2, l3, l4, l5, l6, kc, e1, e2, e3, Option.bind_some, if_true]
        exact nx g2 V2
      rw [if_neg c16]
      by_cases c17 : op = 17
      · rw [if_pos c17]
        obtain ⟨a, g1, g2, e1, e2, e3, V2⟩ := t_why V x1 x2 x3 x4 x5 x6 x7
        simp only [l1, l2, l3, l4, l5, l6, l7, kc, e1, e2, e3, Option.bind_some, if_true]
        exact nx g2 V2
      rw [if_neg c17]
      by_cases c18 : op = 18
      · rw [if_pos c18]
        obtain ⟨a, g1, g2, e1, e2, e3, V2⟩ := t_first V x1 x2 x3 x4
        simp only [l1, l2, l3, l4, kc, e1, e2, e3, Option.bind_some, if_true]
        exact nx g2 V2
      rw [if_neg c18]
      by_cases c19 : op = 19
      · rw [if_pos c19]
        obtain ⟨a, g1, e1, e2, e3, V2⟩ := t_member V x1 x2 x3 x4
        simp only [l1, l2, l3, l4, kc, e1, e2, e3, Option.bind_some, if_true]
        exact nx g1 V2
      rw [if_neg c19]
      by_cases c20 : op = 20
      · rw [if_pos c20]
        obtain ⟨a, g1, e1, e2, e3, V2⟩ := t_members V x1 x2 x3
        simp only [l1, l2, l3, kc, e1, e2, e3, Option.bind_some, if_true]
        exact nx g1 V2
      rw [if_neg c20]
      by_cases c21 : op = 21
      · rw [if_pos c21]
        obtain ⟨a, g1, e1, e2, e3, V2⟩ := t_since V x1
        simp only [l1, kc, e1, e2, e3, Option.bind_some, if_true]
        exact nx g1 V2
      rw [if_neg c21]
      by_cases c22 : op = 22
      · rw [if_pos c22]
        obtain ⟨a, g1, e1, e2, e3, V2⟩ := t_has V x1 x2 x3 x4 x5
        simp only [l1, l2, l3, l4, l5, kc, e1, e2, e3, Option.bind_some, if_true]
        exact nx g1 V2
      rw [if_neg c22]
      by_cases c23 : op = 23
      · rw [if_pos c23]
        obtain ⟨a, e1, e3⟩ := t_paper V x1 x2
        simp only [l1, l2, kc, k8, e1, e3, Option.bind_some, if_true]
        exact nx h V
      rw [if_neg c23]
      by_cases c24 : op = 24
      · rw [if_pos c24]
        obtain ⟨a, e1, e3⟩ := t_noted V x1
        simp only [l1, kc, k8, e1, e3, Option.bind_some, if_true, lg_self]
        exact nx h V
      rw [if_neg c24]
      by_cases c25 : op = 25
      · rw [if_pos c25]
        obtain ⟨a, g1, g2, e1, e2, e3, V2⟩ := t_annex V x1 x2 x3
        simp only [l1, l2, l3, kc, e1, e2, e3, Option.bind_some, if_true]
        exact nx g2 V2
      rw [if_neg c25]
      by_cases c26 : op = 26
      · rw [if_pos c26]
        obtain ⟨a, g1, g2, e1, e2, e3, V2⟩ := t_tear V x1 x2
        simp only [l1, l2, kc, e1, e2, e3, Option.bind_some, if_true]
        exact nx g2 V2
      rw [if_neg c26]
      by_cases c27 : op = 27
      · rw [if_pos c27]
        obtain ⟨a, g1, g2, e1, e2, e3, V2⟩ := t_write V x1 x2 x3 ((x4.toInt64 <<< ((32 : Int32).toInt64 &&& 63)) ||| (x5.toInt64 &&& (4294967295 : Int64)))
        simp only [l1, l2, l3, l4, l5, kc, e1, e2, e3, Option.bind_some, if_true]
        exact nx g2 V2
      rw [if_neg c27]
      by_cases c28 : op = 28
      · rw [if_pos c28]
        obtain ⟨a, e1, e3⟩ := t_read V x1 x2 x3
        simp only [l1, l2, l3, kc, k8, e1, e3, Option.bind_some, if_true, lg_self]
        exact nx h V
      rw [if_neg c28]
      by_cases c29 : op = 29
      · rw [if_pos c29]
        obtain ⟨a, e1, e3⟩ := t_size V x1 x2
        simp only [l1, l2, kc, k8, e1, e3, Option.bind_some, if_true]
        exact nx h V
      rw [if_neg c29]
      by_cases c30 : op = 30
      · rw [if_pos c30]
        obtain ⟨a, g1, g2, e1, e2, e3, V2⟩ := t_copy V x1 x2 x3 x4 x5 x6 x7
        simp only [l1, l2, l3, l4, l5, l6, l7, kc, e1, e2, e3, Option.bind_some, if_true]
        exact nx g2 V2
      rw [if_neg c30]
      by_cases c31 : op = 31
      · rw [if_pos c31]
        obtain ⟨a, e1, e3⟩ := t_count V x1
        simp only [l1, kc, k8, e1, e3, Option.bind_some, if_true]
        exact nx h V
      rw [if_neg c31]
      exact nx h V
end LO
def L00 : LM := (fun _ _ => 0, fun _ _ => 0)
theorem start_V (n : Nat) : LXc n (FH n K8 R8) := by
  have kk : ∀ p, p < 14 → K8[p]? = some (cty p) := by decide
  have km : ∀ p, p < 23 → K8[14 + p]? = some (mty p) := by decide
  have rm : ∀ f, f < 28 → 0 < mfp f → lkR R8 14 f = some (14 + mfp f) := by decide
  have nv : ∀ i x, ¬ vld L00 0 0 i x := by
    intro i x w
    rcases w with ⟨-, q⟩ | ⟨-, q⟩ | ⟨-, g, y, q, -⟩ | ⟨-, ⟨g, y, q, -⟩, -⟩ <;> exact absurd q (Nat.not_lt_zero _)
  refine ⟨L00, 0, 0, 0, fun _ _ => 0, ⟨⟨fun p hp => by rw [hk_FH]; exact kk p hp, fun p k o fo => ?_⟩, ⟨rfl, rfl, rfl, rfl⟩, fun x hx => absurd hx (Nat.not_lt_zero _), fun x hx => absurd hx (Nat.not_lt_zero _), ⟨fun i x w => absurd w (nv i x), fun i x y w => absurd w (nv i x)⟩⟩, ⟨fun x hx => absurd hx (Nat.not_lt_zero _), ⟨rfl, by omega, fun x hx => absurd hx (Nat.not_lt_zero _), fun x hx => absurd hx (Nat.not_lt_zero _), rfl, by omega, rfl, by omega, fun x hx => absurd hx (Nat.not_lt_zero _)⟩, fun x hx => absurd hx (Nat.not_lt_zero _), ⟨⟨0, by omega, rfl, fun x hx => absurd hx (Nat.not_lt_zero _)⟩, fun x hx => absurd hx (Nat.not_lt_zero _)⟩, fun x hx => absurd hx (Nat.not_lt_zero _), fun _ => false, fun _ => rfl⟩, ⟨fun p hp => ?_, fun f hf h0 => ?_⟩, ?_, ?_⟩
  · rw [hR_FH]
    unfold fx at fo
    split at fo <;> first | cases fo; rfl | cases fo
  · rw [Nat.add_assoc, hk_FH]; exact km p hp
  · rw [hR_FH, rm f hf h0, Nat.add_assoc]; rfl
  · unfold pM
    refine Prod.ext rfl (Prod.ext rfl (Prod.ext ?_ (Prod.ext ?_ rfl)))
    · funext a k
      show (if n + 14 ≤ a ∧ a < n + 14 + 23 then (0 : Int32) else 0) = 0
      split <;> rfl
    · funext a k
      show (if n + 14 ≤ a ∧ a < n + 14 + 23 then (0 : Int64) else 0) = 0
      split <;> rfl
  · rw [hz_FH]
    exact Nat.add_le_add_left (by decide) n
theorem law_true (G : Gm) (hL : gsL G ≤ 4096) (n : Nat) : ∃ h', f_L_law G (n, fun _ => none, fun _ _ => 0, fun _ _ => 0, fun _ _ => none) = some (true, h') := by
  have s0 : ((n, fun _ => none, fun _ _ => 0, fun _ _ => 0, fun _ _ => none) : AH) = FH n [] [] := by
    unfold FH
    refine Prod.ext rfl (Prod.ext ?_ (Prod.ext rfl (Prod.ext rfl ?_)))
    · funext a
      show none = if n ≤ a then ([] : List (Nat × Nat))[a - n]? else none
      split <;> rfl
    · funext a k
      show none = if n ≤ a then (lkR [] (a - n) k).map (n + ·) else none
      split <;> rfl
  rw [s0]
  unfold f_L_law
  rw [nw_FH n [] [] 7 0 (by decide)]
  have e1 : f_X7_init (hz (FH n [] [])) (FH n ([] ++ [(7, 0)]) []) = some (FH n K7 R7) := i_X7 n
  rw [e1, Option.bind_some, nw_FH n K7 R7 8 0 (by decide)]
  have e2 : f_X8_init (hz (FH n K7 R7)) (FH n (K7 ++ [(8, 0)]) R7) = some (FH n K8 R8) := i_X8 n
  rw [e2, Option.bind_some]
  exact law_loop hL n FU 0 (FH n K8 R8) (start_V n) (Nat.zero_le _) (by unfold FU; omega)
