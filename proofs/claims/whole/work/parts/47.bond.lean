/-! PURE 18: the program's one answer -/
section CBo
variable {c : Nat} {L : LM} {n np ng : Nat} {A : Nat → Nat → Nat} {h : AH}
theorem c_srv (C : COK c L n np ng A h) (F : WF L n np ng) (hn : n ≤ 400) (T : TM) {m m' r : Nat} (hm : m < n) (hm' : m' < n) {d k : Int32} (S : SD T L n m m' d k) (hr : r < n) (k3 : L.1 6 r = 3) (h7 : T.2 6 7 = none) (h8 : T.2 6 8 = some (A 0 r)) (w : Nat → Bool) : f_X2_settleReserve (c + 6) (pS c T h) = some (pS c (TI (TI (TR T 6 7 (if L.1 14 r = 0 then none else (mild L n m m' r d k).map (A 0))) 6 4 (fnM L r w (mild L n m m' r d k)).1) 6 5 (fnM L r w (mild L n m m' r d k)).2.1) h) := by
  have C' := COK_pS C T
  have tail : ∀ T1 : TM, T1.2 6 8 = some (A 0 r) → ∀ o : Option Nat, T1.2 6 7 = o.map (A 0) → (L.1 14 r = 0 → o = none) → f_X2_settleReserve_49 (c + 6) (pS c T1 h) = some (pS c (TI (TI T1 6 4 (fnM L r w o).1) 6 5 (fnM L r w o).2.1) h) := by
    intro T1 g8 o g7 go
    have C1 := COK_pS C T1
    have C2 := fun v => COK_pS C (TI T1 6 4 v)
    unfold f_X2_settleReserve_49 f_X2_settleReserve_66 f_X2_settleReserve_71 f_X2_settleReserve_82 f_X2_settleReserve_101
    simp only [sgR6 C.1, sfx, fx, g8, cP9 C1 hr, spI6 C.1, TI2, fun v => cP9 (C2 v) hr, Option.bind_some, g7]
    unfold fnM
    by_cases c1 : L.1 14 r = 0
    · have := go c1
      subst this
      simp [c1]
    · cases o with
      | none => simp [c1]
      | some y => simp [c1]
  unfold f_X2_settleReserve
  simp only [sgR6 C.1, sfx, fx, h8, cP9 C' hr, sck9 C.1, c_hp_9 C hn T hr _ (S.1 r hr), Option.bind_some, b2i_z]
  by_cases c1 : L.1 14 r = 0
  · rw [if_pos c1, tail T h8 none (by rw [h7]; rfl) (fun _ => rfl), if_pos c1, TR_self h7]
    simp [fnM, c1]
  · rw [if_neg c1, if_neg c1, mild_eq F hn hr hm hm' k3]
    have g : ∀ o, f_X2_settleReserve_49 (c + 6) (pS c (TR T 6 7 (o.map (A 0))) h) = some (pS c (TI (TI (TR T 6 7 (o.map (A 0))) 6 4 (fnM L r w o).1) 6 5 (fnM L r w o).2.1) h) := fun o => tail (TR T 6 7 (o.map (A 0))) (by rw [TR2]; simp [h8]) o (by rw [TR2]; simp) (fun e => absurd e c1)
    unfold f_X2_settleReserve_35
    by_cases c2 : hasB L n m r d k = false
    · rw [if_pos c2]
      have e : (if hasB L n m r d k = true then m' else m) = m := by simp [c2]
      rw [e]
      simp only [sgR6 C.1, sfx, fx, h8, sck9 C.1, c_la_9 C hn T S.1 1 hr, lstA_4 F hn hr k3, spR6 C.1 _ _ _ (show fx 6 7 = none from rfl), Option.bind_some, g]
    · have c2' := bt c2
      rw [if_neg c2]
      have e : (if hasB L n m r d k = true then m' else m) = m' := by simp [c2']
      rw [e]
      simp only [sgR6 C.1, sfx, fx, h8, sck11 C.1, c_la_11 C hn T S.2 1 hr, lstA_4 F hn hr k3, spR6 C.1 _ _ _ (show fx 6 7 = none from rfl), Option.bind_some, g]
def TC (L : LM) (n m m' : Nat) (d k : Int32) (A : Nat → Nat → Nat) (T : TM) (o : Option Nat) : TM := match o with
  | none => T
  | some x => TR (TR (TR T 6 9 (some (A 0 x))) 6 10 ((lst L n 7 (nI x) m d k).map (A 0))) 6 11 ((lst L n 7 (nI x) m' d k).map (A 0))
theorem c_take (C : COK c L n np ng A h) (F : WF L n np ng) (hn : n ≤ 400) (T : TM) {m m' x : Nat} {d k : Int32} (S : SD T L n m m' d k) (hx : x < n) (k6 : L.1 6 x = 6) : f_X2_takeChange (c + 6) (some (A 0 x)) (pS c T h) = some (pS c (TC L n m m' d k A T (if ((lst L n 7 (nI x) m d k).isSome && (lst L n 7 (nI x) m' d k).isSome) = true then some x else none)) h) := by
  unfold f_X2_takeChange
  simp only [sgR6 C.1, sfx, fx, sck9 C.1, sck11 C.1, c_la_9 C hn T S.1 0 hx, c_la_11 C hn T S.2 0 hx, lstA_7 F hn hx k6, Option.bind_some]
  cases c1 : lst L n 7 (nI x) m d k with
  | none => simp [TC]
  | some y =>
    cases c2 : lst L n 7 (nI x) m' d k with
    | none => simp [TC]
    | some z =>
      simp [TC, c1, c2, spR6 C.1 _ _ _ (show fx 6 9 = none from rfl), spR6 C.1 _ _ _ (show fx 6 10 = none from rfl), spR6 C.1 _ _ _ (show fx 6 11 = none from rfl)]
theorem TC_9 {T : TM} {m m' : Nat} {d k : Int32} {x : Nat} : (TC L n m m' d k A T (some x)).2 6 9 = some (A 0 x) := by
  simp [TC, TR2]
theorem c_fc_8 (C : COK c L n np ng A h) (F : WF L n np ng) (hn : n ≤ 400) (hng : ng ≤ 10) (T : TM) {m m' : Nat} {d k : Int32} (S : SD T L n m m' d k) {g : Nat} (hg : g < ng) (a : Int32) (h9 : T.2 6 9 = none) : ∀ i f, i ≤ n → i + 1 < f → f_X2_findChange_8 f (c + 6) (some (c + 2)) (some (A 1 g)) a k (nI i + (-1)) (pS c T h) = some (pS c (TC L n m m' d k A T (lstF (chB L n m m' (nI g) a d k) i)) h) := by
  intro i
  induction i with
  | zero =>
    intro f h1 h2
    obtain ⟨f, rfl⟩ : ∃ f', f = f' + 1 := ⟨f - 1, by omega⟩
    rw [f_X2_findChange_8, nI_0m, if_pos m1_neg]
    rfl
  | succ i ih =>
    intro f h1 h2
    obtain ⟨f, rfl⟩ : ∃ f', f = f' + 1 := ⟨f - 1, by omega⟩
    have hi : i < n := by omega
    have C' := COK_pS C T
    rw [f_X2_findChange_8, nI_m1', if_neg (nI_pos (by omega))]
    simp only [sgR6 C.1, sfx, fx, h9, cck4 C', c_at C' hn hi, cP1 C' hi, cP3 C' hi, cP8 C' hi, cP4 C' hi, orag_eq C' hng F hi hg, sck6 C.1, Option.bind_some]
    rw [if_pos trivial, if_neg (by simp), lstF_succ]
    have e : chB L n m m' (nI g) a d k i = (decide (L.1 6 i = 6) && decide (L.1 8 i = nI g) && decide (L.1 13 i = a) && decide (¬ k < L.1 9 i) && (lst L n 7 (nI i) m d k).isSome && (lst L n 7 (nI i) m' d k).isSome) := rfl
    have skip : chB L n m m' (nI g) a d k i = false → f_X2_findChange_8 f (c + 6) (some (c + 2)) (some (A 1 g)) a k (nI i + (-1)) (pS c T h) = some (pS c (TC L n m m' d k A T (if chB L n m m' (nI g) a d k i = true then some i else lstF (chB L n m m' (nI g) a d k) i)) h) := by
      intro z
      rw [z, ih f (by omega) (by omega)]
      simp
    by_cases c1 : L.1 6 i = 6
    · rw [if_pos c1]
      by_cases c2 : L.1 8 i = nI g
      · rw [if_pos c2]
        by_cases c3 : L.1 13 i = a
        · rw [if_pos c3]
          by_cases c4 : k < L.1 9 i
          · rw [if_pos c4]
            exact skip (by rw [e]; simp [c4])
          · rw [if_neg c4, c_take C F hn T S hi c1]
            simp only [Option.bind_some]
            by_cases c5 : ((lst L n 7 (nI i) m d k).isSome && (lst L n 7 (nI i) m' d k).isSome) = true
            · have hc : chB L n m m' (nI g) a d k i = true := by
                rw [e]
                simp only [Bool.and_eq_true] at c5
                simp [c1, c2, c3, c4, c5.1, c5.2]
              rw [if_pos c5, if_pos hc]
              obtain ⟨f, rfl⟩ : ∃ f', f = f' + 1 := ⟨f - 1, by omega⟩
              rw [f_X2_findChange_8]
              simp only [sgR6 C.1, sfx, fx, TC_9, Option.bind_some]
              by_cases c6 : nI i + (-1) < 0
              · rw [if_pos c6]
              · rw [if_neg c6]
                simp
            · rw [if_neg c5]
              refine skip ?_
              rw [e]
              have := bf c5
              rw [Bool.and_assoc, this, Bool.and_false]
        · rw [if_neg c3]
          exact skip (by rw [e]; simp [c3])
      · rw [if_neg c2]
        exact skip (by rw [e]; simp [c2])
    · rw [if_neg c1]
      exact skip (by rw [e]; simp [c1])
theorem c_fc (C : COK c L n np ng A h) (F : WF L n np ng) (hn : n ≤ 400) (hng : ng ≤ 10) (T : TM) {m m' : Nat} {d k : Int32} (S : SD T L n m m' d k) {g : Nat} (hg : g < ng) (a : Int32) (h9 : T.2 6 9 = none) : f_X2_findChange (c + 6) (some (c + 2)) (some (A 1 g)) a k (pS c T h) = some (pS c (TC L n m m' d k A T (chg L n m m' (nI g) a d k)) h) := by
  have C' := COK_pS C T
  unfold f_X2_findChange chg
  simp only [cR1 C', Option.bind_some, nI_sub1]
  exact c_fc_8 C F hn hng T S hg a h9 n FU (Nat.le_refl _) (by unfold FU; omega)
theorem c_wordsOf (C : COK c L n np ng A h) {g a : Nat} (hg : g < ng) (ha : nI a < L.1 1 g) (ha2 : a < 20) : f_X0_wordsOf (A 1 g) (nI a) h = some (L.1 5 (20 * g + a)) := by
  obtain ⟨-, -, -, ⟨j, j1, j2, j3, j4⟩, -⟩ := (C.2.2.2.1 g hg).2
  rw [j2] at ha
  have haj : a < j := (nIlt (by omega) (by omega)).mp ha
  unfold f_X0_wordsOf
  rw [if_neg (nI_pos (by omega))]
  simp only [cG4 C hg, al_k j3 (by decide), Option.bind_some, lI_k j3 haj (by omega), j4 a haj]
  rw [if_neg (nI_ge haj (by omega))]
def RD (T : TM) (v1 v2 : Int32) (o7 o8 o9 o10 o11 : Option Nat) : Prop := T.1 6 4 = v1 ∧ T.1 6 5 = v2 ∧ T.2 6 7 = o7 ∧ T.2 6 8 = o8 ∧ T.2 6 9 = o9 ∧ T.2 6 10 = o10 ∧ T.2 6 11 = o11
/-- what settle leaves, both being PARTIES and enough of them -/
def BND (L : LM) (n : Nat) (A : Nat → Nat → Nat) (m m' g' a' : Nat) (d k : Int32) (T : TM) : Prop := match mnO (stg L n m m' d k) (stg L n m' m d k) with
  | some o => RD T 0 0 (some (A 0 o)) (ora (A 0) (L.1 11 o)) none none none
  | none => match rsv L n m m' (nI a') d k with
    | some r => RD T (fnM L r (fun _ => false) (mild L n m m' r d k)).1 (fnM L r (fun _ => false) (mild L n m m' r d k)).2.1 (if L.1 14 r = 0 then none else (mild L n m m' r d k).map (A 0)) (some (A 0 r)) none none none
    | none => match chg L n m m' (nI g') (nI a') d k with
      | none => RD T 1 (L.1 5 (20 * g' + a')) none none none none none
      | some x => RD T 4 (L.1 14 x) none none (some (A 0 x)) ((lst L n 7 (nI x) m d k).map (A 0)) ((lst L n 7 (nI x) m' d k).map (A 0))
def STD (L : LM) (n np : Nat) (A : Nat → Nat → Nat) (p q : Int32) (g' a' : Nat) (d k : Int32) (T : TM) : Prop := T.1 6 6 = L.1 2 g' ∧ (∀ x, x < 30 → T.2 8 x = (mof L n (nI x) (nI g') d k).map (A 0)) ∧ match mof L n p (nI g') d k, mof L n q (nI g') d k with
  | some m, some m' => if L.1 2 g' ≤ nI (many L n np (nI g') d k) then (T.2 9 1 = some (A 0 m) ∧ T.2 11 1 = some (A 0 m') ∧ BND L n A m m' g' a' d k T) else RD T 0 0 none none none none none
  | _, _ => RD T 0 0 none none none none none
end CBo
