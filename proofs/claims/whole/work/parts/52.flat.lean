/-! PURE 23: between two EFFECTS in the AGREEMENT nothing changes -/
section FL
variable {L : LM} {n np ng : Nat}
/-- no EFFECT in g's PAPERS after e up to d -/
def noE (L : LM) (n g e d : Nat) : Prop := ∀ x, x < n → L.1 8 x = nI g → efn L x ≤ e ∨ d < efn L x
theorem st_flat (F : WF L n np ng) (hn : n ≤ 400) {g e d : Nat} (hg : g < 1000) (hed : e ≤ d) (hd : d ≤ 73000) (N : noE L n g e d) {x : Nat} (hx : x < n) (hx8 : L.1 8 x = nI g) (k : Int32) : stB L n x (nI d) k = stB L n x (nI e) k := by
  have key : ∀ y, y < n → L.1 8 y = nI g → (L.1 10 y ≤ nI d ↔ L.1 10 y ≤ nI e) ∧ (nI d < L.1 10 y ↔ nI e < L.1 10 y) := by
    intro y hy h8
    obtain ⟨v1, v2⟩ := EF_v F.ef hy
    have := N y hy h8
    rw [v2, nIle (by omega) (by omega), nIle (by omega) (by omega), nIlt (by omega) (by omega), nIlt (by omega) (by omega)]
    omega
  rw [st_end F, st_end F]
  simp only [(key x hx hx8).1]
  cases c : endO L n x with
  | none => rfl
  | some y =>
    obtain ⟨y1, y2, y3⟩ := endO_some c
    have h8 : L.1 8 y = nI g := by
      obtain ⟨-, -, h3, -⟩ := F y y1
      obtain ⟨z, z1, z2, z3, -⟩ := h3.1 (by rcases isE_k.mp y2 with q | q <;> simp [nmK, q])
      rw [y3] at z2
      have := nI_inj (by omega) (by omega) z2
      subst this
      rw [← z3, hx8]
    simp only [(key y y1 h8).2]
theorem hld_ab (F : WF L n np ng) (hn : n ≤ 400) {x : Nat} {k : Int32} : ∀ f j, j < n → hld L n x k f j = true → ∃ m, m < n ∧ L.1 12 x = nI m ∧ L.1 8 m = L.1 8 j := by
  intro f
  induction f with
  | zero => intro j _ h; cases h
  | succ f ih =>
    intro j hj h
    unfold hld at h
    by_cases c1 : L.1 12 x = nI j
    · exact ⟨j, hj, c1, rfl⟩
    · rw [if_neg c1] at h
      by_cases c2 : L.1 6 j = 8
      · rw [if_pos c2] at h
        by_cases c3 : L.1 15 j = 0
        · rw [if_pos c3] at h; cases h
        · rw [if_neg c3] at h
          by_cases c4 : stB L n x (L.1 10 j - 1) k = true
          · rw [if_pos c4] at h
            obtain ⟨-, -, h3, -⟩ := F j hj
            obtain ⟨w, w1, w2, w3, -⟩ := h3.1 (by simp [nmK, c2])
            rw [w2, nIt (by omega)] at h
            obtain ⟨m, m1, m2, m3⟩ := ih w (by omega) h
            exact ⟨m, m1, m2, m3.trans w3⟩
          · rw [if_neg c4] at h; cases h
      · rw [if_neg c2] at h; cases h
theorem has_flat (F : WF L n np ng) (hn : n ≤ 400) {g e d : Nat} (hg : g < 1000) (hed : e ≤ d) (hd : d ≤ 73000) (N : noE L n g e d) {m : Nat} (hm : m < n) (hm8 : L.1 8 m = nI g) {x : Nat} (hx : x < n) (k : Int32) : hasB L n m x (nI d) k = hasB L n m x (nI e) k := by
  unfold hasB
  cases c : hlB L n x m k
  · simp
  · unfold hlB at c
    obtain ⟨o, o1, o2, o3⟩ := hld_ab F hn _ _ hm c
    by_cases z : L.1 12 x = -1
    · simp [z]
    · have hx8 : L.1 8 x = nI g := by
        obtain ⟨-, -, -, h4, -⟩ := F x hx
        cases ck : ofK L x
        · exact absurd (h4.2 ck) z
        · obtain ⟨o', p1, p2, -, -, p3, -⟩ := h4.1 ck
          rw [o2] at p2
          have := nI_inj (by omega) (by omega) p2
          subst this
          rw [← p3, o3, hm8]
      rw [st_flat F hn hg hed hd N hx hx8 k]
theorem mof_flat (F : WF L n np ng) (hn : n ≤ 400) {g e d : Nat} (hg : g < 1000) (hed : e ≤ d) (hd : d ≤ 73000) (N : noE L n g e d) (p k : Int32) : mof L n p (nI g) (nI d) k = mof L n p (nI g) (nI e) k := by
  refine fstF_congr n 0 (fun x h1 h2 => ?_)
  by_cases c : L.1 8 x = nI g
  · rw [st_flat F hn hg hed hd N (by omega) c k]
  · simp [c]
theorem many_flat (F : WF L n np ng) (hn : n ≤ 400) {g e d : Nat} (hg : g < 1000) (hed : e ≤ d) (hd : d ≤ 73000) (N : noE L n g e d) (k : Int32) : many L n np (nI g) (nI d) k = many L n np (nI g) (nI e) k := by
  refine cntF_congr np 0 (fun x h1 h2 => ?_)
  rw [mof_flat F hn hg hed hd N]
theorem mof_ab {p g d k : Int32} {m : Nat} (e : mof L n p g d k = some m) : L.1 8 m = g := by
  have := (fstF_some _ _ _ _ e).2.2.1
  simp only [Bool.and_eq_true, decide_eq_true_eq] at this
  exact this.1.2
theorem fnd_flat (F : WF L n np ng) (hn : n ≤ 400) {g e d : Nat} (hg : g < 1000) (hed : e ≤ d) (hd : d ≤ 73000) (N : noE L n g e d) (p q : Int32) (a' : Nat) (k : Int32) (w : Nat → Bool) : (fnd L n np p q g a' (nI d) k w).1 = (fnd L n np p q g a' (nI e) k w).1 ∧ (fnd L n np p q g a' (nI d) k w).2.1 = (fnd L n np p q g a' (nI e) k w).2.1 := by
  unfold fnd
  rw [mof_flat F hn hg hed hd N, mof_flat F hn hg hed hd N, many_flat F hn hg hed hd N]
  cases c1 : mof L n p (nI g) (nI e) k with
  | none => exact ⟨rfl, rfl⟩
  | some m =>
    cases c2 : mof L n q (nI g) (nI e) k with
    | none => exact ⟨rfl, rfl⟩
    | some m' =>
      have hm := mof_lt c1
      have hm' := mof_lt c2
      have H := fun {x : Nat} (hx : x < n) => has_flat F hn hg hed hd N hm (mof_ab c1) hx k
      have H' := fun {x : Nat} (hx : x < n) => has_flat F hn hg hed hd N hm' (mof_ab c2) hx k
      have s1 : stg L n m m' (nI d) k = stg L n m m' (nI e) k := by
        refine fstF_congr n 0 (fun x h1 h2 => ?_)
        unfold stgB
        by_cases c : L.1 6 x = 4
        · obtain ⟨y, y1, y2⟩ := F.nm x (by omega) (Or.inl c)
          rw [y2, nIt (by omega), H' (show x < n by omega), H (show y < n by omega)]
        · simp [c]
      have s2 : stg L n m' m (nI d) k = stg L n m' m (nI e) k := by
        refine fstF_congr n 0 (fun x h1 h2 => ?_)
        unfold stgB
        by_cases c : L.1 6 x = 4
        · obtain ⟨y, y1, y2⟩ := F.nm x (by omega) (Or.inl c)
          rw [y2, nIt (by omega), H (show x < n by omega), H' (show y < n by omega)]
        · simp [c]
      have s3 : rsv L n m m' (nI a') (nI d) k = rsv L n m m' (nI a') (nI e) k := by
        refine lstF_congr n (fun x h1 => ?_)
        unfold rsB
        rw [H h1, H' h1]
      have l1 : ∀ s x, lst L n s x m (nI d) k = lst L n s x m (nI e) k := by
        intro s x
        refine fstF_congr n 0 (fun y h1 h2 => ?_)
        unfold lstB
        rw [H (show y < n by omega)]
      have l2 : ∀ s x, lst L n s x m' (nI d) k = lst L n s x m' (nI e) k := by
        intro s x
        refine fstF_congr n 0 (fun y h1 h2 => ?_)
        unfold lstB
        rw [H' (show y < n by omega)]
      have s4 : chg L n m m' (nI g) (nI a') (nI d) k = chg L n m m' (nI g) (nI a') (nI e) k := by
        refine lstF_congr n (fun x h1 => ?_)
        unfold chB
        rw [l1, l2]
      simp only
      by_cases c3 : L.1 2 g ≤ nI (many L n np (nI g) (nI e) k)
      · rw [if_pos c3, if_pos c3]
        unfold fnO
        rw [s1, s2]
        cases mnO (stg L n m m' (nI e) k) (stg L n m' m (nI e) k) with
        | some o => exact ⟨rfl, rfl⟩
        | none =>
          simp only [fnR, fnRr]
          rw [s3]
          cases c5 : rsv L n m m' (nI a') (nI e) k with
          | some r =>
            have hr := (lstF_some _ _ _ c5).1
            have s5 : mild L n m m' r (nI d) k = mild L n m m' r (nI e) k := by
              unfold mild
              rw [H hr, H' hr]
              by_cases z : hasB L n m r (nI e) k = true
              · rw [if_pos z, l2]
              · rw [if_neg z, l1]
            simp only [fnM]
            rw [s5]
            by_cases z : L.1 14 r = 0
            · simp [z]
            · cases mild L n m m' r (nI e) k <;> simp [z]
          | none =>
            simp only [fnC]
            rw [s4]
            cases chg L n m m' (nI g) (nI a') (nI e) k <;> simp
      · rw [if_neg c3, if_neg c3]
        exact ⟨rfl, rfl⟩
theorem an_flat (F : WF L n np ng) (hn : n ≤ 400) {g e d : Nat} (hg : g < 1000) (hed : e ≤ d) (hd : d ≤ 73000) (N : noE L n g e d) (p q : Int32) (a : Int32) (t : Nat) : anF L n np p q (nI g) a t d = anF L n np p q (nI g) a t e := by
  have := fnd_flat (np := np) F hn hg hed hd N p q a.toNatClampNeg (nI t) (fun _ => false)
  have e0 : ans L n np p q (nI g) a (nI d) (nI t) = ans L n np p q (nI g) a (nI e) (nI t) := by
    unfold ans fndI
    rw [nIt hg]
    exact Prod.ext this.1 this.2
  unfold anF
  rw [e0]
theorem sin_flat (F : WF L n np ng) (hn : n ≤ 400) {g e d : Nat} (hg : g < 1000) (hed : e ≤ d) (hd : d ≤ 73000) (N : noE L n g e d) (t : Nat) : sinF L n np g t d = sinF L n np g t e := by
  unfold sinF
  rw [many_flat F hn hg hed hd N]
theorem an_flat2 (F : WF L n np ng) (hn : n ≤ 400) {g : Nat} (hg : g < 1000) (p q : Int32) (a : Int32) (t : Nat) : flat L n (anF L n np p q (nI g) a t) := fun _ _ h1 h2 h3 => an_flat F hn hg h1 h2 (fun x hx _ => h3 x hx) p q a t
theorem sin_flat2 (F : WF L n np ng) (hn : n ≤ 400) {g : Nat} (hg : g < 1000) (t : Nat) : flat L n (sinF L n np g t) := fun _ _ h1 h2 h3 => sin_flat F hn hg h1 h2 (fun x hx _ => h3 x hx) t
/-- the last EFFECT in g up to d -/
theorem eG_v (F : WF L n np ng) (g : Int32) {d : Nat} (hd : d ≤ 80000) : ∀ m j b, j + m = n → b ≤ 80000 → ∃ e, eG L g (nI d) (nI b) j m = nI e ∧ b ≤ e ∧ e ≤ 80000 ∧ (e = b ∨ ∃ x, j ≤ x ∧ x < n ∧ L.1 8 x = g ∧ efn L x = e ∧ e ≤ d) ∧ ∀ x, j ≤ x → x < n → L.1 8 x = g → efn L x ≤ d → efn L x ≤ e := by
  intro m
  induction m with
  | zero =>
    intro j b h1 h2
    exact ⟨b, rfl, Nat.le_refl _, h2, Or.inl rfl, fun x g1 g2 => by omega⟩
  | succ m ih =>
    intro j b h1 h2
    obtain ⟨v1, v2⟩ := EF_v F.ef (show j < n by omega)
    unfold eG
    have skip : (L.1 8 j = g → efn L j ≤ d → efn L j ≤ b) → ∃ e, eG L g (nI d) (nI b) (j + 1) m = nI e ∧ b ≤ e ∧ e ≤ 80000 ∧ (e = b ∨ ∃ x, j ≤ x ∧ x < n ∧ L.1 8 x = g ∧ efn L x = e ∧ e ≤ d) ∧ ∀ x, j ≤ x → x < n → L.1 8 x = g → efn L x ≤ d → efn L x ≤ e := by
      intro hs
      obtain ⟨e, e1, e2, e3, e4, e5⟩ := ih (j + 1) b (by omega) h2
      refine ⟨e, e1, e2, e3, ?_, fun x g1 g2 g3 g4 => ?_⟩
      · rcases e4 with q | ⟨x, q1, q2⟩
        · exact Or.inl q
        · exact Or.inr ⟨x, by omega, q2⟩
      · by_cases hx : x = j
        · subst hx
          have := hs g3 g4
          omega
        · exact e5 x (by omega) g2 g3 g4
    by_cases c0 : L.1 8 j = g
    · rw [if_pos c0, v2]
      simp only [nIlt (show d < 2 ^ 31 by omega) (show efn L j < 2 ^ 31 by omega), nIle (show efn L j < 2 ^ 31 by omega) (show b < 2 ^ 31 by omega)]
      by_cases c : d < efn L j
      · rw [if_pos c]
        exact skip (fun _ q => by omega)
      · rw [if_neg c]
        by_cases c2 : efn L j ≤ b
        · rw [if_pos c2]
          exact skip (fun _ _ => c2)
        · rw [if_neg c2]
          obtain ⟨e, e1, e2, e3, e4, e5⟩ := ih (j + 1) (efn L j) (by omega) (by omega)
          refine ⟨e, e1, by omega, e3, ?_, fun x g1 g2 g3 g4 => ?_⟩
          · rcases e4 with q | ⟨x, q1, q2⟩
            · exact Or.inr ⟨j, by omega, by omega, c0, q.symm, by omega⟩
            · exact Or.inr ⟨x, by omega, q2⟩
          · by_cases hx : x = j
            · subst hx; omega
            · exact e5 x (by omega) g2 g3 g4
    · rw [if_neg c0]
      exact skip (fun q => absurd q c0)
theorem eG_0 (F : WF L n np ng) (g : Int32) {d : Nat} (hd : d ≤ 80000) : ∃ e, eG L g (nI d) 0 0 n = nI e ∧ e ≤ d ∧ (e = 0 ∨ ∃ x, x < n ∧ efn L x = e) ∧ ∀ x, x < n → L.1 8 x = g → efn L x ≤ e ∨ d < efn L x := by
  obtain ⟨e, e1, e2, e3, e4, e5⟩ := eG_v F g hd n 0 0 (by omega) (by omega)
  rw [nI_0] at e1
  refine ⟨e, e1, ?_, ?_, fun x h1 h2 => ?_⟩
  · rcases e4 with q | ⟨x, q1, q2, q3, q4, q5⟩ <;> omega
  · rcases e4 with q | ⟨x, q1, q2, q3, q4, q5⟩
    · exact Or.inl q
    · exact Or.inr ⟨x, q2, q4⟩
  · rcases Nat.lt_or_ge d (efn L x) with q | q
    · exact Or.inr q
    · exact Or.inl (e5 x (by omega) h1 h2 q)
end FL
