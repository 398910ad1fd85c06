/-! PURE 5: the reference's finds -/
theorem oi_s (x : Nat) : oi (some x) = nI x := rfl
theorem oi_n : oi none = -1 := rfl
theorem M_bec {am : Nat} {h : AH} (R : MOK am h) (L : LM) (an wd : Int32) (w : Nat → Bool) {x : Nat} (hx : x < 400) : f_X8_because am (nI x) (pM am (SC L an wd w) h) = some (pM am (SC L an wd (upw w x)) h) := by
  unfold f_X8_because
  rw [if_neg (nI_m1 (by omega))]
  simp only [mR22 R, mS17 R _ x 1 hx (Or.inr rfl), Option.bind_some, SC_17]
theorem M_beco {am : Nat} {h : AH} (R : MOK am h) (L : LM) (an wd : Int32) (w : Nat → Bool) (o : Option Nat) (ho : ∀ x, o = some x → x < 400) : f_X8_because am (oi o) (pM am (SC L an wd w) h) = some (pM am (SC L an wd (upo w o)) h) := by
  cases o with
  | none => unfold f_X8_because; simp [oi, upo]
  | some x => exact M_bec R L an wd w (ho x rfl)
theorem M_beci {am : Nat} {h : AH} (R : MOK am h) (L : LM) (an wd : Int32) (w : Nat → Bool) {v : Int32} (hv : v = -1 ∨ ∃ i, i < 400 ∧ v = nI i) : f_X8_because am v (pM am (SC L an wd w) h) = some (pM am (SC L an wd (upi w v)) h) := by
  rcases hv with rfl | ⟨i, hi, rfl⟩
  · unfold f_X8_because; simp [upi]
  · rw [M_bec R L an wd w hi, upi, if_neg (nI_m1 (by omega)), nIt (by omega)]
theorem NM_v {L : LM} {n j : Nat} (N : NM L n) (hn : n ≤ 400) (hj : j < n) (hk : L.1 6 j = 4 ∨ L.1 6 j = 5 ∨ L.1 6 j = 7 ∨ L.1 6 j = 8) : L.1 11 j = -1 ∨ ∃ i, i < 400 ∧ L.1 11 j = nI i := by
  obtain ⟨i, hi, e⟩ := N j hj hk
  exact Or.inr ⟨i, by omega, e⟩
theorem OF_v {L : LM} {n j : Nat} (O : OFv L n) (hn : n ≤ 400) (hj : j < n) : L.1 12 j = -1 ∨ ∃ i, i < 400 ∧ L.1 12 j = nI i := by
  rcases O j hj with e | ⟨i, hi, e⟩
  · exact Or.inl e
  · exact Or.inr ⟨i, by omega, e⟩
theorem m1_neg : (-1 : Int32) < 0 := by decide
theorem nI_m1' (x : Nat) : nI (x + 1) + (-1) = nI x := pk_m1 x
theorem nI_0m : nI 0 + (-1) = -1 := by decide
theorem nI_sub1 (n : Nat) : nI n - 1 = nI n + (-1) := by rw [Int32.sub_eq_add_neg]
theorem M_leans_7 {am : Nat} {h : AH} (R : MOK am h) (L : LM) (an wd : Int32) {n : Nat} (hn : n ≤ 400) (N : NM L n) (O : OFv L n) : ∀ i f w, i ≤ n → i < f → f_X8_leans_7 f am (nI i + (-1)) (pM am (SC L an wd w) h) = some (pM am (SC L an wd (lean L i w)) h) := by
  intro i
  induction i with
  | zero =>
    intro f w h1 h2
    obtain ⟨f, rfl⟩ : ∃ f', f = f' + 1 := ⟨f - 1, by omega⟩
    rw [f_X8_leans_7, nI_0m, if_pos m1_neg]
    rfl
  | succ i ih =>
    intro f w h1 h2
    obtain ⟨f, rfl⟩ : ∃ f', f = f' + 1 := ⟨f - 1, by omega⟩
    have hi : i < 400 := by omega
    rw [f_X8_leans_7, nI_m1', if_neg (nI_pos (by omega))]
    simp only [mR22 R, fun L' => mL17 R L' i hi, Option.bind_some, SC_w, b2i_z]
    cases c : w i
    · simp only [if_true]
      rw [ih f w (by omega) (by omega)]
      simp [lean, c]
    · have e1 := OF_v O hn (show i < n by omega)
      simp only [mR15 R, fun L' => mL12 R L' i hi, R.xck, mR9 R, fun L' => mL6 R L' i hi, mR14 R, fun L' => mL11 R L' i hi, Option.bind_some, SCr L an wd _ 12 (by decide) (by decide), M_beci R L an wd _ e1, SCr L an wd _ 6 (by decide) (by decide), SCr L an wd _ 11 (by decide) (by decide)]
      by_cases c2 : L.1 6 i = 8
      · have e2 := NM_v N hn (show i < n by omega) (by simp [c2])
        simp only [M_beci R L an wd _ e2, Option.bind_some, c2, if_true]
        simp [lean, c, c2]
        exact ih f _ (by omega) (by omega)
      · simp only [c2, if_false]
        simp [lean, c, c2]
        exact ih f _ (by omega) (by omega)
theorem M_leans {am : Nat} {h : AH} (R : MOK am h) (L : LM) (an wd : Int32) {n : Nat} (hp : L.1 0 8 = nI n) (hn : n ≤ 400) (N : NM L n) (O : OFv L n) (w : Nat → Bool) : f_X8_leans am (pM am (SC L an wd w) h) = some (pM am (SC L an wd (lean L n w)) h) := by
  unfold f_X8_leans
  simp only [R.xgI, SC_8, hp, Option.bind_some, nI_sub1]
  exact M_leans_7 R L an wd hn N O n FU w (Nat.le_refl _) (by unfold FU; omega)
theorem M_f502 {am : Nat} {h : AH} (R : MOK am h) (L : LM) (an wd : Int32) {n : Nat} (hp : L.1 0 8 = nI n) (hn : n ≤ 400) (N : NM L n) (O : OFv L n) (w : Nat → Bool) : f_X8_finds_502 am (pM am (SC L an wd w) h) = some (pM am (SC L an wd (lean L n w)) h) := by
  unfold f_X8_finds_502
  simp only [R.xck, M_leans R L an wd hp hn N O, Option.bind_some]
/-- the memory with this answer, these words, these papers -/
def SR (L : LM) (t : Int32 × Int32 × (Nat → Bool)) : LM := SC L t.1 t.2.1 t.2.2
theorem M_lst {am : Nat} {h : AH} (R : MOK am h) (L : LM) (an wd : Int32) (w : Nat → Bool) {n : Nat} (hp : L.1 0 8 = nI n) (hn : n ≤ 400) (N : NM L n) (sort x : Int32) {q : Nat} (hq : q < n) (d k : Int32) : f_X8_leastTo am sort x (nI q) d k (pM am (SC L an wd w) h) = some (oi (lst L n sort x q d k)) := by
  rw [M_leastTo R (SC L an wd w) (by rw [SC_8]; exact hp) hn (SC_NM L an wd w N) sort x hq d k, SC_lst]
theorem M_has {am : Nat} {h : AH} (R : MOK am h) (L : LM) (an wd : Int32) (w : Nat → Bool) {n : Nat} (hp : L.1 0 8 = nI n) (hn : n ≤ 400) (N : NM L n) {x m : Nat} (hx : x < n) (hm : m < n) (d k : Int32) : f_X8_hasPaper am (nI m) (nI x) d k (pM am (SC L an wd w) h) = some (hasB L n m x d k) := by
  rw [M_hasPaper R (SC L an wd w) (by rw [SC_8]; exact hp) hn (SC_NM L an wd w N) hx hm d k, SC_has]
theorem M_f418 {am : Nat} {h : AH} (R : MOK am h) (L : LM) (an wd : Int32) (w : Nat → Bool) {n : Nat} (hp : L.1 0 8 = nI n) (hn : n ≤ 400) (N : NM L n) (O : OFv L n) {r : Nat} (hr : r < n) (o : Option Nat) (ho : ∀ x, o = some x → x < 400) : f_X8_finds_418 am (nI r) (oi o) (pM am (SC L an wd w) h) = some (pM am (SR L ((fnM L r w o).1, (fnM L r w o).2.1, lean L n (fnM L r w o).2.2)) h) := by
  have hr4 : r < 400 := by omega
  unfold f_X8_finds_418 f_X8_finds_437 f_X8_finds_442 f_X8_finds_465 f_X8_finds_484
  simp only [mR17 R, fun L' => mL14 R L' r hr4, Option.bind_some, R.xpI, R.xgI, SC_20, SC_21, SC_an, SCr L _ _ _ 14 (by decide) (by decide)]
  by_cases c : L.1 14 r = 0
  · simp [c, fnM, M_f502 R L _ _ hp hn N O, SR]
  · cases o with
    | none => simp [c, fnM, oi, R.xck, M_f502 R L _ _ hp hn N O, SR, f_X8_because, SC_20, SC_21]
    | some z =>
      have hz := ho z rfl
      have hz1 : ¬ nI z = -1 := nI_m1 (by omega)
      simp [c, fnM, oi, hz1, R.xck, M_f502 R L _ _ hp hn N O, SR, M_bec R L _ _ _ hz]
theorem M_f374 {am : Nat} {h : AH} (R : MOK am h) (L : LM) (an wd : Int32) (w : Nat → Bool) {n : Nat} (hp : L.1 0 8 = nI n) (hn : n ≤ 400) (N : NM L n) (O : OFv L n) {r m m' : Nat} (hr : r < n) (hm : m < n) (hm' : m' < n) (d k : Int32) : f_X8_finds_374 am d k (nI m) (nI m') (nI r) (b2i (hasB L n m r d k && hasB L n m' r d k)) (pM am (SC L an wd w) h) = some (pM am (SR L ((fnM L r w (mild L n m m' r d k)).1, (fnM L r w (mild L n m m' r d k)).2.1, lean L n (fnM L r w (mild L n m m' r d k)).2.2)) h) := by
  unfold f_X8_finds_374 f_X8_finds_411
  simp only [R.xck, M_has R L an wd w hp hn N hr hm, M_lst R L an wd w hp hn N _ _ hm, M_lst R L an wd w hp hn N _ _ hm', Option.bind_some, b2i_z]
  have e0 := M_f418 R L an wd w hp hn N O hr none (fun x h => by cases h)
  simp only [oi_s, oi_n] at e0
  have e1 := M_f418 R L an wd w hp hn N O hr (lst L n 4 (nI r) m d k) (fun x h => by have := lst_lt h; omega)
  have e2 := M_f418 R L an wd w hp hn N O hr (lst L n 4 (nI r) m' d k) (fun x h => by have := lst_lt h; omega)
  rw [e0, e1, e2]
  unfold mild
  cases c1 : hasB L n m r d k <;> cases c2 : hasB L n m' r d k <;> simp

theorem ix20 (g a : Nat) : (20 : Int32) * nI g + nI a = nI (20 * g + a) := by
  have : (20 : Int32) = nI 20 := by decide
  rw [this, pk_mul, nI_add]
theorem chB_lt {L : LM} {n m m' : Nat} {g a d k : Int32} {x : Nat} (h : chg L n m m' g a d k = some x) : x < n := (lstF_some _ _ _ h).1
theorem M_chg_27 {am : Nat} {h : AH} (R : MOK am h) (L : LM) (wd : Int32) (w : Nat → Bool) {n : Nat} (hp : L.1 0 8 = nI n) (hn : n ≤ 400) (N : NM L n) {m m' : Nat} (hm : m < n) (hm' : m' < n) (g a d k : Int32) : ∀ mm j f c, j + mm = n → mm < f → (∀ x, c = some x → x < n) → f_X8_changes_27 f am (nI m) (nI m') g a d k (oi c) (nI j) (pM am (SC L 1 wd w) h) = some (pM am (match lasF (chB L n m m' g a d k) c j mm with
    | none => SC L 1 wd w
    | some x => SC L 4 (L.1 14 x) (upo (upo (upw w x) (lst L n 7 (nI x) m d k)) (lst L n 7 (nI x) m' d k))) h) := by
  intro mm
  induction mm with
  | zero =>
    intro j f c h1 h2 hc
    obtain ⟨f, rfl⟩ : ∃ f', f = f' + 1 := ⟨f - 1, by omega⟩
    rw [f_X8_changes_27]
    simp only [R.xgI, SC_8, hp, Option.bind_some]
    rw [if_pos (nI_le (by omega) (by omega))]
    cases c with
    | none => simp [oi, lasF]
    | some x =>
      have hx := hc x rfl
      have hx4 : x < 400 := by omega
      have h1 : ¬ nI x = -1 := nI_m1 (by omega)
      simp only [oi_s, oi_n, h1, if_false, R.xpI, R.xck, mR17 R, fun L' => mL14 R L' x hx4, Option.bind_some, SC_20, SC_21, SCr L _ _ _ 14 (by decide) (by decide), M_bec R L _ _ _ hx4, M_lst R L _ _ _ hp hn N _ _ hm, M_lst R L _ _ _ hp hn N _ _ hm']
      rw [M_beco R L _ _ _ _ (fun y hy => by have := lst_lt hy; omega)]
      simp only [Option.bind_some, R.xck, M_lst R L _ _ _ hp hn N _ _ hm']
      rw [M_beco R L _ _ _ _ (fun y hy => by have := lst_lt hy; omega)]
      rfl
  | succ mm ih =>
    intro j f c h1 h2 hc
    obtain ⟨f, rfl⟩ : ∃ f', f = f' + 1 := ⟨f - 1, by omega⟩
    have hj : j < 400 := by omega
    have ihc := ih (j + 1) f c (by omega) (by omega) hc
    have ihj := ih (j + 1) f (some j) (by omega) (by omega) (fun x hx => by cases hx; omega)
    rw [← nI_1] at ihc ihj
    simp only [oi_s, oi_n] at ihj
    rw [f_X8_changes_27]
    simp only [R.xgI, SC_8, hp, Option.bind_some]
    rw [if_neg (nI_ge (by omega) (by omega))]
    unfold f_X8_changes_87 f_X8_changes_88
    simp only [mR9 R, mR11 R, mR16 R, mR12 R, fun L' => mL6 R L' j hj, fun L' => mL8 R L' j hj, fun L' => mL13 R L' j hj, fun L' => mL9 R L' j hj, Option.bind_some, R.xck, SCr L _ _ _ 6 (by decide) (by decide), SCr L _ _ _ 8 (by decide) (by decide), SCr L _ _ _ 13 (by decide) (by decide), SCr L _ _ _ 9 (by decide) (by decide), M_lst R L _ _ _ hp hn N _ _ hm, M_lst R L _ _ _ hp hn N _ _ hm', ihc, ihj, lasF]
    have q1 : oi (lst L n 7 (nI j) m d k) = -1 ↔ lst L n 7 (nI j) m d k = none := oi_m1 (fun x hx => by have := lst_lt hx; omega)
    have q2 : oi (lst L n 7 (nI j) m' d k) = -1 ↔ lst L n 7 (nI j) m' d k = none := oi_m1 (fun x hx => by have := lst_lt hx; omega)
    simp only [q1, q2]
    by_cases c1 : L.1 6 j = 6
    · by_cases c2 : L.1 8 j = g
      · by_cases c3 : L.1 13 j = a
        · by_cases c4 : k < L.1 9 j
          · simp [chB, c1, c2, c3, c4]
          · cases c5 : lst L n 7 (nI j) m d k
            · simp [chB, c1, c2, c3, c4, c5]
            · cases c6 : lst L n 7 (nI j) m' d k <;> simp [chB, c1, c2, c3, c4, c5, c6]
        · simp [chB, c1, c2, c3]
      · simp [chB, c1, c2]
    · simp [chB, c1]
theorem M_changes {am : Nat} {h : AH} (R : MOK am h) (L : LM) (an wd : Int32) (w : Nat → Bool) {n : Nat} (hp : L.1 0 8 = nI n) (hn : n ≤ 400) (N : NM L n) {m m' g' a' : Nat} (hm : m < n) (hm' : m' < n) (hg : g' < 10) (ha : a' < 20) (d k : Int32) : f_X8_changes am (nI m) (nI m') (nI g') (nI a') d k (pM am (SC L an wd w) h) = some (pM am (SR L (fnC L n m m' g' a' d k w (chg L n m m' (nI g') (nI a') d k))) h) := by
  unfold f_X8_changes
  have hi : 20 * g' + a' < 200 := by omega
  simp only [R.xpI, mR7 R, ix20, fun L' => mL5 R L' _ hi, Option.bind_some, SC_20, SC_21, SCr L _ _ _ 5 (by decide) (by decide)]
  have q := M_chg_27 R L (L.1 5 (20 * g' + a')) w hp hn N hm hm' (nI g') (nI a') d k n 0 FU none (by omega) (by unfold FU; omega) (fun x hx => by cases hx)
  rw [nI_0] at q
  simp only [oi_s, oi_n, lasF_0] at q
  rw [q]
  unfold chg
  cases lstF (chB L n m m' (nI g') (nI a') d k) n <;> rfl
theorem fnRr_0 {am : Nat} {h : AH} (R : MOK am h) (L : LM) (w : Nat → Bool) {n : Nat} (hp : L.1 0 8 = nI n) (hn : n ≤ 400) (N : NM L n) (O : OFv L n) {m m' g' a' : Nat} (hm : m < n) (hm' : m' < n) (hg : g' < 10) (ha : a' < 20) (d k : Int32) : ∀ mm j f c, j + mm = n → mm < f → (∀ x, c = some x → x < n) → f_X8_finds_255 f am (nI g') (nI a') d k (nI m) (nI m') (oi c) (nI j) (pM am (SC L 0 0 w) h) = some (pM am (SR L ((fnRr L n m m' g' a' d k w (lasF (rsB L n m m' (nI a') d k) c j mm)).1, (fnRr L n m m' g' a' d k w (lasF (rsB L n m m' (nI a') d k) c j mm)).2.1, lean L n (fnRr L n m m' g' a' d k w (lasF (rsB L n m m' (nI a') d k) c j mm)).2.2)) h) := by
  intro mm
  induction mm with
  | zero =>
    intro j f c h1 h2 hc
    obtain ⟨f, rfl⟩ : ∃ f', f = f' + 1 := ⟨f - 1, by omega⟩
    rw [f_X8_finds_255]
    simp only [R.xgI, SC_8, hp, Option.bind_some]
    rw [if_pos (nI_le (by omega) (by omega))]
    cases c with
    | none =>
      simp only [oi_s, oi_n, if_true, R.xck, Option.bind_some, M_changes R L 0 0 w hp hn N hm hm' hg ha, lasF, fnRr]
      rw [show SR L (fnC L n m m' g' a' d k w (chg L n m m' (nI g') (nI a') d k)) = SC L _ _ _ from rfl, M_f502 R L _ _ hp hn N O]
      rfl
    | some r =>
      have hr := hc r rfl
      have hr4 : r < 400 := by omega
      have h1 : ¬ nI r = -1 := nI_m1 (by omega)
      unfold f_X8_finds_373
      simp only [oi_s, oi_n, h1, if_false, R.xck, Option.bind_some, M_bec R L _ _ _ hr4, M_has R L _ _ _ hp hn N hr hm, M_has R L _ _ _ hp hn N hr hm', lasF, fnRr, b2i_z]
      have e := M_f374 R L 0 0 (upw w r) hp hn N O hr hm hm' d k
      cases c1 : hasB L n m r d k <;> cases c2 : hasB L n m' r d k <;> simp [c1, c2, b2i] at e ⊢ <;> exact e
  | succ mm ih =>
    intro j f c h1 h2 hc
    obtain ⟨f, rfl⟩ : ∃ f', f = f' + 1 := ⟨f - 1, by omega⟩
    have hj : j < 400 := by omega
    have hjn : j < n := by omega
    have ihc := ih (j + 1) f c (by omega) (by omega) hc
    have ihj := ih (j + 1) f (some j) (by omega) (by omega) (fun x hx => by cases hx; omega)
    rw [← nI_1] at ihc ihj
    simp only [oi_s, oi_n] at ihj
    rw [f_X8_finds_255]
    simp only [R.xgI, SC_8, hp, Option.bind_some]
    rw [if_neg (nI_ge (by omega) (by omega))]
    unfold f_X8_finds_317
    simp only [mR9 R, mR16 R, fun L' => mL6 R L' j hj, fun L' => mL13 R L' j hj, Option.bind_some, R.xck, SCr L _ _ _ 6 (by decide) (by decide), SCr L _ _ _ 13 (by decide) (by decide), M_has R L _ _ _ hp hn N hjn hm, M_has R L _ _ _ hp hn N hjn hm', ihc, ihj, lasF, b2i_z]
    by_cases c1 : L.1 6 j = 3
    · by_cases c2 : L.1 13 j = nI a'
      · cases c3 : hasB L n m j d k
        · cases c4 : hasB L n m' j d k <;> simp [rsB, c1, c2, c3, c4]
        · simp [rsB, c1, c2, c3]
      · simp [rsB, c1, c2]
    · simp [rsB, c1]
theorem M_f249 {am : Nat} {h : AH} (R : MOK am h) (L : LM) (w : Nat → Bool) {n : Nat} (hp : L.1 0 8 = nI n) (hn : n ≤ 400) (N : NM L n) (O : OFv L n) {m m' g' a' : Nat} (hm : m < n) (hm' : m' < n) (hg : g' < 10) (ha : a' < 20) (d k : Int32) : f_X8_finds_249 am (nI g') (nI a') d k (nI m) (nI m') (pM am (SC L 0 0 w) h) = some (pM am (SR L ((fnR L n m m' g' a' d k w).1, (fnR L n m m' g' a' d k w).2.1, lean L n (fnR L n m m' g' a' d k w).2.2)) h) := by
  unfold f_X8_finds_249
  have q := fnRr_0 R L w hp hn N O hm hm' hg ha d k n 0 FU none (by omega) (by unfold FU; omega) (fun x hx => by cases hx)
  rw [nI_0] at q
  simp only [oi_s, oi_n, lasF_0] at q
  rw [q]
  rfl
theorem M_mof {am : Nat} {h : AH} (R : MOK am h) (L : LM) (an wd : Int32) (w : Nat → Bool) {n : Nat} (hp : L.1 0 8 = nI n) (hn : n ≤ 400) (p g d k : Int32) : f_X8_memberOf am p g d k (pM am (SC L an wd w) h) = some (oi (mof L n p g d k)) := by
  rw [M_memberOf R (SC L an wd w) (by rw [SC_8]; exact hp) hn, SC_mof]
theorem M_f201 {am : Nat} {h : AH} (R : MOK am h) (L : LM) {n : Nat} (hp : L.1 0 8 = nI n) (hn : n ≤ 400) (N : NM L n) (O : OFv L n) {np : Nat} (hq : L.1 0 1 = nI np) (hnp : np ≤ 30) {m m' g' a' : Nat} (hm : m < n) (hm' : m' < n) (hg : g' < 10) (ha : a' < 20) (d k : Int32) : ∀ mm j f l w, j + mm = np → mm < f → f_X8_finds_201 f am (nI g') (nI a') d k (nI m) (nI m') l (nI j) (pM am (SC L 0 0 w) h) = some (pM am (SR L ((fnR L n m m' g' a' d k (nee L n (nI g') d k l j mm w)).1, (fnR L n m m' g' a' d k (nee L n (nI g') d k l j mm w)).2.1, lean L n (fnR L n m m' g' a' d k (nee L n (nI g') d k l j mm w)).2.2)) h) := by
  intro mm
  induction mm with
  | zero =>
    intro j f l w h1 h2
    obtain ⟨f, rfl⟩ : ∃ f', f = f' + 1 := ⟨f - 1, by omega⟩
    rw [f_X8_finds_201]
    simp only [R.xgI, SC_1, hq, Option.bind_some]
    rw [if_pos (nI_le (by omega) (by omega))]
    exact M_f249 R L w hp hn N O hm hm' hg ha d k
  | succ mm ih =>
    intro j f l w h1 h2
    obtain ⟨f, rfl⟩ : ∃ f', f = f' + 1 := ⟨f - 1, by omega⟩
    rw [f_X8_finds_201]
    simp only [R.xgI, SC_1, hq, Option.bind_some]
    rw [if_neg (nI_ge (by omega) (by omega))]
    by_cases c : l ≤ 0
    · simp only [c, if_true, nee]
      exact M_f249 R L w hp hn N O hm hm' hg ha d k
    · simp only [c, if_false, nee, R.xck, M_mof R L _ _ _ hp hn, Option.bind_some, nI_1]
      cases c2 : mof L n (nI j) (nI g') d k with
      | none => simp only [oi_s, oi_n, if_true]; exact ih (j + 1) f l w (by omega) (by omega)
      | some x =>
        have hx := mof_lt c2
        have h1 : ¬ nI x = -1 := nI_m1 (by omega)
        simp only [oi_s, oi_n, h1, if_false, M_bec R L _ _ _ (show x < 400 by omega), Option.bind_some]
        exact ih (j + 1) f _ _ (by omega) (by omega)
