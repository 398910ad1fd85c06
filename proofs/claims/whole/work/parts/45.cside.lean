/-! PURE 16: the program's two sides -/
theorem bf {b : Bool} (h : ¬ b = true) : b = false := by
  cases b
  · rfl
  · exact absurd rfl h
theorem bt {b : Bool} (h : ¬ b = false) : b = true := by
  cases b
  · exact absurd rfl h
  · rfl
def ST (s : Nat) (T : TM) (w : Nat → Int32) (v : Option Nat) : TM := (fun q => if q = s + 1 then w else T.1 q, u2 T.2 s 1 v)
theorem ST_w (s : Nat) (T : TM) (w : Nat → Int32) (v : Option Nat) (j : Nat) (x : Int32) : TI (ST s T w v) (s + 1) j x = ST s T (fun k => if k = j then x else w k) v := by
  refine Prod.ext ?_ rfl
  funext q k
  simp only [TI1, ST]
  by_cases c : q = s + 1
  · by_cases c2 : k = j <;> simp [c, c2]
  · simp [c]
theorem ST_0 (s : Nat) (T : TM) (v : Option Nat) : TR T s 1 v = ST s T (T.1 (s + 1)) v := by
  refine Prod.ext ?_ rfl
  funext q k
  simp only [TR1, ST]
  by_cases c : q = s + 1 <;> simp [c]
theorem ST1 (s : Nat) (T : TM) (w : Nat → Int32) (v : Option Nat) : (ST s T w v).1 (s + 1) = w := by simp [ST]
theorem ST2 (s : Nat) (T : TM) (w : Nat → Int32) (v : Option Nat) : (ST s T w v).2 s 1 = v := by simp [ST, u2]
theorem ST1o (s : Nat) (T : TM) (w : Nat → Int32) (v : Option Nat) {q : Nat} (hq : q ≠ s + 1) : (ST s T w v).1 q = T.1 q := by simp [ST, hq]
theorem ST2o (s : Nat) (T : TM) (w : Nat → Int32) (v : Option Nat) {q : Nat} (hq : q ≠ s) : (ST s T w v).2 q = T.2 q := by
  funext k
  simp [ST, u2, hq]
section CS9
variable {c : Nat} {L : LM} {n np ng : Nat} {A : Nat → Nat → Nat} {h : AH}
theorem c_sf8_9 (C : COK c L n np ng A h) (F : WF L n np ng) (hn : n ≤ 400) (T : TM) {m : Nat} (hm : m < n) (v : Option Nat) (d k : Int32) : ∀ mm j f w, j + mm = n → mm < f → (∀ x, x < j → w x = b2i (hasB L n m x d k)) → ∃ w', (∀ x, x < n → w' x = b2i (hasB L n m x d k)) ∧ f_X6_fill_8 f (c + 9) (some (c + 2)) (some (A 0 m)) d k (nI j) (pS c (ST 9 T w v) h) = some (pS c (ST 9 T w' v) h) := by
  intro mm
  induction mm with
  | zero =>
    intro j f w h1 h2 h3
    obtain ⟨f, rfl⟩ : ∃ f', f = f' + 1 := ⟨f - 1, by omega⟩
    obtain rfl : j = n := by omega
    have C' := COK_pS C (ST 9 T w v)
    refine ⟨w, h3, ?_⟩
    rw [f_X6_fill_8]
    simp only [cR1 C', Option.bind_some]
    rw [if_pos (nI_le (by omega) (by omega))]
  | succ mm ih =>
    intro j f w h1 h2 h3
    obtain ⟨f, rfl⟩ : ∃ f', f = f' + 1 := ⟨f - 1, by omega⟩
    have hj : j < n := by omega
    have C' := COK_pS C (ST 9 T w v)
    rw [f_X6_fill_8]
    simp only [cR1 C', Option.bind_some]
    rw [if_neg (nI_ge (by omega) (by omega))]
    simp only [sgR9 C.1, sfx, fx, sal10 C.1, Option.bind_some]
    rw [if_neg (nI_ge (show j < 400 by omega) (by omega))]
    simp only [cck4 C', c_at C' hn hj, sgR9 C.1, sfx, fx, cckP C' hj, c_st C' F hj, c_held C' F hn hj hm, Option.bind_some, b2i_z]
    rw [if_neg (by simp)]
    have fin : ∀ b : Bool, b = hasB L n m j d k → ∃ w', (∀ x, x < n → w' x = b2i (hasB L n m x d k)) ∧ f_X6_fill_73 (f_X6_fill_8 f) (c + 9) (some (c + 2)) (some (A 0 m)) d k (nI j) (some (c + 10)) (nI j) (b2i b) (pS c (ST 9 T w v) h) = some (pS c (ST 9 T w' v) h) := by
      intro b hb
      unfold f_X6_fill_73
      simp only [sst10 C.1 _ (show j < 400 by omega), ST_w, Option.bind_some, nI_1]
      refine ih (j + 1) f _ (by omega) (by omega) (fun x hx => ?_)
      by_cases z : x = j
      · rw [if_pos z, z, hb]
      · rw [if_neg z]; exact h3 x (by omega)
    have e : hasB L n m j d k = (!decide (L.1 12 j = -1) && stB L n j d k && hlB L n j m k) := rfl
    unfold f_X6_fill_72
    have f0 := fin false
    have f1 := fin true
    rw [e] at f0 f1
    simp only [b2i] at f0 f1
    by_cases c1 : stB L n j d k = false
    · rw [if_pos c1]
      exact f0 (by simp [c1])
    · have c1' : stB L n j d k = true := by simpa using c1
      rw [if_neg c1]
      by_cases c2 : (!decide (L.1 12 j = -1) && hlB L n j m k) = false
      · rw [if_pos c2]
        refine f0 ?_
        rw [c1', Bool.and_true, c2]
      · have c2' : (!decide (L.1 12 j = -1) && hlB L n j m k) = true := by simpa using c2
        rw [if_neg c2]
        refine f1 ?_
        rw [c1', Bool.and_true, c2']
theorem c_sf_9 (C : COK c L n np ng A h) (F : WF L n np ng) (hn : n ≤ 400) (T : TM) {m : Nat} (hm : m < n) (d k : Int32) : ∃ w', (∀ x, x < n → w' x = b2i (hasB L n m x d k)) ∧ f_X6_fill (c + 9) (some (c + 2)) (some (A 0 m)) d k (pS c T h) = some (pS c (ST 9 T w' (some (A 0 m))) h) := by
  unfold f_X6_fill
  simp only [spR9 C.1 _ _ _ (show fx 9 1 = none from rfl), ST_0, Option.bind_some]
  have q := c_sf8_9 C F hn T hm (some (A 0 m)) d k n 0 FU (T.1 10) (by omega) (by unfold FU; omega) (fun q hq => by omega)
  rw [nI_0] at q
  exact q
theorem c_hp_9 (C : COK c L n np ng A h) (hn : n ≤ 400) (T : TM) {x : Nat} (hx : x < n) (b : Bool) (hb : T.1 10 x = b2i b) : f_X6_hasPaper (c + 9) (some (A 0 x)) (pS c T h) = some b := by
  have C' := COK_pS C T
  unfold f_X6_hasPaper
  simp only [cP0 C' hx, sgR9 C.1, sfx, fx, sal10 C.1, Option.bind_some, slI10 C.1 T (show x < 400 by omega), hb]
  rw [if_neg (by simp), if_neg (nI_pos (by omega)), if_neg (nI_ge (show x < 400 by omega) (by omega))]
  cases b <;> simp [b2i]
theorem c_la8_9 (C : COK c L n np ng A h) (hn : n ≤ 400) (T : TM) {m : Nat} {d k : Int32} (hT : ∀ x, x < n → T.1 10 x = b2i (hasB L n m x d k)) (v : Int32) : ∀ f l o, (∀ x, o = some x → x < n ∧ x + 1 < f) → 0 < f → f_X6_leastAnswer_8 f (c + 9) v (l.map (A 0)) (o.map (A 0)) (pS c T h) = some ((chl L (fun y => decide (L.1 15 y = v) && hasB L n m y d k) f l o).map (A 0)) := by
  intro f
  induction f with
  | zero => intro l o _ h0; omega
  | succ f ih =>
    intro l o ho h0
    have C' := COK_pS C T
    rw [f_X6_leastAnswer_8]
    cases o with
    | none => rfl
    | some y =>
      obtain ⟨hy, hf⟩ := ho y rfl
      unfold f_X6_leastAnswer_34
      have ih2 := fun l => ih l (earO L y) (fun z e => ⟨by have := earO_lt e; omega, by have := earO_lt e; omega⟩) (by omega)
      have ih3 := ih2 (some y)
      simp only [Option.map_some] at ih3
      simp only [Option.map_some, cP10 C' hy, cP14 C' hy, sck9 C.1, c_hp_9 C hn T hy _ (hT y hy), Option.bind_some, b2i_z, ih2, ih3, chl]
      rw [if_neg (by simp)]
      by_cases c1 : L.1 15 y = v
      · by_cases c2 : hasB L n m y d k = false
        · simp [c1, c2]
        · have c2' : hasB L n m y d k = true := by simpa using c2
          simp [c1, c2']
      · simp [c1]
theorem c_la_9 (C : COK c L n np ng A h) (hn : n ≤ 400) (T : TM) {m : Nat} {d k : Int32} (hT : ∀ x, x < n → T.1 10 x = b2i (hasB L n m x d k)) (v : Int32) {x : Nat} (hx : x < n) : f_X6_leastAnswer (c + 9) (some (A 0 x)) v (pS c T h) = some ((fstF (fun y => isA L y && decide (L.1 11 y = nI x) && (decide (L.1 15 y = v) && hasB L n m y d k)) 0 n).map (A 0)) := by
  have C' := COK_pS C T
  unfold f_X6_leastAnswer
  simp only [cP13 C' hx, Option.bind_some]
  have q := c_la8_9 C hn T hT v FU none (latO L n x) (fun y e => ⟨(latO_some e).1, by have := (latO_some e).1; unfold FU; omega⟩) (by unfold FU; omega)
  simp only [Option.map_none] at q
  rw [q, chl_eq _ n FU none (by unfold FU; omega)]
  cases fstF (fun y => isA L y && decide (L.1 11 y = nI x) && (decide (L.1 15 y = v) && hasB L n m y d k)) 0 n <;> rfl
theorem c_hr_9 (C : COK c L n np ng A h) (hn : n ≤ 400) (T : TM) {x : Nat} (hx : x < n) (b : Bool) (hb : T.1 10 x = b2i b) (v : Int32) : f_X6_hasReserve (c + 9) (some (A 0 x)) v (pS c T h) = some (decide (L.1 6 x = 3) && decide (L.1 13 x = v) && b) := by
  have C' := COK_pS C T
  unfold f_X6_hasReserve
  simp only [cP1 C' hx, cP8 C' hx, sck9 C.1, c_hp_9 C hn T hx b hb, Option.bind_some, b2i_z]
  by_cases c1 : L.1 6 x = 3
  · by_cases c2 : L.1 13 x = v
    · cases b <;> simp [c1, c2]
    · simp [c2]
  · simp [c1]
end CS9
section CS11
variable {c : Nat} {L : LM} {n np ng : Nat} {A : Nat → Nat → Nat} {h : AH}
theorem c_sf8_11 (C : COK c L n np ng A h) (F : WF L n np ng) (hn : n ≤ 400) (T : TM) {m : Nat} (hm : m < n) (v : Option Nat) (d k : Int32) : ∀ mm j f w, j + mm = n → mm < f → (∀ x, x < j → w x = b2i (hasB L n m x d k)) → ∃ w', (∀ x, x < n → w' x = b2i (hasB L n m x d k)) ∧ f_X6_fill_8 f (c + 11) (some (c + 2)) (some (A 0 m)) d k (nI j) (pS c (ST 11 T w v) h) = some (pS c (ST 11 T w' v) h) := by
  intro mm
  induction mm with
  | zero =>
    intro j f w h1 h2 h3
    obtain ⟨f, rfl⟩ : ∃ f', f = f' + 1 := ⟨f - 1, by omega⟩
    obtain rfl : j = n := by omega
    have C' := COK_pS C (ST 11 T w v)
    refine ⟨w, h3, ?_⟩
    rw [f_X6_fill_8]
    simp only [cR1 C', Option.bind_some]
    rw [if_pos (nI_le (by omega) (by omega))]
  | succ mm ih =>
    intro j f w h1 h2 h3
    obtain ⟨f, rfl⟩ : ∃ f', f = f' + 1 := ⟨f - 1, by omega⟩
    have hj : j < n := by omega
    have C' := COK_pS C (ST 11 T w v)
    rw [f_X6_fill_8]
    simp only [cR1 C', Option.bind_some]
    rw [if_neg (nI_ge (by omega) (by omega))]
    simp only [sgR11 C.1, sfx, fx, sal12 C.1, Option.bind_some]
    rw [if_neg (nI_ge (show j < 400 by omega) (by omega))]
    simp only [cck4 C', c_at C' hn hj, sgR11 C.1, sfx, fx, cckP C' hj, c_st C' F hj, c_held C' F hn hj hm, Option.bind_some, b2i_z]
    rw [if_neg (by simp)]
    have fin : ∀ b : Bool, b = hasB L n m j d k → ∃ w', (∀ x, x < n → w' x = b2i (hasB L n m x d k)) ∧ f_X6_fill_73 (f_X6_fill_8 f) (c + 11) (some (c + 2)) (some (A 0 m)) d k (nI j) (some (c + 12)) (nI j) (b2i b) (pS c (ST 11 T w v) h) = some (pS c (ST 11 T w' v) h) := by
      intro b hb
      unfold f_X6_fill_73
      simp only [sst12 C.1 _ (show j < 400 by omega), ST_w, Option.bind_some, nI_1]
      refine ih (j + 1) f _ (by omega) (by omega) (fun x hx => ?_)
      by_cases z : x = j
      · rw [if_pos z, z, hb]
      · rw [if_neg z]; exact h3 x (by omega)
    have e : hasB L n m j d k = (!decide (L.1 12 j = -1) && stB L n j d k && hlB L n j m k) := rfl
    unfold f_X6_fill_72
    have f0 := fin false
    have f1 := fin true
    rw [e] at f0 f1
    simp only [b2i] at f0 f1
    by_cases c1 : stB L n j d k = false
    · rw [if_pos c1]
      exact f0 (by simp [c1])
    · have c1' : stB L n j d k = true := by simpa using c1
      rw [if_neg c1]
      by_cases c2 : (!decide (L.1 12 j = -1) && hlB L n j m k) = false
      · rw [if_pos c2]
        refine f0 ?_
        rw [c1', Bool.and_true, c2]
      · have c2' : (!decide (L.1 12 j = -1) && hlB L n j m k) = true := by simpa using c2
        rw [if_neg c2]
        refine f1 ?_
        rw [c1', Bool.and_true, c2']
theorem c_sf_11 (C : COK c L n np ng A h) (F : WF L n np ng) (hn : n ≤ 400) (T : TM) {m : Nat} (hm : m < n) (d k : Int32) : ∃ w', (∀ x, x < n → w' x = b2i (hasB L n m x d k)) ∧ f_X6_fill (c + 11) (some (c + 2)) (some (A 0 m)) d k (pS c T h) = some (pS c (ST 11 T w' (some (A 0 m))) h) := by
  unfold f_X6_fill
  simp only [spR11 C.1 _ _ _ (show fx 11 1 = none from rfl), ST_0, Option.bind_some]
  have q := c_sf8_11 C F hn T hm (some (A 0 m)) d k n 0 FU (T.1 12) (by omega) (by unfold FU; omega) (fun q hq => by omega)
  rw [nI_0] at q
  exact q
theorem c_hp_11 (C : COK c L n np ng A h) (hn : n ≤ 400) (T : TM) {x : Nat} (hx : x < n) (b : Bool) (hb : T.1 12 x = b2i b) : f_X6_hasPaper (c + 11) (some (A 0 x)) (pS c T h) = some b := by
  have C' := COK_pS C T
  unfold f_X6_hasPaper
  simp only [cP0 C' hx, sgR11 C.1, sfx, fx, sal12 C.1, Option.bind_some, slI12 C.1 T (show x < 400 by omega), hb]
  rw [if_neg (by simp), if_neg (nI_pos (by omega)), if_neg (nI_ge (show x < 400 by omega) (by omega))]
  cases b <;> simp [b2i]
theorem c_la8_11 (C : COK c L n np ng A h) (hn : n ≤ 400) (T : TM) {m : Nat} {d k : Int32} (hT : ∀ x, x < n → T.1 12 x = b2i (hasB L n m x d k)) (v : Int32) : ∀ f l o, (∀ x, o = some x → x < n ∧ x + 1 < f) → 0 < f → f_X6_leastAnswer_8 f (c + 11) v (l.map (A 0)) (o.map (A 0)) (pS c T h) = some ((chl L (fun y => decide (L.1 15 y = v) && hasB L n m y d k) f l o).map (A 0)) := by
  intro f
  induction f with
  | zero => intro l o _ h0; omega
  | succ f ih =>
    intro l o ho h0
    have C' := COK_pS C T
    rw [f_X6_leastAnswer_8]
    cases o with
    | none => rfl
    | some y =>
      obtain ⟨hy, hf⟩ := ho y rfl
      unfold f_X6_leastAnswer_34
      have ih2 := fun l => ih l (earO L y) (fun z e => ⟨by have := earO_lt e; omega, by have := earO_lt e; omega⟩) (by omega)
      have ih3 := ih2 (some y)
      simp only [Option.map_some] at ih3
      simp only [Option.map_some, cP10 C' hy, cP14 C' hy, sck11 C.1, c_hp_11 C hn T hy _ (hT y hy), Option.bind_some, b2i_z, ih2, ih3, chl]
      rw [if_neg (by simp)]
      by_cases c1 : L.1 15 y = v
      · by_cases c2 : hasB L n m y d k = false
        · simp [c1, c2]
        · have c2' : hasB L n m y d k = true := by simpa using c2
          simp [c1, c2']
      · simp [c1]
theorem c_la_11 (C : COK c L n np ng A h) (hn : n ≤ 400) (T : TM) {m : Nat} {d k : Int32} (hT : ∀ x, x < n → T.1 12 x = b2i (hasB L n m x d k)) (v : Int32) {x : Nat} (hx : x < n) : f_X6_leastAnswer (c + 11) (some (A 0 x)) v (pS c T h) = some ((fstF (fun y => isA L y && decide (L.1 11 y = nI x) && (decide (L.1 15 y = v) && hasB L n m y d k)) 0 n).map (A 0)) := by
  have C' := COK_pS C T
  unfold f_X6_leastAnswer
  simp only [cP13 C' hx, Option.bind_some]
  have q := c_la8_11 C hn T hT v FU none (latO L n x) (fun y e => ⟨(latO_some e).1, by have := (latO_some e).1; unfold FU; omega⟩) (by unfold FU; omega)
  simp only [Option.map_none] at q
  rw [q, chl_eq _ n FU none (by unfold FU; omega)]
  cases fstF (fun y => isA L y && decide (L.1 11 y = nI x) && (decide (L.1 15 y = v) && hasB L n m y d k)) 0 n <;> rfl
theorem c_hr_11 (C : COK c L n np ng A h) (hn : n ≤ 400) (T : TM) {x : Nat} (hx : x < n) (b : Bool) (hb : T.1 12 x = b2i b) (v : Int32) : f_X6_hasReserve (c + 11) (some (A 0 x)) v (pS c T h) = some (decide (L.1 6 x = 3) && decide (L.1 13 x = v) && b) := by
  have C' := COK_pS C T
  unfold f_X6_hasReserve
  simp only [cP1 C' hx, cP8 C' hx, sck11 C.1, c_hp_11 C hn T hx b hb, Option.bind_some, b2i_z]
  by_cases c1 : L.1 6 x = 3
  · by_cases c2 : L.1 13 x = v
    · cases b <;> simp [c1, c2]
    · simp [c2]
  · simp [c1]
end CS11
section CB
variable {c : Nat} {L : LM} {n np ng : Nat} {A : Nat → Nat → Nat} {h : AH}
theorem TR_self {T : TM} {p k : Nat} {v : Option Nat} (e : T.2 p k = v) : TR T p k v = T := by
  refine Prod.ext rfl ?_
  funext q j
  simp only [TR2]
  by_cases z : q = p ∧ j = k
  · rw [if_pos z, z.1, z.2, e]
  · rw [if_neg z]
/-- both sides filled -/
def SD (T : TM) (L : LM) (n m m' : Nat) (d k : Int32) : Prop := (∀ x, x < n → T.1 10 x = b2i (hasB L n m x d k)) ∧ ∀ x, x < n → T.1 12 x = b2i (hasB L n m' x d k)
theorem SD_TR {T : TM} {m m' : Nat} {d k : Int32} (S : SD T L n m m' d k) (p i : Nat) (v : Option Nat) : SD (TR T p i v) L n m m' d k := S
theorem SD_TI {T : TM} {m m' : Nat} {d k : Int32} (S : SD T L n m m' d k) (i : Nat) (v : Int32) : SD (TI T 6 i v) L n m m' d k := by
  refine ⟨fun x hx => ?_, fun x hx => ?_⟩
  · rw [TI1, if_neg (by omega)]; exact S.1 x hx
  · rw [TI1, if_neg (by omega)]; exact S.2 x hx
def dvB (L : LM) (n m m' : Nat) (d k : Int32) (x : Nat) : Bool := stgB L n m m' d k x || stgB L n m' m d k x
theorem mnO_fst (p q : Nat → Bool) (n : Nat) : mnO (fstF p 0 n) (fstF q 0 n) = fstF (fun x => p x || q x) 0 n := by
  cases c1 : fstF p 0 n with
  | none =>
    have g := (fstF_none _ _ _).mp c1
    show fstF q 0 n = _
    exact fstF_congr n 0 (fun y h1 h2 => by rw [g y h1 h2, Bool.false_or])
  | some x =>
    obtain ⟨x1, x2, x3, x4⟩ := fstF_some _ _ _ _ c1
    cases c2 : fstF q 0 n with
    | none =>
      have g := (fstF_none _ _ _).mp c2
      symm
      show fstF (fun x => p x || q x) 0 n = some x
      exact fstF_eq _ x1 x2 (by simp [x3]) (fun y h1 h2 => by simp [x4 y h1 h2, g y h1 (by omega)])
    | some y =>
      obtain ⟨y1, y2, y3, y4⟩ := fstF_some _ _ _ _ c2
      symm
      show fstF (fun x => p x || q x) 0 n = some (min x y)
      rcases Nat.le_total x y with z | z
      · rw [Nat.min_eq_left z]
        exact fstF_eq _ x1 x2 (by simp [x3]) (fun w h1 h2 => by simp [x4 w h1 h2, y4 w h1 (by omega)])
      · rw [Nat.min_eq_right z]
        exact fstF_eq _ y1 y2 (by simp [y3]) (fun w h1 h2 => by simp [x4 w h1 (by omega), y4 w h1 h2])
theorem c_div (C : COK c L n np ng A h) (F : WF L n np ng) (hn : n ≤ 400) (T : TM) {m m' : Nat} {d k : Int32} (S : SD T L n m m' d k) {x : Nat} (hx : x < n) (h4 : L.1 6 x = 4) (h0 : L.1 15 x = 0) : f_X2_dividesThem (c + 6) (some (A 0 x)) (pS c T h) = some (dvB L n m m' d k x) := by
  have C' := COK_pS C T
  obtain ⟨y, hy, e⟩ := F.nm x hx (Or.inl h4)
  unfold f_X2_dividesThem f_X2_dividesThem_25
  simp only [sgR6 C.1, sfx, fx, sck9 C.1, sck11 C.1, cP6 C' hx, e, ora_nI _ (show y < 1000 by omega), c_hp_9 C hn T hx _ (S.1 x hx), c_hp_11 C hn T hx _ (S.2 x hx), c_hp_9 C hn T (show y < n by omega) _ (S.1 y (by omega)), c_hp_11 C hn T (show y < n by omega) _ (S.2 y (by omega)), Option.bind_some, b2i_z]
  unfold dvB stgB
  rw [e, nIt (by omega)]
  simp only [h4, h0, decide_true, Bool.true_and]
  cases hasB L n m x d k <;> cases hasB L n m' x d k <;> cases hasB L n m y d k <;> cases hasB L n m' y d k <;> simp
theorem c_fso_2 (C : COK c L n np ng A h) (F : WF L n np ng) (hn : n ≤ 400) (T : TM) {m m' : Nat} {d k : Int32} (S : SD T L n m m' d k) (h7 : T.2 6 7 = none) : ∀ mm j f, j + mm = n → mm + 1 < f → f_X2_findStrongObjection_2 f (c + 6) (some (c + 2)) (nI j) (pS c T h) = some (pS c (TR T 6 7 ((fstF (dvB L n m m' d k) j mm).map (A 0))) h) := by
  intro mm
  induction mm with
  | zero =>
    intro j f h1 h2
    obtain ⟨f, rfl⟩ : ∃ f', f = f' + 1 := ⟨f - 1, by omega⟩
    have C' := COK_pS C T
    rw [f_X2_findStrongObjection_2]
    simp only [cR1 C', Option.bind_some]
    rw [if_pos (nI_le (by omega) (by omega))]
    show _ = some (pS c (TR T 6 7 none) h)
    rw [TR_self h7]
  | succ mm ih =>
    intro j f h1 h2
    obtain ⟨f, rfl⟩ : ∃ f', f = f' + 1 := ⟨f - 1, by omega⟩
    have hj : j < n := by omega
    have C' := COK_pS C T
    rw [f_X2_findStrongObjection_2]
    simp only [cR1 C', Option.bind_some]
    rw [if_neg (nI_ge (by omega) (by omega))]
    simp only [sgR6 C.1, sfx, fx, h7, cck4 C', c_at C' hn hj, cP1 C' hj, cP10 C' hj, sck6 C.1, Option.bind_some, nI_1, b2i_z, fstF]
    rw [if_pos trivial, if_neg (by simp)]
    have skip : dvB L n m m' d k j = false → f_X2_findStrongObjection_2 f (c + 6) (some (c + 2)) (nI (j + 1)) (pS c T h) = some (pS c (TR T 6 7 ((if dvB L n m m' d k j = true then some j else fstF (dvB L n m m' d k) (j + 1) mm).map (A 0))) h) := by
      intro z
      rw [z, ih (j + 1) f (by omega) (by omega)]
      simp
    by_cases c1 : L.1 6 j = 4
    · rw [if_pos c1]
      by_cases c2 : L.1 15 j = 0
      · rw [if_pos c2, c_div C F hn T S hj c1 c2]
        simp only [Option.bind_some, b2i_z]
        by_cases c3 : dvB L n m m' d k j = false
        · rw [if_pos c3]; exact skip c3
        · have c3' : dvB L n m m' d k j = true := by simpa using c3
          rw [if_neg c3, if_pos c3']
          simp only [spR6 C.1 _ _ _ (show fx 6 7 = none from rfl), Option.bind_some, Option.map_some]
          obtain ⟨f, rfl⟩ : ∃ f', f = f' + 1 := ⟨f - 1, by omega⟩
          have C2 := COK_pS C (TR T 6 7 (some (A 0 j)))
          rw [f_X2_findStrongObjection_2]
          simp only [cR1 C2, Option.bind_some, sgR6 C.1, sfx, fx, TR2]
          by_cases c4 : nI n ≤ nI (j + 1)
          · rw [if_pos c4]
          · rw [if_neg c4]
            simp
      · rw [if_neg c2]
        exact skip (by simp [dvB, stgB, c2])
    · rw [if_neg c1]
      exact skip (by simp [dvB, stgB, c1])
theorem c_fso (C : COK c L n np ng A h) (F : WF L n np ng) (hn : n ≤ 400) (T : TM) {m m' : Nat} {d k : Int32} (S : SD T L n m m' d k) (h7 : T.2 6 7 = none) : f_X2_findStrongObjection (c + 6) (some (c + 2)) (pS c T h) = some (pS c (TR T 6 7 ((mnO (stg L n m m' d k) (stg L n m' m d k)).map (A 0))) h) := by
  unfold f_X2_findStrongObjection stg
  have q := c_fso_2 C F hn T S h7 n 0 FU (by omega) (by unfold FU; omega)
  rw [nI_0] at q
  rw [q, mnO_fst]
  rfl
theorem c_fr_7 (C : COK c L n np ng A h) (hn : n ≤ 400) (T : TM) {m m' : Nat} {d k : Int32} (S : SD T L n m m' d k) (a : Int32) (h8 : T.2 6 8 = none) : ∀ i f, i ≤ n → i + 1 < f → f_X2_findReserve_7 f (c + 6) (some (c + 2)) a (nI i + (-1)) (pS c T h) = some (pS c (TR T 6 8 ((lstF (rsB L n m m' a d k) i).map (A 0))) h) := by
  intro i
  induction i with
  | zero =>
    intro f h1 h2
    obtain ⟨f, rfl⟩ : ∃ f', f = f' + 1 := ⟨f - 1, by omega⟩
    rw [f_X2_findReserve_7, nI_0m, if_pos m1_neg]
    show _ = some (pS c (TR T 6 8 none) h)
    rw [TR_self h8]
  | succ i ih =>
    intro f h1 h2
    obtain ⟨f, rfl⟩ : ∃ f', f = f' + 1 := ⟨f - 1, by omega⟩
    have hi : i < n := by omega
    have C' := COK_pS C T
    rw [f_X2_findReserve_7, nI_m1', if_neg (nI_pos (by omega))]
    simp only [sgR6 C.1, sfx, fx, h8, cck4 C', c_at C' hn hi, sck9 C.1, sck11 C.1, c_hr_9 C hn T hi _ (S.1 i hi), c_hr_11 C hn T hi _ (S.2 i hi), Option.bind_some, b2i_z]
    rw [if_pos trivial, if_neg (by simp), lstF_succ]
    have e : rsB L n m m' a d k i = (decide (L.1 6 i = 3) && decide (L.1 13 i = a) && (hasB L n m i d k || hasB L n m' i d k)) := rfl
    have fin : rsB L n m m' a d k i = true → f_X2_findReserve_56 (f_X2_findReserve_7 f) (c + 6) (some (c + 2)) a (nI i) (some (A 0 i)) (pS c T h) = some (pS c (TR T 6 8 ((if rsB L n m m' a d k i = true then some i else lstF (rsB L n m m' a d k) i).map (A 0))) h) := by
      intro z
      unfold f_X2_findReserve_56
      rw [if_pos z]
      simp only [spR6 C.1 _ _ _ (show fx 6 8 = none from rfl), Option.bind_some, Option.map_some]
      obtain ⟨f, rfl⟩ : ∃ f', f = f' + 1 := ⟨f - 1, by omega⟩
      rw [f_X2_findReserve_7]
      simp only [sgR6 C.1, sfx, fx, TR2, Option.bind_some]
      by_cases c4 : nI i + (-1) < 0
      · rw [if_pos c4]
      · rw [if_neg c4]
        simp
    by_cases c1 : (decide (L.1 6 i = 3) && decide (L.1 13 i = a) && hasB L n m i d k) = false
    · rw [if_pos c1]
      by_cases c2 : (decide (L.1 6 i = 3) && decide (L.1 13 i = a) && hasB L n m' i d k) = false
      · rw [if_pos c2, ih f (by omega) (by omega)]
        have : rsB L n m m' a d k i = false := by rw [e, Bool.and_or_distrib_left, c1, c2]; rfl
        rw [this]
        simp
      · rw [if_neg c2]
        have c2' : (decide (L.1 6 i = 3) && decide (L.1 13 i = a) && hasB L n m' i d k) = true := bt c2
        exact fin (by rw [e, Bool.and_or_distrib_left, c2', Bool.or_true])
    · rw [if_neg c1]
      have c1' : (decide (L.1 6 i = 3) && decide (L.1 13 i = a) && hasB L n m i d k) = true := bt c1
      exact fin (by rw [e, Bool.and_or_distrib_left, c1', Bool.true_or])
theorem c_fr (C : COK c L n np ng A h) (hn : n ≤ 400) (T : TM) {m m' : Nat} {d k : Int32} (S : SD T L n m m' d k) (a : Int32) (h8 : T.2 6 8 = none) : f_X2_findReserve (c + 6) (some (c + 2)) a (pS c T h) = some (pS c (TR T 6 8 ((rsv L n m m' a d k).map (A 0))) h) := by
  have C' := COK_pS C T
  unfold f_X2_findReserve rsv
  simp only [cR1 C', Option.bind_some, nI_sub1]
  exact c_fr_7 C hn T S a h8 n FU (Nat.le_refl _) (by unfold FU; omega)
end CB
