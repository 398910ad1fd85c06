/-! PURE 13: the program's own memory -/
theorem ck_k {ci a : Nat} {h : AH} (k : hk h a = some (ci, 0)) : ck ci h (some a) = some a := by simp [ck, k]
theorem gI_k {ci a : Nat} {h : AH} (k : hk h a = some (ci, 0)) (f : Nat) : gI ci f h (some a) = some (hI h a f) := by simp [gI, ck, k]
theorem gJ_k {ci a : Nat} {h : AH} (k : hk h a = some (ci, 0)) (f : Nat) : gJ ci f h (some a) = some (hJ h a f) := by simp [gJ, ck, k]
theorem gR_k {ci a : Nat} {h : AH} (k : hk h a = some (ci, 0)) (f : Nat) : gR ci f h (some a) = some (hR h a f) := by simp [gR, ck, k]
theorem pI_k {ci a : Nat} {h : AH} (k : hk h a = some (ci, 0)) (f : Nat) (v : Int32) : pI ci f h (some a) v = some (sI h a f v) := by simp [pI, ck, k]
theorem pJ_k {ci a : Nat} {h : AH} (k : hk h a = some (ci, 0)) (f : Nat) (v : Int64) : pJ ci f h (some a) v = some (sJ h a f v) := by simp [pJ, ck, k]
theorem pR_k {ci a : Nat} {h : AH} (k : hk h a = some (ci, 0)) (f : Nat) (v : Option Nat) : pR ci f h (some a) v = some (sR h a f v) := by simp [pR, ck, k]
theorem ca_k {t n a x : Nat} {h : AH} (k : hk h a = some (t, n)) (hx : x < n) (hn : n < 10000) : ca t h (some a) (nI x) = some (a, x) := by
  unfold ca
  simp only [k]
  have h1 : ¬ nI x < 0 := nI_pos (by omega)
  have h2 : (nI x).toNatClampNeg = x := nI_clamp (by omega)
  have h3 : ¬ (nI x < 0 ∨ n ≤ (nI x).toNatClampNeg) := by
    rw [h2]
    intro q
    rcases q with q | q
    · exact h1 q
    · omega
  rw [if_pos ⟨trivial, h3⟩, h2]
theorem lI_k {t n a x : Nat} {h : AH} (k : hk h a = some (t, n)) (hx : x < n) (hn : n < 10000) : lI t h (some a) (nI x) = some (hI h a x) := by simp [lI, ca_k k hx hn]
theorem lJ_k {t n a x : Nat} {h : AH} (k : hk h a = some (t, n)) (hx : x < n) (hn : n < 10000) : lJ t h (some a) (nI x) = some (hJ h a x) := by simp [lJ, ca_k k hx hn]
theorem lR_k {t n a x : Nat} {h : AH} (k : hk h a = some (t, n)) (hx : x < n) (hn : n < 10000) : lR t h (some a) (nI x) = some (hR h a x) := by simp [lR, ca_k k hx hn]
theorem stI_k {t n a x : Nat} {h : AH} (k : hk h a = some (t, n)) (hx : x < n) (hn : n < 10000) (v : Int32) : stI t h (some a) (nI x) v = some (sI h a x v) := by simp [stI, ca_k k hx hn]
theorem stJ_k {t n a x : Nat} {h : AH} (k : hk h a = some (t, n)) (hx : x < n) (hn : n < 10000) (v : Int64) : stJ t h (some a) (nI x) v = some (sJ h a x v) := by simp [stJ, ca_k k hx hn]
theorem stZ_k {t n a x : Nat} {h : AH} (k : hk h a = some (t, n)) (hx : x < n) (hn : n < 10000) (b : Bool) : stZ t h (some a) (nI x) (b2i b) = some (sI h a x (b2i b)) := by
  unfold stZ
  rw [if_pos (by cases b <;> simp [b2i]), ca_k k hx hn]
  rfl
theorem stR_n {t n a x ci : Nat} {h : AH} (k : hk h a = some (t, n)) (hx : x < n) (hn : n < 10000) : stR t ci h (some a) (nI x) none = some (sR h a x none) := by simp [stR, ca_k k hx hn]
theorem stR_s {t n a x ci b : Nat} {h : AH} (k : hk h a = some (t, n)) (hx : x < n) (hn : n < 10000) (kb : hk h b = some (ci, 0)) : stR t ci h (some a) (nI x) (some b) = some (sR h a x (some b)) := by simp [stR, ca_k k hx hn, kb]
theorem al_k {t n a : Nat} {h : AH} (k : hk h a = some (t, n)) (ht : 10 ≤ t ∧ t < 16) : al h (some a) = some (nI n) := by simp [al, k, ht]
/-- the cells that never change their place: the house, its register, its room for one answer -/
def cty (p : Nat) : Nat × Nat := match p with
  | 0 => (7, 0)
  | 1 => (14, 10)
  | 2 => (4, 0)
  | 3 => (13, 400)
  | 4 => (5, 0)
  | 5 => (13, 30)
  | 6 => (2, 0)
  | 7 => (5, 0)
  | 8 => (13, 30)
  | 9 => (6, 0)
  | 10 => (12, 400)
  | 11 => (6, 0)
  | 12 => (12, 400)
  | _ => (12, 400)
def fx (p k : Nat) : Option Nat := match p, k with
  | 0, 0 => some 1
  | 0, 1 => some 2
  | 0, 2 => some 4
  | 0, 3 => some 6
  | 2, 0 => some 3
  | 4, 0 => some 5
  | 6, 0 => some 7
  | 6, 1 => some 9
  | 6, 2 => some 11
  | 6, 3 => some 13
  | 7, 0 => some 8
  | 9, 0 => some 10
  | 11, 0 => some 12
  | _, _ => none
def BOK (c : Nat) (h : AH) : Prop := (∀ p, p < 14 → hk h (c + p) = some (cty p)) ∧ ∀ p k o, fx p k = some o → hR h (c + p) k = some (c + o)
/-- what the room for one answer holds -/
abbrev TM : Type := (Nat → Nat → Int32) × (Nat → Nat → Option Nat)
def TI (T : TM) (p k : Nat) (v : Int32) : TM := (u2 T.1 p k v, T.2)
def TR (T : TM) (p k : Nat) (v : Option Nat) : TM := (T.1, u2 T.2 p k v)
theorem TI1 (T : TM) (p k : Nat) (v : Int32) (q j : Nat) : (TI T p k v).1 q j = if q = p ∧ j = k then v else T.1 q j := rfl
theorem TI2 (T : TM) (p k : Nat) (v : Int32) : (TI T p k v).2 = T.2 := rfl
theorem TR1 (T : TM) (p k : Nat) (v : Option Nat) : (TR T p k v).1 = T.1 := rfl
theorem TR2 (T : TM) (p k : Nat) (v : Option Nat) (q j : Nat) : (TR T p k v).2 q j = if q = p ∧ j = k then v else T.2 q j := rfl
def sfx (c : Nat) (T : TM) (p k : Nat) : Option Nat := match fx p k with
  | some o => some (c + o)
  | none => T.2 p k
def pS (c : Nat) (T : TM) (h : AH) : AH := (h.1, h.2.1, fun a k => if c + 4 ≤ a ∧ a < c + 14 then T.1 (a - c) k else hI h a k, h.2.2.2.1, fun a k => if c + 4 ≤ a ∧ a < c + 14 then sfx c T (a - c) k else hR h a k)
theorem hk_pS (c : Nat) (T : TM) (h : AH) : hk (pS c T h) = hk h := rfl
theorem hz_pS (c : Nat) (T : TM) (h : AH) : hz (pS c T h) = hz h := rfl
theorem hJ_pS (c : Nat) (T : TM) (h : AH) : hJ (pS c T h) = hJ h := rfl
theorem hI_pS (c : Nat) (T : TM) (h : AH) (a k : Nat) : hI (pS c T h) a k = if c + 4 ≤ a ∧ a < c + 14 then T.1 (a - c) k else hI h a k := rfl
theorem hR_pS (c : Nat) (T : TM) (h : AH) (a k : Nat) : hR (pS c T h) a k = if c + 4 ≤ a ∧ a < c + 14 then sfx c T (a - c) k else hR h a k := rfl
theorem hI_pSo (c : Nat) (T : TM) (h : AH) {a : Nat} (ha : a < c + 4 ∨ c + 14 ≤ a) (k : Nat) : hI (pS c T h) a k = hI h a k := by rw [hI_pS, if_neg (by omega)]
theorem hR_pSo (c : Nat) (T : TM) (h : AH) {a : Nat} (ha : a < c + 4 ∨ c + 14 ≤ a) (k : Nat) : hR (pS c T h) a k = hR h a k := by rw [hR_pS, if_neg (by omega)]
theorem hI_pSi (c : Nat) (T : TM) (h : AH) {p : Nat} (h1 : 4 ≤ p) (h2 : p < 14) (k : Nat) : hI (pS c T h) (c + p) k = T.1 p k := by rw [hI_pS, if_pos (by omega), Nat.add_sub_cancel_left]
theorem hR_pSi (c : Nat) (T : TM) (h : AH) {p : Nat} (h1 : 4 ≤ p) (h2 : p < 14) (k : Nat) : hR (pS c T h) (c + p) k = sfx c T p k := by rw [hR_pS, if_pos (by omega), Nat.add_sub_cancel_left]
theorem sI_pS (c : Nat) (T : TM) (h : AH) (p k : Nat) (v : Int32) (h1 : 4 ≤ p) (h2 : p < 14) : sI (pS c T h) (c + p) k v = pS c (TI T p k v) h := by
  unfold sI pS TI sfx
  refine Prod.ext rfl (Prod.ext rfl (Prod.ext ?_ (Prod.ext rfl rfl)))
  funext a j
  simp only [u2]
  by_cases q : a = c + p ∧ j = k
  · rw [if_pos q, q.1, if_pos (by omega), if_pos ⟨by omega, q.2⟩]
  · rw [if_neg q]
    by_cases q2 : c + 4 ≤ a ∧ a < c + 14
    · rw [if_pos q2, if_pos q2, if_neg (by omega)]
    · rw [if_neg q2, if_neg q2]
theorem sR_pS (c : Nat) (T : TM) (h : AH) (p k : Nat) (v : Option Nat) (h1 : 4 ≤ p) (h2 : p < 14) (hf : fx p k = none) : sR (pS c T h) (c + p) k v = pS c (TR T p k v) h := by
  unfold sR pS TR
  refine Prod.ext rfl (Prod.ext rfl (Prod.ext rfl (Prod.ext rfl ?_)))
  funext a j
  simp only [u2, sfx]
  by_cases q : a = c + p ∧ j = k
  · have e : a - c = p := by omega
    rw [if_pos q, q.1, q.2, if_pos (by omega), Nat.add_sub_cancel_left, hf]
    simp
  · rw [if_neg q]
    by_cases q2 : c + 4 ≤ a ∧ a < c + 14
    · rw [if_pos q2, if_pos q2, if_neg (by omega)]
    · rw [if_neg q2, if_neg q2]
theorem pS_pS (c : Nat) (T T' : TM) (h : AH) : pS c T (pS c T' h) = pS c T h := by
  refine Prod.ext rfl (Prod.ext rfl (Prod.ext ?_ (Prod.ext rfl ?_)))
  · funext a k
    show (if c + 4 ≤ a ∧ a < c + 14 then T.1 (a - c) k else hI (pS c T' h) a k) = if c + 4 ≤ a ∧ a < c + 14 then T.1 (a - c) k else hI h a k
    by_cases q : c + 4 ≤ a ∧ a < c + 14
    · rw [if_pos q, if_pos q]
    · rw [if_neg q, if_neg q, hI_pS, if_neg q]
  · funext a k
    show (if c + 4 ≤ a ∧ a < c + 14 then sfx c T (a - c) k else hR (pS c T' h) a k) = if c + 4 ≤ a ∧ a < c + 14 then sfx c T (a - c) k else hR h a k
    by_cases q : c + 4 ≤ a ∧ a < c + 14
    · rw [if_pos q, if_pos q]
    · rw [if_neg q, if_neg q, hR_pS, if_neg q]
theorem pS_self {c : Nat} {h : AH} (B : BOK c h) : pS c (fun p k => hI h (c + p) k, fun p k => hR h (c + p) k) h = h := by
  refine Prod.ext rfl (Prod.ext rfl (Prod.ext ?_ (Prod.ext rfl ?_)))
  · funext a k
    show (if c + 4 ≤ a ∧ a < c + 14 then hI h (c + (a - c)) k else hI h a k) = hI h a k
    by_cases q : c + 4 ≤ a ∧ a < c + 14
    · rw [if_pos q, Nat.add_sub_cancel' (by omega)]
    · rw [if_neg q]
  · funext a k
    show (if c + 4 ≤ a ∧ a < c + 14 then sfx c _ (a - c) k else hR h a k) = hR h a k
    by_cases q : c + 4 ≤ a ∧ a < c + 14
    · rw [if_pos q]
      unfold sfx
      have e : c + (a - c) = a := Nat.add_sub_cancel' (by omega)
      cases f : fx (a - c) k with
      | none => simp only; rw [e]
      | some o => simp only; rw [← B.2 _ _ _ f, e]
    · rw [if_neg q]
theorem BOK_pS {c : Nat} {T : TM} {h : AH} (B : BOK c h) : BOK c (pS c T h) := by
  refine ⟨B.1, fun p k o f => ?_⟩
  rw [hR_pS]
  by_cases q : c + 4 ≤ c + p ∧ c + p < c + 14
  · rw [if_pos q, Nat.add_sub_cancel_left]
    simp [sfx, f]
  · rw [if_neg q]
    exact B.2 p k o f
theorem kB0 {c : Nat} {h : AH} (B : BOK c h) : hk h (c) = some (7, 0) := B.1 0 (by decide)
theorem kB1 {c : Nat} {h : AH} (B : BOK c h) : hk h (c + 1) = some (14, 10) := B.1 1 (by decide)
theorem kB2 {c : Nat} {h : AH} (B : BOK c h) : hk h (c + 2) = some (4, 0) := B.1 2 (by decide)
theorem kB3 {c : Nat} {h : AH} (B : BOK c h) : hk h (c + 3) = some (13, 400) := B.1 3 (by decide)
theorem kB4 {c : Nat} {h : AH} (B : BOK c h) : hk h (c + 4) = some (5, 0) := B.1 4 (by decide)
theorem kB5 {c : Nat} {h : AH} (B : BOK c h) : hk h (c + 5) = some (13, 30) := B.1 5 (by decide)
theorem kB6 {c : Nat} {h : AH} (B : BOK c h) : hk h (c + 6) = some (2, 0) := B.1 6 (by decide)
theorem kB7 {c : Nat} {h : AH} (B : BOK c h) : hk h (c + 7) = some (5, 0) := B.1 7 (by decide)
theorem kB8 {c : Nat} {h : AH} (B : BOK c h) : hk h (c + 8) = some (13, 30) := B.1 8 (by decide)
theorem kB9 {c : Nat} {h : AH} (B : BOK c h) : hk h (c + 9) = some (6, 0) := B.1 9 (by decide)
theorem kB10 {c : Nat} {h : AH} (B : BOK c h) : hk h (c + 10) = some (12, 400) := B.1 10 (by decide)
theorem kB11 {c : Nat} {h : AH} (B : BOK c h) : hk h (c + 11) = some (6, 0) := B.1 11 (by decide)
theorem kB12 {c : Nat} {h : AH} (B : BOK c h) : hk h (c + 12) = some (12, 400) := B.1 12 (by decide)
theorem kB13 {c : Nat} {h : AH} (B : BOK c h) : hk h (c + 13) = some (12, 400) := B.1 13 (by decide)
theorem sgI4 {c : Nat} {h : AH} (B : BOK c h) (T : TM) (f : Nat) : gI 5 f (pS c T h) (some (c + 4)) = some (T.1 4 f) := by rw [gI_k (kB4 (BOK_pS (T := T) B)), hI_pSi c T h (by decide) (by decide)]
theorem spI4 {c : Nat} {h : AH} (B : BOK c h) (T : TM) (f : Nat) (v : Int32) : pI 5 f (pS c T h) (some (c + 4)) v = some (pS c (TI T 4 f v) h) := by rw [pI_k (kB4 (BOK_pS (T := T) B)), sI_pS c T h _ _ _ (by decide) (by decide)]
theorem sgR4 {c : Nat} {h : AH} (B : BOK c h) (T : TM) (f : Nat) : gR 5 f (pS c T h) (some (c + 4)) = some (sfx c T 4 f) := by rw [gR_k (kB4 (BOK_pS (T := T) B)), hR_pSi c T h (by decide) (by decide)]
theorem spR4 {c : Nat} {h : AH} (B : BOK c h) (T : TM) (f : Nat) (v : Option Nat) (hf : fx 4 f = none) : pR 5 f (pS c T h) (some (c + 4)) v = some (pS c (TR T 4 f v) h) := by rw [pR_k (kB4 (BOK_pS (T := T) B)), sR_pS c T h _ _ _ (by decide) (by decide) hf]
theorem sck4 {c : Nat} {h : AH} (B : BOK c h) (T : TM) : ck 5 (pS c T h) (some (c + 4)) = some (c + 4) := ck_k (kB4 (BOK_pS (T := T) B))
theorem sgI6 {c : Nat} {h : AH} (B : BOK c h) (T : TM) (f : Nat) : gI 2 f (pS c T h) (some (c + 6)) = some (T.1 6 f) := by rw [gI_k (kB6 (BOK_pS (T := T) B)), hI_pSi c T h (by decide) (by decide)]
theorem spI6 {c : Nat} {h : AH} (B : BOK c h) (T : TM) (f : Nat) (v : Int32) : pI 2 f (pS c T h) (some (c + 6)) v = some (pS c (TI T 6 f v) h) := by rw [pI_k (kB6 (BOK_pS (T := T) B)), sI_pS c T h _ _ _ (by decide) (by decide)]
theorem sgR6 {c : Nat} {h : AH} (B : BOK c h) (T : TM) (f : Nat) : gR 2 f (pS c T h) (some (c + 6)) = some (sfx c T 6 f) := by rw [gR_k (kB6 (BOK_pS (T := T) B)), hR_pSi c T h (by decide) (by decide)]
theorem spR6 {c : Nat} {h : AH} (B : BOK c h) (T : TM) (f : Nat) (v : Option Nat) (hf : fx 6 f = none) : pR 2 f (pS c T h) (some (c + 6)) v = some (pS c (TR T 6 f v) h) := by rw [pR_k (kB6 (BOK_pS (T := T) B)), sR_pS c T h _ _ _ (by decide) (by decide) hf]
theorem sck6 {c : Nat} {h : AH} (B : BOK c h) (T : TM) : ck 2 (pS c T h) (some (c + 6)) = some (c + 6) := ck_k (kB6 (BOK_pS (T := T) B))
theorem sgI7 {c : Nat} {h : AH} (B : BOK c h) (T : TM) (f : Nat) : gI 5 f (pS c T h) (some (c + 7)) = some (T.1 7 f) := by rw [gI_k (kB7 (BOK_pS (T := T) B)), hI_pSi c T h (by decide) (by decide)]
theorem spI7 {c : Nat} {h : AH} (B : BOK c h) (T : TM) (f : Nat) (v : Int32) : pI 5 f (pS c T h) (some (c + 7)) v = some (pS c (TI T 7 f v) h) := by rw [pI_k (kB7 (BOK_pS (T := T) B)), sI_pS c T h _ _ _ (by decide) (by decide)]
theorem sgR7 {c : Nat} {h : AH} (B : BOK c h) (T : TM) (f : Nat) : gR 5 f (pS c T h) (some (c + 7)) = some (sfx c T 7 f) := by rw [gR_k (kB7 (BOK_pS (T := T) B)), hR_pSi c T h (by decide) (by decide)]
theorem spR7 {c : Nat} {h : AH} (B : BOK c h) (T : TM) (f : Nat) (v : Option Nat) (hf : fx 7 f = none) : pR 5 f (pS c T h) (some (c + 7)) v = some (pS c (TR T 7 f v) h) := by rw [pR_k (kB7 (BOK_pS (T := T) B)), sR_pS c T h _ _ _ (by decide) (by decide) hf]
theorem sck7 {c : Nat} {h : AH} (B : BOK c h) (T : TM) : ck 5 (pS c T h) (some (c + 7)) = some (c + 7) := ck_k (kB7 (BOK_pS (T := T) B))
theorem sgI9 {c : Nat} {h : AH} (B : BOK c h) (T : TM) (f : Nat) : gI 6 f (pS c T h) (some (c + 9)) = some (T.1 9 f) := by rw [gI_k (kB9 (BOK_pS (T := T) B)), hI_pSi c T h (by decide) (by decide)]
theorem spI9 {c : Nat} {h : AH} (B : BOK c h) (T : TM) (f : Nat) (v : Int32) : pI 6 f (pS c T h) (some (c + 9)) v = some (pS c (TI T 9 f v) h) := by rw [pI_k (kB9 (BOK_pS (T := T) B)), sI_pS c T h _ _ _ (by decide) (by decide)]
theorem sgR9 {c : Nat} {h : AH} (B : BOK c h) (T : TM) (f : Nat) : gR 6 f (pS c T h) (some (c + 9)) = some (sfx c T 9 f) := by rw [gR_k (kB9 (BOK_pS (T := T) B)), hR_pSi c T h (by decide) (by decide)]
theorem spR9 {c : Nat} {h : AH} (B : BOK c h) (T : TM) (f : Nat) (v : Option Nat) (hf : fx 9 f = none) : pR 6 f (pS c T h) (some (c + 9)) v = some (pS c (TR T 9 f v) h) := by rw [pR_k (kB9 (BOK_pS (T := T) B)), sR_pS c T h _ _ _ (by decide) (by decide) hf]
theorem sck9 {c : Nat} {h : AH} (B : BOK c h) (T : TM) : ck 6 (pS c T h) (some (c + 9)) = some (c + 9) := ck_k (kB9 (BOK_pS (T := T) B))
theorem sgI11 {c : Nat} {h : AH} (B : BOK c h) (T : TM) (f : Nat) : gI 6 f (pS c T h) (some (c + 11)) = some (T.1 11 f) := by rw [gI_k (kB11 (BOK_pS (T := T) B)), hI_pSi c T h (by decide) (by decide)]
theorem spI11 {c : Nat} {h : AH} (B : BOK c h) (T : TM) (f : Nat) (v : Int32) : pI 6 f (pS c T h) (some (c + 11)) v = some (pS c (TI T 11 f v) h) := by rw [pI_k (kB11 (BOK_pS (T := T) B)), sI_pS c T h _ _ _ (by decide) (by decide)]
theorem sgR11 {c : Nat} {h : AH} (B : BOK c h) (T : TM) (f : Nat) : gR 6 f (pS c T h) (some (c + 11)) = some (sfx c T 11 f) := by rw [gR_k (kB11 (BOK_pS (T := T) B)), hR_pSi c T h (by decide) (by decide)]
theorem spR11 {c : Nat} {h : AH} (B : BOK c h) (T : TM) (f : Nat) (v : Option Nat) (hf : fx 11 f = none) : pR 6 f (pS c T h) (some (c + 11)) v = some (pS c (TR T 11 f v) h) := by rw [pR_k (kB11 (BOK_pS (T := T) B)), sR_pS c T h _ _ _ (by decide) (by decide) hf]
theorem sck11 {c : Nat} {h : AH} (B : BOK c h) (T : TM) : ck 6 (pS c T h) (some (c + 11)) = some (c + 11) := ck_k (kB11 (BOK_pS (T := T) B))
theorem sal5 {c : Nat} {h : AH} (B : BOK c h) (T : TM) : al (pS c T h) (some (c + 5)) = some (nI 30) := al_k (kB5 (BOK_pS (T := T) B)) (by decide)
theorem slR5 {c : Nat} {h : AH} (B : BOK c h) (T : TM) {x : Nat} (hx : x < 30) : lR 13 (pS c T h) (some (c + 5)) (nI x) = some (T.2 5 x) := by
  rw [lR_k (kB5 (BOK_pS (T := T) B)) hx (by decide), hR_pSi c T h (by decide) (by decide)]
  rfl
theorem sstn5 {c : Nat} {h : AH} (B : BOK c h) (T : TM) {x : Nat} (hx : x < 30) : stR 13 3 (pS c T h) (some (c + 5)) (nI x) none = some (pS c (TR T 5 x none) h) := by rw [stR_n (kB5 (BOK_pS (T := T) B)) hx (by decide), sR_pS c T h _ _ _ (by decide) (by decide) rfl]
theorem ssts5 {c : Nat} {h : AH} (B : BOK c h) (T : TM) {x b : Nat} (hx : x < 30) (kb : hk h b = some (3, 0)) : stR 13 3 (pS c T h) (some (c + 5)) (nI x) (some b) = some (pS c (TR T 5 x (some b)) h) := by rw [stR_s (kB5 (BOK_pS (T := T) B)) hx (by decide) kb, sR_pS c T h _ _ _ (by decide) (by decide) rfl]
theorem sal8 {c : Nat} {h : AH} (B : BOK c h) (T : TM) : al (pS c T h) (some (c + 8)) = some (nI 30) := al_k (kB8 (BOK_pS (T := T) B)) (by decide)
theorem slR8 {c : Nat} {h : AH} (B : BOK c h) (T : TM) {x : Nat} (hx : x < 30) : lR 13 (pS c T h) (some (c + 8)) (nI x) = some (T.2 8 x) := by
  rw [lR_k (kB8 (BOK_pS (T := T) B)) hx (by decide), hR_pSi c T h (by decide) (by decide)]
  rfl
theorem sstn8 {c : Nat} {h : AH} (B : BOK c h) (T : TM) {x : Nat} (hx : x < 30) : stR 13 3 (pS c T h) (some (c + 8)) (nI x) none = some (pS c (TR T 8 x none) h) := by rw [stR_n (kB8 (BOK_pS (T := T) B)) hx (by decide), sR_pS c T h _ _ _ (by decide) (by decide) rfl]
theorem ssts8 {c : Nat} {h : AH} (B : BOK c h) (T : TM) {x b : Nat} (hx : x < 30) (kb : hk h b = some (3, 0)) : stR 13 3 (pS c T h) (some (c + 8)) (nI x) (some b) = some (pS c (TR T 8 x (some b)) h) := by rw [stR_s (kB8 (BOK_pS (T := T) B)) hx (by decide) kb, sR_pS c T h _ _ _ (by decide) (by decide) rfl]
theorem sal10 {c : Nat} {h : AH} (B : BOK c h) (T : TM) : al (pS c T h) (some (c + 10)) = some (nI 400) := al_k (kB10 (BOK_pS (T := T) B)) (by decide)
theorem slI10 {c : Nat} {h : AH} (B : BOK c h) (T : TM) {x : Nat} (hx : x < 400) : lI 12 (pS c T h) (some (c + 10)) (nI x) = some (T.1 10 x) := by rw [lI_k (kB10 (BOK_pS (T := T) B)) hx (by decide), hI_pSi c T h (by decide) (by decide)]
theorem sst10 {c : Nat} {h : AH} (B : BOK c h) (T : TM) {x : Nat} (hx : x < 400) (b : Bool) : stZ 12 (pS c T h) (some (c + 10)) (nI x) (b2i b) = some (pS c (TI T 10 x (b2i b)) h) := by rw [stZ_k (kB10 (BOK_pS (T := T) B)) hx (by decide), sI_pS c T h _ _ _ (by decide) (by decide)]
theorem sal12 {c : Nat} {h : AH} (B : BOK c h) (T : TM) : al (pS c T h) (some (c + 12)) = some (nI 400) := al_k (kB12 (BOK_pS (T := T) B)) (by decide)
theorem slI12 {c : Nat} {h : AH} (B : BOK c h) (T : TM) {x : Nat} (hx : x < 400) : lI 12 (pS c T h) (some (c + 12)) (nI x) = some (T.1 12 x) := by rw [lI_k (kB12 (BOK_pS (T := T) B)) hx (by decide), hI_pSi c T h (by decide) (by decide)]
theorem sst12 {c : Nat} {h : AH} (B : BOK c h) (T : TM) {x : Nat} (hx : x < 400) (b : Bool) : stZ 12 (pS c T h) (some (c + 12)) (nI x) (b2i b) = some (pS c (TI T 12 x (b2i b)) h) := by rw [stZ_k (kB12 (BOK_pS (T := T) B)) hx (by decide), sI_pS c T h _ _ _ (by decide) (by decide)]
theorem sal13 {c : Nat} {h : AH} (B : BOK c h) (T : TM) : al (pS c T h) (some (c + 13)) = some (nI 400) := al_k (kB13 (BOK_pS (T := T) B)) (by decide)
theorem slI13 {c : Nat} {h : AH} (B : BOK c h) (T : TM) {x : Nat} (hx : x < 400) : lI 12 (pS c T h) (some (c + 13)) (nI x) = some (T.1 13 x) := by rw [lI_k (kB13 (BOK_pS (T := T) B)) hx (by decide), hI_pSi c T h (by decide) (by decide)]
theorem sst13 {c : Nat} {h : AH} (B : BOK c h) (T : TM) {x : Nat} (hx : x < 400) (b : Bool) : stZ 12 (pS c T h) (some (c + 13)) (nI x) (b2i b) = some (pS c (TI T 13 x (b2i b)) h) := by rw [stZ_k (kB13 (BOK_pS (T := T) B)) hx (by decide), sI_pS c T h _ _ _ (by decide) (by decide)]
/-- a reference from a number or NONE -/
def ora (f : Nat → Nat) (v : Int32) : Option Nat := if v = -1 then none else some (f v.toNatClampNeg)
theorem ora_m1 (f : Nat → Nat) : ora f (-1) = none := rfl
theorem ora_nI (f : Nat → Nat) {x : Nat} (hx : x < 1000) : ora f (nI x) = some (f x) := by
  unfold ora
  rw [if_neg (nI_m1 (by omega)), nIt hx]
def POK (L : LM) (n : Nat) (A : Nat → Nat → Nat) (h : AH) (x : Nat) : Prop := hk h (A 0 x) = some (3, 0) ∧ (hI h (A 0 x) 0 = nI x ∧ hI h (A 0 x) 1 = L.1 6 x ∧ hI h (A 0 x) 2 = L.1 7 x ∧ hI h (A 0 x) 4 = L.1 9 x ∧ hI h (A 0 x) 5 = L.1 10 x ∧ hI h (A 0 x) 8 = L.1 13 x ∧ hI h (A 0 x) 9 = L.1 14 x ∧ hI h (A 0 x) 10 = L.1 15 x) ∧ hJ h (A 0 x) 11 = L.2 16 x ∧ hR h (A 0 x) 3 = ora (A 1) (L.1 8 x) ∧ hR h (A 0 x) 6 = ora (A 0) (L.1 11 x) ∧ hR h (A 0 x) 7 = ora (A 0) (L.1 12 x) ∧ hR h (A 0 x) 12 = (endO L n x).map (A 0) ∧ hR h (A 0 x) 13 = (latO L n x).map (A 0) ∧ hR h (A 0 x) 14 = (earO L x).map (A 0)
/-- an ANNEX -/
def XOK (L : LM) (A : Nat → Nat → Nat) (h : AH) (x : Nat) : Prop := hk h (A 4 x) = some (1, 0) ∧ hI h (A 4 x) 0 = L.1 19 x ∧ ((L.1 20 x = -1 ∧ hR h (A 4 x) 1 = none) ∨ ∃ s, s ≤ 100 ∧ L.1 20 x = nI s ∧ hR h (A 4 x) 1 = some (A 5 x) ∧ hk h (A 5 x) = some (11, s) ∧ ∀ i, i < s → hJ h (A 5 x) i = L.2 21 (100 * x + i))
/-- an AGREEMENT -/
def GOK (L : LM) (A : Nat → Nat → Nat) (h : AH) (g : Nat) : Prop := hk h (A 1 g) = some (0, 0) ∧ (hI h (A 1 g) 0 = nI g ∧ hI h (A 1 g) 1 = L.1 2 g ∧ hI h (A 1 g) 2 = L.1 3 g ∧ hI h (A 1 g) 3 = L.1 4 g ∧ hI h (A 1 g) 6 = L.1 18 g) ∧ (hR h (A 1 g) 4 = some (A 2 g) ∧ hR h (A 1 g) 5 = some (A 3 g)) ∧ (∃ j, j ≤ 20 ∧ L.1 1 g = nI j ∧ hk h (A 2 g) = some (10, j) ∧ ∀ a, a < j → hI h (A 2 g) a = L.1 5 (20 * g + a)) ∧ hk h (A 3 g) = some (15, 8) ∧ ∃ m, m ≤ 8 ∧ L.1 18 g = nI m ∧ ∀ x, x < m → hR h (A 3 g) x = some (A 4 (8 * g + x)) ∧ XOK L A h (8 * g + x)
/-- which numbers are in use: PAPERS, AGREEMENTS (with their wordings and rows of ANNEXES), ANNEXES (with their numbers) -/
def vld (L : LM) (n ng i x : Nat) : Prop := (i = 0 ∧ x < n) ∨ ((i = 1 ∨ i = 2 ∨ i = 3) ∧ x < ng) ∨ (i = 4 ∧ ∃ g y, g < ng ∧ x = 8 * g + y ∧ y < (L.1 18 g).toNatClampNeg) ∨ (i = 5 ∧ (∃ g y, g < ng ∧ x = 8 * g + y ∧ y < (L.1 18 g).toNatClampNeg) ∧ ¬ L.1 20 x = -1)
def ADK (c : Nat) (L : LM) (n ng : Nat) (A : Nat → Nat → Nat) (h : AH) : Prop := (∀ i x, vld L n ng i x → c + 37 ≤ A i x ∧ A i x < hz h) ∧ ∀ i x y, vld L n ng i x → vld L n ng i y → A i x = A i y → x = y
def COK (c : Nat) (L : LM) (n np ng : Nat) (A : Nat → Nat → Nat) (h : AH) : Prop := BOK c h ∧ (hI h c 4 = nI ng ∧ hI h c 5 = nI np ∧ hI h c 6 = L.1 0 0 ∧ hI h (c + 2) 1 = nI n) ∧ (∀ x, x < n → hR h (c + 3) x = some (A 0 x) ∧ POK L n A h x) ∧ (∀ g, g < ng → hR h (c + 1) g = some (A 1 g) ∧ GOK L A h g) ∧ ADK c L n ng A h
section CK
variable {c : Nat} {L : LM} {n np ng : Nat} {A : Nat → Nat → Nat} {h : AH}
theorem COK.inj (C : COK c L n np ng A h) {x y : Nat} (hx : x < n) (hy : y < n) (e : A 0 x = A 0 y) : x = y := C.2.2.2.2.2 0 x y (Or.inl ⟨rfl, hx⟩) (Or.inl ⟨rfl, hy⟩) e
theorem COK.inj1 (C : COK c L n np ng A h) {x y : Nat} (hx : x < ng) (hy : y < ng) (e : A 1 x = A 1 y) : x = y := C.2.2.2.2.2 1 x y (Or.inr (Or.inl ⟨Or.inl rfl, hx⟩)) (Or.inr (Or.inl ⟨Or.inl rfl, hy⟩)) e
theorem COK.lo (C : COK c L n np ng A h) {x : Nat} (hx : x < n) : c + 37 ≤ A 0 x := (C.2.2.2.2.1 0 x (Or.inl ⟨rfl, hx⟩)).1
theorem COK.kp (C : COK c L n np ng A h) {x : Nat} (hx : x < n) : hk h (A 0 x) = some (3, 0) := (C.2.2.1 x hx).2.1
theorem COK.kg (C : COK c L n np ng A h) {g : Nat} (hg : g < ng) : hk h (A 1 g) = some (0, 0) := (C.2.2.2.1 g hg).2.1
theorem cckP (C : COK c L n np ng A h) {x : Nat} (hx : x < n) : ck 3 h (some (A 0 x)) = some (A 0 x) := ck_k (C.kp hx)
theorem cP0 (C : COK c L n np ng A h) {x : Nat} (hx : x < n) : gI 3 0 h (some (A 0 x)) = some (nI x) := by rw [gI_k (C.kp hx), (C.2.2.1 x hx).2.2.1.1]
theorem cP1 (C : COK c L n np ng A h) {x : Nat} (hx : x < n) : gI 3 1 h (some (A 0 x)) = some (L.1 6 x) := by rw [gI_k (C.kp hx), (C.2.2.1 x hx).2.2.1.2.1]
theorem cP2 (C : COK c L n np ng A h) {x : Nat} (hx : x < n) : gI 3 2 h (some (A 0 x)) = some (L.1 7 x) := by rw [gI_k (C.kp hx), (C.2.2.1 x hx).2.2.1.2.2.1]
theorem cP4 (C : COK c L n np ng A h) {x : Nat} (hx : x < n) : gI 3 4 h (some (A 0 x)) = some (L.1 9 x) := by rw [gI_k (C.kp hx), (C.2.2.1 x hx).2.2.1.2.2.2.1]
theorem cP5 (C : COK c L n np ng A h) {x : Nat} (hx : x < n) : gI 3 5 h (some (A 0 x)) = some (L.1 10 x) := by rw [gI_k (C.kp hx), (C.2.2.1 x hx).2.2.1.2.2.2.2.1]
theorem cP8 (C : COK c L n np ng A h) {x : Nat} (hx : x < n) : gI 3 8 h (some (A 0 x)) = some (L.1 13 x) := by rw [gI_k (C.kp hx), (C.2.2.1 x hx).2.2.1.2.2.2.2.2.1]
theorem cP9 (C : COK c L n np ng A h) {x : Nat} (hx : x < n) : gI 3 9 h (some (A 0 x)) = some (L.1 14 x) := by rw [gI_k (C.kp hx), (C.2.2.1 x hx).2.2.1.2.2.2.2.2.2.1]
theorem cP10 (C : COK c L n np ng A h) {x : Nat} (hx : x < n) : gI 3 10 h (some (A 0 x)) = some (L.1 15 x) := by rw [gI_k (C.kp hx), (C.2.2.1 x hx).2.2.1.2.2.2.2.2.2.2]
theorem cP11 (C : COK c L n np ng A h) {x : Nat} (hx : x < n) : gJ 3 11 h (some (A 0 x)) = some (L.2 16 x) := by rw [gJ_k (C.kp hx), (C.2.2.1 x hx).2.2.2.1]
theorem cP3 (C : COK c L n np ng A h) {x : Nat} (hx : x < n) : gR 3 3 h (some (A 0 x)) = some (ora (A 1) (L.1 8 x)) := by rw [gR_k (C.kp hx), (C.2.2.1 x hx).2.2.2.2.1]
theorem cP6 (C : COK c L n np ng A h) {x : Nat} (hx : x < n) : gR 3 6 h (some (A 0 x)) = some (ora (A 0) (L.1 11 x)) := by rw [gR_k (C.kp hx), (C.2.2.1 x hx).2.2.2.2.2.1]
theorem cP7 (C : COK c L n np ng A h) {x : Nat} (hx : x < n) : gR 3 7 h (some (A 0 x)) = some (ora (A 0) (L.1 12 x)) := by rw [gR_k (C.kp hx), (C.2.2.1 x hx).2.2.2.2.2.2.1]
theorem cP12 (C : COK c L n np ng A h) {x : Nat} (hx : x < n) : gR 3 12 h (some (A 0 x)) = some ((endO L n x).map (A 0)) := by rw [gR_k (C.kp hx), (C.2.2.1 x hx).2.2.2.2.2.2.2.1]
theorem cP13 (C : COK c L n np ng A h) {x : Nat} (hx : x < n) : gR 3 13 h (some (A 0 x)) = some ((latO L n x).map (A 0)) := by rw [gR_k (C.kp hx), (C.2.2.1 x hx).2.2.2.2.2.2.2.2.1]
theorem cP14 (C : COK c L n np ng A h) {x : Nat} (hx : x < n) : gR 3 14 h (some (A 0 x)) = some ((earO L x).map (A 0)) := by rw [gR_k (C.kp hx), (C.2.2.1 x hx).2.2.2.2.2.2.2.2.2]
theorem cG0 (C : COK c L n np ng A h) {g : Nat} (hg : g < ng) : gI 0 0 h (some (A 1 g)) = some (nI g) := by rw [gI_k (C.kg hg), (C.2.2.2.1 g hg).2.2.1.1]
theorem cG1 (C : COK c L n np ng A h) {g : Nat} (hg : g < ng) : gI 0 1 h (some (A 1 g)) = some (L.1 2 g) := by rw [gI_k (C.kg hg), (C.2.2.2.1 g hg).2.2.1.2.1]
theorem cG2 (C : COK c L n np ng A h) {g : Nat} (hg : g < ng) : gI 0 2 h (some (A 1 g)) = some (L.1 3 g) := by rw [gI_k (C.kg hg), (C.2.2.2.1 g hg).2.2.1.2.2.1]
theorem cG3 (C : COK c L n np ng A h) {g : Nat} (hg : g < ng) : gI 0 3 h (some (A 1 g)) = some (L.1 4 g) := by rw [gI_k (C.kg hg), (C.2.2.2.1 g hg).2.2.1.2.2.2.1]
theorem cG6 (C : COK c L n np ng A h) {g : Nat} (hg : g < ng) : gI 0 6 h (some (A 1 g)) = some (L.1 18 g) := by rw [gI_k (C.kg hg), (C.2.2.2.1 g hg).2.2.1.2.2.2.2]
theorem cG4 (C : COK c L n np ng A h) {g : Nat} (hg : g < ng) : gR 0 4 h (some (A 1 g)) = some (some (A 2 g)) := by rw [gR_k (C.kg hg), (C.2.2.2.1 g hg).2.2.2.1.1]
theorem cG5 (C : COK c L n np ng A h) {g : Nat} (hg : g < ng) : gR 0 5 h (some (A 1 g)) = some (some (A 3 g)) := by rw [gR_k (C.kg hg), (C.2.2.2.1 g hg).2.2.2.1.2]
theorem cckG (C : COK c L n np ng A h) {g : Nat} (hg : g < ng) : ck 0 h (some (A 1 g)) = some (A 1 g) := ck_k (C.kg hg)
theorem cck7 (C : COK c L n np ng A h) : ck 7 h (some c) = some c := ck_k (kB0 C.1)
theorem cck4 (C : COK c L n np ng A h) : ck 4 h (some (c + 2)) = some (c + 2) := ck_k (kB2 C.1)
theorem cck5 (C : COK c L n np ng A h) : ck 5 h (some (c + 4)) = some (c + 4) := ck_k (kB4 C.1)
theorem cck2 (C : COK c L n np ng A h) : ck 2 h (some (c + 6)) = some (c + 6) := ck_k (kB6 C.1)
theorem cH4 (C : COK c L n np ng A h) : gI 7 4 h (some c) = some (nI ng) := by rw [gI_k (kB0 C.1), C.2.1.1]
theorem cH5 (C : COK c L n np ng A h) : gI 7 5 h (some c) = some (nI np) := by rw [gI_k (kB0 C.1), C.2.1.2.1]
theorem cH6 (C : COK c L n np ng A h) : gI 7 6 h (some c) = some (L.1 0 0) := by rw [gI_k (kB0 C.1), C.2.1.2.2.1]
theorem cH0 (C : COK c L n np ng A h) : gR 7 0 h (some c) = some (some (c + 1)) := by rw [gR_k (kB0 C.1)]; exact congrArg some (C.1.2 0 0 1 rfl)
theorem cH1 (C : COK c L n np ng A h) : gR 7 1 h (some c) = some (some (c + 2)) := by rw [gR_k (kB0 C.1)]; exact congrArg some (C.1.2 0 1 2 rfl)
theorem cH2 (C : COK c L n np ng A h) : gR 7 2 h (some c) = some (some (c + 4)) := by rw [gR_k (kB0 C.1)]; exact congrArg some (C.1.2 0 2 4 rfl)
theorem cH3 (C : COK c L n np ng A h) : gR 7 3 h (some c) = some (some (c + 6)) := by rw [gR_k (kB0 C.1)]; exact congrArg some (C.1.2 0 3 6 rfl)
theorem cR1 (C : COK c L n np ng A h) : gI 4 1 h (some (c + 2)) = some (nI n) := by rw [gI_k (kB2 C.1), C.2.1.2.2.2]
theorem cR0 (C : COK c L n np ng A h) : gR 4 0 h (some (c + 2)) = some (some (c + 3)) := by rw [gR_k (kB2 C.1), C.1.2 2 0 3 rfl]
theorem cal1 (C : COK c L n np ng A h) : al h (some (c + 1)) = some (nI 10) := al_k (kB1 C.1) (by decide)
theorem cal3 (C : COK c L n np ng A h) : al h (some (c + 3)) = some (nI 400) := al_k (kB3 C.1) (by decide)
theorem cl3 (C : COK c L n np ng A h) (hn : n ≤ 400) {x : Nat} (hx : x < n) : lR 13 h (some (c + 3)) (nI x) = some (some (A 0 x)) := by rw [lR_k (kB3 C.1) (by omega) (by decide), (C.2.2.1 x hx).1]
theorem cl1 (C : COK c L n np ng A h) (hn : ng ≤ 10) {g : Nat} (hg : g < ng) : lR 14 h (some (c + 1)) (nI g) = some (some (A 1 g)) := by rw [lR_k (kB1 C.1) (by omega) (by decide), (C.2.2.2.1 g hg).1]
/-- Register.at -/
theorem c_at (C : COK c L n np ng A h) (hn : n ≤ 400) {x : Nat} (hx : x < n) : f_X4_at (c + 2) (nI x) h = some (some (A 0 x)) := by
  unfold f_X4_at
  rw [if_neg (nI_pos (by omega))]
  simp only [cR1 C, cR0 C, cal3 C, cl3 C hn hx, Option.bind_some]
  rw [if_neg (nI_ge hx (by omega)), if_neg (nI_ge (by omega) (by omega))]
theorem c_atv (C : COK c L n np ng A h) (hn : n ≤ 400) (v : Int32) : f_X4_at (c + 2) v h = some (if inR v (nI n) = true then some (A 0 v.toNatClampNeg) else none) := by
  by_cases c1 : inR v (nI n) = true
  · obtain ⟨x, hx, rfl⟩ := inR_of (by omega) c1
    rw [c_at C hn hx, if_pos c1, nIt (by omega)]
  · rw [if_neg c1]
    unfold f_X4_at
    by_cases c2 : v < 0
    · rw [if_pos c2]
    · rw [if_neg c2]
      have c3 : nI n ≤ v := by
        rcases Classical.em (nI n ≤ v) with q | q
        · exact q
        · exact absurd (by simp [inR, c2, q]) c1
      simp only [cR1 C, Option.bind_some]
      rw [if_pos c3]
theorem c_isM (C : COK c L n np ng A h) {x : Nat} (hx : x < n) : f_X3_isMembership (A 0 x) h = some (isM L x) := by
  unfold f_X3_isMembership isM
  simp only [cP1 C hx, Option.bind_some]
  by_cases c1 : L.1 6 x = 1
  · simp [c1]
  by_cases c2 : L.1 6 x = 2
  · simp [c2]
  by_cases c3 : L.1 6 x = 8
  · simp [c3]
  simp [c1, c2, c3]
theorem c_st (C : COK c L n np ng A h) (F : WF L n np ng) {x : Nat} (hx : x < n) (d k : Int32) : f_X3_stands (A 0 x) d k h = some (stB L n x d k) := by
  unfold f_X3_stands
  rw [st_end F]
  simp only [cP4 C hx, cP5 C hx, cP12 C hx, Option.bind_some]
  by_cases c1 : k < L.1 9 x
  · simp [c1]
  by_cases c2 : L.1 10 x ≤ d
  · cases e : endO L n x with
    | none => simp [c1, c2]
    | some y =>
      have hy := (endO_some e).1
      simp only [Option.map_some, cP4 C hy, cP5 C hy, Option.bind_some]
      by_cases c3 : k < L.1 9 y
      · simp [c1, c2, c3]
      · by_cases c4 : L.1 10 y ≤ d
        · have : ¬ d < L.1 10 y := fun q => not_lt_le.mpr c4 q
          simp [c1, c2, c3, c4, this]
        · have : d < L.1 10 y := by
            rcases Classical.em (d < L.1 10 y) with q | q
            · exact q
            · exact absurd (not_lt_le.mp q) c4
          simp [c1, c2, c3, c4, this]
  · simp [c1, c2]
theorem ora_eq (C : COK c L n np ng A h) (hn : n ≤ 400) {v : Int32} (hv : v = -1 ∨ ∃ i, i < n ∧ v = nI i) {j : Nat} (hj : j < n) : some (A 0 j) = ora (A 0) v ↔ v = nI j := by
  rcases hv with rfl | ⟨i, hi, rfl⟩
  · rw [ora_m1]
    constructor
    · intro q; cases q
    · intro q; exact absurd q.symm (nI_m1 (by omega))
  · rw [ora_nI _ (by omega)]
    constructor
    · intro q
      have := C.inj hj hi (Option.some.inj q)
      rw [this]
    · intro q
      rw [nI_inj (by omega) (by omega) q]
theorem ora_none (C : COK c L n np ng A h) (hn : n ≤ 400) {v : Int32} (hv : v = -1 ∨ ∃ i, i < n ∧ v = nI i) : ora (A 0) v = none ↔ v = -1 := by
  rcases hv with rfl | ⟨i, hi, rfl⟩
  · simp [ora]
  · rw [ora_nI _ (by omega)]
    constructor
    · intro q; cases q
    · intro q; exact absurd q (nI_m1 (by omega))
theorem WF.ofv (F : WF L n np ng) {j : Nat} (hj : j < n) : L.1 12 j = -1 ∨ ∃ i, i < n ∧ L.1 12 j = nI i := by
  rcases F.of j hj with q | ⟨i, hi, e⟩
  · exact Or.inl q
  · exact Or.inr ⟨i, by omega, e⟩
theorem c_held_11 (C : COK c L n np ng A h) (F : WF L n np ng) (hn : n ≤ 400) {x : Nat} (hx : x < n) (k : Int32) : ∀ f j, j < n → j < f → f_X3_isHeldBy_11 f (A 0 x) k (some (A 0 j)) h = some (hld L n x k f j) := by
  intro f
  induction f with
  | zero => intro j h1 h2; omega
  | succ f ih =>
    intro j hj h2
    rw [f_X3_isHeldBy_11]
    unfold hld f_X3_isHeldBy_63
    simp only [cP7 C hx, cP1 C hj, cP10 C hj, cP5 C hj, cP6 C hj, cckP C hx, c_st C F hx, Option.bind_some, b2i_z, ora_eq C hn (F.ofv hx) hj]
    by_cases c1 : L.1 12 x = nI j
    · simp [c1]
    · by_cases c2 : L.1 6 j = 8
      · by_cases c3 : L.1 15 j = 0
        · simp [c1, c2, c3]
        · cases c4 : stB L n x (L.1 10 j - 1) k
          · simp [c1, c2, c3]
          · obtain ⟨i, hi, e⟩ := F.nm j hj (by simp [c2])
            simp [c1, c2, c3, e, nIt (show i < 1000 by omega), ora_nI _ (show i < 1000 by omega), ih i (by omega) (by omega)]
      · simp [c1, c2]
theorem c_held (C : COK c L n np ng A h) (F : WF L n np ng) (hn : n ≤ 400) {x m : Nat} (hx : x < n) (hm : m < n) (k : Int32) : f_X3_isHeldBy (A 0 x) (some (A 0 m)) k h = some (!decide (L.1 12 x = -1) && hlB L n x m k) := by
  unfold f_X3_isHeldBy hlB
  simp only [cP7 C hx, Option.bind_some, ora_none C hn (F.ofv hx), c_held_11 C F hn hx k FU m hm (by unfold FU; omega), hld_fuel hn F.nm FU (m + 1) m hm (by unfold FU; omega) (by omega)]
  by_cases c1 : L.1 12 x = -1 <;> simp [c1]
theorem c_held0 (C : COK c L n np ng A h) (F : WF L n np ng) (hn : n ≤ 400) {x : Nat} (hx : x < n) (k : Int32) : f_X3_isHeldBy (A 0 x) none k h = some false := by
  unfold f_X3_isHeldBy
  simp only [cP7 C hx, Option.bind_some, ora_none C hn (F.ofv hx)]
  unfold FU
  rw [f_X3_isHeldBy_11]
  simp [f_X3_isHeldBy_63]
end CK
