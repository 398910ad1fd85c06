/-! PURE 48: a call of each, side by side -/
section ST
variable {c : Nat} {L : LM} {n np ng : Nat} {A : Nat → Nat → Nat} {h h' : AH}
theorem COK_ext (C : COK c L n np ng A h) (k1 : hk h' = hk h) (z1 : hz h' = hz h) (i1 : ∀ a k, a < c + 14 ∨ c + 37 ≤ a → hI h' a k = hI h a k) (j1 : ∀ a k, a < c + 14 ∨ c + 37 ≤ a → hJ h' a k = hJ h a k) (r1 : hR h' = hR h) : COK c L n np ng A h' := by
  obtain ⟨B, ⟨s1, s2, s3, s4⟩, P, G, D⟩ := C
  have hi : ∀ i x k, vld L n ng i x → hI h' (A i x) k = hI h (A i x) k := fun i x k v => i1 _ k (Or.inr (D.1 i x v).1)
  have hj : ∀ i x k, vld L n ng i x → hJ h' (A i x) k = hJ h (A i x) k := fun i x k v => j1 _ k (Or.inr (D.1 i x v).1)
  refine ⟨⟨fun p hp => by rw [k1]; exact B.1 p hp, fun p k o f => by rw [r1]; exact B.2 p k o f⟩, ⟨?_, ?_, ?_, ?_⟩, fun x hx => ?_, fun g hg => ?_, ⟨fun i x w => by rw [z1]; exact D.1 i x w, D.2⟩⟩
  · rw [i1 _ _ (by omega)]; exact s1
  · rw [i1 _ _ (by omega)]; exact s2
  · rw [i1 _ _ (by omega)]; exact s3
  · rw [i1 _ _ (by omega)]; exact s4
  · obtain ⟨p1, p2⟩ := P x hx
    refine ⟨by rw [r1]; exact p1, ?_⟩
    have v : vld L n ng 0 x := Or.inl ⟨rfl, hx⟩
    unfold POK at p2 ⊢
    simp only [k1, r1, hi 0 x _ v, hj 0 x _ v]
    exact p2
  · obtain ⟨g1, g2⟩ := G g hg
    refine ⟨by rw [r1]; exact g1, ?_⟩
    have v1 : vld L n ng 1 g := Or.inr (Or.inl ⟨Or.inl rfl, hg⟩)
    have v2 : vld L n ng 2 g := Or.inr (Or.inl ⟨Or.inr (Or.inl rfl), hg⟩)
    unfold GOK at g2 ⊢
    simp only [k1, r1, hi 1 g _ v1, hi 2 g _ v2]
    obtain ⟨e1, e2, e3, e4, e5, m, e6, e7, e8⟩ := g2
    refine ⟨e1, e2, e3, e4, e5, m, e6, e7, fun x hx => ?_⟩
    obtain ⟨f1, f2⟩ := e8 x hx
    have hm : (L.1 18 g).toNatClampNeg = m := by rw [e7]; exact nI_clamp (by omega)
    have v4 : vld L n ng 4 (8 * g + x) := Or.inr (Or.inr (Or.inl ⟨rfl, g, x, hg, rfl, by omega⟩))
    refine ⟨f1, ?_⟩
    unfold XOK at f2 ⊢
    obtain ⟨f3, f4, f5⟩ := f2
    refine ⟨by rw [k1]; exact f3, by rw [hi 4 _ _ v4]; exact f4, ?_⟩
    rcases f5 with f5 | ⟨s, f5, f6, f7, f8, f9⟩
    · exact Or.inl ⟨f5.1, by rw [r1]; exact f5.2⟩
    · have v5 : vld L n ng 5 (8 * g + x) := Or.inr (Or.inr (Or.inr ⟨rfl, ⟨g, x, hg, rfl, by omega⟩, by rw [f6]; exact nI_m1 (by omega)⟩))
      exact Or.inr ⟨s, f5, f6, by rw [r1]; exact f7, by rw [k1]; exact f8, fun i hi' => by rw [hj 5 _ _ v5]; exact f9 i hi'⟩
theorem COK_pM (C : COK c L n np ng A h) (M : LM) : COK c L n np ng A (pM (c + 14) M h) := COK_ext C rfl rfl (fun a k ha => by rw [hI_pM, if_neg (by omega)]) (fun a k ha => by rw [hJ_pM, if_neg (by omega)]) rfl
theorem COK_SC (C : COK c L n np ng A h) (an wd : Int32) (w : Nat → Bool) : COK c (SC L an wd w) n np ng A h := by
  obtain ⟨B, S, P, G, D⟩ := C
  have e := fun p h0 h17 => SCr L an wd w p h0 h17
  have vl : ∀ i x, vld (SC L an wd w) n ng i x ↔ vld L n ng i x := by
    intro i x
    unfold vld
    rw [e 18 (by decide) (by decide), e 20 (by decide) (by decide)]
  refine ⟨B, ⟨S.1, S.2.1, by rw [SC_0]; exact S.2.2.1, S.2.2.2⟩, fun x hx => ?_, fun g hg => ?_, ⟨fun i x q => D.1 i x ((vl i x).mp q), fun i x y q1 q2 => D.2 i x y ((vl i x).mp q1) ((vl i y).mp q2)⟩⟩
  · have p := P x hx
    unfold POK endO latO earO isE isA at p ⊢
    simp only [e 6 (by decide) (by decide), e 7 (by decide) (by decide), e 8 (by decide) (by decide), e 9 (by decide) (by decide), e 10 (by decide) (by decide), e 11 (by decide) (by decide), e 12 (by decide) (by decide), e 13 (by decide) (by decide), e 14 (by decide) (by decide), e 15 (by decide) (by decide)]
    exact p
  · have p := G g hg
    unfold GOK XOK at p ⊢
    simp only [e 1 (by decide) (by decide), e 2 (by decide) (by decide), e 3 (by decide) (by decide), e 4 (by decide) (by decide), e 5 (by decide) (by decide), e 18 (by decide) (by decide), e 19 (by decide) (by decide), e 20 (by decide) (by decide)]
    exact p
theorem INV_SC (I : INV L n np ng) (an wd : Int32) (w : Nat → Bool) : INV (SC L an wd w) n np ng := by
  obtain ⟨F, W, X, D, wt, -⟩ := I
  have e := fun p h0 h17 => SCr L an wd w p h0 h17
  have hn := W.2.1
  have F' : WF (SC L an wd w) n np ng := WF_EqP (L := L) hn ⟨fun q h1 h2 k _ => by rw [e q (by omega) (by omega)], fun k _ => rfl, fun _ _ _ => by rw [e 3 (by decide) (by decide)]⟩ F
  obtain ⟨w1, w2, w3, w4, w5, w6, w7, w8, w9⟩ := W
  refine ⟨F', ⟨by rw [SC_8]; exact w1, w2, F'.nm, F'.of, by rw [SC_1]; exact w5, w6, by rw [SC_2]; exact w7, w8, fun g hg => by rw [e 1 (by decide) (by decide)]; exact w9 g hg⟩, AX_q X (fun k => by rw [e 18 (by decide) (by decide)]) (fun k => by rw [e 20 (by decide) (by decide)]), ⟨?_, fun g hg => by rw [e 4 (by decide) (by decide)]; exact D.2 g hg⟩, fun g hg => by rw [e 3 (by decide) (by decide)]; exact wt g hg, w, fun k => SC_w L an wd w k⟩
  obtain ⟨t, t1, t2, t3⟩ := D.1
  exact ⟨t, t1, by rw [SC_0]; exact t2, fun x hx => by rw [e 9 (by decide) (by decide)]; exact t3 x hx⟩
theorem MOK_KEP (R : MOK (c + 14) h) (k : KEP c h h') : MOK (c + 14) h' := by
  refine ⟨fun p hp => ?_, fun f hf h0 => ?_⟩
  · rw [(k.2 (c + 14 + p) (by omega) (by omega)).1]; exact R.1 p hp
  · rw [(k.2 (c + 14) (by omega) (by omega)).2.2.2]; exact R.2 f hf h0
theorem FIX_KEP (e : pM (c + 14) L h = h) (k : KEP c h h') : pM (c + 14) L h' = h' := by
  unfold pM
  refine Prod.ext rfl (Prod.ext rfl (Prod.ext ?_ (Prod.ext ?_ rfl)))
  · funext a j
    show (if c + 14 ≤ a ∧ a < c + 14 + 23 then L.1 (a - (c + 14)) j else hI h' a j) = hI h' a j
    by_cases q : c + 14 ≤ a ∧ a < c + 14 + 23
    · rw [if_pos q, (k.2 a (by omega) (by omega)).2.1, ← e, hI_pM, if_pos q]
    · rw [if_neg q]
  · funext a j
    show (if c + 14 ≤ a ∧ a < c + 14 + 23 then L.2 (a - (c + 14)) j else hJ h' a j) = hJ h' a j
    by_cases q : c + 14 ≤ a ∧ a < c + 14 + 23
    · rw [if_pos q, (k.2 a (by omega) (by omega)).2.2.1, ← e, hJ_pM, if_pos q]
    · rw [if_neg q]
def LVc (c : Nat) (L : LM) (n np ng : Nat) (A : Nat → Nat → Nat) (h : AH) : Prop := COK c L n np ng A h ∧ INV L n np ng ∧ MOK (c + 14) h ∧ pM (c + 14) L h = h ∧ c + 37 ≤ hz h
def LXc (c : Nat) (h : AH) : Prop := ∃ L n np ng A, LVc c L n np ng A h
theorem stepV (V : LVc c L n np ng A h) {L' : LM} {n' np' ng' : Nat} {A' : Nat → Nat → Nat} (C' : COK c L' n' np' ng' A' h') (k : KEP c h h') (I' : INV L' n' np' ng') : LXc c (pM (c + 14) L' h') := by
  obtain ⟨C, I, R, e, z⟩ := V
  have R' := MOK_KEP R k
  exact ⟨L', n', np', ng', A', COK_pM C' L', I', ⟨fun p hp => R'.1 p hp, fun f hf h0 => R'.2 f hf h0⟩, pM_pM _ _ _ _, by rw [hz_pM]; have := k.1; omega⟩
theorem stepO (V : LVc c L n np ng A h) {L' : LM} {np' ng' : Nat} (O : OUT c np' ng' h L' h') (J : JV L' np' ng') : LXc c (pM (c + 14) L' h') := by
  obtain ⟨A', C', k⟩ := O
  exact stepV V C' k J
theorem LXc.ck7 (V : LXc c h) : ck 7 h (some c) = some c := by
  obtain ⟨L, n, np, ng, A, C, -⟩ := V
  exact cck7 C
theorem MOK.ck8 (R : MOK (c + 14) h) : ck 8 h (some (c + 14)) = some (c + 14) := ck_k (R.1 0 (by decide))
theorem LXc.ck8 (V : LXc c h) : ck 8 h (some (c + 14)) = some (c + 14) := by
  obtain ⟨L, n, np, ng, A, C, I, R, -⟩ := V
  exact R.ck8
/-- what a call that changes leaves -/
def CALLc {α : Type} (c : Nat) (h : AH) (f g : AH → Option (α × AH)) : Prop := ∃ a h1 h2, f h = some (a, h1) ∧ ck 8 h1 (some (c + 14)) = some (c + 14) ∧ g h1 = some (a, h2) ∧ LXc c h2
theorem callOc {α : Type} {f g : AH → Option (α × AH)} {r : α × LM} (V : LVc c L n np ng A h) {np' ng' : Nat} (e : ∃ h', f h = some (r.1, h') ∧ OUT c np' ng' h r.2 h') (J : JV r.2 np' ng') (m : ∀ h', MOK (c + 14) h' → g (pM (c + 14) L h') = some (r.1, pM (c + 14) r.2 h')) : CALLc c h f g := by
  obtain ⟨h', e1, O⟩ := e
  have k : KEP c h h' := O.choose_spec.2
  have R' := MOK_KEP V.2.2.1 k
  refine ⟨r.1, h', _, e1, R'.ck8, ?_, stepO V O J⟩
  have := m h' R'
  rw [FIX_KEP V.2.2.2.1 k] at this
  exact this
theorem KEP_pS (T : TM) : KEP c h (pS c T h) := ⟨Nat.le_refl _, fun b b1 b2 => ⟨rfl, fun k => hI_pSo c T h (Or.inr b1) k, fun _ => rfl, fun k => hR_pSo c T h (Or.inr b1) k⟩⟩
/-- what a call that asks leaves -/
theorem callSc {α : Type} {f g : AH → Option (α × AH)} {a : α} (V : LVc c L n np ng A h) (e : ∀ T, ∃ T', f (pS c T h) = some (a, pS c T' h)) (m : ∀ h', MOK (c + 14) h' → ∃ an wd w, g (pM (c + 14) L h') = some (a, pM (c + 14) (SC L an wd w) h')) : CALLc c h f g := by
  obtain ⟨T', e1⟩ := e (fun p k => hI h (c + p) k, fun p k => hR h (c + p) k)
  rw [pS_self V.1.1] at e1
  have k : KEP c h (pS c T' h) := KEP_pS T'
  have R' := MOK_KEP V.2.2.1 k
  obtain ⟨an, wd, w, m1⟩ := m _ R'
  rw [FIX_KEP V.2.2.2.1 k] at m1
  exact ⟨a, _, _, e1, R'.ck8, m1, stepV V (COK_SC (COK_pS V.1 T') an wd w) k (INV_SC V.2.1 an wd w)⟩
/-- .. and one whose reference leaves nothing -/
theorem callTc {α : Type} {f : AH → Option (α × AH)} {g : AH → Option α} {a : α} (V : LVc c L n np ng A h) (e : ∀ T, ∃ T', f (pS c T h) = some (a, pS c T' h)) (m : ∀ h', MOK (c + 14) h' → g (pM (c + 14) L h') = some a) : ∃ a h1, f h = some (a, h1) ∧ ck 8 h1 (some (c + 14)) = some (c + 14) ∧ g h1 = some a ∧ LXc c h1 := by
  obtain ⟨T', e1⟩ := e (fun p k => hI h (c + p) k, fun p k => hR h (c + p) k)
  rw [pS_self V.1.1] at e1
  have k : KEP c h (pS c T' h) := KEP_pS T'
  have R' := MOK_KEP V.2.2.1 k
  have m1 := m _ R'
  have fx := FIX_KEP V.2.2.2.1 k
  rw [fx] at m1
  have X := stepV V (COK_pS V.1 T') k V.2.1
  rw [fx] at X
  exact ⟨a, _, e1, R'.ck8, m1, X⟩
theorem same_m {α : Type} {g : AH → Option α} {a : α} (V : LVc c L n np ng A h) (m : g (pM (c + 14) L h) = some a) : g h = some a := by
  rw [V.2.2.2.1] at m
  exact m
end ST
