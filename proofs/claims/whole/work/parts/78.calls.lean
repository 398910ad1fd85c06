/-! PURE 49: each call -/
section TT
variable {c : Nat} {h : AH}
theorem LVc.z {L : LM} {n np ng : Nat} {A : Nat → Nat → Nat} (V : LVc c L n np ng A h) : c + 37 ≤ hz h := V.2.2.2.2
theorem LVc.C {L : LM} {n np ng : Nat} {A : Nat → Nat → Nat} (V : LVc c L n np ng A h) : COK c L n np ng A h := V.1
theorem LVc.I {L : LM} {n np ng : Nat} {A : Nat → Nat → Nat} (V : LVc c L n np ng A h) : INV L n np ng := V.2.1
theorem LVc.F {L : LM} {n np ng : Nat} {A : Nat → Nat → Nat} (V : LVc c L n np ng A h) : WF L n np ng := V.2.1.1
theorem LVc.W {L : LM} {n np ng : Nat} {A : Nat → Nat → Nat} (V : LVc c L n np ng A h) : MW L n np ng := V.2.1.2.1
theorem LVc.X {L : LM} {n np ng : Nat} {A : Nat → Nat → Nat} (V : LVc c L n np ng A h) : AX L ng := V.2.1.2.2.1
theorem LVc.D {L : LM} {n np ng : Nat} {A : Nat → Nat → Nat} (V : LVc c L n np ng A h) : TD L n ng := V.2.1.2.2.2.1
theorem callKc {α : Type} {L : LM} {n np ng np' ng' : Nat} {A : Nat → Nat → Nat} {f g : AH → Option (α × AH)} {r : α × LM} (V : LVc c L n np ng A h) (e8 : r.2.1 0 8 = nI n) (e : ∃ h' A', f h = some (r.1, h') ∧ COK c r.2 n np' ng' A' h' ∧ KEP c h h') (J : JV r.2 np' ng') (m : ∀ h', MOK (c + 14) h' → g (pM (c + 14) L h') = some (r.1, pM (c + 14) r.2 h')) : CALLc c h f g := by
  obtain ⟨h', A', e1, e2, e3⟩ := e
  exact callOc V ⟨h', e1, OUT_ck V.W.2.1 e2 e8 e3⟩ J m
theorem t_party (V : LXc c h) : CALLc c h (f_X7_party c) (f_X8_party (c + 14)) := by
  obtain ⟨L, n, np, ng, A, V⟩ := V
  obtain ⟨h', e1, e2, e3⟩ := c_party V.C V.W.2.2.2.2.2.1
  refine callKc (r := U_party L np) V ?_ ⟨h', A, e1, e2, e3⟩ (I_party V.I) (fun h' R => M_party R L V.W.2.2.2.2.1 V.W.2.2.2.2.2.1)
  unfold U_party
  by_cases q : np = 30
  · rw [if_pos q]; exact V.W.1
  · rw [if_neg q, LI1, if_neg (by omega)]; exact V.W.1
theorem t_agreement (V : LXc c h) (a b w d : Int32) : CALLc c h (f_X7_agreement c a b w d) (f_X8_agreement (c + 14) a b w d) := by
  obtain ⟨L, n, np, ng, A, V⟩ := V
  refine callKc (r := U_agreement L ng a b w d) V ?_ (c_agreement V.C V.F V.W V.z a b w d) (I_agreement V.I a b w d) (fun h' R => M_agreement R L V.W.2.2.2.2.2.2.1 V.W.2.2.2.2.2.2.2.1 a b w d)
  unfold U_agreement
  by_cases q : ng = 10
  · rw [if_pos q]; exact V.W.1
  · rw [if_neg q]
    by_cases q2 : okA a b w d = true
    · rw [if_pos q2, agT_1, if_neg (by omega), if_neg (by omega), agL_1, if_neg (by omega), if_neg (by omega), if_neg (by omega), if_neg (by omega), if_neg (by omega)]; exact V.W.1
    · rw [if_neg q2]; exact V.W.1
theorem t_article (V : LXc c h) (g a s : Int32) : CALLc c h (f_X7_article c g a s) (f_X8_article (c + 14) g a s) := by
  obtain ⟨L, n, np, ng, A, V⟩ := V
  exact callOc (r := U_article L n g a s) V (c_article V.C V.F V.W g a s) (I_article V.I g a s) (fun h' R => M_article R L V.W g a s)
theorem t_clock (V : LXc c h) (d : Int32) : CALLc c h (f_X7_clock c d) (f_X8_clock (c + 14) d) := by
  obtain ⟨L, n, np, ng, A, V⟩ := V
  obtain ⟨h', e1, e2, e3⟩ := c_clock V.C d
  refine callKc (r := U_clock L d) V ?_ ⟨h', A, e1, e2, e3⟩ (I_clock V.I d) (fun h' R => M_clock R L d)
  unfold U_clock
  by_cases q : (decide (¬ d < L.1 0 0) && decide (d ≤ 73000)) = true
  · rw [if_pos q, LI1, if_neg (by omega)]; exact V.W.1
  · rw [if_neg q]; exact V.W.1
theorem t_sign (V : LXc c h) (p g : Int32) : CALLc c h (f_X7_sign c p g) (f_X8_sign (c + 14) p g) := by
  obtain ⟨L, n, np, ng, A, V⟩ := V
  exact callOc (r := U_sign L n p g) V (c_sign V.C V.F V.W V.z p g) (I_sign V.I p g) (fun h' R => M_sign R L V.W p g)
theorem t_ratify (V : LXc c h) (p g : Int32) : CALLc c h (f_X7_ratify c p g) (f_X8_ratify (c + 14) p g) := by
  obtain ⟨L, n, np, ng, A, V⟩ := V
  exact callOc (r := U_ratify L n p g) V (c_ratify V.C V.F V.W V.z p g) (I_ratify V.I p g) (fun h' R => M_ratify R L V.W p g)
theorem t_join (V : LXc c h) (p g : Int32) : CALLc c h (f_X7_join c p g) (f_X8_join (c + 14) p g) := by
  obtain ⟨L, n, np, ng, A, V⟩ := V
  exact callOc (r := U_join L n p g) V (c_join V.C V.F V.W V.z p g) (I_join V.I p g) (fun h' R => M_join R L V.W p g)
theorem t_reserve (V : LXc c h) (p g a s : Int32) : CALLc c h (f_X7_reserve c p g a s) (f_X8_reserve (c + 14) p g a s) := by
  obtain ⟨L, n, np, ng, A, V⟩ := V
  exact callOc (r := U_reserve L n p g a s) V (c_reserve V.C V.F V.W V.z p g a s) (I_reserve V.I p g a s) (fun h' R => M_reserve R L V.W p g a s)
theorem t_object (V : LXc c h) (p r : Int32) (fl : Bool) : CALLc c h (f_X7_object c p r (b2i fl)) (f_X8_object (c + 14) p r (b2i fl)) := by
  obtain ⟨L, n, np, ng, A, V⟩ := V
  exact callOc (r := U_object L n p r (b2i fl)) V (c_object V.C V.F V.W V.D V.z p r fl) (I_object V.I p r fl) (fun h' R => M_object R L V.W V.F.ab p r fl)
theorem t_withdraw (V : LXc c h) (p x : Int32) : CALLc c h (f_X7_withdraw c p x) (f_X8_withdraw (c + 14) p x) := by
  obtain ⟨L, n, np, ng, A, V⟩ := V
  exact callOc (r := U_withdraw L n p x) V (c_withdraw V.C V.F V.W V.z p x) (I_withdraw V.I p x) (fun h' R => M_withdraw R L V.W V.F.ab p x)
theorem t_change (V : LXc c h) (p g a s : Int32) : CALLc c h (f_X7_change c p g a s) (f_X8_change (c + 14) p g a s) := by
  obtain ⟨L, n, np, ng, A, V⟩ := V
  exact callOc (r := U_change L n p g a s) V (c_change V.C V.F V.W V.z p g a s) (I_change V.I p g a s) (fun h' R => M_change R L V.W p g a s)
theorem t_consent (V : LXc c h) (p x : Int32) : CALLc c h (f_X7_consent c p x) (f_X8_consent (c + 14) p x) := by
  obtain ⟨L, n, np, ng, A, V⟩ := V
  exact callOc (r := U_consent L n p x) V (c_consent V.C V.F V.W V.z p x) (I_consent V.I p x) (fun h' R => M_consent R L V.W V.F.ab p x)
theorem t_follow (V : LXc c h) (p q g : Int32) (fl : Bool) : CALLc c h (f_X7_follow c p q g (b2i fl)) (f_X8_follow (c + 14) p q g (b2i fl)) := by
  obtain ⟨L, n, np, ng, A, V⟩ := V
  exact callOc (r := U_follow L n p q g (b2i fl)) V (c_follow V.C V.F V.W V.z p q g fl) (I_follow V.I p q g fl) (fun h' R => M_follow R L V.W p q g fl)
theorem t_note (V : LXc c h) (x : Int64) : CALLc c h (f_X7_note c x) (f_X8_note (c + 14) x) := by
  obtain ⟨L, n, np, ng, A, V⟩ := V
  exact callOc (r := U_note L n x) V (c_note V.C V.F V.W V.z x) (I_note V.I x) (fun h' R => M_note R L V.W x)
theorem t_undo (V : LXc c h) : CALLc c h (f_X7_undo c) (f_X8_undo (c + 14)) := by
  obtain ⟨L, n, np, ng, A, V⟩ := V
  exact callOc (r := U_undo L n) V (c_undo V.C V.F V.W) (I_undo V.I) (fun h' R => M_undo R L V.W)
theorem t_annex (V : LXc c h) (g w s : Int32) : CALLc c h (f_X7_annex c g w s) (f_X8_annex (c + 14) g w s) := by
  obtain ⟨L, n, np, ng, A, V⟩ := V
  exact callOc (r := U_annex L g w s) V (c_annex V.C V.F V.W V.z g w s) (I_annex V.I g w s) (fun h' R => M_annex R L V.W V.X g w s)
theorem t_tear (V : LXc c h) (g x : Int32) : CALLc c h (f_X7_tear c g x) (f_X8_tear (c + 14) g x) := by
  obtain ⟨L, n, np, ng, A, V⟩ := V
  exact callOc (r := U_tear L g x) V (c_tear V.C V.F V.W g x) (I_tear V.I g x) (fun h' R => M_tear R L V.W V.X g x)
theorem t_write (V : LXc c h) (g x i : Int32) (v : Int64) : CALLc c h (f_X7_write c g x i v) (f_X8_write (c + 14) g x i v) := by
  obtain ⟨L, n, np, ng, A, V⟩ := V
  exact callOc (r := U_write L g x i v) V (c_write V.C V.F V.W g x i v) (I_write V.I g x i v) (fun h' R => M_write R L V.W V.X g x i v)
theorem t_copy (V : LXc c h) (g x i g2 y j k : Int32) : CALLc c h (f_X7_copy c g x i g2 y j k) (f_X8_copy (c + 14) g x i g2 y j k) := by
  obtain ⟨L, n, np, ng, A, V⟩ := V
  exact callOc (r := U_copy L g x i g2 y j k) V (c_copy V.C V.F V.W g x i g2 y j k) (I_copy V.I g x i g2 y j k) (fun h' R => M_copy R L V.W V.X g x i g2 y j k)
theorem SCx {L : LM} {n np ng : Nat} (I : INV L n np ng) : ∃ an wd w, SC L an wd w = L := by
  obtain ⟨w, hw⟩ := I.2.2.2.2.2
  exact ⟨_, _, w, SC_id hw⟩
theorem t_between (V : LXc c h) (p q g a d k : Int32) : CALLc c h (f_X7_between c p q g a d k) (f_X8_between (c + 14) p q g a d k) := by
  obtain ⟨L, n, np, ng, A, V⟩ := V
  obtain ⟨an, wd, w, e⟩ := SCx V.I
  refine callSc V (fun T => c_between V.C V.F V.W T p q g a d k) (fun h' R => ?_)
  have m := M_between R L an wd w V.W p q g a d k
  rw [e] at m
  by_cases q1 : (asB L p q g a && dyB d && dyB k) = true
  · rw [if_pos q1] at m ⊢
    exact ⟨_, _, _, m.trans (by rw [fndI_1]; rfl)⟩
  · rw [if_neg q1] at m ⊢
    exact ⟨an, wd, w, by rw [e]; exact m⟩
theorem t_words (V : LXc c h) (p q g a d k : Int32) : CALLc c h (f_X7_words c p q g a d k) (f_X8_words (c + 14) p q g a d k) := by
  obtain ⟨L, n, np, ng, A, V⟩ := V
  obtain ⟨an, wd, w, e⟩ := SCx V.I
  refine callSc V (fun T => c_words V.C V.F V.W T p q g a d k) (fun h' R => ?_)
  have m := M_words R L an wd w V.W p q g a d k
  rw [e] at m
  by_cases q1 : (asB L p q g a && dyB d && dyB k) = true
  · rw [if_pos q1] at m ⊢
    exact ⟨_, _, _, m.trans (by rw [fndI_2]; rfl)⟩
  · rw [if_neg q1] at m ⊢
    exact ⟨an, wd, w, by rw [e]; exact m⟩
theorem nth_cg {p q : Nat → Bool} : ∀ m i j, (∀ x, j ≤ x → x < j + m → p x = q x) → nth p i j m = nth q i j m := by
  intro m
  induction m with
  | zero => intro i j _; rfl
  | succ m ih =>
    intro i j h
    unfold nth
    rw [h j (by omega) (by omega), ih i (j + 1) (fun x h1 h2 => h x (by omega) (by omega)), ih (i + (-1)) (j + 1) (fun x h1 h2 => h x (by omega) (by omega))]
theorem t_member (V : LXc c h) (p g d k : Int32) : ∃ a h1, f_X7_member c p g d k h = some (a, h1) ∧ ck 8 h1 (some (c + 14)) = some (c + 14) ∧ f_X8_member (c + 14) p g d k h1 = some a ∧ LXc c h1 := by
  obtain ⟨L, n, np, ng, A, V⟩ := V
  exact callTc V (fun T => c_member V.C V.F V.W T p g d k) (fun h' R => M_member R L V.W p g d k)
theorem t_members (V : LXc c h) (g d k : Int32) : ∃ a h1, f_X7_members c g d k h = some (a, h1) ∧ ck 8 h1 (some (c + 14)) = some (c + 14) ∧ f_X8_members (c + 14) g d k h1 = some a ∧ LXc c h1 := by
  obtain ⟨L, n, np, ng, A, V⟩ := V
  exact callTc V (fun T => c_members V.C V.F V.W T g d k) (fun h' R => M_members R L V.W g d k)
theorem t_has (V : LXc c h) (p g d k i : Int32) : ∃ a h1, f_X7_has c p g d k i h = some (a, h1) ∧ ck 8 h1 (some (c + 14)) = some (c + 14) ∧ f_X8_has (c + 14) p g d k i h1 = some a ∧ LXc c h1 := by
  obtain ⟨L, n, np, ng, A, V⟩ := V
  exact callTc V (fun T => c_has V.C V.F V.W T p g d k i) (fun h' R => M_hasC R L V.W p g d k i)
theorem t_paper (V : LXc c h) (x w : Int32) : ∃ a, f_X7_paper c x w h = some a ∧ f_X8_paper (c + 14) x w h = some a := by
  obtain ⟨L, n, np, ng, A, V⟩ := V
  exact ⟨_, c_paper V.C V.F V.W x w, same_m V (M_paper V.2.2.1 L V.W x w)⟩
theorem t_noted (V : LXc c h) (x : Int32) : ∃ a, f_X7_noted c x h = some a ∧ f_X8_noted (c + 14) x h = some a := by
  obtain ⟨L, n, np, ng, A, V⟩ := V
  exact ⟨_, c_noted V.C V.F V.W x, same_m V (M_noted V.2.2.1 L V.W x)⟩
theorem t_count (V : LXc c h) (w : Int32) : ∃ a, f_X7_count c w h = some a ∧ f_X8_count (c + 14) w h = some a := by
  obtain ⟨L, n, np, ng, A, V⟩ := V
  exact ⟨_, c_count V.C V.W w, same_m V (M_count V.2.2.1 L V.W w)⟩
theorem t_read (V : LXc c h) (g x i : Int32) : ∃ a, f_X7_read c g x i h = some a ∧ f_X8_read (c + 14) g x i h = some a := by
  obtain ⟨L, n, np, ng, A, V⟩ := V
  exact ⟨_, c_read V.C V.W g x i, same_m V (M_read V.2.2.1 L V.W V.X g x i)⟩
theorem t_size (V : LXc c h) (g x : Int32) : ∃ a, f_X7_size c g x h = some a ∧ f_X8_size (c + 14) g x h = some a := by
  obtain ⟨L, n, np, ng, A, V⟩ := V
  exact ⟨_, c_size V.C V.W g x, same_m V (M_size V.2.2.1 L V.W V.X g x)⟩
end TT
