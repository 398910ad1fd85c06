/-! SHALLOW: what stands ahead of the methods -/
def FU : Nat := 1000
def b2i (b : Bool) : Int32 := match b with
  | true => 1
  | false => 0
theorem b2i_01 (b : Bool) : b2i b = 0 ∨ b2i b = 1 := by cases b <;> simp [b2i]
def zB (v : Int32) : Option Bool := if v = 1 then some true else if v = 0 then some false else none
theorem zB_spec {v : Int32} {b : Bool} (h : zB v = some b) : v = b2i b := by
  unfold zB at h
  by_cases h1 : v = 1
  · rw [if_pos h1] at h
    cases h
    exact h1
  · rw [if_neg h1] at h
    by_cases h0 : v = 0
    · rw [if_pos h0] at h
      cases h
      exact h0
    · rw [if_neg h0] at h
      cases h
theorem bd {α β : Type} {o : Option α} {f : α → Option β} {b : β} (h : o.bind f = some b) : ∃ a, o = some a ∧ f a = some b := Option.bind_eq_some_iff.mp h
theorem ift {c : Prop} {i : Decidable c} {α : Type} {a b : Option α} {x : α} (h : (@ite _ c i a b) = some x) (q : c) : a = some x := by rw [if_pos q] at h; exact h
theorem iff_ {c : Prop} {i : Decidable c} {α : Type} {a b : Option α} {x : α} (h : (@ite _ c i a b) = some x) (q : ¬ c) : b = some x := by rw [if_neg q] at h; exact h
def neqs (x : Int32) : Nat → Nat → Prop
  | _, 0 => True
  | k, n + 1 => ¬ x = nI k ∧ neqs x (k + 1) n
theorem neqs_of {x : Int32} : ∀ (n k : Nat), neqs x k n → ∀ j, k ≤ j → j < k + n → ¬ x = nI j := by
  intro n
  induction n with
  | zero => intro k _ j h1 h2; omega
  | succ n ih =>
    intro k h j h1 h2
    by_cases hj : j = k
    · rw [hj]
      exact h.1
    · exact ih (k + 1) h.2 j (by omega) (by omega)
theorem sw_def {x : Int32} (n : Nat) (h : neqs x 0 n) {hi : Int} (hn : n < 1000 := by decide) (hh : hi = (n : Int) - 1 := by decide) : x.toInt < 0 ∨ hi < x.toInt := by
  rcases Int.lt_or_le x.toInt 0 with q | q
  · exact Or.inl q
  · refine Or.inr ?_
    rcases Int.lt_or_le hi x.toInt with q2 | q2
    · exact q2
    · exfalso
      refine neqs_of n 0 h x.toInt.toNat (Nat.zero_le _) (by omega) ?_
      refine Int32.toInt_inj.mp ?_
      rw [nI_toInt (by omega)]
      omega
theorem vwRL_13 : VWk RL 13 7 yX7_party := ⟨mlRL_13, im_yX7_party, se_yX7_party, rfl, by decide⟩
theorem vwRL_18 : VWk RL 18 7 yX7_agreement := ⟨mlRL_18, im_yX7_agreement, se_yX7_agreement, rfl, by decide⟩
theorem vwRL_23 : VWk RL 23 7 yX7_article := ⟨mlRL_23, im_yX7_article, se_yX7_article, rfl, by decide⟩
theorem vwRX7_50 : VWk RX7 50 7 yX7_agreementAt := ⟨mlRX7_50, im_yX7_agreementAt, se_yX7_agreementAt, rfl, by decide⟩
theorem vwRX7_54 : VWk RX7 54 0 yX0_hasArticle := ⟨mlRX7_54, im_yX0_hasArticle, se_yX0_hasArticle, rfl, by decide⟩
theorem vwRX7_59 : VWk RX7 59 4 yX4_hasAny := ⟨mlRX7_59, im_yX4_hasAny, se_yX4_hasAny, rfl, by decide⟩
theorem vwRX4_24 : VWk RX4 24 4 yX4_at := ⟨mlRX4_24, im_yX4_at, se_yX4_at, rfl, by decide⟩
theorem vwRX7_63 : VWk RX7 63 0 yX0_reword := ⟨mlRX7_63, im_yX0_reword, se_yX0_reword, rfl, by decide⟩
theorem vwRL_28 : VWk RL 28 7 yX7_clock := ⟨mlRL_28, im_yX7_clock, se_yX7_clock, rfl, by decide⟩
theorem vwRL_33 : VWk RL 33 7 yX7_sign := ⟨mlRL_33, im_yX7_sign, se_yX7_sign, rfl, by decide⟩
theorem vwRX7_71 : VWk RX7 71 7 yX7_isParty := ⟨mlRX7_71, im_yX7_isParty, se_yX7_isParty, rfl, by decide⟩
theorem vwRX7_74 : VWk RX7 74 4 yX4_isFull := ⟨mlRX7_74, im_yX4_isFull, se_yX4_isFull, rfl, by decide⟩
theorem vwRX7_78 : VWk RX7 78 4 yX4_hasSign := ⟨mlRX7_78, im_yX4_hasSign, se_yX4_hasSign, rfl, by decide⟩
theorem vwRX7_82 : VWk RX7 82 4 yX4_lodge := ⟨mlRX7_82, im_yX4_lodge, se_yX4_lodge, rfl, by decide⟩
theorem vwRL_38 : VWk RL 38 7 yX7_ratify := ⟨mlRL_38, im_yX7_ratify, se_yX7_ratify, rfl, by decide⟩
theorem vwRX7_91 : VWk RX7 91 4 yX4_belonging := ⟨mlRX7_91, im_yX4_belonging, se_yX4_belonging, rfl, by decide⟩
theorem vwRX4_38 : VWk RX4 38 3 yX3_isMembership := ⟨mlRX4_38, im_yX3_isMembership, se_yX3_isMembership, rfl, by decide⟩
theorem vwRL_42 : VWk RL 42 7 yX7_join := ⟨mlRL_42, im_yX7_join, se_yX7_join, rfl, by decide⟩
theorem vwRL_46 : VWk RL 46 7 yX7_reserve := ⟨mlRL_46, im_yX7_reserve, se_yX7_reserve, rfl, by decide⟩
theorem vwRL_50 : VWk RL 50 7 yX7_object := ⟨mlRL_50, im_yX7_object, se_yX7_object, rfl, by decide⟩
theorem vwRX7_108 : VWk RX7 108 4 yX4_at := ⟨mlRX7_108, im_yX4_at, se_yX4_at, rfl, by decide⟩
theorem vwRX7_119 : VWk RX7 119 3 yX3_isHeldBy := ⟨mlRX7_119, im_yX3_isHeldBy, se_yX3_isHeldBy, rfl, by decide⟩
theorem vwRX3_61 : VWk RX3 61 3 yX3_stands := ⟨mlRX3_61, im_yX3_stands, se_yX3_stands, rfl, by decide⟩
theorem vwRX7_129 : VWk RX7 129 3 yX3_isAnsweredBy := ⟨mlRX7_129, im_yX3_isAnsweredBy, se_yX3_isAnsweredBy, rfl, by decide⟩
theorem vwRX7_137 : VWk RX7 137 3 yX3_answer := ⟨mlRX7_137, im_yX3_answer, se_yX3_answer, rfl, by decide⟩
theorem vwRL_55 : VWk RL 55 7 yX7_withdraw := ⟨mlRL_55, im_yX7_withdraw, se_yX7_withdraw, rfl, by decide⟩
theorem vwRX7_141 : VWk RX7 141 3 yX3_isWithdrawable := ⟨mlRX7_141, im_yX3_isWithdrawable, se_yX3_isWithdrawable, rfl, by decide⟩
theorem vwRX3_37 : VWk RX3 37 3 yX3_isMembership := ⟨mlRX3_37, im_yX3_isMembership, se_yX3_isMembership, rfl, by decide⟩
theorem vwRX7_147 : VWk RX7 147 3 yX3_end := ⟨mlRX7_147, im_yX3_end, se_yX3_end, rfl, by decide⟩
theorem vwRL_59 : VWk RL 59 7 yX7_change := ⟨mlRL_59, im_yX7_change, se_yX7_change, rfl, by decide⟩
theorem vwRL_63 : VWk RL 63 7 yX7_consent := ⟨mlRL_63, im_yX7_consent, se_yX7_consent, rfl, by decide⟩
theorem vwRL_67 : VWk RL 67 7 yX7_follow := ⟨mlRL_67, im_yX7_follow, se_yX7_follow, rfl, by decide⟩
theorem vwRL_74 : VWk RL 74 7 yX7_note := ⟨mlRL_74, im_yX7_note, se_yX7_note, rfl, by decide⟩
theorem vwRL_79 : VWk RL 79 7 yX7_undo := ⟨mlRL_79, im_yX7_undo, se_yX7_undo, rfl, by decide⟩
theorem vwRX7_157 : VWk RX7 157 3 yX3_release := ⟨mlRX7_157, im_yX3_release, se_yX3_release, rfl, by decide⟩
theorem vwRX7_160 : VWk RX7 160 4 yX4_dropLatest := ⟨mlRX7_160, im_yX4_dropLatest, se_yX4_dropLatest, rfl, by decide⟩
theorem vwRL_83 : VWk RL 83 7 yX7_between := ⟨mlRL_83, im_yX7_between, se_yX7_between, rfl, by decide⟩
theorem vwRX7_163 : VWk RX7 163 7 yX7_settle := ⟨mlRX7_163, im_yX7_settle, se_yX7_settle, rfl, by decide⟩
theorem vwRX7_244 : VWk RX7 244 2 yX2_settle := ⟨mlRX7_244, im_yX2_settle, se_yX2_settle, rfl, by decide⟩
theorem vwRX2_32 : VWk RX2 32 2 yX2_forget := ⟨mlRX2_32, im_yX2_forget, se_yX2_forget, rfl, by decide⟩
theorem vwRX2_35 : VWk RX2 35 5 yX5_fill := ⟨mlRX2_35, im_yX5_fill, se_yX5_fill, rfl, by decide⟩
theorem vwRX5_24 : VWk RX5 24 4 yX4_at := ⟨mlRX5_24, im_yX4_at, se_yX4_at, rfl, by decide⟩
theorem vwRX5_32 : VWk RX5 32 3 yX3_isMembership := ⟨mlRX5_32, im_yX3_isMembership, se_yX3_isMembership, rfl, by decide⟩
theorem vwRX5_36 : VWk RX5 36 3 yX3_stands := ⟨mlRX5_36, im_yX3_stands, se_yX3_stands, rfl, by decide⟩
theorem vwRX5_40 : VWk RX5 40 5 yX5_enter := ⟨mlRX5_40, im_yX5_enter, se_yX5_enter, rfl, by decide⟩
theorem vwRX2_46 : VWk RX2 46 5 yX5_at := ⟨mlRX2_46, im_yX5_at, se_yX5_at, rfl, by decide⟩
theorem vwRX2_53 : VWk RX2 53 6 yX6_fill := ⟨mlRX2_53, im_yX6_fill, se_yX6_fill, rfl, by decide⟩
theorem vwRX6_25 : VWk RX6 25 4 yX4_at := ⟨mlRX6_25, im_yX4_at, se_yX4_at, rfl, by decide⟩
theorem vwRX6_29 : VWk RX6 29 3 yX3_stands := ⟨mlRX6_29, im_yX3_stands, se_yX3_stands, rfl, by decide⟩
theorem vwRX6_35 : VWk RX6 35 3 yX3_isHeldBy := ⟨mlRX6_35, im_yX3_isHeldBy, se_yX3_isHeldBy, rfl, by decide⟩
theorem vwRX2_56 : VWk RX2 56 2 yX2_findStrongObjection := ⟨mlRX2_56, im_yX2_findStrongObjection, se_yX2_findStrongObjection, rfl, by decide⟩
theorem vwRX2_105 : VWk RX2 105 4 yX4_at := ⟨mlRX2_105, im_yX4_at, se_yX4_at, rfl, by decide⟩
theorem vwRX2_113 : VWk RX2 113 2 yX2_dividesThem := ⟨mlRX2_113, im_yX2_dividesThem, se_yX2_dividesThem, rfl, by decide⟩
theorem vwRX2_117 : VWk RX2 117 6 yX6_hasPaper := ⟨mlRX2_117, im_yX6_hasPaper, se_yX6_hasPaper, rfl, by decide⟩
theorem vwRX2_72 : VWk RX2 72 2 yX2_findReserve := ⟨mlRX2_72, im_yX2_findReserve, se_yX2_findReserve, rfl, by decide⟩
theorem vwRX2_120 : VWk RX2 120 6 yX6_hasReserve := ⟨mlRX2_120, im_yX6_hasReserve, se_yX6_hasReserve, rfl, by decide⟩
theorem vwRX6_48 : VWk RX6 48 6 yX6_hasPaper := ⟨mlRX6_48, im_yX6_hasPaper, se_yX6_hasPaper, rfl, by decide⟩
theorem vwRX2_76 : VWk RX2 76 2 yX2_settleReserve := ⟨mlRX2_76, im_yX2_settleReserve, se_yX2_settleReserve, rfl, by decide⟩
theorem vwRX2_124 : VWk RX2 124 6 yX6_leastAnswer := ⟨mlRX2_124, im_yX6_leastAnswer, se_yX6_leastAnswer, rfl, by decide⟩
theorem vwRX2_79 : VWk RX2 79 2 yX2_findChange := ⟨mlRX2_79, im_yX2_findChange, se_yX2_findChange, rfl, by decide⟩
theorem vwRX2_138 : VWk RX2 138 2 yX2_takeChange := ⟨mlRX2_138, im_yX2_takeChange, se_yX2_takeChange, rfl, by decide⟩
theorem vwRX2_88 : VWk RX2 88 0 yX0_wordsOf := ⟨mlRX2_88, im_yX0_wordsOf, se_yX0_wordsOf, rfl, by decide⟩
theorem vwRL_88 : VWk RL 88 7 yX7_words := ⟨mlRL_88, im_yX7_words, se_yX7_words, rfl, by decide⟩
theorem vwRL_92 : VWk RL 92 7 yX7_why := ⟨mlRL_92, im_yX7_why, se_yX7_why, rfl, by decide⟩
theorem vwRX7_170 : VWk RX7 170 2 yX2_reason := ⟨mlRX7_170, im_yX2_reason, se_yX2_reason, rfl, by decide⟩
theorem vwRX2_145 : VWk RX2 145 2 yX2_cite := ⟨mlRX2_145, im_yX2_cite, se_yX2_cite, rfl, by decide⟩
theorem vwRX2_148 : VWk RX2 148 2 yX2_citeNeeded := ⟨mlRX2_148, im_yX2_citeNeeded, se_yX2_citeNeeded, rfl, by decide⟩
theorem vwRX2_151 : VWk RX2 151 2 yX2_citeSources := ⟨mlRX2_151, im_yX2_citeSources, se_yX2_citeSources, rfl, by decide⟩
theorem vwRX2_154 : VWk RX2 154 2 yX2_nthCited := ⟨mlRX2_154, im_yX2_nthCited, se_yX2_nthCited, rfl, by decide⟩
theorem vwRL_97 : VWk RL 97 7 yX7_first := ⟨mlRL_97, im_yX7_first, se_yX7_first, rfl, by decide⟩
theorem vwRX7_174 : VWk RX7 174 4 yX4_latestEffect := ⟨mlRX7_174, im_yX4_latestEffect, se_yX4_latestEffect, rfl, by decide⟩
theorem vwRL_101 : VWk RL 101 7 yX7_member := ⟨mlRL_101, im_yX7_member, se_yX7_member, rfl, by decide⟩
theorem vwRX7_181 : VWk RX7 181 5 yX5_fill := ⟨mlRX7_181, im_yX5_fill, se_yX5_fill, rfl, by decide⟩
theorem vwRX7_185 : VWk RX7 185 5 yX5_at := ⟨mlRX7_185, im_yX5_at, se_yX5_at, rfl, by decide⟩
theorem vwRL_105 : VWk RL 105 7 yX7_members := ⟨mlRL_105, im_yX7_members, se_yX7_members, rfl, by decide⟩
theorem vwRL_109 : VWk RL 109 7 yX7_since := ⟨mlRL_109, im_yX7_since, se_yX7_since, rfl, by decide⟩
theorem vwRL_114 : VWk RL 114 7 yX7_has := ⟨mlRL_114, im_yX7_has, se_yX7_has, rfl, by decide⟩
theorem vwRX7_194 : VWk RX7 194 4 yX4_nthOfMember := ⟨mlRX7_194, im_yX4_nthOfMember, se_yX4_nthOfMember, rfl, by decide⟩
theorem vwRX4_49 : VWk RX4 49 3 yX3_stands := ⟨mlRX4_49, im_yX3_stands, se_yX3_stands, rfl, by decide⟩
theorem vwRX4_53 : VWk RX4 53 3 yX3_isHeldBy := ⟨mlRX4_53, im_yX3_isHeldBy, se_yX3_isHeldBy, rfl, by decide⟩
theorem vwRL_119 : VWk RL 119 7 yX7_paper := ⟨mlRL_119, im_yX7_paper, se_yX7_paper, rfl, by decide⟩
theorem vwRX7_198 : VWk RX7 198 3 yX3_detail := ⟨mlRX7_198, im_yX3_detail, se_yX3_detail, rfl, by decide⟩
theorem vwRL_123 : VWk RL 123 7 yX7_noted := ⟨mlRL_123, im_yX7_noted, se_yX7_noted, rfl, by decide⟩
theorem vwRL_128 : VWk RL 128 7 yX7_annex := ⟨mlRL_128, im_yX7_annex, se_yX7_annex, rfl, by decide⟩
theorem vwRX7_210 : VWk RX7 210 0 yX0_addAnnex := ⟨mlRX7_210, im_yX0_addAnnex, se_yX0_addAnnex, rfl, by decide⟩
theorem vwRL_132 : VWk RL 132 7 yX7_tear := ⟨mlRL_132, im_yX7_tear, se_yX7_tear, rfl, by decide⟩
theorem vwRX7_214 : VWk RX7 214 7 yX7_annexAt := ⟨mlRX7_214, im_yX7_annexAt, se_yX7_annexAt, rfl, by decide⟩
theorem vwRX7_247 : VWk RX7 247 0 yX0_annexAt := ⟨mlRX7_247, im_yX0_annexAt, se_yX0_annexAt, rfl, by decide⟩
theorem vwRL_137 : VWk RL 137 7 yX7_write := ⟨mlRL_137, im_yX7_write, se_yX7_write, rfl, by decide⟩
theorem vwRX7_222 : VWk RX7 222 1 yX1_put := ⟨mlRX7_222, im_yX1_put, se_yX1_put, rfl, by decide⟩
theorem vwRX1_19 : VWk RX1 19 1 yX1_cut := ⟨mlRX1_19, im_yX1_cut, se_yX1_cut, rfl, by decide⟩
theorem vwRL_142 : VWk RL 142 7 yX7_read := ⟨mlRL_142, im_yX7_read, se_yX7_read, rfl, by decide⟩
theorem vwRX7_226 : VWk RX7 226 1 yX1_get := ⟨mlRX7_226, im_yX1_get, se_yX1_get, rfl, by decide⟩
theorem vwRL_147 : VWk RL 147 7 yX7_size := ⟨mlRL_147, im_yX7_size, se_yX7_size, rfl, by decide⟩
theorem vwRL_151 : VWk RL 151 7 yX7_copy := ⟨mlRL_151, im_yX7_copy, se_yX7_copy, rfl, by decide⟩
theorem vwRX7_233 : VWk RX7 233 1 yX1_hasRange := ⟨mlRX7_233, im_yX1_hasRange, se_yX1_hasRange, rfl, by decide⟩
theorem vwRL_155 : VWk RL 155 7 yX7_count := ⟨mlRL_155, im_yX7_count, se_yX7_count, rfl, by decide⟩
theorem vwRX7_243 : VWk RX7 243 0 yX0_detail := ⟨mlRX7_243, im_yX0_detail, se_yX0_detail, rfl, by decide⟩
theorem vwRL_17 : VWk RL 17 8 yX8_party := ⟨mlRL_17, im_yX8_party, se_yX8_party, rfl, by decide⟩
theorem vwRL_22 : VWk RL 22 8 yX8_agreement := ⟨mlRL_22, im_yX8_agreement, se_yX8_agreement, rfl, by decide⟩
theorem vwRL_27 : VWk RL 27 8 yX8_article := ⟨mlRL_27, im_yX8_article, se_yX8_article, rfl, by decide⟩
theorem vwRX8_93 : VWk RX8 93 8 yX8_isArticle := ⟨mlRX8_93, im_yX8_isArticle, se_yX8_isArticle, rfl, by decide⟩
theorem vwRX8_85 : VWk RX8 85 8 yX8_isAgreement := ⟨mlRX8_85, im_yX8_isAgreement, se_yX8_isAgreement, rfl, by decide⟩
theorem vwRL_32 : VWk RL 32 8 yX8_clock := ⟨mlRL_32, im_yX8_clock, se_yX8_clock, rfl, by decide⟩
theorem vwRL_37 : VWk RL 37 8 yX8_sign := ⟨mlRL_37, im_yX8_sign, se_yX8_sign, rfl, by decide⟩
theorem vwRX8_115 : VWk RX8 115 8 yX8_isParty := ⟨mlRX8_115, im_yX8_isParty, se_yX8_isParty, rfl, by decide⟩
theorem vwRX8_118 : VWk RX8 118 8 yX8_isFull := ⟨mlRX8_118, im_yX8_isFull, se_yX8_isFull, rfl, by decide⟩
theorem vwRX8_122 : VWk RX8 122 8 yX8_hasSign := ⟨mlRX8_122, im_yX8_hasSign, se_yX8_hasSign, rfl, by decide⟩
theorem vwRX8_125 : VWk RX8 125 8 yX8_lodge := ⟨mlRX8_125, im_yX8_lodge, se_yX8_lodge, rfl, by decide⟩
theorem vwRL_41 : VWk RL 41 8 yX8_ratify := ⟨mlRL_41, im_yX8_ratify, se_yX8_ratify, rfl, by decide⟩
theorem vwRX8_129 : VWk RX8 129 8 yX8_belongs := ⟨mlRX8_129, im_yX8_belongs, se_yX8_belongs, rfl, by decide⟩
theorem vwRX8_101 : VWk RX8 101 8 yX8_isMembership := ⟨mlRX8_101, im_yX8_isMembership, se_yX8_isMembership, rfl, by decide⟩
theorem vwRL_45 : VWk RL 45 8 yX8_join := ⟨mlRL_45, im_yX8_join, se_yX8_join, rfl, by decide⟩
theorem vwRL_49 : VWk RL 49 8 yX8_reserve := ⟨mlRL_49, im_yX8_reserve, se_yX8_reserve, rfl, by decide⟩
theorem vwRL_54 : VWk RL 54 8 yX8_object := ⟨mlRL_54, im_yX8_object, se_yX8_object, rfl, by decide⟩
theorem vwRX8_136 : VWk RX8 136 8 yX8_isPaper := ⟨mlRX8_136, im_yX8_isPaper, se_yX8_isPaper, rfl, by decide⟩
theorem vwRX8_112 : VWk RX8 112 8 yX8_isHeld := ⟨mlRX8_112, im_yX8_isHeld, se_yX8_isHeld, rfl, by decide⟩
theorem vwRX8_104 : VWk RX8 104 8 yX8_stands := ⟨mlRX8_104, im_yX8_stands, se_yX8_stands, rfl, by decide⟩
theorem vwRX8_139 : VWk RX8 139 8 yX8_isSaid := ⟨mlRX8_139, im_yX8_isSaid, se_yX8_isSaid, rfl, by decide⟩
theorem vwRX8_133 : VWk RX8 133 8 yX8_isWithdrawn := ⟨mlRX8_133, im_yX8_isWithdrawn, se_yX8_isWithdrawn, rfl, by decide⟩
theorem vwRL_58 : VWk RL 58 8 yX8_withdraw := ⟨mlRL_58, im_yX8_withdraw, se_yX8_withdraw, rfl, by decide⟩
theorem vwRL_62 : VWk RL 62 8 yX8_change := ⟨mlRL_62, im_yX8_change, se_yX8_change, rfl, by decide⟩
theorem vwRL_66 : VWk RL 66 8 yX8_consent := ⟨mlRL_66, im_yX8_consent, se_yX8_consent, rfl, by decide⟩
theorem vwRL_71 : VWk RL 71 8 yX8_follow := ⟨mlRL_71, im_yX8_follow, se_yX8_follow, rfl, by decide⟩
theorem vwRL_78 : VWk RL 78 8 yX8_note := ⟨mlRL_78, im_yX8_note, se_yX8_note, rfl, by decide⟩
theorem vwRL_82 : VWk RL 82 8 yX8_undo := ⟨mlRL_82, im_yX8_undo, se_yX8_undo, rfl, by decide⟩
theorem vwRL_87 : VWk RL 87 8 yX8_between := ⟨mlRL_87, im_yX8_between, se_yX8_between, rfl, by decide⟩
theorem vwRX8_179 : VWk RX8 179 8 yX8_isAsked := ⟨mlRX8_179, im_yX8_isAsked, se_yX8_isAsked, rfl, by decide⟩
theorem vwRX8_185 : VWk RX8 185 8 yX8_finds := ⟨mlRX8_185, im_yX8_finds, se_yX8_finds, rfl, by decide⟩
theorem vwRX8_108 : VWk RX8 108 8 yX8_memberOf := ⟨mlRX8_108, im_yX8_memberOf, se_yX8_memberOf, rfl, by decide⟩
theorem vwRX8_156 : VWk RX8 156 8 yX8_manyMembers := ⟨mlRX8_156, im_yX8_manyMembers, se_yX8_manyMembers, rfl, by decide⟩
theorem vwRX8_146 : VWk RX8 146 8 yX8_because := ⟨mlRX8_146, im_yX8_because, se_yX8_because, rfl, by decide⟩
theorem vwRX8_160 : VWk RX8 160 8 yX8_strong := ⟨mlRX8_160, im_yX8_strong, se_yX8_strong, rfl, by decide⟩
theorem vwRX8_143 : VWk RX8 143 8 yX8_hasPaper := ⟨mlRX8_143, im_yX8_hasPaper, se_yX8_hasPaper, rfl, by decide⟩
theorem vwRX8_168 : VWk RX8 168 8 yX8_leans := ⟨mlRX8_168, im_yX8_leans, se_yX8_leans, rfl, by decide⟩
theorem vwRX8_171 : VWk RX8 171 8 yX8_leastTo := ⟨mlRX8_171, im_yX8_leastTo, se_yX8_leastTo, rfl, by decide⟩
theorem vwRX8_175 : VWk RX8 175 8 yX8_changes := ⟨mlRX8_175, im_yX8_changes, se_yX8_changes, rfl, by decide⟩
theorem vwRL_91 : VWk RL 91 8 yX8_words := ⟨mlRL_91, im_yX8_words, se_yX8_words, rfl, by decide⟩
theorem vwRL_96 : VWk RL 96 8 yX8_why := ⟨mlRL_96, im_yX8_why, se_yX8_why, rfl, by decide⟩
theorem vwRL_100 : VWk RL 100 8 yX8_first := ⟨mlRL_100, im_yX8_first, se_yX8_first, rfl, by decide⟩
theorem vwRX8_188 : VWk RX8 188 8 yX8_effectBelow := ⟨mlRX8_188, im_yX8_effectBelow, se_yX8_effectBelow, rfl, by decide⟩
theorem vwRL_104 : VWk RL 104 8 yX8_member := ⟨mlRL_104, im_yX8_member, se_yX8_member, rfl, by decide⟩
theorem vwRL_108 : VWk RL 108 8 yX8_members := ⟨mlRL_108, im_yX8_members, se_yX8_members, rfl, by decide⟩
theorem vwRL_113 : VWk RL 113 8 yX8_since := ⟨mlRL_113, im_yX8_since, se_yX8_since, rfl, by decide⟩
theorem vwRL_118 : VWk RL 118 8 yX8_has := ⟨mlRL_118, im_yX8_has, se_yX8_has, rfl, by decide⟩
theorem vwRL_122 : VWk RL 122 8 yX8_paper := ⟨mlRL_122, im_yX8_paper, se_yX8_paper, rfl, by decide⟩
theorem vwRL_127 : VWk RL 127 8 yX8_noted := ⟨mlRL_127, im_yX8_noted, se_yX8_noted, rfl, by decide⟩
theorem vwRL_131 : VWk RL 131 8 yX8_annex := ⟨mlRL_131, im_yX8_annex, se_yX8_annex, rfl, by decide⟩
theorem vwRL_136 : VWk RL 136 8 yX8_tear := ⟨mlRL_136, im_yX8_tear, se_yX8_tear, rfl, by decide⟩
theorem vwRX8_192 : VWk RX8 192 8 yX8_isAnnex := ⟨mlRX8_192, im_yX8_isAnnex, se_yX8_isAnnex, rfl, by decide⟩
theorem vwRL_141 : VWk RL 141 8 yX8_write := ⟨mlRL_141, im_yX8_write, se_yX8_write, rfl, by decide⟩
theorem vwRX8_195 : VWk RX8 195 8 yX8_wrong := ⟨mlRX8_195, im_yX8_wrong, se_yX8_wrong, rfl, by decide⟩
theorem vwRL_146 : VWk RL 146 8 yX8_read := ⟨mlRL_146, im_yX8_read, se_yX8_read, rfl, by decide⟩
theorem vwRL_150 : VWk RL 150 8 yX8_size := ⟨mlRL_150, im_yX8_size, se_yX8_size, rfl, by decide⟩
theorem vwRL_154 : VWk RL 154 8 yX8_copy := ⟨mlRL_154, im_yX8_copy, se_yX8_copy, rfl, by decide⟩
theorem vwRL_158 : VWk RL 158 8 yX8_count := ⟨mlRL_158, im_yX8_count, se_yX8_count, rfl, by decide⟩
