/-! the relation, and the calls that need little -/
def ir_PX (D Q : List Int64) (L R : Nat → List Int64) (pl st : Int32) (fr : Bool) (pc fo : Nat → Int32) (f_drafted f_faultPlace f_reportedSteps f_resultSize f_surveyed : Int32) (a_draft a_result a_lefts : Nat → Int64) (a_leftSize a_ways : Nat → Int32) (a_rights : Nat → Int64) (a_rightSize a_pairCount a_firstOpen : Nat → Int32) : Prop :=
  f_drafted = nI D.length ∧ hd_h a_draft 0 D ∧ f_faultPlace = pl ∧ f_reportedSteps = st ∧ f_resultSize = nI Q.length ∧ hd_h a_result 0 Q ∧ xr_R L R a_lefts a_leftSize a_ways a_rights a_rightSize ∧ f_surveyed = (if fr = true then 1 else 0) ∧ (fr = true → (∀ k, k < 4 → a_pairCount k = pc k) ∧ ∀ k, k < 3 → a_firstOpen k = fo k)
def ir_PY (D Q : List Int64) (L R : Nat → List Int64) (pl st : Int32) (fr : Bool) (pc fo : Nat → Int32) (f_place f_shownSteps f_size f_fresh : Int32) (a_kind a_value a_all a_split a_resultKind a_resultValue a_pairs a_first : Nat → Int32) : Prop :=
  a_all 8 = nI D.length ∧ hd_y tk_kR tk_vR a_kind a_value 240 D ∧ f_place = pl ∧ f_shownSteps = st ∧ f_size = nI Q.length ∧ hd_y tk_kT tk_vT a_resultKind a_resultValue 0 Q ∧ yr_R L R a_kind a_value a_all a_split ∧ f_fresh = (if fr = true then 1 else 0) ∧ (fr = true → (∀ k, k < 4 → a_pairs k = pc k) ∧ ∀ k, k < 3 → a_first k = fo k)
def ir_G (D Q : List Int64) (L R : Nat → List Int64) : Prop := D.length ≤ 30 ∧ (∀ t, t ∈ D → tk_r t) ∧ Q.length ≤ 30 ∧ (∀ t, t ∈ Q → tk_d t) ∧ mc_G L R
def i_Rel (_ : Nat) (u : SX) (v : SY) : Prop := match u, v with
  | (f_drafted, f_faultPlace, f_reportedSteps, f_resultSize, f_sheetSize, f_waitingSize, f_builtSize, f_unfinished, f_taken, f_keptSize, f_stacked, f_ranked, f_surveyed, a_draft, a_result, a_lefts, a_leftSize, a_ways, a_rights, a_rightSize, a_sheet, a_waiting, a_built, a_unfinishedStart, a_unfinishedLacks, a_kept, a_matchStart, a_matchEnd, a_joint, a_unified, a_oneStack, a_otherStack, a_nestedAt, a_nestedEnd, a_rank, a_pairCount, a_firstOpen), (f_place', f_count', f_top', f_done', f_open', f_steps', f_shownSteps', f_fault', f_in', f_made', f_old', f_size', f_heads', f_fresh', a_kind', a_value', a_all', a_split', a_toKind', a_doneKind', a_toValue', a_doneValue', a_begins', a_lacks', a_inKind', a_leftKind', a_madeKind', a_oldKind', a_resultKind', a_inValue', a_leftValue', a_madeValue', a_oldValue', a_resultValue', a_from', a_to', a_whole', a_known', a_bound', a_whose', a_rank', a_one', a_two', a_oneOf', a_twoOf', a_headAt', a_headOf', a_headLeft', a_pairs', a_first') => ∃ D Q L R pl st fr pc fo, ir_G D Q L R ∧ ir_PX D Q L R pl st fr pc fo f_drafted f_faultPlace f_reportedSteps f_resultSize f_surveyed a_draft a_result a_lefts a_leftSize a_ways a_rights a_rightSize a_pairCount a_firstOpen ∧ ir_PY D Q L R pl st fr pc fo f_place' f_shownSteps' f_size' f_fresh' a_kind' a_value' a_all' a_split' a_resultKind' a_resultValue' a_pairs' a_first'
theorem i_up {k : Nat} {u : SX} {v : SY} (h : i_Rel k u v) : i_Rel (k + 3) u v := h
theorem i_vc0 : wpX_init (fun u => wpY_init (fun v => i_Rel 0 u v)) := by
  refine ⟨[], [], fun _ => [], fun _ => [], -1, 0, false, fun _ => 0, fun _ => 0, ⟨by simp, by simp, by simp, by simp, fun r => Or.inl rfl⟩, ⟨rfl, trivial, rfl, rfl, rfl, trivial, fun r hr => ⟨⟨0, 0, rfl, rfl, by omega, by omega⟩, fun _ => rfl, fun z => absurd rfl z⟩, rfl, fun z => absurd z (by decide)⟩, ⟨rfl, trivial, rfl, rfl, rfl, trivial, fun r hr => ⟨fun _ => rfl, fun z => absurd rfl z⟩, rfl, fun z => absurd z (by decide)⟩⟩
theorem tk_tok {j : Nat} (hj : j ≤ 3) (p : Int32) (h0 : j = 0 → p.toBitVec.toNat < 12) (h2 : 2 ≤ j → p.toBitVec.toNat < 4) : tk_r ((nI j).toInt64 * 4294967296 + (p.toInt64 &&& 4294967295)) ∧ tk_kR ((nI j).toInt64 * 4294967296 + (p.toInt64 &&& 4294967295)) = nI j ∧ tk_vR ((nI j).toInt64 * 4294967296 + (p.toInt64 &&& 4294967295)) = p := by
  have hp := p.toBitVec.isLt
  have e : (nI j).toInt64 * 4294967296 + (p.toInt64 &&& 4294967295) = lN (j * 4294967296 + p.toBitVec.toNat) := by
    rw [tk_low, nI_l (by omega), show (4294967296 : Int64) = lN 4294967296 from rfl, lN_mul, lN_add]
  rw [e]
  have hv : tk_vR (lN (j * 4294967296 + p.toBitVec.toNat)) = p := by
    unfold tk_vR
    rw [lN_i, show j * 4294967296 + p.toBitVec.toNat = p.toBitVec.toNat + 4294967296 * j by omega, tk_wrap, tk_nn]
  refine ⟨?_, ?_, hv⟩
  · refine ⟨_, rfl, ?_⟩
    by_cases e0 : j = 0
    · have := h0 e0; omega
    · by_cases e1 : j = 1
      · omega
      · have := h2 (by omega); omega
  · unfold tk_kR
    have l1 : lN (j * 4294967296 + p.toBitVec.toNat) < 4294967296 ↔ j * 4294967296 + p.toBitVec.toNat < 4294967296 := tk_lt 4294967296 (by omega)
    have l2 : lN (j * 4294967296 + p.toBitVec.toNat) < 8589934592 ↔ j * 4294967296 + p.toBitVec.toNat < 8589934592 := tk_lt 8589934592 (by omega)
    have l3 : lN (j * 4294967296 + p.toBitVec.toNat) < 12884901888 ↔ j * 4294967296 + p.toBitVec.toNat < 12884901888 := tk_lt 12884901888 (by omega)
    by_cases e0 : j = 0
    · rw [if_pos (l1.mpr (by omega)), e0]; rfl
    · rw [if_neg (by rw [l1]; omega)]
      by_cases e1 : j = 1
      · rw [if_pos (l2.mpr (by omega)), e1]; rfl
      · rw [if_neg (by rw [l2]; omega)]
        by_cases e2 : j = 2
        · rw [if_pos (l3.mpr (by omega)), e2]; rfl
        · rw [if_neg (by rw [l3]; omega), show j = 3 by omega]; rfl
theorem i_vc_wipe {k : Nat} {u : SX} {v : SY} (I : i_Rel k u v) (hk : k + 3 ≤ 1536) : wpX_wipe (fun r u' => wpY_wipe (fun r' v' => r' = r ∧ i_Rel (k + 3) u' v') v) u := by
  obtain ⟨f_drafted, f_faultPlace, f_reportedSteps, f_resultSize, f_sheetSize, f_waitingSize, f_builtSize, f_unfinished, f_taken, f_keptSize, f_stacked, f_ranked, f_surveyed, a_draft, a_result, a_lefts, a_leftSize, a_ways, a_rights, a_rightSize, a_sheet, a_waiting, a_built, a_unfinishedStart, a_unfinishedLacks, a_kept, a_matchStart, a_matchEnd, a_joint, a_unified, a_oneStack, a_otherStack, a_nestedAt, a_nestedEnd, a_rank, a_pairCount, a_firstOpen⟩ := u
  obtain ⟨f_place', f_count', f_top', f_done', f_open', f_steps', f_shownSteps', f_fault', f_in', f_made', f_old', f_size', f_heads', f_fresh', a_kind', a_value', a_all', a_split', a_toKind', a_doneKind', a_toValue', a_doneValue', a_begins', a_lacks', a_inKind', a_leftKind', a_madeKind', a_oldKind', a_resultKind', a_inValue', a_leftValue', a_madeValue', a_oldValue', a_resultValue', a_from', a_to', a_whole', a_known', a_bound', a_whose', a_rank', a_one', a_two', a_oneOf', a_twoOf', a_headAt', a_headOf', a_headLeft', a_pairs', a_first'⟩ := v
  obtain ⟨D, Q, L, R, pl, st, fr, pc, fo, hG, ⟨x1, x2, x3, x4, x5, x6, x7, x8, x9⟩, ⟨y1, y2, y3, y4, y5, y6, y7, y8, y9⟩⟩ := I
  refine nm_e (nm_r (e' := upd a_all' 8 0) (by rw [vp_nar_byte]; rfl) ⟨y1.trans x1.symm, ?_⟩)
  refine ⟨[], Q, L, R, pl, st, fr, pc, fo, ⟨by simp, by simp, hG.2.2.1, hG.2.2.2.1, hG.2.2.2.2⟩, ⟨rfl, trivial, x3, x4, x5, x6, x7, x8, x9⟩, ⟨pk_us, trivial, y3, y4, y5, y6, fun r hr => ?_, y8, y9⟩⟩
  obtain ⟨q1, q2⟩ := y7 r hr
  rw [pk_un (by omega)]
  exact ⟨q1, q2⟩
theorem i_vc_place {k : Nat} {u : SX} {v : SY} (I : i_Rel k u v) (hk : k + 3 ≤ 1536) : wpX_place (fun r => wpY_place (fun r' => r' = r ∧ i_Rel (k + 3) u v) v) u := by
  obtain ⟨f_drafted, f_faultPlace, f_reportedSteps, f_resultSize, f_sheetSize, f_waitingSize, f_builtSize, f_unfinished, f_taken, f_keptSize, f_stacked, f_ranked, f_surveyed, a_draft, a_result, a_lefts, a_leftSize, a_ways, a_rights, a_rightSize, a_sheet, a_waiting, a_built, a_unfinishedStart, a_unfinishedLacks, a_kept, a_matchStart, a_matchEnd, a_joint, a_unified, a_oneStack, a_otherStack, a_nestedAt, a_nestedEnd, a_rank, a_pairCount, a_firstOpen⟩ := u
  obtain ⟨f_place', f_count', f_top', f_done', f_open', f_steps', f_shownSteps', f_fault', f_in', f_made', f_old', f_size', f_heads', f_fresh', a_kind', a_value', a_all', a_split', a_toKind', a_doneKind', a_toValue', a_doneValue', a_begins', a_lacks', a_inKind', a_leftKind', a_madeKind', a_oldKind', a_resultKind', a_inValue', a_leftValue', a_madeValue', a_oldValue', a_resultValue', a_from', a_to', a_whole', a_known', a_bound', a_whose', a_rank', a_one', a_two', a_oneOf', a_twoOf', a_headAt', a_headOf', a_headLeft', a_pairs', a_first'⟩ := v
  have J := I
  obtain ⟨D, Q, L, R, pl, st, fr, pc, fo, hG, ⟨x1, x2, x3, x4, x5, x6, x7, x8, x9⟩, ⟨y1, y2, y3, y4, y5, y6, y7, y8, y9⟩⟩ := I
  exact ⟨y3.trans x3.symm, J⟩
theorem i_vc_steps {k : Nat} {u : SX} {v : SY} (I : i_Rel k u v) (hk : k + 3 ≤ 1536) : wpX_steps (fun r => wpY_steps (fun r' => r' = r ∧ i_Rel (k + 3) u v) v) u := by
  obtain ⟨f_drafted, f_faultPlace, f_reportedSteps, f_resultSize, f_sheetSize, f_waitingSize, f_builtSize, f_unfinished, f_taken, f_keptSize, f_stacked, f_ranked, f_surveyed, a_draft, a_result, a_lefts, a_leftSize, a_ways, a_rights, a_rightSize, a_sheet, a_waiting, a_built, a_unfinishedStart, a_unfinishedLacks, a_kept, a_matchStart, a_matchEnd, a_joint, a_unified, a_oneStack, a_otherStack, a_nestedAt, a_nestedEnd, a_rank, a_pairCount, a_firstOpen⟩ := u
  obtain ⟨f_place', f_count', f_top', f_done', f_open', f_steps', f_shownSteps', f_fault', f_in', f_made', f_old', f_size', f_heads', f_fresh', a_kind', a_value', a_all', a_split', a_toKind', a_doneKind', a_toValue', a_doneValue', a_begins', a_lacks', a_inKind', a_leftKind', a_madeKind', a_oldKind', a_resultKind', a_inValue', a_leftValue', a_madeValue', a_oldValue', a_resultValue', a_from', a_to', a_whole', a_known', a_bound', a_whose', a_rank', a_one', a_two', a_oneOf', a_twoOf', a_headAt', a_headOf', a_headLeft', a_pairs', a_first'⟩ := v
  have J := I
  obtain ⟨D, Q, L, R, pl, st, fr, pc, fo, hG, ⟨x1, x2, x3, x4, x5, x6, x7, x8, x9⟩, ⟨y1, y2, y3, y4, y5, y6, y7, y8, y9⟩⟩ := I
  exact ⟨y4.trans x4.symm, J⟩
theorem i_vc_size {k : Nat} {u : SX} {v : SY} (I : i_Rel k u v) (hk : k + 3 ≤ 1536) : wpX_size (fun r => wpY_size (fun r' => r' = r ∧ i_Rel (k + 3) u v) v) u := by
  obtain ⟨f_drafted, f_faultPlace, f_reportedSteps, f_resultSize, f_sheetSize, f_waitingSize, f_builtSize, f_unfinished, f_taken, f_keptSize, f_stacked, f_ranked, f_surveyed, a_draft, a_result, a_lefts, a_leftSize, a_ways, a_rights, a_rightSize, a_sheet, a_waiting, a_built, a_unfinishedStart, a_unfinishedLacks, a_kept, a_matchStart, a_matchEnd, a_joint, a_unified, a_oneStack, a_otherStack, a_nestedAt, a_nestedEnd, a_rank, a_pairCount, a_firstOpen⟩ := u
  obtain ⟨f_place', f_count', f_top', f_done', f_open', f_steps', f_shownSteps', f_fault', f_in', f_made', f_old', f_size', f_heads', f_fresh', a_kind', a_value', a_all', a_split', a_toKind', a_doneKind', a_toValue', a_doneValue', a_begins', a_lacks', a_inKind', a_leftKind', a_madeKind', a_oldKind', a_resultKind', a_inValue', a_leftValue', a_madeValue', a_oldValue', a_resultValue', a_from', a_to', a_whole', a_known', a_bound', a_whose', a_rank', a_one', a_two', a_oneOf', a_twoOf', a_headAt', a_headOf', a_headLeft', a_pairs', a_first'⟩ := v
  have J := I
  obtain ⟨D, Q, L, R, pl, st, fr, pc, fo, hG, ⟨x1, x2, x3, x4, x5, x6, x7, x8, x9⟩, ⟨y1, y2, y3, y4, y5, y6, y7, y8, y9⟩⟩ := I
  exact ⟨y5.trans x5.symm, J⟩
theorem tk_show {t : Int64} (h : tk_d t) : ((tk_kT t).toInt64 <<< ((32 : Int32).toInt64 &&& 63)) + ((tk_vT t).toInt64 &&& 4294967295) = t := by
  obtain ⟨n, rfl, hn⟩ := h
  rw [tk_low]
  by_cases h12 : n < 12
  · obtain ⟨h1, h2⟩ := tk_T_sym h12
    rw [h1, h2, pk_tn (by omega)]
    have : (0 : Int32).toInt64 <<< ((32 : Int32).toInt64 &&& 63) = lN 0 := by decide
    rw [this, lN_add, Nat.zero_add]
  · obtain ⟨h1, h2⟩ := tk_T_num (n := n) (by omega) (by omega)
    rw [h1, h2]
    have : (1 : Int32).toInt64 <<< ((32 : Int32).toInt64 &&& 63) = lN 4294967296 := by decide
    have e : (nI n).toBitVec.toNat = n % 4294967296 := rfl
    rw [this, e, lN_add]
    congr 1
    omega
theorem i_vc_at {k : Nat} {u : SX} {v : SY} (I : i_Rel k u v) (hk : k + 3 ≤ 1536) (v1 : Int32) : wpX_at (fun r => wpY_at (fun r' => r' = r ∧ i_Rel (k + 3) u v) v v1) u v1 := by
  obtain ⟨f_drafted, f_faultPlace, f_reportedSteps, f_resultSize, f_sheetSize, f_waitingSize, f_builtSize, f_unfinished, f_taken, f_keptSize, f_stacked, f_ranked, f_surveyed, a_draft, a_result, a_lefts, a_leftSize, a_ways, a_rights, a_rightSize, a_sheet, a_waiting, a_built, a_unfinishedStart, a_unfinishedLacks, a_kept, a_matchStart, a_matchEnd, a_joint, a_unified, a_oneStack, a_otherStack, a_nestedAt, a_nestedEnd, a_rank, a_pairCount, a_firstOpen⟩ := u
  obtain ⟨f_place', f_count', f_top', f_done', f_open', f_steps', f_shownSteps', f_fault', f_in', f_made', f_old', f_size', f_heads', f_fresh', a_kind', a_value', a_all', a_split', a_toKind', a_doneKind', a_toValue', a_doneValue', a_begins', a_lacks', a_inKind', a_leftKind', a_madeKind', a_oldKind', a_resultKind', a_inValue', a_leftValue', a_madeValue', a_oldValue', a_resultValue', a_from', a_to', a_whole', a_known', a_bound', a_whose', a_rank', a_one', a_two', a_oneOf', a_twoOf', a_headAt', a_headOf', a_headLeft', a_pairs', a_first'⟩ := v
  have J := I
  obtain ⟨D, Q, L, R, pl, st, fr, pc, fo, hG, ⟨x1, x2, x3, x4, x5, x6, x7, x8, x9⟩, ⟨y1, y2, y3, y4, y5, y6, y7, y8, y9⟩⟩ := I
  subst x5 y5
  have hQ := hG.2.2.1
  by_cases h0 : v1 < 0
  · exact br_t h0 (br_t h0 ⟨rfl, J⟩)
  · obtain ⟨j, hj, rfl⟩ := nI_of h0
    refine br_f h0 (pk_le Q.length j (fun hq => br_f h0 (pk_lt j Q.length (fun z => absurd z (by omega)) (fun _ => ⟨rfl, J⟩))) (fun hq => ?_))
    refine pk_lt j 30 (fun h30 => ⟨vp_in_nI h30 (by omega), ?_⟩) (fun z => absurd z (by omega))
    have hin : vp_in (nI j) 32 := vp_in_nI (by omega) (by omega)
    refine br_f h0 (pk_lt j Q.length (fun _ => ⟨hin, hin, ?_, J⟩) (fun z => absurd z (by omega)))
    rw [nI_clamp (by omega)]
    have e1 := hd_get x6 hq
    have e2 := hy_get y6 hq
    rw [Nat.zero_add] at e1 e2
    rw [e1, e2.1, e2.2]
    exact tk_show (hG.2.2.2.1 _ (List.getElem_mem hq))
theorem i_vc_token {k : Nat} {u : SX} {v : SY} (I : i_Rel k u v) (hk : k + 3 ≤ 1536) (v1 : Int32) (v2 : Int32) : wpX_token (fun r u' => wpY_token (fun r' v' => r' = r ∧ i_Rel (k + 3) u' v') v v1 v2) u v1 v2 := by
  obtain ⟨f_drafted, f_faultPlace, f_reportedSteps, f_resultSize, f_sheetSize, f_waitingSize, f_builtSize, f_unfinished, f_taken, f_keptSize, f_stacked, f_ranked, f_surveyed, a_draft, a_result, a_lefts, a_leftSize, a_ways, a_rights, a_rightSize, a_sheet, a_waiting, a_built, a_unfinishedStart, a_unfinishedLacks, a_kept, a_matchStart, a_matchEnd, a_joint, a_unified, a_oneStack, a_otherStack, a_nestedAt, a_nestedEnd, a_rank, a_pairCount, a_firstOpen⟩ := u
  obtain ⟨f_place', f_count', f_top', f_done', f_open', f_steps', f_shownSteps', f_fault', f_in', f_made', f_old', f_size', f_heads', f_fresh', a_kind', a_value', a_all', a_split', a_toKind', a_doneKind', a_toValue', a_doneValue', a_begins', a_lacks', a_inKind', a_leftKind', a_madeKind', a_oldKind', a_resultKind', a_inValue', a_leftValue', a_madeValue', a_oldValue', a_resultValue', a_from', a_to', a_whole', a_known', a_bound', a_whose', a_rank', a_one', a_two', a_oneOf', a_twoOf', a_headAt', a_headOf', a_headLeft', a_pairs', a_first'⟩ := v
  have J := I
  obtain ⟨D, Q, L, R, pl, st, fr, pc, fo, hG, ⟨x1, x2, x3, x4, x5, x6, x7, x8, x9⟩, ⟨y1, y2, y3, y4, y5, y6, y7, y8, y9⟩⟩ := I
  subst x1
  have hD := hG.1
  by_cases h0 : v1 < 0
  · exact br_t h0 (br_t h0 ⟨rfl, J⟩)
  · by_cases h3 : 3 < v1
    · exact br_f h0 (br_t h3 (br_f h0 (br_t h3 ⟨rfl, J⟩)))
    · obtain ⟨j, hj, rfl⟩ := nI_of2 (n := 3) (by decide) h0 (Int32.not_lt.mp h3)
      refine br_f h0 (br_f h3 (pk_lt D.length 30 (fun h30 => ?_) (fun h30 => ?_)))
      · have hY30 : ¬ a_all' 8 = 30 := by rw [y1, show (30 : Int32) = nI 30 from rfl, nI_eq (by omega) (by omega)]; omega
        -- the token is taken
        have take : (j = 0 → v2.toBitVec.toNat < 12) → (2 ≤ j → v2.toBitVec.toNat < 4) → (wY_token_53 (fun r' v' => r' = 1 ∧ i_Rel (k + 3) (nI (D.length + 1), f_faultPlace, f_reportedSteps, f_resultSize, f_sheetSize, f_waitingSize, f_builtSize, f_unfinished, f_taken, f_keptSize, f_stacked, f_ranked, f_surveyed, vp_updL a_draft D.length ((nI j).toInt64 * 4294967296 + (v2.toInt64 &&& 4294967295)), a_result, a_lefts, a_leftSize, a_ways, a_rights, a_rightSize, a_sheet, a_waiting, a_built, a_unfinishedStart, a_unfinishedLacks, a_kept, a_matchStart, a_matchEnd, a_joint, a_unified, a_oneStack, a_otherStack, a_nestedAt, a_nestedEnd, a_rank, a_pairCount, a_firstOpen) v') (nI j) v2 f_place' f_count' f_top' f_done' f_open' f_steps' f_shownSteps' f_fault' f_in' f_made' f_old' f_size' f_heads' f_fresh' a_kind' a_value' a_all' a_split' a_toKind' a_doneKind' a_toValue' a_doneValue' a_begins' a_lacks' a_inKind' a_leftKind' a_madeKind' a_oldKind' a_resultKind' a_inValue' a_leftValue' a_madeValue' a_oldValue' a_resultValue' a_from' a_to' a_whole' a_known' a_bound' a_whose' a_rank' a_one' a_two' a_oneOf' a_twoOf' a_headAt' a_headOf' a_headLeft' a_pairs' a_first' → wX_token_52 (fun r u' => wpY_token (fun r' v' => r' = r ∧ i_Rel (k + 3) u' v') (f_place', f_count', f_top', f_done', f_open', f_steps', f_shownSteps', f_fault', f_in', f_made', f_old', f_size', f_heads', f_fresh', a_kind', a_value', a_all', a_split', a_toKind', a_doneKind', a_toValue', a_doneValue', a_begins', a_lacks', a_inKind', a_leftKind', a_madeKind', a_oldKind', a_resultKind', a_inValue', a_leftValue', a_madeValue', a_oldValue', a_resultValue', a_from', a_to', a_whole', a_known', a_bound', a_whose', a_rank', a_one', a_two', a_oneOf', a_twoOf', a_headAt', a_headOf', a_headLeft', a_pairs', a_first') (nI j) v2) (nI j) v2 (nI D.length) f_faultPlace f_reportedSteps f_resultSize f_sheetSize f_waitingSize f_builtSize f_unfinished f_taken f_keptSize f_stacked f_ranked f_surveyed a_draft a_result a_lefts a_leftSize a_ways a_rights a_rightSize a_sheet a_waiting a_built a_unfinishedStart a_unfinishedLacks a_kept a_matchStart a_matchEnd a_joint a_unified a_oneStack a_otherStack a_nestedAt a_nestedEnd a_rank a_pairCount a_firstOpen) → wX_token_52 (fun r u' => wpY_token (fun r' v' => r' = r ∧ i_Rel (k + 3) u' v') (f_place', f_count', f_top', f_done', f_open', f_steps', f_shownSteps', f_fault', f_in', f_made', f_old', f_size', f_heads', f_fresh', a_kind', a_value', a_all', a_split', a_toKind', a_doneKind', a_toValue', a_doneValue', a_begins', a_lacks', a_inKind', a_leftKind', a_madeKind', a_oldKind', a_resultKind', a_inValue', a_leftValue', a_madeValue', a_oldValue', a_resultValue', a_from', a_to', a_whole', a_known', a_bound', a_whose', a_rank', a_one', a_two', a_oneOf', a_twoOf', a_headAt', a_headOf', a_headLeft', a_pairs', a_first') (nI j) v2) (nI j) v2 (nI D.length) f_faultPlace f_reportedSteps f_resultSize f_sheetSize f_waitingSize f_builtSize f_unfinished f_taken f_keptSize f_stacked f_ranked f_surveyed a_draft a_result a_lefts a_leftSize a_ways a_rights a_rightSize a_sheet a_waiting a_built a_unfinishedStart a_unfinishedLacks a_kept a_matchStart a_matchEnd a_joint a_unified a_oneStack a_otherStack a_nestedAt a_nestedEnd a_rank a_pairCount a_firstOpen := by
          intro c0 c2 hw
          refine hw ?_
          obtain ⟨t1, t2, t3⟩ := tk_tok hj v2 c0 c2
          have ei : (240 : Int32) + a_all' 8 = nI (240 + D.length) := by rw [y1]; exact nI_add 240 _
          refine nm_r (e' := upd a_all' 8 (nI (D.length + 1))) (by rw [y1, nI_1, (tk_nb (by omega)).1]) (nm_r ei ?_)
          have hin : vp_in (nI (240 + D.length)) 270 := vp_in_nI (by omega) (by omega)
          refine ⟨hin, nm_r (e' := upd a_kind' (240 + D.length) (tk_kR ((nI j).toInt64 * 4294967296 + (v2.toInt64 &&& 4294967295)))) (by rw [nI_clamp (by omega), (tk_nb (by omega)).1, t2]) ⟨hin, nm_r (e' := upd a_value' (240 + D.length) (tk_vR ((nI j).toInt64 * 4294967296 + (v2.toInt64 &&& 4294967295)))) (by rw [nI_clamp (by omega), t3]) ⟨rfl, ?_⟩⟩⟩
          have hsx := hd_snocL (x := (nI j).toInt64 * 4294967296 + (v2.toInt64 &&& 4294967295)) x2
          rw [Nat.zero_add] at hsx
          refine ⟨D ++ [(nI j).toInt64 * 4294967296 + (v2.toInt64 &&& 4294967295)], Q, L, R, pl, st, fr, pc, fo, ⟨by simp; omega, fun t ht => ?_, hG.2.2.1, hG.2.2.2.1, hG.2.2.2.2⟩, ⟨by simp, hsx, x3, x4, x5, x6, x7, x8, x9⟩, ⟨by rw [pk_us]; simp, hy_snoc (240 + D.length) rfl y2, y3, y4, y5, y6, fun r hr => ?_, y8, y9⟩⟩
          · rcases List.mem_append.mp ht with h | h
            · exact hG.2.1 t h
            · rw [List.mem_singleton] at h; rw [h]; exact t1
          · obtain ⟨q1, q2⟩ := y7 r hr
            rw [pk_un (by omega)]
            refine ⟨q1, fun h => ?_⟩
            obtain ⟨p1, p2, p3⟩ := q2 h
            rcases hG.2.2.2.2 r with g | g
            · exact absurd g h
            · exact ⟨p1, p2, hy_upd p3 (Or.inr (by rw [List.length_append]; have := g.2.2.1; omega))⟩
        have store : ∀ (P : Int32 → SX → Prop), P 1 (nI (D.length + 1), f_faultPlace, f_reportedSteps, f_resultSize, f_sheetSize, f_waitingSize, f_builtSize, f_unfinished, f_taken, f_keptSize, f_stacked, f_ranked, f_surveyed, vp_updL a_draft D.length ((nI j).toInt64 * 4294967296 + (v2.toInt64 &&& 4294967295)), a_result, a_lefts, a_leftSize, a_ways, a_rights, a_rightSize, a_sheet, a_waiting, a_built, a_unfinishedStart, a_unfinishedLacks, a_kept, a_matchStart, a_matchEnd, a_joint, a_unified, a_oneStack, a_otherStack, a_nestedAt, a_nestedEnd, a_rank, a_pairCount, a_firstOpen) → wX_token_52 P (nI j) v2 (nI D.length) f_faultPlace f_reportedSteps f_resultSize f_sheetSize f_waitingSize f_builtSize f_unfinished f_taken f_keptSize f_stacked f_ranked f_surveyed a_draft a_result a_lefts a_leftSize a_ways a_rights a_rightSize a_sheet a_waiting a_built a_unfinishedStart a_unfinishedLacks a_kept a_matchStart a_matchEnd a_joint a_unified a_oneStack a_otherStack a_nestedAt a_nestedEnd a_rank a_pairCount a_firstOpen := by
          intro P hp
          refine ⟨vp_in_nI h30 (by omega), nm_r (e' := vp_updL a_draft D.length ((nI j).toInt64 * 4294967296 + (v2.toInt64 &&& 4294967295))) (by rw [nI_clamp (by omega)]) (nm_r (nI_1 _) hp)⟩
        by_cases hv0 : v2 < 0
        · refine pk_eq j 0 (fun e0 => br_t hv0 (br_f h0 (br_f h3 (br_f hY30 (pk_eq j 0 (fun _ => br_t hv0 ⟨rfl, J⟩) (fun z => absurd e0 z)))))) (fun e0 => ?_)
          refine pk_lt j 2 (fun e2 => ?_) (fun e2 => ?_)
          · refine take (fun z => absurd z e0) (fun z => absurd z (by omega)) (fun hY => store _ (br_f h0 (br_f h3 (br_f hY30 (pk_eq j 0 (fun z => absurd z e0) (fun _ => pk_le j 1 (fun _ => hY) (fun z => absurd z (by omega))))))))
          · refine br_t hv0 (br_f h0 (br_f h3 (br_f hY30 (pk_eq j 0 (fun z => absurd z e0) (fun _ => pk_le j 1 (fun z => absurd z (by omega)) (fun _ => br_t hv0 ⟨rfl, J⟩))))))
        · obtain ⟨n, hn, rfl⟩ := nI_of hv0
          have hnn : (nI n).toBitVec.toNat = n := pk_tn (by omega)
          rw [hnn] at take
          refine pk_eq j 0 (fun e0 => br_f hv0 (pk_lt n 12 (fun h12 => ?_) (fun h12 => ?_))) (fun e0 => ?_)
          · refine pk_lt j 2 (fun _ => ?_) (fun z => absurd z (by omega))
            refine take (fun _ => h12) (fun z => absurd z (by omega)) (fun hY => store _ (br_f h0 (br_f h3 (br_f hY30 (pk_eq j 0 (fun _ => br_f hv0 (pk_lt 11 n (fun z => absurd z (by omega)) (fun _ => pk_le j 1 (fun _ => hY) (fun z => absurd z (by omega))))) (fun z => absurd e0 z))))))
          · exact br_f h0 (br_f h3 (br_f hY30 (pk_eq j 0 (fun _ => br_f hv0 (pk_lt 11 n (fun _ => ⟨rfl, J⟩) (fun z => absurd z (by omega)))) (fun z => absurd e0 z))))
          · refine pk_lt j 2 (fun e2 => ?_) (fun e2 => br_f hv0 (pk_lt n 4 (fun h4 => ?_) (fun h4 => ?_)))
            · refine take (fun z => absurd z e0) (fun z => absurd z (by omega)) (fun hY => store _ (br_f h0 (br_f h3 (br_f hY30 (pk_eq j 0 (fun z => absurd z e0) (fun _ => pk_le j 1 (fun _ => hY) (fun z => absurd z (by omega))))))))
            · refine take (fun z => absurd z e0) (fun _ => h4) (fun hY => store _ (br_f h0 (br_f h3 (br_f hY30 (pk_eq j 0 (fun z => absurd z e0) (fun _ => pk_le j 1 (fun z => absurd z (by omega)) (fun _ => br_f hv0 (pk_le n 3 (fun _ => hY) (fun z => absurd z (by omega))))))))))
            · exact br_f h0 (br_f h3 (br_f hY30 (pk_eq j 0 (fun z => absurd z e0) (fun _ => pk_le j 1 (fun z => absurd z (by omega)) (fun _ => br_f hv0 (pk_le n 3 (fun z => absurd z (by omega)) (fun _ => ⟨rfl, J⟩)))))))
      · have hY30 : a_all' 8 = 30 := by rw [y1, show D.length = 30 by omega]; rfl
        exact br_f h0 (br_f h3 (br_t hY30 ⟨rfl, J⟩))
theorem i_vc_drop {k : Nat} {u : SX} {v : SY} (I : i_Rel k u v) (hk : k + 3 ≤ 1536) (v1 : Int32) : wpX_drop (fun r u' => wpY_drop (fun r' v' => r' = r ∧ i_Rel (k + 3) u' v') v v1) u v1 := by
  obtain ⟨f_drafted, f_faultPlace, f_reportedSteps, f_resultSize, f_sheetSize, f_waitingSize, f_builtSize, f_unfinished, f_taken, f_keptSize, f_stacked, f_ranked, f_surveyed, a_draft, a_result, a_lefts, a_leftSize, a_ways, a_rights, a_rightSize, a_sheet, a_waiting, a_built, a_unfinishedStart, a_unfinishedLacks, a_kept, a_matchStart, a_matchEnd, a_joint, a_unified, a_oneStack, a_otherStack, a_nestedAt, a_nestedEnd, a_rank, a_pairCount, a_firstOpen⟩ := u
  obtain ⟨f_place', f_count', f_top', f_done', f_open', f_steps', f_shownSteps', f_fault', f_in', f_made', f_old', f_size', f_heads', f_fresh', a_kind', a_value', a_all', a_split', a_toKind', a_doneKind', a_toValue', a_doneValue', a_begins', a_lacks', a_inKind', a_leftKind', a_madeKind', a_oldKind', a_resultKind', a_inValue', a_leftValue', a_madeValue', a_oldValue', a_resultValue', a_from', a_to', a_whole', a_known', a_bound', a_whose', a_rank', a_one', a_two', a_oneOf', a_twoOf', a_headAt', a_headOf', a_headLeft', a_pairs', a_first'⟩ := v
  have J := I
  obtain ⟨D, Q, L, R, pl, st, fr, pc, fo, hG, ⟨x1, x2, x3, x4, x5, x6, x7, x8, x9⟩, ⟨y1, y2, y3, y4, y5, y6, y7, y8, y9⟩⟩ := I
  by_cases h0 : v1 < 0
  · exact br_t h0 (br_t h0 ⟨rfl, J⟩)
  · obtain ⟨j, hj, rfl⟩ := nI_of h0
    refine br_f h0 (pk_le 8 j (fun h8 => br_f h0 (pk_lt 7 j (fun _ => ⟨rfl, J⟩) (fun z => absurd z (by omega)))) (fun h8 => ?_))
    have hinX : vp_in (nI j) 8 := vp_in_nI h8 (by omega)
    have hinY : vp_in (nI j) 9 := vp_in_nI (by omega) (by omega)
    have ej : (nI j).toNatClampNeg = j := nI_clamp (by omega)
    obtain ⟨q0, q1, q2⟩ := x7 j h8
    obtain ⟨p1, p2⟩ := y7 j h8
    refine ⟨hinX, ?_⟩
    rw [ej]
    by_cases hL : L j = []
    · refine br_t (q1 hL) (br_f h0 (pk_lt 7 j (fun z => absurd z (by omega)) (fun _ => ⟨hinY, ?_⟩)))
      rw [ej]
      exact br_t (p1 hL) ⟨rfl, J⟩
    · rcases hG.2.2.2.2 j with g | g
      · exact absurd g hL
      have h16 : 2 ^ ru_c9 (L j) ≤ 16 := Nat.le_trans (Nat.pow_le_pow_right (by omega) g.2.2.2.2.2.2.1) (by decide)
      have hpos : 0 < 2 ^ ru_c9 (L j) := Nat.two_pow_pos _
      have hlL := tm_w_len _ _ g.1
      refine br_f (by rw [(q2 hL).1]; exact nI_ne0 hpos (by omega)) ⟨hinX, nm_r (e' := upd a_ways j 0) rfl (br_f h0 (pk_lt 7 j (fun z => absurd z (by omega)) (fun _ => ⟨hinY, ?_⟩)))⟩
      rw [ej]
      refine br_f (by rw [(p2 hL).1]; exact nI_ne0 (by omega) (by have := g.2.2.1; omega)) ⟨hinY, nm_r (e' := upd a_all' j 0) (by rw [vp_nar_byte]; rfl) ⟨rfl, ?_⟩⟩
      refine ⟨D, Q, (fun r => if r = j then [] else L r), R, pl, st, false, pc, fo, ⟨hG.1, hG.2.1, hG.2.2.1, hG.2.2.2.1, fun r => ?_⟩, ⟨x1, x2, x3, x4, x5, x6, fun r hr => ?_, rfl, fun z => absurd z (by decide)⟩, ⟨by rw [pk_un (by omega)]; exact y1, y2, y3, y4, y5, y6, fun r hr => ?_, rfl, fun z => absurd z (by decide)⟩⟩
      · dsimp only
        by_cases e : r = j
        · rw [if_pos e]; exact Or.inl rfl
        · rw [if_neg e]; exact hG.2.2.2.2 r
      · dsimp only
        by_cases e : r = j
        · rw [if_pos e, e]
          exact ⟨q0, fun _ => pk_us, fun z => absurd rfl z⟩
        · rw [if_neg e, pk_un e]; exact x7 r hr
      · dsimp only
        by_cases e : r = j
        · rw [if_pos e, e]
          exact ⟨fun _ => pk_us, fun z => absurd rfl z⟩
        · rw [if_neg e, pk_un e]; exact y7 r hr
