/-! the last two methods -/
def vs_0 : (Nat → Int32) × (Nat → Int32) := (fun _ => 0, fun _ => -2)
def vs_S (f : Nat) (L R : Nat → List Int64) (fr : Bool) (pc fo : Nat → Int32) : (Nat → Int32) × (Nat → Int32) := if fr = true then (pc, fo) else vs_n f L R 1920 0 vs_0
section
variable {f_drafted f_faultPlace f_reportedSteps f_resultSize f_sheetSize f_waitingSize f_builtSize f_unfinished f_taken f_keptSize f_stacked f_ranked f_surveyed : Int32} {a_draft a_result a_lefts a_rights a_sheet a_waiting a_built a_kept a_joint : Nat → Int64} {a_leftSize a_ways a_rightSize a_unfinishedStart a_unfinishedLacks a_matchStart a_matchEnd a_unified a_oneStack a_otherStack a_nestedAt a_nestedEnd a_rank a_pairCount a_firstOpen : Nat → Int32}
variable {L R : Nat → List Int64}
theorem xs_any {post : SX → Prop} {f : Nat} {fr : Bool} {pc fo : Nat → Int32} (hf : f = 10000000) (hG : mc_G L R) (hRr : xr_R L R a_lefts a_leftSize a_ways a_rights a_rightSize) (h0 : f_surveyed = (if fr = true then 1 else 0)) (hc : fr = true → (∀ k, k < 4 → a_pairCount k = pc k) ∧ ∀ k, k < 3 → a_firstOpen k = fo k) (H : ∀ s, vs_e s (vs_S f L R fr pc fo) → xs_Q (fun f_drafted0 f_faultPlace0 f_reportedSteps0 f_resultSize0 f_sheetSize0 f_waitingSize0 f_builtSize0 f_unfinished0 f_taken0 f_keptSize0 f_stacked0 f_ranked0 f_surveyed0 a_draft0 a_result0 a_lefts0 a_leftSize0 a_ways0 a_rights0 a_rightSize0 a_sheet0 a_waiting0 a_built0 a_unfinishedStart0 a_unfinishedLacks0 a_kept0 a_matchStart0 a_matchEnd0 a_joint0 a_unified0 a_oneStack0 a_otherStack0 a_nestedAt0 a_nestedEnd0 a_rank0 a_pairCount0 a_firstOpen0 => post (f_drafted0, f_faultPlace0, f_reportedSteps0, f_resultSize0, f_sheetSize0, f_waitingSize0, f_builtSize0, f_unfinished0, f_taken0, f_keptSize0, f_stacked0, f_ranked0, f_surveyed0, a_draft0, a_result0, a_lefts0, a_leftSize0, a_ways0, a_rights0, a_rightSize0, a_sheet0, a_waiting0, a_built0, a_unfinishedStart0, a_unfinishedLacks0, a_kept0, a_matchStart0, a_matchEnd0, a_joint0, a_unified0, a_oneStack0, a_otherStack0, a_nestedAt0, a_nestedEnd0, a_rank0, a_pairCount0, a_firstOpen0)) f_drafted f_faultPlace f_reportedSteps f_resultSize 1 a_draft a_result a_lefts a_leftSize a_ways a_rights a_rightSize s.1 s.2) : wpX_survey post (f_drafted, f_faultPlace, f_reportedSteps, f_resultSize, f_sheetSize, f_waitingSize, f_builtSize, f_unfinished, f_taken, f_keptSize, f_stacked, f_ranked, f_surveyed, a_draft, a_result, a_lefts, a_leftSize, a_ways, a_rights, a_rightSize, a_sheet, a_waiting, a_built, a_unfinishedStart, a_unfinishedLacks, a_kept, a_matchStart, a_matchEnd, a_joint, a_unified, a_oneStack, a_otherStack, a_nestedAt, a_nestedEnd, a_rank, a_pairCount, a_firstOpen) := by
  cases fr with
  | true =>
    have h1 : f_surveyed = 1 := h0
    subst h1
    exact br_f (by decide) (H (a_pairCount, a_firstOpen) (hc rfl) _ _ _ _ _ _ _ _ _ _ _ _ _ _ _ _ _ _ _ _ _ _ _)
  | false =>
    have h1 : f_surveyed = 0 := h0
    refine xs_survey hf hG hRr h1 (fun pc' fo' g1 g2 => ?_)
    intro f_sheetSize f_waitingSize f_builtSize f_unfinished f_taken f_keptSize f_stacked f_ranked a_sheet a_waiting a_built a_unfinishedStart a_unfinishedLacks a_kept a_matchStart a_matchEnd a_joint a_unified a_oneStack a_otherStack a_nestedAt a_nestedEnd a_rank
    exact H (vs_n f L R 1920 0 (pc', fo')) (vs_en 1920 0 (pc', fo') vs_0 ⟨g1, g2⟩) _ _ _ _ _ _ _ _ _ _ _ _ _ _ _ _ _ _ _ _ _ _ _
end
section
variable {f_place f_count f_top f_done f_open f_steps f_shownSteps f_fault f_in f_made f_old f_size f_heads f_fresh : Int32} {a_kind a_value a_all a_split a_toKind a_doneKind a_toValue a_doneValue a_begins a_lacks a_inKind a_leftKind a_madeKind a_oldKind a_resultKind a_inValue a_leftValue a_madeValue a_oldValue a_resultValue a_from a_to a_whole a_known a_bound a_whose a_rank a_one a_two a_oneOf a_twoOf a_headAt a_headOf a_headLeft a_pairs a_first : Nat → Int32}
variable {L R : Nat → List Int64}
theorem ys_any {post : SY → Prop} {f : Nat} {fr : Bool} {pc fo : Nat → Int32} (hf : f = 10000000) (hG : mc_G L R) (hRr : yr_R L R a_kind a_value a_all a_split) (h0 : f_fresh = (if fr = true then 1 else 0)) (hc : fr = true → (∀ k, k < 4 → a_pairs k = pc k) ∧ ∀ k, k < 3 → a_first k = fo k) (H : ∀ s, vs_e s (vs_S f L R fr pc fo) → ys_Q post f_place f_shownSteps f_size 1 a_kind a_value a_all a_split a_resultKind a_resultValue s.1 s.2) : wpY_survey post (f_place, f_count, f_top, f_done, f_open, f_steps, f_shownSteps, f_fault, f_in, f_made, f_old, f_size, f_heads, f_fresh, a_kind, a_value, a_all, a_split, a_toKind, a_doneKind, a_toValue, a_doneValue, a_begins, a_lacks, a_inKind, a_leftKind, a_madeKind, a_oldKind, a_resultKind, a_inValue, a_leftValue, a_madeValue, a_oldValue, a_resultValue, a_from, a_to, a_whole, a_known, a_bound, a_whose, a_rank, a_one, a_two, a_oneOf, a_twoOf, a_headAt, a_headOf, a_headLeft, a_pairs, a_first) := by
  cases fr with
  | true =>
    have h1 : f_fresh = 1 := h0
    subst h1
    exact br_f (by decide) (H (a_pairs, a_first) (hc rfl) _ _ _ _ _ _ _ _ _ _ _ _ _ _ _ _ _ _ _ _ _ _ _ _ _ _ _ _ _ _ _ _ _ _ _ _ _ _)
  | false =>
    have h1 : f_fresh = 0 := h0
    refine ys_survey hf hG hRr h1 (fun pc' fo' g1 g2 => ?_)
    exact H (vs_n f L R 1920 0 (pc', fo')) (vs_en 1920 0 (pc', fo') vs_0 ⟨g1, g2⟩)
end
theorem i_vc_pairs {k : Nat} {u : SX} {v : SY} (I : i_Rel k u v) (hk : k + 3 ≤ 1536) (v1 : Int32) : wpX_pairs (fun r u' => wpY_pairs (fun r' v' => r' = r ∧ i_Rel (k + 3) u' v') v v1) u v1 := by
  obtain ⟨f_drafted, f_faultPlace, f_reportedSteps, f_resultSize, f_sheetSize, f_waitingSize, f_builtSize, f_unfinished, f_taken, f_keptSize, f_stacked, f_ranked, f_surveyed, a_draft, a_result, a_lefts, a_leftSize, a_ways, a_rights, a_rightSize, a_sheet, a_waiting, a_built, a_unfinishedStart, a_unfinishedLacks, a_kept, a_matchStart, a_matchEnd, a_joint, a_unified, a_oneStack, a_otherStack, a_nestedAt, a_nestedEnd, a_rank, a_pairCount, a_firstOpen⟩ := u
  obtain ⟨f_place', f_count', f_top', f_done', f_open', f_steps', f_shownSteps', f_fault', f_in', f_made', f_old', f_size', f_heads', f_fresh', a_kind', a_value', a_all', a_split', a_toKind', a_doneKind', a_toValue', a_doneValue', a_begins', a_lacks', a_inKind', a_leftKind', a_madeKind', a_oldKind', a_resultKind', a_inValue', a_leftValue', a_madeValue', a_oldValue', a_resultValue', a_from', a_to', a_whole', a_known', a_bound', a_whose', a_rank', a_one', a_two', a_oneOf', a_twoOf', a_headAt', a_headOf', a_headLeft', a_pairs', a_first'⟩ := v
  have J := I
  obtain ⟨D, Q, L, R, pl, st, fr, pc, fo, hG, ⟨x1, x2, x3, x4, x5, x6, x7, x8, x9⟩, ⟨y1, y2, y3, y4, y5, y6, y7, y8, y9⟩⟩ := I
  obtain ⟨f, hf⟩ : ∃ f, f = 10000000 := ⟨_, rfl⟩
  by_cases h0 : v1 < 0
  · exact br_t h0 (br_t h0 ⟨rfl, J⟩)
  · obtain ⟨m, hm, rfl⟩ := nI_of h0
    refine br_f h0 (pk_le m 3 (fun h3 => ?_) (fun h3 => br_f h0 (pk_le m 3 (fun z => absurd z (by omega)) (fun _ => ⟨rfl, J⟩))))
    have hin : vp_in (nI m) 4 := vp_in_nI (by omega) (by omega)
    have ec : (nI m).toNatClampNeg = m := nI_clamp (by omega)
    refine xs_any (pc := pc) (fo := fo) (fr := fr) hf hG.2.2.2.2 x7 x8 x9 (fun s hs => ?_)
    intro f_sheetSize f_waitingSize f_builtSize f_unfinished f_taken f_keptSize f_stacked f_ranked a_sheet a_waiting a_built a_unfinishedStart a_unfinishedLacks a_kept a_matchStart a_matchEnd a_joint a_unified a_oneStack a_otherStack a_nestedAt a_nestedEnd a_rank
    refine ⟨hin, br_f h0 (pk_le m 3 (fun _ => ?_) (fun z => absurd z (by omega)))⟩
    refine ys_any (pc := pc) (fo := fo) (fr := fr) hf hG.2.2.2.2 y7 y8 y9 (fun s' hs' => ?_)
    intro f_count f_top f_done f_open f_steps f_fault f_in f_made f_old f_heads a_toKind a_doneKind a_toValue a_doneValue a_begins a_lacks a_inKind a_leftKind a_madeKind a_oldKind a_inValue a_leftValue a_madeValue a_oldValue a_from a_to a_whole a_known a_bound a_whose a_rank a_one a_two a_oneOf a_twoOf a_headAt a_headOf a_headLeft
    refine ⟨hin, ?_, ?_⟩
    · rw [ec]
      exact (hs'.1 m (by omega)).trans (hs.1 m (by omega)).symm
    · exact ⟨D, Q, L, R, pl, st, true, (vs_S f L R fr pc fo).1, (vs_S f L R fr pc fo).2, hG, ⟨x1, x2, x3, x4, x5, x6, x7, rfl, fun _ => hs⟩, ⟨y1, y2, y3, y4, y5, y6, y7, rfl, fun _ => hs'⟩⟩
theorem i_vc_open {k : Nat} {u : SX} {v : SY} (I : i_Rel k u v) (hk : k + 3 ≤ 1536) (v1 : Int32) : wpX_open (fun r u' => wpY_open (fun r' v' => r' = r ∧ i_Rel (k + 3) u' v') v v1) u v1 := by
  obtain ⟨f_drafted, f_faultPlace, f_reportedSteps, f_resultSize, f_sheetSize, f_waitingSize, f_builtSize, f_unfinished, f_taken, f_keptSize, f_stacked, f_ranked, f_surveyed, a_draft, a_result, a_lefts, a_leftSize, a_ways, a_rights, a_rightSize, a_sheet, a_waiting, a_built, a_unfinishedStart, a_unfinishedLacks, a_kept, a_matchStart, a_matchEnd, a_joint, a_unified, a_oneStack, a_otherStack, a_nestedAt, a_nestedEnd, a_rank, a_pairCount, a_firstOpen⟩ := u
  obtain ⟨f_place', f_count', f_top', f_done', f_open', f_steps', f_shownSteps', f_fault', f_in', f_made', f_old', f_size', f_heads', f_fresh', a_kind', a_value', a_all', a_split', a_toKind', a_doneKind', a_toValue', a_doneValue', a_begins', a_lacks', a_inKind', a_leftKind', a_madeKind', a_oldKind', a_resultKind', a_inValue', a_leftValue', a_madeValue', a_oldValue', a_resultValue', a_from', a_to', a_whole', a_known', a_bound', a_whose', a_rank', a_one', a_two', a_oneOf', a_twoOf', a_headAt', a_headOf', a_headLeft', a_pairs', a_first'⟩ := v
  have J := I
  obtain ⟨D, Q, L, R, pl, st, fr, pc, fo, hG, ⟨x1, x2, x3, x4, x5, x6, x7, x8, x9⟩, ⟨y1, y2, y3, y4, y5, y6, y7, y8, y9⟩⟩ := I
  obtain ⟨f, hf⟩ : ∃ f, f = 10000000 := ⟨_, rfl⟩
  by_cases h0 : v1 < 0
  · exact br_t h0 (br_t h0 ⟨rfl, J⟩)
  · obtain ⟨m, hm, rfl⟩ := nI_of h0
    refine br_f h0 (pk_lt m 3 (fun h3 => ?_) (fun h3 => br_f h0 (pk_le m 2 (fun z => absurd z (by omega)) (fun _ => ⟨rfl, J⟩))))
    have hin : vp_in (nI m) 3 := vp_in_nI (by omega) (by omega)
    have ec : (nI m).toNatClampNeg = m := nI_clamp (by omega)
    refine xs_any (pc := pc) (fo := fo) (fr := fr) hf hG.2.2.2.2 x7 x8 x9 (fun s hs => ?_)
    intro f_sheetSize f_waitingSize f_builtSize f_unfinished f_taken f_keptSize f_stacked f_ranked a_sheet a_waiting a_built a_unfinishedStart a_unfinishedLacks a_kept a_matchStart a_matchEnd a_joint a_unified a_oneStack a_otherStack a_nestedAt a_nestedEnd a_rank
    refine ⟨hin, br_f h0 (pk_le m 2 (fun _ => ?_) (fun z => absurd z (by omega)))⟩
    refine ys_any (pc := pc) (fo := fo) (fr := fr) hf hG.2.2.2.2 y7 y8 y9 (fun s' hs' => ?_)
    intro f_count f_top f_done f_open f_steps f_fault f_in f_made f_old f_heads a_toKind a_doneKind a_toValue a_doneValue a_begins a_lacks a_inKind a_leftKind a_madeKind a_oldKind a_inValue a_leftValue a_madeValue a_oldValue a_from a_to a_whole a_known a_bound a_whose a_rank a_one a_two a_oneOf a_twoOf a_headAt a_headOf a_headLeft
    refine ⟨hin, ?_, ?_⟩
    · rw [ec]
      exact (hs'.2 m (by omega)).trans (hs.2 m (by omega)).symm
    · exact ⟨D, Q, L, R, pl, st, true, (vs_S f L R fr pc fo).1, (vs_S f L R fr pc fo).2, hG, ⟨x1, x2, x3, x4, x5, x6, x7, rfl, fun _ => hs⟩, ⟨y1, y2, y3, y4, y5, y6, y7, rfl, fun _ => hs'⟩⟩
