/-! reduce, equal, matching -/
section
variable {f_drafted f_faultPlace f_reportedSteps f_resultSize f_sheetSize f_waitingSize f_builtSize f_unfinished f_taken f_keptSize f_stacked f_ranked f_surveyed : Int32} {a_draft a_result a_lefts a_rights a_sheet a_waiting a_built a_kept a_joint : Nat → Int64} {a_leftSize a_ways a_rightSize a_unfinishedStart a_unfinishedLacks a_matchStart a_matchEnd a_unified a_oneStack a_otherStack a_nestedAt a_nestedEnd a_rank a_pairCount a_firstOpen : Nat → Int32}
theorem xr_60 {post : Int32 → SX → Prop} {x2 : Int32} {B : Nat} (hB : B ≤ 30) : ∀ (l q : List Int64) (k n : Nat) (zr : Nat → Int64), q.length = k → k + l.length = B → hd_h a_built k l → hd_h zr 0 q → l.length < n → (∀ z, hd_h z 0 (q ++ l) → post x2 (f_drafted, f_faultPlace, f_reportedSteps, nI B, f_sheetSize, f_waitingSize, nI B, f_unfinished, f_taken, f_keptSize, f_stacked, f_ranked, f_surveyed, a_draft, z, a_lefts, a_leftSize, a_ways, a_rights, a_rightSize, a_sheet, a_waiting, a_built, a_unfinishedStart, a_unfinishedLacks, a_kept, a_matchStart, a_matchEnd, a_joint, a_unified, a_oneStack, a_otherStack, a_nestedAt, a_nestedEnd, a_rank, a_pairCount, a_firstOpen)) → wX_reduce_60 post x2 f_drafted f_faultPlace f_reportedSteps f_resultSize f_sheetSize f_waitingSize (nI B) f_unfinished f_taken f_keptSize f_stacked f_ranked f_surveyed n (nI k) a_draft zr a_lefts a_leftSize a_ways a_rights a_rightSize a_sheet a_waiting a_built a_unfinishedStart a_unfinishedLacks a_kept a_matchStart a_matchEnd a_joint a_unified a_oneStack a_otherStack a_nestedAt a_nestedEnd a_rank a_pairCount a_firstOpen
  | [], q, k, n, zr, h0, h1, h2, h3, hn, H => by
    obtain ⟨n, rfl⟩ : ∃ n', n = n' + 1 := ⟨n - 1, by omega⟩
    rw [List.length_nil] at h1
    rw [List.append_nil] at H
    exact pk_le B k (fun _ => H zr h3) (fun z => absurd z (by omega))
  | t :: l, q, k, n, zr, h0, h1, h2, h3, hn, H => by
    obtain ⟨n, rfl⟩ : ∃ n', n = n' + 1 := ⟨n - 1, by omega⟩
    rw [List.length_cons] at h1 hn
    refine pk_le B k (fun z => absurd z (by omega)) (fun _ => ?_)
    refine pk_le 30 k (fun z => absurd z (by omega)) (fun _ => ⟨vp_in_nI (by omega) (by omega), vp_in_nI (by omega) (by omega), ?_⟩)
    have e3 : q ++ t :: l = (q ++ [t]) ++ l := by rw [List.append_assoc]; rfl
    rw [e3] at H
    refine nm_r (e' := vp_updL zr k t) (by rw [nI_clamp (by omega), h2.1]) (nm_r (nI_1 k) ?_)
    refine xr_60 hB l (q ++ [t]) (k + 1) n _ (by simp; omega) (by omega) h2.2 ?_ (by omega) H
    have := hd_snocL (x := t) h3
    rwa [Nat.zero_add, h0] at this
theorem xr_15 {post : Int32 → SX → Prop} {N : Nat} (hN : N ≤ 30) : ∀ (l q : List Int64) (k n : Nat) (zb : Nat → Int64), q.length = k → k + l.length = N → hd_h a_draft k l → hd_h zb 0 q → l.length < n → (∀ z, hd_h z 0 (q ++ l) → wpX_ruleFor (fun r u => match u with | (f_drafted0, f_faultPlace0, f_reportedSteps0, f_resultSize0, f_sheetSize0, f_waitingSize0, f_builtSize0, f_unfinished0, f_taken0, f_keptSize0, f_stacked0, f_ranked0, f_surveyed0, a_draft0, a_result0, a_lefts0, a_leftSize0, a_ways0, a_rights0, a_rightSize0, a_sheet0, a_waiting0, a_built0, a_unfinishedStart0, a_unfinishedLacks0, a_kept0, a_matchStart0, a_matchEnd0, a_joint0, a_unified0, a_oneStack0, a_otherStack0, a_nestedAt0, a_nestedEnd0, a_rank0, a_pairCount0, a_firstOpen0) => post r (f_drafted0, f_faultPlace0, f_reportedSteps0, f_resultSize0, f_sheetSize0, f_waitingSize0, f_builtSize0, f_unfinished0, f_taken0, f_keptSize0, f_stacked0, f_ranked0, f_surveyed0, a_draft0, a_result0, a_lefts0, a_leftSize0, a_ways0, a_rights0, a_rightSize0, a_sheet0, a_waiting0, a_built0, a_unfinishedStart0, a_unfinishedLacks0, a_kept0, a_matchStart0, a_matchEnd0, a_joint0, a_unified0, a_oneStack0, a_otherStack0, a_nestedAt0, a_nestedEnd0, a_rank0, a_pairCount0, a_firstOpen0)) (nI N, f_faultPlace, f_reportedSteps, f_resultSize, f_sheetSize, f_waitingSize, nI N, f_unfinished, f_taken, f_keptSize, f_stacked, f_ranked, f_surveyed, a_draft, a_result, a_lefts, a_leftSize, a_ways, a_rights, a_rightSize, a_sheet, a_waiting, z, a_unfinishedStart, a_unfinishedLacks, a_kept, a_matchStart, a_matchEnd, a_joint, a_unified, a_oneStack, a_otherStack, a_nestedAt, a_nestedEnd, a_rank, a_pairCount, a_firstOpen) 0) → wX_matching_15 post (nI N) f_faultPlace f_reportedSteps f_resultSize f_sheetSize f_waitingSize f_builtSize f_unfinished f_taken f_keptSize f_stacked f_ranked f_surveyed n (nI k) a_draft a_result a_lefts a_leftSize a_ways a_rights a_rightSize a_sheet a_waiting zb a_unfinishedStart a_unfinishedLacks a_kept a_matchStart a_matchEnd a_joint a_unified a_oneStack a_otherStack a_nestedAt a_nestedEnd a_rank a_pairCount a_firstOpen
  | [], q, k, n, zb, h0, h1, h2, h3, hn, H => by
    obtain ⟨n, rfl⟩ : ∃ n', n = n' + 1 := ⟨n - 1, by omega⟩
    rw [List.length_nil] at h1
    rw [List.append_nil] at H
    exact pk_le N k (fun _ => H zb h3) (fun z => absurd z (by omega))
  | t :: l, q, k, n, zb, h0, h1, h2, h3, hn, H => by
    obtain ⟨n, rfl⟩ : ∃ n', n = n' + 1 := ⟨n - 1, by omega⟩
    rw [List.length_cons] at h1 hn
    have e3 : q ++ t :: l = (q ++ [t]) ++ l := by rw [List.append_assoc]; rfl
    rw [e3] at H
    refine pk_le N k (fun z => absurd z (by omega)) (fun _ => ⟨vp_in_nI (by omega) (by omega), vp_in_nI (by omega) (by omega), ?_⟩)
    refine nm_r (e' := vp_updL zb k t) (by rw [nI_clamp (by omega), h2.1]) (nm_r (nI_1 k) ?_)
    refine xr_15 hN l (q ++ [t]) (k + 1) n _ (by simp; omega) (by omega) h2.2 ?_ (by omega) H
    have := hd_snocL (x := t) h3
    rwa [Nat.zero_add, h0] at this
end
section
variable {f_place f_count f_top f_done f_open f_steps f_shownSteps f_fault f_in f_made f_old f_size f_heads f_fresh : Int32} {a_kind a_value a_all a_split a_toKind a_doneKind a_toValue a_doneValue a_begins a_lacks a_inKind a_leftKind a_madeKind a_oldKind a_resultKind a_inValue a_leftValue a_madeValue a_oldValue a_resultValue a_from a_to a_whole a_known a_bound a_whose a_rank a_one a_two a_oneOf a_twoOf a_headAt a_headOf a_headLeft a_pairs a_first : Nat → Int32}
theorem yr_17 {post : Int32 → SY → Prop} {N : Nat} (hN : N ≤ 30) (hall : a_all 8 = nI N) : ∀ (l q : List Int64) (k n dn : Nat) (dk dv : Nat → Int32), q.length = k → dn = k → k + l.length = N → hd_y tk_kT tk_vT a_kind a_value (240 + k) l → hd_y tk_kT tk_vT dk dv 0 q → l.length < n → (∀ dk dv, hd_y tk_kT tk_vT dk dv 0 (q ++ l) → ((dk 0 = 1 → wY_matching_81 post (-1) f_place f_count f_top (nI N) f_open f_steps f_shownSteps f_fault f_in f_made f_old f_size f_heads f_fresh a_kind a_value a_all a_split a_toKind dk a_toValue dv a_begins a_lacks a_inKind a_leftKind a_madeKind a_oldKind a_resultKind a_inValue a_leftValue a_madeValue a_oldValue a_resultValue a_from a_to a_whole a_known a_bound a_whose a_rank a_one a_two a_oneOf a_twoOf a_headAt a_headOf a_headLeft a_pairs a_first) ∧ (¬ dk 0 = 1 → wpY_found (fun r u => match u with | (f_place0, f_count0, f_top0, f_done0, f_open0, f_steps0, f_shownSteps0, f_fault0, f_in0, f_made0, f_old0, f_size0, f_heads0, f_fresh0, a_kind0, a_value0, a_all0, a_split0, a_toKind0, a_doneKind0, a_toValue0, a_doneValue0, a_begins0, a_lacks0, a_inKind0, a_leftKind0, a_madeKind0, a_oldKind0, a_resultKind0, a_inValue0, a_leftValue0, a_madeValue0, a_oldValue0, a_resultValue0, a_from0, a_to0, a_whole0, a_known0, a_bound0, a_whose0, a_rank0, a_one0, a_two0, a_oneOf0, a_twoOf0, a_headAt0, a_headOf0, a_headLeft0, a_pairs0, a_first0) => wY_matching_81 post r f_place0 f_count0 f_top0 f_done0 f_open0 f_steps0 f_shownSteps0 f_fault0 f_in0 f_made0 f_old0 f_size0 f_heads0 f_fresh0 a_kind0 a_value0 a_all0 a_split0 a_toKind0 a_doneKind0 a_toValue0 a_doneValue0 a_begins0 a_lacks0 a_inKind0 a_leftKind0 a_madeKind0 a_oldKind0 a_resultKind0 a_inValue0 a_leftValue0 a_madeValue0 a_oldValue0 a_resultValue0 a_from0 a_to0 a_whole0 a_known0 a_bound0 a_whose0 a_rank0 a_one0 a_two0 a_oneOf0 a_twoOf0 a_headAt0 a_headOf0 a_headLeft0 a_pairs0 a_first0) (f_place, f_count, f_top, nI N, f_open, f_steps, f_shownSteps, f_fault, f_in, f_made, f_old, f_size, f_heads, f_fresh, a_kind, a_value, a_all, a_split, a_toKind, dk, a_toValue, dv, a_begins, a_lacks, a_inKind, a_leftKind, a_madeKind, a_oldKind, a_resultKind, a_inValue, a_leftValue, a_madeValue, a_oldValue, a_resultValue, a_from, a_to, a_whole, a_known, a_bound, a_whose, a_rank, a_one, a_two, a_oneOf, a_twoOf, a_headAt, a_headOf, a_headLeft, a_pairs, a_first) 0 (nI N)))) → wY_matching_17 post n (nI k) f_place f_count f_top (nI dn) f_open f_steps f_shownSteps f_fault f_in f_made f_old f_size f_heads f_fresh a_kind a_value a_all a_split a_toKind dk a_toValue dv a_begins a_lacks a_inKind a_leftKind a_madeKind a_oldKind a_resultKind a_inValue a_leftValue a_madeValue a_oldValue a_resultValue a_from a_to a_whole a_known a_bound a_whose a_rank a_one a_two a_oneOf a_twoOf a_headAt a_headOf a_headLeft a_pairs a_first
  | [], q, k, n, dn, dk, dv, h0, hd, h1, h2, h3, hn, H => by
    obtain ⟨n, rfl⟩ : ∃ n', n = n' + 1 := ⟨n - 1, by omega⟩
    rw [List.length_nil] at h1
    rw [List.append_nil] at H
    have e : dn = N := by omega
    subst e
    refine pk_le dn k (fun _ => H dk dv h3) (fun z => absurd z (by omega)) hall rfl
  | t :: l, q, k, n, dn, dk, dv, h0, hd, h1, h2, h3, hn, H => by
    obtain ⟨n, rfl⟩ : ∃ n', n = n' + 1 := ⟨n - 1, by omega⟩
    rw [List.length_cons] at h1 hn
    have e3 : q ++ t :: l = (q ++ [t]) ++ l := by rw [List.append_assoc]; rfl
    rw [e3] at H
    have ei : (240 : Int32) + nI k = nI (240 + k) := nI_add 240 k
    have hin2 : vp_in ((240 : Int32) + nI k) 270 := by rw [ei]; exact vp_in_nI (by omega) (by omega)
    have ec2 : ((240 : Int32) + nI k).toNatClampNeg = 240 + k := by rw [ei]; exact nI_clamp (by omega)
    refine pk_le N k (fun z => absurd z (by omega)) (fun _ => ⟨hin2, hin2, ?_⟩) hall rfl
    rw [ec2, h2.1.1, h2.1.2]
    refine yr_fin dn (by omega) (nm_r (nI_1 k) ?_)
    exact yr_17 hN hall l (q ++ [t]) (k + 1) n (dn + 1) _ _ (by simp; omega) (by omega) (by omega) h2.2 (hy_snoc dn (by omega) h3) (by omega) H
end
theorem i_vc_reduce {k : Nat} {u : SX} {v : SY} (I : i_Rel k u v) (hk : k + 3 ≤ 1536) : wpX_reduce (fun r u' => wpY_reduce (fun r' v' => r' = r ∧ i_Rel (k + 3) u' v') v) u := by
  obtain ⟨f_drafted, f_faultPlace, f_reportedSteps, f_resultSize, f_sheetSize, f_waitingSize, f_builtSize, f_unfinished, f_taken, f_keptSize, f_stacked, f_ranked, f_surveyed, a_draft, a_result, a_lefts, a_leftSize, a_ways, a_rights, a_rightSize, a_sheet, a_waiting, a_built, a_unfinishedStart, a_unfinishedLacks, a_kept, a_matchStart, a_matchEnd, a_joint, a_unified, a_oneStack, a_otherStack, a_nestedAt, a_nestedEnd, a_rank, a_pairCount, a_firstOpen⟩ := u
  obtain ⟨f_place', f_count', f_top', f_done', f_open', f_steps', f_shownSteps', f_fault', f_in', f_made', f_old', f_size', f_heads', f_fresh', a_kind', a_value', a_all', a_split', a_toKind', a_doneKind', a_toValue', a_doneValue', a_begins', a_lacks', a_inKind', a_leftKind', a_madeKind', a_oldKind', a_resultKind', a_inValue', a_leftValue', a_madeValue', a_oldValue', a_resultValue', a_from', a_to', a_whole', a_known', a_bound', a_whose', a_rank', a_one', a_two', a_oneOf', a_twoOf', a_headAt', a_headOf', a_headLeft', a_pairs', a_first'⟩ := v
  obtain ⟨D, Q, L, R, pl, st, fr, pc, fo, hG, ⟨x1, x2, x3, x4, x5, x6, x7, x8, x9⟩, ⟨y1, y2, y3, y4, y5, y6, y7, y8, y9⟩⟩ := I
  subst x1
  obtain ⟨hD, hDr, hQ, hQd, hGG⟩ := hG
  obtain ⟨r, rX, rY, rG⟩ := fa_12 (D := D) D.length 1 rfl hD (by omega) (by omega) x2 y2 y1 hDr
  unfold wpX_reduce
  dsimp only
  refine rX _ ?_
  rcases rG with ⟨e, hw, htd⟩ | ⟨q, hq, e⟩
  · subst e
    refine br_t (by decide) ?_
    refine xn_take (l := D) 0 D.length (by omega) hD x2 (fun zs hz => ?_)
    refine xn_nf (P := tk_d) (q := D) D.length 0 (fun x => tk_d_t) (fun x h => h) hGG x7 hw hD htd (by omega) rfl hz (fun c t' s' hrun ss ws bs uf zs' zw zb us ul ms me hc => ?_)
    obtain ⟨c1, t1, s1, o1, o2, o3, o4⟩ := mc_run_ok (P := tk_d) (fun x h => h) hGG 4000 D [] 0 none (mc_I0 hw hD htd (by omega)).1 (mc_I0 (P := tk_d) hw hD htd (by omega)).2
    rw [hrun] at o1
    injection o1 with o1 o1'
    injection o1' with o1' o1''
    subst o1 o1' o1''
    -- the reference's side, to its normal form
    have refSide : ∀ (PP : Int32 → SY → Prop), (∀ (tp dn sp fa md op : Int32) (tk tv dk dv lk lv mdk mdv fr to wh kn bg lc ik iv : Nat → Int32), (c = 0 → dn = nI s'.length ∧ hd_y tk_kT tk_vT dk dv 0 s') → ((nI c = 0 → ∃ n70, wY_reduce_70 PP f_place' f_count' tp dn op (nI t') (nI t') (nI c) (nI D.length) md f_old' dn f_heads' f_fresh' n70 0 a_kind' a_value' a_all' a_split' tk dk tv dv bg lc ik lk mdk a_oldKind' a_resultKind' iv lv mdv a_oldValue' a_resultValue' fr to wh kn a_bound' a_whose' a_rank' a_one' a_two' a_oneOf' a_twoOf' a_headAt' a_headOf' a_headLeft' a_pairs' a_first') ∧ (¬ nI c = 0 → PP (nI c) (f_place', f_count', tp, dn, op, nI t', nI t', nI c, nI D.length, md, f_old', 0, f_heads', f_fresh', a_kind', a_value', a_all', a_split', tk, dk, tv, dv, bg, lc, ik, lk, mdk, a_oldKind', a_resultKind', iv, lv, mdv, a_oldValue', a_resultValue', fr, to, wh, kn, a_bound', a_whose', a_rank', a_one', a_two', a_oneOf', a_twoOf', a_headAt', a_headOf', a_headLeft', a_pairs', a_first')))) → wpY_reduce PP (f_place', f_count', f_top', f_done', f_open', f_steps', f_shownSteps', f_fault', f_in', f_made', f_old', f_size', f_heads', f_fresh', a_kind', a_value', a_all', a_split', a_toKind', a_doneKind', a_toValue', a_doneValue', a_begins', a_lacks', a_inKind', a_leftKind', a_madeKind', a_oldKind', a_resultKind', a_inValue', a_leftValue', a_madeValue', a_oldValue', a_resultValue', a_from', a_to', a_whole', a_known', a_bound', a_whose', a_rank', a_one', a_two', a_oneOf', a_twoOf', a_headAt', a_headOf', a_headLeft', a_pairs', a_first') := by
      intro PP HH
      unfold wpY_reduce
      dsimp only
      refine rY _ (br_t (by decide) ?_)
      rw [y1]
      refine yb_begin (l := D) 240 D.length rfl (by omega) (by omega) y2 (fun ik iv hz => ?_)
      refine yn_nf (P := tk_d) (q := D) D.length 0 (fun x => tk_d_t) (fun x h => h) hGG y7 hw hD htd (by omega) rfl (hy_dT htd hz) (fun c2 t2 s2 hrun2 tp dn sp fa md op tk tv dk dv lk lv mdk mdv fr to wh kn bg lc hc2 => ?_)
      rw [hrun] at hrun2
      injection hrun2 with e1 e2
      injection e2 with e2 e3
      subst e1 e2 e3
      exact HH tp dn sp fa md op tk tv dk dv lk lv mdk mdv fr to wh kn bg lc ik iv hc2
    by_cases h0 : c = 0
    · subst h0
      obtain ⟨b1, b2⟩ := hc rfl
      obtain ⟨w1, w2, w3, w4⟩ := o4 rfl
      subst b1
      refine br_t rfl ⟨s'.length + 1, ?_⟩
      rw [← nI_0]
      refine xr_60 (B := s'.length) w3 s' [] 0 _ a_result rfl (by omega) b2 trivial (by omega) (fun z hzr => ?_)
      refine refSide _ (fun tp dn sp fa md op tk tv dk dv lk lv mdk mdv fr' to wh kn bg lc ik iv hc2 => ?_)
      obtain ⟨d1, d2⟩ := hc2 rfl
      subst d1
      refine br_t rfl ⟨s'.length + 1, ?_⟩
      rw [← nI_0]
      refine yb_res_l (N := s'.length) (by omega) s' [] _ _ _ 0 rfl (by omega) d2 trivial (by omega) (fun ka va hkv => ⟨rfl, ?_⟩)
      exact ⟨D, s', L, R, pl, nI t', fr, pc, fo, ⟨hD, hDr, w3, w4, hGG⟩, ⟨rfl, x2, x3, rfl, rfl, hzr, x7, x8, x9⟩, ⟨y1, y2, y3, rfl, rfl, hkv, y7, y8, y9⟩⟩
    · have hcn : ¬ nI c = 0 := by rw [← nI_0, nI_eq (by omega) (by omega)]; exact h0
      refine br_f hcn (refSide _ (fun tp dn sp fa md op tk tv dk dv lk lv mdk mdv fr' to wh kn bg lc ik iv hc2 => br_f hcn ⟨rfl, ?_⟩))
      exact ⟨D, [], L, R, pl, nI t', fr, pc, fo, ⟨hD, hDr, by simp, by simp, hGG⟩, ⟨rfl, x2, x3, rfl, rfl, trivial, x7, x8, x9⟩, ⟨y1, y2, y3, rfl, rfl, trivial, y7, y8, y9⟩⟩
  · have hneg : ¬ r < 0 := by rw [e]; exact nI_pos (by omega)
    refine br_f hneg ?_
    unfold wpY_reduce
    dsimp only
    refine rY _ (br_f hneg ⟨rfl, ?_⟩)
    exact ⟨D, [], L, R, r, st, fr, pc, fo, ⟨hD, hDr, by simp, by simp, hGG⟩, ⟨rfl, x2, rfl, x4, rfl, trivial, x7, x8, x9⟩, ⟨y1, y2, rfl, y4, rfl, trivial, y7, y8, y9⟩⟩
theorem i_vc_matching {k : Nat} {u : SX} {v : SY} (I : i_Rel k u v) (hk : k + 3 ≤ 1536) : wpX_matching (fun r u' => wpY_matching (fun r' v' => r' = r ∧ i_Rel (k + 3) u' v') v) u := by
  obtain ⟨f_drafted, f_faultPlace, f_reportedSteps, f_resultSize, f_sheetSize, f_waitingSize, f_builtSize, f_unfinished, f_taken, f_keptSize, f_stacked, f_ranked, f_surveyed, a_draft, a_result, a_lefts, a_leftSize, a_ways, a_rights, a_rightSize, a_sheet, a_waiting, a_built, a_unfinishedStart, a_unfinishedLacks, a_kept, a_matchStart, a_matchEnd, a_joint, a_unified, a_oneStack, a_otherStack, a_nestedAt, a_nestedEnd, a_rank, a_pairCount, a_firstOpen⟩ := u
  obtain ⟨f_place', f_count', f_top', f_done', f_open', f_steps', f_shownSteps', f_fault', f_in', f_made', f_old', f_size', f_heads', f_fresh', a_kind', a_value', a_all', a_split', a_toKind', a_doneKind', a_toValue', a_doneValue', a_begins', a_lacks', a_inKind', a_leftKind', a_madeKind', a_oldKind', a_resultKind', a_inValue', a_leftValue', a_madeValue', a_oldValue', a_resultValue', a_from', a_to', a_whole', a_known', a_bound', a_whose', a_rank', a_one', a_two', a_oneOf', a_twoOf', a_headAt', a_headOf', a_headLeft', a_pairs', a_first'⟩ := v
  have J := I
  obtain ⟨D, Q, L, R, pl, st, fr, pc, fo, hG, ⟨x1, x2, x3, x4, x5, x6, x7, x8, x9⟩, ⟨y1, y2, y3, y4, y5, y6, y7, y8, y9⟩⟩ := I
  subst x1
  have hG0 := hG
  obtain ⟨hD, hDr, hQ, hQd, hGG⟩ := hG
  obtain ⟨r, rX, rY, rG⟩ := fa_12 (D := D) D.length 1 rfl hD (by omega) (by omega) x2 y2 y1 hDr
  unfold wpX_matching
  dsimp only
  refine rX _ ?_
  rcases rG with ⟨e, hw, htd⟩ | ⟨q, hq, e⟩
  · subst e
    have htt : ∀ t, t ∈ D → tk_t t := fun t ht => tk_d_t (htd t ht)
    have hLs : ∀ r, L r = [] ∨ ∃ t l, L r = t :: l ∧ t < 4294967296 := fun r => by
      rcases hGG r with h | h
      · exact Or.inl h
      · exact Or.inr h.2.2.2.2.2.1
    have refSide : ∀ (PP : Int32 → SY → Prop), (∀ r' β, ru_fr L D 8 0 = some (r', β) → ∀ (dn : Int32) (dk dv lk lv fr to wh kn : Nat → Int32), PP (nI r') (f_place', f_count', f_top', dn, f_open', f_steps', f_shownSteps', f_fault', f_in', f_made', f_old', f_size', f_heads', f_fresh', a_kind', a_value', a_all', a_split', a_toKind', dk, a_toValue', dv, a_begins', a_lacks', a_inKind', lk, a_madeKind', a_oldKind', a_resultKind', a_inValue', lv, a_madeValue', a_oldValue', a_resultValue', fr, to, wh, kn, a_bound', a_whose', a_rank', a_one', a_two', a_oneOf', a_twoOf', a_headAt', a_headOf', a_headLeft', a_pairs', a_first')) → (ru_fr L D 8 0 = none → ∀ (dn : Int32) (dk dv lk lv fr to wh kn : Nat → Int32), PP (-2) (f_place', f_count', f_top', dn, f_open', f_steps', f_shownSteps', f_fault', f_in', f_made', f_old', f_size', f_heads', f_fresh', a_kind', a_value', a_all', a_split', a_toKind', dk, a_toValue', dv, a_begins', a_lacks', a_inKind', lk, a_madeKind', a_oldKind', a_resultKind', a_inValue', lv, a_madeValue', a_oldValue', a_resultValue', fr, to, wh, kn, a_bound', a_whose', a_rank', a_one', a_two', a_oneOf', a_twoOf', a_headAt', a_headOf', a_headLeft', a_pairs', a_first')) → wpY_matching PP (f_place', f_count', f_top', f_done', f_open', f_steps', f_shownSteps', f_fault', f_in', f_made', f_old', f_size', f_heads', f_fresh', a_kind', a_value', a_all', a_split', a_toKind', a_doneKind', a_toValue', a_doneValue', a_begins', a_lacks', a_inKind', a_leftKind', a_madeKind', a_oldKind', a_resultKind', a_inValue', a_leftValue', a_madeValue', a_oldValue', a_resultValue', a_from', a_to', a_whole', a_known', a_bound', a_whose', a_rank', a_one', a_two', a_oneOf', a_twoOf', a_headAt', a_headOf', a_headLeft', a_pairs', a_first') := by
      intro PP Hy Hn
      unfold wpY_matching
      dsimp only
      refine rY _ (br_t (by decide) ⟨D.length + 1, ?_⟩)
      rw [← nI_0]
      refine yr_17 (N := D.length) hD y1 D [] 0 _ 0 _ _ rfl rfl (by omega) (hy_dT htd y2) trivial (by omega) (fun dk dv hz => ?_)
      rw [List.nil_append] at hz
      obtain ⟨o, l, eo, hl⟩ := tm_w_pos hw
      have hdo : dk 0 = tk_kT o := by rw [eo] at hz; exact hz.1.1
      have hot := htt o (by rw [eo]; simp)
      rw [hdo]
      by_cases hk1 : tk_kT o = 1
      · refine br_t hk1 (br_f (by decide) (Hn ?_ _ _ _ _ _ _ _ _ _))
        rw [eo]
        exact ru_fr_num ((tk_N_Y hot).mp hk1) hLs 8 0
      · refine br_f hk1 ?_
        rw [← nI_0]
        refine yf_found (s := D) 0 D.length 1 hGG y7 (by omega) (by omega) hz htt hw (fun r' β lk lv fr to wh kn hf hb => ?_) (fun lk lv fr to wh kn hf => ?_)
        · obtain ⟨_, hr8, _⟩ := mc_fr _ _ _ _ hf
          exact br_t (nI_pos' (by omega)) (Hy r' β hf _ _ _ _ _ _ _ _ _)
        · exact br_f (by decide) (Hn hf _ _ _ _ _ _ _ _ _)
    refine br_t (by decide) ⟨D.length + 1, ?_⟩
    rw [← nI_0]
    refine xr_15 (N := D.length) hD D [] 0 _ a_built rfl (by omega) x2 trivial (by omega) (fun zb hz => ?_)
    rw [List.nil_append] at hz
    rw [← nI_0]
    refine xm_ruleFor (s := D) 0 D.length 1 hGG x7 (by omega) (by omega) hz htt hw (fun r' β ms me hf hb => ?_) (fun ms me hf => ?_)
    · refine refSide _ (fun r2 β2 hf2 dn dk dv lk lv fr' to wh kn => ⟨?_, ?_⟩) (fun hf2 => by rw [hf] at hf2; exact absurd hf2 (by simp))
      · rw [hf] at hf2
        injection hf2 with hf2
        injection hf2 with hf2 _
        rw [hf2]
      · exact ⟨D, Q, L, R, pl, st, fr, pc, fo, hG0, ⟨rfl, x2, x3, x4, x5, x6, x7, x8, x9⟩, ⟨y1, y2, y3, y4, y5, y6, y7, y8, y9⟩⟩
    · refine refSide _ (fun r2 β2 hf2 => by rw [hf] at hf2; exact absurd hf2 (by simp)) (fun hf2 dn dk dv lk lv fr' to wh kn => ⟨rfl, ?_⟩)
      exact ⟨D, Q, L, R, pl, st, fr, pc, fo, hG0, ⟨rfl, x2, x3, x4, x5, x6, x7, x8, x9⟩, ⟨y1, y2, y3, y4, y5, y6, y7, y8, y9⟩⟩
  · have hneg : ¬ r < 0 := by rw [e]; exact nI_pos (by omega)
    refine br_f hneg ?_
    unfold wpY_matching
    dsimp only
    exact rY _ (br_f hneg ⟨rfl, J⟩)
