/-! the component: the loop of the survey -/
theorem vd_id (l : List Int64) : l.map (fun t => t) = l := List.map_id' l
theorem vd_s0 (t : Int64) : (fun t => t) t = if t < 8589934592 then t else t + (nI 0).toInt64 := by
  by_cases h : t < 8589934592
  · rw [if_pos h]
  · rw [if_neg h, show (nI 0).toInt64 = 0 from rfl, Int64.add_zero]
theorem vd_s4 (t : Int64) : vd_h t = if t < 8589934592 then t else t + (nI 4).toInt64 := by
  by_cases h : t < 8589934592
  · rw [if_pos h]; exact if_pos h
  · rw [if_neg h]; exact if_neg h
section
variable {f_drafted f_faultPlace f_reportedSteps f_resultSize f_sheetSize f_waitingSize f_builtSize f_unfinished f_taken f_keptSize f_stacked f_ranked f_surveyed : Int32} {a_draft a_result a_lefts a_rights a_sheet a_waiting a_built a_kept a_joint : Nat → Int64} {a_leftSize a_ways a_rightSize a_unfinishedStart a_unfinishedLacks a_matchStart a_matchEnd a_unified a_oneStack a_otherStack a_nestedAt a_nestedEnd a_rank a_pairCount a_firstOpen : Nat → Int32}
variable {L R : Nat → List Int64}
theorem xs_step {post : SX → Prop} {n k f i j p : Nat} (hf : f = 10000000) (hk : k < 1920) (hi : i < 8) (hj : j < 8) (hp : p < 30) (ei : nI k / 240 = nI i) (ej : nI k / 30 - nI k / 30 / 8 * 8 = nI j) (ep : nI k - nI k / 30 * 30 = nI p) (hG : mc_G L R) (hRr : xr_R L R a_lefts a_leftSize a_ways a_rights a_rightSize) (HQ : xs_Q (wX_survey_14 post n (nI (k + 1))) f_drafted f_faultPlace f_reportedSteps f_resultSize f_surveyed a_draft a_result a_lefts a_leftSize a_ways a_rights a_rightSize (vs_p (vd_w f L R i j p) a_pairCount) (vd_fo (vd_w f L R i j p) i j p a_firstOpen)) : wX_survey_14 post (n + 1) (nI k) f_drafted f_faultPlace f_reportedSteps f_resultSize f_sheetSize f_waitingSize f_builtSize f_unfinished f_taken f_keptSize f_stacked f_ranked f_surveyed a_draft a_result a_lefts a_leftSize a_ways a_rights a_rightSize a_sheet a_waiting a_built a_unfinishedStart a_unfinishedLacks a_kept a_matchStart a_matchEnd a_joint a_unified a_oneStack a_otherStack a_nestedAt a_nestedEnd a_rank a_pairCount a_firstOpen := by
  refine pk_le 1920 k (fun z => absurd z (by omega)) (fun _ => ⟨by decide, nm_r ei ⟨by decide, by decide, nm_r ej ⟨by decide, nm_r ep ?_⟩⟩⟩)
  refine xp_place hG hRr hi hj hp ?_
  by_cases hok : vd_ok L R i j p = true
  · rw [if_pos hok]
    have ew : vd_w f L R i j p = vd f L R i j p := if_pos hok
    rw [ew] at HQ
    obtain ⟨o1, o2, o3⟩ := vd_ok_1 hok
    obtain ⟨a0, a1, a2, a3, a4, a5, a6, a7⟩ := vd_base hG o1
    obtain ⟨b0, b1, b2, b3, b4, b5, b6, b7⟩ := vd_base hG o2
    obtain ⟨c1, c2, c3, c4, c5⟩ := vd_B hG o2
    obtain ⟨_, w1, w2, _, _⟩ := (hRr i hi).2.2 a0
    obtain ⟨_, w3, w4, _, _⟩ := (hRr j hj).2.2 b0
    have bl : ((L j).map vd_h).length = (L j).length := List.length_map _
    have rl : ((R j).map vd_h).length = (R j).length := List.length_map _
    refine br_f (by decide) ?_
    refine xl_lay (fr := 0) (s := 0) (g := fun t => t) rfl rfl hG hRr hi a0 (by omega) (fun t _ => vd_s0 t) (fun jo h1 q1 => ?_)
    refine xl_lay (fr := 30) (s := 4) (g := vd_h) rfl rfl hG hRr hj b0 (by omega) (fun t _ => vd_s4 t) (fun j2 h2 q2 => ?_)
    rw [vd_id] at h1
    have h1' : hd_h j2 0 (L i ++ R i) := hd_keepl q2 h1 (by rw [List.length_append]; omega)
    obtain ⟨d1, d2⟩ := hd_app.mp h1'
    rw [Nat.zero_add] at d2
    rw [List.map_append] at h2
    obtain ⟨d3, d4⟩ := hd_app.mp h2
    have H : jn_H j2 (L i) ((L j).map vd_h) := ⟨a1, c1, a4, by omega, d1, d3, fun t ht => vd_k_j (a5 t ht), c3⟩
    have v0 : jn_v (L i) ((L j).map vd_h) p := Or.inl o3
    have v30 : jn_v (L i) ((L j).map vd_h) 30 := Or.inr ⟨by omega, by have := tm_w_len _ _ c1; omega⟩
    refine xu_unify (f := f) hf rfl rfl H v0 v30 (fun σ un st one two e hR hE hu => ?_) (fun un st one two e => ?_)
    · obtain ⟨rk, hR⟩ := hR
      rw [vd_some H v0 v30 e, vs_pn (vd_c_pos _ _ _ _ _).1] at HQ
      refine br_f (by decide) ?_
      exact xs_found (A := L i) (B := (L j).map vd_h) (RA := R i) (RB := (R j).map vd_h) (i := i) (j := j) (p := p) (k := k) (post := post) (J14 := wX_survey_14 post n) rfl hi hj w1 w2 a3 (by rw [bl]; exact w3) (by rw [rl]; exact w4) (by rw [bl, rl]; exact b3) H hR hu d2 d4 a2 (fun t ht => vd_k_j (a6 t ht)) a7 c2 c4 c5 o3 (hE _ (us_h_sol hR)) hG hRr HQ
    · rw [vd_none H v0 v30 e, vs_p0, vs_o0] at HQ
      exact br_t rfl (nm_r (nI_1 k) (HQ _ _ _ _ _ _ _ _ _ _ _ _ _ _ _ _ _ _ _ _ _ _ _))
  · rw [if_neg hok]
    have ew : vd_w f L R i j p = 0 := if_neg hok
    rw [ew, vs_p0, vs_o0] at HQ
    exact br_t rfl (nm_r (nI_1 k) (HQ _ _ _ _ _ _ _ _ _ _ _ _ _ _ _ _ _ _ _ _ _ _ _))
theorem xs_loop {post : SX → Prop} {f : Nat} (hf : f = 10000000) (hG : mc_G L R) (hRr : xr_R L R a_lefts a_leftSize a_ways a_rights a_rightSize) : ∀ (d k n : Nat) (s : (Nat → Int32) × (Nat → Int32)), k + d = 1920 → d < n → xs_Q (fun f_drafted0 f_faultPlace0 f_reportedSteps0 f_resultSize0 f_sheetSize0 f_waitingSize0 f_builtSize0 f_unfinished0 f_taken0 f_keptSize0 f_stacked0 f_ranked0 f_surveyed0 a_draft0 a_result0 a_lefts0 a_leftSize0 a_ways0 a_rights0 a_rightSize0 a_sheet0 a_waiting0 a_built0 a_unfinishedStart0 a_unfinishedLacks0 a_kept0 a_matchStart0 a_matchEnd0 a_joint0 a_unified0 a_oneStack0 a_otherStack0 a_nestedAt0 a_nestedEnd0 a_rank0 a_pairCount0 a_firstOpen0 => post (f_drafted0, f_faultPlace0, f_reportedSteps0, f_resultSize0, f_sheetSize0, f_waitingSize0, f_builtSize0, f_unfinished0, f_taken0, f_keptSize0, f_stacked0, f_ranked0, 1, a_draft0, a_result0, a_lefts0, a_leftSize0, a_ways0, a_rights0, a_rightSize0, a_sheet0, a_waiting0, a_built0, a_unfinishedStart0, a_unfinishedLacks0, a_kept0, a_matchStart0, a_matchEnd0, a_joint0, a_unified0, a_oneStack0, a_otherStack0, a_nestedAt0, a_nestedEnd0, a_rank0, a_pairCount0, a_firstOpen0)) f_drafted f_faultPlace f_reportedSteps f_resultSize f_surveyed a_draft a_result a_lefts a_leftSize a_ways a_rights a_rightSize (vs_n f L R d k s).1 (vs_n f L R d k s).2 → xs_Q (wX_survey_14 post n (nI k)) f_drafted f_faultPlace f_reportedSteps f_resultSize f_surveyed a_draft a_result a_lefts a_leftSize a_ways a_rights a_rightSize s.1 s.2
  | 0, k, n, s, hk, hn, H => by
    obtain ⟨n, rfl⟩ : ∃ n', n = n' + 1 := ⟨n - 1, by omega⟩
    intro f_sheetSize f_waitingSize f_builtSize f_unfinished f_taken f_keptSize f_stacked f_ranked a_sheet a_waiting a_built a_unfinishedStart a_unfinishedLacks a_kept a_matchStart a_matchEnd a_joint a_unified a_oneStack a_otherStack a_nestedAt a_nestedEnd a_rank
    exact pk_le 1920 k (fun _ => H _ _ _ _ _ _ _ _ _ _ _ _ _ _ _ _ _ _ _ _ _ _ _) (fun z => absurd z (by omega))
  | d + 1, k, n, s, hk, hn, H => by
    obtain ⟨n, rfl⟩ : ∃ n', n = n' + 1 := ⟨n - 1, by omega⟩
    have ih := xs_loop hf hG hRr d (k + 1) n (vs_s f L R k s) (by omega) (by omega) H
    intro f_sheetSize f_waitingSize f_builtSize f_unfinished f_taken f_keptSize f_stacked f_ranked a_sheet a_waiting a_built a_unfinishedStart a_unfinishedLacks a_kept a_matchStart a_matchEnd a_joint a_unified a_oneStack a_otherStack a_nestedAt a_nestedEnd a_rank
    have e30 : nI k / 30 = nI (k / 30) := pk_div (d := 30) (by omega) (by omega) (by omega)
    exact xs_step hf (by omega) (i := k / 240) (j := k / 30 % 8) (p := k % 30) (by omega) (by omega) (by omega) (pk_div (d := 240) (by omega) (by omega) (by omega)) (by rw [e30]; exact pk_rem (d := 8) (by omega) (by omega) (by omega)) (pk_rem (d := 30) (by omega) (by omega) (by omega)) hG hRr ih
theorem xs_survey {post : SX → Prop} {f : Nat} (hf : f = 10000000) (hG : mc_G L R) (hRr : xr_R L R a_lefts a_leftSize a_ways a_rights a_rightSize) (h0 : f_surveyed = 0) (H : ∀ pc fo : Nat → Int32, (∀ v, v < 4 → pc v = 0) → (∀ v, v < 3 → fo v = -2) → xs_Q (fun f_drafted0 f_faultPlace0 f_reportedSteps0 f_resultSize0 f_sheetSize0 f_waitingSize0 f_builtSize0 f_unfinished0 f_taken0 f_keptSize0 f_stacked0 f_ranked0 f_surveyed0 a_draft0 a_result0 a_lefts0 a_leftSize0 a_ways0 a_rights0 a_rightSize0 a_sheet0 a_waiting0 a_built0 a_unfinishedStart0 a_unfinishedLacks0 a_kept0 a_matchStart0 a_matchEnd0 a_joint0 a_unified0 a_oneStack0 a_otherStack0 a_nestedAt0 a_nestedEnd0 a_rank0 a_pairCount0 a_firstOpen0 => post (f_drafted0, f_faultPlace0, f_reportedSteps0, f_resultSize0, f_sheetSize0, f_waitingSize0, f_builtSize0, f_unfinished0, f_taken0, f_keptSize0, f_stacked0, f_ranked0, 1, a_draft0, a_result0, a_lefts0, a_leftSize0, a_ways0, a_rights0, a_rightSize0, a_sheet0, a_waiting0, a_built0, a_unfinishedStart0, a_unfinishedLacks0, a_kept0, a_matchStart0, a_matchEnd0, a_joint0, a_unified0, a_oneStack0, a_otherStack0, a_nestedAt0, a_nestedEnd0, a_rank0, a_pairCount0, a_firstOpen0)) f_drafted f_faultPlace f_reportedSteps f_resultSize f_surveyed a_draft a_result a_lefts a_leftSize a_ways a_rights a_rightSize (vs_n f L R 1920 0 (pc, fo)).1 (vs_n f L R 1920 0 (pc, fo)).2) : wpX_survey post (f_drafted, f_faultPlace, f_reportedSteps, f_resultSize, f_sheetSize, f_waitingSize, f_builtSize, f_unfinished, f_taken, f_keptSize, f_stacked, f_ranked, f_surveyed, a_draft, a_result, a_lefts, a_leftSize, a_ways, a_rights, a_rightSize, a_sheet, a_waiting, a_built, a_unfinishedStart, a_unfinishedLacks, a_kept, a_matchStart, a_matchEnd, a_joint, a_unified, a_oneStack, a_otherStack, a_nestedAt, a_nestedEnd, a_rank, a_pairCount, a_firstOpen) := by
  refine br_t h0 ⟨5, xl_forget2 4 0 5 a_pairCount rfl (fun v hv => absurd hv (by omega)) (by omega) (fun pc fo h1 h2 => ⟨1921, ?_⟩)⟩
  exact xs_loop hf hG hRr 1920 0 1921 (pc, fo) rfl (by omega) (H pc fo h1 h2) _ _ _ _ _ _ _ _ _ _ _ _ _ _ _ _ _ _ _ _ _ _ _
end
