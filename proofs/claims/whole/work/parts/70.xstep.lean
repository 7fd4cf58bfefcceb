/-! the component: the survey -/
theorem vs_p0 (pc : Nat → Int32) : vs_p 0 pc = pc := if_pos rfl
theorem vs_pn {v : Nat} (h : v ≠ 0) (pc : Nat → Int32) : vs_p v pc = vd_pc v pc := if_neg h
theorem vs_o0 (i j p : Nat) (fo : Nat → Int32) : vd_fo 0 i j p fo = fo := if_neg (fun z => absurd z.1 (by decide))
def vs_s (f : Nat) (L R : Nat → List Int64) (n : Nat) (s : (Nat → Int32) × (Nat → Int32)) : (Nat → Int32) × (Nat → Int32) := (vs_p (vd_w f L R (n / 240) (n / 30 % 8) (n % 30)) s.1, vd_fo (vd_w f L R (n / 240) (n / 30 % 8) (n % 30)) (n / 240) (n / 30 % 8) (n % 30) s.2)
def vs_n (f : Nat) (L R : Nat → List Int64) : Nat → Nat → (Nat → Int32) × (Nat → Int32) → (Nat → Int32) × (Nat → Int32)
  | 0, _, s => s
  | d + 1, k, s => vs_n f L R d (k + 1) (vs_s f L R k s)
section
variable {f_drafted f_faultPlace f_reportedSteps f_resultSize f_sheetSize f_waitingSize f_builtSize f_unfinished f_taken f_keptSize f_stacked f_ranked f_surveyed : Int32} {a_draft a_result a_lefts a_rights a_sheet a_waiting a_built a_kept a_joint : Nat → Int64} {a_leftSize a_ways a_rightSize a_unfinishedStart a_unfinishedLacks a_matchStart a_matchEnd a_unified a_oneStack a_otherStack a_nestedAt a_nestedEnd a_rank a_pairCount a_firstOpen : Nat → Int32}
variable {L R : Nat → List Int64}
/-- a pair stands: from the peak to the verdict -/
theorem xs_found {post : SX → Prop} {J14 : Int32 → Int32 → Int32 → Int32 → Int32 → Int32 → Int32 → Int32 → Int32 → Int32 → Int32 → Int32 → Int32 → Int32 → (Nat → Int64) → (Nat → Int64) → (Nat → Int64) → (Nat → Int32) → (Nat → Int32) → (Nat → Int64) → (Nat → Int32) → (Nat → Int64) → (Nat → Int64) → (Nat → Int64) → (Nat → Int32) → (Nat → Int32) → (Nat → Int64) → (Nat → Int32) → (Nat → Int32) → (Nat → Int64) → (Nat → Int32) → (Nat → Int32) → (Nat → Int32) → (Nat → Int32) → (Nat → Int32) → (Nat → Int32) → (Nat → Int32) → (Nat → Int32) → Prop} {k i j p : Nat} {A B RA RB : List Int64} {σ : Nat → Option Nat} {rk : Nat → Nat} {P : Int32 → SX → Prop} (hP : P = (fun r_202 u => match u with | (f_drafted0, f_faultPlace0, f_reportedSteps0, f_resultSize0, f_sheetSize0, f_waitingSize0, f_builtSize0, f_unfinished0, f_taken0, f_keptSize0, f_stacked0, f_ranked0, f_surveyed0, a_draft0, a_result0, a_lefts0, a_leftSize0, a_ways0, a_rights0, a_rightSize0, a_sheet0, a_waiting0, a_built0, a_unfinishedStart0, a_unfinishedLacks0, a_kept0, a_matchStart0, a_matchEnd0, a_joint0, a_unified0, a_oneStack0, a_otherStack0, a_nestedAt0, a_nestedEnd0, a_rank0, a_pairCount0, a_firstOpen0) => ((r_202 = 0 → wX_survey_156 post J14 (nI k) (nI i) (nI j) (nI p) r_202 f_drafted0 f_faultPlace0 f_reportedSteps0 f_resultSize0 f_sheetSize0 f_waitingSize0 f_builtSize0 f_unfinished0 f_taken0 f_keptSize0 f_stacked0 f_ranked0 f_surveyed0 a_draft0 a_result0 a_lefts0 a_leftSize0 a_ways0 a_rights0 a_rightSize0 a_sheet0 a_waiting0 a_built0 a_unfinishedStart0 a_unfinishedLacks0 a_kept0 a_matchStart0 a_matchEnd0 a_joint0 a_unified0 a_oneStack0 a_otherStack0 a_nestedAt0 a_nestedEnd0 a_rank0 a_pairCount0 a_firstOpen0) ∧ (¬ r_202 = 0 → (vp_in (nI i) 8 ∧ (vp_in (nI i) 8 ∧ (vp_in (nI i) 8 ∧ (wpX_expand (fun u => match u with | (f_drafted00, f_faultPlace00, f_reportedSteps00, f_resultSize00, f_sheetSize00, f_waitingSize00, f_builtSize00, f_unfinished00, f_taken00, f_keptSize00, f_stacked00, f_ranked00, f_surveyed00, a_draft00, a_result00, a_lefts00, a_leftSize00, a_ways00, a_rights00, a_rightSize00, a_sheet00, a_waiting00, a_built00, a_unfinishedStart00, a_unfinishedLacks00, a_kept00, a_matchStart00, a_matchEnd00, a_joint00, a_unified00, a_oneStack00, a_otherStack00, a_nestedAt00, a_nestedEnd00, a_rank00, a_pairCount00, a_firstOpen00) => ((30 < f_sheetSize00 → wX_survey_149 post J14 (nI k) (nI i) (nI j) (nI p) f_drafted00 f_faultPlace00 f_reportedSteps00 f_resultSize00 f_sheetSize00 f_waitingSize00 f_builtSize00 f_unfinished00 0 f_keptSize00 f_stacked00 f_ranked00 f_surveyed00 a_draft00 a_result00 a_lefts00 a_leftSize00 a_ways00 a_rights00 a_rightSize00 a_sheet00 a_waiting00 a_built00 a_unfinishedStart00 a_unfinishedLacks00 a_kept00 a_matchStart00 a_matchEnd00 a_joint00 a_unified00 a_oneStack00 a_otherStack00 a_nestedAt00 a_nestedEnd00 a_rank00 a_pairCount00 a_firstOpen00) ∧ (¬ 30 < f_sheetSize00 → wpX_normalForm (fun r_479 u => match u with | (f_drafted000, f_faultPlace000, f_reportedSteps000, f_resultSize000, f_sheetSize000, f_waitingSize000, f_builtSize000, f_unfinished000, f_taken000, f_keptSize000, f_stacked000, f_ranked000, f_surveyed000, a_draft000, a_result000, a_lefts000, a_leftSize000, a_ways000, a_rights000, a_rightSize000, a_sheet000, a_waiting000, a_built000, a_unfinishedStart000, a_unfinishedLacks000, a_kept000, a_matchStart000, a_matchEnd000, a_joint000, a_unified000, a_oneStack000, a_otherStack000, a_nestedAt000, a_nestedEnd000, a_rank000, a_pairCount000, a_firstOpen000) => ((r_479 = 0 → wX_survey_150 post J14 (nI k) (nI i) (nI j) (nI p) 1 f_drafted000 f_faultPlace000 f_reportedSteps000 f_resultSize000 f_sheetSize000 f_waitingSize000 f_builtSize000 f_unfinished000 f_taken000 f_keptSize000 f_stacked000 f_ranked000 f_surveyed000 a_draft000 a_result000 a_lefts000 a_leftSize000 a_ways000 a_rights000 a_rightSize000 a_sheet000 a_waiting000 a_built000 a_unfinishedStart000 a_unfinishedLacks000 a_kept000 a_matchStart000 a_matchEnd000 a_joint000 a_unified000 a_oneStack000 a_otherStack000 a_nestedAt000 a_nestedEnd000 a_rank000 a_pairCount000 a_firstOpen000) ∧ (¬ r_479 = 0 → wX_survey_149 post J14 (nI k) (nI i) (nI j) (nI p) f_drafted000 f_faultPlace000 f_reportedSteps000 f_resultSize000 f_sheetSize000 f_waitingSize000 f_builtSize000 f_unfinished000 f_taken000 f_keptSize000 f_stacked000 f_ranked000 f_surveyed000 a_draft000 a_result000 a_lefts000 a_leftSize000 a_ways000 a_rights000 a_rightSize000 a_sheet000 a_waiting000 a_built000 a_unfinishedStart000 a_unfinishedLacks000 a_kept000 a_matchStart000 a_matchEnd000 a_joint000 a_unified000 a_oneStack000 a_otherStack000 a_nestedAt000 a_nestedEnd000 a_rank000 a_pairCount000 a_firstOpen000))) (f_drafted00, f_faultPlace00, f_reportedSteps00, f_resultSize00, f_sheetSize00, f_waitingSize00, f_builtSize00, f_unfinished00, 0, f_keptSize00, f_stacked00, f_ranked00, f_surveyed00, a_draft00, a_result00, a_lefts00, a_leftSize00, a_ways00, a_rights00, a_rightSize00, a_sheet00, a_waiting00, a_built00, a_unfinishedStart00, a_unfinishedLacks00, a_kept00, a_matchStart00, a_matchEnd00, a_joint00, a_unified00, a_oneStack00, a_otherStack00, a_nestedAt00, a_nestedEnd00, a_rank00, a_pairCount00, a_firstOpen00)))) (f_drafted0, f_faultPlace0, f_reportedSteps0, f_resultSize0, 0, f_waitingSize0, f_builtSize0, f_unfinished0, f_taken0, f_keptSize0, f_stacked0, f_ranked0, f_surveyed0, a_draft0, a_result0, a_lefts0, a_leftSize0, a_ways0, a_rights0, a_rightSize0, a_sheet0, a_waiting0, a_built0, a_unfinishedStart0, a_unfinishedLacks0, a_kept0, a_matchStart0, a_matchEnd0, a_joint0, a_unified0, a_oneStack0, a_otherStack0, a_nestedAt0, a_nestedEnd0, a_rank0, a_pairCount0, a_firstOpen0) (a_leftSize0 (nI i).toNatClampNeg) ((a_leftSize0 (nI i).toNatClampNeg) + (a_rightSize0 (nI i).toNatClampNeg))))))))))
    (hi : i < 8) (hj : j < 8) (hlA : a_leftSize i = nI A.length) (hrA : a_rightSize i = nI RA.length) (hA30 : A.length + RA.length ≤ 30) (hlB : a_leftSize j = nI B.length) (hrB : a_rightSize j = nI RB.length) (hB30 : B.length + RB.length ≤ 30) (H : jn_H a_joint A B) (hR : us_R A B σ rk) (hu : xu_s a_unified σ) (hJA : hd_h a_joint A.length RA) (hJ : hd_h a_joint (30 + B.length) RB) (hRAw : tm_w RA 1) (hRAk : ∀ t, t ∈ RA → jn_k t) (hRAs : ∀ t, t ∈ RA → ¬ t < 8589934592 → t ∈ A) (hRBw : tm_w RB 1) (hRBk : ∀ t, t ∈ RB → jn_k t) (hRBs : ∀ t, t ∈ RB → ¬ t < 8589934592 → t ∈ B) (hp : p < A.length) (hE : us_E (us_h A B σ 8) (jn_t A B p) = us_E (us_h A B σ 8) (jn_t A B 30)) (hG : mc_G L R) (hRr : xr_R L R a_lefts a_leftSize a_ways a_rights a_rightSize)
    (HQ : xs_Q (J14 (nI (k + 1))) f_drafted f_faultPlace f_reportedSteps f_resultSize f_surveyed a_draft a_result a_lefts a_leftSize a_ways a_rights a_rightSize (vd_pc (vd_c L R A RA B RB p σ) a_pairCount) (vd_fo (vd_c L R A RA B RB p σ) i j p a_firstOpen)) : wpX_isPeakSmall P (f_drafted, f_faultPlace, f_reportedSteps, f_resultSize, f_sheetSize, f_waitingSize, f_builtSize, f_unfinished, f_taken, f_keptSize, f_stacked, f_ranked, f_surveyed, a_draft, a_result, a_lefts, a_leftSize, a_ways, a_rights, a_rightSize, a_sheet, a_waiting, a_built, a_unfinishedStart, a_unfinishedLacks, a_kept, a_matchStart, a_matchEnd, a_joint, a_unified, a_oneStack, a_otherStack, a_nestedAt, a_nestedEnd, a_rank, a_pairCount, a_firstOpen) (nI i) := by
  subst hP
  have ci : (nI i).toNatClampNeg = i := nI_clamp (by omega)
  have ini : vp_in (nI i) 8 := vp_in_nI hi (by omega)
  have hAl : A.length ≤ 29 := H.2.2.1
  have hAk := H.2.2.2.2.2.2.1
  have three : ¬ ((us_E (us_h A B σ 8) A).length ≤ 30 ∧ (vd_s1 A RA B σ).length ≤ 30 ∧ (mc_run L R 4000 (vd_s1 A RA B σ) [] 0 none).1 = 0 ∧ (vd_s2 A B RB p σ).length ≤ 30 ∧ (mc_run L R 4000 (vd_s2 A B RB p σ) [] 0 none).1 = 0) → xs_Q (J14 (nI (k + 1))) f_drafted f_faultPlace f_reportedSteps f_resultSize f_surveyed a_draft a_result a_lefts a_leftSize a_ways a_rights a_rightSize (vd_pc 3 a_pairCount) (vd_fo 3 i j p a_firstOpen) := by
    intro z
    have e : vd_c L R A RA B RB p σ = 3 := if_neg z
    rw [e] at HQ
    exact HQ
  refine ⟨9, xl_peak 8 0 9 a_rank rfl (fun _ h => absurd h (by omega)) (by omega) (fun ra0 hra0 => ⟨ini, ?_⟩)⟩
  obtain ⟨v1, v2, v3, v4, v5, v6, v7⟩ := vd_side H hR hp hE hRAw hRAk hRAs hRBw hRBk hRBs hra0
  obtain ⟨n1, n2, n3⟩ := vd_named v2 v6 v4
  obtain ⟨m1, m2, m3⟩ := vd_named v3 v7 v5
  have hcong := (rn_f_congr (us_E (us_h A B σ 8) A) ra0 (fun _ => -1) 0 v1 hra0).2
  have e1 : (us_E (us_h A B σ 8) RA).map (rn_n (rn_f (us_E (us_h A B σ 8) A) ra0 0).1) = vd_s1 A RA B σ := rn_map_congr hcong _ v2
  have e2 : (vd_r2 A B RB p σ).map (rn_n (rn_f (us_E (us_h A B σ 8) A) ra0 0).1) = vd_s2 A B RB p σ := rn_map_congr hcong _ v3
  refine xk_expand (q := []) (l := A) 0 0 0 rfl rfl (by rw [ci, hlA, Nat.zero_add]) H hR hu (us_h_sol hR) (fun v hv => us_h_none hv 8) H.2.2.2.2.1 hAk (by omega) (by simp) trivial (fun ss rc zs ra na ne g1 g2 g3 => ?_)
  have hm : (([] ++ rn_l (us_E (us_h A B σ 8) A) ra0 0).take 31).length = min 31 (us_E (us_h A B σ 8) A).length := by rw [List.nil_append, List.length_take, rn_l_len]
  rw [hm] at g1
  refine pk_lt 30 (min 31 (us_E (us_h A B σ 8) A).length) (fun h => ?_) (fun h => ?_) rfl g1 (by omega) (by omega)
  · exact br_t rfl (xs_156z (three (fun z => absurd z.1 (by omega))))
  · have h30 : (us_E (us_h A B σ 8) A).length ≤ 30 := by omega
    obtain ⟨g4, g5⟩ := g3 (by rw [List.length_nil]; omega)
    refine br_f (by decide) ⟨ini, ini, ini, ?_⟩
    rw [ci]
    refine xk_more (T := []) (l := RA) (ra0 := ra) A.length (rn_f (us_E (us_h A B σ 8) A) ra0 0).2 hlA (by rw [hlA, hrA]; exact nI_add _ _) rfl trivial (fun _ => ⟨rfl, g5⟩) H hR hu hJA hRAk (by omega) (by rw [g4]; exact n3) (fun ss rc zs ra' na ne k1 k2 k3 => ?_)
    rw [List.nil_append, g4, e1] at k1 k2 k3
    rw [g4] at *
    refine pk_lt 30 ((vd_s1 A RA B σ).take 31).length (fun h => ?_) (fun h => ?_) rfl k1 (by omega) (by rw [List.length_take]; omega)
    · rw [List.length_take] at h
      exact xs_149 (three (fun z => absurd z.2.1 (by omega)))
    · rw [List.length_take] at h
      have h31 : (vd_s1 A RA B σ).length ≤ 30 := by omega
      have e : (vd_s1 A RA B σ).take 31 = vd_s1 A RA B σ := List.take_of_length_le (by omega)
      rw [e] at k1 k2
      obtain ⟨k4, k5⟩ := k3 h31
      subst k1
      have w1 : tm_w (vd_s1 A RA B σ) 1 := by rw [← e1]; exact n1
      have w2 : ∀ t, t ∈ vd_s1 A RA B σ → tk_t t := by rw [← e1]; exact n2
      refine xn_nf (P := tk_t) (q := vd_s1 A RA B σ) (vd_s1 A RA B σ).length 0 (fun _ h => h) (fun _ h => tk_d_t h) hG hRr w1 h31 w2 (by omega) rfl k2 (fun c t' s' run ss ws bs uf zs zw zb us ul ms me hc => ?_)
      obtain ⟨c1, t1, s1, o1, o2, o3, o4⟩ := mc_run_ok (P := tk_t) (fun _ h => tk_d_t h) hG 4000 (vd_s1 A RA B σ) [] 0 none (mc_I0 w1 h31 w2 (by omega)).1 (mc_I0 (P := tk_t) w1 h31 w2 (by omega)).2
      rw [o1] at run
      obtain ⟨rfl, rfl, rfl⟩ : c1 = c ∧ t1 = t' ∧ s1 = s' := by
        injection run with z1 z2
        injection z2 with z2 z3
        exact ⟨z1, z2, z3⟩
      by_cases h0 : c1 = 0
      · obtain ⟨b1, b2⟩ := hc h0
        subst b1
        have s30 := (o4 h0).2.2.1
        refine br_t (by rw [h0]; rfl) (xn_keep (f_keptSize := f_keptSize) s1.length rfl s30 b2 (fun z hz => ?_))
        subst k4
        refine xs_156 (s := s1) (S2 := vd_s2 A B RB p σ) (RB := RB) hi hj hlA hlB hrB hB30 H hR hu hJ hRBk hp m3 k5 e2.symm (by rw [← e2]; exact m1) (by rw [← e2]; exact m2) hG hRr rfl s30 hz (fun z => three (fun y => z y.2.2.2)) (fun z1 z2 => ?_)
        have er : (mc_run L R 4000 (vd_s1 A RA B σ) [] 0 none).2.2 = s1 := by rw [o1]
        have e0 : (mc_run L R 4000 (vd_s1 A RA B σ) [] 0 none).1 = 0 := by rw [o1]; exact h0
        have ev : vd_c L R A RA B RB p σ = if s1 = (mc_run L R 4000 (vd_s2 A B RB p σ) [] 0 none).2.2 then 1 else 2 := by
          rw [← er]
          exact if_pos ⟨h30, h31, e0, z1, z2⟩
        rw [ev] at HQ
        exact HQ
      · have hcn : ¬ nI c1 = 0 := by rw [← nI_0, nI_eq (by omega) (by omega)]; exact h0
        refine br_f hcn (xs_149 (three (fun z => ?_)))
        have := z.2.2.1
        rw [o1] at this
        exact h0 this
end
