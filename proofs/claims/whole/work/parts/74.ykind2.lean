/-! the reference: the kind of a pair, whole -/
section
variable {f_place f_count f_top f_done f_open f_steps f_shownSteps f_fault f_in f_made f_old f_size f_heads f_fresh : Int32} {a_kind a_value a_all a_split a_toKind a_doneKind a_toValue a_doneValue a_begins a_lacks a_inKind a_leftKind a_madeKind a_oldKind a_resultKind a_inValue a_leftValue a_madeValue a_oldValue a_resultValue a_from a_to a_whole a_known a_bound a_whose a_rank a_one a_two a_oneOf a_twoOf a_headAt a_headOf a_headLeft a_pairs a_first : Nat → Int32}
variable {L R : Nat → List Int64} {J : Nat → Int64} {A B RA RB : List Int64} {σ : Nat → Option Nat} {rk : Nat → Nat} {i j p : Nat}
theorem yk_kind {post : Int32 → SY → Prop} (H : jn_H J A B) (hR : us_R A B σ rk) (hY : jy_H a_kind a_value i j A B) (hu : yu_s a_bound a_whose i j σ) (hA30 : A.length + RA.length ≤ 30) (hB30 : B.length + RB.length ≤ 30) (hsA : a_split i = nI A.length) (hsB : a_split j = nI B.length) (hRAy : jy_h a_kind a_value 0 (30 * i + A.length) RA) (hRBy : jy_h a_kind a_value 1 (30 * j + B.length) RB) (hRAw : tm_w RA 1) (hRAk : ∀ t, t ∈ RA → jn_k t) (hRAs : ∀ t, t ∈ RA → ¬ t < 8589934592 → t ∈ A) (hRBw : tm_w RB 1) (hRBk : ∀ t, t ∈ RB → jn_k t) (hRBs : ∀ t, t ∈ RB → ¬ t < 8589934592 → t ∈ B) (hp : p < A.length) (hE : us_E (us_h A B σ 8) (jn_t A B p) = us_E (us_h A B σ 8) (jn_t A B 30)) (hG : mc_G L R) (hRr : yr_R L R a_kind a_value a_all a_split)
    (HQ : ys_Q (post (nI (vd_c L R A RA B RB p σ))) f_place f_shownSteps f_size f_fresh a_kind a_value a_all a_split a_resultKind a_resultValue a_pairs a_first) : wpY_kindOf post (f_place, f_count, f_top, f_done, f_open, f_steps, f_shownSteps, f_fault, f_in, f_made, f_old, f_size, f_heads, f_fresh, a_kind, a_value, a_all, a_split, a_toKind, a_doneKind, a_toValue, a_doneValue, a_begins, a_lacks, a_inKind, a_leftKind, a_madeKind, a_oldKind, a_resultKind, a_inValue, a_leftValue, a_madeValue, a_oldValue, a_resultValue, a_from, a_to, a_whole, a_known, a_bound, a_whose, a_rank, a_one, a_two, a_oneOf, a_twoOf, a_headAt, a_headOf, a_headLeft, a_pairs, a_first) (nI i) (nI j) (nI p) := by
  obtain ⟨hi, hj, hyA, hyB⟩ := hY
  have hY : jy_H a_kind a_value i j A B := ⟨hi, hj, hyA, hyB⟩
  have hAl : A.length ≤ 29 := H.2.2.1
  have hAk := H.2.2.2.2.2.2.1
  obtain ⟨om1, om2⟩ := wk_om H hR
  have ci : (nI i).toNatClampNeg = i := nI_clamp (by omega)
  have ini : vp_in (nI i) 8 := vp_in_nI hi (by omega)
  obtain ⟨eA1, eA2⟩ := jy_A (i := i) (j := j) (n := A.length)
  have three : ¬ ((us_E (us_h A B σ 8) A).length ≤ 30 ∧ (vd_s1 A RA B σ).length ≤ 30 ∧ (mc_run L R 4000 (vd_s1 A RA B σ) [] 0 none).1 = 0 ∧ (vd_s2 A B RB p σ).length ≤ 30 ∧ (mc_run L R 4000 (vd_s2 A B RB p σ) [] 0 none).1 = 0) → ys_Q (post 3) f_place f_shownSteps f_size f_fresh a_kind a_value a_all a_split a_resultKind a_resultValue a_pairs a_first := by
    intro z
    have e : vd_c L R A RA B RB p σ = 3 := if_neg z
    rw [e] at HQ
    exact HQ
  unfold wpY_kindOf
  refine yk_head (k := 0) (p := 0) (i := i) (j := j) (by omega) (by omega) hi hj (i30 i) rfl ?_
  refine yw_write0 (p := 0) (l := A) H hR hY hu om1 om2 (us_h_sol hR) (fun v e => us_h_none e 8) hAk (by omega) ⟨⟨pk_us, pk_us, ⟨1, by omega, pk_us, H.1⟩, hyA, Or.inl (by omega), Or.inl (by omega)⟩, trivial⟩ (fun hs ha ho hl ik iv nin _ _ => ?_)
  show (((if (us_E (us_h A B σ 8) A).length ≤ 30 then (1 : Int32) else 0) = 0 → _) ∧ (¬ (if (us_E (us_h A B σ 8) A).length ≤ 30 then (1 : Int32) else 0) = 0 → _))
  by_cases h30 : (us_E (us_h A B σ 8) A).length ≤ 30
  · rw [if_pos h30]
    refine br_f (by decide) ?_
    refine yk_head (k := 0) (p := 0) (i := i) (j := j) (by omega) (by omega) hi hj (i30 i) rfl ?_
    refine yr_rank (p := 0) (l := A) H hR hY hu om1 om2 (us_h_sol hR) (fun v e => us_h_none e 8) hAk ⟨⟨pk_us, pk_us, ⟨1, by omega, pk_us, H.1⟩, hyA, Or.inl (by omega), Or.inl (by omega)⟩, trivial⟩ (fun hs ra ha ho hl hra => ⟨ini, ?_⟩)
    obtain ⟨ra0, hra0, era⟩ := hra
    obtain ⟨v1, v2, v3, v4, v5, v6, v7⟩ := vd_side H hR hp hE hRAw hRAk hRAs hRBw hRBk hRBs hra0
    obtain ⟨n1, n2, n3⟩ := vd_named v2 v6 v4
    obtain ⟨m1, m2, m3⟩ := vd_named v3 v7 v5
    have hcong := (rn_f_congr (us_E (us_h A B σ 8) A) ra0 (fun _ => -1) 0 v1 hra0).2
    have e1 : (us_E (us_h A B σ 8) RA).map (rn_n (rn_f (us_E (us_h A B σ 8) A) ra0 0).1) = vd_s1 A RA B σ := rn_map_congr hcong _ v2
    have e2 : (vd_r2 A B RB p σ).map (rn_n (rn_f (us_E (us_h A B σ 8) A) ra0 0).1) = vd_s2 A B RB p σ := rn_map_congr hcong _ v3
    rw [← era] at e1 e2 v6 v7 n1 n2 m1 m2
    rw [ci]
    refine yk_head (k := 0) (p := 61 + A.length) (i := i) (j := j) (by omega) (by omega) hi hj (by rw [eA1, i30, hsA, nI_add]) (by rw [eA2]; rfl) ?_
    refine yw_write0 (p := 61 + A.length) (l := RA) H hR hY hu om1 om2 (us_h_sol hR) (fun v e => us_h_none e 8) hRAk (by omega) ⟨⟨pk_us, pk_us, ⟨1, by omega, pk_us, hRAw⟩, by rw [eA1, eA2]; exact hRAy, Or.inr (by omega), Or.inr (by omega)⟩, trivial⟩ (fun hs ha ho hl ik iv nin g1 g2 => ?_)
    show (((if (us_E (us_h A B σ 8) RA).length ≤ 30 then (1 : Int32) else 0) = 0 → _) ∧ (¬ (if (us_E (us_h A B σ 8) RA).length ≤ 30 then (1 : Int32) else 0) = 0 → _))
    have eml : (us_E (us_h A B σ 8) RA).length = (vd_s1 A RA B σ).length := by rw [← e1, List.length_map]
    by_cases h31 : (us_E (us_h A B σ 8) RA).length ≤ 30
    · rw [if_pos h31]
      refine br_f (by decide) ?_
      have et : (us_E (us_h A B σ 8) RA).take 31 = us_E (us_h A B σ 8) RA := List.take_of_length_le (by omega)
      rw [et] at g1 g2
      rw [eml] at g1 h31
      have g3 := rn_hd _ _ v2 v6 g2
      rw [e1] at g3
      subst g1
      have w1 : tm_w (vd_s1 A RA B σ) 1 := by rw [← e1]; exact n1
      have w2 : ∀ t, t ∈ vd_s1 A RA B σ → tk_t t := by rw [← e1]; exact n2
      refine yn_nf (P := tk_t) (q := vd_s1 A RA B σ) (vd_s1 A RA B σ).length 0 (fun _ h => h) (fun _ h => tk_d_t h) hG hRr w1 h31 w2 (by omega) rfl g3 (fun c t' s' run tp dn sp fa md op tk tv dk dv lk lv mdk mdv fr to wh kn bg lc hc => ?_)
      obtain ⟨c1, t1, s1, o1, o2, o3, o4⟩ := mc_run_ok (P := tk_t) (fun _ h => tk_d_t h) hG 4000 (vd_s1 A RA B σ) [] 0 none (mc_I0 w1 h31 w2 (by omega)).1 (mc_I0 (P := tk_t) w1 h31 w2 (by omega)).2
      rw [o1] at run
      obtain ⟨rfl, rfl, rfl⟩ : c1 = c ∧ t1 = t' ∧ s1 = s' := by
        injection run with z1 z2
        injection z2 with z2 z3
        exact ⟨z1, z2, z3⟩
      by_cases h0 : c1 = 0
      · obtain ⟨b1, b2⟩ := hc h0
        subst b1
        have o5 := o4 h0
        refine br_t (by rw [h0]; rfl) (br_f (by decide) (yb_keep s1.length rfl (by omega) b2 (fun ok ov hz => ?_)))
        refine yk_105 (x4 := 1) (s := s1) (S2 := vd_s2 A B RB p σ) (RB := RB) H hR hY hu hB30 hsB hRBy hRBw hRBk hp e2.symm v3 v7 (by rw [← e2]; exact m1) (by rw [← e2]; exact m2) hG hRr (Or.inr ⟨rfl, rfl, hz, o5.2.2.2, o5.2.2.1⟩) (fun z => three (fun y => ?_)) (fun _ z1 z2 => ?_)
        · rcases z with z | z
          · exact absurd z (by decide)
          · exact z y.2.2.2
        · have er : (mc_run L R 4000 (vd_s1 A RA B σ) [] 0 none).2.2 = s1 := by rw [o1]
          have e0 : (mc_run L R 4000 (vd_s1 A RA B σ) [] 0 none).1 = 0 := by rw [o1]; exact h0
          have ev : vd_c L R A RA B RB p σ = if s1 = (mc_run L R 4000 (vd_s2 A B RB p σ) [] 0 none).2.2 then 1 else 2 := by
            rw [← er]
            exact if_pos ⟨h30, h31, e0, z1, z2⟩
          rw [ev] at HQ
          exact HQ
      · have hcn : ¬ nI c1 = 0 := by rw [← nI_0, nI_eq (by omega) (by omega)]; exact h0
        have no : ys_Q (post 3) f_place f_shownSteps f_size f_fresh a_kind a_value a_all a_split a_resultKind a_resultValue a_pairs a_first := three (fun z => by
          have := z.2.2.1
          rw [o1] at this
          exact h0 this)
        refine br_f hcn (br_t rfl ?_)
        exact yk_105 (x4 := 0) (s := []) (S2 := vd_s2 A B RB p σ) (RB := RB) H hR hY hu hB30 hsB hRBy hRBw hRBk hp e2.symm v3 v7 (by rw [← e2]; exact m1) (by rw [← e2]; exact m2) hG hRr (Or.inl rfl) (fun _ => no) (fun z => absurd z (by decide))
    · rw [if_neg h31]
      rw [eml] at h31
      exact br_t rfl (three (fun z => h31 z.2.1) _ _ _ _ _ _ _ _ _ _ _ _ _ _ _ _ _ _ _ _ _ _ _ _ _ _ _ _ _ _ _ _ _ _ _ _ _ _)
  · rw [if_neg h30]
    exact br_t rfl (three (fun z => h30 z.1) _ _ _ _ _ _ _ _ _ _ _ _ _ _ _ _ _ _ _ _ _ _ _ _ _ _ _ _ _ _ _ _ _ _ _ _ _ _)
end
