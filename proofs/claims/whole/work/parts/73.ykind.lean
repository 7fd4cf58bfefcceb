/-! the reference: the kind of a pair -/
def ys_Q (P : SY → Prop) (f_place : Int32) (f_shownSteps : Int32) (f_size : Int32) (f_fresh : Int32) (a_kind : Nat → Int32) (a_value : Nat → Int32) (a_all : Nat → Int32) (a_split : Nat → Int32) (a_resultKind : Nat → Int32) (a_resultValue : Nat → Int32) (a_pairs a_first : Nat → Int32) : Prop := ∀ (f_count : Int32) (f_top : Int32) (f_done : Int32) (f_open : Int32) (f_steps : Int32) (f_fault : Int32) (f_in : Int32) (f_made : Int32) (f_old : Int32) (f_heads : Int32) (a_toKind : Nat → Int32) (a_doneKind : Nat → Int32) (a_toValue : Nat → Int32) (a_doneValue : Nat → Int32) (a_begins : Nat → Int32) (a_lacks : Nat → Int32) (a_inKind : Nat → Int32) (a_leftKind : Nat → Int32) (a_madeKind : Nat → Int32) (a_oldKind : Nat → Int32) (a_inValue : Nat → Int32) (a_leftValue : Nat → Int32) (a_madeValue : Nat → Int32) (a_oldValue : Nat → Int32) (a_from : Nat → Int32) (a_to : Nat → Int32) (a_whole : Nat → Int32) (a_known : Nat → Int32) (a_bound : Nat → Int32) (a_whose : Nat → Int32) (a_rank : Nat → Int32) (a_one : Nat → Int32) (a_two : Nat → Int32) (a_oneOf : Nat → Int32) (a_twoOf : Nat → Int32) (a_headAt : Nat → Int32) (a_headOf : Nat → Int32) (a_headLeft : Nat → Int32), P (f_place, f_count, f_top, f_done, f_open, f_steps, f_shownSteps, f_fault, f_in, f_made, f_old, f_size, f_heads, f_fresh, a_kind, a_value, a_all, a_split, a_toKind, a_doneKind, a_toValue, a_doneValue, a_begins, a_lacks, a_inKind, a_leftKind, a_madeKind, a_oldKind, a_resultKind, a_inValue, a_leftValue, a_madeValue, a_oldValue, a_resultValue, a_from, a_to, a_whole, a_known, a_bound, a_whose, a_rank, a_one, a_two, a_oneOf, a_twoOf, a_headAt, a_headOf, a_headLeft, a_pairs, a_first)
theorem jy_0 (i j : Nat) : jy_p i j 0 = 30 * i := rfl
theorem jy_A {i j n : Nat} : jy_p i j (61 + n) = 30 * i + n ∧ jy_o (61 + n) = 0 := by
  refine ⟨(if_neg (by omega)).trans ((if_neg (by omega)).trans ?_), (if_neg (by omega)).trans (if_neg (by omega))⟩
  rw [show 61 + n - 61 = n by omega]
theorem jy_B {i j n : Nat} (hn : n ≤ 30) : jy_p i j (30 + n) = 30 * j + n ∧ jy_o (30 + n) = 1 := by
  refine ⟨(if_neg (by omega)).trans ((if_pos (by omega)).trans ?_), (if_neg (by omega)).trans (if_pos (by omega))⟩
  rw [show 30 + n - 30 = n by omega]
theorem i30 (i : Nat) : (30 : Int32) * nI i = nI (30 * i) := by rw [show (30 : Int32) = nI 30 from rfl, pk_mul]
section
variable {f_place f_count f_top f_done f_open f_steps f_shownSteps f_fault f_in f_made f_old f_size f_heads f_fresh : Int32} {a_kind a_value a_all a_split a_toKind a_doneKind a_toValue a_doneValue a_begins a_lacks a_inKind a_leftKind a_madeKind a_oldKind a_resultKind a_inValue a_leftValue a_madeValue a_oldValue a_resultValue a_from a_to a_whole a_known a_bound a_whose a_rank a_one a_two a_oneOf a_twoOf a_headAt a_headOf a_headLeft a_pairs a_first : Nat → Int32}
variable {L R : Nat → List Int64} {J : Nat → Int64} {A B RA RB : List Int64} {σ : Nat → Option Nat} {rk : Nat → Nat} {i j p : Nat}
theorem yk_105 {post : Int32 → SY → Prop} {x4 : Int32} {s S2 : List Int64} (H : jn_H J A B) (hR : us_R A B σ rk) (hY : jy_H a_kind a_value i j A B) (hu : yu_s a_bound a_whose i j σ) (hB30 : B.length + RB.length ≤ 30) (hsB : a_split j = nI B.length) (hRBy : jy_h a_kind a_value 1 (30 * j + B.length) RB) (hRBw : tm_w RB 1) (hRBk : ∀ t, t ∈ RB → jn_k t) (hp : p < A.length) (hS2 : S2 = (vd_r2 A B RB p σ).map (rn_n a_rank)) (hr2k : ∀ t, t ∈ vd_r2 A B RB p σ → jn_k t) (hr2 : ∀ t, t ∈ vd_r2 A B RB p σ → ¬ t < 8589934592 → ∃ r, r < 8 ∧ a_rank (jn_n t) = nI r) (hw : tm_w S2 1) (ht : ∀ t, t ∈ S2 → tk_t t) (hG : mc_G L R) (hRr : yr_R L R a_kind a_value a_all a_split)
    (hx : x4 = 0 ∨ (x4 = 1 ∧ f_old = nI s.length ∧ hd_y tk_kT tk_vT a_oldKind a_oldValue 0 s ∧ (∀ t, t ∈ s → tk_t t) ∧ s.length ≤ 30))
    (H3 : (x4 = 0 ∨ ¬ (S2.length ≤ 30 ∧ (mc_run L R 4000 S2 [] 0 none).1 = 0)) → ys_Q (post 3) f_place f_shownSteps f_size f_fresh a_kind a_value a_all a_split a_resultKind a_resultValue a_pairs a_first)
    (H12 : x4 = 1 → S2.length ≤ 30 → (mc_run L R 4000 S2 [] 0 none).1 = 0 → ys_Q (post (nI (if s = (mc_run L R 4000 S2 [] 0 none).2.2 then 1 else 2))) f_place f_shownSteps f_size f_fresh a_kind a_value a_all a_split a_resultKind a_resultValue a_pairs a_first) : wY_kindOf_105 post (nI i) (nI j) (nI p) x4 f_place f_count f_top f_done f_open f_steps f_shownSteps f_fault f_in f_made f_old f_size f_heads f_fresh a_kind a_value a_all a_split a_toKind a_doneKind a_toValue a_doneValue a_begins a_lacks a_inKind a_leftKind a_madeKind a_oldKind a_resultKind a_inValue a_leftValue a_madeValue a_oldValue a_resultValue a_from a_to a_whole a_known a_bound a_whose a_rank a_one a_two a_oneOf a_twoOf a_headAt a_headOf a_headLeft a_pairs a_first := by
  obtain ⟨hi, hj, hyA, hyB⟩ := hY
  have hY : jy_H a_kind a_value i j A B := ⟨hi, hj, hyA, hyB⟩
  have hAl : A.length ≤ 29 := H.2.2.1
  have hBl : B.length ≤ 29 := H.2.2.2.1
  obtain ⟨om1, om2⟩ := wk_om H hR
  have hlt := jn_lt H (Or.inl hp)
  have cj : (nI j).toNatClampNeg = j := nI_clamp (by omega)
  have inj : vp_in (nI j) 8 := vp_in_nI hj (by omega)
  have ejp : jy_p i j p = 30 * i + p := if_pos (by omega)
  have eip : (30 : Int32) * nI i + nI p = nI (30 * i + p) := by rw [i30, nI_add]
  obtain ⟨eB1, eB2⟩ := jy_B (i := i) (j := j) (n := B.length) (by omega)
  have eml : (vd_r2 A B RB p σ).length = S2.length := by rw [hS2, List.length_map]
  unfold wY_kindOf_105
  refine yk_head (k := 0) (p := 0) (i := i) (j := j) (by omega) (by omega) hi hj (i30 i) rfl ?_
  refine yj_end H hY (p := p) (by rw [ejp, eip]) (Or.inl hp) ⟨inj, ?_⟩
  rw [cj]
  refine yw_writeC (p0 := p) (pr := 30 + B.length) (RB := RB) H hR hY hu om1 om2 (us_h_sol hR) (fun v e => us_h_none e 8) (us_h_ne H hR 8) hp eip (by rw [ejp, Nat.add_assoc]) (by omega) (by omega) (by rw [eB1, i30, hsB, nI_add]) hRBw hRBk (by rw [eB1]; exact hRBy) ⟨⟨pk_us, pk_us, ⟨1, by omega, pk_us, H.1⟩, hyA, Or.inl (by omega), Or.inl (by omega)⟩, trivial⟩ (fun hs ha ho hl ik iv nin g1 g2 => ?_)
  have g1 : nin = nI ((vd_r2 A B RB p σ).take 31).length := g1
  have g2 : hd_y (fun _ => 0) (yw_v a_rank) ik iv 0 ((vd_r2 A B RB p σ).take 31) := g2
  show (((if (vd_r2 A B RB p σ).length ≤ 30 then (1 : Int32) else 0) = 0 → _) ∧ (¬ (if (vd_r2 A B RB p σ).length ≤ 30 then (1 : Int32) else 0) = 0 → _))
  by_cases h30 : (vd_r2 A B RB p σ).length ≤ 30
  · rw [if_pos h30]
    refine br_f (by decide) ?_
    rcases hx with hx | ⟨hx, x1, x2, x3, x5⟩
    · exact br_t hx (H3 (Or.inl hx) _ _ _ _ _ _ _ _ _ _ _ _ _ _ _ _ _ _ _ _ _ _ _ _ _ _ _ _ _ _ _ _ _ _ _ _ _ _)
    · refine br_f (by rw [hx]; decide) ?_
      have et : (vd_r2 A B RB p σ).take 31 = vd_r2 A B RB p σ := List.take_of_length_le (by omega)
      rw [et] at g1 g2
      rw [eml] at g1 h30
      have g3 := rn_hd _ _ hr2k hr2 g2
      rw [← hS2] at g3
      subst g1 x1
      refine yn_nf (P := tk_t) (q := S2) S2.length 0 (fun _ h => h) (fun _ h => tk_d_t h) hG hRr hw h30 ht (by omega) rfl g3 (fun c t' s' run tp dn sp fa md op tk tv dk dv lk lv mdk mdv fr to wh kn bg lc hc => ?_)
      obtain ⟨c1, t1, s1, o1, o2, o3, o4⟩ := mc_run_ok (P := tk_t) (fun _ h => tk_d_t h) hG 4000 S2 [] 0 none (mc_I0 hw h30 ht (by omega)).1 (mc_I0 (P := tk_t) hw h30 ht (by omega)).2
      rw [o1] at run
      obtain ⟨rfl, rfl, rfl⟩ : c1 = c ∧ t1 = t' ∧ s1 = s' := by
        injection run with z1 z2
        injection z2 with z2 z3
        exact ⟨z1, z2, z3⟩
      rw [o1] at H3 H12
      by_cases h0 : c1 = 0
      · obtain ⟨b1, b2⟩ := hc h0
        subst b1
        have H12 := H12 hx h30 h0
        have o5 := o4 h0
        refine br_t (by rw [h0]; rfl) (yb_same s.length s1.length rfl rfl (by omega) (by omega) x2 b2 x3 o5.2.2.2 (fun e => ?_) (fun e => ?_))
        · have e' : s = (c1, t1, s1).2.2 := e
          rw [if_pos e'] at H12
          exact br_f (by decide) (H12 _ _ _ _ _ _ _ _ _ _ _ _ _ _ _ _ _ _ _ _ _ _ _ _ _ _ _ _ _ _ _ _ _ _ _ _ _ _)
        · have e' : ¬ s = (c1, t1, s1).2.2 := e
          rw [if_neg e'] at H12
          exact br_t rfl (H12 _ _ _ _ _ _ _ _ _ _ _ _ _ _ _ _ _ _ _ _ _ _ _ _ _ _ _ _ _ _ _ _ _ _ _ _ _ _)
      · have hcn : ¬ nI c1 = 0 := by rw [← nI_0, nI_eq (by omega) (by omega)]; exact h0
        exact br_f hcn (H3 (Or.inr (fun z => h0 z.2)) _ _ _ _ _ _ _ _ _ _ _ _ _ _ _ _ _ _ _ _ _ _ _ _ _ _ _ _ _ _ _ _ _ _ _ _ _ _)
  · rw [if_neg h30]
    rw [eml] at h30
    exact br_t rfl (H3 (Or.inr (fun z => h30 z.1)) _ _ _ _ _ _ _ _ _ _ _ _ _ _ _ _ _ _ _ _ _ _ _ _ _ _ _ _ _ _ _ _ _ _ _ _ _ _)
end
