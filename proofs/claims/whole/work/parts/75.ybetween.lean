/-! the reference: all pairs of two rules -/
theorem vs_skip {f : Nat} {L R : Nat → List Int64} : ∀ (d k : Nat) (s : (Nat → Int32) × (Nat → Int32)), (∀ m, k ≤ m → m < k + d → vd_w f L R (m / 240) (m / 30 % 8) (m % 30) = 0) → vs_n f L R d k s = s
  | 0, k, s, _ => rfl
  | d + 1, k, s, h => by
    have e : vs_s f L R k s = s := by
      unfold vs_s
      rw [h k (Nat.le_refl _) (by omega), vs_p0, vs_o0]
    rw [vs_n, e]
    exact vs_skip d (k + 1) s (fun m h1 h2 => h m (by omega) (by omega))
theorem vs_add {f : Nat} {L R : Nat → List Int64} : ∀ (a b k : Nat) (s : (Nat → Int32) × (Nat → Int32)), vs_n f L R (a + b) k s = vs_n f L R b (k + a) (vs_n f L R a k s)
  | 0, b, k, s => by rw [Nat.zero_add, Nat.add_zero]; rfl
  | a + 1, b, k, s => by
    rw [show a + 1 + b = (a + b) + 1 by omega, vs_n, vs_n, vs_add a b (k + 1), show k + 1 + a = k + (a + 1) by omega]
theorem vs_at {i j p k : Nat} (hj : j < 8) (hp : p < 30) (hk : k = i * 240 + 30 * j + p) : k / 240 = i ∧ k / 30 % 8 = j ∧ k % 30 = p := by
  subst hk
  refine ⟨by omega, by omega, by omega⟩
section
variable {f_place f_count f_top f_done f_open f_steps f_shownSteps f_fault f_in f_made f_old f_size f_heads f_fresh : Int32} {a_kind a_value a_all a_split a_toKind a_doneKind a_toValue a_doneValue a_begins a_lacks a_inKind a_leftKind a_madeKind a_oldKind a_resultKind a_inValue a_leftValue a_madeValue a_oldValue a_resultValue a_from a_to a_whole a_known a_bound a_whose a_rank a_one a_two a_oneOf a_twoOf a_headAt a_headOf a_headLeft a_pairs a_first : Nat → Int32}
variable {L R : Nat → List Int64} {i j : Nat}
theorem yb_step {post : SY → Prop} {f n p : Nat} {s : (Nat → Int32) × (Nat → Int32)} (hf : f = 10000000) (hG : mc_G L R) (hRr : yr_R L R a_kind a_value a_all a_split) (hi : i < 8) (hj : j < 8) (pi : vd_pl L R i = true) (pj : vd_pl L R j = true) (hp : p < (L i).length) (hne : ¬ (p = 0 ∧ i = j)) (HQ : ys_Q (fun u => match u with | (f_place0, f_count0, f_top0, f_done0, f_open0, f_steps0, f_shownSteps0, f_fault0, f_in0, f_made0, f_old0, f_size0, f_heads0, f_fresh0, a_kind0, a_value0, a_all0, a_split0, a_toKind0, a_doneKind0, a_toValue0, a_doneValue0, a_begins0, a_lacks0, a_inKind0, a_leftKind0, a_madeKind0, a_oldKind0, a_resultKind0, a_inValue0, a_leftValue0, a_madeValue0, a_oldValue0, a_resultValue0, a_from0, a_to0, a_whole0, a_known0, a_bound0, a_whose0, a_rank0, a_one0, a_two0, a_oneOf0, a_twoOf0, a_headAt0, a_headOf0, a_headLeft0, a_pairs0, a_first0) => wY_between_11 post (nI i) (nI j) n (nI (p + 1)) f_place0 f_count0 f_top0 f_done0 f_open0 f_steps0 f_shownSteps0 f_fault0 f_in0 f_made0 f_old0 f_size0 f_heads0 f_fresh0 a_kind0 a_value0 a_all0 a_split0 a_toKind0 a_doneKind0 a_toValue0 a_doneValue0 a_begins0 a_lacks0 a_inKind0 a_leftKind0 a_madeKind0 a_oldKind0 a_resultKind0 a_inValue0 a_leftValue0 a_madeValue0 a_oldValue0 a_resultValue0 a_from0 a_to0 a_whole0 a_known0 a_bound0 a_whose0 a_rank0 a_one0 a_two0 a_oneOf0 a_twoOf0 a_headAt0 a_headOf0 a_headLeft0 a_pairs0 a_first0) f_place f_shownSteps f_size f_fresh a_kind a_value a_all a_split a_resultKind a_resultValue (vs_p (vd_w f L R i j p) s.1) (vd_fo (vd_w f L R i j p) i j p s.2)) : wY_between_11 post (nI i) (nI j) (n + 1) (nI p) f_place f_count f_top f_done f_open f_steps f_shownSteps f_fault f_in f_made f_old f_size f_heads f_fresh a_kind a_value a_all a_split a_toKind a_doneKind a_toValue a_doneValue a_begins a_lacks a_inKind a_leftKind a_madeKind a_oldKind a_resultKind a_inValue a_leftValue a_madeValue a_oldValue a_resultValue a_from a_to a_whole a_known a_bound a_whose a_rank a_one a_two a_oneOf a_twoOf a_headAt a_headOf a_headLeft s.1 s.2 := by
  obtain ⟨a0, a1, a2, a3, a4, a5, a6, a7⟩ := vd_base hG pi
  obtain ⟨b0, b1, b2, b3, b4, b5, b6, b7⟩ := vd_base hG pj
  obtain ⟨c1, c2, c3, c4, c5⟩ := vd_B hG pj
  obtain ⟨_, w2, w3⟩ := (hRr i hi).2 a0
  obtain ⟨_, x2, x3⟩ := (hRr j hj).2 b0
  have bl : ((L j).map vd_h).length = (L j).length := List.length_map _
  have rl : ((R j).map vd_h).length = (R j).length := List.length_map _
  have ci : (nI i).toNatClampNeg = i := nI_clamp (by omega)
  have ini : vp_in (nI i) 8 := vp_in_nI hi (by omega)
  have eip : (30 : Int32) * nI i + nI p = nI (30 * i + p) := by rw [i30, nI_add]
  have inp : vp_in ((30 : Int32) * nI i + nI p) 270 := by rw [eip]; exact vp_in_nI (by omega) (by omega)
  have cp : ((30 : Int32) * nI i + nI p).toNatClampNeg = 30 * i + p := by rw [eip]; exact nI_clamp (by omega)
  obtain ⟨wl, wr⟩ := hy_app.mp w3
  obtain ⟨xl, xr⟩ := hy_app.mp x3
  have hkd := (hy_get wl hp).1
  have hgd : (L i).getD p 0 = (L i)[p] := by rw [List.getD_eq_getElem?_getD, List.getElem?_eq_getElem hp]; rfl
  have htk := a5 _ (List.getElem_mem hp)
  have hno : vd_w f L R i j p = 0 → wY_between_11 post (nI i) (nI j) n (nI (p + 1)) f_place f_count f_top f_done f_open f_steps f_shownSteps f_fault f_in f_made f_old f_size f_heads f_fresh a_kind a_value a_all a_split a_toKind a_doneKind a_toValue a_doneValue a_begins a_lacks a_inKind a_leftKind a_madeKind a_oldKind a_resultKind a_inValue a_leftValue a_madeValue a_oldValue a_resultValue a_from a_to a_whole a_known a_bound a_whose a_rank a_one a_two a_oneOf a_twoOf a_headAt a_headOf a_headLeft s.1 s.2 := by
    intro e
    rw [e, vs_p0, vs_o0] at HQ
    exact HQ _ _ _ _ _ _ _ _ _ _ _ _ _ _ _ _ _ _ _ _ _ _ _ _ _ _ _ _ _ _ _ _ _ _ _ _ _ _
  refine ⟨ini, ?_⟩
  rw [ci, w2]
  refine pk_le (L i).length p (fun z => absurd z (by omega)) (fun _ => ⟨inp, ?_⟩)
  rw [cp, hkd]
  have hcase : ((L i)[p] < 8589934592 ∧ tk_kR (L i)[p] = 0) ∨ (¬ (L i)[p] < 8589934592 ∧ tk_kR (L i)[p] = 2) := by
    obtain ⟨n', en, hn⟩ := htk
    rw [en]
    unfold tk_kR
    have l1 : lN n' < 4294967296 ↔ n' < 4294967296 := tk_lt 4294967296 (by omega)
    have l2 : lN n' < 8589934592 ↔ n' < 8589934592 := tk_lt 8589934592 (by omega)
    have l3 : lN n' < 12884901888 ↔ n' < 12884901888 := tk_lt 12884901888 (by omega)
    rcases hn with hn | hn
    · exact Or.inl ⟨l2.mpr (by omega), if_pos (l1.mpr (by omega))⟩
    · refine Or.inr ⟨by rw [l2]; omega, ?_⟩
      rw [if_neg (by rw [l1]; omega), if_neg (by rw [l2]; omega), if_pos (l3.mpr (by omega))]
  rcases hcase with ⟨hs, hk⟩ | ⟨hs, hk⟩
  · rw [hk]
    refine br_f (by decide) ?_
    have hok : vd_ok L R i j p = true := by
      unfold vd_ok
      rw [pi, pj, hgd, decide_eq_true hp, decide_eq_true hs]
      by_cases a : p = 0
      · have b : ¬ i = j := fun z => hne ⟨a, z⟩
        rw [decide_eq_false b, Bool.and_false]; rfl
      · rw [decide_eq_false a, Bool.false_and]; rfl
    have ew : vd_w f L R i j p = vd f L R i j p := if_pos hok
    have H : jn_H (vd_J (L i) ((L j).map vd_h)) (L i) ((L j).map vd_h) := vd_H a1 c1 a4 (by omega) (fun t ht => vd_k_j (a5 t ht)) c3
    have hY : jy_H a_kind a_value i j (L i) ((L j).map vd_h) := ⟨hi, hj, (jy_of _ _ a5 wl).1, (jy_of _ _ b5 xl).2⟩
    have v0 : jn_v (L i) ((L j).map vd_h) p := Or.inl hp
    have v30 : jn_v (L i) ((L j).map vd_h) 30 := Or.inr ⟨by omega, by have := tm_w_len _ _ c1; omega⟩
    refine yu_unify (p0 := p) (f := f) hf (by omega) eip (i30 j) H hY v0 v30 (fun σ e ct hs o1 w1 o2 w2' bd wo ha ho hl hu => ?_) (fun e ct hs o1 w1 o2 w2' bd wo ha ho hl => ?_)
    · obtain ⟨⟨rk, hR⟩, hE⟩ := us_un_fin H v0 v30 e
      have ev := vd_some (R := R) H v0 v30 e
      rw [ew, ev] at HQ
      obtain ⟨hv0, hv4⟩ := vd_c_pos (L := L) (R := R) (p := p) (L i) (R i) ((L j).map vd_h) ((R j).map vd_h) σ
      rw [vs_pn hv0] at HQ
      refine br_f (by decide) ?_
      refine yk_kind (A := L i) (B := (L j).map vd_h) (RA := R i) (RB := (R j).map vd_h) (i := i) (j := j) (p := p) (L := L) (R := R) H hR hY hu a3 (by rw [bl, rl]; exact b3) w2 (by rw [bl]; exact x2) (jy_of _ _ a6 wr).1 (by rw [bl]; exact (jy_of _ _ b6 xr).2) a2 (fun t ht => vd_k_j (a6 t ht)) a7 c2 c4 c5 hp (hE _ (us_h_sol hR)) hG hRr ?_
      intro f_count f_top f_done f_open f_steps f_fault f_in f_made f_old f_heads a_toKind a_doneKind a_toValue a_doneValue a_begins a_lacks a_inKind a_leftKind a_madeKind a_oldKind a_inValue a_leftValue a_madeValue a_oldValue a_from a_to a_whole a_known a_bound a_whose a_rank a_one a_two a_oneOf a_twoOf a_headAt a_headOf a_headLeft
      have hin : vp_in (nI (vd_c L R (L i) (R i) ((L j).map vd_h) ((R j).map vd_h) p σ)) 4 := vp_in_nI hv4 (by omega)
      have ec : (nI (vd_c L R (L i) (R i) ((L j).map vd_h) ((R j).map vd_h) p σ)).toNatClampNeg = vd_c L R (L i) (R i) ((L j).map vd_h) ((R j).map vd_h) p σ := nI_clamp (by omega)
      refine nm_e ⟨hin, hin, nm_r (e' := vd_pc (vd_c L R (L i) (R i) ((L j).map vd_h) ((R j).map vd_h) p σ) s.1) (by rw [ec]; rfl) ?_⟩
      unfold vd_fo at HQ
      refine pk_eq (vd_c L R (L i) (R i) ((L j).map vd_h) ((R j).map vd_h) p σ) 2 (fun h2 => ?_) (fun h2 => ?_)
      · by_cases hfo : s.2 0 = -2
        · rw [if_pos ⟨h2, hfo⟩] at HQ
          exact br_t hfo (nm_e (nm_e (nm_e (nm_r (nI_1 p) (HQ _ _ _ _ _ _ _ _ _ _ _ _ _ _ _ _ _ _ _ _ _ _ _ _ _ _ _ _ _ _ _ _ _ _ _ _ _ _)))))
        · rw [if_neg (fun z => hfo z.2)] at HQ
          exact br_f hfo (nm_r (nI_1 p) (HQ _ _ _ _ _ _ _ _ _ _ _ _ _ _ _ _ _ _ _ _ _ _ _ _ _ _ _ _ _ _ _ _ _ _ _ _ _ _))
      · rw [if_neg (fun z => h2 z.1)] at HQ
        exact nm_r (nI_1 p) (HQ _ _ _ _ _ _ _ _ _ _ _ _ _ _ _ _ _ _ _ _ _ _ _ _ _ _ _ _ _ _ _ _ _ _ _ _ _ _)
    · have ev := vd_none (R := R) H v0 v30 e
      rw [ew, ev, vs_p0, vs_o0] at HQ
      exact br_t rfl (nm_r (nI_1 p) (HQ _ _ _ _ _ _ _ _ _ _ _ _ _ _ _ _ _ _ _ _ _ _ _ _ _ _ _ _ _ _ _ _ _ _ _ _ _ _))
  · rw [hk]
    refine br_t rfl (nm_r (nI_1 p) (hno (if_neg ?_)))
    unfold vd_ok
    rw [hgd, decide_eq_false hs, Bool.and_false]
    decide
theorem yb_loop {post : SY → Prop} {f : Nat} (hf : f = 10000000) (hG : mc_G L R) (hRr : yr_R L R a_kind a_value a_all a_split) (hi : i < 8) (hj : j < 8) (pi : vd_pl L R i = true) (pj : vd_pl L R j = true) : ∀ (d p n : Nat) (s : (Nat → Int32) × (Nat → Int32)), p + d = (L i).length → d < n → (i = j → 0 < p) → ys_Q post f_place f_shownSteps f_size f_fresh a_kind a_value a_all a_split a_resultKind a_resultValue (vs_n f L R (30 - p) (i * 240 + 30 * j + p) s).1 (vs_n f L R (30 - p) (i * 240 + 30 * j + p) s).2 → ys_Q (fun u => match u with | (f_place0, f_count0, f_top0, f_done0, f_open0, f_steps0, f_shownSteps0, f_fault0, f_in0, f_made0, f_old0, f_size0, f_heads0, f_fresh0, a_kind0, a_value0, a_all0, a_split0, a_toKind0, a_doneKind0, a_toValue0, a_doneValue0, a_begins0, a_lacks0, a_inKind0, a_leftKind0, a_madeKind0, a_oldKind0, a_resultKind0, a_inValue0, a_leftValue0, a_madeValue0, a_oldValue0, a_resultValue0, a_from0, a_to0, a_whole0, a_known0, a_bound0, a_whose0, a_rank0, a_one0, a_two0, a_oneOf0, a_twoOf0, a_headAt0, a_headOf0, a_headLeft0, a_pairs0, a_first0) => wY_between_11 post (nI i) (nI j) n (nI p) f_place0 f_count0 f_top0 f_done0 f_open0 f_steps0 f_shownSteps0 f_fault0 f_in0 f_made0 f_old0 f_size0 f_heads0 f_fresh0 a_kind0 a_value0 a_all0 a_split0 a_toKind0 a_doneKind0 a_toValue0 a_doneValue0 a_begins0 a_lacks0 a_inKind0 a_leftKind0 a_madeKind0 a_oldKind0 a_resultKind0 a_inValue0 a_leftValue0 a_madeValue0 a_oldValue0 a_resultValue0 a_from0 a_to0 a_whole0 a_known0 a_bound0 a_whose0 a_rank0 a_one0 a_two0 a_oneOf0 a_twoOf0 a_headAt0 a_headOf0 a_headLeft0 a_pairs0 a_first0) f_place f_shownSteps f_size f_fresh a_kind a_value a_all a_split a_resultKind a_resultValue s.1 s.2
  | 0, p, n, s, hp, hn, hne, HQ => by
    obtain ⟨n, rfl⟩ : ∃ n', n = n' + 1 := ⟨n - 1, by omega⟩
    obtain ⟨a0, a1, a2, a3, a4, a5, a6, a7⟩ := vd_base hG pi
    obtain ⟨_, w2, w3⟩ := (hRr i hi).2 a0
    have ci : (nI i).toNatClampNeg = i := nI_clamp (by omega)
    have ini : vp_in (nI i) 8 := vp_in_nI hi (by omega)
    rw [vs_skip (30 - p) (i * 240 + 30 * j + p) s (fun m h1 h2 => by
      obtain ⟨e1, e2, e3⟩ := vs_at (i := i) (j := j) (p := m - (i * 240 + 30 * j)) (k := m) hj (by omega) (by omega)
      rw [e1, e2, e3]
      refine if_neg ?_
      unfold vd_ok
      rw [decide_eq_false (show ¬ m - (i * 240 + 30 * j) < (L i).length by omega), Bool.and_false, Bool.false_and, Bool.false_and]
      decide)] at HQ
    intro f_count f_top f_done f_open f_steps f_fault f_in f_made f_old f_heads a_toKind a_doneKind a_toValue a_doneValue a_begins a_lacks a_inKind a_leftKind a_madeKind a_oldKind a_inValue a_leftValue a_madeValue a_oldValue a_from a_to a_whole a_known a_bound a_whose a_rank a_one a_two a_oneOf a_twoOf a_headAt a_headOf a_headLeft
    refine ⟨ini, ?_⟩
    rw [ci, w2]
    exact pk_le (L i).length p (fun _ => HQ _ _ _ _ _ _ _ _ _ _ _ _ _ _ _ _ _ _ _ _ _ _ _ _ _ _ _ _ _ _ _ _ _ _ _ _ _ _) (fun z => absurd z (by omega))
  | d + 1, p, n, s, hp, hn, hne, HQ => by
    obtain ⟨n, rfl⟩ : ∃ n', n = n' + 1 := ⟨n - 1, by omega⟩
    obtain ⟨a0, a1, a2, a3, a4, a5, a6, a7⟩ := vd_base hG pi
    obtain ⟨e1, e2, e3⟩ := vs_at (i := i) (j := j) (p := p) (k := i * 240 + 30 * j + p) hj (by omega) rfl
    rw [show 30 - p = (30 - (p + 1)) + 1 by omega, vs_n] at HQ
    have ih := yb_loop hf hG hRr hi hj pi pj d (p + 1) n _ (by omega) (by omega) (fun _ => by omega) HQ
    unfold vs_s at ih
    rw [e1, e2, e3] at ih
    intro f_count f_top f_done f_open f_steps f_fault f_in f_made f_old f_heads a_toKind a_doneKind a_toValue a_doneValue a_begins a_lacks a_inKind a_leftKind a_madeKind a_oldKind a_inValue a_leftValue a_madeValue a_oldValue a_from a_to a_whole a_known a_bound a_whose a_rank a_one a_two a_oneOf a_twoOf a_headAt a_headOf a_headLeft
    exact yb_step hf hG hRr hi hj pi pj (by omega) (fun z => by have := hne z.2; omega) ih
theorem yb_between {post : SY → Prop} {f : Nat} {s : (Nat → Int32) × (Nat → Int32)} (hf : f = 10000000) (hG : mc_G L R) (hRr : yr_R L R a_kind a_value a_all a_split) (hi : i < 8) (hj : j < 8) (pi : vd_pl L R i = true) (pj : vd_pl L R j = true) (HQ : ys_Q post f_place f_shownSteps f_size f_fresh a_kind a_value a_all a_split a_resultKind a_resultValue (vs_n f L R 30 (i * 240 + 30 * j) s).1 (vs_n f L R 30 (i * 240 + 30 * j) s).2) : wpY_between post (f_place, f_count, f_top, f_done, f_open, f_steps, f_shownSteps, f_fault, f_in, f_made, f_old, f_size, f_heads, f_fresh, a_kind, a_value, a_all, a_split, a_toKind, a_doneKind, a_toValue, a_doneValue, a_begins, a_lacks, a_inKind, a_leftKind, a_madeKind, a_oldKind, a_resultKind, a_inValue, a_leftValue, a_madeValue, a_oldValue, a_resultValue, a_from, a_to, a_whole, a_known, a_bound, a_whose, a_rank, a_one, a_two, a_oneOf, a_twoOf, a_headAt, a_headOf, a_headLeft, s.1, s.2) (nI i) (nI j) := by
  obtain ⟨a0, a1, a2, a3, a4, a5, a6, a7⟩ := vd_base hG pi
  have hl := tm_w_len _ _ a1
  refine pk_eq i j (fun hij => ⟨(L i).length + 1, ?_⟩) (fun hij => ⟨(L i).length + 1, ?_⟩)
  · have e : vs_s f L R (i * 240 + 30 * j) s = s := by
      obtain ⟨e1, e2, e3⟩ := vs_at (i := i) (j := j) (p := 0) (k := i * 240 + 30 * j) hj (by omega) rfl
      unfold vs_s
      have ew : vd_w f L R i j 0 = 0 := by
        refine if_neg ?_
        unfold vd_ok
        rw [decide_eq_true rfl, decide_eq_true hij]
        simp
      rw [e1, e2, e3, ew, vs_p0, vs_o0]
    rw [vs_n, e] at HQ
    exact yb_loop hf hG hRr hi hj pi pj ((L i).length - 1) 1 _ s (by omega) (by omega) (fun _ => by omega) HQ _ _ _ _ _ _ _ _ _ _ _ _ _ _ _ _ _ _ _ _ _ _ _ _ _ _ _ _ _ _ _ _ _ _ _ _ _ _
  · exact yb_loop hf hG hRr hi hj pi pj (L i).length 0 _ s (by omega) (by omega) (fun z => absurd z hij) HQ _ _ _ _ _ _ _ _ _ _ _ _ _ _ _ _ _ _ _ _ _ _ _ _ _ _ _ _ _ _ _ _ _ _ _ _ _ _
end
