/-! the reference: the survey -/
section
variable {f_place f_count f_top f_done f_open f_steps f_shownSteps f_fault f_in f_made f_old f_size f_heads f_fresh : Int32} {a_kind a_value a_all a_split a_toKind a_doneKind a_toValue a_doneValue a_begins a_lacks a_inKind a_leftKind a_madeKind a_oldKind a_resultKind a_inValue a_leftValue a_madeValue a_oldValue a_resultValue a_from a_to a_whole a_known a_bound a_whose a_rank a_one a_two a_oneOf a_twoOf a_headAt a_headOf a_headLeft a_pairs a_first : Nat → Int32}
variable {L R : Nat → List Int64}
theorem ys_64 {post : SY → Prop} {J56 : Int32 → Int32 → Int32 → Int32 → Int32 → Int32 → Int32 → Int32 → Int32 → Int32 → Int32 → Int32 → Int32 → Int32 → Int32 → (Nat → Int32) → (Nat → Int32) → (Nat → Int32) → (Nat → Int32) → (Nat → Int32) → (Nat → Int32) → (Nat → Int32) → (Nat → Int32) → (Nat → Int32) → (Nat → Int32) → (Nat → Int32) → (Nat → Int32) → (Nat → Int32) → (Nat → Int32) → (Nat → Int32) → (Nat → Int32) → (Nat → Int32) → (Nat → Int32) → (Nat → Int32) → (Nat → Int32) → (Nat → Int32) → (Nat → Int32) → (Nat → Int32) → (Nat → Int32) → (Nat → Int32) → (Nat → Int32) → (Nat → Int32) → (Nat → Int32) → (Nat → Int32) → (Nat → Int32) → (Nat → Int32) → (Nat → Int32) → (Nat → Int32) → (Nat → Int32) → (Nat → Int32) → (Nat → Int32) → Prop} {f i : Nat} (hf : f = 10000000) (hG : mc_G L R) (hRr : yr_R L R a_kind a_value a_all a_split) (hi : i < 8) : ∀ (d j n : Nat) (s : (Nat → Int32) × (Nat → Int32)), j + d = 8 → d < n → ys_Q (fun u => match u with | (f_place0, f_count0, f_top0, f_done0, f_open0, f_steps0, f_shownSteps0, f_fault0, f_in0, f_made0, f_old0, f_size0, f_heads0, f_fresh0, a_kind0, a_value0, a_all0, a_split0, a_toKind0, a_doneKind0, a_toValue0, a_doneValue0, a_begins0, a_lacks0, a_inKind0, a_leftKind0, a_madeKind0, a_oldKind0, a_resultKind0, a_inValue0, a_leftValue0, a_madeValue0, a_oldValue0, a_resultValue0, a_from0, a_to0, a_whole0, a_known0, a_bound0, a_whose0, a_rank0, a_one0, a_two0, a_oneOf0, a_twoOf0, a_headAt0, a_headOf0, a_headLeft0, a_pairs0, a_first0) => J56 (nI (i + 1)) f_place0 f_count0 f_top0 f_done0 f_open0 f_steps0 f_shownSteps0 f_fault0 f_in0 f_made0 f_old0 f_size0 f_heads0 f_fresh0 a_kind0 a_value0 a_all0 a_split0 a_toKind0 a_doneKind0 a_toValue0 a_doneValue0 a_begins0 a_lacks0 a_inKind0 a_leftKind0 a_madeKind0 a_oldKind0 a_resultKind0 a_inValue0 a_leftValue0 a_madeValue0 a_oldValue0 a_resultValue0 a_from0 a_to0 a_whole0 a_known0 a_bound0 a_whose0 a_rank0 a_one0 a_two0 a_oneOf0 a_twoOf0 a_headAt0 a_headOf0 a_headLeft0 a_pairs0 a_first0) f_place f_shownSteps f_size f_fresh a_kind a_value a_all a_split a_resultKind a_resultValue (vs_n f L R (30 * d) (i * 240 + 30 * j) s).1 (vs_n f L R (30 * d) (i * 240 + 30 * j) s).2 → ys_Q (fun u => match u with | (f_place0, f_count0, f_top0, f_done0, f_open0, f_steps0, f_shownSteps0, f_fault0, f_in0, f_made0, f_old0, f_size0, f_heads0, f_fresh0, a_kind0, a_value0, a_all0, a_split0, a_toKind0, a_doneKind0, a_toValue0, a_doneValue0, a_begins0, a_lacks0, a_inKind0, a_leftKind0, a_madeKind0, a_oldKind0, a_resultKind0, a_inValue0, a_leftValue0, a_madeValue0, a_oldValue0, a_resultValue0, a_from0, a_to0, a_whole0, a_known0, a_bound0, a_whose0, a_rank0, a_one0, a_two0, a_oneOf0, a_twoOf0, a_headAt0, a_headOf0, a_headLeft0, a_pairs0, a_first0) => wY_survey_64 post J56 (nI i) n (nI j) f_place0 f_count0 f_top0 f_done0 f_open0 f_steps0 f_shownSteps0 f_fault0 f_in0 f_made0 f_old0 f_size0 f_heads0 f_fresh0 a_kind0 a_value0 a_all0 a_split0 a_toKind0 a_doneKind0 a_toValue0 a_doneValue0 a_begins0 a_lacks0 a_inKind0 a_leftKind0 a_madeKind0 a_oldKind0 a_resultKind0 a_inValue0 a_leftValue0 a_madeValue0 a_oldValue0 a_resultValue0 a_from0 a_to0 a_whole0 a_known0 a_bound0 a_whose0 a_rank0 a_one0 a_two0 a_oneOf0 a_twoOf0 a_headAt0 a_headOf0 a_headLeft0 a_pairs0 a_first0) f_place f_shownSteps f_size f_fresh a_kind a_value a_all a_split a_resultKind a_resultValue s.1 s.2
  | 0, j, n, s, hj, hn, HQ => by
    obtain ⟨n, rfl⟩ : ∃ n', n = n' + 1 := ⟨n - 1, by omega⟩
    intro f_count f_top f_done f_open f_steps f_fault f_in f_made f_old f_heads a_toKind a_doneKind a_toValue a_doneValue a_begins a_lacks a_inKind a_leftKind a_madeKind a_oldKind a_inValue a_leftValue a_madeValue a_oldValue a_from a_to a_whole a_known a_bound a_whose a_rank a_one a_two a_oneOf a_twoOf a_headAt a_headOf a_headLeft
    exact pk_le 8 j (fun _ => nm_r (nI_1 i) (HQ _ _ _ _ _ _ _ _ _ _ _ _ _ _ _ _ _ _ _ _ _ _ _ _ _ _ _ _ _ _ _ _ _ _ _ _ _ _)) (fun z => absurd z (by omega))
  | d + 1, j, n, s, hj, hn, HQ => by
    obtain ⟨n, rfl⟩ : ∃ n', n = n' + 1 := ⟨n - 1, by omega⟩
    rw [show 30 * (d + 1) = 30 + 30 * d by omega, vs_add, show i * 240 + 30 * j + 30 = i * 240 + 30 * (j + 1) by omega] at HQ
    have ih := ys_64 (post := post) (J56 := J56) hf hG hRr hi d (j + 1) n _ (by omega) (by omega) HQ
    intro f_count f_top f_done f_open f_steps f_fault f_in f_made f_old f_heads a_toKind a_doneKind a_toValue a_doneValue a_begins a_lacks a_inKind a_leftKind a_madeKind a_oldKind a_inValue a_leftValue a_madeValue a_oldValue a_from a_to a_whole a_known a_bound a_whose a_rank a_one a_two a_oneOf a_twoOf a_headAt a_headOf a_headLeft
    refine pk_le 8 j (fun z => absurd z (by omega)) (fun _ => ?_)
    have skip : ¬ (vd_pl L R i = true ∧ vd_pl L R j = true) → vs_n f L R 30 (i * 240 + 30 * j) s = s := by
      intro hno
      refine vs_skip 30 _ s (fun m h1 h2 => ?_)
      obtain ⟨e1, e2, e3⟩ := vs_at (i := i) (j := j) (p := m - (i * 240 + 30 * j)) (k := m) (by omega) (by omega) (by omega)
      rw [e1, e2, e3]
      refine if_neg (fun z => hno ?_)
      have := vd_ok_1 z
      exact ⟨this.1, this.2.1⟩
    refine yp_plain hG hRr hi ?_
    by_cases pi : vd_pl L R i = true
    · rw [if_pos pi]
      refine br_f (by decide) (yp_plain hG hRr (by omega) ?_)
      by_cases pj : vd_pl L R j = true
      · rw [if_pos pj]
        refine br_f (by decide) ?_
        refine yb_between (s := s) hf hG hRr hi (by omega) pi pj ?_
        intro f_count f_top f_done f_open f_steps f_fault f_in f_made f_old f_heads a_toKind a_doneKind a_toValue a_doneValue a_begins a_lacks a_inKind a_leftKind a_madeKind a_oldKind a_inValue a_leftValue a_madeValue a_oldValue a_from a_to a_whole a_known a_bound a_whose a_rank a_one a_two a_oneOf a_twoOf a_headAt a_headOf a_headLeft
        exact nm_r (nI_1 j) (ih _ _ _ _ _ _ _ _ _ _ _ _ _ _ _ _ _ _ _ _ _ _ _ _ _ _ _ _ _ _ _ _ _ _ _ _ _ _)
      · rw [if_neg pj]
        rw [skip (fun z => pj z.2)] at ih
        exact br_t rfl (nm_r (nI_1 j) (ih _ _ _ _ _ _ _ _ _ _ _ _ _ _ _ _ _ _ _ _ _ _ _ _ _ _ _ _ _ _ _ _ _ _ _ _ _ _))
    · rw [if_neg pi]
      rw [skip (fun z => pi z.1)] at ih
      exact br_t rfl (nm_r (nI_1 j) (ih _ _ _ _ _ _ _ _ _ _ _ _ _ _ _ _ _ _ _ _ _ _ _ _ _ _ _ _ _ _ _ _ _ _ _ _ _ _))
theorem ys_56 {post : SY → Prop} {f : Nat} (hf : f = 10000000) (hG : mc_G L R) (hRr : yr_R L R a_kind a_value a_all a_split) : ∀ (d i n : Nat) (s : (Nat → Int32) × (Nat → Int32)), i + d = 8 → d < n → ys_Q post f_place f_shownSteps f_size f_fresh a_kind a_value a_all a_split a_resultKind a_resultValue (vs_n f L R (240 * d) (i * 240) s).1 (vs_n f L R (240 * d) (i * 240) s).2 → ys_Q (fun u => match u with | (f_place0, f_count0, f_top0, f_done0, f_open0, f_steps0, f_shownSteps0, f_fault0, f_in0, f_made0, f_old0, f_size0, f_heads0, f_fresh0, a_kind0, a_value0, a_all0, a_split0, a_toKind0, a_doneKind0, a_toValue0, a_doneValue0, a_begins0, a_lacks0, a_inKind0, a_leftKind0, a_madeKind0, a_oldKind0, a_resultKind0, a_inValue0, a_leftValue0, a_madeValue0, a_oldValue0, a_resultValue0, a_from0, a_to0, a_whole0, a_known0, a_bound0, a_whose0, a_rank0, a_one0, a_two0, a_oneOf0, a_twoOf0, a_headAt0, a_headOf0, a_headLeft0, a_pairs0, a_first0) => wY_survey_56 post n (nI i) f_place0 f_count0 f_top0 f_done0 f_open0 f_steps0 f_shownSteps0 f_fault0 f_in0 f_made0 f_old0 f_size0 f_heads0 f_fresh0 a_kind0 a_value0 a_all0 a_split0 a_toKind0 a_doneKind0 a_toValue0 a_doneValue0 a_begins0 a_lacks0 a_inKind0 a_leftKind0 a_madeKind0 a_oldKind0 a_resultKind0 a_inValue0 a_leftValue0 a_madeValue0 a_oldValue0 a_resultValue0 a_from0 a_to0 a_whole0 a_known0 a_bound0 a_whose0 a_rank0 a_one0 a_two0 a_oneOf0 a_twoOf0 a_headAt0 a_headOf0 a_headLeft0 a_pairs0 a_first0) f_place f_shownSteps f_size f_fresh a_kind a_value a_all a_split a_resultKind a_resultValue s.1 s.2
  | 0, i, n, s, hi, hn, HQ => by
    obtain ⟨n, rfl⟩ : ∃ n', n = n' + 1 := ⟨n - 1, by omega⟩
    intro f_count f_top f_done f_open f_steps f_fault f_in f_made f_old f_heads a_toKind a_doneKind a_toValue a_doneValue a_begins a_lacks a_inKind a_leftKind a_madeKind a_oldKind a_inValue a_leftValue a_madeValue a_oldValue a_from a_to a_whole a_known a_bound a_whose a_rank a_one a_two a_oneOf a_twoOf a_headAt a_headOf a_headLeft
    exact pk_le 8 i (fun _ => HQ _ _ _ _ _ _ _ _ _ _ _ _ _ _ _ _ _ _ _ _ _ _ _ _ _ _ _ _ _ _ _ _ _ _ _ _ _ _) (fun z => absurd z (by omega))
  | d + 1, i, n, s, hi, hn, HQ => by
    obtain ⟨n, rfl⟩ : ∃ n', n = n' + 1 := ⟨n - 1, by omega⟩
    rw [show 240 * (d + 1) = 240 + 240 * d by omega, vs_add, show i * 240 + 240 = (i + 1) * 240 by omega] at HQ
    have ih := ys_56 (post := post) hf hG hRr d (i + 1) n _ (by omega) (by omega) HQ
    intro f_count f_top f_done f_open f_steps f_fault f_in f_made f_old f_heads a_toKind a_doneKind a_toValue a_doneValue a_begins a_lacks a_inKind a_leftKind a_madeKind a_oldKind a_inValue a_leftValue a_madeValue a_oldValue a_from a_to a_whole a_known a_bound a_whose a_rank a_one a_two a_oneOf a_twoOf a_headAt a_headOf a_headLeft
    refine pk_le 8 i (fun z => absurd z (by omega)) (fun _ => ⟨9, ?_⟩)
    exact ys_64 (post := post) (J56 := wY_survey_56 post n) hf hG hRr (i := i) (by omega) 8 0 9 s (by omega) (by omega) ih _ _ _ _ _ _ _ _ _ _ _ _ _ _ _ _ _ _ _ _ _ _ _ _ _ _ _ _ _ _ _ _ _ _ _ _ _ _
theorem ys_35 {post : SY → Prop} : ∀ (d k n : Nat) (fo : Nat → Int32), k + d = 3 → (∀ v, v < k → fo v = -2) → d < n → (∀ fo' : Nat → Int32, (∀ v, v < 3 → fo' v = -2) → ∃ n, wY_survey_56 post n 0 f_place f_count f_top f_done f_open f_steps f_shownSteps f_fault f_in f_made f_old f_size f_heads f_fresh a_kind a_value a_all a_split a_toKind a_doneKind a_toValue a_doneValue a_begins a_lacks a_inKind a_leftKind a_madeKind a_oldKind a_resultKind a_inValue a_leftValue a_madeValue a_oldValue a_resultValue a_from a_to a_whole a_known a_bound a_whose a_rank a_one a_two a_oneOf a_twoOf a_headAt a_headOf a_headLeft a_pairs fo') → wY_survey_35 post f_place f_count f_top f_done f_open f_steps f_shownSteps f_fault f_in f_made f_old f_size f_heads f_fresh n (nI k) a_kind a_value a_all a_split a_toKind a_doneKind a_toValue a_doneValue a_begins a_lacks a_inKind a_leftKind a_madeKind a_oldKind a_resultKind a_inValue a_leftValue a_madeValue a_oldValue a_resultValue a_from a_to a_whole a_known a_bound a_whose a_rank a_one a_two a_oneOf a_twoOf a_headAt a_headOf a_headLeft a_pairs fo
  | 0, k, n, fo, hk, hm, hn, H => by
    obtain ⟨n, rfl⟩ : ∃ n', n = n' + 1 := ⟨n - 1, by omega⟩
    exact pk_le 3 k (fun _ => H fo (fun v hv => hm v (by omega))) (fun z => absurd z (by omega))
  | d + 1, k, n, fo, hk, hm, hn, H => by
    obtain ⟨n, rfl⟩ : ∃ n', n = n' + 1 := ⟨n - 1, by omega⟩
    refine pk_le 3 k (fun z => absurd z (by omega)) (fun _ => ⟨vp_in_nI (by omega) (by omega), nm_r (e' := upd fo k (-2)) (by rw [nI_clamp (by omega)]) (nm_r (nI_1 k) ?_)⟩)
    refine ys_35 d (k + 1) n _ (by omega) (fun v hv => ?_) (by omega) H
    by_cases e : v = k
    · rw [e, pk_us]
    · rw [pk_un e]; exact hm v (by omega)
theorem ys_15 {post : SY → Prop} : ∀ (d k n : Nat) (pc : Nat → Int32), k + d = 4 → (∀ v, v < k → pc v = 0) → d < n → (∀ pc' fo' : Nat → Int32, (∀ v, v < 4 → pc' v = 0) → (∀ v, v < 3 → fo' v = -2) → ∃ n, wY_survey_56 post n 0 f_place f_count f_top f_done f_open f_steps f_shownSteps f_fault f_in f_made f_old f_size f_heads f_fresh a_kind a_value a_all a_split a_toKind a_doneKind a_toValue a_doneValue a_begins a_lacks a_inKind a_leftKind a_madeKind a_oldKind a_resultKind a_inValue a_leftValue a_madeValue a_oldValue a_resultValue a_from a_to a_whole a_known a_bound a_whose a_rank a_one a_two a_oneOf a_twoOf a_headAt a_headOf a_headLeft pc' fo') → wY_survey_15 post f_place f_count f_top f_done f_open f_steps f_shownSteps f_fault f_in f_made f_old f_size f_heads f_fresh n (nI k) a_kind a_value a_all a_split a_toKind a_doneKind a_toValue a_doneValue a_begins a_lacks a_inKind a_leftKind a_madeKind a_oldKind a_resultKind a_inValue a_leftValue a_madeValue a_oldValue a_resultValue a_from a_to a_whole a_known a_bound a_whose a_rank a_one a_two a_oneOf a_twoOf a_headAt a_headOf a_headLeft pc a_first
  | 0, k, n, pc, hk, hm, hn, H => by
    obtain ⟨n, rfl⟩ : ∃ n', n = n' + 1 := ⟨n - 1, by omega⟩
    exact pk_le 4 k (fun _ => ⟨4, ys_35 3 0 4 _ rfl (fun v hv => absurd hv (by omega)) (by omega) (fun fo' h => H pc fo' (fun v hv => hm v (by omega)) h)⟩) (fun z => absurd z (by omega))
  | d + 1, k, n, pc, hk, hm, hn, H => by
    obtain ⟨n, rfl⟩ : ∃ n', n = n' + 1 := ⟨n - 1, by omega⟩
    refine pk_le 4 k (fun z => absurd z (by omega)) (fun _ => ⟨vp_in_nI (by omega) (by omega), nm_r (e' := upd pc k 0) (by rw [nI_clamp (by omega)]) (nm_r (nI_1 k) ?_)⟩)
    refine ys_15 d (k + 1) n _ (by omega) (fun v hv => ?_) (by omega) H
    by_cases e : v = k
    · rw [e, pk_us]
    · rw [pk_un e]; exact hm v (by omega)
theorem ys_survey {post : SY → Prop} {f : Nat} (hf : f = 10000000) (hG : mc_G L R) (hRr : yr_R L R a_kind a_value a_all a_split) (h0 : f_fresh = 0) (H : ∀ pc fo : Nat → Int32, (∀ v, v < 4 → pc v = 0) → (∀ v, v < 3 → fo v = -2) → ys_Q post f_place f_shownSteps f_size 1 a_kind a_value a_all a_split a_resultKind a_resultValue (vs_n f L R 1920 0 (pc, fo)).1 (vs_n f L R 1920 0 (pc, fo)).2) : wpY_survey post (f_place, f_count, f_top, f_done, f_open, f_steps, f_shownSteps, f_fault, f_in, f_made, f_old, f_size, f_heads, f_fresh, a_kind, a_value, a_all, a_split, a_toKind, a_doneKind, a_toValue, a_doneValue, a_begins, a_lacks, a_inKind, a_leftKind, a_madeKind, a_oldKind, a_resultKind, a_inValue, a_leftValue, a_madeValue, a_oldValue, a_resultValue, a_from, a_to, a_whole, a_known, a_bound, a_whose, a_rank, a_one, a_two, a_oneOf, a_twoOf, a_headAt, a_headOf, a_headLeft, a_pairs, a_first) := by
  refine br_t h0 ⟨5, ys_15 4 0 5 a_pairs rfl (fun v hv => absurd hv (by omega)) (by omega) (fun pc fo h1 h2 => ⟨9, ?_⟩)⟩
  exact ys_56 (post := post) hf hG hRr 8 0 9 (pc, fo) (by omega) (by omega) (H pc fo h1 h2) _ _ _ _ _ _ _ _ _ _ _ _ _ _ _ _ _ _ _ _ _ _ _ _ _ _ _ _ _ _ _ _ _ _ _ _ _ _
end
/-- counts that agree where they are read -/
def vs_e (s s' : (Nat → Int32) × (Nat → Int32)) : Prop := (∀ v, v < 4 → s.1 v = s'.1 v) ∧ ∀ v, v < 3 → s.2 v = s'.2 v
theorem vs_es {f : Nat} {L R : Nat → List Int64} (k : Nat) {s s' : (Nat → Int32) × (Nat → Int32)} (h : vs_e s s') : vs_e (vs_s f L R k s) (vs_s f L R k s') := by
  unfold vs_s
  generalize vd_w f L R (k / 240) (k / 30 % 8) (k % 30) = v
  generalize k / 240 = i
  generalize k / 30 % 8 = j
  generalize k % 30 = p
  obtain ⟨h1, h2⟩ := h
  refine ⟨fun x hx => ?_, fun x hx => ?_⟩
  · show vs_p v s.1 x = vs_p v s'.1 x
    unfold vs_p
    by_cases h0 : v = 0
    · rw [if_pos h0, if_pos h0]; exact h1 x hx
    · rw [if_neg h0, if_neg h0]
      unfold vd_pc
      have e0 : ∀ y, y < 4 → upd s.1 0 (s.1 0 + 1) y = upd s'.1 0 (s'.1 0 + 1) y := by
        intro y hy
        by_cases ey : y = 0
        · rw [ey, pk_us, pk_us, h1 0 (by omega)]
        · rw [pk_un ey, pk_un ey]; exact h1 y hy
      by_cases ex : x = v
      · rw [ex, pk_us, pk_us, e0 v (by omega)]
      · rw [pk_un ex, pk_un ex]; exact e0 x hx
  · show vd_fo v i j p s.2 x = vd_fo v i j p s'.2 x
    unfold vd_fo
    by_cases hc : v = 2 ∧ s.2 0 = -2
    · have hc' : v = 2 ∧ s'.2 0 = -2 := ⟨hc.1, (h2 0 (by omega)).symm.trans hc.2⟩
      rw [if_pos hc, if_pos hc']
      by_cases x2 : x = 2
      · rw [x2, pk_us, pk_us]
      · rw [pk_un x2, pk_un x2]
        by_cases x1 : x = 1
        · rw [x1, pk_us, pk_us]
        · rw [pk_un x1, pk_un x1]
          by_cases x0 : x = 0
          · rw [x0, pk_us, pk_us]
          · rw [pk_un x0, pk_un x0]; exact h2 x hx
    · have hc' : ¬ (v = 2 ∧ s'.2 0 = -2) := fun z => hc ⟨z.1, (h2 0 (by omega)).trans z.2⟩
      rw [if_neg hc, if_neg hc']
      exact h2 x hx
theorem vs_en {f : Nat} {L R : Nat → List Int64} : ∀ (d k : Nat) (s s' : (Nat → Int32) × (Nat → Int32)), vs_e s s' → vs_e (vs_n f L R d k s) (vs_n f L R d k s')
  | 0, k, s, s', h => h
  | d + 1, k, s, s', h => vs_en d (k + 1) _ _ (vs_es k h)
