/-! the component: plain rules, places of pairs, two rules laid out -/
def vd_p (t : Int64) : Bool := decide (t < 9) || decide (8589934592 ≤ t ∧ t < 12884901888)
def vd_pl (L R : Nat → List Int64) (r : Nat) : Bool := !(L r).isEmpty && (L r).all vd_p && (R r).all vd_p
theorem vd_p_k {t : Int64} (h : tk_r t) : vd_p t = true ↔ vd_k t := by
  obtain ⟨n, rfl, h⟩ := h
  unfold vd_p
  rw [Bool.or_eq_true, decide_eq_true_iff, decide_eq_true_iff, tk_lt 9 (by omega), tk_le 8589934592 (by omega), tk_lt 12884901888 (by omega)]
  constructor
  · intro z
    exact ⟨n, rfl, by omega⟩
  · rintro ⟨m, e, hm⟩
    have := (pk_lEQ (by omega) (by omega)).mp e
    omega
theorem vd_p_X {t : Int64} (h : tk_r t) : (t < 9 ∨ (t.toUInt64 >>> ((32 : Int32).toInt64.toUInt64 &&& Int64.toUInt64 63)).toInt64 = 2) ↔ vd_p t = true := by
  obtain ⟨n, rfl, h⟩ := h
  unfold vd_p
  rw [Bool.or_eq_true, decide_eq_true_iff, decide_eq_true_iff, tk_lt 9 (by omega), tk_sh2 (by omega), tk_le 8589934592 (by omega), tk_lt 12884901888 (by omega)]
section
variable {f_drafted f_faultPlace f_reportedSteps f_resultSize f_sheetSize f_waitingSize f_builtSize f_unfinished f_taken f_keptSize f_stacked f_ranked f_surveyed : Int32} {a_draft a_result a_lefts a_rights a_sheet a_waiting a_built a_kept a_joint : Nat → Int64} {a_leftSize a_ways a_rightSize a_unfinishedStart a_unfinishedLacks a_matchStart a_matchEnd a_unified a_oneStack a_otherStack a_nestedAt a_nestedEnd a_rank a_pairCount a_firstOpen : Nat → Int32}
theorem xp_80 {post : Int32 → Prop} {r nr : Nat} (hr : r < 8) (hrs : a_rightSize r = nI nr) (hnr : nr ≤ 30) : ∀ (l : List Int64) (k n : Nat) (b : Bool), k + l.length = nr → hd_h a_rights (r * 30 + k) l → (∀ t, t ∈ l → tk_r t) → l.length < n → post (if (b && l.all vd_p) = true then 1 else 0) → wX_isPlain_80 post (nI r) f_drafted f_faultPlace f_reportedSteps f_resultSize f_sheetSize f_waitingSize f_builtSize f_unfinished f_taken f_keptSize f_stacked f_ranked f_surveyed a_draft a_result a_lefts a_leftSize a_ways a_rights a_rightSize a_sheet a_waiting a_built a_unfinishedStart a_unfinishedLacks a_kept a_matchStart a_matchEnd a_joint a_unified a_oneStack a_otherStack a_nestedAt a_nestedEnd a_rank a_pairCount a_firstOpen n (if b = true then 1 else 0) (nI k)
  | [], k, n, b, h1, h2, h3, hn, h => by
    obtain ⟨n, rfl⟩ : ∃ n', n = n' + 1 := ⟨n - 1, by omega⟩
    rw [List.length_nil] at h1
    refine ⟨vp_in_nI hr (by omega), ?_⟩
    rw [nI_clamp (by omega), hrs]
    rw [List.all_nil, Bool.and_true] at h
    refine pk_le nr k (fun _ => ⟨?_, h⟩) (fun z => absurd z (by omega))
    cases b
    · exact lw_bz_n 0
    · exact lw_bz_n 1
  | t :: l, k, n, b, h1, h2, h3, hn, h => by
    obtain ⟨n, rfl⟩ : ∃ n', n = n' + 1 := ⟨n - 1, by omega⟩
    rw [List.length_cons] at h1 hn
    have ei : nI r * 30 + nI k = nI (r * 30 + k) := by rw [show (30 : Int32) = nI 30 from rfl, pk_mul, nI_add]
    have htr := h3 t (List.mem_cons.mpr (Or.inl rfl))
    have hpx := vd_p_X htr
    refine ⟨vp_in_nI hr (by omega), ?_⟩
    rw [nI_clamp (by omega), hrs]
    refine pk_le nr k (fun z => absurd z (by omega)) (fun _ => ⟨by rw [ei]; exact vp_in_nI (by omega) (by omega), nm_r (e' := t) (by rw [ei, nI_clamp (by omega)]; exact h2.1) ?_⟩)
    rw [List.all_cons] at h
    have yes : vd_p t = true → ∀ y : Int32, y = (if b = true then 1 else 0) &&& 1 → wX_isPlain_80 post (nI r) f_drafted f_faultPlace f_reportedSteps f_resultSize f_sheetSize f_waitingSize f_builtSize f_unfinished f_taken f_keptSize f_stacked f_ranked f_surveyed a_draft a_result a_lefts a_leftSize a_ways a_rights a_rightSize a_sheet a_waiting a_built a_unfinishedStart a_unfinishedLacks a_kept a_matchStart a_matchEnd a_joint a_unified a_oneStack a_otherStack a_nestedAt a_nestedEnd a_rank a_pairCount a_firstOpen n y (nI (k + 1)) := by
      intro hp y hy
      have : y = (if b = true then 1 else 0) := by rw [hy]; cases b <;> decide
      rw [this]
      refine xp_80 hr hrs hnr l (k + 1) n b (by omega) h2.2 (fun x hx => h3 x (List.mem_cons.mpr (Or.inr hx))) (by omega) ?_
      rw [hp, Bool.true_and] at h
      exact h
    by_cases h9 : t < 9
    · exact br_t h9 (nm_e (nm_r (nI_1 k) (yes (hpx.mp (Or.inl h9)) _ rfl)))
    · refine br_f h9 ?_
      by_cases hk : (t.toUInt64 >>> ((32 : Int32).toInt64.toUInt64 &&& Int64.toUInt64 63)).toInt64 = 2
      · exact br_t hk (nm_e (nm_r (nI_1 k) (yes (hpx.mp (Or.inr hk)) _ rfl)))
      · have hp : vd_p t = false := by
          cases e : vd_p t with
          | false => rfl
          | true => rcases hpx.mpr e with z | z; exact absurd z h9; exact absurd z hk
        refine br_f hk (nm_r (e' := (if false = true then 1 else 0)) (by cases b <;> decide) (nm_r (nI_1 k) ?_))
        refine xp_80 hr hrs hnr l (k + 1) n false (by omega) h2.2 (fun x hx => h3 x (List.mem_cons.mpr (Or.inr hx))) (by omega) ?_
        rw [hp, Bool.false_and, Bool.and_false] at h
        exact h
theorem xp_17 {post : Int32 → Prop} {r nl : Nat} (hr : r < 8) (hrs : a_leftSize r = nI nl) (hnl : nl ≤ 30) (rest : List Int64) : ∀ (l : List Int64) (k n : Nat) (b : Bool), k + l.length = nl → hd_h a_lefts (r * 480 + k) l → (∀ t, t ∈ l → tk_r t) → l.length < n → (∃ n80, wX_isPlain_80 post (nI r) f_drafted f_faultPlace f_reportedSteps f_resultSize f_sheetSize f_waitingSize f_builtSize f_unfinished f_taken f_keptSize f_stacked f_ranked f_surveyed a_draft a_result a_lefts a_leftSize a_ways a_rights a_rightSize a_sheet a_waiting a_built a_unfinishedStart a_unfinishedLacks a_kept a_matchStart a_matchEnd a_joint a_unified a_oneStack a_otherStack a_nestedAt a_nestedEnd a_rank a_pairCount a_firstOpen n80 (if (b && l.all vd_p) = true then 1 else 0) 0) → wX_isPlain_17 post (nI r) f_drafted f_faultPlace f_reportedSteps f_resultSize f_sheetSize f_waitingSize f_builtSize f_unfinished f_taken f_keptSize f_stacked f_ranked f_surveyed a_draft a_result a_lefts a_leftSize a_ways a_rights a_rightSize a_sheet a_waiting a_built a_unfinishedStart a_unfinishedLacks a_kept a_matchStart a_matchEnd a_joint a_unified a_oneStack a_otherStack a_nestedAt a_nestedEnd a_rank a_pairCount a_firstOpen n (if b = true then 1 else 0) (nI k)
  | [], k, n, b, h1, h2, h3, hn, h => by
    obtain ⟨n, rfl⟩ : ∃ n', n = n' + 1 := ⟨n - 1, by omega⟩
    rw [List.length_nil] at h1
    refine ⟨vp_in_nI hr (by omega), ?_⟩
    rw [nI_clamp (by omega), hrs]
    rw [List.all_nil, Bool.and_true] at h
    exact pk_le nl k (fun _ => h) (fun z => absurd z (by omega))
  | t :: l, k, n, b, h1, h2, h3, hn, h => by
    obtain ⟨n, rfl⟩ : ∃ n', n = n' + 1 := ⟨n - 1, by omega⟩
    rw [List.length_cons] at h1 hn
    have ei : nI r * 16 * 30 + nI k = nI (r * 480 + k) := by rw [show (30 : Int32) = nI 30 from rfl, show (16 : Int32) = nI 16 from rfl, pk_mul, pk_mul, nI_add, show r * 16 * 30 = r * 480 by omega]
    have htr := h3 t (List.mem_cons.mpr (Or.inl rfl))
    have hpx := vd_p_X htr
    refine ⟨vp_in_nI hr (by omega), ?_⟩
    rw [nI_clamp (by omega), hrs]
    refine pk_le nl k (fun z => absurd z (by omega)) (fun _ => ⟨by rw [ei]; exact vp_in_nI (by omega) (by omega), nm_r (e' := t) (by rw [ei, nI_clamp (by omega)]; exact h2.1) ?_⟩)
    rw [List.all_cons] at h
    have yes : vd_p t = true → ∀ y : Int32, y = (if b = true then 1 else 0) &&& 1 → wX_isPlain_17 post (nI r) f_drafted f_faultPlace f_reportedSteps f_resultSize f_sheetSize f_waitingSize f_builtSize f_unfinished f_taken f_keptSize f_stacked f_ranked f_surveyed a_draft a_result a_lefts a_leftSize a_ways a_rights a_rightSize a_sheet a_waiting a_built a_unfinishedStart a_unfinishedLacks a_kept a_matchStart a_matchEnd a_joint a_unified a_oneStack a_otherStack a_nestedAt a_nestedEnd a_rank a_pairCount a_firstOpen n y (nI (k + 1)) := by
      intro hp y hy
      have : y = (if b = true then 1 else 0) := by rw [hy]; cases b <;> decide
      rw [this]
      refine xp_17 hr hrs hnl rest l (k + 1) n b (by omega) h2.2 (fun x hx => h3 x (List.mem_cons.mpr (Or.inr hx))) (by omega) ?_
      rw [hp, Bool.true_and] at h
      exact h
    by_cases h9 : t < 9
    · exact br_t h9 (nm_e (nm_r (nI_1 k) (yes (hpx.mp (Or.inl h9)) _ rfl)))
    · refine br_f h9 ?_
      by_cases hk : (t.toUInt64 >>> ((32 : Int32).toInt64.toUInt64 &&& Int64.toUInt64 63)).toInt64 = 2
      · exact br_t hk (nm_e (nm_r (nI_1 k) (yes (hpx.mp (Or.inr hk)) _ rfl)))
      · have hp : vd_p t = false := by
          cases e : vd_p t with
          | false => rfl
          | true => rcases hpx.mpr e with z | z; exact absurd z h9; exact absurd z hk
        refine br_f hk (nm_r (e' := (if false = true then 1 else 0)) (by cases b <;> decide) (nm_r (nI_1 k) ?_))
        refine xp_17 hr hrs hnl rest l (k + 1) n false (by omega) h2.2 (fun x hx => h3 x (List.mem_cons.mpr (Or.inr hx))) (by omega) ?_
        rw [hp, Bool.false_and, Bool.and_false] at h
        exact h
/-- an absent rule: whatever its arrays hold -/
theorem xp_80z {post : Int32 → Prop} {r nr : Nat} (hr : r < 8) (hrs : a_rightSize r = nI nr) (hnr : nr ≤ 30) (h : post 0) : ∀ (d k n : Nat), k + d = nr → d < n → wX_isPlain_80 post (nI r) f_drafted f_faultPlace f_reportedSteps f_resultSize f_sheetSize f_waitingSize f_builtSize f_unfinished f_taken f_keptSize f_stacked f_ranked f_surveyed a_draft a_result a_lefts a_leftSize a_ways a_rights a_rightSize a_sheet a_waiting a_built a_unfinishedStart a_unfinishedLacks a_kept a_matchStart a_matchEnd a_joint a_unified a_oneStack a_otherStack a_nestedAt a_nestedEnd a_rank a_pairCount a_firstOpen n 0 (nI k)
  | 0, k, n, h1, hn => by
    obtain ⟨n, rfl⟩ : ∃ n', n = n' + 1 := ⟨n - 1, by omega⟩
    refine ⟨vp_in_nI hr (by omega), ?_⟩
    rw [nI_clamp (by omega), hrs]
    exact pk_le nr k (fun _ => ⟨lw_bz_n 0, h⟩) (fun z => absurd z (by omega))
  | d + 1, k, n, h1, hn => by
    obtain ⟨n, rfl⟩ : ∃ n', n = n' + 1 := ⟨n - 1, by omega⟩
    have ei : nI r * 30 + nI k = nI (r * 30 + k) := by rw [show (30 : Int32) = nI 30 from rfl, pk_mul, nI_add]
    have go := xp_80z hr hrs hnr h d (k + 1) n (by omega) (by omega)
    refine ⟨vp_in_nI hr (by omega), ?_⟩
    rw [nI_clamp (by omega), hrs]
    refine pk_le nr k (fun z => absurd z (by omega)) (fun _ => ⟨by rw [ei]; exact vp_in_nI (by omega) (by omega), nm_e ?_⟩)
    exact br_c (fun _ => nm_r (e' := 0) (by decide) (nm_r (nI_1 k) go)) (fun _ => br_c (fun _ => nm_r (e' := 0) (by decide) (nm_r (nI_1 k) go)) (fun _ => nm_r (e' := 0) (by decide) (nm_r (nI_1 k) go)))
theorem xp_17z {post : Int32 → Prop} {r nl nr : Nat} (hr : r < 8) (hls : a_leftSize r = nI nl) (hnl : nl ≤ 30) (hrs : a_rightSize r = nI nr) (hnr : nr ≤ 30) (h : post 0) : ∀ (d k n : Nat), k + d = nl → d < n → wX_isPlain_17 post (nI r) f_drafted f_faultPlace f_reportedSteps f_resultSize f_sheetSize f_waitingSize f_builtSize f_unfinished f_taken f_keptSize f_stacked f_ranked f_surveyed a_draft a_result a_lefts a_leftSize a_ways a_rights a_rightSize a_sheet a_waiting a_built a_unfinishedStart a_unfinishedLacks a_kept a_matchStart a_matchEnd a_joint a_unified a_oneStack a_otherStack a_nestedAt a_nestedEnd a_rank a_pairCount a_firstOpen n 0 (nI k)
  | 0, k, n, h1, hn => by
    obtain ⟨n, rfl⟩ : ∃ n', n = n' + 1 := ⟨n - 1, by omega⟩
    refine ⟨vp_in_nI hr (by omega), ?_⟩
    rw [nI_clamp (by omega), hls]
    exact pk_le nl k (fun _ => ⟨nr + 1, xp_80z hr hrs hnr h nr 0 _ (by omega) (by omega)⟩) (fun z => absurd z (by omega))
  | d + 1, k, n, h1, hn => by
    obtain ⟨n, rfl⟩ : ∃ n', n = n' + 1 := ⟨n - 1, by omega⟩
    have ei : nI r * 16 * 30 + nI k = nI (r * 480 + k) := by rw [show (30 : Int32) = nI 30 from rfl, show (16 : Int32) = nI 16 from rfl, pk_mul, pk_mul, nI_add, show r * 16 * 30 = r * 480 by omega]
    have go := xp_17z hr hls hnl hrs hnr h d (k + 1) n (by omega) (by omega)
    refine ⟨vp_in_nI hr (by omega), ?_⟩
    rw [nI_clamp (by omega), hls]
    refine pk_le nl k (fun z => absurd z (by omega)) (fun _ => ⟨by rw [ei]; exact vp_in_nI (by omega) (by omega), nm_e ?_⟩)
    exact br_c (fun _ => nm_r (e' := 0) (by decide) (nm_r (nI_1 k) go)) (fun _ => br_c (fun _ => nm_r (e' := 0) (by decide) (nm_r (nI_1 k) go)) (fun _ => nm_r (e' := 0) (by decide) (nm_r (nI_1 k) go)))
/-- LEFT as it stands is the way that exchanges nothing -/
theorem ru_wy0 : ∀ (l : List Int64), ru_wy l 0 = (l, 0)
  | [] => rfl
  | t :: l => by
    by_cases h9 : t = 9
    · subst h9
      rw [ru_wy_9, ru_wy0 l]
      simp
    · rw [ru_wy_n h9, ru_wy0 l]
theorem xr_left {L R : Nat → List Int64} (hR : xr_R L R a_lefts a_leftSize a_ways a_rights a_rightSize) {r : Nat} (hr : r < 8) (h0 : L r ≠ []) : hd_h a_lefts (r * 480) (L r) := by
  obtain ⟨_, _, h3⟩ := hR r hr
  have := (h3 h0).2.2.2.2 0 (Nat.two_pow_pos _)
  rw [ru_wy0, show (r * 16 + 0) * 30 = r * 480 by omega] at this
  exact this
theorem xp_plain {post : Int32 → Prop} {L R : Nat → List Int64} {r : Nat} (hG : mc_G L R) (hR : xr_R L R a_lefts a_leftSize a_ways a_rights a_rightSize) (hr : r < 8) (h : post (if vd_pl L R r = true then 1 else 0)) : wpX_isPlain post (f_drafted, f_faultPlace, f_reportedSteps, f_resultSize, f_sheetSize, f_waitingSize, f_builtSize, f_unfinished, f_taken, f_keptSize, f_stacked, f_ranked, f_surveyed, a_draft, a_result, a_lefts, a_leftSize, a_ways, a_rights, a_rightSize, a_sheet, a_waiting, a_built, a_unfinishedStart, a_unfinishedLacks, a_kept, a_matchStart, a_matchEnd, a_joint, a_unified, a_oneStack, a_otherStack, a_nestedAt, a_nestedEnd, a_rank, a_pairCount, a_firstOpen) (nI r) := by
  obtain ⟨⟨nl, nr, e1, e2, e3, e4⟩, h2, h3⟩ := hR r hr
  refine ⟨vp_in_nI hr (by omega), ?_⟩
  rw [nI_clamp (by omega)]
  by_cases h0 : L r = []
  · have ep : vd_pl L R r = false := by unfold vd_pl; rw [h0]; rfl
    rw [ep, if_neg (by decide)] at h
    rw [h2 h0]
    exact br_t (Int32.le_refl _) ⟨nl + 1, xp_17z hr e1 e3 e2 e4 h nl 0 _ (by omega) (by omega)⟩
  · obtain ⟨w1, w2, w3, w4, w5⟩ := h3 h0
    rcases hG r with g | ⟨g1, g2, g3, g4, g5, g6, g7, g8⟩
    · exact absurd g h0
    have h16 : 2 ^ ru_c9 (L r) ≤ 16 := Nat.le_trans (Nat.pow_le_pow_right (by omega) g7) (by decide)
    have hpos : 0 < 2 ^ ru_c9 (L r) := Nat.two_pow_pos _
    have ep : vd_pl L R r = ((L r).all vd_p && (R r).all vd_p) := by
      unfold vd_pl
      cases hL : L r with
      | nil => exact absurd hL h0
      | cons => rfl
    rw [ep] at h
    rw [w1]
    refine br_f (nI_nle hpos (by omega)) ⟨(L r).length + 1, ?_⟩
    refine xp_17 hr w2 (by omega) [] (L r) 0 _ true (by omega) (by rw [Nat.add_zero]; exact xr_left hR hr h0) g4 (by omega) ⟨(R r).length + 1, ?_⟩
    rw [Bool.true_and]
    exact xp_80 hr w3 (by omega) (R r) 0 _ ((L r).all vd_p) (by omega) (by rw [Nat.add_zero]; exact w4) g5 (by omega) h
end
