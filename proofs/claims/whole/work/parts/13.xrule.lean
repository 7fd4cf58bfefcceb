/-! the component: the first rule that matches, what RIGHT becomes -/
theorem xi_take {q : List Int64} {t : Int64} (h : q.length < 31) : (q ++ [t]).take 31 = q ++ [t] := List.take_of_length_le (by simp; omega)
theorem xi_take' {q a : List Int64} (h : 31 ≤ q.length) : (q ++ a).take 31 = q.take 31 := by
  rw [List.take_append_of_le_length h]
section
variable {f_drafted f_faultPlace f_reportedSteps f_resultSize f_sheetSize f_waitingSize f_builtSize f_unfinished f_taken f_keptSize f_stacked f_ranked f_surveyed : Int32} {a_draft a_result a_lefts a_rights a_sheet a_waiting a_built a_kept a_joint : Nat → Int64} {a_leftSize a_ways a_rightSize a_unfinishedStart a_unfinishedLacks a_matchStart a_matchEnd a_unified a_oneStack a_otherStack a_nestedAt a_nestedEnd a_rank a_pairCount a_firstOpen : Nat → Int32}
theorem xw_t {post : SX → Prop} {q : List Int64} {t : Int64} (c : Nat) (hc : c = (q.take 31).length) (hq : hd_h a_sheet 0 (q.take 31)) (H : ∀ z, hd_h z 0 ((q ++ [t]).take 31) → post (f_drafted, f_faultPlace, f_reportedSteps, f_resultSize, nI ((q ++ [t]).take 31).length, f_waitingSize, f_builtSize, f_unfinished, f_taken, f_keptSize, f_stacked, f_ranked, f_surveyed, a_draft, a_result, a_lefts, a_leftSize, a_ways, a_rights, a_rightSize, z, a_waiting, a_built, a_unfinishedStart, a_unfinishedLacks, a_kept, a_matchStart, a_matchEnd, a_joint, a_unified, a_oneStack, a_otherStack, a_nestedAt, a_nestedEnd, a_rank, a_pairCount, a_firstOpen)) : wpX_write post (f_drafted, f_faultPlace, f_reportedSteps, f_resultSize, nI c, f_waitingSize, f_builtSize, f_unfinished, f_taken, f_keptSize, f_stacked, f_ranked, f_surveyed, a_draft, a_result, a_lefts, a_leftSize, a_ways, a_rights, a_rightSize, a_sheet, a_waiting, a_built, a_unfinishedStart, a_unfinishedLacks, a_kept, a_matchStart, a_matchEnd, a_joint, a_unified, a_oneStack, a_otherStack, a_nestedAt, a_nestedEnd, a_rank, a_pairCount, a_firstOpen) t := by
  subst hc
  by_cases h : q.length < 31
  · have e : q.take 31 = q := List.take_of_length_le (by omega)
    rw [e] at hq ⊢
    rw [xi_take h] at H
    refine xw_put h ?_
    have := H (vp_updL a_sheet q.length t) (by have := hd_snocL (x := t) hq; rwa [Nat.zero_add] at this)
    rw [List.length_append, List.length_singleton] at this
    exact this
  · have e := xi_take' (a := [t]) (show 31 ≤ q.length by omega)
    rw [e] at H
    refine xw_full ?_ ?_ (H a_sheet hq)
    · rw [List.length_take]; omega
    · rw [List.length_take]; omega
theorem xm_ways {post : Int32 → SX → Prop} {L R : Nat → List Int64} {s : List Int64} {st B r m : Nat} (J2 : _) (hG : mc_G L R) (hR : xr_R L R a_lefts a_leftSize a_ways a_rights a_rightSize) (hr : r < 8) (h0 : L r ≠ []) (hB : B ≤ 2048) (hs : st + s.length = B) (h4 : hd_h a_built st s) (h6 : ∀ t, t ∈ s → tk_t t) (h7 : tm_w s m) : ∀ (k w n : Nat) (ms me : Nat → Int32), w + k = 2 ^ ru_c9 (L r) → k < n → (∀ β ms me, ru_fw (L r) s k w = some β → xm_b a_built ms me B β → post (nI r) (f_drafted, f_faultPlace, f_reportedSteps, f_resultSize, f_sheetSize, f_waitingSize, nI B, f_unfinished, f_taken, f_keptSize, f_stacked, f_ranked, f_surveyed, a_draft, a_result, a_lefts, a_leftSize, a_ways, a_rights, a_rightSize, a_sheet, a_waiting, a_built, a_unfinishedStart, a_unfinishedLacks, a_kept, ms, me, a_joint, a_unified, a_oneStack, a_otherStack, a_nestedAt, a_nestedEnd, a_rank, a_pairCount, a_firstOpen)) → (∀ ms me, ru_fw (L r) s k w = none → J2 (nI (r + 1)) f_drafted f_faultPlace f_reportedSteps f_resultSize f_sheetSize f_waitingSize (nI B) f_unfinished f_taken f_keptSize f_stacked f_ranked f_surveyed a_draft a_result a_lefts a_leftSize a_ways a_rights a_rightSize a_sheet a_waiting a_built a_unfinishedStart a_unfinishedLacks a_kept ms me a_joint a_unified a_oneStack a_otherStack a_nestedAt a_nestedEnd a_rank a_pairCount a_firstOpen) → wX_ruleFor_10 post J2 (nI st) (nI r) n (nI w) f_drafted f_faultPlace f_reportedSteps f_resultSize f_sheetSize f_waitingSize (nI B) f_unfinished f_taken f_keptSize f_stacked f_ranked f_surveyed a_draft a_result a_lefts a_leftSize a_ways a_rights a_rightSize a_sheet a_waiting a_built a_unfinishedStart a_unfinishedLacks a_kept ms me a_joint a_unified a_oneStack a_otherStack a_nestedAt a_nestedEnd a_rank a_pairCount a_firstOpen
  | 0, w, n, ms, me, hk, hn, Hy, Hn => by
    obtain ⟨n, rfl⟩ : ∃ n', n = n' + 1 := ⟨n - 1, by omega⟩
    obtain ⟨_, _, x3⟩ := hR r hr
    obtain ⟨w1, w2, w3, w4, w5⟩ := x3 h0
    rcases hG r with h | ⟨g1, g2, g3, g4, g5, g6, g7, g8⟩
    · exact absurd h h0
    have h16 : 2 ^ ru_c9 (L r) ≤ 16 := Nat.le_trans (Nat.pow_le_pow_right (by omega) g7) (by decide)
    refine ⟨vp_in_nI hr (by omega), ?_⟩
    rw [nI_clamp (by omega), w1]
    exact pk_le (2 ^ ru_c9 (L r)) w (fun _ => nm_r (nI_1 r) (Hn ms me rfl)) (fun z => absurd z (by omega))
  | k + 1, w, n, ms, me, hk, hn, Hy, Hn => by
    obtain ⟨n, rfl⟩ : ∃ n', n = n' + 1 := ⟨n - 1, by omega⟩
    obtain ⟨_, _, x3⟩ := hR r hr
    obtain ⟨w1, w2, w3, w4, w5⟩ := x3 h0
    rcases hG r with h | ⟨g1, g2, g3, g4, g5, g6, g7, g8⟩
    · exact absurd h h0
    have h16 : 2 ^ ru_c9 (L r) ≤ 16 := Nat.le_trans (Nat.pow_le_pow_right (by omega) g7) (by decide)
    refine ⟨vp_in_nI hr (by omega), ?_⟩
    rw [nI_clamp (by omega), w1]
    refine pk_le (2 ^ ru_c9 (L r)) w (fun z => absurd z (by omega)) (fun _ => ?_)
    refine xm_matches (ps := (ru_wy (L r) w).1) hr (by omega) w2 (ru_wy_len _ _).symm (by omega) hB hs (w5 w (by omega)) h4 (fun t ht => g4 t (ru_wy_mem _ _ _ ht)) h6 h7 (fun β ms' me' e hb => ?_) (fun ms' me' e => ?_)
    · exact br_f (by decide) (Hy β ms' me' (by rw [ru_fw, e]) hb)
    · rw [ru_fw, e] at Hy Hn
      exact br_t rfl (nm_r (nI_1 w) (xm_ways J2 hG hR hr h0 hB hs h4 h6 h7 k (w + 1) n ms' me' (by omega) (by omega) Hy Hn))
theorem xm_rf {post : Int32 → SX → Prop} {L R : Nat → List Int64} {s : List Int64} {st B m : Nat} (hG : mc_G L R) (hR : xr_R L R a_lefts a_leftSize a_ways a_rights a_rightSize) (hB : B ≤ 2048) (hs : st + s.length = B) (h4 : hd_h a_built st s) (h6 : ∀ t, t ∈ s → tk_t t) (h7 : tm_w s m) : ∀ (k r n : Nat) (ms me : Nat → Int32), r + k = 8 → k < n → (∀ r' β ms me, ru_fr L s k r = some (r', β) → xm_b a_built ms me B β → post (nI r') (f_drafted, f_faultPlace, f_reportedSteps, f_resultSize, f_sheetSize, f_waitingSize, nI B, f_unfinished, f_taken, f_keptSize, f_stacked, f_ranked, f_surveyed, a_draft, a_result, a_lefts, a_leftSize, a_ways, a_rights, a_rightSize, a_sheet, a_waiting, a_built, a_unfinishedStart, a_unfinishedLacks, a_kept, ms, me, a_joint, a_unified, a_oneStack, a_otherStack, a_nestedAt, a_nestedEnd, a_rank, a_pairCount, a_firstOpen)) → (∀ ms me, ru_fr L s k r = none → post (-2) (f_drafted, f_faultPlace, f_reportedSteps, f_resultSize, f_sheetSize, f_waitingSize, nI B, f_unfinished, f_taken, f_keptSize, f_stacked, f_ranked, f_surveyed, a_draft, a_result, a_lefts, a_leftSize, a_ways, a_rights, a_rightSize, a_sheet, a_waiting, a_built, a_unfinishedStart, a_unfinishedLacks, a_kept, ms, me, a_joint, a_unified, a_oneStack, a_otherStack, a_nestedAt, a_nestedEnd, a_rank, a_pairCount, a_firstOpen)) → wX_ruleFor_2 post (nI st) n (nI r) f_drafted f_faultPlace f_reportedSteps f_resultSize f_sheetSize f_waitingSize (nI B) f_unfinished f_taken f_keptSize f_stacked f_ranked f_surveyed a_draft a_result a_lefts a_leftSize a_ways a_rights a_rightSize a_sheet a_waiting a_built a_unfinishedStart a_unfinishedLacks a_kept ms me a_joint a_unified a_oneStack a_otherStack a_nestedAt a_nestedEnd a_rank a_pairCount a_firstOpen
  | 0, r, n, ms, me, hk, hn, Hy, Hn => by
    obtain ⟨n, rfl⟩ : ∃ n', n = n' + 1 := ⟨n - 1, by omega⟩
    exact pk_le 8 r (fun _ => Hn ms me rfl) (fun z => absurd z (by omega))
  | k + 1, r, n, ms, me, hk, hn, Hy, Hn => by
    obtain ⟨n, rfl⟩ : ∃ n', n = n' + 1 := ⟨n - 1, by omega⟩
    refine pk_le 8 r (fun z => absurd z (by omega)) (fun _ => ?_)
    by_cases h0 : L r = []
    · rw [ru_fr, if_pos h0] at Hy Hn
      refine ⟨1, vp_in_nI (by omega) (by omega), ?_⟩
      rw [nI_clamp (by omega), (hR r (by omega)).2.1 h0]
      exact br_t (Int32.le_refl _) (nm_r (nI_1 r) (xm_rf hG hR hB hs h4 h6 h7 k (r + 1) n ms me (by omega) (by omega) Hy Hn))
    · rw [ru_fr, if_neg h0] at Hy Hn
      refine ⟨2 ^ ru_c9 (L r) + 1, ?_⟩
      rw [← nI_0]
      refine xm_ways _ hG hR (by omega) h0 hB hs h4 h6 h7 (2 ^ ru_c9 (L r)) 0 _ ms me (by omega) (by omega) (fun β ms' me' e hb => ?_) (fun ms' me' e => ?_)
      · exact Hy r β ms' me' (by rw [e]) hb
      · rw [e] at Hy Hn
        exact xm_rf hG hR hB hs h4 h6 h7 k (r + 1) n ms' me' (by omega) (by omega) Hy Hn
theorem xm_ruleFor {post : Int32 → SX → Prop} {L R : Nat → List Int64} {s : List Int64} (st B m : Nat) (hG : mc_G L R) (hR : xr_R L R a_lefts a_leftSize a_ways a_rights a_rightSize) (hB : B ≤ 2048) (hs : st + s.length = B) (h4 : hd_h a_built st s) (h6 : ∀ t, t ∈ s → tk_t t) (h7 : tm_w s m) (Hy : ∀ r' β ms me, ru_fr L s 8 0 = some (r', β) → xm_b a_built ms me B β → post (nI r') (f_drafted, f_faultPlace, f_reportedSteps, f_resultSize, f_sheetSize, f_waitingSize, nI B, f_unfinished, f_taken, f_keptSize, f_stacked, f_ranked, f_surveyed, a_draft, a_result, a_lefts, a_leftSize, a_ways, a_rights, a_rightSize, a_sheet, a_waiting, a_built, a_unfinishedStart, a_unfinishedLacks, a_kept, ms, me, a_joint, a_unified, a_oneStack, a_otherStack, a_nestedAt, a_nestedEnd, a_rank, a_pairCount, a_firstOpen)) (Hn : ∀ ms me, ru_fr L s 8 0 = none → post (-2) (f_drafted, f_faultPlace, f_reportedSteps, f_resultSize, f_sheetSize, f_waitingSize, nI B, f_unfinished, f_taken, f_keptSize, f_stacked, f_ranked, f_surveyed, a_draft, a_result, a_lefts, a_leftSize, a_ways, a_rights, a_rightSize, a_sheet, a_waiting, a_built, a_unfinishedStart, a_unfinishedLacks, a_kept, ms, me, a_joint, a_unified, a_oneStack, a_otherStack, a_nestedAt, a_nestedEnd, a_rank, a_pairCount, a_firstOpen)) : wpX_ruleFor post (f_drafted, f_faultPlace, f_reportedSteps, f_resultSize, f_sheetSize, f_waitingSize, nI B, f_unfinished, f_taken, f_keptSize, f_stacked, f_ranked, f_surveyed, a_draft, a_result, a_lefts, a_leftSize, a_ways, a_rights, a_rightSize, a_sheet, a_waiting, a_built, a_unfinishedStart, a_unfinishedLacks, a_kept, a_matchStart, a_matchEnd, a_joint, a_unified, a_oneStack, a_otherStack, a_nestedAt, a_nestedEnd, a_rank, a_pairCount, a_firstOpen) (nI st) :=
  ⟨9, xm_rf hG hR hB hs h4 h6 h7 8 0 9 a_matchStart a_matchEnd rfl (by omega) Hy Hn⟩
theorem xi_60 {post : SX → Prop} (J7 : _) {x1 : Int32} {k slot e : Nat} (hsl : slot < 8) (he : a_matchEnd slot = nI e) (heB : e ≤ 2048) : ∀ (a q : List Int64) (b n c : Nat) (zs : Nat → Int64), b + a.length = e → c = (q.take 31).length → hd_h a_built b a → hd_h zs 0 (q.take 31) → a.length < n → (∀ z, hd_h z 0 ((q ++ a).take 31) → J7 (nI (k + 1)) f_drafted f_faultPlace f_reportedSteps f_resultSize (nI ((q ++ a).take 31).length) f_waitingSize f_builtSize f_unfinished f_taken f_keptSize f_stacked f_ranked f_surveyed a_draft a_result a_lefts a_leftSize a_ways a_rights a_rightSize z a_waiting a_built a_unfinishedStart a_unfinishedLacks a_kept a_matchStart a_matchEnd a_joint a_unified a_oneStack a_otherStack a_nestedAt a_nestedEnd a_rank a_pairCount a_firstOpen) → wX_writeInstance_60 post J7 x1 (nI k) (nI slot) n (nI b) f_drafted f_faultPlace f_reportedSteps f_resultSize (nI c) f_waitingSize f_builtSize f_unfinished f_taken f_keptSize f_stacked f_ranked f_surveyed a_draft a_result a_lefts a_leftSize a_ways a_rights a_rightSize zs a_waiting a_built a_unfinishedStart a_unfinishedLacks a_kept a_matchStart a_matchEnd a_joint a_unified a_oneStack a_otherStack a_nestedAt a_nestedEnd a_rank a_pairCount a_firstOpen
  | [], q, b, n, c, zs, h1, hc, h2, h3, hn, H => by
    obtain ⟨n, rfl⟩ : ∃ n', n = n' + 1 := ⟨n - 1, by omega⟩
    rw [List.length_nil] at h1
    rw [List.append_nil, ← hc] at H
    refine br_f (nI_pos (by omega)) ⟨vp_in_nI hsl (by omega), ?_⟩
    rw [nI_clamp (by omega), he]
    exact pk_le e b (fun _ => nm_r (nI_1 k) (H zs h3)) (fun z => absurd z (by omega))
  | t :: a, q, b, n, c, zs, h1, hc, h2, h3, hn, H => by
    obtain ⟨n, rfl⟩ : ∃ n', n = n' + 1 := ⟨n - 1, by omega⟩
    rw [List.length_cons] at h1 hn
    refine br_f (nI_pos (by omega)) ⟨vp_in_nI hsl (by omega), ?_⟩
    rw [nI_clamp (n := slot) (by omega), he]
    refine pk_le e b (fun z => absurd z (by omega)) (fun _ => ⟨vp_in_nI (by omega) (by omega), ?_⟩)
    have et : a_built (nI b).toNatClampNeg = t := by rw [nI_clamp (by omega)]; exact h2.1
    rw [et]
    have e3 : q ++ t :: a = (q ++ [t]) ++ a := by rw [List.append_assoc]; rfl
    rw [e3] at H
    refine xw_t c hc h3 (fun z hz => nm_r (nI_1 b) ?_)
    exact xi_60 J7 hsl he heB a (q ++ [t]) (b + 1) n _ z (by omega) rfl h2.2 hz (by omega) H
theorem xi_7 {post : SX → Prop} {β : Nat → List Int64} {r nr B : Nat} (hr : r < 8) (hrs : a_rightSize r = nI nr) (hnr : nr ≤ 30) (hB : B ≤ 2048) (hb : xm_b a_built a_matchStart a_matchEnd B β) : ∀ (l q : List Int64) (k n c : Nat) (zs : Nat → Int64), k + l.length = nr → c = (q.take 31).length → hd_h a_rights (r * 30 + k) l → (∀ t, t ∈ l → tk_r t) → hd_h zs 0 (q.take 31) → l.length < n → (∀ z, hd_h z 0 ((q ++ ru_in β l).take 31) → post (f_drafted, f_faultPlace, f_reportedSteps, f_resultSize, nI ((q ++ ru_in β l).take 31).length, f_waitingSize, f_builtSize, f_unfinished, f_taken, f_keptSize, f_stacked, f_ranked, f_surveyed, a_draft, a_result, a_lefts, a_leftSize, a_ways, a_rights, a_rightSize, z, a_waiting, a_built, a_unfinishedStart, a_unfinishedLacks, a_kept, a_matchStart, a_matchEnd, a_joint, a_unified, a_oneStack, a_otherStack, a_nestedAt, a_nestedEnd, a_rank, a_pairCount, a_firstOpen)) → wX_writeInstance_7 post (nI r) n (nI k) f_drafted f_faultPlace f_reportedSteps f_resultSize (nI c) f_waitingSize f_builtSize f_unfinished f_taken f_keptSize f_stacked f_ranked f_surveyed a_draft a_result a_lefts a_leftSize a_ways a_rights a_rightSize zs a_waiting a_built a_unfinishedStart a_unfinishedLacks a_kept a_matchStart a_matchEnd a_joint a_unified a_oneStack a_otherStack a_nestedAt a_nestedEnd a_rank a_pairCount a_firstOpen
  | [], q, k, n, c, zs, h1, hc, h2, ht, h3, hn, H => by
    obtain ⟨n, rfl⟩ : ∃ n', n = n' + 1 := ⟨n - 1, by omega⟩
    rw [List.length_nil] at h1
    have e : q ++ ru_in β [] = q := List.append_nil q
    rw [e, ← hc] at H
    refine ⟨vp_in_nI hr (by omega), ?_⟩
    rw [nI_clamp (by omega), hrs]
    exact pk_le nr k (fun _ => H zs h3) (fun z => absurd z (by omega))
  | t :: l, q, k, n, c, zs, h1, hc, h2, ht, h3, hn, H => by
    obtain ⟨n, rfl⟩ : ∃ n', n = n' + 1 := ⟨n - 1, by omega⟩
    rw [List.length_cons] at h1 hn
    refine ⟨vp_in_nI hr (by omega), ?_⟩
    rw [nI_clamp (by omega), hrs]
    have ei : nI r * 30 + nI k = nI (r * 30 + k) := by rw [show (30 : Int32) = nI 30 from rfl, pk_mul, nI_add]
    refine pk_le nr k (fun z => absurd z (by omega)) (fun _ => ⟨by rw [ei]; exact vp_in_nI (by omega) (by omega), nm_r (e' := t) (by rw [ei, nI_clamp (by omega)]; exact h2.1) ?_⟩)
    have e0 : ru_in β (t :: l) = (if t < 8589934592 then [t] else β (ru_slot t)) ++ ru_in β l := rfl
    have htl : ∀ t, t ∈ l → tk_r t := fun x hx => ht x (List.mem_cons.mpr (Or.inr hx))
    rw [e0, ← List.append_assoc] at H
    by_cases hn' : t < 8589934592
    · rw [if_pos hn'] at H
      refine br_f (Int64.not_le.mpr hn') (xw_t c hc h3 (fun z hz => nm_r (nI_1 k) ?_))
      exact xi_7 hr hrs hnr hB hb l (q ++ [t]) (k + 1) n _ z (by omega) rfl h2.2 htl hz (by omega) H
    · rw [if_neg hn'] at H
      have htr := ht t (List.mem_cons.mpr (Or.inl rfl))
      have hsl := ru_slot_lt htr hn'
      refine br_t (Int64.not_lt.mp hn') (ru_slotX htr hn' ⟨vp_in_nI hsl (by omega), ?_⟩)
      refine nm_r (e' := a_matchStart (ru_slot t)) (by rw [nI_clamp (by omega)]) ?_
      obtain ⟨b1, b2⟩ := hb _ hsl
      by_cases h0 : β (ru_slot t) = []
      · rw [b1 h0]
        rw [h0, List.append_nil] at H
        refine ⟨1, br_t (by decide) (nm_r (nI_1 k) ?_)⟩
        exact xi_7 hr hrs hnr hB hb l q (k + 1) n c zs (by omega) hc h2.2 htl h3 (by omega) H
      · obtain ⟨st, s1, s2, s3, s4⟩ := b2 h0
        rw [s1]
        refine ⟨(β (ru_slot t)).length + 1, xi_60 _ hsl s2 (by omega) (β (ru_slot t)) q st _ c zs rfl hc s4 h3 (by omega) (fun z hz => ?_)⟩
        exact xi_7 hr hrs hnr hB hb l (q ++ β (ru_slot t)) (k + 1) n _ z (by omega) rfl h2.2 htl hz (by omega) H
theorem xi_in {post : SX → Prop} {L R : Nat → List Int64} {β : Nat → List Int64} (r B : Nat) (hG : mc_G L R) (hR : xr_R L R a_lefts a_leftSize a_ways a_rights a_rightSize) (hr : r < 8) (h0 : L r ≠ []) (hB : B ≤ 2048) (hb : xm_b a_built a_matchStart a_matchEnd B β) (H : ∀ z, hd_h z 0 ((ru_in β (R r)).take 31) → post (f_drafted, f_faultPlace, f_reportedSteps, f_resultSize, nI ((ru_in β (R r)).take 31).length, f_waitingSize, f_builtSize, f_unfinished, f_taken, f_keptSize, f_stacked, f_ranked, f_surveyed, a_draft, a_result, a_lefts, a_leftSize, a_ways, a_rights, a_rightSize, z, a_waiting, a_built, a_unfinishedStart, a_unfinishedLacks, a_kept, a_matchStart, a_matchEnd, a_joint, a_unified, a_oneStack, a_otherStack, a_nestedAt, a_nestedEnd, a_rank, a_pairCount, a_firstOpen)) : wpX_writeInstance post (f_drafted, f_faultPlace, f_reportedSteps, f_resultSize, f_sheetSize, f_waitingSize, f_builtSize, f_unfinished, f_taken, f_keptSize, f_stacked, f_ranked, f_surveyed, a_draft, a_result, a_lefts, a_leftSize, a_ways, a_rights, a_rightSize, a_sheet, a_waiting, a_built, a_unfinishedStart, a_unfinishedLacks, a_kept, a_matchStart, a_matchEnd, a_joint, a_unified, a_oneStack, a_otherStack, a_nestedAt, a_nestedEnd, a_rank, a_pairCount, a_firstOpen) (nI r) := by
  obtain ⟨_, _, x3⟩ := hR r hr
  obtain ⟨w1, w2, w3, w4, w5⟩ := x3 h0
  rcases hG r with h | ⟨g1, g2, g3, g4, g5, g6, g7, g8⟩
  · exact absurd h h0
  · refine ⟨(R r).length + 1, ?_⟩
    rw [← nI_0]
    exact xi_7 hr w3 (by omega) hB hb (R r) [] 0 _ 0 a_sheet (by omega) rfl w4 g5 trivial (by omega) H
end
