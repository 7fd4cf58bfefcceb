/-! the reference: the first rule that matches, what RIGHT becomes -/
def yr_R (L R : Nat → List Int64) (kind value all split : Nat → Int32) : Prop := ∀ r, r < 8 → (L r = [] → all r = 0) ∧ (L r ≠ [] → all r = nI ((L r).length + (R r).length) ∧ split r = nI (L r).length ∧ hd_y tk_kR tk_vR kind value (30 * r) (L r ++ R r))
theorem yw_pow {c : Nat} (hc : c < 31) : (1 : Int32) <<< (nI c &&& 31) = nI (2 ^ c) := by
  have h : 1 * 2 ^ c < 2 ^ 32 := by rw [Nat.one_mul]; exact Nat.pow_lt_pow_right (by omega) (by omega)
  have := pk_shlN (n := 1) (nI c &&& 31) c (s_l c (by omega)) h
  rw [Nat.one_mul] at this
  exact this
section
variable {f_place f_count f_top f_done f_open f_steps f_shownSteps f_fault f_in f_made f_old f_size f_heads f_fresh : Int32} {a_kind a_value a_all a_split a_toKind a_doneKind a_toValue a_doneValue a_begins a_lacks a_inKind a_leftKind a_madeKind a_oldKind a_resultKind a_inValue a_leftValue a_madeValue a_oldValue a_resultValue a_from a_to a_whole a_known a_bound a_whose a_rank a_one a_two a_oneOf a_twoOf a_headAt a_headOf a_headLeft a_pairs a_first : Nat → Int32}
theorem yf_3 {post : Int32 → SY → Prop} {x1 x2 x3 : Int32} : ∀ (d k n : Nat) (fr kn : Nat → Int32), k + d = 4 → (∀ j, j < k → fr j = -1 ∧ kn j = 0) → d < n → (∀ fr' kn', (∀ j, j < 4 → fr' j = -1 ∧ kn' j = 0) → ∃ n37, wY_fits_37 post x1 x3 f_place f_count f_top f_done f_open f_steps f_shownSteps f_fault f_in f_made f_old f_size f_heads f_fresh n37 x2 0 a_kind a_value a_all a_split a_toKind a_doneKind a_toValue a_doneValue a_begins a_lacks a_inKind a_leftKind a_madeKind a_oldKind a_resultKind a_inValue a_leftValue a_madeValue a_oldValue a_resultValue fr' a_to a_whole kn' a_bound a_whose a_rank a_one a_two a_oneOf a_twoOf a_headAt a_headOf a_headLeft a_pairs a_first) → wY_fits_3 post x1 x2 x3 f_place f_count f_top f_done f_open f_steps f_shownSteps f_fault f_in f_made f_old f_size f_heads f_fresh n (nI k) a_kind a_value a_all a_split a_toKind a_doneKind a_toValue a_doneValue a_begins a_lacks a_inKind a_leftKind a_madeKind a_oldKind a_resultKind a_inValue a_leftValue a_madeValue a_oldValue a_resultValue fr a_to a_whole kn a_bound a_whose a_rank a_one a_two a_oneOf a_twoOf a_headAt a_headOf a_headLeft a_pairs a_first
  | 0, k, n, fr, kn, hk, hm, hn, H => by
    obtain ⟨n, rfl⟩ : ∃ n', n = n' + 1 := ⟨n - 1, by omega⟩
    exact pk_le 4 k (fun _ => H fr kn (fun j hj => hm j (by omega))) (fun z => absurd z (by omega))
  | d + 1, k, n, fr, kn, hk, hm, hn, H => by
    obtain ⟨n, rfl⟩ : ∃ n', n = n' + 1 := ⟨n - 1, by omega⟩
    have hin : vp_in (nI k) 4 := vp_in_nI (by omega) (by omega)
    have ek : (nI k).toNatClampNeg = k := nI_clamp (by omega)
    refine pk_le 4 k (fun z => absurd z (by omega)) (fun _ => ⟨hin, nm_r (e' := upd kn k 0) (by rw [ek, yf_nb0]) ⟨hin, nm_r (e' := upd fr k (-1)) (by rw [ek, yf_nsm]) (nm_r (nI_1 k) ?_)⟩⟩)
    refine yf_3 d (k + 1) n _ _ (by omega) (fun j hj => ?_) (by omega) H
    by_cases e : j = k
    · rw [e, pk_us, pk_us]; exact ⟨rfl, rfl⟩
    · rw [pk_un e, pk_un e]; exact hm j (by omega)
theorem yf_fits {post : Int32 → SY → Prop} {ps s : List Int64} {m : Nat} (N st D : Nat) (hN : N = ps.length) (hN30 : N ≤ 30) (hD : D ≤ 2000) (hs : st + s.length = D) (h3 : hd_y tk_kR tk_vR a_leftKind a_leftValue 0 ps) (h4 : hd_y tk_kT tk_vT a_doneKind a_doneValue st s) (h5 : ∀ t, t ∈ ps → tk_r t) (h6 : ∀ t, t ∈ s → tk_t t) (h7 : tm_w s m) (Hy : ∀ β' fr to wh kn, ru_mt ps s (fun _ => []) = some β' → yf_b a_doneKind a_doneValue fr to wh kn D β' → post 1 (f_place, f_count, f_top, f_done, f_open, f_steps, f_shownSteps, f_fault, f_in, f_made, f_old, f_size, f_heads, f_fresh, a_kind, a_value, a_all, a_split, a_toKind, a_doneKind, a_toValue, a_doneValue, a_begins, a_lacks, a_inKind, a_leftKind, a_madeKind, a_oldKind, a_resultKind, a_inValue, a_leftValue, a_madeValue, a_oldValue, a_resultValue, fr, to, wh, kn, a_bound, a_whose, a_rank, a_one, a_two, a_oneOf, a_twoOf, a_headAt, a_headOf, a_headLeft, a_pairs, a_first)) (Hz : ∀ fr to wh kn, ru_mt ps s (fun _ => []) = none → post 0 (f_place, f_count, f_top, f_done, f_open, f_steps, f_shownSteps, f_fault, f_in, f_made, f_old, f_size, f_heads, f_fresh, a_kind, a_value, a_all, a_split, a_toKind, a_doneKind, a_toValue, a_doneValue, a_begins, a_lacks, a_inKind, a_leftKind, a_madeKind, a_oldKind, a_resultKind, a_inValue, a_leftValue, a_madeValue, a_oldValue, a_resultValue, fr, to, wh, kn, a_bound, a_whose, a_rank, a_one, a_two, a_oneOf, a_twoOf, a_headAt, a_headOf, a_headLeft, a_pairs, a_first)) : wpY_fits post (f_place, f_count, f_top, f_done, f_open, f_steps, f_shownSteps, f_fault, f_in, f_made, f_old, f_size, f_heads, f_fresh, a_kind, a_value, a_all, a_split, a_toKind, a_doneKind, a_toValue, a_doneValue, a_begins, a_lacks, a_inKind, a_leftKind, a_madeKind, a_oldKind, a_resultKind, a_inValue, a_leftValue, a_madeValue, a_oldValue, a_resultValue, a_from, a_to, a_whole, a_known, a_bound, a_whose, a_rank, a_one, a_two, a_oneOf, a_twoOf, a_headAt, a_headOf, a_headLeft, a_pairs, a_first) (nI N) (nI st) (nI D) := by
  refine ⟨5, yf_3 4 0 5 a_from a_known rfl (fun j hj => absurd hj (by omega)) (by omega) (fun fr' kn' hm => ⟨ps.length + 1, ?_⟩)⟩
  refine yf_l hN30 hD ps s m st 0 _ (fun _ => []) fr' a_to a_whole kn' (by omega) hs h3 h4 h5 h6 h7 ⟨fun k t ht => absurd ht (by simp), fun j hj => ⟨⟨fun _ => (hm j hj).1, fun z => absurd rfl z⟩, ⟨fun _ => (hm j hj).2, fun z => absurd rfl z⟩⟩⟩ (by omega) Hy Hz
theorem yf_29 {post : Int32 → SY → Prop} (J2 : _) {x1 x2 : Int32} {r N : Nat} (hr : r < 8) (hN : N ≤ 30) (hs : a_split r = nI N) : ∀ (l : List Int64) (c k n : Nat), k + l.length = N → hd_y tk_kR tk_vR a_kind a_value (30 * r + k) l → (∀ t, t ∈ l → tk_r t) → l.length < n → (∃ n79, wY_found_79 post J2 x1 x2 (nI r) (nI (c + ru_c9 l)) n79 0 f_place f_count f_top f_done f_open f_steps f_shownSteps f_fault f_in f_made f_old f_size f_heads f_fresh a_kind a_value a_all a_split a_toKind a_doneKind a_toValue a_doneValue a_begins a_lacks a_inKind a_leftKind a_madeKind a_oldKind a_resultKind a_inValue a_leftValue a_madeValue a_oldValue a_resultValue a_from a_to a_whole a_known a_bound a_whose a_rank a_one a_two a_oneOf a_twoOf a_headAt a_headOf a_headLeft a_pairs a_first) → wY_found_29 post J2 x1 x2 (nI r) f_place f_count f_top f_done f_open f_steps f_shownSteps f_fault f_in f_made f_old f_size f_heads f_fresh a_kind a_value a_all a_split a_toKind a_doneKind a_toValue a_doneValue a_begins a_lacks a_inKind a_leftKind a_madeKind a_oldKind a_resultKind a_inValue a_leftValue a_madeValue a_oldValue a_resultValue a_from a_to a_whole a_known a_bound a_whose a_rank a_one a_two a_oneOf a_twoOf a_headAt a_headOf a_headLeft a_pairs a_first n (nI c) (nI (30 * r + k))
  | [], c, k, n, h1, h2, h3, hn, H => by
    obtain ⟨n, rfl⟩ : ∃ n', n = n' + 1 := ⟨n - 1, by omega⟩
    rw [List.length_nil] at h1
    refine ⟨vp_in_nI hr (by omega), ?_⟩
    rw [nI_clamp (by omega), hs]
    exact pk_le (30 * r + N) (30 * r + k) (fun _ => H) (fun z => absurd z (by omega)) (by rw [show (30 : Int32) = nI 30 from rfl, pk_mul, nI_add]) rfl
  | t :: l, c, k, n, h1, h2, h3, hn, H => by
    obtain ⟨n, rfl⟩ : ∃ n', n = n' + 1 := ⟨n - 1, by omega⟩
    rw [List.length_cons] at h1 hn
    have htr := h3 t (List.mem_cons.mpr (Or.inl rfl))
    have h9 := tk_9 htr
    have hin : vp_in (nI (30 * r + k)) 270 := vp_in_nI (by omega) (by omega)
    have htl : ∀ t, t ∈ l → tk_r t := fun x hx => h3 x (List.mem_cons.mpr (Or.inr hx))
    refine ⟨vp_in_nI hr (by omega), ?_⟩
    rw [nI_clamp (n := r) (by omega), hs]
    refine pk_le (30 * r + N) (30 * r + k) (fun z => absurd z (by omega)) (fun _ => ⟨hin, ?_⟩) (by rw [show (30 : Int32) = nI 30 from rfl, pk_mul, nI_add]) rfl
    rw [nI_clamp (by omega), h2.1.1, h2.1.2]
    have no : ¬ t = 9 → wY_found_29 post J2 x1 x2 (nI r) f_place f_count f_top f_done f_open f_steps f_shownSteps f_fault f_in f_made f_old f_size f_heads f_fresh a_kind a_value a_all a_split a_toKind a_doneKind a_toValue a_doneValue a_begins a_lacks a_inKind a_leftKind a_madeKind a_oldKind a_resultKind a_inValue a_leftValue a_madeValue a_oldValue a_resultValue a_from a_to a_whole a_known a_bound a_whose a_rank a_one a_two a_oneOf a_twoOf a_headAt a_headOf a_headLeft a_pairs a_first n (nI c) (nI (30 * r + k + 1)) := by
      intro hne
      refine yf_29 J2 hr hN hs l c (k + 1) n (by omega) h2.2 htl (by omega) ?_
      have e : c + ru_c9 (t :: l) = c + ru_c9 l := by
        show c + ((if t = 9 then 1 else 0) + ru_c9 l) = _
        rw [if_neg hne, Nat.zero_add]
      rw [e] at H
      exact H
    by_cases hk : tk_kR t = 0
    · refine br_t hk ⟨hin, ?_⟩
      by_cases hv : tk_vR t = 9
      · have et := h9.mp ⟨hk, hv⟩
        refine br_t hv (nm_r (nI_1 c) (nm_r (nI_1 _) (yf_29 J2 hr hN hs l (c + 1) (k + 1) n (by omega) h2.2 htl (by omega) ?_)))
        have e : c + ru_c9 (t :: l) = c + 1 + ru_c9 l := by
          show c + ((if t = 9 then 1 else 0) + ru_c9 l) = _
          rw [if_pos et]; omega
        rw [e] at H
        exact H
      · exact br_f hv (nm_r (nI_1 _) (no (fun z => hv (h9.mpr z).2)))
    · exact br_f hk (nm_r (nI_1 _) (no (fun z => hk (h9.mpr z).1)))
theorem yf_79 {post : Int32 → SY → Prop} {L R : Nat → List Int64} {s : List Int64} {st D r m : Nat} (J2 : _) (hG : mc_G L R) (hR : yr_R L R a_kind a_value a_all a_split) (hr : r < 8) (h0 : L r ≠ []) (hD : D ≤ 2000) (hs : st + s.length = D) (h4 : hd_y tk_kT tk_vT a_doneKind a_doneValue st s) (h6 : ∀ t, t ∈ s → tk_t t) (h7 : tm_w s m) : ∀ (k w n : Nat) (lk lv fr to wh kn : Nat → Int32), w + k = 2 ^ ru_c9 (L r) → k < n → (∀ β lk lv fr to wh kn, ru_fw (L r) s k w = some β → yf_b a_doneKind a_doneValue fr to wh kn D β → post (nI r) (f_place, f_count, f_top, f_done, f_open, f_steps, f_shownSteps, f_fault, f_in, f_made, f_old, f_size, f_heads, f_fresh, a_kind, a_value, a_all, a_split, a_toKind, a_doneKind, a_toValue, a_doneValue, a_begins, a_lacks, a_inKind, lk, a_madeKind, a_oldKind, a_resultKind, a_inValue, lv, a_madeValue, a_oldValue, a_resultValue, fr, to, wh, kn, a_bound, a_whose, a_rank, a_one, a_two, a_oneOf, a_twoOf, a_headAt, a_headOf, a_headLeft, a_pairs, a_first)) → (∀ lk lv fr to wh kn, ru_fw (L r) s k w = none → J2 (nI (r + 1)) f_place f_count f_top f_done f_open f_steps f_shownSteps f_fault f_in f_made f_old f_size f_heads f_fresh a_kind a_value a_all a_split a_toKind a_doneKind a_toValue a_doneValue a_begins a_lacks a_inKind lk a_madeKind a_oldKind a_resultKind a_inValue lv a_madeValue a_oldValue a_resultValue fr to wh kn a_bound a_whose a_rank a_one a_two a_oneOf a_twoOf a_headAt a_headOf a_headLeft a_pairs a_first) → wY_found_79 post J2 (nI st) (nI D) (nI r) (nI (ru_c9 (L r))) n (nI w) f_place f_count f_top f_done f_open f_steps f_shownSteps f_fault f_in f_made f_old f_size f_heads f_fresh a_kind a_value a_all a_split a_toKind a_doneKind a_toValue a_doneValue a_begins a_lacks a_inKind lk a_madeKind a_oldKind a_resultKind a_inValue lv a_madeValue a_oldValue a_resultValue fr to wh kn a_bound a_whose a_rank a_one a_two a_oneOf a_twoOf a_headAt a_headOf a_headLeft a_pairs a_first
  | 0, w, n, lk, lv, fr, to, wh, kn, hk, hn, Hy, Hn => by
    obtain ⟨n, rfl⟩ : ∃ n', n = n' + 1 := ⟨n - 1, by omega⟩
    rcases hG r with h | ⟨g1, g2, g3, g4, g5, g6, g7, g8⟩
    · exact absurd h h0
    have h16 : 2 ^ ru_c9 (L r) ≤ 16 := Nat.le_trans (Nat.pow_le_pow_right (by omega) g7) (by decide)
    exact pk_le (2 ^ ru_c9 (L r)) w (fun _ => nm_r (nI_1 r) (Hn lk lv fr to wh kn rfl)) (fun z => absurd z (by omega)) (yw_pow (by omega)) rfl
  | k + 1, w, n, lk, lv, fr, to, wh, kn, hk, hn, Hy, Hn => by
    obtain ⟨n, rfl⟩ : ∃ n', n = n' + 1 := ⟨n - 1, by omega⟩
    rcases hG r with h | ⟨g1, g2, g3, g4, g5, g6, g7, g8⟩
    · exact absurd h h0
    have h16 : 2 ^ ru_c9 (L r) ≤ 16 := Nat.le_trans (Nat.pow_le_pow_right (by omega) g7) (by decide)
    obtain ⟨r1, r2, r3⟩ := (hR r hr).2 h0
    have hRl : 1 ≤ (R r).length := tm_w_len _ _ g2
    refine pk_le (2 ^ ru_c9 (L r)) w (fun z => absurd z (by omega)) (fun _ => ?_) (yw_pow (by omega)) rfl
    refine yx_ex (o := L r) r w hr (by omega) (by omega) g7 g1 g4 r2 (hy_app.mp r3).1 (fun lk' lv' hl => ⟨vp_in_nI hr (by omega), ?_⟩)
    rw [nI_clamp (by omega), r2]
    refine yf_fits (ps := (ru_wy (L r) w).1) (L r).length st D (ru_wy_len _ _).symm (by omega) hD hs hl h4 (fun t ht => g4 t (ru_wy_mem _ _ _ ht)) h6 h7 (fun β fr' to' wh' kn' e hb => ?_) (fun fr' to' wh' kn' e => ?_)
    · exact br_f (by decide) (Hy β lk' lv' fr' to' wh' kn' (by rw [ru_fw, e]) hb)
    · rw [ru_fw, e] at Hy Hn
      exact br_t rfl (nm_r (nI_1 w) (yf_79 J2 hG hR hr h0 hD hs h4 h6 h7 k (w + 1) n _ _ _ _ _ _ (by omega) (by omega) Hy Hn))
theorem yf_2 {post : Int32 → SY → Prop} {L R : Nat → List Int64} {s : List Int64} {st D m : Nat} (hG : mc_G L R) (hR : yr_R L R a_kind a_value a_all a_split) (hD : D ≤ 2000) (hs : st + s.length = D) (h4 : hd_y tk_kT tk_vT a_doneKind a_doneValue st s) (h6 : ∀ t, t ∈ s → tk_t t) (h7 : tm_w s m) : ∀ (k r n : Nat) (lk lv fr to wh kn : Nat → Int32), r + k = 8 → k < n → (∀ r' β lk lv fr to wh kn, ru_fr L s k r = some (r', β) → yf_b a_doneKind a_doneValue fr to wh kn D β → post (nI r') (f_place, f_count, f_top, f_done, f_open, f_steps, f_shownSteps, f_fault, f_in, f_made, f_old, f_size, f_heads, f_fresh, a_kind, a_value, a_all, a_split, a_toKind, a_doneKind, a_toValue, a_doneValue, a_begins, a_lacks, a_inKind, lk, a_madeKind, a_oldKind, a_resultKind, a_inValue, lv, a_madeValue, a_oldValue, a_resultValue, fr, to, wh, kn, a_bound, a_whose, a_rank, a_one, a_two, a_oneOf, a_twoOf, a_headAt, a_headOf, a_headLeft, a_pairs, a_first)) → (∀ lk lv fr to wh kn, ru_fr L s k r = none → post (-1) (f_place, f_count, f_top, f_done, f_open, f_steps, f_shownSteps, f_fault, f_in, f_made, f_old, f_size, f_heads, f_fresh, a_kind, a_value, a_all, a_split, a_toKind, a_doneKind, a_toValue, a_doneValue, a_begins, a_lacks, a_inKind, lk, a_madeKind, a_oldKind, a_resultKind, a_inValue, lv, a_madeValue, a_oldValue, a_resultValue, fr, to, wh, kn, a_bound, a_whose, a_rank, a_one, a_two, a_oneOf, a_twoOf, a_headAt, a_headOf, a_headLeft, a_pairs, a_first)) → wY_found_2 post (nI st) (nI D) n (nI r) f_place f_count f_top f_done f_open f_steps f_shownSteps f_fault f_in f_made f_old f_size f_heads f_fresh a_kind a_value a_all a_split a_toKind a_doneKind a_toValue a_doneValue a_begins a_lacks a_inKind lk a_madeKind a_oldKind a_resultKind a_inValue lv a_madeValue a_oldValue a_resultValue fr to wh kn a_bound a_whose a_rank a_one a_two a_oneOf a_twoOf a_headAt a_headOf a_headLeft a_pairs a_first
  | 0, r, n, lk, lv, fr, to, wh, kn, hk, hn, Hy, Hn => by
    obtain ⟨n, rfl⟩ : ∃ n', n = n' + 1 := ⟨n - 1, by omega⟩
    exact pk_le 8 r (fun _ => Hn lk lv fr to wh kn rfl) (fun z => absurd z (by omega))
  | k + 1, r, n, lk, lv, fr, to, wh, kn, hk, hn, Hy, Hn => by
    obtain ⟨n, rfl⟩ : ∃ n', n = n' + 1 := ⟨n - 1, by omega⟩
    refine pk_le 8 r (fun z => absurd z (by omega)) (fun _ => ⟨vp_in_nI (by omega) (by omega), ?_⟩)
    rw [nI_clamp (by omega)]
    by_cases h0 : L r = []
    · rw [ru_fr, if_pos h0] at Hy Hn
      refine br_t ((hR r (by omega)).1 h0) (nm_r (nI_1 r) ?_)
      exact yf_2 hG hR hD hs h4 h6 h7 k (r + 1) n _ _ _ _ _ _ (by omega) (by omega) Hy Hn
    · rw [ru_fr, if_neg h0] at Hy Hn
      rcases hG r with h | ⟨g1, g2, g3, g4, g5, g6, g7, g8⟩
      · exact absurd h h0
      obtain ⟨r1, r2, r3⟩ := (hR r (by omega)).2 h0
      have hLl : 1 ≤ (L r).length := tm_w_len _ _ g1
      have h16 : 2 ^ ru_c9 (L r) ≤ 16 := Nat.le_trans (Nat.pow_le_pow_right (by omega) g7) (by decide)
      refine br_f (by rw [r1]; exact nI_ne0 (by omega) (by omega)) (nm_r (e' := nI (30 * r + 0)) (by rw [show (30 : Int32) = nI 30 from rfl, pk_mul, Nat.add_zero]) ⟨(L r).length + 1, ?_⟩)
      rw [← nI_0]
      refine yf_29 _ (by omega) (by omega) r2 (L r) 0 0 _ (by omega) (hy_app.mp r3).1 g4 (by omega) ⟨2 ^ ru_c9 (L r) + 1, ?_⟩
      rw [Nat.zero_add, ← nI_0]
      refine yf_79 _ hG hR (by omega) h0 hD hs h4 h6 h7 (2 ^ ru_c9 (L r)) 0 _ lk lv fr to wh kn (by omega) (by omega) (fun β lk' lv' fr' to' wh' kn' e hb => ?_) (fun lk' lv' fr' to' wh' kn' e => ?_)
      · exact Hy r β lk' lv' fr' to' wh' kn' (by rw [e]) hb
      · rw [e] at Hy Hn
        exact yf_2 hG hR hD hs h4 h6 h7 k (r + 1) n _ _ _ _ _ _ (by omega) (by omega) Hy Hn
theorem yf_found {post : Int32 → SY → Prop} {L R : Nat → List Int64} {s : List Int64} (st D m : Nat) (hG : mc_G L R) (hR : yr_R L R a_kind a_value a_all a_split) (hD : D ≤ 2000) (hs : st + s.length = D) (h4 : hd_y tk_kT tk_vT a_doneKind a_doneValue st s) (h6 : ∀ t, t ∈ s → tk_t t) (h7 : tm_w s m) (Hy : ∀ r' β lk lv fr to wh kn, ru_fr L s 8 0 = some (r', β) → yf_b a_doneKind a_doneValue fr to wh kn D β → post (nI r') (f_place, f_count, f_top, f_done, f_open, f_steps, f_shownSteps, f_fault, f_in, f_made, f_old, f_size, f_heads, f_fresh, a_kind, a_value, a_all, a_split, a_toKind, a_doneKind, a_toValue, a_doneValue, a_begins, a_lacks, a_inKind, lk, a_madeKind, a_oldKind, a_resultKind, a_inValue, lv, a_madeValue, a_oldValue, a_resultValue, fr, to, wh, kn, a_bound, a_whose, a_rank, a_one, a_two, a_oneOf, a_twoOf, a_headAt, a_headOf, a_headLeft, a_pairs, a_first)) (Hn : ∀ lk lv fr to wh kn, ru_fr L s 8 0 = none → post (-1) (f_place, f_count, f_top, f_done, f_open, f_steps, f_shownSteps, f_fault, f_in, f_made, f_old, f_size, f_heads, f_fresh, a_kind, a_value, a_all, a_split, a_toKind, a_doneKind, a_toValue, a_doneValue, a_begins, a_lacks, a_inKind, lk, a_madeKind, a_oldKind, a_resultKind, a_inValue, lv, a_madeValue, a_oldValue, a_resultValue, fr, to, wh, kn, a_bound, a_whose, a_rank, a_one, a_two, a_oneOf, a_twoOf, a_headAt, a_headOf, a_headLeft, a_pairs, a_first)) : wpY_found post (f_place, f_count, f_top, f_done, f_open, f_steps, f_shownSteps, f_fault, f_in, f_made, f_old, f_size, f_heads, f_fresh, a_kind, a_value, a_all, a_split, a_toKind, a_doneKind, a_toValue, a_doneValue, a_begins, a_lacks, a_inKind, a_leftKind, a_madeKind, a_oldKind, a_resultKind, a_inValue, a_leftValue, a_madeValue, a_oldValue, a_resultValue, a_from, a_to, a_whole, a_known, a_bound, a_whose, a_rank, a_one, a_two, a_oneOf, a_twoOf, a_headAt, a_headOf, a_headLeft, a_pairs, a_first) (nI st) (nI D) :=
  ⟨9, yf_2 hG hR hD hs h4 h6 h7 8 0 9 _ _ _ _ _ _ rfl (by omega) Hy Hn⟩
theorem ym_make {post : SY → Prop} {q : List Int64} {t : Int64} (c : Nat) (hc : c = q.length) (hc2 : c < 1000000) (hq : hd_y tk_kT tk_vT a_madeKind a_madeValue 0 (q.take 31)) (H : ∀ ka va, hd_y tk_kT tk_vT ka va 0 ((q ++ [t]).take 31) → post (f_place, f_count, f_top, f_done, f_open, f_steps, f_shownSteps, f_fault, f_in, nI (c + 1), f_old, f_size, f_heads, f_fresh, a_kind, a_value, a_all, a_split, a_toKind, a_doneKind, a_toValue, a_doneValue, a_begins, a_lacks, a_inKind, a_leftKind, ka, a_oldKind, a_resultKind, a_inValue, a_leftValue, va, a_oldValue, a_resultValue, a_from, a_to, a_whole, a_known, a_bound, a_whose, a_rank, a_one, a_two, a_oneOf, a_twoOf, a_headAt, a_headOf, a_headLeft, a_pairs, a_first)) : wpY_make post (f_place, f_count, f_top, f_done, f_open, f_steps, f_shownSteps, f_fault, f_in, nI c, f_old, f_size, f_heads, f_fresh, a_kind, a_value, a_all, a_split, a_toKind, a_doneKind, a_toValue, a_doneValue, a_begins, a_lacks, a_inKind, a_leftKind, a_madeKind, a_oldKind, a_resultKind, a_inValue, a_leftValue, a_madeValue, a_oldValue, a_resultValue, a_from, a_to, a_whole, a_known, a_bound, a_whose, a_rank, a_one, a_two, a_oneOf, a_twoOf, a_headAt, a_headOf, a_headLeft, a_pairs, a_first) (tk_kT t) (tk_vT t) := by
  have ec : (nI c).toNatClampNeg = c := nI_clamp (by omega)
  refine pk_le 31 c (fun h => nm_r (nI_1 c) (H _ _ ?_)) (fun h => ?_)
  · rw [xi_take' (by omega)]; exact hq
  · have hin : vp_in (nI c) 32 := vp_in_nI (by omega) (by omega)
    refine ⟨hin, nm_r (e' := upd a_madeKind c (tk_kT t)) (by rw [ec, (tk_narT t).2]) ⟨hin, nm_r (e' := upd a_madeValue c (tk_vT t)) (by rw [ec]) (nm_r (nI_1 c) (H _ _ ?_))⟩⟩
    rw [List.take_of_length_le (by omega)] at hq
    rw [xi_take (by omega)]
    exact hy_snoc c (by omega) hq
theorem ym_make1 {post : SY → Prop} {q : List Int64} {t : Int64} {x : Int32} (hx : x = tk_kT t) (c : Nat) (hc : c = q.length) (hc2 : c < 1000000) (hq : hd_y tk_kT tk_vT a_madeKind a_madeValue 0 (q.take 31)) (H : ∀ ka va, hd_y tk_kT tk_vT ka va 0 ((q ++ [t]).take 31) → post (f_place, f_count, f_top, f_done, f_open, f_steps, f_shownSteps, f_fault, f_in, nI (c + 1), f_old, f_size, f_heads, f_fresh, a_kind, a_value, a_all, a_split, a_toKind, a_doneKind, a_toValue, a_doneValue, a_begins, a_lacks, a_inKind, a_leftKind, ka, a_oldKind, a_resultKind, a_inValue, a_leftValue, va, a_oldValue, a_resultValue, a_from, a_to, a_whole, a_known, a_bound, a_whose, a_rank, a_one, a_two, a_oneOf, a_twoOf, a_headAt, a_headOf, a_headLeft, a_pairs, a_first)) : wpY_make post (f_place, f_count, f_top, f_done, f_open, f_steps, f_shownSteps, f_fault, f_in, nI c, f_old, f_size, f_heads, f_fresh, a_kind, a_value, a_all, a_split, a_toKind, a_doneKind, a_toValue, a_doneValue, a_begins, a_lacks, a_inKind, a_leftKind, a_madeKind, a_oldKind, a_resultKind, a_inValue, a_leftValue, a_madeValue, a_oldValue, a_resultValue, a_from, a_to, a_whole, a_known, a_bound, a_whose, a_rank, a_one, a_two, a_oneOf, a_twoOf, a_headAt, a_headOf, a_headLeft, a_pairs, a_first) x (tk_vT t) := by
  subst hx
  exact ym_make c hc hc2 hq H
theorem yi_95 {post : SY → Prop} (J17 : _) {x1 : Int32} {k v e : Nat} (hv : v < 4) (he : a_to v = nI e) (heD : e ≤ 2000) : ∀ (a q : List Int64) (b n c : Nat) (ka va : Nat → Int32), b + a.length = e → c = q.length → c + a.length < 1000000 → hd_y tk_kT tk_vT a_doneKind a_doneValue b a → hd_y tk_kT tk_vT ka va 0 (q.take 31) → a.length < n → (∀ ka va, hd_y tk_kT tk_vT ka va 0 ((q ++ a).take 31) → J17 (nI (k + 1)) f_place f_count f_top f_done f_open f_steps f_shownSteps f_fault f_in (nI (q ++ a).length) f_old f_size f_heads f_fresh a_kind a_value a_all a_split a_toKind a_doneKind a_toValue a_doneValue a_begins a_lacks a_inKind a_leftKind ka a_oldKind a_resultKind a_inValue a_leftValue va a_oldValue a_resultValue a_from a_to a_whole a_known a_bound a_whose a_rank a_one a_two a_oneOf a_twoOf a_headAt a_headOf a_headLeft a_pairs a_first) → wY_instance_95 post J17 x1 (nI k) (nI v) n (nI b) f_place f_count f_top f_done f_open f_steps f_shownSteps f_fault f_in (nI c) f_old f_size f_heads f_fresh a_kind a_value a_all a_split a_toKind a_doneKind a_toValue a_doneValue a_begins a_lacks a_inKind a_leftKind ka a_oldKind a_resultKind a_inValue a_leftValue va a_oldValue a_resultValue a_from a_to a_whole a_known a_bound a_whose a_rank a_one a_two a_oneOf a_twoOf a_headAt a_headOf a_headLeft a_pairs a_first
  | [], q, b, n, c, ka, va, h1, hc, hc2, h2, h3, hn, H => by
    obtain ⟨n, rfl⟩ : ∃ n', n = n' + 1 := ⟨n - 1, by omega⟩
    rw [List.length_nil] at h1
    rw [List.append_nil, ← hc] at H
    refine ⟨vp_in_nI hv (by omega), ?_⟩
    rw [nI_clamp (by omega), he]
    exact pk_le e b (fun _ => nm_r (nI_1 k) (H ka va h3)) (fun z => absurd z (by omega))
  | t :: a, q, b, n, c, ka, va, h1, hc, hc2, h2, h3, hn, H => by
    obtain ⟨n, rfl⟩ : ∃ n', n = n' + 1 := ⟨n - 1, by omega⟩
    rw [List.length_cons] at h1 hn hc2
    have hin : vp_in (nI b) 2400 := vp_in_nI (by omega) (by omega)
    refine ⟨vp_in_nI hv (by omega), ?_⟩
    rw [nI_clamp (n := v) (by omega), he]
    refine pk_le e b (fun z => absurd z (by omega)) (fun _ => ⟨hin, hin, ?_⟩)
    rw [nI_clamp (by omega), h2.1.1, h2.1.2]
    have e3 : q ++ t :: a = (q ++ [t]) ++ a := by rw [List.append_assoc]; rfl
    rw [e3] at H
    refine ym_make c hc (by omega) h3 (fun ka' va' hz => nm_r (nI_1 b) ?_)
    exact yi_95 J17 hv he heD a (q ++ [t]) (b + 1) n (c + 1) ka' va' (by omega) (by simp; omega) (by omega) h2.2 hz (by omega) H
theorem yi_17 {post : SY → Prop} {β : Nat → List Int64} {r e D : Nat} (hr : r < 8) (hall : a_all r = nI e) (he : e ≤ 30) (hD : D ≤ 2000) (hb : yf_b a_doneKind a_doneValue a_from a_to a_whole a_known D β) : ∀ (l q : List Int64) (k n c : Nat) (ka va : Nat → Int32), k + l.length = 30 * r + e → c = q.length → c + 2001 * l.length < 1000000 → hd_y tk_kR tk_vR a_kind a_value k l → (∀ t, t ∈ l → tk_r t) → (∀ t, t ∈ l → ¬ t < 8589934592 → β (ru_slot t) ≠ []) → hd_y tk_kT tk_vT ka va 0 (q.take 31) → l.length < n → (∀ ka va, hd_y tk_kT tk_vT ka va 0 ((q ++ ru_in β l).take 31) → post (f_place, f_count, f_top, f_done, f_open, f_steps, f_shownSteps, f_fault, f_in, nI (q ++ ru_in β l).length, f_old, f_size, f_heads, f_fresh, a_kind, a_value, a_all, a_split, a_toKind, a_doneKind, a_toValue, a_doneValue, a_begins, a_lacks, a_inKind, a_leftKind, ka, a_oldKind, a_resultKind, a_inValue, a_leftValue, va, a_oldValue, a_resultValue, a_from, a_to, a_whole, a_known, a_bound, a_whose, a_rank, a_one, a_two, a_oneOf, a_twoOf, a_headAt, a_headOf, a_headLeft, a_pairs, a_first)) → wY_instance_17 post (nI r) n (nI k) f_place f_count f_top f_done f_open f_steps f_shownSteps f_fault f_in (nI c) f_old f_size f_heads f_fresh a_kind a_value a_all a_split a_toKind a_doneKind a_toValue a_doneValue a_begins a_lacks a_inKind a_leftKind ka a_oldKind a_resultKind a_inValue a_leftValue va a_oldValue a_resultValue a_from a_to a_whole a_known a_bound a_whose a_rank a_one a_two a_oneOf a_twoOf a_headAt a_headOf a_headLeft a_pairs a_first
  | [], q, k, n, c, ka, va, h1, hc, hc2, h2, ht, hbb, h3, hn, H => by
    obtain ⟨n, rfl⟩ : ∃ n', n = n' + 1 := ⟨n - 1, by omega⟩
    rw [List.length_nil] at h1
    have e0 : q ++ ru_in β [] = q := List.append_nil q
    rw [e0, ← hc] at H
    refine ⟨vp_in_nI (by omega) (by omega), ?_⟩
    rw [nI_clamp (by omega), hall]
    exact pk_le (30 * r + e) k (fun _ => H ka va h3) (fun z => absurd z (by omega)) (by rw [show (30 : Int32) = nI 30 from rfl, pk_mul, nI_add]) rfl
  | t :: l, q, k, n, c, ka, va, h1, hc, hc2, h2, ht, hbb, h3, hn, H => by
    obtain ⟨n, rfl⟩ : ∃ n', n = n' + 1 := ⟨n - 1, by omega⟩
    rw [List.length_cons] at h1 hn hc2
    have hin : vp_in (nI k) 270 := vp_in_nI (by omega) (by omega)
    have ek : (nI k).toNatClampNeg = k := nI_clamp (by omega)
    refine ⟨vp_in_nI (by omega) (by omega), ?_⟩
    rw [nI_clamp (n := r) (by omega), hall]
    refine pk_le (30 * r + e) k (fun z => absurd z (by omega)) (fun _ => ⟨hin, nm_r (e' := tk_vR t) (by rw [ek]; exact h2.1.2) ⟨hin, ?_⟩⟩) (by rw [show (30 : Int32) = nI 30 from rfl, pk_mul, nI_add]) rfl
    rw [ek, h2.1.1]
    have e0 : ru_in β (t :: l) = (if t < 8589934592 then [t] else β (ru_slot t)) ++ ru_in β l := rfl
    have htl : ∀ t, t ∈ l → tk_r t := fun x hx => ht x (List.mem_cons.mpr (Or.inr hx))
    have hbl : ∀ t, t ∈ l → ¬ t < 8589934592 → β (ru_slot t) ≠ [] := fun x hx => hbb x (List.mem_cons.mpr (Or.inr hx))
    have htr := ht t (List.mem_cons.mpr (Or.inl rfl))
    rw [e0, ← List.append_assoc] at H
    by_cases hn' : t < 8589934592
    · rw [if_pos hn'] at H
      have hd : tk_d t := by
        obtain ⟨z, rfl, hz⟩ := htr
        rw [tk_lt 8589934592 (by omega)] at hn'
        exact ⟨z, rfl, by omega⟩
      obtain ⟨q1, q2⟩ := tk_dT hd
      have hk2 : ¬ tk_kR t = 2 := by unfold tk_kR; rw [if_pos hn']; split <;> decide
      have hk3 : ¬ tk_kR t = 3 := by unfold tk_kR; rw [if_pos hn']; split <;> decide
      refine br_f hk3 ⟨hin, br_f hk2 ⟨hin, ?_⟩⟩
      rw [q1, q2]
      refine ym_make c hc (by omega) h3 (fun ka' va' hz => nm_r (nI_1 k) ?_)
      exact yi_17 hr hall he hD hb l (q ++ [t]) (k + 1) n (c + 1) ka' va' (by omega) (by simp; omega) (by omega) h2.2 htl hbl hz (by omega) H
    · rw [if_neg hn'] at H
      have hne := hbb t (List.mem_cons.mpr (Or.inl rfl)) hn'
      rcases ru_names htr hn' with ⟨v, hv, er, kr, vr, sr, hl⟩ | ⟨v, hv, er, kr, vr, sr, hl⟩
      · rw [kr, vr]
        rw [sr] at hne H
        obtain ⟨bw, st, s1, s2, s3, s4⟩ := ((hb.2 v hv).1).2 hne
        have hinv : vp_in (nI v) 4 := vp_in_nI hv (by omega)
        refine br_f (by decide) ⟨hin, br_t rfl ⟨hinv, nm_r (e' := nI st) (by rw [nI_clamp (by omega), s1]) ⟨(β v).length + 1, ?_⟩⟩⟩
        refine yi_95 _ hv s2 (by omega) (β v) q st _ c ka va rfl hc (by omega) s4 h3 (by omega) (fun ka' va' hz => ?_)
        exact yi_17 hr hall he hD hb l (q ++ β v) (k + 1) n _ ka' va' (by omega) rfl (by rw [List.length_append]; omega) h2.2 htl hbl hz (by omega) H
      · rw [kr, vr]
        rw [sr] at hne H
        obtain ⟨bk, c0, s1, s2, s3⟩ := ((hb.2 v hv).2).2 hne
        have hinv : vp_in (nI v) 4 := vp_in_nI hv (by omega)
        have hc0t : tk_t c0 := hb.1 (4 + v) c0 (by rw [s1]; simp)
        refine br_t rfl ⟨hinv, ?_⟩
        rw [nI_clamp (by omega), s3]
        rw [s1] at H
        refine ym_make1 ((tk_N_Y hc0t).mpr s2).symm c hc (by omega) h3 (fun ka' va' hz => nm_r (nI_1 k) ?_)
        exact yi_17 hr hall he hD hb l (q ++ [c0]) (k + 1) n (c + 1) ka' va' (by omega) (by simp; omega) (by omega) h2.2 htl hbl hz (by omega) H
theorem yi_in {post : SY → Prop} {L R : Nat → List Int64} {β : Nat → List Int64} (r D : Nat) (hG : mc_G L R) (hR : yr_R L R a_kind a_value a_all a_split) (hr : r < 8) (h0 : L r ≠ []) (hD : D ≤ 2000) (hb : yf_b a_doneKind a_doneValue a_from a_to a_whole a_known D β) (hbb : ∀ t, t ∈ R r → ¬ t < 8589934592 → β (ru_slot t) ≠ []) (H : ∀ ka va, hd_y tk_kT tk_vT ka va 0 ((ru_in β (R r)).take 31) → post (f_place, f_count, f_top, f_done, f_open, f_steps, f_shownSteps, f_fault, f_in, nI (ru_in β (R r)).length, f_old, f_size, f_heads, f_fresh, a_kind, a_value, a_all, a_split, a_toKind, a_doneKind, a_toValue, a_doneValue, a_begins, a_lacks, a_inKind, a_leftKind, ka, a_oldKind, a_resultKind, a_inValue, a_leftValue, va, a_oldValue, a_resultValue, a_from, a_to, a_whole, a_known, a_bound, a_whose, a_rank, a_one, a_two, a_oneOf, a_twoOf, a_headAt, a_headOf, a_headLeft, a_pairs, a_first)) : wpY_instance post (f_place, f_count, f_top, f_done, f_open, f_steps, f_shownSteps, f_fault, f_in, f_made, f_old, f_size, f_heads, f_fresh, a_kind, a_value, a_all, a_split, a_toKind, a_doneKind, a_toValue, a_doneValue, a_begins, a_lacks, a_inKind, a_leftKind, a_madeKind, a_oldKind, a_resultKind, a_inValue, a_leftValue, a_madeValue, a_oldValue, a_resultValue, a_from, a_to, a_whole, a_known, a_bound, a_whose, a_rank, a_one, a_two, a_oneOf, a_twoOf, a_headAt, a_headOf, a_headLeft, a_pairs, a_first) (nI r) := by
  obtain ⟨r1, r2, r3⟩ := (hR r hr).2 h0
  rcases hG r with h | ⟨g1, g2, g3, g4, g5, g6, g7, g8⟩
  · exact absurd h h0
  · refine ⟨vp_in_nI hr (by omega), nm_r (e' := nI (30 * r + (L r).length)) (by rw [nI_clamp (by omega), r2, show (30 : Int32) = nI 30 from rfl, pk_mul, nI_add]) ⟨(R r).length + 1, ?_⟩⟩
    rw [← nI_0]
    exact yi_17 hr r1 g3 hD hb (R r) [] (30 * r + (L r).length) _ 0 _ _ (by omega) rfl (by omega) (hy_app.mp r3).2 g5 hbb trivial (by omega) H
end
