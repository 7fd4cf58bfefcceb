/-! the component: the order, arithmetic, the stacks of the normal form -/
theorem mc_cb_app (x : List Int64) : ∀ (a b : List Int64) (m : Nat), tm_w a m → tm_w b m → mc_cb b (a ++ x) = mc_cb b a
  | [], b, m, ha, hb => by
    rw [tm_w_nil] at ha
    subst ha
    rw [tm_w_0 hb]
    simp [mc_cb]
  | y :: a, [], m, ha, hb => by simp [mc_cb]
  | y :: a, z :: b, m, ha, hb => by
    obtain ⟨k, rfl, h1⟩ := tm_w_ne ha
    have h2 := tm_w_cons.mp hb
    rw [List.cons_append]
    by_cases h : z = y
    · subst h
      rw [mc_cb_eq, mc_cb_eq]
      exact mc_cb_app x a b _ h1 h2
    · rw [mc_cb_ne h, mc_cb_ne h]
theorem mc_or_AB {A B : List Int64} (hA : tm_w A 1) (hB : tm_w B 1) : mc_or (9 :: (A ++ B)) = if mc_cb B A = true then 9 :: (B ++ A) else 9 :: (A ++ B) := by
  rw [mc_or_9, tm_n_app A B 1 hA, List.drop_left, List.take_left]
  have := tm_sw_eq (r := []) hA hB
  rw [List.append_nil, List.append_nil] at this
  rw [this]
section
variable {f_drafted f_faultPlace f_reportedSteps f_resultSize f_sheetSize f_waitingSize f_builtSize f_unfinished f_taken f_keptSize f_stacked f_ranked f_surveyed : Int32} {a_draft a_result a_lefts a_rights a_sheet a_waiting a_built a_kept a_joint : Nat → Int64} {a_leftSize a_ways a_rightSize a_unfinishedStart a_unfinishedLacks a_matchStart a_matchEnd a_unified a_oneStack a_otherStack a_nestedAt a_nestedEnd a_rank a_pairCount a_firstOpen : Nat → Int32}
theorem xc_l {post : Int32 → Prop} {one other B : Nat} (hB : B ≤ 2048) : ∀ (sa sb : List Int64) (k n : Nat), one + k + sa.length = B → other + k + sb.length = B → hd_h a_built (one + k) sa → hd_h a_built (other + k) sb → sa.length < n → post (if mc_cb sa sb = true then 1 else 0) → wX_comesBefore_2 post (nI one) (nI other) f_drafted f_faultPlace f_reportedSteps f_resultSize f_sheetSize f_waitingSize (nI B) f_unfinished f_taken f_keptSize f_stacked f_ranked f_surveyed a_draft a_result a_lefts a_leftSize a_ways a_rights a_rightSize a_sheet a_waiting a_built a_unfinishedStart a_unfinishedLacks a_kept a_matchStart a_matchEnd a_joint a_unified a_oneStack a_otherStack a_nestedAt a_nestedEnd a_rank a_pairCount a_firstOpen n (nI k)
  | [], sb, k, n, h1, h2, h3, h4, hn, hp => by
    obtain ⟨n, rfl⟩ : ∃ n', n = n' + 1 := ⟨n - 1, by omega⟩
    rw [List.length_nil] at h1
    exact pk_le B (one + k) (fun _ => by simpa [mc_cb] using hp) (fun z => absurd z (by omega)) rfl (nI_add _ _)
  | x :: sa, [], k, n, h1, h2, h3, h4, hn, hp => by
    obtain ⟨n, rfl⟩ : ∃ n', n = n' + 1 := ⟨n - 1, by omega⟩
    rw [List.length_nil] at h2
    rw [List.length_cons] at h1
    refine pk_le B (one + k) (fun z => absurd z (by omega)) (fun _ => ?_) rfl (nI_add _ _)
    exact pk_le B (other + k) (fun _ => by simpa [mc_cb] using hp) (fun z => absurd z (by omega)) rfl (nI_add _ _)
  | x :: sa, y :: sb, k, n, h1, h2, h3, h4, hn, hp => by
    obtain ⟨n, rfl⟩ : ∃ n', n = n' + 1 := ⟨n - 1, by omega⟩
    rw [List.length_cons] at h1 h2 hn
    refine pk_le B (one + k) (fun z => absurd z (by omega)) (fun _ => ?_) rfl (nI_add _ _)
    refine pk_le B (other + k) (fun z => absurd z (by omega)) (fun _ => ?_) rfl (nI_add _ _)
    have e1 : a_built (nI one + nI k).toNatClampNeg = x := by rw [nI_add, nI_clamp (by omega)]; exact h3.1
    have e2 : a_built (nI other + nI k).toNatClampNeg = y := by rw [nI_add, nI_clamp (by omega)]; exact h4.1
    have i1 : vp_in (nI one + nI k) 2048 := by rw [nI_add]; exact vp_in_nI (by omega) (by omega)
    have i2 : vp_in (nI other + nI k) 2048 := by rw [nI_add]; exact vp_in_nI (by omega) (by omega)
    refine ⟨i1, i2, ?_⟩
    rw [e1, e2]
    by_cases h : x = y
    · subst h
      rw [mc_cb_eq] at hp
      exact br_t rfl (nm_r (nI_1 k) (xc_l hB sa sb (k + 1) n (by omega) (by omega) h3.2 h4.2 (by omega) hp))
    · rw [mc_cb_ne h] at hp
      refine br_f h ⟨i1, tk_keyX x ⟨i2, tk_keyX y ?_⟩⟩
      by_cases hl : tk_key x < tk_key y
      · rw [if_pos (decide_eq_true hl)] at hp
        exact br_f (Int64.not_le.mpr hl) hp
      · rw [if_neg (by simpa using Int64.not_lt.mp hl)] at hp
        exact br_t (Int64.not_lt.mp hl) hp
theorem xc_ord {post : SX → Prop} {s : List Int64} (st B : Nat) (hs : tm_w s 1) (h30 : s.length ≤ 30) (hh : hd_h a_built st s) (hB : B = st + s.length) (hl : B ≤ 2048) (H : ∀ ss zs zb, hd_h zb st (mc_or s) → hd_o a_built zb st s.length → post (f_drafted, f_faultPlace, f_reportedSteps, f_resultSize, ss, f_waitingSize, nI B, f_unfinished, f_taken, f_keptSize, f_stacked, f_ranked, f_surveyed, a_draft, a_result, a_lefts, a_leftSize, a_ways, a_rights, a_rightSize, zs, a_waiting, zb, a_unfinishedStart, a_unfinishedLacks, a_kept, a_matchStart, a_matchEnd, a_joint, a_unified, a_oneStack, a_otherStack, a_nestedAt, a_nestedEnd, a_rank, a_pairCount, a_firstOpen)) : wpX_orderArguments post (f_drafted, f_faultPlace, f_reportedSteps, f_resultSize, f_sheetSize, f_waitingSize, nI B, f_unfinished, f_taken, f_keptSize, f_stacked, f_ranked, f_surveyed, a_draft, a_result, a_lefts, a_leftSize, a_ways, a_rights, a_rightSize, a_sheet, a_waiting, a_built, a_unfinishedStart, a_unfinishedLacks, a_kept, a_matchStart, a_matchEnd, a_joint, a_unified, a_oneStack, a_otherStack, a_nestedAt, a_nestedEnd, a_rank, a_pairCount, a_firstOpen) (nI st) := by
  obtain ⟨t, r, rfl, hr⟩ := tm_w_pos hs
  rw [List.length_cons] at hB h30
  have et : a_built (nI st).toNatClampNeg = t := by rw [nI_clamp (by omega)]; exact hh.1
  refine ⟨vp_in_nI (by omega) (by omega), ?_⟩
  rw [et]
  by_cases h9 : t = 9
  · subst h9
    refine br_t rfl ?_
    rw [ru_ar9] at hr
    obtain ⟨A, Bb, r', e, hA, hBb, hr'⟩ := tm_2 (m := 0) hr
    have := tm_w_0 hr'
    subst this
    rw [List.append_nil] at e
    subst e
    rw [List.length_append] at hB h30
    have hhr : hd_h a_built (st + 1) (A ++ Bb) := hh.2
    rw [nI_1]
    refine xe_built (st + 1) B (st + 1 + A.length) hA hhr (by omega) rfl hl ?_
    refine ⟨Bb.length + 1, ?_⟩
    rw [← nI_0]
    refine xc_l (B := B) hl Bb (A ++ Bb) 0 _ (by omega) (by rw [List.length_append]; omega) (hd_app.mp hhr).2 hhr (by omega) ?_
    rw [mc_cb_app Bb A Bb 1 hA hBb]
    rw [mc_or_AB hA hBb] at H
    by_cases hc : mc_cb Bb A = true
    · rw [if_pos hc] at H ⊢
      refine br_f (by decide) ?_
      refine xx_built (r := []) st B hA hBb (by rw [List.append_nil]; exact hhr) (by rw [List.length_nil]; omega) hl (by omega) ?_
      intro zs zb h1 h2
      refine H _ zs zb ⟨?_, h1⟩ ?_
      · rw [h2 st (Or.inl (by omega))]; exact hh.1
      · intro j hj
        rw [List.length_cons, List.length_append] at hj
        exact h2 j (by rw [List.length_append]; omega)
    · rw [if_neg hc] at H ⊢
      exact br_t (by decide) (H _ _ _ hh (fun j _ => rfl))
  · refine br_f h9 (H _ _ _ ?_ (fun j _ => rfl))
    rw [mc_or_n h9]
    exact hh
theorem xc_ari {post : Int32 → Prop} {s : List Int64} (st B : Nat) (hs : s ≠ []) (hP : ∀ x, x ∈ s → tk_t x) (hh : hd_h a_built st s) (hB : B = st + s.length) (hl : B ≤ 2048) (h1 : ∀ v, mc_ar s = some v → post 1) (h0 : mc_ar s = none → post 0) : wpX_isArithmetic post (f_drafted, f_faultPlace, f_reportedSteps, f_resultSize, f_sheetSize, f_waitingSize, nI B, f_unfinished, f_taken, f_keptSize, f_stacked, f_ranked, f_surveyed, a_draft, a_result, a_lefts, a_leftSize, a_ways, a_rights, a_rightSize, a_sheet, a_waiting, a_built, a_unfinishedStart, a_unfinishedLacks, a_kept, a_matchStart, a_matchEnd, a_joint, a_unified, a_oneStack, a_otherStack, a_nestedAt, a_nestedEnd, a_rank, a_pairCount, a_firstOpen) (nI st) := by
  cases s with
  | nil => exact absurd rfl hs
  | cons t r =>
    rw [List.length_cons] at hB
    have et : a_built (nI st).toNatClampNeg = t := by rw [nI_clamp (by omega)]; exact hh.1
    have hin : vp_in (nI st) 2048 := vp_in_nI (by omega) (by omega)
    have key : (t = 10 ∨ t = 11) → wX_isArithmetic_26 post (nI st) f_drafted f_faultPlace f_reportedSteps f_resultSize f_sheetSize f_waitingSize (nI B) f_unfinished f_taken f_keptSize f_stacked f_ranked f_surveyed a_draft a_result a_lefts a_leftSize a_ways a_rights a_rightSize a_sheet a_waiting a_built a_unfinishedStart a_unfinishedLacks a_kept a_matchStart a_matchEnd a_joint a_unified a_oneStack a_otherStack a_nestedAt a_nestedEnd a_rank a_pairCount a_firstOpen := by
      intro ht
      have e3 : nI st + 3 = nI (st + 3) := nI_add st 3
      have e1 : nI st + 1 = nI (st + 1) := nI_1 st
      have e2 : nI st + 2 = nI (st + 2) := nI_add st 2
      refine pk_eq B (st + 3) (fun hb => ?_) (fun hb => ?_) rfl e3
      · have hr : r.length = 2 := by omega
        match r, hr with
        | [x, y], _ =>
          have ex : a_built (nI st + 1).toNatClampNeg = x := by rw [e1, nI_clamp (by omega)]; exact hh.2.1
          have ey : a_built (nI st + 2).toNatClampNeg = y := by rw [e2, nI_clamp (by omega)]; exact hh.2.2.1
          have hx := tk_N_X (hP x (by simp))
          have hy := tk_N_X (hP y (by simp))
          refine ⟨by rw [e1]; exact vp_in_nI (by omega) (by omega), ?_⟩
          rw [ex]
          by_cases nx : tk_N x
          · refine br_t (hx.mpr nx) ⟨by rw [e2]; exact vp_in_nI (by omega) (by omega), ?_⟩
            rw [ey]
            by_cases ny : tk_N y
            · exact br_t (hy.mpr ny) (h1 _ (by rw [mc_ar, if_pos ⟨ht, nx, ny⟩]))
            · exact br_f (fun z => ny (hy.mp z)) (h0 (by rw [mc_ar, if_neg (fun z => ny z.2.2)]))
          · exact br_f (fun z => nx (hx.mp z)) (h0 (by rw [mc_ar, if_neg (fun z => nx z.2.1)]))
      · refine h0 ?_
        unfold mc_ar
        split
        · rename_i o x y e
          injection e with e1 e2
          rw [e2] at hB
          simp at hB
          omega
        · rfl
    refine ⟨hin, ?_⟩
    rw [et]
    by_cases h10 : t = 10
    · exact br_t h10 (key (Or.inl h10))
    · refine br_f h10 ⟨hin, ?_⟩
      by_cases h11 : t = 11
      · exact br_t h11 (key (Or.inr h11))
      · refine br_f h11 (h0 ?_)
        unfold mc_ar
        split
        · rename_i o x y e
          injection e with e1 e2
          rw [if_neg]
          rw [← e1]
          rintro ⟨z | z, _⟩
          · exact h10 z
          · exact h11 z
        · rfl
theorem xc_cal {post : SX → Prop} {s : List Int64} {v : Int64} (st : Nat) (hh : hd_h a_built st s) (hl : st + 3 ≤ 2048) (hv : mc_ar s = some v) (H : post (f_drafted, f_faultPlace, f_reportedSteps, f_resultSize, f_sheetSize, f_waitingSize, nI (st + 1), f_unfinished, f_taken, f_keptSize, f_stacked, f_ranked, f_surveyed, a_draft, a_result, a_lefts, a_leftSize, a_ways, a_rights, a_rightSize, a_sheet, a_waiting, vp_updL a_built st v, a_unfinishedStart, a_unfinishedLacks, a_kept, a_matchStart, a_matchEnd, a_joint, a_unified, a_oneStack, a_otherStack, a_nestedAt, a_nestedEnd, a_rank, a_pairCount, a_firstOpen)) : wpX_calculate post (f_drafted, f_faultPlace, f_reportedSteps, f_resultSize, f_sheetSize, f_waitingSize, f_builtSize, f_unfinished, f_taken, f_keptSize, f_stacked, f_ranked, f_surveyed, a_draft, a_result, a_lefts, a_leftSize, a_ways, a_rights, a_rightSize, a_sheet, a_waiting, a_built, a_unfinishedStart, a_unfinishedLacks, a_kept, a_matchStart, a_matchEnd, a_joint, a_unified, a_oneStack, a_otherStack, a_nestedAt, a_nestedEnd, a_rank, a_pairCount, a_firstOpen) (nI st) := by
  unfold mc_ar at hv
  split at hv
  · rename_i o x y
    split at hv
    · rename_i hc
      cases hv
      have e1 : nI st + 1 = nI (st + 1) := nI_1 st
      have e2 : nI st + 2 = nI (st + 2) := nI_add st 2
      have eo : a_built (nI st).toNatClampNeg = o := by rw [nI_clamp (by omega)]; exact hh.1
      have ex : a_built (nI st + 1).toNatClampNeg = x := by rw [e1, nI_clamp (by omega)]; exact hh.2.1
      have ey : a_built (nI st + 2).toNatClampNeg = y := by rw [e2, nI_clamp (by omega)]; exact hh.2.2.1
      have hin : vp_in (nI st) 2048 := vp_in_nI (by omega) (by omega)
      refine ⟨by rw [e1]; exact vp_in_nI (by omega) (by omega), nm_r (e' := x.toInt32) (by rw [ex]) ⟨by rw [e2]; exact vp_in_nI (by omega) (by omega), nm_r (e' := y.toInt32) (by rw [ey]) ⟨hin, ?_⟩⟩⟩
      rw [eo]
      have fin : ∀ z : Int32, post (f_drafted, f_faultPlace, f_reportedSteps, f_resultSize, f_sheetSize, f_waitingSize, nI (st + 1), f_unfinished, f_taken, f_keptSize, f_stacked, f_ranked, f_surveyed, a_draft, a_result, a_lefts, a_leftSize, a_ways, a_rights, a_rightSize, a_sheet, a_waiting, vp_updL a_built st (4294967296 + (z.toInt64 &&& 4294967295)), a_unfinishedStart, a_unfinishedLacks, a_kept, a_matchStart, a_matchEnd, a_joint, a_unified, a_oneStack, a_otherStack, a_nestedAt, a_nestedEnd, a_rank, a_pairCount, a_firstOpen) → wX_calculate_42 post (nI st) z f_drafted f_faultPlace f_reportedSteps f_resultSize f_sheetSize f_waitingSize f_builtSize f_unfinished f_taken f_keptSize f_stacked f_ranked f_surveyed a_draft a_result a_lefts a_leftSize a_ways a_rights a_rightSize a_sheet a_waiting a_built a_unfinishedStart a_unfinishedLacks a_kept a_matchStart a_matchEnd a_joint a_unified a_oneStack a_otherStack a_nestedAt a_nestedEnd a_rank a_pairCount a_firstOpen := fun z hz =>
        ⟨hin, nm_r (e' := vp_updL a_built st (4294967296 + (z.toInt64 &&& 4294967295))) (by rw [nI_clamp (by omega)]) (nm_r e1 hz)⟩
      by_cases ho : o = 10
      · rw [if_pos ho] at H
        exact br_t ho (fin _ H)
      · rw [if_neg ho] at H
        exact br_f ho (fin _ H)
    · exact absurd hv (by simp)
  · exact absurd hv (by simp)
theorem xc_read {post : SX → Prop} {c : Int64} {W : List Int64} (B k w : Nat) (hw : w = W.length + 1) (hW : hd_h a_waiting 0 (c :: W).reverse) (hl : w ≤ 2048) (hB : B < 2048) (hk : k < 2048) (H : post (f_drafted, f_faultPlace, f_reportedSteps, f_resultSize, f_sheetSize, nI W.length, nI (B + 1), nI (k + 1), f_taken, f_keptSize, f_stacked, f_ranked, f_surveyed, a_draft, a_result, a_lefts, a_leftSize, a_ways, a_rights, a_rightSize, a_sheet, a_waiting, vp_updL a_built B c, upd a_unfinishedStart k (nI B), upd a_unfinishedLacks k (nI (tm_ar c)), a_kept, a_matchStart, a_matchEnd, a_joint, a_unified, a_oneStack, a_otherStack, a_nestedAt, a_nestedEnd, a_rank, a_pairCount, a_firstOpen)) : wpX_readToken post (f_drafted, f_faultPlace, f_reportedSteps, f_resultSize, f_sheetSize, nI w, nI B, nI k, f_taken, f_keptSize, f_stacked, f_ranked, f_surveyed, a_draft, a_result, a_lefts, a_leftSize, a_ways, a_rights, a_rightSize, a_sheet, a_waiting, a_built, a_unfinishedStart, a_unfinishedLacks, a_kept, a_matchStart, a_matchEnd, a_joint, a_unified, a_oneStack, a_otherStack, a_nestedAt, a_nestedEnd, a_rank, a_pairCount, a_firstOpen) := by
  subst hw
  refine pk_eq (W.length + 1) 0 (fun z => absurd z (by omega)) (fun _ => ?_)
  refine pk_le 2048 B (fun z => absurd z (by omega)) (fun _ => ?_)
  refine pk_lt k 2048 (fun _ => ?_) (fun z => absurd z (by omega))
  refine nm_r (nI_pred _) ⟨vp_in_nI (by omega) (by omega), nm_r (e' := c) ?_ ⟨vp_in_nI (by omega) (by omega), ?_⟩⟩
  · rw [nI_clamp (by omega)]
    rw [List.reverse_cons] at hW
    have := (hd_app.mp hW).2.1
    rwa [Nat.zero_add, List.length_reverse] at this
  · refine nm_r (e' := upd a_unfinishedStart k (nI B)) (by rw [nI_clamp (by omega)]) (tk_arX c ⟨vp_in_nI (by omega) (by omega), ?_⟩)
    refine nm_r (e' := upd a_unfinishedLacks k (nI (tm_ar c))) (by rw [nI_clamp (by omega)]) (nm_r (nI_1 k) ⟨vp_in_nI (by omega) (by omega), ?_⟩)
    exact nm_r (e' := vp_updL a_built B c) (by rw [nI_clamp (by omega)]) (nm_r (nI_1 B) H)
theorem xc_fin0 {post : SX → Prop} (H : post (f_drafted, f_faultPlace, f_reportedSteps, f_resultSize, f_sheetSize, f_waitingSize, f_builtSize, nI 0, f_taken, f_keptSize, f_stacked, f_ranked, f_surveyed, a_draft, a_result, a_lefts, a_leftSize, a_ways, a_rights, a_rightSize, a_sheet, a_waiting, a_built, a_unfinishedStart, a_unfinishedLacks, a_kept, a_matchStart, a_matchEnd, a_joint, a_unified, a_oneStack, a_otherStack, a_nestedAt, a_nestedEnd, a_rank, a_pairCount, a_firstOpen)) : wpX_finishTerm post (f_drafted, f_faultPlace, f_reportedSteps, f_resultSize, f_sheetSize, f_waitingSize, f_builtSize, nI 1, f_taken, f_keptSize, f_stacked, f_ranked, f_surveyed, a_draft, a_result, a_lefts, a_leftSize, a_ways, a_rights, a_rightSize, a_sheet, a_waiting, a_built, a_unfinishedStart, a_unfinishedLacks, a_kept, a_matchStart, a_matchEnd, a_joint, a_unified, a_oneStack, a_otherStack, a_nestedAt, a_nestedEnd, a_rank, a_pairCount, a_firstOpen) :=
  nm_r (e' := nI 0) (nI_pred 0) (br_t (by decide) H)
theorem xc_fin1 {post : SX → Prop} {k j : Nat} (hk : k < 2047) (hj : a_unfinishedLacks k = nI (j + 1)) (H : post (f_drafted, f_faultPlace, f_reportedSteps, f_resultSize, f_sheetSize, f_waitingSize, f_builtSize, nI (k + 1), f_taken, f_keptSize, f_stacked, f_ranked, f_surveyed, a_draft, a_result, a_lefts, a_leftSize, a_ways, a_rights, a_rightSize, a_sheet, a_waiting, a_built, a_unfinishedStart, upd a_unfinishedLacks k (nI j), a_kept, a_matchStart, a_matchEnd, a_joint, a_unified, a_oneStack, a_otherStack, a_nestedAt, a_nestedEnd, a_rank, a_pairCount, a_firstOpen)) : wpX_finishTerm post (f_drafted, f_faultPlace, f_reportedSteps, f_resultSize, f_sheetSize, f_waitingSize, f_builtSize, nI (k + 2), f_taken, f_keptSize, f_stacked, f_ranked, f_surveyed, a_draft, a_result, a_lefts, a_leftSize, a_ways, a_rights, a_rightSize, a_sheet, a_waiting, a_built, a_unfinishedStart, a_unfinishedLacks, a_kept, a_matchStart, a_matchEnd, a_joint, a_unified, a_oneStack, a_otherStack, a_nestedAt, a_nestedEnd, a_rank, a_pairCount, a_firstOpen) := by
  refine nm_r (e' := nI (k + 1)) (nI_pred (k + 1)) (pk_le (k + 1) 0 (fun z => absurd z (by omega)) (fun _ => ?_))
  have e : nI (k + 1) - 1 = nI k := nI_pred k
  have hin : vp_in (nI (k + 1) - 1) 2048 := by rw [e]; exact vp_in_nI (by omega) (by omega)
  refine ⟨hin, hin, nm_r (e' := upd a_unfinishedLacks k (nI j)) ?_ H⟩
  rw [e, nI_clamp (by omega), hj, nI_pred]
theorem xc_line_l {post : SX → Prop} {q : List Int64} (hq : hd_h a_sheet 0 q) (hq31 : q.length ≤ 31) (W : List Int64) (hl : q.length + W.length ≤ 2048) (H : ∀ z, hd_h z 0 (q ++ W).reverse → post (f_drafted, f_faultPlace, f_reportedSteps, f_resultSize, f_sheetSize, nI (q.length + W.length), f_builtSize, f_unfinished, f_taken, f_keptSize, f_stacked, f_ranked, f_surveyed, a_draft, a_result, a_lefts, a_leftSize, a_ways, a_rights, a_rightSize, a_sheet, z, a_built, a_unfinishedStart, a_unfinishedLacks, a_kept, a_matchStart, a_matchEnd, a_joint, a_unified, a_oneStack, a_otherStack, a_nestedAt, a_nestedEnd, a_rank, a_pairCount, a_firstOpen)) : ∀ (p q2 : List Int64) (zw : Nat → Int64) (n w : Nat) (x1 : Int32), q = p.reverse ++ q2 → w = q2.length + W.length → x1 = nI p.length + (-1) → hd_h zw 0 (q2 ++ W).reverse → p.length < n → wX_putSheetInLine_7 post f_drafted f_faultPlace f_reportedSteps f_resultSize f_sheetSize f_builtSize f_unfinished f_taken f_keptSize f_stacked f_ranked f_surveyed n x1 (nI w) a_draft a_result a_lefts a_leftSize a_ways a_rights a_rightSize a_sheet zw a_built a_unfinishedStart a_unfinishedLacks a_kept a_matchStart a_matchEnd a_joint a_unified a_oneStack a_otherStack a_nestedAt a_nestedEnd a_rank a_pairCount a_firstOpen
  | [], q2, zw, n, w, x1, e, ew, hx, hz, hn => by
    obtain ⟨n, rfl⟩ : ∃ n', n = n' + 1 := ⟨n - 1, by omega⟩
    subst hx
    rw [List.reverse_nil, List.nil_append] at e
    subst e
    refine br_t (by decide) ?_
    rw [ew]
    exact H zw hz
  | t :: p, q2, zw, n, w, x1, e, ew, hx, hz, hn => by
    obtain ⟨n, rfl⟩ : ∃ n', n = n' + 1 := ⟨n - 1, by omega⟩
    rw [List.length_cons] at hn hx
    rw [pk_m1] at hx
    subst hx
    rw [List.reverse_cons, List.append_assoc] at e
    have hlen : q.length = p.length + (q2.length + 1) := by rw [e]; simp
    refine br_f (nI_pos (by omega)) ?_
    refine pk_le 2048 w (fun z => absurd z (by omega)) (fun _ => ⟨vp_in_nI (by omega) (by omega), vp_in_nI (by omega) (by omega), ?_⟩)
    have et : a_sheet p.length = t := by
      have hh := hq
      rw [e] at hh
      have := (hd_app.mp hh).2.1
      rwa [Nat.zero_add, List.length_reverse] at this
    refine nm_r (e' := vp_updL zw w t) (by rw [nI_clamp (by omega), nI_clamp (by omega), et]) (nm_r (nI_1 w) ?_)
    refine nm_e ?_
    refine xc_line_l hq hq31 W hl H p (t :: q2) _ n (w + 1) _ e (by rw [List.length_cons]; omega) rfl ?_ (by omega)
    rw [List.cons_append, List.reverse_cons]
    have := hd_snocL (x := t) hz
    rwa [Nat.zero_add, List.length_reverse, List.length_append, ← ew] at this
theorem xc_line {post : SX → Prop} {q W : List Int64} (k w : Nat) (hk : k = q.length) (hww : w = W.length) (hq : hd_h a_sheet 0 q) (hq31 : q.length ≤ 31) (hW : hd_h a_waiting 0 W.reverse) (hl : q.length + W.length ≤ 2048) (H : ∀ z, hd_h z 0 (q ++ W).reverse → post (f_drafted, f_faultPlace, f_reportedSteps, f_resultSize, nI k, nI (q.length + W.length), f_builtSize, f_unfinished, f_taken, f_keptSize, f_stacked, f_ranked, f_surveyed, a_draft, a_result, a_lefts, a_leftSize, a_ways, a_rights, a_rightSize, a_sheet, z, a_built, a_unfinishedStart, a_unfinishedLacks, a_kept, a_matchStart, a_matchEnd, a_joint, a_unified, a_oneStack, a_otherStack, a_nestedAt, a_nestedEnd, a_rank, a_pairCount, a_firstOpen)) : wpX_putSheetInLine post (f_drafted, f_faultPlace, f_reportedSteps, f_resultSize, nI k, nI w, f_builtSize, f_unfinished, f_taken, f_keptSize, f_stacked, f_ranked, f_surveyed, a_draft, a_result, a_lefts, a_leftSize, a_ways, a_rights, a_rightSize, a_sheet, a_waiting, a_built, a_unfinishedStart, a_unfinishedLacks, a_kept, a_matchStart, a_matchEnd, a_joint, a_unified, a_oneStack, a_otherStack, a_nestedAt, a_nestedEnd, a_rank, a_pairCount, a_firstOpen) := by
  subst hk hww
  refine nm_r (Int32.sub_eq_add_neg _ _) ⟨q.length + 1, ?_⟩
  refine xc_line_l hq hq31 W hl H q.reverse [] a_waiting _ W.length _ (by rw [List.reverse_reverse, List.append_nil]) (by simp) (by rw [List.length_reverse]) (by rw [List.nil_append]; exact hW) (by rw [List.length_reverse]; omega)
end
