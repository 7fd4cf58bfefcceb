/-! the component: a rule is laid down, once for each way -/
section
variable {f_drafted f_faultPlace f_reportedSteps f_resultSize f_sheetSize f_waitingSize f_builtSize f_unfinished f_taken f_keptSize f_stacked f_ranked f_surveyed : Int32} {a_draft a_result a_lefts a_rights a_sheet a_waiting a_built a_kept a_joint : Nat → Int64} {a_leftSize a_ways a_rightSize a_unfinishedStart a_unfinishedLacks a_matchStart a_matchEnd a_unified a_oneStack a_otherStack a_nestedAt a_nestedEnd a_rank a_pairCount a_firstOpen : Nat → Int32}
theorem xs_51 {post : SX → Prop} {o : List Int64} {fr : Nat} {le0 : Nat → Int64} (ho : o.length ≤ 29) (how : ∃ m, tm_w o m) (hfr : fr + o.length ≤ 3840) (hD : hd_h a_draft 0 o) (w : Nat) (hw : w < 65536) (H : ∀ ss zs le, hd_h le fr (ru_wy o w).1 → hd_o le0 le fr o.length → post (f_drafted, f_faultPlace, f_reportedSteps, f_resultSize, ss, f_waitingSize, f_builtSize, f_unfinished, f_taken, f_keptSize, f_stacked, f_ranked, f_surveyed, a_draft, a_result, le, a_leftSize, a_ways, a_rights, a_rightSize, zs, a_waiting, a_built, a_unfinishedStart, a_unfinishedLacks, a_kept, a_matchStart, a_matchEnd, a_joint, a_unified, a_oneStack, a_otherStack, a_nestedAt, a_nestedEnd, a_rank, a_pairCount, a_firstOpen)) : ∀ (p l : List Int64) (le : Nat → Int64) (ss : Int32) (zs : Nat → Int64) (n b : Nat) (x6 : Int32), o = p.reverse ++ l → b = (ru_wy l w).2 → x6 = nI p.length + (-1) → hd_h le fr (p.reverse ++ (ru_wy l w).1) → hd_o le0 le fr o.length → p.length < n → wX_storeWay_51 post (nI o.length) (nI fr) n (nI b) x6 f_drafted f_faultPlace f_reportedSteps f_resultSize ss f_waitingSize f_builtSize f_unfinished f_taken f_keptSize f_stacked f_ranked f_surveyed a_draft a_result le a_leftSize a_ways a_rights a_rightSize zs a_waiting a_built a_unfinishedStart a_unfinishedLacks a_kept a_matchStart a_matchEnd a_joint a_unified a_oneStack a_otherStack a_nestedAt a_nestedEnd a_rank a_pairCount a_firstOpen
  | [], l, le, ss, zs, n, b, x6, e, hb, hx, hh, hoo, hn => by
    obtain ⟨n, rfl⟩ : ∃ n', n = n' + 1 := ⟨n - 1, by omega⟩
    subst hx
    rw [List.reverse_nil, List.nil_append] at e hh
    subst e
    exact br_t (by decide) (H ss zs le hh hoo)
  | t :: p, l, le, ss, zs, n, b, x6, e, hb, hx, hh, hoo, hn => by
    obtain ⟨n, rfl⟩ : ∃ n', n = n' + 1 := ⟨n - 1, by omega⟩
    rw [List.length_cons] at hn hx
    rw [pk_m1] at hx
    subst hx
    rw [List.reverse_cons, List.append_assoc] at e hh
    have hlen : o.length = p.length + (l.length + 1) := by rw [e]; simp
    have hin : vp_in (nI p.length) 30 := vp_in_nI (by omega) (by omega)
    have ed : a_draft (nI p.length).toNatClampNeg = t := by
      rw [nI_clamp (by omega)]
      have hh2 := hD
      rw [e] at hh2
      have := (hd_app.mp hh2).2.1
      rwa [Nat.zero_add, List.length_reverse] at this
    have hbb : b = w / 2 ^ ru_c9 l := by rw [hb, ru_wy_bits]
    have hb16 : b < 65536 := by rw [hbb]; exact Nat.lt_of_le_of_lt (Nat.div_le_self _ _) hw
    refine br_f (nI_pos (by omega)) ⟨hin, ?_⟩
    rw [ed]
    by_cases h9 : t = 9
    · subst h9
      refine br_t rfl ?_
      have eb1 : nI b &&& 1 = nI (b % 2) := pk_andN (n := b) (by omega) 1 rfl
      have esh : nI b >>> ((1 : Int32) &&& 31) = nI (b / 2) := pk_shrN (by omega) _ 1 (by decide)
      have hb2 : b / 2 = (ru_wy (9 :: l) w).2 := by rw [ru_wy_9, hb]
      refine pk_eq (b % 2) 1 (fun h1 => ?_) (fun h1 => ?_) eb1 rfl
      · have how2 := how
        obtain ⟨m, hm⟩ := how2
        rw [e] at hm
        obtain ⟨m', hm'⟩ := tm_w_suf _ _ _ hm
        obtain ⟨k, rfl, hm2⟩ := tm_w_ne (show tm_w (9 :: l) m' from hm')
        rw [ru_ar9] at hm2
        obtain ⟨A, B, q, e2, hA, hB, _⟩ := tm_2 (ru_wy_w l w _ hm2)
        have hsw : tm_sw (ru_wy l w).1 = B ++ (A ++ q) := by rw [e2]; exact tm_sw_eq hA hB
        have hlw := ru_wy_len l w
        rw [e2, List.length_append, List.length_append] at hlw
        have hh3 : hd_h le (fr + p.length + 1) (A ++ (B ++ q)) := by
          have := (hd_app.mp hh).2.2
          rw [List.length_reverse] at this
          rw [← e2]
          exact this
        rw [nI_add, nI_add]
        refine xx_lefts (r := q) (fr + p.length) (fr + o.length) hA hB hh3 (by omega) hfr (by omega) (fun zs' le' g1 g2 => ?_)
        refine nm_r esh (nm_e ?_)
        refine xs_51 ho how hfr hD w hw H p (9 :: l) le' _ zs' n (b / 2) _ e hb2 rfl ?_ ?_ (by omega)
        · rw [ru_wy_9, if_pos (by rw [← hb]; exact h1), hsw]
          refine hd_app.mpr ⟨hd_keepl g2 (hd_app.mp hh).1 (by rw [List.length_reverse]; omega), ?_, ?_⟩
          · rw [List.length_reverse, g2 (fr + p.length) (Or.inl (by omega))]
            have := (hd_app.mp hh).2.1
            rw [List.length_reverse] at this
            exact this
          · rw [List.length_reverse, ← List.append_assoc]
            refine hd_app.mpr ⟨g1, ?_⟩
            have h5 : hd_h le (fr + p.length + 1 + (B ++ A).length) q := by
              have := (hd_app.mp (hd_app.mp hh3).2).2
              rw [List.length_append, show fr + p.length + 1 + (B.length + A.length) = fr + p.length + 1 + A.length + B.length by omega]
              exact this
            exact hd_keepr g2 h5 (by omega)
        · intro j hj
          rw [g2 j (by rw [List.length_append]; omega)]
          exact hoo j hj
      · refine nm_r esh (nm_e ?_)
        refine xs_51 ho how hfr hD w hw H p (9 :: l) le ss zs n (b / 2) _ e hb2 rfl ?_ hoo (by omega)
        rw [ru_wy_9, if_neg (by rw [← hb]; exact h1)]
        exact hh
    · refine br_f h9 (nm_e ?_)
      have hwn := ru_wy_n (l := l) (b := w) h9
      refine xs_51 ho how hfr hD w hw H p (t :: l) le ss zs n b _ e (by rw [hwn]; exact hb) rfl ?_ hoo (by omega)
      rw [hwn]
      exact hh
theorem xs_14 {post : SX → Prop} {x2 : Int32} {N fr : Nat} {le0 : Nat → Int64} (hN : N ≤ 30) (hfr : fr + N ≤ 3840) : ∀ (l q : List Int64) (le : Nat → Int64) (n k : Nat), k = q.length → k + l.length = N → hd_h a_draft k l → hd_h le fr q → hd_o le0 le fr N → l.length < n → (∀ le', hd_h le' fr (q ++ l) → hd_o le0 le' fr N → ∀ y, y = nI N - 1 → ∃ n51, wX_storeWay_51 post (nI N) (nI fr) n51 x2 y f_drafted f_faultPlace f_reportedSteps f_resultSize f_sheetSize f_waitingSize f_builtSize f_unfinished f_taken f_keptSize f_stacked f_ranked f_surveyed a_draft a_result le' a_leftSize a_ways a_rights a_rightSize a_sheet a_waiting a_built a_unfinishedStart a_unfinishedLacks a_kept a_matchStart a_matchEnd a_joint a_unified a_oneStack a_otherStack a_nestedAt a_nestedEnd a_rank a_pairCount a_firstOpen) → wX_storeWay_14 post x2 (nI N) (nI fr) f_drafted f_faultPlace f_reportedSteps f_resultSize f_sheetSize f_waitingSize f_builtSize f_unfinished f_taken f_keptSize f_stacked f_ranked f_surveyed n (nI k) a_draft a_result le a_leftSize a_ways a_rights a_rightSize a_sheet a_waiting a_built a_unfinishedStart a_unfinishedLacks a_kept a_matchStart a_matchEnd a_joint a_unified a_oneStack a_otherStack a_nestedAt a_nestedEnd a_rank a_pairCount a_firstOpen
  | [], q, le, n, k, hk, h1, h2, h3, ho, hn, H => by
    obtain ⟨n, rfl⟩ : ∃ n', n = n' + 1 := ⟨n - 1, by omega⟩
    rw [List.length_nil] at h1
    rw [List.append_nil] at H
    exact pk_le N k (fun _ => H le h3 ho) (fun z => absurd z (by omega))
  | t :: l, q, le, n, k, hk, h1, h2, h3, ho, hn, H => by
    obtain ⟨n, rfl⟩ : ∃ n', n = n' + 1 := ⟨n - 1, by omega⟩
    rw [List.length_cons] at h1 hn
    have ei : nI fr + nI k = nI (fr + k) := nI_add _ _
    have hin2 : vp_in (nI fr + nI k) 3840 := by rw [ei]; exact vp_in_nI (by omega) (by omega)
    have hin : vp_in (nI k) 30 := vp_in_nI (by omega) (by omega)
    have e3 : q ++ t :: l = (q ++ [t]) ++ l := by rw [List.append_assoc]; rfl
    rw [e3] at H
    refine pk_le N k (fun z => absurd z (by omega)) (fun _ => ⟨hin, hin2, nm_r (e' := vp_updL le (fr + k) t) (by rw [ei, nI_clamp (by omega), nI_clamp (by omega), h2.1]) (nm_r (nI_1 k) ?_)⟩)
    refine xs_14 hN hfr l (q ++ [t]) _ n (k + 1) (by simp; omega) (by omega) h2.2 ?_ ?_ (by omega) H
    · rw [hk]; exact hd_snocL h3
    · intro j hj
      rw [pk_uLn (by omega)]
      exact ho j hj
theorem xs_way {post : SX → Prop} {o : List Int64} (r w N : Nat) (hr : r < 8) (hw : w < 16) (hN : N = o.length) (ho : o.length ≤ 29) (how : ∃ m, tm_w o m) (hD : hd_h a_draft 0 o) (H : ∀ ss zs le, hd_h le ((r * 16 + w) * 30) (ru_wy o w).1 → hd_o a_lefts le ((r * 16 + w) * 30) o.length → post (f_drafted, f_faultPlace, f_reportedSteps, f_resultSize, ss, f_waitingSize, f_builtSize, f_unfinished, f_taken, f_keptSize, f_stacked, f_ranked, f_surveyed, a_draft, a_result, le, a_leftSize, a_ways, a_rights, a_rightSize, zs, a_waiting, a_built, a_unfinishedStart, a_unfinishedLacks, a_kept, a_matchStart, a_matchEnd, a_joint, a_unified, a_oneStack, a_otherStack, a_nestedAt, a_nestedEnd, a_rank, a_pairCount, a_firstOpen)) : wpX_storeWay post (f_drafted, f_faultPlace, f_reportedSteps, f_resultSize, f_sheetSize, f_waitingSize, f_builtSize, f_unfinished, f_taken, f_keptSize, f_stacked, f_ranked, f_surveyed, a_draft, a_result, a_lefts, a_leftSize, a_ways, a_rights, a_rightSize, a_sheet, a_waiting, a_built, a_unfinishedStart, a_unfinishedLacks, a_kept, a_matchStart, a_matchEnd, a_joint, a_unified, a_oneStack, a_otherStack, a_nestedAt, a_nestedEnd, a_rank, a_pairCount, a_firstOpen) (nI r) (nI w) (nI N) := by
  subst hN
  refine nm_r (e' := nI ((r * 16 + w) * 30)) ?_ ⟨o.length + 1, ?_⟩
  · rw [show (16 : Int32) = nI 16 from rfl, show (30 : Int32) = nI 30 from rfl, pk_mul, nI_add, pk_mul]
  · rw [← nI_0]
    refine xs_14 (le0 := a_lefts) (by omega) (by omega) o [] a_lefts _ 0 rfl (by omega) hD trivial (fun j _ => rfl) (by omega) (fun le' g1 g2 => nm_r (Int32.sub_eq_add_neg _ _) ⟨o.length + 1, ?_⟩)
    rw [List.nil_append] at g1
    have hg : hd_h le' ((r * 16 + w) * 30) (o.reverse.reverse ++ (ru_wy [] w).1) := by rw [List.reverse_reverse]; show hd_h _ _ (o ++ []); rw [List.append_nil]; exact g1
    exact xs_51 ho how (by omega) hD w (by omega) H o.reverse [] le' _ _ _ w _ (by rw [List.reverse_reverse, List.append_nil]) rfl (by rw [List.length_reverse]) hg g2 (by rw [List.length_reverse]; omega)
theorem xs_61 {post : SX → Prop} {o : List Int64} {r N K : Nat} {le0 : Nat → Int64} (hr : r < 8) (hN : N = o.length) (ho : o.length ≤ 29) (how : ∃ m, tm_w o m) (hD : hd_h a_draft 0 o) (hK : K ≤ 16) (H : ∀ ss zs le, (∀ w, w < K → hd_h le ((r * 16 + w) * 30) (ru_wy o w).1) → (∀ j, (j < r * 480 ∨ r * 480 + 480 ≤ j) → le j = le0 j) → ∃ n84, wX_storeRule_84 post (nI r) (nI N) (nI K) f_drafted f_faultPlace f_reportedSteps f_resultSize ss f_waitingSize f_builtSize f_unfinished f_taken f_keptSize f_stacked f_ranked f_surveyed n84 (nI N) a_draft a_result le a_leftSize a_ways a_rights a_rightSize zs a_waiting a_built a_unfinishedStart a_unfinishedLacks a_kept a_matchStart a_matchEnd a_joint a_unified a_oneStack a_otherStack a_nestedAt a_nestedEnd a_rank a_pairCount a_firstOpen) : ∀ (d k n : Nat) (ss : Int32) (zs le : Nat → Int64), k + d = K → (∀ w, w < k → hd_h le ((r * 16 + w) * 30) (ru_wy o w).1) → (∀ j, (j < r * 480 ∨ r * 480 + 480 ≤ j) → le j = le0 j) → d < n → wX_storeRule_61 post (nI r) (nI N) (nI K) n (nI k) f_drafted f_faultPlace f_reportedSteps f_resultSize ss f_waitingSize f_builtSize f_unfinished f_taken f_keptSize f_stacked f_ranked f_surveyed a_draft a_result le a_leftSize a_ways a_rights a_rightSize zs a_waiting a_built a_unfinishedStart a_unfinishedLacks a_kept a_matchStart a_matchEnd a_joint a_unified a_oneStack a_otherStack a_nestedAt a_nestedEnd a_rank a_pairCount a_firstOpen
  | 0, k, n, ss, zs, le, hk, h1, h2, hn => by
    obtain ⟨n, rfl⟩ : ∃ n', n = n' + 1 := ⟨n - 1, by omega⟩
    exact pk_le K k (fun _ => H ss zs le (fun w hw => h1 w (by omega)) h2) (fun z => absurd z (by omega))
  | d + 1, k, n, ss, zs, le, hk, h1, h2, hn => by
    obtain ⟨n, rfl⟩ : ∃ n', n = n' + 1 := ⟨n - 1, by omega⟩
    refine pk_le K k (fun z => absurd z (by omega)) (fun _ => ?_)
    refine xs_way r k N hr (by omega) hN ho how hD (fun ss' zs' le' g1 g2 => nm_r (nI_1 k) ?_)
    refine xs_61 hr hN ho how hD hK H d (k + 1) n ss' zs' le' (by omega) (fun w hw => ?_) (fun j hj => ?_) (by omega)
    · by_cases e : w = k
      · subst e; exact g1
      · have hl := ru_wy_len o w
        exact hd_keepl g2 (h1 w (by omega)) (by rw [hl]; omega)
    · rw [g2 j (by omega)]
      exact h2 j hj
theorem xs_84l {post : SX → Prop} {r N K Dn : Nat} {ri0 : Nat → Int64} {B : List Int64} (hr : r < 8) (hDn : Dn ≤ 30) (hB : N + B.length = Dn) (H : ∀ ri, hd_h ri (r * 30) B → hd_o ri0 ri (r * 30) B.length → post (nI Dn, f_faultPlace, f_reportedSteps, f_resultSize, f_sheetSize, f_waitingSize, f_builtSize, f_unfinished, f_taken, f_keptSize, f_stacked, f_ranked, f_surveyed, a_draft, a_result, a_lefts, upd a_leftSize r (nI N), upd a_ways r (nI K), ri, upd a_rightSize r (nI B.length), a_sheet, a_waiting, a_built, a_unfinishedStart, a_unfinishedLacks, a_kept, a_matchStart, a_matchEnd, a_joint, a_unified, a_oneStack, a_otherStack, a_nestedAt, a_nestedEnd, a_rank, a_pairCount, a_firstOpen)) : ∀ (l q : List Int64) (ri : Nat → Int64) (n k : Nat), B = q ++ l → k = N + q.length → hd_h a_draft k l → hd_h ri (r * 30) q → hd_o ri0 ri (r * 30) B.length → l.length < n → wX_storeRule_84 post (nI r) (nI N) (nI K) (nI Dn) f_faultPlace f_reportedSteps f_resultSize f_sheetSize f_waitingSize f_builtSize f_unfinished f_taken f_keptSize f_stacked f_ranked f_surveyed n (nI k) a_draft a_result a_lefts a_leftSize a_ways ri a_rightSize a_sheet a_waiting a_built a_unfinishedStart a_unfinishedLacks a_kept a_matchStart a_matchEnd a_joint a_unified a_oneStack a_otherStack a_nestedAt a_nestedEnd a_rank a_pairCount a_firstOpen
  | [], q, ri, n, k, e, hk, h2, h3, ho, hn => by
    obtain ⟨n, rfl⟩ : ∃ n', n = n' + 1 := ⟨n - 1, by omega⟩
    rw [List.append_nil] at e
    subst e
    have hin : vp_in (nI r) 8 := vp_in_nI hr (by omega)
    have er : (nI r).toNatClampNeg = r := nI_clamp (by omega)
    refine pk_le Dn k (fun _ => ?_) (fun z => absurd z (by omega))
    refine ⟨hin, nm_r (e' := upd a_leftSize r (nI N)) (by rw [er]) ⟨hin, nm_r (e' := upd a_rightSize r (nI B.length)) ?_ ⟨hin, nm_r (e' := upd a_ways r (nI K)) (by rw [er]) (H ri h3 ho)⟩⟩⟩
    rw [er, pk_sub (by omega), show Dn - N = B.length by omega]
  | t :: l, q, ri, n, k, e, hk, h2, h3, ho, hn => by
    obtain ⟨n, rfl⟩ : ∃ n', n = n' + 1 := ⟨n - 1, by omega⟩
    rw [List.length_cons] at hn
    have hlen : B.length = q.length + (l.length + 1) := by rw [e, List.length_append]; rfl
    have ei : nI r * 30 + nI k - nI N = nI (r * 30 + q.length) := by
      rw [show (30 : Int32) = nI 30 from rfl, pk_mul, nI_add, pk_sub (by omega), show r * 30 + k - N = r * 30 + q.length by omega]
    have hin2 : vp_in (nI r * 30 + nI k - nI N) 240 := by rw [ei]; exact vp_in_nI (by omega) (by omega)
    refine pk_le Dn k (fun z => absurd z (by omega)) (fun _ => ⟨vp_in_nI (by omega) (by omega), hin2, nm_r (e' := vp_updL ri (r * 30 + q.length) t) (by rw [ei, nI_clamp (by omega), nI_clamp (by omega), h2.1]) (nm_r (nI_1 k) ?_)⟩)
    refine xs_84l hr hDn hB H l (q ++ [t]) _ n (k + 1) (by rw [e, List.append_assoc]; rfl) (by simp; omega) h2.2 (hd_snocL h3) ?_ (by omega)
    intro j hj
    rw [pk_uLn (by omega)]
    exact ho j hj
theorem xs_18 {post : SX → Prop} {x1 : Int32} {N : Nat} (hN : N ≤ 30) : ∀ (l : List Int64) (k c n : Nat), k + l.length = N → hd_h a_draft k l → c + ru_c9 l ≤ 4 → l.length < n → (∃ n61, wX_storeRule_61 post x1 (nI N) (nI (2 ^ (c + ru_c9 l))) n61 0 f_drafted f_faultPlace f_reportedSteps f_resultSize f_sheetSize f_waitingSize f_builtSize f_unfinished f_taken f_keptSize f_stacked f_ranked f_surveyed a_draft a_result a_lefts a_leftSize a_ways a_rights a_rightSize a_sheet a_waiting a_built a_unfinishedStart a_unfinishedLacks a_kept a_matchStart a_matchEnd a_joint a_unified a_oneStack a_otherStack a_nestedAt a_nestedEnd a_rank a_pairCount a_firstOpen) → wX_storeRule_18 post x1 (nI N) f_drafted f_faultPlace f_reportedSteps f_resultSize f_sheetSize f_waitingSize f_builtSize f_unfinished f_taken f_keptSize f_stacked f_ranked f_surveyed a_draft a_result a_lefts a_leftSize a_ways a_rights a_rightSize a_sheet a_waiting a_built a_unfinishedStart a_unfinishedLacks a_kept a_matchStart a_matchEnd a_joint a_unified a_oneStack a_otherStack a_nestedAt a_nestedEnd a_rank a_pairCount a_firstOpen n (nI (2 ^ c)) (nI k)
  | [], k, c, n, h1, h2, h3, hn, H => by
    obtain ⟨n, rfl⟩ : ∃ n', n = n' + 1 := ⟨n - 1, by omega⟩
    rw [List.length_nil] at h1
    exact pk_le N k (fun _ => H) (fun z => absurd z (by omega))
  | t :: l, k, c, n, h1, h2, h3, hn, H => by
    obtain ⟨n, rfl⟩ : ∃ n', n = n' + 1 := ⟨n - 1, by omega⟩
    rw [List.length_cons] at h1 hn
    have hc : ru_c9 (t :: l) = (if t = 9 then 1 else 0) + ru_c9 l := rfl
    rw [hc] at h3 H
    refine pk_le N k (fun z => absurd z (by omega)) (fun _ => ⟨vp_in_nI (by omega) (by omega), ?_⟩)
    rw [nI_clamp (by omega), h2.1]
    by_cases h9 : t = 9
    · rw [if_pos h9] at h3 H
      have hp : 2 ^ c ≤ 8 := Nat.le_trans (Nat.pow_le_pow_right (by omega) (show c ≤ 3 by omega)) (by decide)
      refine br_t h9 (pk_le 16 (2 ^ c) (fun z => absurd z (by omega)) (fun _ => nm_r (e' := nI (2 ^ (c + 1))) (by rw [show (2 : Int32) = nI 2 from rfl, pk_mul, Nat.pow_succ]) (nm_r (nI_1 k) ?_)))
      rw [← Nat.add_assoc] at H
      exact xs_18 hN l (k + 1) (c + 1) n (by omega) h2.2 (by omega) (by omega) H
    · rw [if_neg h9, Nat.zero_add] at h3 H
      exact br_f h9 (nm_r (nI_1 k) (xs_18 hN l (k + 1) c n (by omega) h2.2 h3 (by omega) H))
theorem xs_rule {post : SX → Prop} {A B : List Int64} (r Dn : Nat) (hr : r < 8) (hDn : Dn = A.length + B.length) (hDn30 : Dn ≤ 30) (hA : tm_w A 1) (hB : tm_w B 1) (hc : ru_c9 A ≤ 4) (hD : hd_h a_draft 0 (A ++ B)) (H : ∀ ss zs le ri, (∀ w, w < 2 ^ ru_c9 A → hd_h le ((r * 16 + w) * 30) (ru_wy A w).1) → (∀ j, (j < r * 480 ∨ r * 480 + 480 ≤ j) → le j = a_lefts j) → hd_h ri (r * 30) B → hd_o a_rights ri (r * 30) B.length → post (nI Dn, f_faultPlace, f_reportedSteps, f_resultSize, ss, f_waitingSize, f_builtSize, f_unfinished, f_taken, f_keptSize, f_stacked, f_ranked, f_surveyed, a_draft, a_result, le, upd a_leftSize r (nI A.length), upd a_ways r (nI (2 ^ ru_c9 A)), ri, upd a_rightSize r (nI B.length), zs, a_waiting, a_built, a_unfinishedStart, a_unfinishedLacks, a_kept, a_matchStart, a_matchEnd, a_joint, a_unified, a_oneStack, a_otherStack, a_nestedAt, a_nestedEnd, a_rank, a_pairCount, a_firstOpen)) : wpX_storeRule post (nI Dn, f_faultPlace, f_reportedSteps, f_resultSize, f_sheetSize, f_waitingSize, f_builtSize, f_unfinished, f_taken, f_keptSize, f_stacked, f_ranked, f_surveyed, a_draft, a_result, a_lefts, a_leftSize, a_ways, a_rights, a_rightSize, a_sheet, a_waiting, a_built, a_unfinishedStart, a_unfinishedLacks, a_kept, a_matchStart, a_matchEnd, a_joint, a_unified, a_oneStack, a_otherStack, a_nestedAt, a_nestedEnd, a_rank, a_pairCount, a_firstOpen) (nI r) := by
  have hBl := tm_w_len _ _ hB
  obtain ⟨hD1, hD2⟩ := hd_app.mp hD
  rw [Nat.zero_add] at hD2
  unfold wpX_storeRule
  dsimp only
  rw [← nI_0]
  refine xe_draft (a := A) (r := B) 0 Dn A.length hA hD (by omega) (by omega) hDn30 ⟨A.length + 1, ?_⟩
  have h16 : 2 ^ ru_c9 A ≤ 16 := Nat.le_trans (Nat.pow_le_pow_right (by omega) hc) (by decide)
  refine xs_18 (N := A.length) (by omega) A 0 0 _ (by omega) hD1 (by omega) (by omega) ⟨2 ^ ru_c9 A + 1, ?_⟩
  rw [Nat.zero_add, ← nI_0]
  refine xs_61 (le0 := a_lefts) hr rfl (by omega) ⟨1, hA⟩ hD1 h16 (fun ss zs le g1 g2 => ⟨B.length + 1, ?_⟩) (2 ^ ru_c9 A) 0 _ _ _ _ (by omega) (fun w hw => absurd hw (by omega)) (fun j _ => rfl) (by omega)
  exact xs_84l (ri0 := a_rights) hr hDn30 (by omega) (fun ri q1 q2 => H ss zs le ri g1 g2 q1 q2) B [] a_rights _ A.length rfl rfl hD2 trivial (fun j _ => rfl) (by omega)
end
