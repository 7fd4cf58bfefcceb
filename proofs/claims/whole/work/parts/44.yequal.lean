/-! equal: the reference, and both -/
section
variable {f_place f_count f_top f_done f_open f_steps f_shownSteps f_fault f_in f_made f_old f_size f_heads f_fresh : Int32} {a_kind a_value a_all a_split a_toKind a_doneKind a_toValue a_doneValue a_begins a_lacks a_inKind a_leftKind a_madeKind a_oldKind a_resultKind a_inValue a_leftValue a_madeValue a_oldValue a_resultValue a_from a_to a_whole a_known a_bound a_whose a_rank a_one a_two a_oneOf a_twoOf a_headAt a_headOf a_headLeft a_pairs a_first : Nat → Int32}
theorem yb_begin2 {post : SY → Prop} {l : List Int64} {x y : Int32} (fr N : Nat) (hx : x = nI fr) (hy : y = nI N) (hN : N = l.length) (hN32 : N ≤ 32) (hfr : fr + N ≤ 270) (hh : hd_y tk_kR tk_vR a_kind a_value fr l) (H : ∀ ka' va', hd_y tk_kR tk_vR ka' va' 0 l → post (f_place, f_count, f_top, f_done, f_open, f_steps, f_shownSteps, f_fault, nI N, f_made, f_old, f_size, f_heads, f_fresh, a_kind, a_value, a_all, a_split, a_toKind, a_doneKind, a_toValue, a_doneValue, a_begins, a_lacks, ka', a_leftKind, a_madeKind, a_oldKind, a_resultKind, va', a_leftValue, a_madeValue, a_oldValue, a_resultValue, a_from, a_to, a_whole, a_known, a_bound, a_whose, a_rank, a_one, a_two, a_oneOf, a_twoOf, a_headAt, a_headOf, a_headLeft, a_pairs, a_first)) : wpY_begin post (f_place, f_count, f_top, f_done, f_open, f_steps, f_shownSteps, f_fault, f_in, f_made, f_old, f_size, f_heads, f_fresh, a_kind, a_value, a_all, a_split, a_toKind, a_doneKind, a_toValue, a_doneValue, a_begins, a_lacks, a_inKind, a_leftKind, a_madeKind, a_oldKind, a_resultKind, a_inValue, a_leftValue, a_madeValue, a_oldValue, a_resultValue, a_from, a_to, a_whole, a_known, a_bound, a_whose, a_rank, a_one, a_two, a_oneOf, a_twoOf, a_headAt, a_headOf, a_headLeft, a_pairs, a_first) x y := by
  subst hx hy
  exact yb_begin fr N hN hN32 hfr hh H
theorem ye_end2 {post : Int32 → Prop} {a : List Int64} {x y : Int32} (i e q : Nat) (hx : x = nI i) (hy : y = nI e) (hw : tm_w a 1) (hh : hd_y tk_kR tk_vR a_kind a_value i a) (ht : ∀ t, t ∈ a → tk_r t) (he : i + a.length ≤ e) (hq : q = i + a.length) (hl : e ≤ 270) (hp : post (nI q)) : wpY_endOf post (f_place, f_count, f_top, f_done, f_open, f_steps, f_shownSteps, f_fault, f_in, f_made, f_old, f_size, f_heads, f_fresh, a_kind, a_value, a_all, a_split, a_toKind, a_doneKind, a_toValue, a_doneValue, a_begins, a_lacks, a_inKind, a_leftKind, a_madeKind, a_oldKind, a_resultKind, a_inValue, a_leftValue, a_madeValue, a_oldValue, a_resultValue, a_from, a_to, a_whole, a_known, a_bound, a_whose, a_rank, a_one, a_two, a_oneOf, a_twoOf, a_headAt, a_headOf, a_headLeft, a_pairs, a_first) x y := by
  subst hx hy
  exact ye_end i e q hw hh ht he hq hl hp
theorem yq_equal {post : Int32 → SY → Prop} {L R : Nat → List Int64} {D A B : List Int64} {c1 t1 c2 t2 : Nat} {s1 s2 : List Int64} (hGG : mc_G L R) (hR : yr_R L R a_kind a_value a_all a_split) (eD : D = A ++ B) (hA : tm_w A 1) (hB : tm_w B 1) (hD : D.length ≤ 30) (htd : ∀ t, t ∈ D → tk_d t) (y1 : a_all 8 = nI D.length) (y2 : hd_y tk_kR tk_vR a_kind a_value 240 D) (hf : ∀ post : Int32 → Prop, post (-1) → wpY_unfit post (f_place, f_count, f_top, f_done, f_open, f_steps, f_shownSteps, f_fault, f_in, f_made, f_old, 0, f_heads, f_fresh, a_kind, a_value, a_all, a_split, a_toKind, a_doneKind, a_toValue, a_doneValue, a_begins, a_lacks, a_inKind, a_leftKind, a_madeKind, a_oldKind, a_resultKind, a_inValue, a_leftValue, a_madeValue, a_oldValue, a_resultValue, a_from, a_to, a_whole, a_known, a_bound, a_whose, a_rank, a_one, a_two, a_oneOf, a_twoOf, a_headAt, a_headOf, a_headLeft, a_pairs, a_first) 2)
    (run1 : mc_run L R 4000 A [] 0 none = (c1, t1, s1)) (ok1 : c1 ≤ 3 ∧ (c1 = 0 → t1 ≤ 60 ∧ s1.length ≤ 30 ∧ ∀ t, t ∈ s1 → tk_d t)) (run2 : c1 = 0 → mc_run L R 4000 B [] t1 none = (c2, t2, s2)) (ok2 : c2 ≤ 3 ∧ (c2 = 0 → s2.length ≤ 30 ∧ ∀ t, t ∈ s2 → tk_d t))
    (H1 : c1 ≠ 0 → ∀ (tp dn sp fa md op inn od : Int32) (tk tv dk dv lk lv mdk mdv fr to wh kn bg lc ik iv ok ov : Nat → Int32), post (-(nI c1)) (f_place, f_count, tp, dn, op, sp, nI t1, fa, inn, md, od, 0, f_heads, f_fresh, a_kind, a_value, a_all, a_split, tk, dk, tv, dv, bg, lc, ik, lk, mdk, ok, a_resultKind, iv, lv, mdv, ov, a_resultValue, fr, to, wh, kn, a_bound, a_whose, a_rank, a_one, a_two, a_oneOf, a_twoOf, a_headAt, a_headOf, a_headLeft, a_pairs, a_first))
    (H2 : c1 = 0 → c2 ≠ 0 → ∀ (tp dn sp fa md op inn od : Int32) (tk tv dk dv lk lv mdk mdv fr to wh kn bg lc ik iv ok ov : Nat → Int32), post (-(nI c2)) (f_place, f_count, tp, dn, op, sp, nI t2, fa, inn, md, od, 0, f_heads, f_fresh, a_kind, a_value, a_all, a_split, tk, dk, tv, dv, bg, lc, ik, lk, mdk, ok, a_resultKind, iv, lv, mdv, ov, a_resultValue, fr, to, wh, kn, a_bound, a_whose, a_rank, a_one, a_two, a_oneOf, a_twoOf, a_headAt, a_headOf, a_headLeft, a_pairs, a_first))
    (H3 : c1 = 0 → c2 = 0 → ∀ (tp dn sp fa md op inn od : Int32) (tk tv dk dv lk lv mdk mdv fr to wh kn bg lc ik iv ok ov : Nat → Int32), post (if s1 = s2 then 1 else 0) (f_place, f_count, tp, dn, op, sp, nI t2, fa, inn, md, od, 0, f_heads, f_fresh, a_kind, a_value, a_all, a_split, tk, dk, tv, dv, bg, lc, ik, lk, mdk, ok, a_resultKind, iv, lv, mdv, ov, a_resultValue, fr, to, wh, kn, a_bound, a_whose, a_rank, a_one, a_two, a_oneOf, a_twoOf, a_headAt, a_headOf, a_headLeft, a_pairs, a_first)) :
    wpY_equal post (f_place, f_count, f_top, f_done, f_open, f_steps, f_shownSteps, f_fault, f_in, f_made, f_old, f_size, f_heads, f_fresh, a_kind, a_value, a_all, a_split, a_toKind, a_doneKind, a_toValue, a_doneValue, a_begins, a_lacks, a_inKind, a_leftKind, a_madeKind, a_oldKind, a_resultKind, a_inValue, a_leftValue, a_madeValue, a_oldValue, a_resultValue, a_from, a_to, a_whole, a_known, a_bound, a_whose, a_rank, a_one, a_two, a_oneOf, a_twoOf, a_headAt, a_headOf, a_headLeft, a_pairs, a_first) := by
  have tkt : ∀ x, tk_d x → tk_t x := fun x => tk_d_t
  have tkd : ∀ x, tk_d x → tk_d x := fun x h => h
  have hlen : D.length = A.length + B.length := by rw [eD, List.length_append]
  have hAl := tm_w_len _ _ hA
  have hBl := tm_w_len _ _ hB
  have hAd : ∀ t, t ∈ A → tk_d t := fun t ht => htd t (by rw [eD]; exact List.mem_append.mpr (Or.inl ht))
  have hBd : ∀ t, t ∈ B → tk_d t := fun t ht => htd t (by rw [eD]; exact List.mem_append.mpr (Or.inr ht))
  have hy2 : hd_y tk_kR tk_vR a_kind a_value 240 (A ++ B) := by rw [← eD]; exact y2
  have hyA := (hy_app.mp hy2).1
  have hyB := (hy_app.mp hy2).2
  unfold wpY_equal
  refine hf _ (br_t (by decide) ?_)
  refine ye_end2 (a := A) 240 (240 + D.length) (240 + A.length) rfl (by rw [y1]; exact nI_add 240 _) hA hyA (fun t ht => tk_d_r (hAd t ht)) (by omega) rfl (by omega) ?_
  refine nm_r (e' := nI A.length) (by rw [show (240 : Int32) = nI 240 from rfl, pk_sub (by omega), show 240 + A.length - 240 = A.length by omega]) ?_
  refine yb_begin (l := A) 240 A.length rfl (by omega) (by omega) hyA (fun ik iv hz => ?_)
  refine yn_nf (P := tk_d) (q := A) A.length 0 tkt tkd hGG hR hA (by omega) hAd (by omega) rfl (hy_dT hAd hz) (fun c t' s' hrun tp dn sp fa md op tk tv dk dv lk lv mdk mdv fr to wh kn bg lc hc => ?_)
  have er := run1.symm.trans hrun
  injection er with e1 e2
  injection e2 with e2 e3
  subst e1 e2 e3
  by_cases h0 : c1 = 0
  · have b1 := (hc h0).1
    have b2 := (hc h0).2
    have w1 := (ok1.2 h0).1
    have w3 := (ok1.2 h0).2.1
    have w4 := (ok1.2 h0).2.2
    have run2 := run2 h0
    subst b1
    refine br_t (by rw [h0]; rfl) ?_
    refine yb_keep (l := s1) s1.length rfl (by omega) b2 (fun ok ov hov => ?_)
    refine yb_begin2 (l := B) (240 + A.length) B.length (nI_add 240 _) (by rw [y1, pk_sub (by omega), show D.length - A.length = B.length by omega]) rfl (by omega) (by omega) hyB (fun ik2 iv2 hz3 => ?_)
    refine yn_nf (P := tk_d) (q := B) B.length t1 tkt tkd hGG hR hB (by omega) hBd w1 rfl (hy_dT hBd hz3) (fun c3 t3 s3 hrun3 tp dn sp fa md op tk tv dk dv lk lv mdk mdv fr to wh kn bg lc hc3 => ?_)
    have er := run2.symm.trans hrun3
    injection er with e1 e2
    injection e2 with e2 e3
    subst e1 e2 e3
    by_cases h2 : c2 = 0
    · have b3 := (hc3 h2).1
      have b4 := (hc3 h2).2
      have v3 := (ok2.2 h2).1
      have v4 := (ok2.2 h2).2
      subst b3
      have H3 := H3 h0 h2
      refine br_t (by rw [h2]; rfl) ?_
      refine yb_same (a := s1) (b := s2) s1.length s2.length rfl rfl (by omega) (by omega) hov b4 (fun t ht => tkt t (w4 t ht)) (fun t ht => tkt t (v4 t ht)) (fun hab => ?_) (fun hab => ?_)
      · rw [if_pos hab] at H3
        exact br_f (by decide) (H3 _ _ _ _ _ _ _ _ _ _ _ _ _ _ _ _ _ _ _ _ _ _ _ _ _ _)
      · rw [if_neg hab] at H3
        exact br_t rfl (H3 _ _ _ _ _ _ _ _ _ _ _ _ _ _ _ _ _ _ _ _ _ _ _ _ _ _)
    · have hcn : ¬ nI c2 = 0 := by rw [← nI_0, nI_eq (by omega) (by omega)]; exact h2
      exact br_f hcn (H2 h0 h2 _ _ _ _ _ _ _ _ _ _ _ _ _ _ _ _ _ _ _ _ _ _ _ _ _ _)
  · have hcn : ¬ nI c1 = 0 := by rw [← nI_0, nI_eq (by omega) (by omega)]; exact h0
    exact br_f hcn (br_f hcn (H1 h0 _ _ _ _ _ _ _ _ _ _ _ _ _ _ _ _ _ _ _ _ _ _ _ _ _ _))
end
theorem i_vc_equal {k : Nat} {u : SX} {v : SY} (I : i_Rel k u v) (hk : k + 3 ≤ 1536) : wpX_equal (fun r u' => wpY_equal (fun r' v' => r' = r ∧ i_Rel (k + 3) u' v') v) u := by
  obtain ⟨f_drafted, f_faultPlace, f_reportedSteps, f_resultSize, f_sheetSize, f_waitingSize, f_builtSize, f_unfinished, f_taken, f_keptSize, f_stacked, f_ranked, f_surveyed, a_draft, a_result, a_lefts, a_leftSize, a_ways, a_rights, a_rightSize, a_sheet, a_waiting, a_built, a_unfinishedStart, a_unfinishedLacks, a_kept, a_matchStart, a_matchEnd, a_joint, a_unified, a_oneStack, a_otherStack, a_nestedAt, a_nestedEnd, a_rank, a_pairCount, a_firstOpen⟩ := u
  obtain ⟨f_place', f_count', f_top', f_done', f_open', f_steps', f_shownSteps', f_fault', f_in', f_made', f_old', f_size', f_heads', f_fresh', a_kind', a_value', a_all', a_split', a_toKind', a_doneKind', a_toValue', a_doneValue', a_begins', a_lacks', a_inKind', a_leftKind', a_madeKind', a_oldKind', a_resultKind', a_inValue', a_leftValue', a_madeValue', a_oldValue', a_resultValue', a_from', a_to', a_whole', a_known', a_bound', a_whose', a_rank', a_one', a_two', a_oneOf', a_twoOf', a_headAt', a_headOf', a_headLeft', a_pairs', a_first'⟩ := v
  obtain ⟨D, Q, L, R, pl, st, fr, pc, fo, hG, ⟨x1, x2, x3, x4, x5, x6, x7, x8, x9⟩, ⟨y1, y2, y3, y4, y5, y6, y7, y8, y9⟩⟩ := I
  subst x1
  obtain ⟨hD, hDr, hQ, hQd, hGG⟩ := hG
  obtain ⟨r, rX, rY, rG⟩ := fa_12 (D := D) D.length 2 rfl hD (by omega) (by omega) x2 y2 y1 hDr
  have tkd : ∀ x, tk_d x → tk_d x := fun x h => h
  rcases rG with ⟨e, hw, htd⟩ | ⟨q, hq, e⟩
  · subst e
    obtain ⟨A, B, eD, hA, hB⟩ := tm_w_split D 1 1 hw
    have hlen : D.length = A.length + B.length := by rw [eD, List.length_append]
    have hAl := tm_w_len _ _ hA
    have hBl := tm_w_len _ _ hB
    have hAd : ∀ t, t ∈ A → tk_d t := fun t ht => htd t (by rw [eD]; exact List.mem_append.mpr (Or.inl ht))
    have hBd : ∀ t, t ∈ B → tk_d t := fun t ht => htd t (by rw [eD]; exact List.mem_append.mpr (Or.inr ht))
    obtain ⟨c1, t1, s1, run1, o2, o3, o4⟩ := mc_run_ok (P := tk_d) tkd hGG 4000 A [] 0 none (mc_I0 hA (by omega) hAd (by omega)).1 (mc_I0 (P := tk_d) hA (by omega) hAd (by omega)).2
    have second : ∃ c2 t2 s2, (c1 = 0 → mc_run L R 4000 B [] t1 none = (c2, t2, s2)) ∧ c2 ≤ 3 ∧ (c2 = 0 → s2.length ≤ 30 ∧ ∀ t, t ∈ s2 → tk_d t) := by
      by_cases h0 : c1 = 0
      · obtain ⟨c2, t2, s2, run2, p2, p3, p4⟩ := mc_run_ok (P := tk_d) tkd hGG 4000 B [] t1 none (mc_I0 hB (by omega) hBd (o4 h0).1).1 (mc_I0 (P := tk_d) hB (by omega) hBd (o4 h0).1).2
        exact ⟨c2, t2, s2, fun _ => run2, p3, fun z => ⟨(p4 z).2.2.1, (p4 z).2.2.2⟩⟩
      · exact ⟨0, 0, [], fun z => absurd z h0, by omega, fun _ => ⟨by simp, by simp⟩⟩
    obtain ⟨c2, t2, s2, run2, p3, p4⟩ := second
    have rel : ∀ (tt : Int32) (ss ws bs uf tk ks : Int32) (zs zw zb zk : Nat → Int64) (us ul ms me : Nat → Int32) (tp dn sp fa md op inn od : Int32) (tk' tv dk dv lk lv mdk mdv fr' to wh kn bg lc ik iv ok ov : Nat → Int32), i_Rel (k + 3) (nI D.length, f_faultPlace, tt, 0, ss, ws, bs, uf, tk, ks, f_stacked, f_ranked, f_surveyed, a_draft, a_result, a_lefts, a_leftSize, a_ways, a_rights, a_rightSize, zs, zw, zb, us, ul, zk, ms, me, a_joint, a_unified, a_oneStack, a_otherStack, a_nestedAt, a_nestedEnd, a_rank, a_pairCount, a_firstOpen) (f_place', f_count', tp, dn, op, sp, tt, fa, inn, md, od, 0, f_heads', f_fresh', a_kind', a_value', a_all', a_split', tk', dk, tv, dv, bg, lc, ik, lk, mdk, ok, a_resultKind', iv, lv, mdv, ov, a_resultValue', fr', to, wh, kn, a_bound', a_whose', a_rank', a_one', a_two', a_oneOf', a_twoOf', a_headAt', a_headOf', a_headLeft', a_pairs', a_first') := by
      intros
      exact ⟨D, [], L, R, pl, _, fr, pc, fo, ⟨hD, hDr, by simp, by simp, hGG⟩, ⟨rfl, x2, x3, rfl, rfl, trivial, x7, x8, x9⟩, ⟨y1, y2, y3, rfl, rfl, trivial, y7, y8, y9⟩⟩
    refine xq_equal (D := D) (A := A) (B := B) (s1 := s1) (s2 := s2) D.length rfl hGG x7 eD hA hB hD htd x2 rX run1 ⟨o3, fun z => ⟨(o4 z).1, (o4 z).2.2.1⟩⟩ run2 ⟨p3, fun z => (p4 z).1⟩ (fun h1 ss ws bs uf tk ks zs zw zb zk us ul ms me => ?_) (fun h1 h2 ss ws bs uf tk ks zs zw zb zk us ul ms me => ?_) (fun h1 h2 ss ws bs uf tk ks zs zw zb zk us ul ms me => ?_)
    · exact yq_equal (D := D) (A := A) (B := B) (s1 := s1) (s2 := s2) hGG y7 eD hA hB hD htd y1 y2 rY run1 ⟨o3, fun z => ⟨(o4 z).1, (o4 z).2.2.1, (o4 z).2.2.2⟩⟩ run2 ⟨p3, p4⟩ (fun _ tp dn sp fa md op inn od tk' tv dk dv lk lv mdk mdv fr' to wh kn bg lc ik iv ok ov => ⟨rfl, rel _ _ _ _ _ _ _ _ _ _ _ _ _ _ _ _ _ _ _ _ _ _ _ _ _ _ _ _ _ _ _ _ _ _ _ _ _ _ _ _ _⟩) (fun z => absurd z h1) (fun z => absurd z h1)
    · exact yq_equal (D := D) (A := A) (B := B) (s1 := s1) (s2 := s2) hGG y7 eD hA hB hD htd y1 y2 rY run1 ⟨o3, fun z => ⟨(o4 z).1, (o4 z).2.2.1, (o4 z).2.2.2⟩⟩ run2 ⟨p3, p4⟩ (fun z => absurd h1 z) (fun _ _ tp dn sp fa md op inn od tk' tv dk dv lk lv mdk mdv fr' to wh kn bg lc ik iv ok ov => ⟨rfl, rel _ _ _ _ _ _ _ _ _ _ _ _ _ _ _ _ _ _ _ _ _ _ _ _ _ _ _ _ _ _ _ _ _ _ _ _ _ _ _ _ _⟩) (fun _ z => absurd z h2)
    · exact yq_equal (D := D) (A := A) (B := B) (s1 := s1) (s2 := s2) hGG y7 eD hA hB hD htd y1 y2 rY run1 ⟨o3, fun z => ⟨(o4 z).1, (o4 z).2.2.1, (o4 z).2.2.2⟩⟩ run2 ⟨p3, p4⟩ (fun z => absurd h1 z) (fun _ z => absurd h2 z) (fun _ _ tp dn sp fa md op inn od tk' tv dk dv lk lv mdk mdv fr' to wh kn bg lc ik iv ok ov => ⟨rfl, rel _ _ _ _ _ _ _ _ _ _ _ _ _ _ _ _ _ _ _ _ _ _ _ _ _ _ _ _ _ _ _ _ _ _ _ _ _ _ _ _ _⟩)
  · have hneg : ¬ r < 0 := by rw [e]; exact nI_pos (by omega)
    unfold wpX_equal
    dsimp only
    refine rX _ (br_f hneg ?_)
    unfold wpY_equal
    dsimp only
    refine rY _ (br_f hneg ⟨rfl, ?_⟩)
    exact ⟨D, [], L, R, r, st, fr, pc, fo, ⟨hD, hDr, by simp, by simp, hGG⟩, ⟨rfl, x2, rfl, x4, rfl, trivial, x7, x8, x9⟩, ⟨y1, y2, rfl, y4, rfl, trivial, y7, y8, y9⟩⟩
