/-! rule -/
section
variable {f_place f_count f_top f_done f_open f_steps f_shownSteps f_fault f_in f_made f_old f_size f_heads f_fresh : Int32} {a_kind a_value a_all a_split a_toKind a_doneKind a_toValue a_doneValue a_begins a_lacks a_inKind a_leftKind a_madeKind a_oldKind a_resultKind a_inValue a_leftValue a_madeValue a_oldValue a_resultValue a_from a_to a_whole a_known a_bound a_whose a_rank a_one a_two a_oneOf a_twoOf a_headAt a_headOf a_headLeft a_pairs a_first : Nat → Int32}
theorem yu_36 {post : Int32 → SY → Prop} {A B : List Int64} {r N : Nat} {k0 v0 : Nat → Int32} (hr : r < 8) (hN : N = A.length + B.length) (hN30 : N ≤ 30) (hA : tm_w A 1) (hAt : ∀ t, t ∈ A → tk_r t) (H : ∀ ka va, hd_y tk_kR tk_vR ka va (30 * r) (A ++ B) → (∀ j, (j < 30 * r ∨ 30 * r + 30 ≤ j) → ka j = k0 j ∧ va j = v0 j) → post 0 (f_place, f_count, f_top, f_done, f_open, f_steps, f_shownSteps, f_fault, f_in, f_made, f_old, f_size, f_heads, 0, ka, va, upd a_all r (nI N), upd a_split r (nI A.length), a_toKind, a_doneKind, a_toValue, a_doneValue, a_begins, a_lacks, a_inKind, a_leftKind, a_madeKind, a_oldKind, a_resultKind, a_inValue, a_leftValue, a_madeValue, a_oldValue, a_resultValue, a_from, a_to, a_whole, a_known, a_bound, a_whose, a_rank, a_one, a_two, a_oneOf, a_twoOf, a_headAt, a_headOf, a_headLeft, a_pairs, a_first)) : ∀ (l q : List Int64) (ka va : Nat → Int32) (n k : Nat), A ++ B = q ++ l → k = q.length → hd_y tk_kR tk_vR ka va (240 + k) l → hd_y tk_kR tk_vR ka va (30 * r) q → (∀ j, (j < 30 * r ∨ 30 * r + 30 ≤ j) → ka j = k0 j ∧ va j = v0 j) → l.length < n → wY_rule_36 post (nI r) (nI N) f_place f_count f_top f_done f_open f_steps f_shownSteps f_fault f_in f_made f_old f_size f_heads f_fresh n (nI k) ka va a_all a_split a_toKind a_doneKind a_toValue a_doneValue a_begins a_lacks a_inKind a_leftKind a_madeKind a_oldKind a_resultKind a_inValue a_leftValue a_madeValue a_oldValue a_resultValue a_from a_to a_whole a_known a_bound a_whose a_rank a_one a_two a_oneOf a_twoOf a_headAt a_headOf a_headLeft a_pairs a_first
  | [], q, ka, va, n, k, e, hk, h2, h3, ho, hn => by
    obtain ⟨n, rfl⟩ : ∃ n', n = n' + 1 := ⟨n - 1, by omega⟩
    rw [List.append_nil] at e
    have hkN : k = N := by rw [hk, ← e, List.length_append, hN]
    subst e
    have er : (nI r).toNatClampNeg = r := nI_clamp (by omega)
    refine pk_le N k (fun _ => ?_) (fun z => absurd z (by omega))
    refine ⟨vp_in_nI (by omega) (by omega), nm_r (e' := upd a_all r (nI N)) (by rw [er, (tk_nb (by omega)).1]) ?_⟩
    have e1 : (30 : Int32) * nI r = nI (30 * r) := by rw [show (30 : Int32) = nI 30 from rfl, pk_mul]
    rw [e1, nI_add]
    refine ye_end (a := A) (30 * r) (30 * r + N) (30 * r + A.length) hA (hy_app.mp h3).1 hAt (by omega) rfl (by omega) ?_
    refine ⟨vp_in_nI hr (by omega), nm_r (e' := upd a_split r (nI A.length)) ?_ (H ka va h3 ho)⟩
    rw [er, pk_sub (by omega), show 30 * r + A.length - 30 * r = A.length by omega, (tk_nb (by omega)).1]
  | t :: l, q, ka, va, n, k, e, hk, h2, h3, ho, hn => by
    obtain ⟨n, rfl⟩ : ∃ n', n = n' + 1 := ⟨n - 1, by omega⟩
    rw [List.length_cons] at hn
    have hlen : A.length + B.length = q.length + (l.length + 1) := by rw [← List.length_append, e, List.length_append]; rfl
    have e1 : (30 : Int32) * nI r + nI k = nI (30 * r + k) := by rw [show (30 : Int32) = nI 30 from rfl, pk_mul, nI_add]
    have e2 : (240 : Int32) + nI k = nI (240 + k) := nI_add 240 k
    have i1 : vp_in ((30 : Int32) * nI r + nI k) 270 := by rw [e1]; exact vp_in_nI (by omega) (by omega)
    have i2 : vp_in ((240 : Int32) + nI k) 270 := by rw [e2]; exact vp_in_nI (by omega) (by omega)
    have c1 : ((30 : Int32) * nI r + nI k).toNatClampNeg = 30 * r + k := by rw [e1]; exact nI_clamp (by omega)
    have c2 : ((240 : Int32) + nI k).toNatClampNeg = 240 + k := by rw [e2]; exact nI_clamp (by omega)
    refine pk_le N k (fun z => absurd z (by omega)) (fun _ => ⟨i2, i1, nm_r (e' := upd ka (30 * r + k) (tk_kR t)) (by rw [c1, c2, h2.1.1, (tk_narR t).1]) ⟨i2, i1, nm_r (e' := upd va (30 * r + k) (tk_vR t)) (by rw [c1, c2, h2.1.2]) (nm_r (nI_1 k) ?_)⟩⟩)
    refine yu_36 hr hN hN30 hA hAt H l (q ++ [t]) _ _ n (k + 1) (by rw [e, List.append_assoc]; rfl) (by simp; omega) (hy_upd h2.2 (Or.inl (by omega))) (hy_snoc _ (by omega) h3) (fun j hj => ?_) (by omega)
    rw [pk_un (by omega), pk_un (by omega)]
    exact ho j hj
end
theorem i_vc_rule {k : Nat} {u : SX} {v : SY} (I : i_Rel k u v) (hk : k + 3 ≤ 1536) (v1 : Int32) : wpX_rule (fun r u' => wpY_rule (fun r' v' => r' = r ∧ i_Rel (k + 3) u' v') v v1) u v1 := by
  obtain ⟨f_drafted, f_faultPlace, f_reportedSteps, f_resultSize, f_sheetSize, f_waitingSize, f_builtSize, f_unfinished, f_taken, f_keptSize, f_stacked, f_ranked, f_surveyed, a_draft, a_result, a_lefts, a_leftSize, a_ways, a_rights, a_rightSize, a_sheet, a_waiting, a_built, a_unfinishedStart, a_unfinishedLacks, a_kept, a_matchStart, a_matchEnd, a_joint, a_unified, a_oneStack, a_otherStack, a_nestedAt, a_nestedEnd, a_rank, a_pairCount, a_firstOpen⟩ := u
  obtain ⟨f_place', f_count', f_top', f_done', f_open', f_steps', f_shownSteps', f_fault', f_in', f_made', f_old', f_size', f_heads', f_fresh', a_kind', a_value', a_all', a_split', a_toKind', a_doneKind', a_toValue', a_doneValue', a_begins', a_lacks', a_inKind', a_leftKind', a_madeKind', a_oldKind', a_resultKind', a_inValue', a_leftValue', a_madeValue', a_oldValue', a_resultValue', a_from', a_to', a_whole', a_known', a_bound', a_whose', a_rank', a_one', a_two', a_oneOf', a_twoOf', a_headAt', a_headOf', a_headLeft', a_pairs', a_first'⟩ := v
  have J := I
  obtain ⟨D, Q, L, R, pl, st, fr, pc, fo, hG, ⟨x1, x2, x3, x4, x5, x6, x7, x8, x9⟩, ⟨y1, y2, y3, y4, y5, y6, y7, y8, y9⟩⟩ := I
  subst x1
  obtain ⟨hD, hDr, hQ, hQd, hGG⟩ := hG
  by_cases h0 : v1 < 0
  · exact br_t h0 (br_t h0 ⟨rfl, J⟩)
  · obtain ⟨j, hj, rfl⟩ := nI_of h0
    refine br_f h0 (pk_lt j 8 (fun h8 => ?_) (fun h8 => br_f h0 (pk_le j 7 (fun z => absurd z (by omega)) (fun _ => ⟨rfl, J⟩))))
    obtain ⟨r, rX, rY, rG⟩ := fb_rule (D := D) D.length rfl hD x2 y2 y1 hDr
    refine rX _ ?_
    have refSide : ∀ (PP : Int32 → SY → Prop), ((r < 0 → (∃ n36 : Nat, wY_rule_36 PP (nI j) (nI D.length) f_place' f_count' f_top' f_done' f_open' f_steps' f_shownSteps' f_fault' f_in' f_made' f_old' f_size' f_heads' f_fresh' n36 0 a_kind' a_value' (upd a_all' 8 0) a_split' a_toKind' a_doneKind' a_toValue' a_doneValue' a_begins' a_lacks' a_inKind' a_leftKind' a_madeKind' a_oldKind' a_resultKind' a_inValue' a_leftValue' a_madeValue' a_oldValue' a_resultValue' a_from' a_to' a_whole' a_known' a_bound' a_whose' a_rank' a_one' a_two' a_oneOf' a_twoOf' a_headAt' a_headOf' a_headLeft' a_pairs' a_first')) ∧ (¬ r < 0 → PP 1 (r, f_count', f_top', f_done', f_open', f_steps', f_shownSteps', f_fault', f_in', f_made', f_old', f_size', f_heads', f_fresh', a_kind', a_value', upd a_all' 8 0, a_split', a_toKind', a_doneKind', a_toValue', a_doneValue', a_begins', a_lacks', a_inKind', a_leftKind', a_madeKind', a_oldKind', a_resultKind', a_inValue', a_leftValue', a_madeValue', a_oldValue', a_resultValue', a_from', a_to', a_whole', a_known', a_bound', a_whose', a_rank', a_one', a_two', a_oneOf', a_twoOf', a_headAt', a_headOf', a_headLeft', a_pairs', a_first'))) → wpY_rule PP (f_place', f_count', f_top', f_done', f_open', f_steps', f_shownSteps', f_fault', f_in', f_made', f_old', f_size', f_heads', f_fresh', a_kind', a_value', a_all', a_split', a_toKind', a_doneKind', a_toValue', a_doneValue', a_begins', a_lacks', a_inKind', a_leftKind', a_madeKind', a_oldKind', a_resultKind', a_inValue', a_leftValue', a_madeValue', a_oldValue', a_resultValue', a_from', a_to', a_whole', a_known', a_bound', a_whose', a_rank', a_one', a_two', a_oneOf', a_twoOf', a_headAt', a_headOf', a_headLeft', a_pairs', a_first') (nI j) := by
      intro PP H
      refine br_f h0 (pk_le j 7 (fun _ => rY _ ?_) (fun z => absurd z (by omega)))
      refine nm_e (nm_r (e' := upd a_all' 8 0) (by rw [vp_nar_byte]; rfl) ?_)
      rw [y1]
      exact H
    rcases rG with ⟨e, A, B, eD, hA, hB, hc9, hhd, hnm⟩ | ⟨q, hq, e⟩
    · subst e
      have hlen : D.length = A.length + B.length := by rw [eD, List.length_append]
      have hAt : ∀ t, t ∈ A → tk_r t := fun t ht => hDr t (by rw [eD]; exact List.mem_append.mpr (Or.inl ht))
      have hBt : ∀ t, t ∈ B → tk_r t := fun t ht => hDr t (by rw [eD]; exact List.mem_append.mpr (Or.inr ht))
      have hA0 : A ≠ [] := by obtain ⟨t, l, e, _⟩ := hhd; rw [e]; exact List.cons_ne_nil _ _
      have hAl := tm_w_len _ _ hA
      have hBl := tm_w_len _ _ hB
      refine br_f (by decide) ?_
      rw [eD] at x2 y2
      refine xs_rule (A := A) (B := B) j D.length h8 hlen hD hA hB hc9 x2 (fun ss zs le ri g1 g2 g3 g4 => ?_)
      refine br_f (by decide) (refSide _ (br_t (by decide) ⟨D.length + 1, ?_⟩))
      refine yu_36 (A := A) (B := B) (k0 := a_kind') (v0 := a_value') h8 hlen hD hA hAt (fun ka va q1 q2 => ⟨rfl, ?_⟩) (A ++ B) [] a_kind' a_value' _ 0 rfl rfl y2 trivial (fun j _ => ⟨rfl, rfl⟩) (by rw [← eD]; omega)
      refine ⟨[], Q, (fun i => if i = j then A else L i), (fun i => if i = j then B else R i), pl, st, false, pc, fo, ⟨by simp, by simp, hQ, hQd, fun i => ?_⟩, ⟨rfl, trivial, x3, x4, x5, x6, fun i hi => ?_, rfl, fun z => absurd z (by decide)⟩, ⟨by rw [pk_un (by omega)]; exact pk_us, trivial, y3, y4, y5, y6, fun i hi => ?_, rfl, fun z => absurd z (by decide)⟩⟩
      · dsimp only
        by_cases ei : i = j
        · rw [if_pos ei, if_pos ei]
          exact Or.inr ⟨hA, hB, by omega, hAt, hBt, hhd, hc9, hnm⟩
        · rw [if_neg ei, if_neg ei]
          exact hGG i
      · dsimp only
        by_cases ei : i = j
        · subst ei
          rw [if_pos rfl, if_pos rfl, pk_us, pk_us, pk_us]
          exact ⟨⟨A.length, B.length, rfl, rfl, by omega, by omega⟩, fun z => absurd z hA0, fun _ => ⟨rfl, rfl, rfl, g3, g1⟩⟩
        · rw [if_neg ei, if_neg ei, pk_un ei, pk_un ei, pk_un ei]
          obtain ⟨z1, z2, z3⟩ := x7 i hi
          refine ⟨z1, z2, fun hL => ?_⟩
          obtain ⟨w1, w2, w3, w4, w5⟩ := z3 hL
          rcases hGG i with g | g
          · exact absurd g hL
          have gl := g.2.2.1
          have h16 : 2 ^ ru_c9 (L i) ≤ 16 := Nat.le_trans (Nat.pow_le_pow_right (by omega) g.2.2.2.2.2.2.1) (by decide)
          refine ⟨w1, w2, w3, ?_, fun w hw => ?_⟩
          · refine hd_congr (fun p a b => g4 p ?_) w4
            omega
          · have hl := ru_wy_len (L i) w
            refine hd_congr (fun p a b => g2 p ?_) (w5 w hw)
            rw [hl] at b
            omega
      · dsimp only
        by_cases ei : i = j
        · subst ei
          rw [if_pos rfl, if_pos rfl, pk_us, pk_us, ← hlen]
          exact ⟨fun z => absurd z hA0, fun _ => ⟨rfl, rfl, q1⟩⟩
        · rw [if_neg ei, if_neg ei, pk_un ei, pk_un ei, pk_un (by omega)]
          obtain ⟨z1, z2⟩ := y7 i hi
          refine ⟨z1, fun hL => ?_⟩
          obtain ⟨w1, w2, w3⟩ := z2 hL
          rcases hGG i with g | g
          · exact absurd g hL
          have gl := g.2.2.1
          refine ⟨w1, w2, hy_congr (fun p a b => q2 p ?_) w3⟩
          rw [List.length_append] at b
          omega
    · have hneg : ¬ r < 0 := by rw [e]; exact nI_pos (by omega)
      have hpos : 0 ≤ r := by rw [e]; exact nI_pos' (by omega)
      refine br_t hpos (br_t hpos (refSide _ (br_f hneg ⟨rfl, ?_⟩)))
      refine ⟨[], Q, L, R, r, st, fr, pc, fo, ⟨by simp, by simp, hQ, hQd, hGG⟩, ⟨rfl, trivial, rfl, x4, x5, x6, x7, x8, x9⟩, ⟨pk_us, trivial, rfl, y4, y5, y6, fun i hi => ?_, y8, y9⟩⟩
      rw [pk_un (by omega)]
      exact y7 i hi
