/-! the reference: one term whose arguments are replaced -/
section
variable {f_place f_count f_top f_done f_open f_steps f_shownSteps f_fault f_in f_made f_old f_size f_heads f_fresh : Int32} {a_kind a_value a_all a_split a_toKind a_doneKind a_toValue a_doneValue a_begins a_lacks a_inKind a_leftKind a_madeKind a_oldKind a_resultKind a_inValue a_leftValue a_madeValue a_oldValue a_resultValue a_from a_to a_whole a_known a_bound a_whose a_rank a_one a_two a_oneOf a_twoOf a_headAt a_headOf a_headLeft a_pairs a_first : Nat → Int32}
variable {P : Int64 → Prop} {L R : Nat → List Int64}
theorem yl_read {post : Int32 → SY → Prop} {q W : List Int64} (hq : hd_y tk_kT tk_vT a_madeKind a_madeValue 0 q) (hq31 : q.length ≤ 31) (hl : q.length + W.length ≤ 2400) (H : ∀ tk tv, hd_y tk_kT tk_vT tk tv 0 (q ++ W).reverse → post 1 (f_place, f_count, nI (q ++ W).length, f_done, f_open, f_steps, f_shownSteps, 0, f_in, f_made, f_old, f_size, f_heads, f_fresh, a_kind, a_value, a_all, a_split, tk, a_doneKind, tv, a_doneValue, a_begins, a_lacks, a_inKind, a_leftKind, a_madeKind, a_oldKind, a_resultKind, a_inValue, a_leftValue, a_madeValue, a_oldValue, a_resultValue, a_from, a_to, a_whole, a_known, a_bound, a_whose, a_rank, a_one, a_two, a_oneOf, a_twoOf, a_headAt, a_headOf, a_headLeft, a_pairs, a_first)) : ∀ (p q2 : List Int64) (tk tv : Nat → Int32) (n w : Nat) (x4 : Int32), q = p.reverse ++ q2 → w = (q2 ++ W).length → x4 = nI p.length + (-1) → hd_y tk_kT tk_vT tk tv 0 (q2 ++ W).reverse → p.length < n → wY_replaced_186 post n x4 f_place f_count (nI w) f_done f_open f_steps f_shownSteps 0 f_in f_made f_old f_size f_heads f_fresh a_kind a_value a_all a_split tk a_doneKind tv a_doneValue a_begins a_lacks a_inKind a_leftKind a_madeKind a_oldKind a_resultKind a_inValue a_leftValue a_madeValue a_oldValue a_resultValue a_from a_to a_whole a_known a_bound a_whose a_rank a_one a_two a_oneOf a_twoOf a_headAt a_headOf a_headLeft a_pairs a_first
  | [], q2, tk, tv, n, w, x4, e, hw, hx, hz, hn => by
    obtain ⟨n, rfl⟩ : ∃ n', n = n' + 1 := ⟨n - 1, by omega⟩
    subst hx
    rw [List.reverse_nil, List.nil_append] at e
    subst e
    rw [hw]
    exact br_t (by decide) (H tk tv hz)
  | t :: p, q2, tk, tv, n, w, x4, e, hw, hx, hz, hn => by
    obtain ⟨n, rfl⟩ : ∃ n', n = n' + 1 := ⟨n - 1, by omega⟩
    rw [List.length_cons] at hn hx
    rw [pk_m1] at hx
    subst hx
    rw [List.reverse_cons, List.append_assoc] at e
    have hlen : q.length = p.length + (q2.length + 1) := by rw [e]; simp
    rw [List.length_append] at hw
    have hin : vp_in (nI p.length) 32 := vp_in_nI (by omega) (by omega)
    have et : a_madeKind p.length = tk_kT t ∧ a_madeValue p.length = tk_vT t := by
      have hh := hq
      rw [e] at hh
      have := (hy_app.mp hh).2.1
      rwa [Nat.zero_add, List.length_reverse] at this
    refine br_f (nI_pos (by omega)) (br_t rfl ⟨hin, hin, ?_⟩)
    rw [nI_clamp (by omega), et.1, et.2]
    refine yr_read w (by omega) (nm_e ?_)
    refine yl_read hq hq31 hl H p (t :: q2) _ _ n (w + 1) _ e (by simp; omega) rfl ?_ (by omega)
    rw [List.cons_append, List.reverse_cons]
    exact hy_snoc w (by simp; omega) hz
theorem yn_repl {post : Int32 → SY → Prop} (hPt : ∀ x, P x → tk_t x) (hG : mc_G L R) (hR : yr_R L R a_kind a_value a_all a_split) {W : List Int64} {F : List (List Int64 × Nat)} {t : Nat} {s : List Int64} (hI : mc_I P W F t (some s)) (st D T : Nat) (hst : st = (mc_fl F).length) (hD : D = st + s.length) (hT : T = W.length) (hnum : ∀ c r, s = c :: r → ¬ tk_kT c = 1) (hto : hd_y tk_kT tk_vT a_toKind a_toValue 0 W.reverse) (hdn : hd_y tk_kT tk_vT a_doneKind a_doneValue 0 (mc_fl F ++ s))
    (HF : ∀ c t', mc_st L R W F t (some s) = .inr (c, t', []) → c ≠ 0 → ∀ (tp dn sp fa md : Int32) (tk tv dk dv lk lv mdk mdv fr to wh kn : Nat → Int32), post 1 (f_place, f_count, tp, dn, f_open, nI t', f_shownSteps, nI c, f_in, md, f_old, f_size, f_heads, f_fresh, a_kind, a_value, a_all, a_split, tk, dk, tv, dv, a_begins, a_lacks, a_inKind, lk, mdk, a_oldKind, a_resultKind, a_inValue, lv, mdv, a_oldValue, a_resultValue, fr, to, wh, kn, a_bound, a_whose, a_rank, a_one, a_two, a_oneOf, a_twoOf, a_headAt, a_headOf, a_headLeft, a_pairs, a_first))
    (HR : ∀ W' t', mc_st L R W F t (some s) = .inl (W', F, t', none) → ∀ (dn md : Int32) (tk tv dk dv lk lv mdk mdv fr to wh kn : Nat → Int32), hd_y tk_kT tk_vT tk tv 0 W'.reverse → hd_y tk_kT tk_vT dk dv 0 (mc_fl F) → post 1 (f_place, f_count, nI W'.length, nI st, f_open, nI t', f_shownSteps, 0, f_in, md, f_old, f_size, f_heads, f_fresh, a_kind, a_value, a_all, a_split, tk, dk, tv, dv, a_begins, a_lacks, a_inKind, lk, mdk, a_oldKind, a_resultKind, a_inValue, lv, mdv, a_oldValue, a_resultValue, fr, to, wh, kn, a_bound, a_whose, a_rank, a_one, a_two, a_oneOf, a_twoOf, a_headAt, a_headOf, a_headLeft, a_pairs, a_first))
    (HN : ∀ s' t', mc_st L R W F t (some s) = mc_fin W F t' s' → ∀ (dn md : Int32) (dk dv lk lv mdk mdv fr to wh kn : Nat → Int32), hd_y tk_kT tk_vT dk dv 0 (mc_fl F ++ s') → post 0 (f_place, f_count, nI T, nI (st + s'.length), f_open, nI t', f_shownSteps, 0, f_in, md, f_old, f_size, f_heads, f_fresh, a_kind, a_value, a_all, a_split, a_toKind, dk, a_toValue, dv, a_begins, a_lacks, a_inKind, lk, mdk, a_oldKind, a_resultKind, a_inValue, lv, mdv, a_oldValue, a_resultValue, fr, to, wh, kn, a_bound, a_whose, a_rank, a_one, a_two, a_oneOf, a_twoOf, a_headAt, a_headOf, a_headLeft, a_pairs, a_first)) :
    wpY_replaced post (f_place, f_count, nI T, nI D, f_open, nI t, f_shownSteps, 0, f_in, f_made, f_old, f_size, f_heads, f_fresh, a_kind, a_value, a_all, a_split, a_toKind, a_doneKind, a_toValue, a_doneValue, a_begins, a_lacks, a_inKind, a_leftKind, a_madeKind, a_oldKind, a_resultKind, a_inValue, a_leftValue, a_madeValue, a_oldValue, a_resultValue, a_from, a_to, a_whole, a_known, a_bound, a_whose, a_rank, a_one, a_two, a_oneOf, a_twoOf, a_headAt, a_headOf, a_headLeft, a_pairs, a_first) (nI st) := by
  obtain ⟨ht, hW, hF, h1, h2, h3, h4⟩ := hI
  obtain ⟨o, r, rfl, hr⟩ := tm_w_pos h2
  have hot := hPt o (h3 o (List.mem_cons.mpr (Or.inl rfl)))
  have hk1 := hnum o r rfl
  rw [List.length_cons] at hD
  rw [List.length_cons] at h4
  subst hst
  obtain ⟨hd1, hd2⟩ := hy_app.mp hdn
  rw [Nat.zero_add] at hd2
  have hin : vp_in (nI (mc_fl F).length) 2400 := vp_in_nI (by omega) (by omega)
  have hst60 : ∀ x, (if 60 < t + 1 then Sum.inr (2, t + 1, []) else x) = mc_st L R W F t (some (o :: r)) ∨ True := fun _ => Or.inr trivial
  -- behind the sort
  have key : ∀ dk dv, hd_y tk_kT tk_vT dk dv (mc_fl F).length (mc_or (o :: r)) → hd_y tk_kT tk_vT dk dv 0 (mc_fl F) → wY_replaced_18 post (nI (mc_fl F).length) (tk_vT o) f_place f_count (nI T) (nI D) f_open (nI t) f_shownSteps 0 f_in f_made f_old f_size f_heads f_fresh a_kind a_value a_all a_split a_toKind dk a_toValue dv a_begins a_lacks a_inKind a_leftKind a_madeKind a_oldKind a_resultKind a_inValue a_leftValue a_madeValue a_oldValue a_resultValue a_from a_to a_whole a_known a_bound a_whose a_rank a_one a_two a_oneOf a_twoOf a_headAt a_headOf a_headLeft a_pairs a_first := by
    intro dk dv hh hh0
    have hol := mc_or_len (o :: r)
    rw [List.length_cons] at hol
    have how := mc_or_w h2
    have hoP : ∀ x, x ∈ mc_or (o :: r) → tk_t x := fun x hx => hPt x (h3 x (mc_or_mem hx))
    refine pk_le (r.length + 1) 30 (fun h30 => ?_) (fun h30 => ?_) (by rw [hD, pk_sub (by omega), show (mc_fl F).length + (r.length + 1) - (mc_fl F).length = r.length + 1 by omega]) rfl
    · have hstn : mc_ar (mc_or (o :: r)) = none → ∀ x, (match ru_fr L (mc_or (o :: r)) 8 0 with
          | none => mc_fin W F t (mc_or (o :: r))
          | some (r, β) => if 60 < t + 1 then .inr (2, t + 1, []) else if 30 < (ru_in β (R r)).length then .inr (3, t + 1, []) else .inl (ru_in β (R r) ++ W, F, t + 1, none)) = x → mc_st L R W F t (some (o :: r)) = x := by
        intro ha x hx
        rw [mc_st, if_neg (by rw [List.length_cons]; omega), ha]
        exact hx
      have rule : mc_ar (mc_or (o :: r)) = none → wY_replaced_129 post (nI (mc_fl F).length) f_place f_count (nI T) (nI D) f_open (nI t) f_shownSteps 0 f_in f_made f_old f_size f_heads f_fresh a_kind a_value a_all a_split a_toKind dk a_toValue dv a_begins a_lacks a_inKind a_leftKind a_madeKind a_oldKind a_resultKind a_inValue a_leftValue a_madeValue a_oldValue a_resultValue a_from a_to a_whole a_known a_bound a_whose a_rank a_one a_two a_oneOf a_twoOf a_headAt a_headOf a_headLeft a_pairs a_first := by
        intro ha
        have hst := hstn ha
        refine yf_found (mc_fl F).length D 1 hG hR (by omega) (by omega) hh hoP how (fun r' β lk lv fr to wh kn hf hb => ?_) (fun lk lv fr to wh kn hf => ?_)
        · rw [hf] at hst
          obtain ⟨_, hr8, hL0, w, hw, hm⟩ := mc_fr _ _ _ _ hf
          refine br_t (nI_pos' (by omega)) (nm_r (nI_1 t) ?_)
          refine pk_le (t + 1) 60 (fun h60 => ?_) (fun h60 => ?_)
          · refine pk_le (t + 1) 60 (fun _ => br_t rfl ?_) (fun z => absurd z (by omega))
            dsimp only at hst
            rw [if_neg (by omega)] at hst
            rcases hG r' with h | ⟨g1, g2, g3, g4, g5, g6, g7, g8⟩
            · exact absurd h hL0
            obtain ⟨b1, b2, b3⟩ := mc_mt (P := P) _ _ 1 _ _ hm how (fun x hx => h3 x (mc_or_mem hx)) (fun k => Or.inl rfl)
            refine yi_in r' D hG hR (by omega) hL0 (by omega) hb (fun q hq hq' => b3 q (mc_wy_mem' _ _ _ (g8 q hq hq')) hq') (fun mdk mdv hz => ?_)
            have hbl : (ru_in β (R r')).length < 100000 := by
              have hb9 : ∀ k, (β k).length ≤ 2000 := by
                intro k
                rcases b1 k with h | h
                · rw [h]; simp
                · by_cases hk8 : k < 4
                  · by_cases h0 : β k = []
                    · rw [h0]; simp
                    · obtain ⟨_, q, _, _, q3, _⟩ := ((hb.2 k hk8).1).2 h0
                      omega
                  · by_cases hk9 : k < 8
                    · by_cases h0 : β k = []
                      · rw [h0]; simp
                      · obtain ⟨j, rfl⟩ : ∃ j, k = 4 + j := ⟨k - 4, by omega⟩
                        obtain ⟨_, c, q, _⟩ := ((hb.2 j (by omega)).2).2 h0
                        rw [q]; simp
                    · exact mc_len_mt _ _ _ _ hm (by rw [hol]; omega) (fun _ => by simp) k
              have : ∀ l : List Int64, (ru_in β l).length ≤ 2000 * l.length := by
                intro l
                induction l with
                | nil => simp [ru_in]
                | cons x l ih =>
                  show ((if x < 8589934592 then [x] else β (ru_slot x)) ++ ru_in β l).length ≤ _
                  rw [List.length_append, List.length_cons]
                  have := hb9 (ru_slot x)
                  split
                  · simp; omega
                  · omega
              have := this (R r')
              omega
            refine pk_le (ru_in β (R r')).length 30 (fun hi30 => ?_) (fun hi30 => ?_)
            · rw [if_neg (by omega)] at hst
              have etk : (ru_in β (R r')).take 31 = ru_in β (R r') := List.take_of_length_le (by omega)
              rw [etk] at hz
              refine nm_r (Int32.sub_eq_add_neg _ _) ⟨(ru_in β (R r')).length + 1, ?_⟩
              refine yl_read (W := W) hz (by omega) (by omega) (fun tk tv hz2 => ?_) (ru_in β (R r')).reverse [] _ _ _ T _ (by rw [List.reverse_reverse, List.append_nil]) (by rw [List.nil_append, hT]) (by rw [List.length_reverse]) (by rw [List.nil_append]; exact hto) (by rw [List.length_reverse]; omega)
              exact HR _ _ (hst _ rfl) (nI 0) _ _ _ _ _ _ _ _ _ _ _ _ _ hz2 hh0
            · rw [if_pos (by omega)] at hst
              have hf3 := HF 3 (t + 1) (hst _ rfl) (by omega)
              have hmade : nI (ru_in β (R r')).length - 1 = nI ((ru_in β (R r')).length - 1) := by rw [show (1 : Int32) = nI 1 from rfl, pk_sub (by omega)]
              refine nm_r hmade ⟨1, br_f (nI_pos (by omega)) (br_f (by decide) ?_)⟩
              exact hf3 _ _ (nI 0) (nI 0) _ _ _ _ _ _ _ _ _ _ _ _ _
          · refine pk_le (t + 1) 60 (fun z => absurd z (by omega)) (fun _ => br_f (by decide) ?_)
            dsimp only at hst
            rw [if_pos (by omega)] at hst
            exact HF 2 (t + 1) (hst _ rfl) (by omega) _ _ (nI 0) (nI 0) _ _ _ _ _ _ _ _ _ _ _ _ _
        · rw [hf] at hst
          refine br_f (by decide) ?_
          have := HN (mc_or (o :: r)) t (hst _ rfl) (nI 0) f_made dk dv lk lv a_madeKind a_madeValue fr to wh kn (hy_app.mpr ⟨hh0, by rw [Nat.zero_add]; exact hh⟩)
          rw [hol, ← hD] at this
          exact this
      have har10 := tk_sym hot hk1 10 (by omega) (x := 10) (y := 10)
      have har11 := tk_sym hot hk1 11 (by omega) (x := 11) (y := 11)
      have arith : (o = 10 ∨ o = 11) → wY_replaced_48 post (nI (mc_fl F).length) (tk_vT o) f_place f_count (nI T) (nI D) f_open (nI t) f_shownSteps 0 f_in f_made f_old f_size f_heads f_fresh a_kind a_value a_all a_split a_toKind dk a_toValue dv a_begins a_lacks a_inKind a_leftKind a_madeKind a_oldKind a_resultKind a_inValue a_leftValue a_madeValue a_oldValue a_resultValue a_from a_to a_whole a_known a_bound a_whose a_rank a_one a_two a_oneOf a_twoOf a_headAt a_headOf a_headLeft a_pairs a_first := by
        intro ho
        have ho9 : ¬ o = 9 := by rcases ho with h | h <;> rw [h] <;> decide
        have hoar : tm_ar o = 2 := by rcases ho with h | h <;> rw [h] <;> decide
        have emo := mc_or_n (r := r) ho9
        rw [hoar] at hr
        obtain ⟨A, B, r0, e, hA, hB, hr0⟩ := tm_2 (m := 0) hr
        have := tm_w_0 hr0
        subst this
        rw [List.append_nil] at e
        obtain ⟨x, A', rfl, hA'⟩ := tm_w_pos hA
        obtain ⟨y, B', rfl, hB'⟩ := tm_w_pos hB
        have hlr : r.length = A'.length + 1 + (B'.length + 1) := by rw [e]; simp; omega
        rw [emo] at hh hoP
        have hxt : tk_t x := hoP x (by rw [e]; simp)
        have hx : dk ((mc_fl F).length + 1) = tk_kT x ∧ dv ((mc_fl F).length + 1) = tk_vT x := by
          have := hh.2
          rw [e] at this
          exact this.1
        have e1 : nI (mc_fl F).length + 1 = nI ((mc_fl F).length + 1) := nI_1 _
        have e2 : nI (mc_fl F).length + 2 = nI ((mc_fl F).length + 2) := nI_add _ 2
        have i1 : vp_in (nI (mc_fl F).length + 1) 2400 := by rw [e1]; exact vp_in_nI (by omega) (by omega)
        have i2 : vp_in (nI (mc_fl F).length + 2) 2400 := by rw [e2]; exact vp_in_nI (by omega) (by omega)
        have c1 : (nI (mc_fl F).length + 1).toNatClampNeg = (mc_fl F).length + 1 := by rw [e1]; exact nI_clamp (by omega)
        have c2 : (nI (mc_fl F).length + 2).toNatClampNeg = (mc_fl F).length + 2 := by rw [e2]; exact nI_clamp (by omega)
        refine ⟨i1, ?_⟩
        rw [c1, hx.1]
        have hNx := tk_N_Y hxt
        by_cases hxN : tk_N x
        · have ex0 : A' = [] := by rw [tk_N_ar hxt hxN] at hA'; exact tm_w_0 hA'
          subst ex0
          have hyt : tk_t y := hoP y (by rw [e]; simp)
          have hy : dk ((mc_fl F).length + 2) = tk_kT y ∧ dv ((mc_fl F).length + 2) = tk_vT y := by
            have := hh.2
            rw [e] at this
            exact this.2.1
          refine br_t (hNx.mpr hxN) ⟨i2, ?_⟩
          rw [c2, hy.1]
          have hNy := tk_N_Y hyt
          by_cases hyN : tk_N y
          · have ey0 : B' = [] := by rw [tk_N_ar hyt hyN] at hB'; exact tm_w_0 hB'
            subst ey0
            have er : r = [x, y] := e
            have hv : mc_ar (mc_or (o :: r)) = some (4294967296 + ((if o = 10 then x.toInt32 + y.toInt32 else x.toInt32 * y.toInt32).toInt64 &&& 4294967295)) := by
              rw [emo, er, mc_ar, if_pos ⟨ho, hxN, hyN⟩]
            have hst : ∀ z, (if 60 < t + 1 then Sum.inr (2, t + 1, []) else mc_fin W F (t + 1) [4294967296 + ((if o = 10 then x.toInt32 + y.toInt32 else x.toInt32 * y.toInt32).toInt64 &&& 4294967295)]) = z → mc_st L R W F t (some (o :: r)) = z := by
              intro z hz
              rw [mc_st, if_neg (by rw [List.length_cons]; omega), hv]
              exact hz
            refine br_t (hNy.mpr hyN) (nm_r (nI_1 t) ?_)
            refine pk_le (t + 1) 60 (fun h60 => ?_) (fun h60 => ?_)
            · refine pk_le (t + 1) 60 (fun _ => br_t rfl ?_) (fun z => absurd z (by omega))
              rw [if_neg (by omega)] at hst
              have fin : ∀ z : Int32, z = (if o = 10 then x.toInt32 + y.toInt32 else x.toInt32 * y.toInt32) → wY_replaced_124 post z 1 f_place f_count (nI T) (nI (mc_fl F).length) f_open (nI (t + 1)) f_shownSteps 0 f_in f_made f_old f_size f_heads f_fresh a_kind a_value a_all a_split a_toKind dk a_toValue dv a_begins a_lacks a_inKind a_leftKind a_madeKind a_oldKind a_resultKind a_inValue a_leftValue a_madeValue a_oldValue a_resultValue a_from a_to a_whole a_known a_bound a_whose a_rank a_one a_two a_oneOf a_twoOf a_headAt a_headOf a_headLeft a_pairs a_first := by
                intro z hz
                rw [← hz] at hst
                obtain ⟨_, q1, q2⟩ := tk_num z
                have := HN _ (t + 1) (hst _ rfl) (nI 0) f_made (upd dk (mc_fl F).length (tk_kT (4294967296 + (z.toInt64 &&& 4294967295)))) (upd dv (mc_fl F).length (tk_vT (4294967296 + (z.toInt64 &&& 4294967295)))) a_leftKind a_leftValue a_madeKind a_madeValue a_from a_to a_whole a_known (hy_snoc _ (by omega) hh0)
                have hfin := yr_fin (t := 4294967296 + (z.toInt64 &&& 4294967295)) (post := fun u => match u with | (f_place0, f_count0, f_top0, f_done0, f_open0, f_steps0, f_shownSteps0, f_fault0, f_in0, f_made0, f_old0, f_size0, f_heads0, f_fresh0, a_kind0, a_value0, a_all0, a_split0, a_toKind0, a_doneKind0, a_toValue0, a_doneValue0, a_begins0, a_lacks0, a_inKind0, a_leftKind0, a_madeKind0, a_oldKind0, a_resultKind0, a_inValue0, a_leftValue0, a_madeValue0, a_oldValue0, a_resultValue0, a_from0, a_to0, a_whole0, a_known0, a_bound0, a_whose0, a_rank0, a_one0, a_two0, a_oneOf0, a_twoOf0, a_headAt0, a_headOf0, a_headLeft0, a_pairs0, a_first0) => post 0 (f_place0, f_count0, f_top0, f_done0, f_open0, f_steps0, f_shownSteps0, f_fault0, f_in0, f_made0, f_old0, f_size0, f_heads0, f_fresh0, a_kind0, a_value0, a_all0, a_split0, a_toKind0, a_doneKind0, a_toValue0, a_doneValue0, a_begins0, a_lacks0, a_inKind0, a_leftKind0, a_madeKind0, a_oldKind0, a_resultKind0, a_inValue0, a_leftValue0, a_madeValue0, a_oldValue0, a_resultValue0, a_from0, a_to0, a_whole0, a_known0, a_bound0, a_whose0, a_rank0, a_one0, a_two0, a_oneOf0, a_twoOf0, a_headAt0, a_headOf0, a_headLeft0, a_pairs0, a_first0)) (f_place := f_place) (mc_fl F).length (by omega) this
                rw [q1, q2] at hfin
                exact hfin
              refine ⟨i1, nm_r (e' := x.toInt32) (by rw [hx.2, tk_vT_num hxN]) ⟨i2, nm_r (e' := y.toInt32) (by rw [hy.2, tk_vT_num hyN]) ?_⟩⟩
              by_cases h10 : o = 10
              · exact br_t (har10.mpr h10) (fin _ (by rw [if_pos h10]))
              · exact br_f (fun z => h10 (har10.mp z)) (fin _ (by rw [if_neg h10]))
            · refine pk_le (t + 1) 60 (fun z => absurd z (by omega)) (fun _ => br_f (by decide) ?_)
              rw [if_pos (by omega)] at hst
              exact HF 2 (t + 1) (hst _ rfl) (by omega) _ _ (nI 0) (nI 0) _ _ _ _ _ _ _ _ _ _ _ _ _
          · refine br_f (fun z => hyN (hNy.mp z)) (rule ?_)
            rw [emo, e]
            show mc_ar (o :: x :: y :: B') = none
            cases B' with
            | nil => rw [mc_ar, if_neg (fun z => hyN z.2.2)]
            | cons => rfl
        · refine br_f (fun z => hxN (hNx.mp z)) (rule ?_)
          rw [emo, e]
          unfold mc_ar
          split
          · rename_i o' x' y' eq
            injection eq with _ eq
            injection eq with eq _
            rw [if_neg (fun z => hxN (by rw [eq]; exact z.2.1))]
          · rfl
      by_cases h10 : o = 10
      · exact br_t (har10.mpr h10) (arith (Or.inl h10))
      · refine br_f (fun z => h10 (har10.mp z)) ?_
        by_cases h11 : o = 11
        · exact br_t (har11.mpr h11) (arith (Or.inr h11))
        · refine br_f (fun z => h11 (har11.mp z)) (rule ?_)
          obtain ⟨r', er'⟩ := mc_or_hd o r
          rw [er']
          unfold mc_ar
          split
          · rename_i o' x' y' eq
            injection eq with eq _
            rw [if_neg]
            rw [← eq]
            rintro ⟨z | z, _⟩
            · exact h10 z
            · exact h11 z
          · rfl
    · refine HF 3 t ?_ (by omega) _ _ (nI 0) (nI 0) _ _ _ _ _ _ _ _ _ _ _ _ _
      rw [mc_st, if_pos (by rw [List.length_cons]; omega)]
  refine ⟨hin, nm_r (e' := tk_vT o) (by rw [nI_clamp (by omega)]; exact hd2.1.2) ?_⟩
  have h9 := tk_sym hot hk1 9 (by omega) (x := 9) (y := 9)
  by_cases ho9 : o = 9
  · subst ho9
    refine br_t (h9.mpr rfl) ?_
    refine yo_sort (mc_fl F).length D h2 (fun x hx => hPt x (h3 x (List.mem_cons.mpr (Or.inr hx)))) hd2 hD (by omega) (fun dk dv g1 g2 g3 => key dk dv g1 (hy_keep hd1 g2 g3 (by omega)))
  · refine br_f (fun z => ho9 (h9.mp z)) (key _ _ ?_ hd1)
    rw [mc_or_n ho9]
    exact hd2
end
