/-! the reference: the normal form follows the machine -/
section
variable {f_place f_count f_top f_done f_open f_steps f_shownSteps f_fault f_in f_made f_old f_size f_heads f_fresh : Int32} {a_kind a_value a_all a_split a_toKind a_doneKind a_toValue a_doneValue a_begins a_lacks a_inKind a_leftKind a_madeKind a_oldKind a_resultKind a_inValue a_leftValue a_madeValue a_oldValue a_resultValue a_from a_to a_whole a_known a_bound a_whose a_rank a_one a_two a_oneOf a_twoOf a_headAt a_headOf a_headLeft a_pairs a_first : Nat → Int32}
variable {P : Int64 → Prop} {L R : Nat → List Int64}
theorem yn_32 {post : SY → Prop} {J2 : Int32 → Int32 → Int32 → Int32 → Int32 → Int32 → Int32 → Int32 → Int32 → Int32 → Int32 → Int32 → Int32 → Int32 → Int32 → (Nat → Int32) → (Nat → Int32) → (Nat → Int32) → (Nat → Int32) → (Nat → Int32) → (Nat → Int32) → (Nat → Int32) → (Nat → Int32) → (Nat → Int32) → (Nat → Int32) → (Nat → Int32) → (Nat → Int32) → (Nat → Int32) → (Nat → Int32) → (Nat → Int32) → (Nat → Int32) → (Nat → Int32) → (Nat → Int32) → (Nat → Int32) → (Nat → Int32) → (Nat → Int32) → (Nat → Int32) → (Nat → Int32) → (Nat → Int32) → (Nat → Int32) → (Nat → Int32) → (Nat → Int32) → (Nat → Int32) → (Nat → Int32) → (Nat → Int32) → (Nat → Int32) → (Nat → Int32) → (Nat → Int32) → (Nat → Int32) → (Nat → Int32) → (Nat → Int32) → Prop} {tp dn sp fa md : Int32} {tk tv dk dv lk lv mdk mdv fr to wh kn bg lc : Nat → Int32} {W s : List Int64} {F : List (List Int64 × Nat)} (t : Nat) (hF : mc_fo P F) (hFl : F.length < 2300) (hu : xn_fs bg lc F) (op : Nat) (hop : op = F.length)
    (He : F = [] → mc_fin W F t s = .inr (0, t, s) → post (f_place, f_count, tp, dn, nI 0, sp, f_shownSteps, fa, f_in, md, f_old, f_size, f_heads, f_fresh, a_kind, a_value, a_all, a_split, tk, dk, tv, dv, bg, lc, a_inKind, lk, mdk, a_oldKind, a_resultKind, a_inValue, lv, mdv, a_oldValue, a_resultValue, fr, to, wh, kn, a_bound, a_whose, a_rank, a_one, a_two, a_oneOf, a_twoOf, a_headAt, a_headOf, a_headLeft, a_pairs, a_first))
    (Hr : ∀ F' lc', mc_fin W F t s = .inl (W, F', t, none) → xn_fs bg lc' F' → mc_fl F' = mc_fl F ++ s → post (f_place, f_count, tp, dn, nI F'.length, sp, f_shownSteps, fa, f_in, md, f_old, f_size, f_heads, f_fresh, a_kind, a_value, a_all, a_split, tk, dk, tv, dv, bg, lc', a_inKind, lk, mdk, a_oldKind, a_resultKind, a_inValue, lv, mdv, a_oldValue, a_resultValue, fr, to, wh, kn, a_bound, a_whose, a_rank, a_one, a_two, a_oneOf, a_twoOf, a_headAt, a_headOf, a_headLeft, a_pairs, a_first))
    (Hc : ∀ F' s' lc', mc_fin W F t s = .inl (W, F', t, some s') → xn_fs bg lc' F' → mc_fl F' ++ s' = mc_fl F ++ s → J2 (nI (mc_fl F').length) f_place f_count tp dn (nI F'.length) sp f_shownSteps fa f_in md f_old f_size f_heads f_fresh a_kind a_value a_all a_split tk dk tv dv bg lc' a_inKind lk mdk a_oldKind a_resultKind a_inValue lv mdv a_oldValue a_resultValue fr to wh kn a_bound a_whose a_rank a_one a_two a_oneOf a_twoOf a_headAt a_headOf a_headLeft a_pairs a_first) :
    wY_complete_32 post J2 f_place f_count tp dn (nI op) sp f_shownSteps fa f_in md f_old f_size f_heads f_fresh a_kind a_value a_all a_split tk dk tv dv bg lc a_inKind lk mdk a_oldKind a_resultKind a_inValue lv mdv a_oldValue a_resultValue fr to wh kn a_bound a_whose a_rank a_one a_two a_oneOf a_twoOf a_headAt a_headOf a_headLeft a_pairs a_first := by
  subst hop
  cases F with
  | nil => exact br_t rfl (He rfl rfl)
  | cons a F =>
    obtain ⟨p, k⟩ := a
    obtain ⟨h1, h2, h3, h4, h5⟩ := hF p k (List.mem_cons.mpr (Or.inl rfl))
    have hl : ((p, k) :: F).length = F.length + 1 := rfl
    rw [hl] at hFl ⊢
    have e : nI (F.length + 1) - 1 = nI F.length := nI_pred _
    have hin : vp_in (nI (F.length + 1) - 1) 2400 := by rw [e]; exact vp_in_nI (by omega) (by omega)
    have ec : (nI (F.length + 1) - 1).toNatClampNeg = F.length := by rw [e]; exact nI_clamp (by omega)
    have elc : lc F.length - 1 = nI (k - 1) := by
      rw [hu.2.1]
      obtain ⟨j, rfl⟩ : ∃ j, k = j + 1 := ⟨k - 1, by omega⟩
      exact nI_pred j
    have hfl : mc_fl F ++ (p ++ s) = mc_fl ((p, k) :: F) ++ s := (List.append_assoc _ _ _).symm
    refine pk_eq (F.length + 1) 0 (fun z => absurd z (by omega)) (fun _ => ⟨hin, hin, ?_⟩)
    rw [ec, elc, tk_b (by omega)]
    refine nm_r (e' := upd lc F.length (nI (k - 1))) (by rw [(tk_nb (by omega)).2]) ?_
    have hu' : xn_fs bg (upd lc F.length (nI (k - 1))) F := xn_fs_congr (fun j hj => ⟨rfl, pk_un (by omega)⟩) hu.2.2
    refine pk_le (k - 1) 0 (fun hk => ?_) (fun hk => ?_)
    · have hk1 : k = 1 := by omega
      refine nm_r e ⟨hin, nm_r (e' := nI (mc_fl F).length) hu.1 ?_⟩
      refine Hc F (p ++ s) _ ?_ hu' hfl
      show (if k ≤ 1 then _ else _) = _
      rw [if_pos (by omega)]
    · refine Hr ((p ++ s, k - 1) :: F) _ ?_ ⟨hu.1, pk_us, hu'⟩ hfl
      show (if k ≤ 1 then _ else _) = _
      rw [if_neg (by omega)]
theorem yn_comp {post : SY → Prop} (hPt : ∀ x, P x → tk_t x) (hd : ∀ x, tk_d x → P x) (hG : mc_G L R) (hR : yr_R L R a_kind a_value a_all a_split) : ∀ (f : Nat) (W : List Int64) (F : List (List Int64 × Nat)) (t : Nat) (s : List Int64) (n st D T : Nat) (md : Int32) (tk tv dk dv lk lv mdk mdv fr to wh kn bg lc : Nat → Int32), mc_I P W F t (some s) → mc_mu W F t (some s) < f → st = (mc_fl F).length → D = st + s.length → T = W.length → hd_y tk_kT tk_vT tk tv 0 W.reverse → hd_y tk_kT tk_vT dk dv 0 (mc_fl F ++ s) → xn_fs bg lc F → f < n →
    (∀ c t' s', mc_run L R f W F t (some s) = (c, t', s') → ∀ (tp dn sp fa md op : Int32) (tk tv dk dv lk lv mdk mdv fr to wh kn bg lc : Nat → Int32), (c = 0 → tp = nI 0 ∧ dn = nI s'.length ∧ hd_y tk_kT tk_vT dk dv 0 s') → post (f_place, f_count, tp, dn, op, nI t', f_shownSteps, nI c, f_in, md, f_old, f_size, f_heads, f_fresh, a_kind, a_value, a_all, a_split, tk, dk, tv, dv, bg, lc, a_inKind, lk, mdk, a_oldKind, a_resultKind, a_inValue, lv, mdv, a_oldValue, a_resultValue, fr, to, wh, kn, a_bound, a_whose, a_rank, a_one, a_two, a_oneOf, a_twoOf, a_headAt, a_headOf, a_headLeft, a_pairs, a_first)) →
    (∀ f' W' F' t', f' < f → mc_run L R f W F t (some s) = mc_run L R f' W' F' t' none → mc_I P W' F' t' none → mc_mu W' F' t' none < f' → ∀ (dn tp op : Nat) (md : Int32) (tk tv dk dv lk lv mdk mdv fr to wh kn bg lc : Nat → Int32), tp = W'.length → dn = (mc_fl F').length → op = F'.length → hd_y tk_kT tk_vT tk tv 0 W'.reverse → hd_y tk_kT tk_vT dk dv 0 (mc_fl F') → xn_fs bg lc F' → post (f_place, f_count, nI tp, nI dn, nI op, nI t', f_shownSteps, 0, f_in, md, f_old, f_size, f_heads, f_fresh, a_kind, a_value, a_all, a_split, tk, dk, tv, dv, bg, lc, a_inKind, lk, mdk, a_oldKind, a_resultKind, a_inValue, lv, mdv, a_oldValue, a_resultValue, fr, to, wh, kn, a_bound, a_whose, a_rank, a_one, a_two, a_oneOf, a_twoOf, a_headAt, a_headOf, a_headLeft, a_pairs, a_first)) →
    wY_complete_2 post n (nI st) f_place f_count (nI T) (nI D) (nI F.length) (nI t) f_shownSteps 0 f_in md f_old f_size f_heads f_fresh a_kind a_value a_all a_split tk dk tv dv bg lc a_inKind lk mdk a_oldKind a_resultKind a_inValue lv mdv a_oldValue a_resultValue fr to wh kn a_bound a_whose a_rank a_one a_two a_oneOf a_twoOf a_headAt a_headOf a_headLeft a_pairs a_first
  | 0, W, F, t, s, n, st, D, T, md, tk, tv, dk, dv, lk, lv, mdk, mdv, fr, to, wh, kn, bg, lc, hI, hmu, hst, hD, hT, hto, hdn, hu, hn, HE, HR => absurd hmu (by omega)
  | f + 1, W, F, t, s, n, st, D, T, md, tk, tv, dk, dv, lk, lv, mdk, mdv, fr, to, wh, kn, bg, lc, hI, hmu, hst, hD, hT, hto, hdn, hu, hn, HE, HR => by
    obtain ⟨n, rfl⟩ : ∃ n', n = n' + 1 := ⟨n - 1, by omega⟩
    have hlen := xn_st_len hI
    have hlF : (xn_F (some s) F).length = F.length + 1 := rfl
    have hlB : (mc_fl (xn_F (some s) F)).length = (mc_fl F).length + s.length := List.length_append
    rw [hlB, hlF] at hlen
    have hpres : ∀ W' F' t' m', mc_st L R W F t (some s) = .inl (W', F', t', m') → mc_I P W' F' t' m' ∧ mc_mu W' F' t' m' < f := by
      intro W' F' t' m' e
      rcases mc_pres hd hG hI with ⟨W1, F1, t1, m1, e1, e2, e3⟩ | ⟨c, t1, s1, e1, e2, e3, e4⟩
      · rw [e] at e1
        injection e1 with e1
        injection e1 with g1 e1
        injection e1 with g2 e1
        injection e1 with g3 g4
        subst g1 g2 g3 g4
        exact ⟨e2, by omega⟩
      · rw [e] at e1
        exact absurd e1 (by simp)
    have hfinish : ∀ (s' : List Int64) (t' : Nat) (dn : Nat) (md : Int32) (dk dv lk lv mdk mdv fr to wh kn : Nat → Int32), mc_st L R W F t (some s) = mc_fin W F t' s' → dn = st + s'.length → hd_y tk_kT tk_vT dk dv 0 (mc_fl F ++ s') → wY_complete_32 post (wY_complete_2 post n) f_place f_count (nI T) (nI dn) (nI F.length) (nI t') f_shownSteps 0 f_in md f_old f_size f_heads f_fresh a_kind a_value a_all a_split tk dk tv dv bg lc a_inKind lk mdk a_oldKind a_resultKind a_inValue lv mdv a_oldValue a_resultValue fr to wh kn a_bound a_whose a_rank a_one a_two a_oneOf a_twoOf a_headAt a_headOf a_headLeft a_pairs a_first := by
      intro s' t' dn md dk dv lk lv mdk mdv fr to wh kn est hdn' hh
      have hF := hI.2.2.1
      have hw := hI.2.2.2.1
      refine yn_32 (P := P) (W := W) (s := s') t' hF (by omega) hu F.length rfl (fun eF e0 => ?_) (fun F' lc' e0 g1 g2 => ?_) (fun F' s2 lc' e0 g1 g2 => ?_)
      · subst eF
        have eW : W = [] := tm_w_0 hw
        subst eW
        have hst0 : st = 0 := hst
        refine HE 0 t' s' (by rw [mc_run, est, e0]) _ _ (nI 0) (nI 0) md _ _ _ _ _ _ _ _ _ _ _ _ _ _ _ (fun _ => ⟨by rw [hT]; rfl, by rw [hdn', hst0, Nat.zero_add], hh⟩)
      · obtain ⟨p1, p2⟩ := hpres _ _ _ _ (est.trans e0)
        refine HR f W F' t' (by omega) (by rw [mc_run, est, e0]) p1 p2 dn T F'.length md _ _ _ _ _ _ _ _ _ _ _ _ _ _ hT ?_ rfl hto (by rw [g2]; exact hh) g1
        rw [g2, List.length_append, hdn', hst]
      · obtain ⟨p1, p2⟩ := hpres _ _ _ _ (est.trans e0)
        refine yn_comp hPt hd hG hR f W F' t' s2 n (mc_fl F').length dn T md _ _ _ _ _ _ _ _ _ _ _ _ _ _ p1 p2 rfl ?_ hT hto (by rw [g2]; exact hh) g1 (by omega) (fun c t2 s3 er => HE c t2 s3 ?_) (fun f' W' F2 t2 hf er => HR f' W' F2 t2 (by omega) ?_)
        · have := congrArg List.length g2
          rw [List.length_append, List.length_append] at this
          omega
        · rw [mc_run, est, e0]; exact er
        · rw [mc_run, est, e0]; exact er
    have hin : vp_in (nI st) 2400 := vp_in_nI (by omega) (by omega)
    refine br_f (nI_pos (by omega)) (br_t rfl ⟨hin, ?_⟩)
    have hs2 := hI.2.2.2.2.1
    obtain ⟨o, r, eo, hr⟩ := tm_w_pos hs2
    have hot := hPt o (hI.2.2.2.2.2.1 o (by rw [eo]; simp))
    have hdo : dk st = tk_kT o ∧ dv st = tk_vT o := by
      have := (hy_app.mp hdn).2
      rw [eo, Nat.zero_add, ← hst] at this
      exact this.1
    rw [nI_clamp (by omega), hdo.1]
    by_cases hk : tk_kT o = 1
    · refine br_t hk ?_
      have hN := (tk_N_Y hot).mp hk
      have hr0 : r = [] := by rw [tk_N_ar hot hN] at hr; exact tm_w_0 hr
      subst hr0
      have ho9 : ¬ o = 9 := by intro z; rw [z] at hN; exact absurd hN (by decide)
      have hLs : ∀ r, L r = [] ∨ ∃ t l, L r = t :: l ∧ t < 4294967296 := fun r => by
        rcases hG r with h | h
        · exact Or.inl h
        · exact Or.inr h.2.2.2.2.2.1
      refine hfinish s t D md dk dv lk lv mdk mdv fr to wh kn ?_ hD hdn
      have har : mc_ar [o] = none := rfl
      rw [eo, mc_st, if_neg (by simp), mc_or_n ho9, har, ru_fr_num hN hLs]
    · refine br_f hk ?_
      refine yn_repl hPt hG hR hI st D T hst hD hT (fun c r' e => ?_) hto hdn (fun c t' e hc tp dn sp fa md tk tv dk dv lk lv mdk mdv fr to wh kn => ?_) (fun W' t' e dn md tk tv dk dv lk lv mdk mdv fr to wh kn g1 g2 => ?_) (fun s' t' e dn md dk dv lk lv mdk mdv fr to wh kn g1 => ?_)
      · rw [eo] at e
        injection e with e _
        rw [← e]
        exact hk
      · refine br_f (by decide) ?_
        exact HE c t' [] (by rw [mc_run, e]) _ _ (nI 0) (nI 0) _ _ _ _ _ _ _ _ _ _ _ _ _ _ _ _ (fun z => absurd z hc)
      · refine br_f (by decide) ?_
        obtain ⟨p1, p2⟩ := hpres _ _ _ _ e
        exact HR f W' F t' (by omega) (by rw [mc_run, e]) p1 p2 st W'.length F.length md _ _ _ _ _ _ _ _ _ _ _ _ _ _ rfl hst rfl g1 g2 hu
      · exact br_t rfl (hfinish s' t' (st + s'.length) md dk dv lk lv mdk mdv fr to wh kn e rfl g1)
theorem yn_53 {post : Int32 → SY → Prop} (hPt : ∀ x, P x → tk_t x) (hd : ∀ x, tk_d x → P x) (hG : mc_G L R) (hR : yr_R L R a_kind a_value a_all a_split) : ∀ (f0 f : Nat) (W : List Int64) (F : List (List Int64 × Nat)) (t : Nat) (n dn tp op : Nat) (md : Int32) (tk tv dk dv lk lv mdk mdv fr to wh kn bg lc : Nat → Int32), f ≤ f0 → mc_I P W F t none → mc_mu W F t none < f → tp = W.length → dn = (mc_fl F).length → op = F.length → hd_y tk_kT tk_vT tk tv 0 W.reverse → hd_y tk_kT tk_vT dk dv 0 (mc_fl F) → xn_fs bg lc F → f + 1 < n →
    (∀ c t' s', mc_run L R f W F t none = (c, t', s') → ∀ (tp dn sp fa md op : Int32) (tk tv dk dv lk lv mdk mdv fr to wh kn bg lc : Nat → Int32), (c = 0 → dn = nI s'.length ∧ hd_y tk_kT tk_vT dk dv 0 s') → post (nI c) (f_place, f_count, tp, dn, op, nI t', f_shownSteps, nI c, f_in, md, f_old, f_size, f_heads, f_fresh, a_kind, a_value, a_all, a_split, tk, dk, tv, dv, bg, lc, a_inKind, lk, mdk, a_oldKind, a_resultKind, a_inValue, lv, mdv, a_oldValue, a_resultValue, fr, to, wh, kn, a_bound, a_whose, a_rank, a_one, a_two, a_oneOf, a_twoOf, a_headAt, a_headOf, a_headLeft, a_pairs, a_first)) →
    wY_normal_53 post n f_place f_count (nI tp) (nI dn) (nI op) (nI t) f_shownSteps 0 f_in md f_old f_size f_heads f_fresh a_kind a_value a_all a_split tk dk tv dv bg lc a_inKind lk mdk a_oldKind a_resultKind a_inValue lv mdv a_oldValue a_resultValue fr to wh kn a_bound a_whose a_rank a_one a_two a_oneOf a_twoOf a_headAt a_headOf a_headLeft a_pairs a_first
  | 0, f, W, F, t, n, dn, tp, op, md, tk, tv, dk, dv, lk, lv, mdk, mdv, fr, to, wh, kn, bg, lc, hf0, hI, hmu, htp, hdn', hop, hto, hdn, hu, hn, H => absurd hmu (by omega)
  | f0 + 1, f, W, F, t, n, dn, tp, op, md, tk, tv, dk, dv, lk, lv, mdk, mdv, fr, to, wh, kn, bg, lc, hf0, hI, hmu, htp, hdn', hop, hto, hdn, hu, hn, H => by
    obtain ⟨n, rfl⟩ : ∃ n', n = n' + 1 := ⟨n - 1, by omega⟩
    obtain ⟨f, rfl⟩ : ∃ f', f = f' + 1 := ⟨f - 1, by omega⟩
    have hlen := xn_st_len hI
    have hl1 : (mc_fl (xn_F none F)).length = (mc_fl F).length := rfl
    have hl2 : (xn_F none F).length = F.length := rfl
    rw [hl1, hl2] at hlen
    obtain ⟨ht, hW, hF, h1, h2⟩ := hI
    cases W with
    | nil => rw [tm_w_nil] at h1; omega
    | cons c W =>
      have hlW : (c :: W).length = W.length + 1 := rfl
      rw [hlW] at htp hlen
      subst htp hdn' hop
      have hct := hPt c (hW c (List.mem_cons.mpr (Or.inl rfl)))
      have ht1 : tk W.length = tk_kT c ∧ tv W.length = tk_vT c := by
        rw [List.reverse_cons] at hto
        have := (hy_app.mp hto).2.1
        rwa [Nat.zero_add, List.length_reverse] at this
      have hto' : hd_y tk_kT tk_vT tk tv 0 W.reverse := by
        rw [List.reverse_cons] at hto
        exact (hy_app.mp hto).1
      have hin : vp_in (nI W.length) 2400 := vp_in_nI (by omega) (by omega)
      have ec : (nI W.length).toNatClampNeg = W.length := nI_clamp (by omega)
      have hI0 : mc_I P (c :: W) F t none := ⟨ht, hW, hF, h1, h2⟩
      refine pk_le (W.length + 1) 0 (fun z => absurd z (by omega)) (fun _ => br_t rfl (nm_r (nI_pred _) ⟨hin, hin, ?_⟩))
      rw [ec, ht1.1, ht1.2]
      refine tk_arT hct ⟨hin, hin, yr_fin (mc_fl F).length (by omega) ?_⟩
      have hdn2 : hd_y tk_kT tk_vT (upd dk (mc_fl F).length (tk_kT c)) (upd dv (mc_fl F).length (tk_vT c)) 0 (mc_fl F ++ [c]) := hy_snoc _ (by omega) hdn
      have hpres : ∀ W' F' t' m', mc_st L R (c :: W) F t none = .inl (W', F', t', m') → mc_I P W' F' t' m' ∧ mc_mu W' F' t' m' < f := by
        intro W' F' t' m' e
        rcases mc_pres hd hG hI0 with ⟨W1, F1, t1, m1, e1, e2, e3⟩ | ⟨c, t1, s1, e1, e2, e3, e4⟩
        · rw [e] at e1
          injection e1 with e1
          injection e1 with g1 e1
          injection e1 with g2 e1
          injection e1 with g3 g4
          subst g1 g2 g3 g4
          exact ⟨e2, by omega⟩
        · rw [e] at e1
          exact absurd e1 (by simp)
      refine pk_le (tm_ar c) 0 (fun ha => ?_) (fun ha => ?_) rfl rfl (by have := tm_ar_le c; omega)
      · have ha0 : tm_ar c = 0 := by omega
        have est : mc_st L R (c :: W) F t none = .inl (W, F, t, some [c]) := if_pos ha0
        obtain ⟨p1, p2⟩ := hpres _ _ _ _ est
        refine ⟨f + 1, ?_⟩
        refine yn_comp hPt hd hG hR f W F t [c] (f + 1) (mc_fl F).length ((mc_fl F).length + 1) W.length md _ _ _ _ _ _ _ _ _ _ _ _ _ _ p1 p2 rfl rfl rfl hto' hdn2 hu (by omega) (fun c' t' s' er tp dn sp fa md op tk tv dk dv lk lv mdk mdv fr to wh kn bg lc hz => ?_) (fun f' W' F' t' hf er q1 q2 dn tp op md tk tv dk dv lk lv mdk mdv fr to wh kn bg lc a1 a2 a3 a4 a5 a6 => ?_)
        · obtain ⟨n, rfl⟩ : ∃ n', n = n' + 1 := ⟨n - 1, by omega⟩
          have hp := H c' t' s' (by rw [mc_run, est]; exact er) tp dn (nI 0) (nI 0) md op tk tv dk dv lk lv mdk mdv fr to wh kn bg lc (fun z => (hz z).2)
          refine br_c (fun _ => hp) (fun htp => br_c (fun hc0 => ?_) (fun _ => hp))
          exfalso
          have hc00 : c' = 0 := by
            obtain ⟨c1, t1, s1, e1, e2, e3, e4⟩ := mc_run_ok hd hG f W F t (some [c]) p1 p2
            rw [er] at e1
            injection e1 with e1 _
            subst e1
            have := tk_inj (hc0.trans nI_0.symm)
            omega
          rw [(hz hc00).1] at htp
          exact htp (by decide)
        · refine yn_53 hPt hd hG hR f0 f' W' F' t' n dn tp op md tk tv dk dv lk lv mdk mdv fr to wh kn bg lc (by omega) q1 q2 a1 a2 a3 a4 a5 a6 (by omega) (fun c2 t2 s2 er2 => H c2 t2 s2 ?_)
          rw [mc_run, est]
          exact er.trans er2
      · have hal := tm_ar_le c
        have est : mc_st L R (c :: W) F t none = .inl (W, ([c], tm_ar c) :: F, t, none) := if_neg (by omega)
        obtain ⟨p1, p2⟩ := hpres _ _ _ _ est
        have hino : vp_in (nI F.length) 2400 := vp_in_nI (by omega) (by omega)
        have eo : (nI F.length).toNatClampNeg = F.length := nI_clamp (by omega)
        refine ⟨hino, nm_r (e' := upd bg F.length (nI (mc_fl F).length)) (by rw [eo, (tk_ns (by omega)).1]) (nm_r (nI_1 _) ⟨hino, nm_r (e' := upd lc F.length (nI (tm_ar c))) (by rw [eo, (tk_nb (by omega)).1]) ?_⟩)⟩
        refine yn_53 hPt hd hG hR f0 f W (([c], tm_ar c) :: F) t n ((mc_fl F).length + 1) W.length (F.length + 1) md _ _ _ _ _ _ _ _ _ _ _ _ _ _ (by omega) p1 p2 rfl ?_ rfl hto' hdn2 ⟨pk_us, pk_us, xn_fs_congr (fun j hj => ⟨pk_un (by omega), pk_un (by omega)⟩) hu⟩ (by omega) (fun c2 t2 s2 er2 => H c2 t2 s2 ?_)
        · show _ = (mc_fl F ++ [c]).length
          rw [List.length_append]; rfl
        · rw [mc_run, est]; exact er2
theorem yn_27 {post : Int32 → SY → Prop} {q : List Int64} (hq : hd_y tk_kT tk_vT a_inKind a_inValue 0 q) (hq31 : q.length ≤ 31) (H : ∀ tk tv, hd_y tk_kT tk_vT tk tv 0 q.reverse → ∃ n53, wY_normal_53 post n53 f_place f_count (nI q.length) f_done f_open f_steps f_shownSteps f_fault f_in f_made f_old f_size f_heads f_fresh a_kind a_value a_all a_split tk a_doneKind tv a_doneValue a_begins a_lacks a_inKind a_leftKind a_madeKind a_oldKind a_resultKind a_inValue a_leftValue a_madeValue a_oldValue a_resultValue a_from a_to a_whole a_known a_bound a_whose a_rank a_one a_two a_oneOf a_twoOf a_headAt a_headOf a_headLeft a_pairs a_first) : ∀ (p q2 : List Int64) (tk tv : Nat → Int32) (n w : Nat) (x1 : Int32), q = p.reverse ++ q2 → w = q2.length → x1 = nI p.length + (-1) → hd_y tk_kT tk_vT tk tv 0 q2.reverse → p.length < n → wY_normal_27 post n x1 f_place f_count (nI w) f_done f_open f_steps f_shownSteps f_fault f_in f_made f_old f_size f_heads f_fresh a_kind a_value a_all a_split tk a_doneKind tv a_doneValue a_begins a_lacks a_inKind a_leftKind a_madeKind a_oldKind a_resultKind a_inValue a_leftValue a_madeValue a_oldValue a_resultValue a_from a_to a_whole a_known a_bound a_whose a_rank a_one a_two a_oneOf a_twoOf a_headAt a_headOf a_headLeft a_pairs a_first
  | [], q2, tk, tv, n, w, x4, e, hw, hx, hz, hn => by
    obtain ⟨n, rfl⟩ : ∃ n', n = n' + 1 := ⟨n - 1, by omega⟩
    subst hx
    rw [List.reverse_nil, List.nil_append] at e
    subst e
    rw [hw]
    exact br_t (by decide) (H tk tv hz)
  | t :: p, q2, tk, tv, n, w, x4, e, hw, hx, hz, hn => by
    obtain ⟨n, rfl⟩ : ∃ n', n = n' + 1 := ⟨n - 1, by omega⟩
    rw [List.length_cons] at hn hx
    rw [pk_m1] at hx
    subst hx
    rw [List.reverse_cons, List.append_assoc] at e
    have hlen : q.length = p.length + (q2.length + 1) := by rw [e]; simp
    have hin : vp_in (nI p.length) 32 := vp_in_nI (by omega) (by omega)
    have et : a_inKind p.length = tk_kT t ∧ a_inValue p.length = tk_vT t := by
      have hh := hq
      rw [e] at hh
      have := (hy_app.mp hh).2.1
      rwa [Nat.zero_add, List.length_reverse] at this
    refine br_f (nI_pos (by omega)) ⟨hin, hin, ?_⟩
    rw [nI_clamp (by omega), et.1, et.2]
    refine yr_read w (by omega) (nm_e ?_)
    refine yn_27 hq hq31 H p (t :: q2) _ _ n (w + 1) _ e (by simp; omega) rfl ?_ (by omega)
    rw [List.reverse_cons]
    exact hy_snoc w (by simp; omega) hz
theorem yn_nf {post : Int32 → SY → Prop} {q : List Int64} (k t0 : Nat) (hPt : ∀ x, P x → tk_t x) (hd : ∀ x, tk_d x → P x) (hG : mc_G L R) (hR : yr_R L R a_kind a_value a_all a_split) (hq : tm_w q 1) (h30 : q.length ≤ 30) (hP : ∀ x, x ∈ q → P x) (ht : t0 ≤ 60) (hk : k = q.length) (hs : hd_y tk_kT tk_vT a_inKind a_inValue 0 q)
    (H : ∀ c t' s', mc_run L R 4000 q [] t0 none = (c, t', s') → ∀ (tp dn sp fa md op : Int32) (tk tv dk dv lk lv mdk mdv fr to wh kn bg lc : Nat → Int32), (c = 0 → dn = nI s'.length ∧ hd_y tk_kT tk_vT dk dv 0 s') → post (nI c) (f_place, f_count, tp, dn, op, nI t', f_shownSteps, nI c, nI k, md, f_old, f_size, f_heads, f_fresh, a_kind, a_value, a_all, a_split, tk, dk, tv, dv, bg, lc, a_inKind, lk, mdk, a_oldKind, a_resultKind, a_inValue, lv, mdv, a_oldValue, a_resultValue, fr, to, wh, kn, a_bound, a_whose, a_rank, a_one, a_two, a_oneOf, a_twoOf, a_headAt, a_headOf, a_headLeft, a_pairs, a_first)) : wpY_normal post (f_place, f_count, f_top, f_done, f_open, nI t0, f_shownSteps, f_fault, nI k, f_made, f_old, f_size, f_heads, f_fresh, a_kind, a_value, a_all, a_split, a_toKind, a_doneKind, a_toValue, a_doneValue, a_begins, a_lacks, a_inKind, a_leftKind, a_madeKind, a_oldKind, a_resultKind, a_inValue, a_leftValue, a_madeValue, a_oldValue, a_resultValue, a_from, a_to, a_whole, a_known, a_bound, a_whose, a_rank, a_one, a_two, a_oneOf, a_twoOf, a_headAt, a_headOf, a_headLeft, a_pairs, a_first) := by
  obtain ⟨hI, hmu⟩ := mc_I0 hq h30 hP ht
  refine nm_r (Int32.sub_eq_add_neg _ _) ⟨q.length + 1, ?_⟩
  rw [← nI_0]
  refine yn_27 hs (by omega) (fun tk tv hz => ⟨4002, ?_⟩) q.reverse [] a_toKind a_toValue _ 0 _ (by rw [List.reverse_reverse, List.append_nil]) rfl (by rw [List.length_reverse, hk]) trivial (by rw [List.length_reverse]; omega)
  exact yn_53 hPt hd hG hR 4000 4000 q [] t0 4002 0 q.length 0 _ _ _ _ _ _ _ _ _ _ _ _ _ _ _ (by omega) hI hmu rfl rfl rfl hz trivial trivial (by omega) H
end
