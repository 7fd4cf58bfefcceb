/-! the reference: the match -/
def yf_b (dk dv fr to wh kn : Nat → Int32) (D : Nat) (β : Nat → List Int64) : Prop := (∀ k t, t ∈ β k → tk_t t) ∧ ∀ k, k < 4 → ((β k = [] → fr k = -1) ∧ (β k ≠ [] → tm_w (β k) 1 ∧ ∃ st, fr k = nI st ∧ to k = nI (st + (β k).length) ∧ st + (β k).length ≤ D ∧ hd_y tk_kT tk_vT dk dv st (β k))) ∧ ((β (4 + k) = [] → kn k = 0) ∧ (β (4 + k) ≠ [] → kn k = 1 ∧ ∃ c, β (4 + k) = [c] ∧ tk_N c ∧ wh k = tk_vT c))
theorem yf_nb1 : vp_nar .boolean 1 = 1 := by decide
theorem yf_nb0 : vp_nar .boolean 0 = 0 := by decide
theorem yf_nsm : vp_nar .short (-1) = -1 := by rw [vp_nar_short]; decide
theorem yf_new {dk dv fr to wh kn : Nat → Int32} {D : Nat} {β : Nat → List Int64} (h : yf_b dk dv fr to wh kn D β) {k i : Nat} {a : List Int64} (hk : k < 4) (ha : a ≠ []) (hat : ∀ t, t ∈ a → tk_t t) (haw : tm_w a 1) (hh : hd_y tk_kT tk_vT dk dv i a) (hB : i + a.length ≤ D) : yf_b dk dv (upd fr k (nI i)) (upd to k (nI (i + a.length))) wh kn D (fun j => if j = k then a else β j) := by
  refine ⟨fun j t ht => ?_, fun j hj => ?_⟩
  · dsimp only at ht
    by_cases e : j = k
    · rw [if_pos e] at ht; exact hat t ht
    · rw [if_neg e] at ht; exact h.1 j t ht
  · dsimp only
    refine ⟨?_, ?_⟩
    · by_cases e : j = k
      · subst e
        rw [if_pos rfl, pk_us, pk_us]
        exact ⟨fun z => absurd z ha, fun _ => ⟨haw, i, rfl, rfl, hB, hh⟩⟩
      · rw [if_neg e, pk_un e, pk_un e]
        exact (h.2 j hj).1
    · rw [if_neg (by omega)]
      exact (h.2 j hj).2
theorem yf_whole {dk dv fr to wh kn : Nat → Int32} {D : Nat} {β : Nat → List Int64} (h : yf_b dk dv fr to wh kn D β) {k : Nat} {c : Int64} (hk : k < 4) (hc : tk_t c) (hN : tk_N c) : yf_b dk dv fr to (upd wh k (tk_vT c)) (upd kn k 1) D (fun j => if j = 4 + k then [c] else β j) := by
  refine ⟨fun j t ht => ?_, fun j hj => ?_⟩
  · dsimp only at ht
    by_cases e : j = 4 + k
    · rw [if_pos e, List.mem_singleton] at ht; rw [ht]; exact hc
    · rw [if_neg e] at ht; exact h.1 j t ht
  · dsimp only
    refine ⟨?_, ?_⟩
    · rw [if_neg (by omega)]
      exact (h.2 j hj).1
    · by_cases e : j = k
      · subst e
        rw [if_pos rfl, pk_us, pk_us]
        exact ⟨fun z => absurd z (by simp), fun _ => ⟨rfl, c, rfl, hN, rfl⟩⟩
      · rw [if_neg (by omega), pk_un e, pk_un e]
        exact (h.2 j hj).2
section
variable {f_place f_count f_top f_done f_open f_steps f_shownSteps f_fault f_in f_made f_old f_size f_heads f_fresh : Int32} {a_kind a_value a_all a_split a_toKind a_doneKind a_toValue a_doneValue a_begins a_lacks a_inKind a_leftKind a_madeKind a_oldKind a_resultKind a_inValue a_leftValue a_madeValue a_oldValue a_resultValue a_from a_to a_whole a_known a_bound a_whose a_rank a_one a_two a_oneOf a_twoOf a_headAt a_headOf a_headLeft a_pairs a_first : Nat → Int32}
theorem yf_same {post : Int32 → Prop} {a b e : Nat} (he : e ≤ 2400) : ∀ (o w : List Int64) (m k n : Nat), tm_w o m → tm_w w m → b + k + w.length = e → a + k + o.length ≤ 2400 → hd_y tk_kT tk_vT a_doneKind a_doneValue (a + k) o → hd_y tk_kT tk_vT a_doneKind a_doneValue (b + k) w → (∀ t, t ∈ o → tk_t t) → (∀ t, t ∈ w → tk_t t) → w.length < n → (o = w → post 1) → (o ≠ w → post 0) → wY_sameDone_3 post (nI a) (nI b) (nI e) f_place f_count f_top f_done f_open f_steps f_shownSteps f_fault f_in f_made f_old f_size f_heads f_fresh a_kind a_value a_all a_split a_toKind a_doneKind a_toValue a_doneValue a_begins a_lacks a_inKind a_leftKind a_madeKind a_oldKind a_resultKind a_inValue a_leftValue a_madeValue a_oldValue a_resultValue a_from a_to a_whole a_known a_bound a_whose a_rank a_one a_two a_oneOf a_twoOf a_headAt a_headOf a_headLeft a_pairs a_first n (nI k)
  | [], w, m, k, n, h1, h2, h3, h4, h5, h6, t1, t2, hn, Hy, Hz => by
    obtain ⟨n, rfl⟩ : ∃ n', n = n' + 1 := ⟨n - 1, by omega⟩
    rw [tm_w_nil] at h1
    subst h1
    have := tm_w_0 h2
    subst this
    rw [List.length_nil] at h3
    exact pk_le e (b + k) (fun _ => Hy rfl) (fun z => absurd z (by omega)) rfl (nI_add _ _)
  | x :: o, [], m, k, n, h1, h2, h3, h4, h5, h6, t1, t2, hn, Hy, Hz => by
    rw [tm_w_nil] at h2
    subst h2
    exact absurd h1.1 (by omega)
  | x :: o, y :: w, m, k, n, h1, h2, h3, h4, h5, h6, t1, t2, hn, Hy, Hz => by
    obtain ⟨n, rfl⟩ : ∃ n', n = n' + 1 := ⟨n - 1, by omega⟩
    rw [List.length_cons] at h3 h4 hn
    obtain ⟨j, rfl, h1'⟩ := tm_w_ne h1
    have h2' := tm_w_cons.mp h2
    have i1 : vp_in (nI a + nI k) 2400 := by rw [nI_add]; exact vp_in_nI (by omega) (by omega)
    have i2 : vp_in (nI b + nI k) 2400 := by rw [nI_add]; exact vp_in_nI (by omega) (by omega)
    have c1 : (nI a + nI k).toNatClampNeg = a + k := by rw [nI_add]; exact nI_clamp (by omega)
    have c2 : (nI b + nI k).toNatClampNeg = b + k := by rw [nI_add]; exact nI_clamp (by omega)
    refine pk_le e (b + k) (fun z => absurd z (by omega)) (fun _ => ⟨i1, i2, ?_⟩) rfl (nI_add _ _)
    rw [c1, c2, h5.1.1, h6.1.1, h5.1.2, h6.1.2]
    have tx := t1 x (List.mem_cons.mpr (Or.inl rfl))
    have ty := t2 y (List.mem_cons.mpr (Or.inl rfl))
    by_cases hk : tk_kT x = tk_kT y
    · refine br_t hk ⟨i1, i2, ?_⟩
      by_cases hv : tk_vT x = tk_vT y
      · have exy := tk_T_inj tx ty hk hv
        subst exy
        exact br_t hv (nm_r (nI_1 k) (yf_same he o w _ (k + 1) n h1' h2' (by omega) (by omega) h5.2 h6.2 (fun t ht => t1 t (List.mem_cons.mpr (Or.inr ht))) (fun t ht => t2 t (List.mem_cons.mpr (Or.inr ht))) (by omega) (fun z => Hy (by rw [z])) (fun z => Hz (fun q => z (by injection q)))))
      · exact br_f hv (Hz (fun q => hv (by injection q with q1 _; rw [q1])))
    · exact br_f hk (Hz (fun q => hk (by injection q with q1 _; rw [q1])))
theorem yf_l {post : Int32 → SY → Prop} {N D : Nat} (hN : N ≤ 30) (hD : D ≤ 2000) : ∀ (ps s : List Int64) (m pos k n : Nat) (β : Nat → List Int64) (fr to wh kn : Nat → Int32), k + ps.length = N → pos + s.length = D → hd_y tk_kR tk_vR a_leftKind a_leftValue k ps → hd_y tk_kT tk_vT a_doneKind a_doneValue pos s → (∀ t, t ∈ ps → tk_r t) → (∀ t, t ∈ s → tk_t t) → tm_w s m → yf_b a_doneKind a_doneValue fr to wh kn D β → ps.length < n → (∀ β' fr to wh kn, ru_mt ps s β = some β' → yf_b a_doneKind a_doneValue fr to wh kn D β' → post 1 (f_place, f_count, f_top, f_done, f_open, f_steps, f_shownSteps, f_fault, f_in, f_made, f_old, f_size, f_heads, f_fresh, a_kind, a_value, a_all, a_split, a_toKind, a_doneKind, a_toValue, a_doneValue, a_begins, a_lacks, a_inKind, a_leftKind, a_madeKind, a_oldKind, a_resultKind, a_inValue, a_leftValue, a_madeValue, a_oldValue, a_resultValue, fr, to, wh, kn, a_bound, a_whose, a_rank, a_one, a_two, a_oneOf, a_twoOf, a_headAt, a_headOf, a_headLeft, a_pairs, a_first)) → (∀ fr to wh kn, ru_mt ps s β = none → post 0 (f_place, f_count, f_top, f_done, f_open, f_steps, f_shownSteps, f_fault, f_in, f_made, f_old, f_size, f_heads, f_fresh, a_kind, a_value, a_all, a_split, a_toKind, a_doneKind, a_toValue, a_doneValue, a_begins, a_lacks, a_inKind, a_leftKind, a_madeKind, a_oldKind, a_resultKind, a_inValue, a_leftValue, a_madeValue, a_oldValue, a_resultValue, fr, to, wh, kn, a_bound, a_whose, a_rank, a_one, a_two, a_oneOf, a_twoOf, a_headAt, a_headOf, a_headLeft, a_pairs, a_first)) → wY_fits_37 post (nI N) (nI D) f_place f_count f_top f_done f_open f_steps f_shownSteps f_fault f_in f_made f_old f_size f_heads f_fresh n (nI pos) (nI k) a_kind a_value a_all a_split a_toKind a_doneKind a_toValue a_doneValue a_begins a_lacks a_inKind a_leftKind a_madeKind a_oldKind a_resultKind a_inValue a_leftValue a_madeValue a_oldValue a_resultValue fr to wh kn a_bound a_whose a_rank a_one a_two a_oneOf a_twoOf a_headAt a_headOf a_headLeft a_pairs a_first
  | [], s, m, pos, k, n, β, fr, to, wh, kn, h1, h2, h3, h4, h5, h6, h7, h8, hn, Hy, Hz => by
    obtain ⟨n, rfl⟩ : ∃ n', n = n' + 1 := ⟨n - 1, by omega⟩
    rw [List.length_nil] at h1
    exact pk_le N k (fun _ => Hy β fr to wh kn (by rw [ru_mt]) h8) (fun z => absurd z (by omega))
  | p :: ps, [], m, pos, k, n, β, fr, to, wh, kn, h1, h2, h3, h4, h5, h6, h7, h8, hn, Hy, Hz => by
    obtain ⟨n, rfl⟩ : ∃ n', n = n' + 1 := ⟨n - 1, by omega⟩
    rw [List.length_cons] at h1
    rw [List.length_nil] at h2
    refine pk_le N k (fun z => absurd z (by omega)) (fun _ => ?_)
    exact pk_lt pos D (fun z => absurd z (by omega)) (fun _ => Hz fr to wh kn (by rw [ru_mt]))
  | p :: ps, c :: s, m, pos, k, n, β, fr, to, wh, kn, h1, h2, h3, h4, h5, h6, h7, h8, hn, Hy, Hz => by
    obtain ⟨n, rfl⟩ : ∃ n', n = n' + 1 := ⟨n - 1, by omega⟩
    rw [List.length_cons] at h1 hn h2
    have hink : vp_in (nI k) 32 := vp_in_nI (by omega) (by omega)
    have ek : (nI k).toNatClampNeg = k := nI_clamp (by omega)
    have ep : (nI pos).toNatClampNeg = pos := nI_clamp (by omega)
    have hinp : vp_in (nI pos) 2400 := vp_in_nI (by omega) (by omega)
    have hps : ∀ t, t ∈ ps → tk_r t := fun t ht => h5 t (List.mem_cons.mpr (Or.inr ht))
    have hs : ∀ t, t ∈ s → tk_t t := fun t ht => h6 t (List.mem_cons.mpr (Or.inr ht))
    have hpr := h5 p (List.mem_cons.mpr (Or.inl rfl))
    have hct := h6 c (List.mem_cons.mpr (Or.inl rfl))
    refine pk_le N k (fun z => absurd z (by omega)) (fun _ => ?_)
    refine pk_lt pos D (fun _ => ⟨hink, nm_r (e' := tk_vR p) (by rw [ek]; exact h3.1.2) ⟨hink, ?_⟩⟩) (fun z => absurd z (by omega))
    rw [ek, ep, h3.1.1, h4.1.1, h4.1.2]
    obtain ⟨j, rfl, hw⟩ := tm_w_ne h7
    by_cases hp : p < 8589934592
    · have hrt := tk_RT hpr hp hct
      have hk2 : ¬ tk_kR p = 2 := by unfold tk_kR; rw [if_pos hp]; split <;> decide
      have hk3 : ¬ tk_kR p = 3 := by unfold tk_kR; rw [if_pos hp]; split <;> decide
      refine br_f hk2 ⟨hink, br_f hk3 ⟨hink, hinp, ?_⟩⟩
      by_cases hc : c = p
      · subst hc
        obtain ⟨q1, q2⟩ := hrt.mpr rfl
        rw [ru_mt_sym hp rfl] at Hy Hz
        exact br_t q1 ⟨hinp, br_t q2 (nm_r (nI_1 pos) (nm_r (nI_1 k) (yf_l hN hD ps s _ (pos + 1) (k + 1) n β fr to wh kn (by omega) (by omega) h3.2 h4.2 hps hs hw h8 (by omega) Hy Hz)))⟩
      · have hz := Hz fr to wh kn (ru_mt_symn hp hc)
        refine br_c (fun q1 => ⟨hinp, br_c (fun q2 => ?_) (fun _ => hz)⟩) (fun _ => hz)
        exact absurd (hrt.mp ⟨q1, q2⟩).symm hc
    · obtain ⟨a, b, e, ha, hb2⟩ := tm_w_split (c :: s) 1 j (by rw [Nat.add_comm]; exact h7)
      obtain ⟨c', a', rfl, _⟩ := tm_w_pos ha
      rw [List.cons_append] at e
      injection e with e1 e2
      subst e1 e2
      rw [List.length_append] at h2
      have hb3 : ∀ t, t ∈ b → tk_t t := fun t ht => hs t (List.mem_append.mpr (Or.inr ht))
      have hat : ∀ t, t ∈ c :: a' → tk_t t := fun t ht => by
        rcases List.mem_cons.mp ht with z | z
        · rw [z]; exact hct
        · exact hs t (List.mem_append.mpr (Or.inl z))
      have h4' : hd_y tk_kT tk_vT a_doneKind a_doneValue pos ((c :: a') ++ b) := h4
      obtain ⟨h4a, h4b⟩ := hy_app.mp h4'
      have hla : (c :: a').length = a'.length + 1 := rfl
      rcases ru_names hpr hp with ⟨r, hr, er, kr, vr, sr, hl⟩ | ⟨r, hr, er, kr, vr, sr, hl⟩
      · rw [kr, vr]
        have hinr : vp_in (nI r) 4 := vp_in_nI hr (by omega)
        have err : (nI r).toNatClampNeg = r := nI_clamp (by omega)
        refine br_t rfl (ye_done pos (pos + (c :: a').length) ha h4a hat rfl (by omega) ⟨hinr, ?_⟩)
        have set : ∀ β', β' = (fun j => if j = r then c :: a' else β j) → (∀ β'' fr to wh kn, ru_mt ps b β' = some β'' → yf_b a_doneKind a_doneValue fr to wh kn D β'' → post 1 (f_place, f_count, f_top, f_done, f_open, f_steps, f_shownSteps, f_fault, f_in, f_made, f_old, f_size, f_heads, f_fresh, a_kind, a_value, a_all, a_split, a_toKind, a_doneKind, a_toValue, a_doneValue, a_begins, a_lacks, a_inKind, a_leftKind, a_madeKind, a_oldKind, a_resultKind, a_inValue, a_leftValue, a_madeValue, a_oldValue, a_resultValue, fr, to, wh, kn, a_bound, a_whose, a_rank, a_one, a_two, a_oneOf, a_twoOf, a_headAt, a_headOf, a_headLeft, a_pairs, a_first)) → (∀ fr to wh kn, ru_mt ps b β' = none → post 0 (f_place, f_count, f_top, f_done, f_open, f_steps, f_shownSteps, f_fault, f_in, f_made, f_old, f_size, f_heads, f_fresh, a_kind, a_value, a_all, a_split, a_toKind, a_doneKind, a_toValue, a_doneValue, a_begins, a_lacks, a_inKind, a_leftKind, a_madeKind, a_oldKind, a_resultKind, a_inValue, a_leftValue, a_madeValue, a_oldValue, a_resultValue, fr, to, wh, kn, a_bound, a_whose, a_rank, a_one, a_two, a_oneOf, a_twoOf, a_headAt, a_headOf, a_headLeft, a_pairs, a_first)) → wY_fits_109 post (wY_fits_37 post (nI N) (nI D) f_place f_count f_top f_done f_open f_steps f_shownSteps f_fault f_in f_made f_old f_size f_heads f_fresh n) (nI N) (nI D) (nI pos) (nI k) (nI r) (nI (pos + (c :: a').length)) f_place f_count f_top f_done f_open f_steps f_shownSteps f_fault f_in f_made f_old f_size f_heads f_fresh a_kind a_value a_all a_split a_toKind a_doneKind a_toValue a_doneValue a_begins a_lacks a_inKind a_leftKind a_madeKind a_oldKind a_resultKind a_inValue a_leftValue a_madeValue a_oldValue a_resultValue fr to wh kn a_bound a_whose a_rank a_one a_two a_oneOf a_twoOf a_headAt a_headOf a_headLeft a_pairs a_first := by
          intro β' eb Gy Gz
          subst eb
          refine ⟨hinr, nm_r (e' := upd fr r (nI pos)) (by rw [err, (tk_ns (by omega)).1]) ⟨hinr, nm_r (e' := upd to r (nI (pos + (c :: a').length))) (by rw [err, (tk_ns (by omega)).1]) (nm_r (nI_1 k) ?_)⟩⟩
          exact yf_l hN hD ps b j (pos + (c :: a').length) (k + 1) n _ _ _ _ _ (by omega) (by omega) h3.2 h4b hps hb3 hb2 (yf_new h8 hr (by simp) hat ha h4a (by omega)) (by omega) Gy Gz
        obtain ⟨b1, b2⟩ := (h8.2 r hr).1
        rw [err]
        by_cases h0 : β r = []
        · rw [b1 h0]
          refine br_t (by decide) (set _ rfl ?_ ?_)
          · rw [ru_mt_new hp (Or.inl hl) ha (by rw [sr]; exact h0), sr] at Hy
            exact Hy
          · rw [ru_mt_new hp (Or.inl hl) ha (by rw [sr]; exact h0), sr] at Hz
            exact Hz
        · obtain ⟨bw, st, s1, s2, s3, s4⟩ := b2 h0
          rw [s1]
          refine br_f (nI_pos (by omega)) ⟨hinr, ⟨(c :: a').length + 1, ?_⟩⟩
          rw [← nI_0]
          refine yf_same (by omega) (β r) (c :: a') 1 0 _ bw ha rfl (by omega) s4 h4a (fun t ht => h8.1 r t ht) hat (by omega) (fun eq => ?_) (fun ne => ?_)
          · have hb' : (fun j => if j = r then c :: a' else β j) = β := by
              funext q
              by_cases hq : q = r
              · rw [if_pos hq, hq, eq]
              · rw [if_neg hq]
            rw [ru_mt_old hp (Or.inl hl) ha (by rw [sr]; exact eq)] at Hy Hz
            exact br_f (by decide) (set β hb'.symm Hy Hz)
          · exact br_t rfl (Hz fr to wh kn (ru_mt_oldn hp (Or.inl hl) ha (by rw [sr]; exact h0) (by rw [sr]; exact ne)))
      · rw [kr, vr]
        have hinr : vp_in (nI r) 4 := vp_in_nI hr (by omega)
        have err : (nI r).toNatClampNeg = r := nI_clamp (by omega)
        refine br_f (by decide) ⟨hink, br_t rfl ⟨hinp, ?_⟩⟩
        have hNY := tk_N_Y hct
        by_cases hcN : tk_N c
        · refine br_t (hNY.mpr hcN) ⟨hinr, ?_⟩
          have hc0 : tm_ar c = 0 := tk_N_ar hct hcN
          have ea : a' = [] := by
            have := tm_w_cons.mp (show tm_w (c :: a') (0 + 1) from ha)
            rw [hc0] at this
            exact tm_w_0 this
          subst ea
          have set : ∀ β', β' = (fun j => if j = 4 + r then [c] else β j) → (∀ β'' fr to wh kn, ru_mt ps b β' = some β'' → yf_b a_doneKind a_doneValue fr to wh kn D β'' → post 1 (f_place, f_count, f_top, f_done, f_open, f_steps, f_shownSteps, f_fault, f_in, f_made, f_old, f_size, f_heads, f_fresh, a_kind, a_value, a_all, a_split, a_toKind, a_doneKind, a_toValue, a_doneValue, a_begins, a_lacks, a_inKind, a_leftKind, a_madeKind, a_oldKind, a_resultKind, a_inValue, a_leftValue, a_madeValue, a_oldValue, a_resultValue, fr, to, wh, kn, a_bound, a_whose, a_rank, a_one, a_two, a_oneOf, a_twoOf, a_headAt, a_headOf, a_headLeft, a_pairs, a_first)) → (∀ fr to wh kn, ru_mt ps b β' = none → post 0 (f_place, f_count, f_top, f_done, f_open, f_steps, f_shownSteps, f_fault, f_in, f_made, f_old, f_size, f_heads, f_fresh, a_kind, a_value, a_all, a_split, a_toKind, a_doneKind, a_toValue, a_doneValue, a_begins, a_lacks, a_inKind, a_leftKind, a_madeKind, a_oldKind, a_resultKind, a_inValue, a_leftValue, a_madeValue, a_oldValue, a_resultValue, fr, to, wh, kn, a_bound, a_whose, a_rank, a_one, a_two, a_oneOf, a_twoOf, a_headAt, a_headOf, a_headLeft, a_pairs, a_first)) → wY_fits_187 post (wY_fits_37 post (nI N) (nI D) f_place f_count f_top f_done f_open f_steps f_shownSteps f_fault f_in f_made f_old f_size f_heads f_fresh n) (nI N) (nI D) (nI pos) (nI k) (nI r) f_place f_count f_top f_done f_open f_steps f_shownSteps f_fault f_in f_made f_old f_size f_heads f_fresh a_kind a_value a_all a_split a_toKind a_doneKind a_toValue a_doneValue a_begins a_lacks a_inKind a_leftKind a_madeKind a_oldKind a_resultKind a_inValue a_leftValue a_madeValue a_oldValue a_resultValue fr to wh kn a_bound a_whose a_rank a_one a_two a_oneOf a_twoOf a_headAt a_headOf a_headLeft a_pairs a_first := by
            intro β' eb Gy Gz
            subst eb
            refine ⟨hinr, nm_r (e' := upd kn r 1) (by rw [err, yf_nb1]) (nm_r (nI_1 pos) ⟨hinp, hinr, nm_r (e' := upd wh r (tk_vT c)) (by rw [err, ep, h4.1.2]) (nm_r (nI_1 k) ?_)⟩)⟩
            exact yf_l hN hD ps b j (pos + 1) (k + 1) n _ _ _ _ _ (by omega) (by simp at h2; omega) h3.2 h4b hps hb3 hb2 (yf_whole h8 hr hct hcN) (by omega) Gy Gz
          obtain ⟨b1, b2⟩ := (h8.2 r hr).2
          rw [err]
          by_cases h0 : β (4 + r) = []
          · rw [b1 h0]
            refine br_t rfl (set _ rfl ?_ ?_)
            · rw [ru_mt_new hp (Or.inr hcN) ha (by rw [sr]; exact h0), sr] at Hy
              exact Hy
            · rw [ru_mt_new hp (Or.inr hcN) ha (by rw [sr]; exact h0), sr] at Hz
              exact Hz
          · obtain ⟨bk, c0, s1, s2, s3⟩ := b2 h0
            rw [bk]
            refine br_f (by decide) ⟨hinr, hinp, ?_⟩
            rw [s3]
            have hc0t : tk_t c0 := h8.1 (4 + r) c0 (by rw [s1]; simp)
            by_cases hv : tk_vT c0 = tk_vT c
            · have ecc : c0 = c := tk_T_inj hc0t hct (by rw [(tk_N_Y hc0t).mpr s2, (tk_N_Y hct).mpr hcN]) hv
              subst ecc
              have hb' : (fun j => if j = 4 + r then [c0] else β j) = β := by
                funext q
                by_cases hq : q = 4 + r
                · rw [if_pos hq, hq, s1]
                · rw [if_neg hq]
              rw [ru_mt_old hp (Or.inr hcN) ha (by rw [sr]; exact s1)] at Hy Hz
              exact br_t hv (set β hb'.symm Hy Hz)
            · refine br_f hv (Hz fr to wh kn (ru_mt_oldn hp (Or.inr hcN) ha (by rw [sr]; exact h0) ?_))
              rw [sr, s1]
              intro z
              injection z with z1 _
              exact hv (by rw [z1])
        · exact br_f (fun z => hcN (hNY.mp z)) (Hz fr to wh kn (ru_mt_w hp hl hcN))
end
