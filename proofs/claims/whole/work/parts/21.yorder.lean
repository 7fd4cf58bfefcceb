/-! the reference: rotations, the order of the arguments -/
/-- the same below i -/
def hy_o (f g : Nat → Int32) (i : Nat) : Prop := ∀ j, j < i → g j = f j
theorem hy_keep {dk dv : Int64 → Int32} {ka va ka' va' : Nat → Int32} {l : List Int64} {i k : Nat} (h : hd_y dk dv ka va k l) (h1 : hy_o ka ka' i) (h2 : hy_o va va' i) (hk : k + l.length ≤ i) : hd_y dk dv ka' va' k l :=
  hy_congr (fun j a b => ⟨h1 j (by omega), h2 j (by omega)⟩) h
section
variable {f_place f_count f_top f_done f_open f_steps f_shownSteps f_fault f_in f_made f_old f_size f_heads f_fresh : Int32} {a_kind a_value a_all a_split a_toKind a_doneKind a_toValue a_doneValue a_begins a_lacks a_inKind a_leftKind a_madeKind a_oldKind a_resultKind a_inValue a_leftValue a_madeValue a_oldValue a_resultValue a_from a_to a_whole a_known a_bound a_whose a_rank a_one a_two a_oneOf a_twoOf a_headAt a_headOf a_headLeft a_pairs a_first : Nat → Int32}
theorem yt_32 {post : SY → Prop} {J7 : Int32 → (Nat → Int32) → (Nat → Int32) → (Nat → Int32) → (Nat → Int32) → (Nat → Int32) → (Nat → Int32) → (Nat → Int32) → (Nat → Int32) → (Nat → Int32) → (Nat → Int32) → (Nat → Int32) → (Nat → Int32) → (Nat → Int32) → (Nat → Int32) → (Nat → Int32) → (Nat → Int32) → (Nat → Int32) → (Nat → Int32) → (Nat → Int32) → (Nat → Int32) → (Nat → Int32) → (Nat → Int32) → (Nat → Int32) → (Nat → Int32) → (Nat → Int32) → (Nat → Int32) → (Nat → Int32) → (Nat → Int32) → (Nat → Int32) → (Nat → Int32) → (Nat → Int32) → (Nat → Int32) → (Nat → Int32) → (Nat → Int32) → (Nat → Int32) → (Nat → Int32) → Prop} {x1 x3 x5 x6 : Int32} {x4 fr D : Nat} {x : Int64} {k0 v0 : Nat → Int32} (hD : D ≤ 2400) (h5 : x5 = tk_kT x) (h6 : x6 = tk_vT x) : ∀ (rest d : List Int64) (y : Int64) (ka va : Nat → Int32) (n i : Nat), i = fr + d.length → D = i + 1 + rest.length → hd_y tk_kT tk_vT ka va fr d → hd_y tk_kT tk_vT ka va i (y :: rest) → hy_o k0 ka fr → hy_o v0 va fr → rest.length < n → (∀ ka' va', hd_y tk_kT tk_vT ka' va' fr (d ++ (rest ++ [x])) → hy_o k0 ka' fr → hy_o v0 va' fr → J7 (nI (x4 + 1)) a_kind a_value a_all a_split a_toKind ka' a_toValue va' a_begins a_lacks a_inKind a_leftKind a_madeKind a_oldKind a_resultKind a_inValue a_leftValue a_madeValue a_oldValue a_resultValue a_from a_to a_whole a_known a_bound a_whose a_rank a_one a_two a_oneOf a_twoOf a_headAt a_headOf a_headLeft a_pairs a_first) → wY_turn_32 post J7 x1 x3 (nI x4) x5 x6 f_place f_count f_top (nI D) f_open f_steps f_shownSteps f_fault f_in f_made f_old f_size f_heads f_fresh n (nI i) a_kind a_value a_all a_split a_toKind ka a_toValue va a_begins a_lacks a_inKind a_leftKind a_madeKind a_oldKind a_resultKind a_inValue a_leftValue a_madeValue a_oldValue a_resultValue a_from a_to a_whole a_known a_bound a_whose a_rank a_one a_two a_oneOf a_twoOf a_headAt a_headOf a_headLeft a_pairs a_first
  | [], d, y, ka, va, n, i, hi, hDi, h1, h2, o1, o2, hn, H => by
    obtain ⟨n, rfl⟩ : ∃ n', n = n' + 1 := ⟨n - 1, by omega⟩
    rw [List.length_nil] at hDi
    have e : nI D - 1 = nI i := by rw [hDi]; exact nI_pred i
    have hin : vp_in (nI D - 1) 2400 := by rw [e]; exact vp_in_nI (by omega) (by omega)
    refine pk_le D (i + 1) (fun _ => ?_) (fun z => absurd z (by omega)) rfl (nI_1 i)
    refine ⟨hin, nm_r (e' := upd ka i (tk_kT x)) (by rw [e, nI_clamp (by omega), h5, (tk_narT x).1]) ⟨hin, nm_r (e' := upd va i (tk_vT x)) (by rw [e, nI_clamp (by omega), h6]) (nm_r (nI_1 x4) ?_)⟩⟩
    refine H _ _ (hy_snoc i hi h1) (fun j hj => ?_) (fun j hj => ?_)
    · rw [pk_un (by omega)]; exact o1 j hj
    · rw [pk_un (by omega)]; exact o2 j hj
  | z :: rest, d, y, ka, va, n, i, hi, hDi, h1, h2, o1, o2, hn, H => by
    obtain ⟨n, rfl⟩ : ∃ n', n = n' + 1 := ⟨n - 1, by omega⟩
    rw [List.length_cons] at hDi hn
    have e : nI i + 1 = nI (i + 1) := nI_1 i
    have hin1 : vp_in (nI i + 1) 2400 := by rw [e]; exact vp_in_nI (by omega) (by omega)
    have hin : vp_in (nI i) 2400 := vp_in_nI (by omega) (by omega)
    refine pk_le D (i + 1) (fun z => absurd z (by omega)) (fun _ => ?_) rfl e
    have hz := h2.2.1
    refine ⟨hin1, hin, nm_r (e' := upd ka i (tk_kT z)) (by rw [e, nI_clamp (by omega), nI_clamp (by omega), hz.1, (tk_narT z).1]) ⟨hin1, hin, nm_r (e' := upd va i (tk_vT z)) (by rw [e, nI_clamp (by omega), nI_clamp (by omega), hz.2]) (nm_r e ?_)⟩⟩
    refine yt_32 hD h5 h6 rest (d ++ [z]) z _ _ n (i + 1) (by rw [List.length_append, List.length_singleton]; omega) (by omega) (hy_snoc i hi h1) (hy_upd h2.2 (Or.inl (by omega))) (fun j hj => ?_) (fun j hj => ?_) (by omega) (fun ka' va' g1 g2 g3 => H ka' va' ?_ g2 g3)
    · rw [pk_un (by omega)]; exact o1 j hj
    · rw [pk_un (by omega)]; exact o2 j hj
    · rw [List.append_assoc] at g1; exact g1
theorem yt_7 {post : SY → Prop} {fr D N : Nat} {k0 v0 : Nat → Int32} (hD : D ≤ 2400) (hN : N < 2400) : ∀ (A C : List Int64) (ka va : Nat → Int32) (n k : Nat), k + A.length = N → D = fr + (A.length + C.length) → hd_y tk_kT tk_vT ka va fr (A ++ C) → hy_o k0 ka fr → hy_o v0 va fr → A.length < n → (∀ ka' va', hd_y tk_kT tk_vT ka' va' fr (C ++ A) → hy_o k0 ka' fr → hy_o v0 va' fr → post (f_place, f_count, f_top, nI D, f_open, f_steps, f_shownSteps, f_fault, f_in, f_made, f_old, f_size, f_heads, f_fresh, a_kind, a_value, a_all, a_split, a_toKind, ka', a_toValue, va', a_begins, a_lacks, a_inKind, a_leftKind, a_madeKind, a_oldKind, a_resultKind, a_inValue, a_leftValue, a_madeValue, a_oldValue, a_resultValue, a_from, a_to, a_whole, a_known, a_bound, a_whose, a_rank, a_one, a_two, a_oneOf, a_twoOf, a_headAt, a_headOf, a_headLeft, a_pairs, a_first)) → wY_turn_7 post (nI fr) (nI N) f_place f_count f_top (nI D) f_open f_steps f_shownSteps f_fault f_in f_made f_old f_size f_heads f_fresh n (nI k) a_kind a_value a_all a_split a_toKind ka a_toValue va a_begins a_lacks a_inKind a_leftKind a_madeKind a_oldKind a_resultKind a_inValue a_leftValue a_madeValue a_oldValue a_resultValue a_from a_to a_whole a_known a_bound a_whose a_rank a_one a_two a_oneOf a_twoOf a_headAt a_headOf a_headLeft a_pairs a_first
  | [], C, ka, va, n, k, hk, hDi, h1, o1, o2, hn, H => by
    obtain ⟨n, rfl⟩ : ∃ n', n = n' + 1 := ⟨n - 1, by omega⟩
    rw [List.length_nil] at hk
    rw [List.append_nil] at H
    exact pk_le N k (fun _ => H ka va h1 o1 o2) (fun z => absurd z (by omega))
  | x :: A, C, ka, va, n, k, hk, hDi, h1, o1, o2, hn, H => by
    obtain ⟨n, rfl⟩ : ∃ n', n = n' + 1 := ⟨n - 1, by omega⟩
    rw [List.length_cons] at hk hn hDi
    have hin : vp_in (nI fr) 2400 := vp_in_nI (by omega) (by omega)
    have ef : (nI fr).toNatClampNeg = fr := nI_clamp (by omega)
    refine pk_le N k (fun z => absurd z (by omega)) (fun _ => ⟨hin, nm_r (e' := tk_kT x) (by rw [ef]; exact h1.1.1) ⟨hin, nm_r (e' := tk_vT x) (by rw [ef]; exact h1.1.2) ⟨(A ++ C).length + 1, ?_⟩⟩⟩)
    refine yt_32 (x := x) (k0 := k0) (v0 := v0) hD rfl rfl (A ++ C) [] x ka va _ fr rfl (by rw [List.length_append]; omega) trivial h1 o1 o2 (by omega) (fun ka' va' g1 g2 g3 => ?_)
    rw [List.nil_append, List.append_assoc] at g1
    refine yt_7 hD hN A (C ++ [x]) ka' va' n (k + 1) (by omega) (by rw [List.length_append, List.length_singleton]; omega) g1 g2 g3 (by omega) (fun ka2 va2 e1 e2 e3 => H ka2 va2 ?_ e2 e3)
    rw [List.append_assoc] at e1
    exact e1
theorem yt_turn {post : SY → Prop} {A C : List Int64} (fr b D : Nat) (hb : b = fr + A.length) (hDe : D = fr + (A.length + C.length)) (hD : D < 2400) (hh : hd_y tk_kT tk_vT a_doneKind a_doneValue fr (A ++ C)) (H : ∀ ka' va', hd_y tk_kT tk_vT ka' va' fr (C ++ A) → hy_o a_doneKind ka' fr → hy_o a_doneValue va' fr → post (f_place, f_count, f_top, nI D, f_open, f_steps, f_shownSteps, f_fault, f_in, f_made, f_old, f_size, f_heads, f_fresh, a_kind, a_value, a_all, a_split, a_toKind, ka', a_toValue, va', a_begins, a_lacks, a_inKind, a_leftKind, a_madeKind, a_oldKind, a_resultKind, a_inValue, a_leftValue, a_madeValue, a_oldValue, a_resultValue, a_from, a_to, a_whole, a_known, a_bound, a_whose, a_rank, a_one, a_two, a_oneOf, a_twoOf, a_headAt, a_headOf, a_headLeft, a_pairs, a_first)) : wpY_turn post (f_place, f_count, f_top, nI D, f_open, f_steps, f_shownSteps, f_fault, f_in, f_made, f_old, f_size, f_heads, f_fresh, a_kind, a_value, a_all, a_split, a_toKind, a_doneKind, a_toValue, a_doneValue, a_begins, a_lacks, a_inKind, a_leftKind, a_madeKind, a_oldKind, a_resultKind, a_inValue, a_leftValue, a_madeValue, a_oldValue, a_resultValue, a_from, a_to, a_whole, a_known, a_bound, a_whose, a_rank, a_one, a_two, a_oneOf, a_twoOf, a_headAt, a_headOf, a_headLeft, a_pairs, a_first) (nI fr) (nI b) := by
  refine nm_r (e' := nI A.length) (by rw [hb, pk_sub (by omega), show fr + A.length - fr = A.length by omega]) ⟨A.length + 1, ?_⟩
  rw [← nI_0]
  exact yt_7 (k0 := a_doneKind) (v0 := a_doneValue) (by omega) (by omega) A C _ _ _ 0 (by omega) hDe hh (fun j _ => rfl) (fun j _ => rfl) (by omega) H
theorem yo_l {post : SY → Prop} {st b D : Nat} (hD : D < 2400) (hb : b ≤ D) : ∀ (la lb : List Int64) (m i n : Nat), tm_w la m → tm_w lb m → st + 1 + i + la.length = b → b + i + lb.length = D → hd_y tk_kT tk_vT a_doneKind a_doneValue (st + 1 + i) la → hd_y tk_kT tk_vT a_doneKind a_doneValue (b + i) lb → (∀ t, t ∈ la → tk_t t) → (∀ t, t ∈ lb → tk_t t) → la.length + 1 < n → (mc_cb lb la = true → wpY_turn (fun u => match u with | (f_place0, f_count0, f_top0, f_done0, f_open0, f_steps0, f_shownSteps0, f_fault0, f_in0, f_made0, f_old0, f_size0, f_heads0, f_fresh0, a_kind0, a_value0, a_all0, a_split0, a_toKind0, a_doneKind0, a_toValue0, a_doneValue0, a_begins0, a_lacks0, a_inKind0, a_leftKind0, a_madeKind0, a_oldKind0, a_resultKind0, a_inValue0, a_leftValue0, a_madeValue0, a_oldValue0, a_resultValue0, a_from0, a_to0, a_whole0, a_known0, a_bound0, a_whose0, a_rank0, a_one0, a_two0, a_oneOf0, a_twoOf0, a_headAt0, a_headOf0, a_headLeft0, a_pairs0, a_first0) => post (f_place0, f_count0, f_top0, f_done0, f_open0, f_steps0, f_shownSteps0, f_fault0, f_in0, f_made0, f_old0, f_size0, f_heads0, f_fresh0, a_kind0, a_value0, a_all0, a_split0, a_toKind0, a_doneKind0, a_toValue0, a_doneValue0, a_begins0, a_lacks0, a_inKind0, a_leftKind0, a_madeKind0, a_oldKind0, a_resultKind0, a_inValue0, a_leftValue0, a_madeValue0, a_oldValue0, a_resultValue0, a_from0, a_to0, a_whole0, a_known0, a_bound0, a_whose0, a_rank0, a_one0, a_two0, a_oneOf0, a_twoOf0, a_headAt0, a_headOf0, a_headLeft0, a_pairs0, a_first0)) (f_place, f_count, f_top, nI D, f_open, f_steps, f_shownSteps, f_fault, f_in, f_made, f_old, f_size, f_heads, f_fresh, a_kind, a_value, a_all, a_split, a_toKind, a_doneKind, a_toValue, a_doneValue, a_begins, a_lacks, a_inKind, a_leftKind, a_madeKind, a_oldKind, a_resultKind, a_inValue, a_leftValue, a_madeValue, a_oldValue, a_resultValue, a_from, a_to, a_whole, a_known, a_bound, a_whose, a_rank, a_one, a_two, a_oneOf, a_twoOf, a_headAt, a_headOf, a_headLeft, a_pairs, a_first) (nI st + 1) (nI b)) → (¬ mc_cb lb la = true → post (f_place, f_count, f_top, nI D, f_open, f_steps, f_shownSteps, f_fault, f_in, f_made, f_old, f_size, f_heads, f_fresh, a_kind, a_value, a_all, a_split, a_toKind, a_doneKind, a_toValue, a_doneValue, a_begins, a_lacks, a_inKind, a_leftKind, a_madeKind, a_oldKind, a_resultKind, a_inValue, a_leftValue, a_madeValue, a_oldValue, a_resultValue, a_from, a_to, a_whole, a_known, a_bound, a_whose, a_rank, a_one, a_two, a_oneOf, a_twoOf, a_headAt, a_headOf, a_headLeft, a_pairs, a_first)) → wY_sort_13 post (nI st) (nI b) f_place f_count f_top (nI D) f_open f_steps f_shownSteps f_fault f_in f_made f_old f_size f_heads f_fresh a_kind a_value a_all a_split a_toKind a_doneKind a_toValue a_doneValue a_begins a_lacks a_inKind a_leftKind a_madeKind a_oldKind a_resultKind a_inValue a_leftValue a_madeValue a_oldValue a_resultValue a_from a_to a_whole a_known a_bound a_whose a_rank a_one a_two a_oneOf a_twoOf a_headAt a_headOf a_headLeft a_pairs a_first n (nI i) 0
  | [], lb, m, i, n, ha, hbw, h1, h2, h3, h4, t1, t2, hn, Hy, Hz => by
    obtain ⟨n, rfl⟩ : ∃ n', n = n' + 1 := ⟨n - 1, by omega⟩
    rw [tm_w_nil] at ha
    subst ha
    have := tm_w_0 hbw
    subst this
    rw [List.length_nil] at h1 h2
    refine br_t rfl (pk_le D (b + i) (fun _ => br_t (Int32.le_refl _) (Hz (by simp [mc_cb]))) (fun z => absurd z (by omega)) rfl (nI_add _ _))
  | x :: la, [], m, i, n, ha, hbw, h1, h2, h3, h4, t1, t2, hn, Hy, Hz => by
    rw [tm_w_nil] at hbw
    subst hbw
    exact absurd ha.1 (by omega)
  | x :: la, y :: lb, m, i, n, ha, hbw, h1, h2, h3, h4, t1, t2, hn, Hy, Hz => by
    obtain ⟨n, rfl⟩ : ∃ n', n = n' + 1 := ⟨n - 1, by omega⟩
    rw [List.length_cons] at h1 h2 hn
    obtain ⟨k, rfl, hw1⟩ := tm_w_ne ha
    have hw2 := tm_w_cons.mp hbw
    have e1 : nI st + 1 + nI i = nI (st + 1 + i) := by rw [nI_1, nI_add]
    have e2 : nI b + nI i = nI (b + i) := nI_add _ _
    refine br_t rfl (pk_le D (b + i) (fun z => absurd z (by omega)) (fun _ => ?_) rfl e2)
    refine pk_le b (st + 1 + i) (fun z => absurd z (by omega)) (fun _ => ?_) rfl e1
    have i1 : vp_in (nI st + 1 + nI i) 2400 := by rw [e1]; exact vp_in_nI (by omega) (by omega)
    have i2 : vp_in (nI b + nI i) 2400 := by rw [e2]; exact vp_in_nI (by omega) (by omega)
    refine ⟨i1, i1, i2, i2, ?_⟩
    rw [e1, e2, nI_clamp (by omega), nI_clamp (by omega), h3.1.1, h3.1.2, h4.1.1, h4.1.2]
    refine tk_ord (t1 x (List.mem_cons.mpr (Or.inl rfl))) (t2 y (List.mem_cons.mpr (Or.inl rfl))) (fun e => ?_) (fun e hk => ?_) (fun e hk => ?_)
    · subst e
      rw [mc_cb_eq] at Hy Hz
      exact nm_r (nI_1 i) (yo_l hD hb la lb _ (i + 1) n hw1 hw2 (by omega) (by omega) h3.2 h4.2 (fun t ht => t1 t (List.mem_cons.mpr (Or.inr ht))) (fun t ht => t2 t (List.mem_cons.mpr (Or.inr ht))) (by omega) Hy Hz)
    · rw [mc_cb_ne (fun z => e z.symm)] at Hy
      refine nm_r (nI_1 i) ?_
      obtain ⟨n, rfl⟩ : ∃ n', n = n' + 1 := ⟨n - 1, by omega⟩
      exact br_f (by decide) (br_f (by decide) (Hy (decide_eq_true hk)))
    · rw [mc_cb_ne (fun z => e z.symm)] at Hz
      refine nm_r (nI_1 i) ?_
      obtain ⟨n, rfl⟩ : ∃ n', n = n' + 1 := ⟨n - 1, by omega⟩
      exact br_f (by decide) (br_t (by decide) (Hz (by simpa using Int64.not_lt.mp hk)))
theorem yo_sort {post : SY → Prop} {r : List Int64} (st D : Nat) (hs : tm_w (9 :: r) 1) (ht : ∀ t, t ∈ r → tk_t t) (hh : hd_y tk_kT tk_vT a_doneKind a_doneValue st (9 :: r)) (hDe : D = st + (r.length + 1)) (hD : D < 2400) (H : ∀ ka' va', hd_y tk_kT tk_vT ka' va' st (mc_or (9 :: r)) → hy_o a_doneKind ka' st → hy_o a_doneValue va' st → post (f_place, f_count, f_top, nI D, f_open, f_steps, f_shownSteps, f_fault, f_in, f_made, f_old, f_size, f_heads, f_fresh, a_kind, a_value, a_all, a_split, a_toKind, ka', a_toValue, va', a_begins, a_lacks, a_inKind, a_leftKind, a_madeKind, a_oldKind, a_resultKind, a_inValue, a_leftValue, a_madeValue, a_oldValue, a_resultValue, a_from, a_to, a_whole, a_known, a_bound, a_whose, a_rank, a_one, a_two, a_oneOf, a_twoOf, a_headAt, a_headOf, a_headLeft, a_pairs, a_first)) : wpY_sort post (f_place, f_count, f_top, nI D, f_open, f_steps, f_shownSteps, f_fault, f_in, f_made, f_old, f_size, f_heads, f_fresh, a_kind, a_value, a_all, a_split, a_toKind, a_doneKind, a_toValue, a_doneValue, a_begins, a_lacks, a_inKind, a_leftKind, a_madeKind, a_oldKind, a_resultKind, a_inValue, a_leftValue, a_madeValue, a_oldValue, a_resultValue, a_from, a_to, a_whole, a_known, a_bound, a_whose, a_rank, a_one, a_two, a_oneOf, a_twoOf, a_headAt, a_headOf, a_headLeft, a_pairs, a_first) (nI st) := by
  have hr := tm_w_cons.mp hs
  rw [ru_ar9] at hr
  obtain ⟨A, B, r', e, hA, hB, hr'⟩ := tm_2 (m := 0) hr
  have := tm_w_0 hr'
  subst this
  rw [List.append_nil] at e
  subst e
  rw [List.length_append] at hDe
  have hAt : ∀ t, t ∈ A → tk_t t := fun t h => ht t (List.mem_append.mpr (Or.inl h))
  have hBt : ∀ t, t ∈ B → tk_t t := fun t h => ht t (List.mem_append.mpr (Or.inr h))
  have hh2 := hh.2
  obtain ⟨hhA, hhB⟩ := hy_app.mp hh2
  rw [mc_or_AB hA hB] at H
  unfold wpY_sort
  dsimp only
  rw [nI_1]
  refine ye_done (st + 1) (st + 1 + A.length) hA hhA hAt rfl (by omega) ⟨A.length + 2, ?_⟩
  rw [← nI_0]
  refine yo_l (st := st) (b := st + 1 + A.length) (D := D) hD (by omega) A B 1 0 _ hA hB (by omega) (by omega) hhA hhB hAt hBt (by omega) (fun hc => ?_) (fun hc => ?_)
  · rw [if_pos hc] at H
    rw [nI_1]
    refine yt_turn (st + 1) (st + 1 + A.length) D rfl (by omega) hD hh2 (fun ka' va' g1 g2 g3 => H ka' va' ⟨⟨?_, ?_⟩, g1⟩ (fun j hj => g2 j (by omega)) (fun j hj => g3 j (by omega)))
    · rw [g2 st (by omega)]; exact hh.1.1
    · rw [g3 st (by omega)]; exact hh.1.2
  · rw [if_neg hc] at H
    exact H _ _ hh (fun j _ => rfl) (fun j _ => rfl)
end
