/-! the reference: what is begun, kept, compared, shown -/
section
variable {f_place f_count f_top f_done f_open f_steps f_shownSteps f_fault f_in f_made f_old f_size f_heads f_fresh : Int32} {a_kind a_value a_all a_split a_toKind a_doneKind a_toValue a_doneValue a_begins a_lacks a_inKind a_leftKind a_madeKind a_oldKind a_resultKind a_inValue a_leftValue a_madeValue a_oldValue a_resultValue a_from a_to a_whole a_known a_bound a_whose a_rank a_one a_two a_oneOf a_twoOf a_headAt a_headOf a_headLeft a_pairs a_first : Nat → Int32}
theorem yb_begin_l {post : SY → Prop} {fr N : Nat} (hN : N ≤ 32) (hfr : fr + N ≤ 270) : ∀ (l q : List Int64) (ka va : Nat → Int32) (n k : Nat), k = q.length → k + l.length = N → hd_y tk_kR tk_vR a_kind a_value (fr + k) l → hd_y tk_kR tk_vR ka va 0 q → l.length < n → (∀ ka' va', hd_y tk_kR tk_vR ka' va' 0 (q ++ l) → post (f_place, f_count, f_top, f_done, f_open, f_steps, f_shownSteps, f_fault, nI N, f_made, f_old, f_size, f_heads, f_fresh, a_kind, a_value, a_all, a_split, a_toKind, a_doneKind, a_toValue, a_doneValue, a_begins, a_lacks, ka', a_leftKind, a_madeKind, a_oldKind, a_resultKind, va', a_leftValue, a_madeValue, a_oldValue, a_resultValue, a_from, a_to, a_whole, a_known, a_bound, a_whose, a_rank, a_one, a_two, a_oneOf, a_twoOf, a_headAt, a_headOf, a_headLeft, a_pairs, a_first)) → wY_begin_2 post (nI fr) (nI N) f_place f_count f_top f_done f_open f_steps f_shownSteps f_fault f_in f_made f_old f_size f_heads f_fresh n (nI k) a_kind a_value a_all a_split a_toKind a_doneKind a_toValue a_doneValue a_begins a_lacks ka a_leftKind a_madeKind a_oldKind a_resultKind va a_leftValue a_madeValue a_oldValue a_resultValue a_from a_to a_whole a_known a_bound a_whose a_rank a_one a_two a_oneOf a_twoOf a_headAt a_headOf a_headLeft a_pairs a_first
  | [], q, ka, va, n, k, hk, h1, h2, h3, hn, H => by
    obtain ⟨n, rfl⟩ : ∃ n', n = n' + 1 := ⟨n - 1, by omega⟩
    rw [List.length_nil] at h1
    rw [List.append_nil] at H
    exact pk_le N k (fun _ => H ka va h3) (fun z => absurd z (by omega))
  | t :: l, q, ka, va, n, k, hk, h1, h2, h3, hn, H => by
    obtain ⟨n, rfl⟩ : ∃ n', n = n' + 1 := ⟨n - 1, by omega⟩
    rw [List.length_cons] at h1 hn
    have ei : nI fr + nI k = nI (fr + k) := nI_add _ _
    have hin2 : vp_in (nI fr + nI k) 270 := by rw [ei]; exact vp_in_nI (by omega) (by omega)
    have hin : vp_in (nI k) 32 := vp_in_nI (by omega) (by omega)
    have ec : (nI k).toNatClampNeg = k := nI_clamp (by omega)
    have ec2 : (nI fr + nI k).toNatClampNeg = fr + k := by rw [ei]; exact nI_clamp (by omega)
    refine pk_le N k (fun z => absurd z (by omega)) (fun _ => ⟨hin2, hin, nm_r (e' := upd ka k (tk_kR t)) (by rw [ec, ec2, h2.1.1, (tk_narR t).1]) ⟨hin2, hin, nm_r (e' := upd va k (tk_vR t)) (by rw [ec, ec2, h2.1.2]) (nm_r (nI_1 k) ?_)⟩⟩)
    have e3 : q ++ t :: l = (q ++ [t]) ++ l := by rw [List.append_assoc]; rfl
    rw [e3] at H
    exact yb_begin_l hN hfr l (q ++ [t]) _ _ n (k + 1) (by simp; omega) (by omega) h2.2 (hy_snoc k (by omega) h3) (by omega) H
theorem yb_begin {post : SY → Prop} {l : List Int64} (fr N : Nat) (hN : N = l.length) (hN32 : N ≤ 32) (hfr : fr + N ≤ 270) (hh : hd_y tk_kR tk_vR a_kind a_value fr l) (H : ∀ ka' va', hd_y tk_kR tk_vR ka' va' 0 l → post (f_place, f_count, f_top, f_done, f_open, f_steps, f_shownSteps, f_fault, nI N, f_made, f_old, f_size, f_heads, f_fresh, a_kind, a_value, a_all, a_split, a_toKind, a_doneKind, a_toValue, a_doneValue, a_begins, a_lacks, ka', a_leftKind, a_madeKind, a_oldKind, a_resultKind, va', a_leftValue, a_madeValue, a_oldValue, a_resultValue, a_from, a_to, a_whole, a_known, a_bound, a_whose, a_rank, a_one, a_two, a_oneOf, a_twoOf, a_headAt, a_headOf, a_headLeft, a_pairs, a_first)) : wpY_begin post (f_place, f_count, f_top, f_done, f_open, f_steps, f_shownSteps, f_fault, f_in, f_made, f_old, f_size, f_heads, f_fresh, a_kind, a_value, a_all, a_split, a_toKind, a_doneKind, a_toValue, a_doneValue, a_begins, a_lacks, a_inKind, a_leftKind, a_madeKind, a_oldKind, a_resultKind, a_inValue, a_leftValue, a_madeValue, a_oldValue, a_resultValue, a_from, a_to, a_whole, a_known, a_bound, a_whose, a_rank, a_one, a_two, a_oneOf, a_twoOf, a_headAt, a_headOf, a_headLeft, a_pairs, a_first) (nI fr) (nI N) :=
  ⟨l.length + 1, yb_begin_l hN32 hfr l [] a_inKind a_inValue _ 0 rfl (by omega) hh trivial (by omega) H⟩
theorem yb_keep_l {post : SY → Prop} {N : Nat} (hN : N ≤ 32) : ∀ (l q : List Int64) (ka va : Nat → Int32) (n k : Nat), k = q.length → k + l.length = N → hd_y tk_kT tk_vT a_doneKind a_doneValue k l → hd_y tk_kT tk_vT ka va 0 q → l.length < n → (∀ ka' va', hd_y tk_kT tk_vT ka' va' 0 (q ++ l) → post (f_place, f_count, f_top, f_done, f_open, f_steps, f_shownSteps, f_fault, f_in, f_made, nI N, f_size, f_heads, f_fresh, a_kind, a_value, a_all, a_split, a_toKind, a_doneKind, a_toValue, a_doneValue, a_begins, a_lacks, a_inKind, a_leftKind, a_madeKind, ka', a_resultKind, a_inValue, a_leftValue, a_madeValue, va', a_resultValue, a_from, a_to, a_whole, a_known, a_bound, a_whose, a_rank, a_one, a_two, a_oneOf, a_twoOf, a_headAt, a_headOf, a_headLeft, a_pairs, a_first)) → wY_keep_10 post f_place f_count f_top f_done f_open f_steps f_shownSteps f_fault f_in f_made (nI N) f_size f_heads f_fresh n (nI k) a_kind a_value a_all a_split a_toKind a_doneKind a_toValue a_doneValue a_begins a_lacks a_inKind a_leftKind a_madeKind ka a_resultKind a_inValue a_leftValue a_madeValue va a_resultValue a_from a_to a_whole a_known a_bound a_whose a_rank a_one a_two a_oneOf a_twoOf a_headAt a_headOf a_headLeft a_pairs a_first
  | [], q, ka, va, n, k, hk, h1, h2, h3, hn, H => by
    obtain ⟨n, rfl⟩ : ∃ n', n = n' + 1 := ⟨n - 1, by omega⟩
    rw [List.length_nil] at h1
    rw [List.append_nil] at H
    exact pk_le N k (fun _ => H ka va h3) (fun z => absurd z (by omega))
  | t :: l, q, ka, va, n, k, hk, h1, h2, h3, hn, H => by
    obtain ⟨n, rfl⟩ : ∃ n', n = n' + 1 := ⟨n - 1, by omega⟩
    rw [List.length_cons] at h1 hn
    have hin2 : vp_in (nI k) 2400 := vp_in_nI (by omega) (by omega)
    have hin : vp_in (nI k) 32 := vp_in_nI (by omega) (by omega)
    have ec : (nI k).toNatClampNeg = k := nI_clamp (by omega)
    refine pk_le N k (fun z => absurd z (by omega)) (fun _ => ⟨hin2, hin, nm_r (e' := upd ka k (tk_kT t)) (by rw [ec, h2.1.1, (tk_narT t).1]) ⟨hin2, hin, nm_r (e' := upd va k (tk_vT t)) (by rw [ec, h2.1.2]) (nm_r (nI_1 k) ?_)⟩⟩)
    have e3 : q ++ t :: l = (q ++ [t]) ++ l := by rw [List.append_assoc]; rfl
    rw [e3] at H
    exact yb_keep_l hN l (q ++ [t]) _ _ n (k + 1) (by simp; omega) (by omega) h2.2 (hy_snoc k (by omega) h3) (by omega) H
theorem yb_res_l {post : Int32 → SY → Prop} {N : Nat} (hN : N ≤ 32) : ∀ (l q : List Int64) (ka va : Nat → Int32) (n k : Nat), k = q.length → k + l.length = N → hd_y tk_kT tk_vT a_doneKind a_doneValue k l → hd_y tk_kT tk_vT ka va 0 q → l.length < n → (∀ ka' va', hd_y tk_kT tk_vT ka' va' 0 (q ++ l) → post 0 (f_place, f_count, f_top, f_done, f_open, f_steps, f_shownSteps, f_fault, f_in, f_made, f_old, nI N, f_heads, f_fresh, a_kind, a_value, a_all, a_split, a_toKind, a_doneKind, a_toValue, a_doneValue, a_begins, a_lacks, a_inKind, a_leftKind, a_madeKind, a_oldKind, ka', a_inValue, a_leftValue, a_madeValue, a_oldValue, va', a_from, a_to, a_whole, a_known, a_bound, a_whose, a_rank, a_one, a_two, a_oneOf, a_twoOf, a_headAt, a_headOf, a_headLeft, a_pairs, a_first)) → wY_reduce_70 post f_place f_count f_top f_done f_open f_steps f_shownSteps f_fault f_in f_made f_old (nI N) f_heads f_fresh n (nI k) a_kind a_value a_all a_split a_toKind a_doneKind a_toValue a_doneValue a_begins a_lacks a_inKind a_leftKind a_madeKind a_oldKind ka a_inValue a_leftValue a_madeValue a_oldValue va a_from a_to a_whole a_known a_bound a_whose a_rank a_one a_two a_oneOf a_twoOf a_headAt a_headOf a_headLeft a_pairs a_first
  | [], q, ka, va, n, k, hk, h1, h2, h3, hn, H => by
    obtain ⟨n, rfl⟩ : ∃ n', n = n' + 1 := ⟨n - 1, by omega⟩
    rw [List.length_nil] at h1
    rw [List.append_nil] at H
    exact pk_le N k (fun _ => H ka va h3) (fun z => absurd z (by omega))
  | t :: l, q, ka, va, n, k, hk, h1, h2, h3, hn, H => by
    obtain ⟨n, rfl⟩ : ∃ n', n = n' + 1 := ⟨n - 1, by omega⟩
    rw [List.length_cons] at h1 hn
    have hin2 : vp_in (nI k) 2400 := vp_in_nI (by omega) (by omega)
    have hin : vp_in (nI k) 32 := vp_in_nI (by omega) (by omega)
    have ec : (nI k).toNatClampNeg = k := nI_clamp (by omega)
    refine pk_le N k (fun z => absurd z (by omega)) (fun _ => ⟨hin2, hin, nm_r (e' := upd ka k (tk_kT t)) (by rw [ec, h2.1.1, (tk_narT t).1]) ⟨hin2, hin, nm_r (e' := upd va k (tk_vT t)) (by rw [ec, h2.1.2]) (nm_r (nI_1 k) ?_)⟩⟩)
    have e3 : q ++ t :: l = (q ++ [t]) ++ l := by rw [List.append_assoc]; rfl
    rw [e3] at H
    exact yb_res_l hN l (q ++ [t]) _ _ n (k + 1) (by simp; omega) (by omega) h2.2 (hy_snoc k (by omega) h3) (by omega) H
theorem yb_keep {post : SY → Prop} {l : List Int64} (N : Nat) (hN : N = l.length) (hN32 : N ≤ 32) (hh : hd_y tk_kT tk_vT a_doneKind a_doneValue 0 l) (H : ∀ ka' va', hd_y tk_kT tk_vT ka' va' 0 l → post (f_place, f_count, f_top, nI N, f_open, f_steps, f_shownSteps, f_fault, f_in, f_made, nI N, f_size, f_heads, f_fresh, a_kind, a_value, a_all, a_split, a_toKind, a_doneKind, a_toValue, a_doneValue, a_begins, a_lacks, a_inKind, a_leftKind, a_madeKind, ka', a_resultKind, a_inValue, a_leftValue, a_madeValue, va', a_resultValue, a_from, a_to, a_whole, a_known, a_bound, a_whose, a_rank, a_one, a_two, a_oneOf, a_twoOf, a_headAt, a_headOf, a_headLeft, a_pairs, a_first)) : wpY_keep post (f_place, f_count, f_top, nI N, f_open, f_steps, f_shownSteps, f_fault, f_in, f_made, f_old, f_size, f_heads, f_fresh, a_kind, a_value, a_all, a_split, a_toKind, a_doneKind, a_toValue, a_doneValue, a_begins, a_lacks, a_inKind, a_leftKind, a_madeKind, a_oldKind, a_resultKind, a_inValue, a_leftValue, a_madeValue, a_oldValue, a_resultValue, a_from, a_to, a_whole, a_known, a_bound, a_whose, a_rank, a_one, a_two, a_oneOf, a_twoOf, a_headAt, a_headOf, a_headLeft, a_pairs, a_first) :=
  ⟨l.length + 1, yb_keep_l hN32 l [] a_oldKind a_oldValue _ 0 rfl (by omega) hh trivial (by omega) H⟩
theorem yb_same_l {post : Int32 → Prop} {N : Nat} (hN : N ≤ 32) : ∀ (a b : List Int64) (k n : Nat), a.length = b.length → k + a.length = N → hd_y tk_kT tk_vT a_oldKind a_oldValue k a → hd_y tk_kT tk_vT a_doneKind a_doneValue k b → (∀ t, t ∈ a → tk_t t) → (∀ t, t ∈ b → tk_t t) → a.length < n → (a = b → post 1) → (a ≠ b → post 0) → wY_sameAsOld_2 post f_place f_count f_top (nI N) f_open f_steps f_shownSteps f_fault f_in f_made (nI N) f_size f_heads f_fresh a_kind a_value a_all a_split a_toKind a_doneKind a_toValue a_doneValue a_begins a_lacks a_inKind a_leftKind a_madeKind a_oldKind a_resultKind a_inValue a_leftValue a_madeValue a_oldValue a_resultValue a_from a_to a_whole a_known a_bound a_whose a_rank a_one a_two a_oneOf a_twoOf a_headAt a_headOf a_headLeft a_pairs a_first n (nI k)
  | [], [], k, n, he, h1, h2, h3, t1, t2, hn, Hy, Hz => by
    obtain ⟨n, rfl⟩ : ∃ n', n = n' + 1 := ⟨n - 1, by omega⟩
    rw [List.length_nil] at h1
    exact pk_le N k (fun _ => br_t rfl (Hy rfl)) (fun z => absurd z (by omega))
  | [], y :: b, k, n, he, h1, h2, h3, t1, t2, hn, Hy, Hz => by simp at he
  | x :: a, [], k, n, he, h1, h2, h3, t1, t2, hn, Hy, Hz => by simp at he
  | x :: a, y :: b, k, n, he, h1, h2, h3, t1, t2, hn, Hy, Hz => by
    obtain ⟨n, rfl⟩ : ∃ n', n = n' + 1 := ⟨n - 1, by omega⟩
    rw [List.length_cons] at h1 hn
    have i1 : vp_in (nI k) 32 := vp_in_nI (by omega) (by omega)
    have i2 : vp_in (nI k) 2400 := vp_in_nI (by omega) (by omega)
    have c1 : (nI k).toNatClampNeg = k := nI_clamp (by omega)
    refine pk_le N k (fun z => absurd z (by omega)) (fun _ => br_t rfl ⟨i1, i2, ?_⟩)
    rw [c1, h2.1.1, h3.1.1, h2.1.2, h3.1.2]
    have tx := t1 x (List.mem_cons.mpr (Or.inl rfl))
    have ty := t2 y (List.mem_cons.mpr (Or.inl rfl))
    by_cases hk : tk_kT x = tk_kT y
    · refine br_t hk ⟨i1, i2, ?_⟩
      by_cases hv : tk_vT x = tk_vT y
      · have exy := tk_T_inj tx ty hk hv
        subst exy
        exact br_t hv (nm_r (nI_1 k) (yb_same_l hN a b (k + 1) n (by simpa using he) (by omega) h2.2 h3.2 (fun t ht => t1 t (List.mem_cons.mpr (Or.inr ht))) (fun t ht => t2 t (List.mem_cons.mpr (Or.inr ht))) (by omega) (fun z => Hy (by rw [z])) (fun z => Hz (fun q => z (by injection q)))))
      · exact br_f hv (Hz (fun q => hv (by injection q with q1 _; rw [q1])))
    · exact br_f hk (Hz (fun q => hk (by injection q with q1 _; rw [q1])))
theorem yb_same {post : Int32 → Prop} {a b : List Int64} (O D : Nat) (hO : O = a.length) (hD : D = b.length) (hO32 : O ≤ 32) (hD32 : D ≤ 32) (h2 : hd_y tk_kT tk_vT a_oldKind a_oldValue 0 a) (h3 : hd_y tk_kT tk_vT a_doneKind a_doneValue 0 b) (t1 : ∀ t, t ∈ a → tk_t t) (t2 : ∀ t, t ∈ b → tk_t t) (Hy : a = b → post 1) (Hz : a ≠ b → post 0) : wpY_sameAsOld post (f_place, f_count, f_top, nI D, f_open, f_steps, f_shownSteps, f_fault, f_in, f_made, nI O, f_size, f_heads, f_fresh, a_kind, a_value, a_all, a_split, a_toKind, a_doneKind, a_toValue, a_doneValue, a_begins, a_lacks, a_inKind, a_leftKind, a_madeKind, a_oldKind, a_resultKind, a_inValue, a_leftValue, a_madeValue, a_oldValue, a_resultValue, a_from, a_to, a_whole, a_known, a_bound, a_whose, a_rank, a_one, a_two, a_oneOf, a_twoOf, a_headAt, a_headOf, a_headLeft, a_pairs, a_first) := by
  by_cases e : O = D
  · subst e
    refine ⟨a.length + 1, ?_⟩
    rw [← nI_0]
    exact yb_same_l hO32 a b 0 _ (by omega) (by omega) h2 h3 t1 t2 (by omega) Hy Hz
  · have hne : a ≠ b := fun z => e (by rw [hO, hD, z])
    have hDO : ¬ nI D = nI O := by rw [nI_eq (by omega) (by omega)]; omega
    refine ⟨1, ?_⟩
    have h59 : ∀ (P : Prop), P = P := fun _ => rfl
    exact br_c (fun _ => br_f hDO (Hz hne)) (fun _ => br_f hDO (br_f hDO (Hz hne)))
end
