/-! the reference: the ways of exchange -/
def hy_oo (f g : Nat → Int32) (i e : Nat) : Prop := ∀ j, (j < i ∨ e ≤ j) → g j = f j
theorem tk_9 {t : Int64} (h : tk_r t) : (tk_kR t = 0 ∧ tk_vR t = 9) ↔ t = 9 := by
  constructor
  · intro ⟨h1, h2⟩
    exact tk_R_inj h ⟨9, rfl, Or.inl (by omega)⟩ h1 h2
  · intro e; subst e; decide
theorem tm_w_suf : ∀ (a b : List Int64) (m : Nat), tm_w (a ++ b) m → ∃ k, tm_w b k
  | [], b, m, h => ⟨m, h⟩
  | t :: a, b, m, h => tm_w_suf a b _ h.2
theorem yw_bit {w k : Nat} (hw : w < 2 ^ 31) (hk : k < 32) : (nI w >>> (nI k &&& 31)) &&& 1 = nI (w / 2 ^ k % 2) := by
  rw [pk_shrN hw _ k (s_l k hk)]
  exact pk_andN (Nat.lt_of_le_of_lt (Nat.div_le_self _ _) (by omega)) 1 rfl
section
variable {f_place f_count f_top f_done f_open f_steps f_shownSteps f_fault f_in f_made f_old f_size f_heads f_fresh : Int32} {a_kind a_value a_all a_split a_toKind a_doneKind a_toValue a_doneValue a_begins a_lacks a_inKind a_leftKind a_madeKind a_oldKind a_resultKind a_inValue a_leftValue a_madeValue a_oldValue a_resultValue a_from a_to a_whole a_known a_bound a_whose a_rank a_one a_two a_oneOf a_twoOf a_headAt a_headOf a_headLeft a_pairs a_first : Nat → Int32}
theorem ys_51 {post : SY → Prop} {J20 : Int32 → (Nat → Int32) → (Nat → Int32) → (Nat → Int32) → (Nat → Int32) → (Nat → Int32) → (Nat → Int32) → (Nat → Int32) → (Nat → Int32) → (Nat → Int32) → (Nat → Int32) → (Nat → Int32) → (Nat → Int32) → (Nat → Int32) → (Nat → Int32) → (Nat → Int32) → (Nat → Int32) → (Nat → Int32) → (Nat → Int32) → (Nat → Int32) → (Nat → Int32) → (Nat → Int32) → (Nat → Int32) → (Nat → Int32) → (Nat → Int32) → (Nat → Int32) → (Nat → Int32) → (Nat → Int32) → (Nat → Int32) → (Nat → Int32) → (Nat → Int32) → (Nat → Int32) → (Nat → Int32) → (Nat → Int32) → (Nat → Int32) → (Nat → Int32) → (Nat → Int32) → Prop} {x1 x3 x6 x7 : Int32} {x5 fr E : Nat} {x : Int64} {k0 v0 : Nat → Int32} (hE : E ≤ 32) (h6 : x6 = tk_kR x) (h7 : x7 = tk_vR x) : ∀ (rest d : List Int64) (y : Int64) (ka va : Nat → Int32) (n i : Nat), i = fr + d.length → E = i + 1 + rest.length → hd_y tk_kR tk_vR ka va fr d → hd_y tk_kR tk_vR ka va i (y :: rest) → hy_oo k0 ka fr E → hy_oo v0 va fr E → rest.length < n → (∀ ka' va', hd_y tk_kR tk_vR ka' va' fr (d ++ (rest ++ [x])) → hy_oo k0 ka' fr E → hy_oo v0 va' fr E → J20 (nI (x5 + 1)) a_kind a_value a_all a_split a_toKind a_doneKind a_toValue a_doneValue a_begins a_lacks a_inKind ka' a_madeKind a_oldKind a_resultKind a_inValue va' a_madeValue a_oldValue a_resultValue a_from a_to a_whole a_known a_bound a_whose a_rank a_one a_two a_oneOf a_twoOf a_headAt a_headOf a_headLeft a_pairs a_first) → wY_swap_51 post J20 x1 x3 (nI E) (nI x5) x6 x7 f_place f_count f_top f_done f_open f_steps f_shownSteps f_fault f_in f_made f_old f_size f_heads f_fresh n (nI i) a_kind a_value a_all a_split a_toKind a_doneKind a_toValue a_doneValue a_begins a_lacks a_inKind ka a_madeKind a_oldKind a_resultKind a_inValue va a_madeValue a_oldValue a_resultValue a_from a_to a_whole a_known a_bound a_whose a_rank a_one a_two a_oneOf a_twoOf a_headAt a_headOf a_headLeft a_pairs a_first
  | [], d, y, ka, va, n, i, hi, hDi, h1, h2, o1, o2, hn, H => by
    obtain ⟨n, rfl⟩ : ∃ n', n = n' + 1 := ⟨n - 1, by omega⟩
    rw [List.length_nil] at hDi
    have e : nI E - 1 = nI i := by rw [hDi]; exact nI_pred i
    have hin : vp_in (nI E - 1) 32 := by rw [e]; exact vp_in_nI (by omega) (by omega)
    refine pk_le E (i + 1) (fun _ => ?_) (fun z => absurd z (by omega)) rfl (nI_1 i)
    refine ⟨hin, nm_r (e' := upd ka i (tk_kR x)) (by rw [e, nI_clamp (by omega), h6, (tk_narR x).1]) ⟨hin, nm_r (e' := upd va i (tk_vR x)) (by rw [e, nI_clamp (by omega), h7]) (nm_r (nI_1 x5) ?_)⟩⟩
    refine H _ _ (hy_snoc i hi h1) (fun j hj => ?_) (fun j hj => ?_)
    · rw [pk_un (by omega)]; exact o1 j hj
    · rw [pk_un (by omega)]; exact o2 j hj
  | z :: rest, d, y, ka, va, n, i, hi, hDi, h1, h2, o1, o2, hn, H => by
    obtain ⟨n, rfl⟩ : ∃ n', n = n' + 1 := ⟨n - 1, by omega⟩
    rw [List.length_cons] at hDi hn
    have e : nI i + 1 = nI (i + 1) := nI_1 i
    have hin1 : vp_in (nI i + 1) 32 := by rw [e]; exact vp_in_nI (by omega) (by omega)
    have hin : vp_in (nI i) 32 := vp_in_nI (by omega) (by omega)
    refine pk_le E (i + 1) (fun z => absurd z (by omega)) (fun _ => ?_) rfl e
    have hz := h2.2.1
    refine ⟨hin1, hin, nm_r (e' := upd ka i (tk_kR z)) (by rw [e, nI_clamp (by omega), nI_clamp (by omega), hz.1, (tk_narR z).1]) ⟨hin1, hin, nm_r (e' := upd va i (tk_vR z)) (by rw [e, nI_clamp (by omega), nI_clamp (by omega), hz.2]) (nm_r e ?_)⟩⟩
    refine ys_51 hE h6 h7 rest (d ++ [z]) z _ _ n (i + 1) (by rw [List.length_append, List.length_singleton]; omega) (by omega) (hy_snoc i hi h1) (hy_upd h2.2 (Or.inl (by omega))) (fun j hj => ?_) (fun j hj => ?_) (by omega) (fun ka' va' g1 g2 g3 => H ka' va' ?_ g2 g3)
    · rw [pk_un (by omega)]; exact o1 j hj
    · rw [pk_un (by omega)]; exact o2 j hj
    · rw [List.append_assoc] at g1; exact g1
theorem ys_20 {post : SY → Prop} {st b E : Nat} {k0 v0 : Nat → Int32} (hE : E ≤ 32) (hb : b ≤ E) : ∀ (A C : List Int64) (ka va : Nat → Int32) (n k : Nat), k + A.length = b → E = st + 1 + (A.length + C.length) → hd_y tk_kR tk_vR ka va (st + 1) (A ++ C) → hy_oo k0 ka (st + 1) E → hy_oo v0 va (st + 1) E → A.length < n → (∀ ka' va', hd_y tk_kR tk_vR ka' va' (st + 1) (C ++ A) → hy_oo k0 ka' (st + 1) E → hy_oo v0 va' (st + 1) E → post (f_place, f_count, f_top, f_done, f_open, f_steps, f_shownSteps, f_fault, f_in, f_made, f_old, f_size, f_heads, f_fresh, a_kind, a_value, a_all, a_split, a_toKind, a_doneKind, a_toValue, a_doneValue, a_begins, a_lacks, a_inKind, ka', a_madeKind, a_oldKind, a_resultKind, a_inValue, va', a_madeValue, a_oldValue, a_resultValue, a_from, a_to, a_whole, a_known, a_bound, a_whose, a_rank, a_one, a_two, a_oneOf, a_twoOf, a_headAt, a_headOf, a_headLeft, a_pairs, a_first)) → wY_swap_20 post (nI st) (nI b) (nI E) f_place f_count f_top f_done f_open f_steps f_shownSteps f_fault f_in f_made f_old f_size f_heads f_fresh n (nI k) a_kind a_value a_all a_split a_toKind a_doneKind a_toValue a_doneValue a_begins a_lacks a_inKind ka a_madeKind a_oldKind a_resultKind a_inValue va a_madeValue a_oldValue a_resultValue a_from a_to a_whole a_known a_bound a_whose a_rank a_one a_two a_oneOf a_twoOf a_headAt a_headOf a_headLeft a_pairs a_first
  | [], C, ka, va, n, k, hk, hDi, h1, o1, o2, hn, H => by
    obtain ⟨n, rfl⟩ : ∃ n', n = n' + 1 := ⟨n - 1, by omega⟩
    rw [List.length_nil] at hk
    rw [List.append_nil] at H
    exact pk_le b k (fun _ => H ka va h1 o1 o2) (fun z => absurd z (by omega))
  | x :: A, C, ka, va, n, k, hk, hDi, h1, o1, o2, hn, H => by
    obtain ⟨n, rfl⟩ : ∃ n', n = n' + 1 := ⟨n - 1, by omega⟩
    rw [List.length_cons] at hk hn hDi
    have e : nI st + 1 = nI (st + 1) := nI_1 st
    have hin : vp_in (nI st + 1) 32 := by rw [e]; exact vp_in_nI (by omega) (by omega)
    have ef : (nI st + 1).toNatClampNeg = st + 1 := by rw [e]; exact nI_clamp (by omega)
    refine pk_le b k (fun z => absurd z (by omega)) (fun _ => ⟨hin, nm_r (e' := tk_kR x) (by rw [ef]; exact h1.1.1) ⟨hin, nm_r (e' := tk_vR x) (by rw [ef]; exact h1.1.2) (nm_r e ⟨(A ++ C).length + 1, ?_⟩)⟩⟩)
    refine ys_51 (x := x) (fr := st + 1) (k0 := k0) (v0 := v0) hE rfl rfl (A ++ C) [] x ka va _ (st + 1) rfl (by rw [List.length_append]; omega) trivial h1 o1 o2 (by omega) (fun ka' va' g1 g2 g3 => ?_)
    rw [List.nil_append, List.append_assoc] at g1
    refine ys_20 hE hb A (C ++ [x]) ka' va' n (k + 1) (by omega) (by rw [List.length_append, List.length_singleton]; omega) g1 g2 g3 (by omega) (fun ka2 va2 e1 e2 e3 => H ka2 va2 ?_ e2 e3)
    rw [List.append_assoc] at e1
    exact e1
theorem ys_swap {post : SY → Prop} {A B r : List Int64} {x4 : Int32} (st : Nat) (hA : tm_w A 1) (hB : tm_w B 1) (hh : hd_y tk_kR tk_vR a_leftKind a_leftValue (st + 1) (A ++ (B ++ r))) (ht : ∀ t, t ∈ A ++ (B ++ r) → tk_r t) (hl : st + 1 + (A.length + (B.length + r.length)) ≤ 32) (H : ∀ ka' va', hd_y tk_kR tk_vR ka' va' (st + 1) (B ++ (A ++ r)) → (∀ j, j < st + 1 → ka' j = a_leftKind j ∧ va' j = a_leftValue j) → post (f_place, f_count, f_top, f_done, f_open, f_steps, f_shownSteps, f_fault, f_in, f_made, f_old, f_size, f_heads, f_fresh, a_kind, a_value, a_all, a_split, a_toKind, a_doneKind, a_toValue, a_doneValue, a_begins, a_lacks, a_inKind, ka', a_madeKind, a_oldKind, a_resultKind, a_inValue, va', a_madeValue, a_oldValue, a_resultValue, a_from, a_to, a_whole, a_known, a_bound, a_whose, a_rank, a_one, a_two, a_oneOf, a_twoOf, a_headAt, a_headOf, a_headLeft, a_pairs, a_first)) : wpY_swap post (f_place, f_count, f_top, f_done, f_open, f_steps, f_shownSteps, f_fault, f_in, f_made, f_old, f_size, f_heads, f_fresh, a_kind, a_value, a_all, a_split, a_toKind, a_doneKind, a_toValue, a_doneValue, a_begins, a_lacks, a_inKind, a_leftKind, a_madeKind, a_oldKind, a_resultKind, a_inValue, a_leftValue, a_madeValue, a_oldValue, a_resultValue, a_from, a_to, a_whole, a_known, a_bound, a_whose, a_rank, a_one, a_two, a_oneOf, a_twoOf, a_headAt, a_headOf, a_headLeft, a_pairs, a_first) (nI st) x4 := by
  have hAt : ∀ t, t ∈ A → tk_r t := fun t h => ht t (List.mem_append.mpr (Or.inl h))
  have hBt : ∀ t, t ∈ B → tk_r t := fun t h => ht t (List.mem_append.mpr (Or.inr (List.mem_append.mpr (Or.inl h))))
  obtain ⟨h1, h2⟩ := hy_app.mp hh
  obtain ⟨h3, h4⟩ := hy_app.mp h2
  unfold wpY_swap
  dsimp only
  rw [nI_1]
  refine ye_left (st + 1) (st + 1 + A.length) hA h1 hAt rfl (by omega) ?_
  refine ye_left (st + 1 + A.length) (st + 1 + A.length + B.length) hB h3 hBt rfl (by omega) ?_
  refine nm_e ⟨A.length + 1, ?_⟩
  refine ys_20 (k0 := a_leftKind) (v0 := a_leftValue) (st := st) (b := st + 1 + A.length) (E := st + 1 + A.length + B.length) (by omega) (by omega) A B _ _ _ (st + 1) rfl (by omega) (hy_app.mpr ⟨h1, h3⟩) (fun j _ => rfl) (fun j _ => rfl) (by omega) (fun ka' va' g1 g2 g3 => H ka' va' ?_ (fun j hj => ⟨g2 j (Or.inl hj), g3 j (Or.inl hj)⟩))
  rw [← List.append_assoc]
  refine hy_app.mpr ⟨g1, ?_⟩
  rw [List.length_append, show st + 1 + (B.length + A.length) = st + 1 + A.length + B.length by omega]
  exact hy_congr (fun j a b => ⟨g2 j (Or.inr a), g3 j (Or.inr a)⟩) h4
theorem yx_71 {post : SY → Prop} {o : List Int64} {r w : Nat} {x4 : Int32} (hr : r < 8) (hw : w < 65536) (ho : o.length ≤ 29) (hoc : ru_c9 o ≤ 30) (how : ∃ m, tm_w o m) (hot : ∀ t, t ∈ o → tk_r t) (hk : hd_y tk_kR tk_vR a_kind a_value (30 * r) o) (H : ∀ ka va, hd_y tk_kR tk_vR ka va 0 (ru_wy o w).1 → post (f_place, f_count, f_top, f_done, f_open, f_steps, f_shownSteps, f_fault, f_in, f_made, f_old, f_size, f_heads, f_fresh, a_kind, a_value, a_all, a_split, a_toKind, a_doneKind, a_toValue, a_doneValue, a_begins, a_lacks, a_inKind, ka, a_madeKind, a_oldKind, a_resultKind, a_inValue, va, a_madeValue, a_oldValue, a_resultValue, a_from, a_to, a_whole, a_known, a_bound, a_whose, a_rank, a_one, a_two, a_oneOf, a_twoOf, a_headAt, a_headOf, a_headLeft, a_pairs, a_first)) : ∀ (p l : List Int64) (ka va : Nat → Int32) (n : Nat) (x6 : Int32), o = p.reverse ++ l → x6 = nI p.length + (-1) → hd_y tk_kR tk_vR ka va 0 (p.reverse ++ (ru_wy l w).1) → p.length < n → wY_exchanged_71 post (nI r) (nI w) x4 n (nI (ru_c9 l)) x6 f_place f_count f_top f_done f_open f_steps f_shownSteps f_fault f_in f_made f_old f_size f_heads f_fresh a_kind a_value a_all a_split a_toKind a_doneKind a_toValue a_doneValue a_begins a_lacks a_inKind ka a_madeKind a_oldKind a_resultKind a_inValue va a_madeValue a_oldValue a_resultValue a_from a_to a_whole a_known a_bound a_whose a_rank a_one a_two a_oneOf a_twoOf a_headAt a_headOf a_headLeft a_pairs a_first
  | [], l, ka, va, n, x6, e, hx, hh, hn => by
    obtain ⟨n, rfl⟩ : ∃ n', n = n' + 1 := ⟨n - 1, by omega⟩
    subst hx
    rw [List.reverse_nil, List.nil_append] at e hh
    subst e
    exact br_t (by decide) (H ka va hh)
  | t :: p, l, ka, va, n, x6, e, hx, hh, hn => by
    obtain ⟨n, rfl⟩ : ∃ n', n = n' + 1 := ⟨n - 1, by omega⟩
    rw [List.length_cons] at hn hx
    rw [pk_m1] at hx
    subst hx
    rw [List.reverse_cons, List.append_assoc] at e hh
    have hlen : o.length = p.length + (l.length + 1) := by rw [e]; simp
    have htr : tk_r t := hot t (by rw [e]; simp)
    have h9 := tk_9 htr
    have hin : vp_in (nI p.length) 32 := vp_in_nI (by omega) (by omega)
    have eL : ka p.length = tk_kR t ∧ va p.length = tk_vR t := by
      have := (hy_app.mp hh).2.1
      rw [Nat.zero_add, List.length_reverse] at this
      exact this
    have ei : (30 : Int32) * nI r + nI p.length = nI (30 * r + p.length) := by rw [show (30 : Int32) = nI 30 from rfl, pk_mul, nI_add]
    have eK : a_kind (30 * r + p.length) = tk_kR t ∧ a_value (30 * r + p.length) = tk_vR t := by
      have hh2 := hk
      rw [e] at hh2
      have := (hy_app.mp hh2).2.1
      rw [List.length_reverse] at this
      exact this
    have hin2 : vp_in ((30 : Int32) * nI r + nI p.length) 270 := by rw [ei]; exact vp_in_nI (by omega) (by omega)
    have ec : (nI p.length).toNatClampNeg = p.length := nI_clamp (by omega)
    have ec2 : ((30 : Int32) * nI r + nI p.length).toNatClampNeg = 30 * r + p.length := by rw [ei]; exact nI_clamp (by omega)
    have next : ∀ (ka va : Nat → Int32) (c : Nat), c = ru_c9 (t :: l) → hd_y tk_kR tk_vR ka va 0 (p.reverse ++ (ru_wy (t :: l) w).1) → wY_exchanged_71 post (nI r) (nI w) x4 n (nI c) (nI p.length + (-1)) f_place f_count f_top f_done f_open f_steps f_shownSteps f_fault f_in f_made f_old f_size f_heads f_fresh a_kind a_value a_all a_split a_toKind a_doneKind a_toValue a_doneValue a_begins a_lacks a_inKind ka a_madeKind a_oldKind a_resultKind a_inValue va a_madeValue a_oldValue a_resultValue a_from a_to a_whole a_known a_bound a_whose a_rank a_one a_two a_oneOf a_twoOf a_headAt a_headOf a_headLeft a_pairs a_first := by
      intro ka va c hc hh'
      subst hc
      exact yx_71 hr hw ho hoc how hot hk H p (t :: l) ka va n _ e rfl hh' (by omega)
    refine br_f (nI_pos (by omega)) ⟨hin, ?_⟩
    rw [ec, eL.1]
    by_cases hk0 : tk_kR t = 0
    · refine br_t hk0 ⟨hin, ?_⟩
      rw [eL.2]
      by_cases hv9 : tk_vR t = 9
      · have e9 : t = 9 := h9.mp ⟨hk0, hv9⟩
        refine br_t hv9 ⟨hin2, ?_⟩
        rw [ec2, eK.1]
        refine br_t hk0 ⟨hin2, ?_⟩
        rw [eK.2]
        refine br_t hv9 ?_
        subst e9
        have hc9 : ru_c9 (9 :: l) = 1 + ru_c9 l := by show (if (9 : Int64) = 9 then 1 else 0) + _ = _; rw [if_pos rfl]
        have hcl : ru_c9 l + 1 ≤ 30 := by
          have := ru_c9_app p.reverse (9 :: l)
          have e' : o = p.reverse ++ 9 :: l := e
          rw [← e', hc9] at this
          omega
        rw [yw_bit (by omega) (by omega)]
        have hbits := ru_wy_bits l w
        refine pk_eq (w / 2 ^ ru_c9 l % 2) 0 (fun h0 => ?_) (fun h0 => ?_)
        · refine nm_r (e' := nI (ru_c9 (9 :: l))) (by rw [hc9, Nat.add_comm]; exact nI_1 _) (nm_e (next ka va _ rfl ?_))
          rw [ru_wy_9, if_neg (by rw [hbits]; omega)]
          exact hh
        · obtain ⟨m, hm⟩ := how
          rw [e] at hm
          obtain ⟨m', hm'⟩ := tm_w_suf _ _ _ hm
          obtain ⟨k, rfl, hm2⟩ := tm_w_ne (show tm_w (9 :: l) m' from hm')
          rw [ru_ar9] at hm2
          obtain ⟨A, B, q, e2, hA, hB, _⟩ := tm_2 (ru_wy_w l w _ hm2)
          have hsw : tm_sw (ru_wy l w).1 = B ++ (A ++ q) := by rw [e2]; exact tm_sw_eq hA hB
          have hlw := ru_wy_len l w
          rw [e2, List.length_append, List.length_append] at hlw
          have hh3 : hd_y tk_kR tk_vR ka va (p.length + 1) (A ++ (B ++ q)) := by
            have := (hy_app.mp hh).2.2
            rw [Nat.zero_add, List.length_reverse] at this
            show hd_y tk_kR tk_vR ka va (p.length + 1) (A ++ (B ++ q))
            rw [← e2]
            exact this
          refine ys_swap p.length hA hB hh3 (fun x hx => hot x ?_) (by omega) (fun ka' va' g1 g2 => ?_)
          · rw [← e2] at hx
            rw [e]
            exact List.mem_append.mpr (Or.inr (List.mem_append.mpr (Or.inr (ru_wy_mem _ _ _ hx))))
          · refine nm_r (e' := nI (ru_c9 (9 :: l))) (by rw [hc9, Nat.add_comm]; exact nI_1 _) (nm_e (next ka' va' _ rfl ?_))
            rw [ru_wy_9, if_pos (by rw [hbits]; omega), hsw]
            refine hy_app.mpr ⟨?_, ⟨?_, ?_⟩, ?_⟩
            · exact hy_congr (fun j a b => g2 j (by rw [List.length_reverse] at b; omega)) (hy_app.mp hh).1
            · rw [Nat.zero_add, List.length_reverse, (g2 p.length (by omega)).1]; exact eL.1
            · rw [Nat.zero_add, List.length_reverse, (g2 p.length (by omega)).2]; exact eL.2
            · rw [Nat.zero_add, List.length_reverse]; exact g1
      · refine br_f hv9 (nm_e (next ka va _ ?_ ?_))
        · show _ = (if t = 9 then 1 else 0) + _
          rw [if_neg (fun z => hv9 (h9.mpr z).2), Nat.zero_add]
        · rw [ru_wy_n (fun z => hv9 (h9.mpr z).2)]; exact hh
    · refine br_f hk0 (nm_e (next ka va _ ?_ ?_))
      · show _ = (if t = 9 then 1 else 0) + _
        rw [if_neg (fun z => hk0 (h9.mpr z).1), Nat.zero_add]
      · rw [ru_wy_n (fun z => hk0 (h9.mpr z).1)]; exact hh
theorem yx_11 {post : SY → Prop} {r N : Nat} {x2 : Int32} (hr : r < 8) (hN : N ≤ 30) : ∀ (l q : List Int64) (ka va : Nat → Int32) (n k : Nat), k = q.length → k + l.length = N → hd_y tk_kR tk_vR a_kind a_value (30 * r + k) l → hd_y tk_kR tk_vR ka va 0 q → l.length < n → (∀ ka' va', hd_y tk_kR tk_vR ka' va' 0 (q ++ l) → ∀ y, y = nI N - 1 → ∃ n71, wY_exchanged_71 post (nI r) x2 (nI N) n71 0 y f_place f_count f_top f_done f_open f_steps f_shownSteps f_fault f_in f_made f_old f_size f_heads f_fresh a_kind a_value a_all a_split a_toKind a_doneKind a_toValue a_doneValue a_begins a_lacks a_inKind ka' a_madeKind a_oldKind a_resultKind a_inValue va' a_madeValue a_oldValue a_resultValue a_from a_to a_whole a_known a_bound a_whose a_rank a_one a_two a_oneOf a_twoOf a_headAt a_headOf a_headLeft a_pairs a_first) → wY_exchanged_11 post (nI r) x2 (nI N) f_place f_count f_top f_done f_open f_steps f_shownSteps f_fault f_in f_made f_old f_size f_heads f_fresh n (nI k) a_kind a_value a_all a_split a_toKind a_doneKind a_toValue a_doneValue a_begins a_lacks a_inKind ka a_madeKind a_oldKind a_resultKind a_inValue va a_madeValue a_oldValue a_resultValue a_from a_to a_whole a_known a_bound a_whose a_rank a_one a_two a_oneOf a_twoOf a_headAt a_headOf a_headLeft a_pairs a_first
  | [], q, ka, va, n, k, hk, h1, h2, h3, hn, H => by
    obtain ⟨n, rfl⟩ : ∃ n', n = n' + 1 := ⟨n - 1, by omega⟩
    rw [List.length_nil] at h1
    rw [List.append_nil] at H
    exact pk_le N k (fun _ => H ka va h3) (fun z => absurd z (by omega))
  | t :: l, q, ka, va, n, k, hk, h1, h2, h3, hn, H => by
    obtain ⟨n, rfl⟩ : ∃ n', n = n' + 1 := ⟨n - 1, by omega⟩
    rw [List.length_cons] at h1 hn
    have ei : (30 : Int32) * nI r + nI k = nI (30 * r + k) := by rw [show (30 : Int32) = nI 30 from rfl, pk_mul, nI_add]
    have hin2 : vp_in ((30 : Int32) * nI r + nI k) 270 := by rw [ei]; exact vp_in_nI (by omega) (by omega)
    have hin : vp_in (nI k) 32 := vp_in_nI (by omega) (by omega)
    have ec : (nI k).toNatClampNeg = k := nI_clamp (by omega)
    have ec2 : ((30 : Int32) * nI r + nI k).toNatClampNeg = 30 * r + k := by rw [ei]; exact nI_clamp (by omega)
    refine pk_le N k (fun z => absurd z (by omega)) (fun _ => ⟨hin2, hin, nm_r (e' := upd ka k (tk_kR t)) (by rw [ec, ec2, h2.1.1, (tk_narR t).1]) ⟨hin2, hin, nm_r (e' := upd va k (tk_vR t)) (by rw [ec, ec2, h2.1.2]) (nm_r (nI_1 k) ?_)⟩⟩)
    have e3 : q ++ t :: l = (q ++ [t]) ++ l := by rw [List.append_assoc]; rfl
    rw [e3] at H
    exact yx_11 hr hN l (q ++ [t]) _ _ n (k + 1) (by simp; omega) (by omega) h2.2 (hy_snoc k (by omega) h3) (by omega) H
theorem yx_ex {post : SY → Prop} {o : List Int64} {x3 : Int32} (r w : Nat) (hr : r < 8) (hw : w < 65536) (ho : o.length ≤ 29) (hoc : ru_c9 o ≤ 4) (how : tm_w o 1) (hot : ∀ t, t ∈ o → tk_r t) (hs : a_split r = nI o.length) (hk : hd_y tk_kR tk_vR a_kind a_value (30 * r) o) (H : ∀ ka va, hd_y tk_kR tk_vR ka va 0 (ru_wy o w).1 → post (f_place, f_count, f_top, f_done, f_open, f_steps, f_shownSteps, f_fault, f_in, f_made, f_old, f_size, f_heads, f_fresh, a_kind, a_value, a_all, a_split, a_toKind, a_doneKind, a_toValue, a_doneValue, a_begins, a_lacks, a_inKind, ka, a_madeKind, a_oldKind, a_resultKind, a_inValue, va, a_madeValue, a_oldValue, a_resultValue, a_from, a_to, a_whole, a_known, a_bound, a_whose, a_rank, a_one, a_two, a_oneOf, a_twoOf, a_headAt, a_headOf, a_headLeft, a_pairs, a_first)) : wpY_exchanged post (f_place, f_count, f_top, f_done, f_open, f_steps, f_shownSteps, f_fault, f_in, f_made, f_old, f_size, f_heads, f_fresh, a_kind, a_value, a_all, a_split, a_toKind, a_doneKind, a_toValue, a_doneValue, a_begins, a_lacks, a_inKind, a_leftKind, a_madeKind, a_oldKind, a_resultKind, a_inValue, a_leftValue, a_madeValue, a_oldValue, a_resultValue, a_from, a_to, a_whole, a_known, a_bound, a_whose, a_rank, a_one, a_two, a_oneOf, a_twoOf, a_headAt, a_headOf, a_headLeft, a_pairs, a_first) (nI r) (nI w) x3 := by
  refine ⟨vp_in_nI hr (by omega), nm_r (e' := nI o.length) (by rw [nI_clamp (by omega), hs]) ⟨o.length + 1, ?_⟩⟩
  rw [← nI_0]
  refine yx_11 hr (by omega) o [] a_leftKind a_leftValue _ 0 rfl (by omega) hk trivial (by omega) (fun ka' va' g => nm_r (Int32.sub_eq_add_neg _ _) ⟨o.length + 1, ?_⟩)
  have hg : hd_y tk_kR tk_vR ka' va' 0 (o.reverse.reverse ++ (ru_wy [] w).1) := by rw [List.reverse_reverse]; rw [List.nil_append] at g; show hd_y _ _ _ _ _ (o ++ []); rw [List.append_nil]; exact g
  exact yx_71 hr hw ho (by omega) ⟨1, how⟩ hot hk H o.reverse [] ka' va' _ _ (by rw [List.reverse_reverse, List.append_nil]) (by rw [List.length_reverse]) hg (by rw [List.length_reverse]; omega)
end
