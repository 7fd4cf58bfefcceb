/-! the reference: plain rules, both rules in its rows -/
section
variable {J : Nat → Int64} {A B : List Int64}
theorem us_un_res (H : jn_H J A B) {p0 q0 : Nat} {σ' : Nat → Option Nat} : ∀ (f n : Nat) (S : List (Nat × Nat)) (σ : Nat → Option Nat), us_I A B p0 q0 n S σ → us_un J A B f S σ = some σ' → ∃ n', us_I A B p0 q0 n' [] σ' := by
  intro f
  induction f with
  | zero =>
    intro n S σ hI h
    cases S with
    | nil =>
      rw [us_un_nil] at h
      injection h with h
      subst h
      exact ⟨n, hI⟩
    | cons a S => exact absurd h (by rw [us_un]; simp)
  | succ f ih =>
    intro n S σ hI h
    cases S with
    | nil =>
      rw [us_un_nil] at h
      injection h with h
      subst h
      exact ⟨n, hI⟩
    | cons a S =>
      obtain ⟨p, q⟩ := a
      rw [us_un_cons] at h
      cases eo : us_st J A B σ (us_f J σ 8 p) (us_f J σ 8 q) S with
      | none => rw [eo] at h; exact absurd h (by simp)
      | some x =>
        obtain ⟨S', σ2⟩ := x
        rw [eo] at h
        exact ih (n + 1) S' σ2 (us_pres H hI eo) h
theorem us_un_fin (H : jn_H J A B) {p0 q0 f : Nat} {σ' : Nat → Option Nat} (h0 : jn_v A B p0) (h1 : jn_v A B q0) (h : us_un J A B f [(p0, q0)] (fun _ => none) = some σ') : (∃ rk, us_R A B σ' rk) ∧ ∀ ρ, us_Es A B σ' ρ → us_E ρ (jn_t A B p0) = us_E ρ (jn_t A B q0) := by
  obtain ⟨n, hI⟩ := us_un_res H f 0 _ _ (us_I0 h0 h1) h
  exact ⟨hI.1, fun ρ hρ => hI.2.2.2.2 ρ hρ (fun a b h => absurd h (by simp))⟩
end
theorem vd_p_n {n : Nat} (hn : n < 2 ^ 62) : vd_p (lN n) = true ↔ (n < 9 ∨ (8589934592 ≤ n ∧ n < 12884901888)) := by
  unfold vd_p
  rw [Bool.or_eq_true, decide_eq_true_iff, decide_eq_true_iff, tk_lt 9 (by omega), tk_le 8589934592 (by omega), tk_lt 12884901888 (by omega)]
theorem vd_p_f {n : Nat} (hn : n < 2 ^ 62) (h : ¬ (n < 9 ∨ (8589934592 ≤ n ∧ n < 12884901888))) : vd_p (lN n) = false := by
  cases e : vd_p (lN n) with
  | false => rfl
  | true => exact absurd ((vd_p_n hn).mp e) h
theorem jy_of {ka va : Nat → Int32} : ∀ (l : List Int64) (k : Nat), (∀ t, t ∈ l → vd_k t) → hd_y tk_kR tk_vR ka va k l → jy_h ka va 0 k l ∧ jy_h ka va 1 k (l.map vd_h)
  | [], k, _, _ => ⟨trivial, trivial⟩
  | t :: l, k, hk, h => by
    obtain ⟨i1, i2⟩ := jy_of l (k + 1) (fun x hx => hk x (List.mem_cons.mpr (Or.inr hx))) h.2
    obtain ⟨n, en, hn⟩ := hk t (List.mem_cons.mpr (Or.inl rfl))
    have h1 := h.1.1
    have h2 := h.1.2
    rcases tk_R_cases (t := t) ⟨n, en, by omega⟩ with ⟨m, m1, m2, m3, m4⟩ | ⟨m, m1, m5, m2, m3, m4⟩ | ⟨r, m1, m2, m3, m4⟩ | ⟨r, m1, m2, m3, m4⟩
    · have : n = m := (pk_lEQ (by omega) (by omega)).mp (en.symm.trans m2)
      have hs : t < 8589934592 := by rw [en]; exact (tk_lt 8589934592 (by omega)).mpr (by omega)
      have eh : vd_h t = t := if_pos hs
      refine ⟨⟨Or.inl ⟨m, by omega, m2, h1.trans m3, h2.trans m4⟩, i1⟩, ?_⟩
      rw [List.map_cons, eh]
      exact ⟨Or.inl ⟨m, by omega, m2, h1.trans m3, h2.trans m4⟩, i2⟩
    · have : n = m := (pk_lEQ (by omega) (by omega)).mp (en.symm.trans m2)
      omega
    · have hs : ¬ t < 8589934592 := by rw [m2, tk_lt 8589934592 (by omega)]; omega
      have eh : vd_h t = lN (8589934592 + (r + 4 * 1)) := by
        refine (if_neg hs).trans ?_
        rw [m2, show (4 : Int64) = lN 4 from rfl, lN_add, show 8589934592 + r + 4 = 8589934592 + (r + 4 * 1) by omega]
      refine ⟨⟨Or.inr ⟨r, m1, by rw [m2, show r + 4 * 0 = r by omega], h1.trans m3, h2.trans m4⟩, i1⟩, ?_⟩
      rw [List.map_cons]
      exact ⟨Or.inr ⟨r, m1, eh, h1.trans m3, h2.trans m4⟩, i2⟩
    · have : n = 12884901888 + r := (pk_lEQ (by omega) (by omega)).mp (en.symm.trans m2)
      omega
section
variable {f_place f_count f_top f_done f_open f_steps f_shownSteps f_fault f_in f_made f_old f_size f_heads f_fresh : Int32} {a_kind a_value a_all a_split a_toKind a_doneKind a_toValue a_doneValue a_begins a_lacks a_inKind a_leftKind a_madeKind a_oldKind a_resultKind a_inValue a_leftValue a_madeValue a_oldValue a_resultValue a_from a_to a_whole a_known a_bound a_whose a_rank a_one a_two a_oneOf a_twoOf a_headAt a_headOf a_headLeft a_pairs a_first : Nat → Int32}
theorem yp_5 {post : Int32 → Prop} {r T : Nat} (hr : r < 8) (hall : a_all r = nI T) (hT : 0 < T) (hT30 : T ≤ 30) : ∀ (l : List Int64) (k n x : Nat), x = 30 * r + k → k + l.length = T → hd_y tk_kR tk_vR a_kind a_value x l → (∀ t, t ∈ l → tk_r t) → l.length < n → post (if l.all vd_p = true then 1 else 0) → wY_plain_5 post (nI r) f_place f_count f_top f_done f_open f_steps f_shownSteps f_fault f_in f_made f_old f_size f_heads f_fresh a_kind a_value a_all a_split a_toKind a_doneKind a_toValue a_doneValue a_begins a_lacks a_inKind a_leftKind a_madeKind a_oldKind a_resultKind a_inValue a_leftValue a_madeValue a_oldValue a_resultValue a_from a_to a_whole a_known a_bound a_whose a_rank a_one a_two a_oneOf a_twoOf a_headAt a_headOf a_headLeft a_pairs a_first n (nI x)
  | [], k, n, x, hx, h1, h2, h3, hn, h => by
    obtain ⟨n, rfl⟩ : ∃ n', n = n' + 1 := ⟨n - 1, by omega⟩
    rw [List.length_nil] at h1
    have hin : vp_in (nI r) 9 := vp_in_nI (by omega) (by omega)
    have ec : (nI r).toNatClampNeg = r := nI_clamp (by omega)
    refine ⟨hin, ?_⟩
    rw [ec, hall]
    refine pk_le (30 * r + T) x (fun _ => ⟨hin, br_f (nI_nle hT (by omega)) ?_⟩) (fun z => absurd z (by omega)) (by rw [show (30 : Int32) = nI 30 from rfl, pk_mul, nI_add]) rfl
    rw [List.all_nil, if_pos rfl] at h
    exact h
  | t :: l, k, n, x, hx, h1, h2, h3, hn, h => by
    obtain ⟨n, rfl⟩ : ∃ n', n = n' + 1 := ⟨n - 1, by omega⟩
    rw [List.length_cons] at h1 hn
    have hin : vp_in (nI r) 9 := vp_in_nI (by omega) (by omega)
    have ec : (nI r).toNatClampNeg = r := nI_clamp (by omega)
    have hin2 : vp_in (nI x) 270 := vp_in_nI (by omega) (by omega)
    have ec2 : (nI x).toNatClampNeg = x := nI_clamp (by omega)
    refine ⟨hin, ?_⟩
    rw [ec, hall]
    refine pk_le (30 * r + T) x (fun z => absurd z (by omega)) (fun _ => ⟨hin2, ?_⟩) (by rw [show (30 : Int32) = nI 30 from rfl, pk_mul, nI_add]) rfl
    rw [ec2, h2.1.1, h2.1.2]
    rw [List.all_cons] at h
    have go : vd_p t = true → wY_plain_5 post (nI r) f_place f_count f_top f_done f_open f_steps f_shownSteps f_fault f_in f_made f_old f_size f_heads f_fresh a_kind a_value a_all a_split a_toKind a_doneKind a_toValue a_doneValue a_begins a_lacks a_inKind a_leftKind a_madeKind a_oldKind a_resultKind a_inValue a_leftValue a_madeValue a_oldValue a_resultValue a_from a_to a_whole a_known a_bound a_whose a_rank a_one a_two a_oneOf a_twoOf a_headAt a_headOf a_headLeft a_pairs a_first n (nI (x + 1)) := by
      intro hp
      rw [hp, Bool.true_and] at h
      exact yp_5 hr hall hT hT30 l (k + 1) n (x + 1) (by omega) (by omega) h2.2 (fun x hx => h3 x (List.mem_cons.mpr (Or.inr hx))) (by omega) h
    have no : vd_p t = false → post 0 := by
      intro hp
      rw [hp, Bool.false_and, if_neg (by decide)] at h
      exact h
    rcases tk_R_cases (h3 t (List.mem_cons.mpr (Or.inl rfl))) with ⟨m, m1, m2, m3, m4⟩ | ⟨m, m1, m5, m2, m3, m4⟩ | ⟨q, m1, m2, m3, m4⟩ | ⟨q, m1, m2, m3, m4⟩
    · rw [m3, m4]
      refine br_f (by decide) ⟨hin2, br_f (by decide) ⟨hin2, br_t rfl ⟨hin2, ?_⟩⟩⟩
      refine pk_le m 8 (fun hle => nm_r (nI_1 x) (go ?_)) (fun hgt => no ?_)
      · rw [m2]; exact (vd_p_n (by omega)).mpr (Or.inl (by omega))
      · rw [m2]; exact vd_p_f (by omega) (by omega)
    · rw [m3]
      exact br_t rfl (no (by rw [m2]; exact vd_p_f (by omega) (by omega)))
    · rw [m3]
      refine br_f (by decide) ⟨hin2, br_f (by decide) ⟨hin2, br_f (by decide) (nm_r (nI_1 x) (go ?_))⟩⟩
      rw [m2]; exact (vd_p_n (by omega)).mpr (Or.inr (by omega))
    · rw [m3]
      exact br_f (by decide) ⟨hin2, br_t rfl (no (by rw [m2]; exact vd_p_f (by omega) (by omega)))⟩
theorem yp_plain {post : Int32 → Prop} {L R : Nat → List Int64} {r : Nat} (hG : mc_G L R) (hR : yr_R L R a_kind a_value a_all a_split) (hr : r < 8) (h : post (if vd_pl L R r = true then 1 else 0)) : wpY_plain post (f_place, f_count, f_top, f_done, f_open, f_steps, f_shownSteps, f_fault, f_in, f_made, f_old, f_size, f_heads, f_fresh, a_kind, a_value, a_all, a_split, a_toKind, a_doneKind, a_toValue, a_doneValue, a_begins, a_lacks, a_inKind, a_leftKind, a_madeKind, a_oldKind, a_resultKind, a_inValue, a_leftValue, a_madeValue, a_oldValue, a_resultValue, a_from, a_to, a_whole, a_known, a_bound, a_whose, a_rank, a_one, a_two, a_oneOf, a_twoOf, a_headAt, a_headOf, a_headLeft, a_pairs, a_first) (nI r) := by
  obtain ⟨z1, z2⟩ := hR r hr
  refine nm_r (e' := nI (30 * r)) (by rw [show (30 : Int32) = nI 30 from rfl, pk_mul]) ?_
  by_cases h0 : L r = []
  · have ev : vd_pl L R r = false := by unfold vd_pl; rw [h0]; rfl
    rw [ev, if_neg (by decide)] at h
    have hin : vp_in (nI r) 9 := vp_in_nI (by omega) (by omega)
    have ec : (nI r).toNatClampNeg = r := nI_clamp (by omega)
    refine ⟨1, hin, ?_⟩
    rw [ec, z1 h0]
    exact pk_le (30 * r) (30 * r) (fun _ => ⟨hin, br_t (by decide) h⟩) (fun z => absurd z (by omega)) (by rw [show (30 : Int32) = nI 30 from rfl, pk_mul, Int32.add_zero]) rfl
  · obtain ⟨w1, w2, w3⟩ := z2 h0
    rcases hG r with z | ⟨g1, g2, g3, g4, g5, g6, g7, g8⟩
    · exact absurd z h0
    have hl := tm_w_len _ _ g1
    have ev : vd_pl L R r = (L r ++ R r).all vd_p := by
      unfold vd_pl
      rw [List.all_append]
      cases e : L r with
      | nil => exact absurd e h0
      | cons a l => rfl
    rw [ev] at h
    refine ⟨(L r ++ R r).length + 1, ?_⟩
    refine yp_5 hr w1 (by omega) g3 (L r ++ R r) 0 _ (30 * r) (by omega) (by rw [List.length_append]; omega) w3 (fun t ht => ?_) (by omega) h
    rcases List.mem_append.mp ht with z | z
    · exact g4 t z
    · exact g5 t z
end
