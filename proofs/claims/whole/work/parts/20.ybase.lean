/-! the reference: what its arrays hold, where terms end -/
def hd_y (dk dv : Int64 → Int32) (ka va : Nat → Int32) : Nat → List Int64 → Prop
  | _, [] => True
  | i, t :: l => (ka i = dk t ∧ va i = dv t) ∧ hd_y dk dv ka va (i + 1) l
section
variable {dk dv : Int64 → Int32} {ka va ka' va' : Nat → Int32}
theorem hy_app : ∀ {a b : List Int64} {i : Nat}, hd_y dk dv ka va i (a ++ b) ↔ hd_y dk dv ka va i a ∧ hd_y dk dv ka va (i + a.length) b
  | [], b, i => by
    show hd_y dk dv ka va i b ↔ True ∧ hd_y dk dv ka va (i + 0) b
    rw [Nat.add_zero, true_and]
  | t :: a, b, i => by
    show (_ ∧ hd_y dk dv ka va (i + 1) (a ++ b)) ↔ (_ ∧ hd_y dk dv ka va (i + 1) a) ∧ hd_y dk dv ka va (i + (a.length + 1)) b
    rw [hy_app, show i + 1 + a.length = i + (a.length + 1) by omega]
    exact and_assoc.symm
theorem hy_congr : ∀ {l : List Int64} {i : Nat}, (∀ j, i ≤ j → j < i + l.length → ka' j = ka j ∧ va' j = va j) → hd_y dk dv ka va i l → hd_y dk dv ka' va' i l
  | [], i, _, _ => trivial
  | t :: l, i, h, h1 => by
    have h0 := h i (by omega) (by simp only [List.length_cons]; omega)
    refine ⟨⟨h0.1.trans h1.1.1, h0.2.trans h1.1.2⟩, hy_congr (fun j a b => h j (by omega) (by simp only [List.length_cons]; omega)) h1.2⟩
theorem hy_upd {l : List Int64} {i k : Nat} {x y : Int32} (h : hd_y dk dv ka va i l) (hk : k < i ∨ i + l.length ≤ k) : hd_y dk dv (upd ka k x) (upd va k y) i l :=
  hy_congr (fun j a b => ⟨pk_un (by omega), pk_un (by omega)⟩) h
theorem hy_snoc {l : List Int64} {i : Nat} (k : Nat) {t : Int64} (hk : k = i + l.length) (h : hd_y dk dv ka va i l) : hd_y dk dv (upd ka k (dk t)) (upd va k (dv t)) i (l ++ [t]) := by
  subst hk
  exact hy_app.mpr ⟨hy_upd h (Or.inr (by omega)), ⟨pk_us, pk_us⟩, trivial⟩
theorem hy_get : ∀ {l : List Int64} {i j : Nat} (_ : hd_y dk dv ka va i l) (hj : j < l.length), ka (i + j) = dk l[j] ∧ va (i + j) = dv l[j]
  | t :: l, i, 0, h, hj => h.1
  | t :: l, i, j + 1, h, hj => by
    have := hy_get (i := i + 1) (j := j) h.2 (by simp only [List.length_cons] at hj; omega)
    rw [show i + 1 + j = i + (j + 1) by omega] at this
    exact this
end
theorem hy_dT {ka va : Nat → Int32} : ∀ {l : List Int64} {i : Nat}, (∀ t, t ∈ l → tk_d t) → hd_y tk_kR tk_vR ka va i l → hd_y tk_kT tk_vT ka va i l
  | [], i, _, _ => trivial
  | t :: l, i, h, h1 => by
    obtain ⟨e1, e2⟩ := tk_dT (h t (List.mem_cons.mpr (Or.inl rfl)))
    exact ⟨⟨h1.1.1.trans e1, h1.1.2.trans e2⟩, hy_dT (fun x hx => h x (List.mem_cons.mpr (Or.inr hx))) h1.2⟩
theorem ya_step (k a : Nat) : nI (k + 1) + (nI a - 1) = nI (k + a) := by
  rw [← nI_1, ← nI_add]
  grind
section
variable {f_place f_count f_top f_done f_open f_steps f_shownSteps f_fault f_in f_made f_old f_size f_heads f_fresh : Int32} {a_kind a_value a_all a_split a_toKind a_doneKind a_toValue a_doneValue a_begins a_lacks a_inKind a_leftKind a_madeKind a_oldKind a_resultKind a_inValue a_leftValue a_madeValue a_oldValue a_resultValue a_from a_to a_whole a_known a_bound a_whose a_rank a_one a_two a_oneOf a_twoOf a_headAt a_headOf a_headLeft a_pairs a_first : Nat → Int32}
theorem ye_end_l {post : Int32 → Prop} : ∀ (a r : List Int64) (m i n e q : Nat), e = i + a.length + r.length → q = i + a.length → tm_w a m → hd_y tk_kR tk_vR a_kind a_value i a → (∀ t, t ∈ a → tk_r t) → e ≤ 270 → a.length < n → post (nI q) → wY_endOf_5 post (nI e) f_place f_count f_top f_done f_open f_steps f_shownSteps f_fault f_in f_made f_old f_size f_heads f_fresh a_kind a_value a_all a_split a_toKind a_doneKind a_toValue a_doneValue a_begins a_lacks a_inKind a_leftKind a_madeKind a_oldKind a_resultKind a_inValue a_leftValue a_madeValue a_oldValue a_resultValue a_from a_to a_whole a_known a_bound a_whose a_rank a_one a_two a_oneOf a_twoOf a_headAt a_headOf a_headLeft a_pairs a_first n (nI m) (nI i)
  | [], r, m, i, n, e, q, he, hq, hw, hh, ht, hl, hn, hp => by
    obtain ⟨n, rfl⟩ : ∃ n', n = n' + 1 := ⟨n - 1, by omega⟩
    rw [tm_w_nil] at hw
    subst hw
    have hq' : q = i := hq
    subst hq'
    exact br_t (Int32.le_refl _) (br_t (Int32.le_refl _) hp)
  | t :: a, r, m, i, n, e, q, he, hq, hw, hh, ht, hl, hn, hp => by
    obtain ⟨n, rfl⟩ : ∃ n', n = n' + 1 := ⟨n - 1, by omega⟩
    have hlen : (t :: a).length = a.length + 1 := rfl
    rw [hlen] at he hq hn
    have hml := tm_w_len _ _ hw
    obtain ⟨k, rfl, h1⟩ := tm_w_ne hw
    rw [hlen] at hml
    have hin : vp_in (nI i) 270 := vp_in_nI (by omega) (by omega)
    refine pk_le (k + 1) 0 (fun z => absurd z (by omega)) (fun _ => ?_)
    refine pk_le e i (fun z => absurd z (by omega)) (fun _ => ⟨hin, hin, ?_⟩)
    rw [nI_clamp (by omega), hh.1.1, hh.1.2]
    refine tk_arR (ht t (List.mem_cons.mpr (Or.inl rfl))) (nm_r (ya_step k _) (nm_r (nI_1 i) ?_))
    exact ye_end_l a r _ (i + 1) n e q (by omega) (by omega) h1 hh.2 (fun x hx => ht x (List.mem_cons.mpr (Or.inr hx))) hl (by omega) hp
theorem ye_end {post : Int32 → Prop} {a : List Int64} (i e q : Nat) (hw : tm_w a 1) (hh : hd_y tk_kR tk_vR a_kind a_value i a) (ht : ∀ t, t ∈ a → tk_r t) (he : i + a.length ≤ e) (hq : q = i + a.length) (hl : e ≤ 270) (hp : post (nI q)) : wpY_endOf post (f_place, f_count, f_top, f_done, f_open, f_steps, f_shownSteps, f_fault, f_in, f_made, f_old, f_size, f_heads, f_fresh, a_kind, a_value, a_all, a_split, a_toKind, a_doneKind, a_toValue, a_doneValue, a_begins, a_lacks, a_inKind, a_leftKind, a_madeKind, a_oldKind, a_resultKind, a_inValue, a_leftValue, a_madeValue, a_oldValue, a_resultValue, a_from, a_to, a_whole, a_known, a_bound, a_whose, a_rank, a_one, a_two, a_oneOf, a_twoOf, a_headAt, a_headOf, a_headLeft, a_pairs, a_first) (nI i) (nI e) := by
  obtain ⟨r, hr⟩ : ∃ r : List Int64, r.length = e - (i + a.length) := ⟨List.replicate (e - (i + a.length)) 0, List.length_replicate⟩
  exact ⟨a.length + 1, ye_end_l a r 1 i _ e q (by omega) hq hw hh ht hl (by omega) hp⟩
theorem ye_done_l {post : Int32 → Prop} : ∀ (a : List Int64) (m i n q : Nat), q = i + a.length → tm_w a m → hd_y tk_kT tk_vT a_doneKind a_doneValue i a → (∀ t, t ∈ a → tk_t t) → q ≤ 2400 → a.length < n → post (nI q) → wY_doneEnd_4 post f_place f_count f_top f_done f_open f_steps f_shownSteps f_fault f_in f_made f_old f_size f_heads f_fresh a_kind a_value a_all a_split a_toKind a_doneKind a_toValue a_doneValue a_begins a_lacks a_inKind a_leftKind a_madeKind a_oldKind a_resultKind a_inValue a_leftValue a_madeValue a_oldValue a_resultValue a_from a_to a_whole a_known a_bound a_whose a_rank a_one a_two a_oneOf a_twoOf a_headAt a_headOf a_headLeft a_pairs a_first n (nI m) (nI i)
  | [], m, i, n, q, hq, hw, hh, ht, hl, hn, hp => by
    obtain ⟨n, rfl⟩ : ∃ n', n = n' + 1 := ⟨n - 1, by omega⟩
    rw [tm_w_nil] at hw
    subst hw
    have hq' : q = i := hq
    subst hq'
    exact br_t (Int32.le_refl _) hp
  | t :: a, m, i, n, q, hq, hw, hh, ht, hl, hn, hp => by
    obtain ⟨n, rfl⟩ : ∃ n', n = n' + 1 := ⟨n - 1, by omega⟩
    have hlen : (t :: a).length = a.length + 1 := rfl
    rw [hlen] at hq hn
    have hml := tm_w_len _ _ hw
    obtain ⟨k, rfl, h1⟩ := tm_w_ne hw
    rw [hlen] at hml
    have hin : vp_in (nI i) 2400 := vp_in_nI (by omega) (by omega)
    refine pk_le (k + 1) 0 (fun z => absurd z (by omega)) (fun _ => ⟨hin, hin, ?_⟩)
    rw [nI_clamp (by omega), hh.1.1, hh.1.2]
    refine tk_arT (ht t (List.mem_cons.mpr (Or.inl rfl))) (nm_r (ya_step k _) (nm_r (nI_1 i) ?_))
    exact ye_done_l a _ (i + 1) n q (by omega) h1 hh.2 (fun x hx => ht x (List.mem_cons.mpr (Or.inr hx))) hl (by omega) hp
theorem ye_done {post : Int32 → Prop} {a : List Int64} (i q : Nat) (hw : tm_w a 1) (hh : hd_y tk_kT tk_vT a_doneKind a_doneValue i a) (ht : ∀ t, t ∈ a → tk_t t) (hq : q = i + a.length) (hl : q ≤ 2400) (hp : post (nI q)) : wpY_doneEnd post (f_place, f_count, f_top, f_done, f_open, f_steps, f_shownSteps, f_fault, f_in, f_made, f_old, f_size, f_heads, f_fresh, a_kind, a_value, a_all, a_split, a_toKind, a_doneKind, a_toValue, a_doneValue, a_begins, a_lacks, a_inKind, a_leftKind, a_madeKind, a_oldKind, a_resultKind, a_inValue, a_leftValue, a_madeValue, a_oldValue, a_resultValue, a_from, a_to, a_whole, a_known, a_bound, a_whose, a_rank, a_one, a_two, a_oneOf, a_twoOf, a_headAt, a_headOf, a_headLeft, a_pairs, a_first) (nI i) :=
  ⟨a.length + 1, ye_done_l a 1 i _ q hq hw hh ht hl (by omega) hp⟩
theorem ye_left_l {post : Int32 → Prop} : ∀ (a : List Int64) (m i n q : Nat), q = i + a.length → tm_w a m → hd_y tk_kR tk_vR a_leftKind a_leftValue i a → (∀ t, t ∈ a → tk_r t) → q ≤ 32 → a.length < n → post (nI q) → wY_leftEnd_4 post f_place f_count f_top f_done f_open f_steps f_shownSteps f_fault f_in f_made f_old f_size f_heads f_fresh a_kind a_value a_all a_split a_toKind a_doneKind a_toValue a_doneValue a_begins a_lacks a_inKind a_leftKind a_madeKind a_oldKind a_resultKind a_inValue a_leftValue a_madeValue a_oldValue a_resultValue a_from a_to a_whole a_known a_bound a_whose a_rank a_one a_two a_oneOf a_twoOf a_headAt a_headOf a_headLeft a_pairs a_first n (nI m) (nI i)
  | [], m, i, n, q, hq, hw, hh, ht, hl, hn, hp => by
    obtain ⟨n, rfl⟩ : ∃ n', n = n' + 1 := ⟨n - 1, by omega⟩
    rw [tm_w_nil] at hw
    subst hw
    have hq' : q = i := hq
    subst hq'
    exact br_t (Int32.le_refl _) hp
  | t :: a, m, i, n, q, hq, hw, hh, ht, hl, hn, hp => by
    obtain ⟨n, rfl⟩ : ∃ n', n = n' + 1 := ⟨n - 1, by omega⟩
    have hlen : (t :: a).length = a.length + 1 := rfl
    rw [hlen] at hq hn
    have hml := tm_w_len _ _ hw
    obtain ⟨k, rfl, h1⟩ := tm_w_ne hw
    rw [hlen] at hml
    have hin : vp_in (nI i) 32 := vp_in_nI (by omega) (by omega)
    refine pk_le (k + 1) 0 (fun z => absurd z (by omega)) (fun _ => ⟨hin, hin, ?_⟩)
    rw [nI_clamp (by omega), hh.1.1, hh.1.2]
    refine tk_arR (ht t (List.mem_cons.mpr (Or.inl rfl))) (nm_r (ya_step k _) (nm_r (nI_1 i) ?_))
    exact ye_left_l a _ (i + 1) n q (by omega) h1 hh.2 (fun x hx => ht x (List.mem_cons.mpr (Or.inr hx))) hl (by omega) hp
theorem ye_left {post : Int32 → Prop} {a : List Int64} (i q : Nat) (hw : tm_w a 1) (hh : hd_y tk_kR tk_vR a_leftKind a_leftValue i a) (ht : ∀ t, t ∈ a → tk_r t) (hq : q = i + a.length) (hl : q ≤ 32) (hp : post (nI q)) : wpY_leftEnd post (f_place, f_count, f_top, f_done, f_open, f_steps, f_shownSteps, f_fault, f_in, f_made, f_old, f_size, f_heads, f_fresh, a_kind, a_value, a_all, a_split, a_toKind, a_doneKind, a_toValue, a_doneValue, a_begins, a_lacks, a_inKind, a_leftKind, a_madeKind, a_oldKind, a_resultKind, a_inValue, a_leftValue, a_madeValue, a_oldValue, a_resultValue, a_from, a_to, a_whole, a_known, a_bound, a_whose, a_rank, a_one, a_two, a_oneOf, a_twoOf, a_headAt, a_headOf, a_headLeft, a_pairs, a_first) (nI i) :=
  ⟨a.length + 1, ye_left_l a 1 i _ q hq hw hh ht hl (by omega) hp⟩
theorem yr_read {post : SY → Prop} {t : Int64} (k : Nat) (hk : k < 2400) (H : post (f_place, f_count, nI (k + 1), f_done, f_open, f_steps, f_shownSteps, f_fault, f_in, f_made, f_old, f_size, f_heads, f_fresh, a_kind, a_value, a_all, a_split, upd a_toKind k (tk_kT t), a_doneKind, upd a_toValue k (tk_vT t), a_doneValue, a_begins, a_lacks, a_inKind, a_leftKind, a_madeKind, a_oldKind, a_resultKind, a_inValue, a_leftValue, a_madeValue, a_oldValue, a_resultValue, a_from, a_to, a_whole, a_known, a_bound, a_whose, a_rank, a_one, a_two, a_oneOf, a_twoOf, a_headAt, a_headOf, a_headLeft, a_pairs, a_first)) : wpY_read post (f_place, f_count, nI k, f_done, f_open, f_steps, f_shownSteps, f_fault, f_in, f_made, f_old, f_size, f_heads, f_fresh, a_kind, a_value, a_all, a_split, a_toKind, a_doneKind, a_toValue, a_doneValue, a_begins, a_lacks, a_inKind, a_leftKind, a_madeKind, a_oldKind, a_resultKind, a_inValue, a_leftValue, a_madeValue, a_oldValue, a_resultValue, a_from, a_to, a_whole, a_known, a_bound, a_whose, a_rank, a_one, a_two, a_oneOf, a_twoOf, a_headAt, a_headOf, a_headLeft, a_pairs, a_first) (tk_kT t) (tk_vT t) := by
  have hin : vp_in (nI k) 2400 := vp_in_nI hk (by omega)
  have ek : (nI k).toNatClampNeg = k := nI_clamp (by omega)
  refine ⟨hin, nm_r (e' := upd a_toKind k (tk_kT t)) (by rw [ek, (tk_narT t).2]) (nm_r (nI_1 k) ⟨hin, nm_r (e' := upd a_toValue k (tk_vT t)) (by rw [ek]) H⟩)⟩
theorem yr_fin {post : SY → Prop} {t : Int64} (k : Nat) (hk : k < 2400) (H : post (f_place, f_count, f_top, nI (k + 1), f_open, f_steps, f_shownSteps, f_fault, f_in, f_made, f_old, f_size, f_heads, f_fresh, a_kind, a_value, a_all, a_split, a_toKind, upd a_doneKind k (tk_kT t), a_toValue, upd a_doneValue k (tk_vT t), a_begins, a_lacks, a_inKind, a_leftKind, a_madeKind, a_oldKind, a_resultKind, a_inValue, a_leftValue, a_madeValue, a_oldValue, a_resultValue, a_from, a_to, a_whole, a_known, a_bound, a_whose, a_rank, a_one, a_two, a_oneOf, a_twoOf, a_headAt, a_headOf, a_headLeft, a_pairs, a_first)) : wpY_finish post (f_place, f_count, f_top, nI k, f_open, f_steps, f_shownSteps, f_fault, f_in, f_made, f_old, f_size, f_heads, f_fresh, a_kind, a_value, a_all, a_split, a_toKind, a_doneKind, a_toValue, a_doneValue, a_begins, a_lacks, a_inKind, a_leftKind, a_madeKind, a_oldKind, a_resultKind, a_inValue, a_leftValue, a_madeValue, a_oldValue, a_resultValue, a_from, a_to, a_whole, a_known, a_bound, a_whose, a_rank, a_one, a_two, a_oneOf, a_twoOf, a_headAt, a_headOf, a_headLeft, a_pairs, a_first) (tk_kT t) (tk_vT t) := by
  have hin : vp_in (nI k) 2400 := vp_in_nI hk (by omega)
  have ek : (nI k).toNatClampNeg = k := nI_clamp (by omega)
  refine ⟨hin, nm_r (e' := upd a_doneKind k (tk_kT t)) (by rw [ek, (tk_narT t).2]) (nm_r (nI_1 k) ⟨hin, nm_r (e' := upd a_doneValue k (tk_vT t)) (by rw [ek]) H⟩)⟩
end
