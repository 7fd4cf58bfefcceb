/-! the reference: unification, its turns -/
section
variable {f_place f_count f_top f_done f_open f_steps f_shownSteps f_fault f_in f_made f_old f_size f_heads f_fresh : Int32} {a_kind a_value a_all a_split a_toKind a_doneKind a_toValue a_doneValue a_begins a_lacks a_inKind a_leftKind a_madeKind a_oldKind a_resultKind a_inValue a_leftValue a_madeValue a_oldValue a_resultValue a_from a_to a_whole a_known a_bound a_whose a_rank a_one a_two a_oneOf a_twoOf a_headAt a_headOf a_headLeft a_pairs a_first : Nat → Int32}
variable {J : Nat → Int64} {A B : List Int64} {σ : Nat → Option Nat} {rk : Nat → Nat} {i j : Nat}
theorem yu_pend {post : SY → Prop} {k a b : Nat} {x y z w : Int32} (hk : k < 400) (ha : a < 60) (hb : b < 60) (hi : i < 8) (hj : j < 8) (hx : x = nI (jy_p i j a)) (hy : y = nI (jy_o a)) (hz : z = nI (jy_p i j b)) (hw : w = nI (jy_o b)) (h : post (f_place, nI (k + 1), f_top, f_done, f_open, f_steps, f_shownSteps, f_fault, f_in, f_made, f_old, f_size, f_heads, f_fresh, a_kind, a_value, a_all, a_split, a_toKind, a_doneKind, a_toValue, a_doneValue, a_begins, a_lacks, a_inKind, a_leftKind, a_madeKind, a_oldKind, a_resultKind, a_inValue, a_leftValue, a_madeValue, a_oldValue, a_resultValue, a_from, a_to, a_whole, a_known, a_bound, a_whose, a_rank, upd a_one k (nI (jy_p i j a)), upd a_two k (nI (jy_p i j b)), upd a_oneOf k (nI (jy_o a)), upd a_twoOf k (nI (jy_o b)), a_headAt, a_headOf, a_headLeft, a_pairs, a_first)) : wpY_pend post (f_place, nI k, f_top, f_done, f_open, f_steps, f_shownSteps, f_fault, f_in, f_made, f_old, f_size, f_heads, f_fresh, a_kind, a_value, a_all, a_split, a_toKind, a_doneKind, a_toValue, a_doneValue, a_begins, a_lacks, a_inKind, a_leftKind, a_madeKind, a_oldKind, a_resultKind, a_inValue, a_leftValue, a_madeValue, a_oldValue, a_resultValue, a_from, a_to, a_whole, a_known, a_bound, a_whose, a_rank, a_one, a_two, a_oneOf, a_twoOf, a_headAt, a_headOf, a_headLeft, a_pairs, a_first) x y z w := by
  subst hx hy hz hw
  have hin : vp_in (nI k) 400 := vp_in_nI hk (by omega)
  have ek : (nI k).toNatClampNeg = k := nI_clamp (by omega)
  have h1 := jy_plt (i := i) (j := j) hi hj ha
  have h2 := jy_plt (i := i) (j := j) hi hj hb
  have h3 := jy_o1 a
  have h4 := jy_o1 b
  refine ⟨hin, nm_r (e' := upd a_one k (nI (jy_p i j a))) (by rw [ek, (tk_ns (by omega)).1]) ⟨hin, nm_r (e' := upd a_oneOf k (nI (jy_o a))) (by rw [ek, (tk_nb (by omega)).1]) ⟨hin, nm_r (e' := upd a_two k (nI (jy_p i j b))) (by rw [ek, (tk_ns (by omega)).1]) (nm_r (nI_1 k) ⟨hin, nm_r (e' := upd a_twoOf k (nI (jy_o b))) (by rw [ek, (tk_nb (by omega)).1]) h⟩)⟩⟩⟩
theorem yu_push {a b : Nat} {S : List (Nat × Nat)} {o1 w1 o2 w2 : Nat → Int32} (h : yu_S i j o1 w1 o2 w2 S) : yu_S i j (upd o1 S.length (nI (jy_p i j a))) (upd w1 S.length (nI (jy_o a))) (upd o2 S.length (nI (jy_p i j b))) (upd w2 S.length (nI (jy_o b))) ((a, b) :: S) :=
  ⟨⟨pk_us, pk_us, pk_us, pk_us⟩, yu_S_congr (fun k hk => ⟨pk_un (by omega), pk_un (by omega), pk_un (by omega), pk_un (by omega)⟩) h⟩
/-- what a turn finds at a place -/
theorem yu_at (H : jn_H J A B) (hY : jy_H a_kind a_value i j A B) {p : Nat} (hp : jn_v A B p) : (a_kind (jy_p i j p) = 2 ↔ ¬ J p < 8589934592) ∧ (¬ J p < 8589934592 → a_value (jy_p i j p) + 4 * nI (jy_o p) = nI (jn_n (J p))) ∧ (J p < 8589934592 → ∃ n, n < 9 ∧ J p = lN n ∧ a_value (jy_p i j p) = nI n) := by
  obtain ⟨_, jt, _⟩ := jy_term H hY hp
  have ho := jy_o1 p
  rcases jt with ⟨n, h1, e, e1, e2⟩ | ⟨r, h1, e, e1, e2⟩
  · have hs : J p < 8589934592 := by rw [e, tk_lt 8589934592 (by omega)]; omega
    exact ⟨⟨fun z => by rw [e1] at z; exact absurd z (by decide), fun z => absurd hs z⟩, fun z => absurd hs z, fun _ => ⟨n, h1, e, e2⟩⟩
  · have hs : ¬ J p < 8589934592 := by rw [e, tk_lt 8589934592 (by omega)]; omega
    refine ⟨⟨fun _ => hs, fun _ => e1⟩, fun _ => ?_, fun z => absurd z hs⟩
    rw [e2, e, jn_nv (by omega), show (4 : Int32) = nI 4 from rfl, pk_mul, nI_add]
/-- the head of a turn -/
theorem yu_pre {post : Int32 → SY → Prop} (H : jn_H J A B) (hY : jy_H a_kind a_value i j A B) {a b : Nat} {S : List (Nat × Nat)} (ha : jn_v A B a) (hb : jn_v A B b) (hS : S.length < 399)
    (h : ∃ N, ∀ n, N ≤ n → ∀ (hs : Int32) (o1 w1 o2 w2 bd wo ha ho hl : Nat → Int32), yu_S i j o1 w1 o2 w2 S → yu_s bd wo i j σ → wY_unify_148 post (wY_unify_34 post n) (nI (jy_p i j a)) (nI (jy_o a)) (nI (jy_p i j b)) (nI (jy_o b)) (yu_v (J a)) (yu_v (J b)) f_place (nI S.length) f_top f_done f_open f_steps f_shownSteps f_fault f_in f_made f_old f_size hs f_fresh a_kind a_value a_all a_split a_toKind a_doneKind a_toValue a_doneValue a_begins a_lacks a_inKind a_leftKind a_madeKind a_oldKind a_resultKind a_inValue a_leftValue a_madeValue a_oldValue a_resultValue a_from a_to a_whole a_known bd wo a_rank o1 o2 w1 w2 ha ho hl a_pairs a_first) : yu_Q post f_place f_count f_top f_done f_open f_steps f_shownSteps f_fault f_in f_made f_old f_size f_heads f_fresh a_kind a_value a_all a_split a_toKind a_doneKind a_toValue a_doneValue a_begins a_lacks a_inKind a_leftKind a_madeKind a_oldKind a_resultKind a_inValue a_leftValue a_madeValue a_oldValue a_resultValue a_from a_to a_whole a_known a_bound a_whose a_rank a_one a_two a_oneOf a_twoOf a_headAt a_headOf a_headLeft a_pairs a_first i j ((a, b) :: S) σ := by
  obtain ⟨N, hN⟩ := h
  refine ⟨N + 1, fun n hn ct hs o1 w1 o2 w2 bd wo ha' ho hl hct hyS hys => ?_⟩
  obtain ⟨n, rfl⟩ : ∃ n', n = n' + 1 := ⟨n - 1, by omega⟩
  subst hct
  have hn := hN n (by omega) hs o1 w1 o2 w2 bd wo ha' ho hl hyS.2 hys
  obtain ⟨⟨e1, e2, e3, e4⟩, _⟩ := hyS
  have hal := jn_lt H ha
  have hbl := jn_lt H hb
  have h1 := jy_plt (i := i) (j := j) hY.1 hY.2.1 hal.2.1
  have h2 := jy_plt (i := i) (j := j) hY.1 hY.2.1 hbl.2.1
  obtain ⟨va1, va2, va3⟩ := yu_at H hY ha
  obtain ⟨vb1, vb2, vb3⟩ := yu_at H hY hb
  have hin : vp_in (nI S.length) 400 := vp_in_nI (by omega) (by omega)
  have es : (nI S.length).toNatClampNeg = S.length := nI_clamp (by omega)
  have hina : vp_in (nI (jy_p i j a)) 270 := vp_in_nI (by omega) (by omega)
  have hinb : vp_in (nI (jy_p i j b)) 270 := vp_in_nI (by omega) (by omega)
  have ea : (nI (jy_p i j a)).toNatClampNeg = jy_p i j a := nI_clamp (by omega)
  have eb : (nI (jy_p i j b)).toNatClampNeg = jy_p i j b := nI_clamp (by omega)
  refine pk_le ((a, b) :: S).length 0 (fun z => absurd z (by simp)) (fun _ => ?_) rfl rfl (by rw [List.length_cons]; omega)
  refine nm_r (e' := nI S.length) (nI_pred S.length) ⟨hin, nm_r (e' := nI (jy_p i j a)) (by rw [es]; exact e1) ⟨hin, nm_r (e' := nI (jy_o a)) (by rw [es]; exact e2) ⟨hin, nm_r (e' := nI (jy_p i j b)) (by rw [es]; exact e3) ⟨hin, nm_r (e' := nI (jy_o b)) (by rw [es]; exact e4) ⟨hina, ?_⟩⟩⟩⟩⟩
  rw [ea]
  have tail : ∀ x, x = yu_v (J a) → wY_unify_119 post (wY_unify_34 post n) (nI (jy_p i j a)) (nI (jy_o a)) (nI (jy_p i j b)) (nI (jy_o b)) x f_place (nI S.length) f_top f_done f_open f_steps f_shownSteps f_fault f_in f_made f_old f_size hs f_fresh a_kind a_value a_all a_split a_toKind a_doneKind a_toValue a_doneValue a_begins a_lacks a_inKind a_leftKind a_madeKind a_oldKind a_resultKind a_inValue a_leftValue a_madeValue a_oldValue a_resultValue a_from a_to a_whole a_known bd wo a_rank o1 o2 w1 w2 ha' ho hl a_pairs a_first := by
    intro x hx
    subst hx
    refine ⟨hinb, ?_⟩
    rw [eb]
    by_cases hbs : J b < 8589934592
    · have e : yu_v (J b) = -1 := if_pos hbs
      rw [e] at hn
      exact br_f (fun z => vb1.mp z hbs) hn
    · have e : yu_v (J b) = nI (jn_n (J b)) := if_neg hbs
      refine br_t (vb1.mpr hbs) ⟨hinb, ?_⟩
      rw [vb2 hbs, ← e]
      exact hn
  by_cases has : J a < 8589934592
  · refine br_f (fun z => va1.mp z has) (tail _ (if_pos has).symm)
  · refine br_t (va1.mpr has) ⟨hina, tail _ ?_⟩
    rw [va2 has]
    exact (if_neg has).symm
theorem yu_neg {t : Int64} (h : t < 8589934592) : yu_v t = -1 := if_pos h
theorem yu_pos {t : Int64} (h : ¬ t < 8589934592) : yu_v t = nI (jn_n t) := if_neg h
/-- the same variable on both sides -/
theorem yu_s1 {post : Int32 → SY → Prop} (H : jn_H J A B) (hY : jy_H a_kind a_value i j A B) {a b : Nat} {S : List (Nat × Nat)} (ha : jn_v A B a) (hb : jn_v A B b) (hS : S.length < 399) (hav : ¬ J a < 8589934592) (hJ : J a = J b) (hQ : yu_Q post f_place f_count f_top f_done f_open f_steps f_shownSteps f_fault f_in f_made f_old f_size f_heads f_fresh a_kind a_value a_all a_split a_toKind a_doneKind a_toValue a_doneValue a_begins a_lacks a_inKind a_leftKind a_madeKind a_oldKind a_resultKind a_inValue a_leftValue a_madeValue a_oldValue a_resultValue a_from a_to a_whole a_known a_bound a_whose a_rank a_one a_two a_oneOf a_twoOf a_headAt a_headOf a_headLeft a_pairs a_first i j S σ) : yu_Q post f_place f_count f_top f_done f_open f_steps f_shownSteps f_fault f_in f_made f_old f_size f_heads f_fresh a_kind a_value a_all a_split a_toKind a_doneKind a_toValue a_doneValue a_begins a_lacks a_inKind a_leftKind a_madeKind a_oldKind a_resultKind a_inValue a_leftValue a_madeValue a_oldValue a_resultValue a_from a_to a_whole a_known a_bound a_whose a_rank a_one a_two a_oneOf a_twoOf a_headAt a_headOf a_headLeft a_pairs a_first i j ((a, b) :: S) σ := by
  have hv := (jn_var (jn_J H ha) hav).1
  obtain ⟨N, hN⟩ := hQ
  refine yu_pre H hY ha hb hS ⟨N, fun n hn hs o1 w1 o2 w2 bd wo hda ho hl g1 g2 => ?_⟩
  have hn := hN n hn (nI S.length) hs o1 w1 o2 w2 bd wo hda ho hl rfl g1 g2
  rw [← hJ, yu_pos hav]
  exact br_f (nI_pos (by omega)) (br_t rfl hn)
/-- a bound variable on the one side -/
theorem yu_s2 {post : Int32 → SY → Prop} (H : jn_H J A B) (hR : us_R A B σ rk) (hY : jy_H a_kind a_value i j A B) {a b r : Nat} {S : List (Nat × Nat)} (ha : jn_v A B a) (hb : jn_v A B b) (hS : S.length < 399) (hav : ¬ J a < 8589934592) (hne : J a ≠ J b) (hr : σ (jn_n (J a)) = some r) (hQ : yu_Q post f_place f_count f_top f_done f_open f_steps f_shownSteps f_fault f_in f_made f_old f_size f_heads f_fresh a_kind a_value a_all a_split a_toKind a_doneKind a_toValue a_doneValue a_begins a_lacks a_inKind a_leftKind a_madeKind a_oldKind a_resultKind a_inValue a_leftValue a_madeValue a_oldValue a_resultValue a_from a_to a_whole a_known a_bound a_whose a_rank a_one a_two a_oneOf a_twoOf a_headAt a_headOf a_headLeft a_pairs a_first i j ((r, b) :: S) σ) : yu_Q post f_place f_count f_top f_done f_open f_steps f_shownSteps f_fault f_in f_made f_old f_size f_heads f_fresh a_kind a_value a_all a_split a_toKind a_doneKind a_toValue a_doneValue a_begins a_lacks a_inKind a_leftKind a_madeKind a_oldKind a_resultKind a_inValue a_leftValue a_madeValue a_oldValue a_resultValue a_from a_to a_whole a_known a_bound a_whose a_rank a_one a_two a_oneOf a_twoOf a_headAt a_headOf a_headLeft a_pairs a_first i j ((a, b) :: S) σ := by
  obtain ⟨N, hN⟩ := hQ
  refine yu_pre H hY ha hb hS ⟨N, fun n hnN hs o1 w1 o2 w2 bd wo hda ho hl g1 g2 => ?_⟩
  obtain ⟨hv, ev, _⟩ := jn_var (jn_J H ha) hav
  obtain ⟨_, hrv, _⟩ := hR.2 _ r hr
  have hrl := jn_lt H hrv
  have hbl := jn_lt H hb
  have hrp := jy_plt (i := i) (j := j) hY.1 hY.2.1 hrl.2.1
  obtain ⟨ub, uw⟩ := (g2 _ hv).2 r hr
  have hn := hN n hnN (nI (S.length + 1)) hs _ _ _ _ bd wo hda ho hl rfl (yu_push (a := r) (b := b) g1) g2
  have hin : vp_in (nI (jn_n (J a))) 8 := vp_in_nI hv (by omega)
  have ec : (nI (jn_n (J a))).toNatClampNeg = jn_n (J a) := nI_clamp (by omega)
  have hnv : ¬ nI (jn_n (J a)) = yu_v (J b) := by
    by_cases hbs : J b < 8589934592
    · rw [yu_neg hbs]
      intro z
      have := nI_pos (n := jn_n (J a)) (by omega)
      rw [z] at this
      exact this (by decide)
    · obtain ⟨hw, ew, _⟩ := jn_var (jn_J H hb) hbs
      rw [yu_pos hbs, nI_eq (by omega) (by omega)]
      intro z
      exact hne (by rw [ev, ew, z])
  rw [yu_pos hav]
  refine br_f (nI_pos (by omega)) (br_f hnv (br_f (nI_pos (by omega)) ⟨hin, ?_⟩))
  rw [ec]
  refine br_f (by rw [ub]; exact nI_pos (by omega)) ⟨hin, hin, ?_⟩
  exact yu_pend (a := r) (b := b) (i := i) (j := j) (by omega) hrl.2.1 hbl.2.1 hY.1 hY.2.1 ub uw rfl rfl hn
/-- the way past the one side, whose variable, if it is one, stands for itself -/
theorem yu_165 {post : Int32 → SY → Prop} {J34 : Int32 → Int32 → Int32 → Int32 → Int32 → Int32 → Int32 → Int32 → Int32 → Int32 → Int32 → Int32 → Int32 → Int32 → (Nat → Int32) → (Nat → Int32) → (Nat → Int32) → (Nat → Int32) → (Nat → Int32) → (Nat → Int32) → (Nat → Int32) → (Nat → Int32) → (Nat → Int32) → (Nat → Int32) → (Nat → Int32) → (Nat → Int32) → (Nat → Int32) → (Nat → Int32) → (Nat → Int32) → (Nat → Int32) → (Nat → Int32) → (Nat → Int32) → (Nat → Int32) → (Nat → Int32) → (Nat → Int32) → (Nat → Int32) → (Nat → Int32) → (Nat → Int32) → (Nat → Int32) → (Nat → Int32) → (Nat → Int32) → (Nat → Int32) → (Nat → Int32) → (Nat → Int32) → (Nat → Int32) → (Nat → Int32) → (Nat → Int32) → (Nat → Int32) → (Nat → Int32) → (Nat → Int32) → Prop} (H : jn_H J A B) {a b : Nat} {x3 x4 x5 x6 : Int32} (ha : jn_v A B a) (hb : jn_v A B b) (hne : J a ≠ J b ∨ J a < 8589934592) (hun : ¬ J a < 8589934592 → σ (jn_n (J a)) = none) (hu : yu_s a_bound a_whose i j σ) (h : wY_unify_205 post J34 x3 x4 x5 x6 (yu_v (J a)) (yu_v (J b)) f_place f_count f_top f_done f_open f_steps f_shownSteps f_fault f_in f_made f_old f_size f_heads f_fresh a_kind a_value a_all a_split a_toKind a_doneKind a_toValue a_doneValue a_begins a_lacks a_inKind a_leftKind a_madeKind a_oldKind a_resultKind a_inValue a_leftValue a_madeValue a_oldValue a_resultValue a_from a_to a_whole a_known a_bound a_whose a_rank a_one a_two a_oneOf a_twoOf a_headAt a_headOf a_headLeft a_pairs a_first) : wY_unify_148 post J34 x3 x4 x5 x6 (yu_v (J a)) (yu_v (J b)) f_place f_count f_top f_done f_open f_steps f_shownSteps f_fault f_in f_made f_old f_size f_heads f_fresh a_kind a_value a_all a_split a_toKind a_doneKind a_toValue a_doneValue a_begins a_lacks a_inKind a_leftKind a_madeKind a_oldKind a_resultKind a_inValue a_leftValue a_madeValue a_oldValue a_resultValue a_from a_to a_whole a_known a_bound a_whose a_rank a_one a_two a_oneOf a_twoOf a_headAt a_headOf a_headLeft a_pairs a_first := by
  by_cases has : J a < 8589934592
  · have e := yu_neg has
    rw [e] at h ⊢
    exact br_t (by decide) (br_t (by decide) h)
  · obtain ⟨hv, ev, _⟩ := jn_var (jn_J H ha) has
    have e := yu_pos has
    have hnv : ¬ nI (jn_n (J a)) = yu_v (J b) := by
      by_cases hbs : J b < 8589934592
      · rw [yu_neg hbs]
        intro z
        have := nI_pos (n := jn_n (J a)) (by omega)
        rw [z] at this
        exact this (by decide)
      · obtain ⟨hw, ew, _⟩ := jn_var (jn_J H hb) hbs
        rw [yu_pos hbs, nI_eq (by omega) (by omega)]
        intro z
        rcases hne with hne | hne
        · exact hne (by rw [ev, ew, z])
        · exact has hne
    rw [e] at h ⊢
    refine br_f (nI_pos (by omega)) (br_f hnv (br_f (nI_pos (by omega)) ⟨vp_in_nI hv (by omega), br_t ?_ h⟩))
    rw [nI_clamp (by omega), (hu _ hv).1 (hun has)]
    decide
theorem yu_s3 {post : Int32 → SY → Prop} (H : jn_H J A B) (hR : us_R A B σ rk) (hY : jy_H a_kind a_value i j A B) {a b r : Nat} {S : List (Nat × Nat)} (ha : jn_v A B a) (hb : jn_v A B b) (hS : S.length < 399) (hun : ¬ J a < 8589934592 → σ (jn_n (J a)) = none) (hbv : ¬ J b < 8589934592) (hne : J a ≠ J b) (hr : σ (jn_n (J b)) = some r) (hQ : yu_Q post f_place f_count f_top f_done f_open f_steps f_shownSteps f_fault f_in f_made f_old f_size f_heads f_fresh a_kind a_value a_all a_split a_toKind a_doneKind a_toValue a_doneValue a_begins a_lacks a_inKind a_leftKind a_madeKind a_oldKind a_resultKind a_inValue a_leftValue a_madeValue a_oldValue a_resultValue a_from a_to a_whole a_known a_bound a_whose a_rank a_one a_two a_oneOf a_twoOf a_headAt a_headOf a_headLeft a_pairs a_first i j ((a, r) :: S) σ) : yu_Q post f_place f_count f_top f_done f_open f_steps f_shownSteps f_fault f_in f_made f_old f_size f_heads f_fresh a_kind a_value a_all a_split a_toKind a_doneKind a_toValue a_doneValue a_begins a_lacks a_inKind a_leftKind a_madeKind a_oldKind a_resultKind a_inValue a_leftValue a_madeValue a_oldValue a_resultValue a_from a_to a_whole a_known a_bound a_whose a_rank a_one a_two a_oneOf a_twoOf a_headAt a_headOf a_headLeft a_pairs a_first i j ((a, b) :: S) σ := by
  obtain ⟨N, hN⟩ := hQ
  refine yu_pre H hY ha hb hS ⟨N, fun n hnN hs o1 w1 o2 w2 bd wo hda ho hl g1 g2 => ?_⟩
  obtain ⟨hv, ev, _⟩ := jn_var (jn_J H hb) hbv
  obtain ⟨_, hrv, _⟩ := hR.2 _ r hr
  have hrl := jn_lt H hrv
  have hal := jn_lt H ha
  have hrp := jy_plt (i := i) (j := j) hY.1 hY.2.1 hrl.2.1
  obtain ⟨ub, uw⟩ := (g2 _ hv).2 r hr
  have hn := hN n hnN (nI (S.length + 1)) hs _ _ _ _ bd wo hda ho hl rfl (yu_push (a := a) (b := r) g1) g2
  have hin : vp_in (nI (jn_n (J b))) 8 := vp_in_nI hv (by omega)
  have ec : (nI (jn_n (J b))).toNatClampNeg = jn_n (J b) := nI_clamp (by omega)
  refine yu_165 H ha hb (Or.inl hne) hun g2 ?_
  rw [yu_pos hbv]
  refine br_f (nI_pos (by omega)) ⟨hin, ?_⟩
  rw [ec]
  refine br_f (by rw [ub]; exact nI_pos (by omega)) ⟨hin, hin, ?_⟩
  exact yu_pend (a := a) (b := r) (i := i) (j := j) (by omega) hal.2.1 hrl.2.1 hY.1 hY.2.1 rfl rfl ub uw hn
theorem yu_205 {post : Int32 → SY → Prop} {J34 : Int32 → Int32 → Int32 → Int32 → Int32 → Int32 → Int32 → Int32 → Int32 → Int32 → Int32 → Int32 → Int32 → Int32 → (Nat → Int32) → (Nat → Int32) → (Nat → Int32) → (Nat → Int32) → (Nat → Int32) → (Nat → Int32) → (Nat → Int32) → (Nat → Int32) → (Nat → Int32) → (Nat → Int32) → (Nat → Int32) → (Nat → Int32) → (Nat → Int32) → (Nat → Int32) → (Nat → Int32) → (Nat → Int32) → (Nat → Int32) → (Nat → Int32) → (Nat → Int32) → (Nat → Int32) → (Nat → Int32) → (Nat → Int32) → (Nat → Int32) → (Nat → Int32) → (Nat → Int32) → (Nat → Int32) → (Nat → Int32) → (Nat → Int32) → (Nat → Int32) → (Nat → Int32) → (Nat → Int32) → (Nat → Int32) → (Nat → Int32) → (Nat → Int32) → (Nat → Int32) → (Nat → Int32) → Prop} (H : jn_H J A B) {b : Nat} {x3 x4 x5 x6 x7 : Int32} (hb : jn_v A B b) (hun : ¬ J b < 8589934592 → σ (jn_n (J b)) = none) (hu : yu_s a_bound a_whose i j σ) (h : wY_unify_244 post J34 x3 x4 x5 x6 x7 (yu_v (J b)) f_place f_count f_top f_done f_open f_steps f_shownSteps f_fault f_in f_made f_old f_size f_heads f_fresh a_kind a_value a_all a_split a_toKind a_doneKind a_toValue a_doneValue a_begins a_lacks a_inKind a_leftKind a_madeKind a_oldKind a_resultKind a_inValue a_leftValue a_madeValue a_oldValue a_resultValue a_from a_to a_whole a_known a_bound a_whose a_rank a_one a_two a_oneOf a_twoOf a_headAt a_headOf a_headLeft a_pairs a_first) : wY_unify_205 post J34 x3 x4 x5 x6 x7 (yu_v (J b)) f_place f_count f_top f_done f_open f_steps f_shownSteps f_fault f_in f_made f_old f_size f_heads f_fresh a_kind a_value a_all a_split a_toKind a_doneKind a_toValue a_doneValue a_begins a_lacks a_inKind a_leftKind a_madeKind a_oldKind a_resultKind a_inValue a_leftValue a_madeValue a_oldValue a_resultValue a_from a_to a_whole a_known a_bound a_whose a_rank a_one a_two a_oneOf a_twoOf a_headAt a_headOf a_headLeft a_pairs a_first := by
  by_cases hbs : J b < 8589934592
  · have e := yu_neg hbs
    rw [e] at h ⊢
    exact br_t (by decide) h
  · obtain ⟨hv, ev, _⟩ := jn_var (jn_J H hb) hbs
    have e := yu_pos hbs
    rw [e] at h ⊢
    refine br_f (nI_pos (by omega)) ⟨vp_in_nI hv (by omega), br_t ?_ h⟩
    rw [nI_clamp (by omega), (hu _ hv).1 (hun hbs)]
    decide
theorem yu_sput {bd wo : Nat → Int32} (h : yu_s bd wo i j σ) {v q : Nat} : yu_s (upd bd v (nI (jy_p i j q))) (upd wo v (nI (jy_o q))) i j (us_put σ v q) := by
  intro w hw
  unfold us_put
  by_cases e : w = v
  · subst e
    rw [if_pos rfl, pk_us, pk_us]
    exact ⟨fun z => absurd z (by simp), fun q' z => by injection z with z; subst z; exact ⟨rfl, rfl⟩⟩
  · rw [if_neg e, pk_un e, pk_un e]
    exact h w hw
theorem yu_s4 {post : Int32 → SY → Prop} (H : jn_H J A B) (hR : us_R A B σ rk) (hY : jy_H a_kind a_value i j A B) {a b : Nat} {S : List (Nat × Nat)} (ha : jn_v A B a) (hb : jn_v A B b) (hS : S.length < 399) (hav : ¬ J a < 8589934592) (hun : σ (jn_n (J a)) = none) (hbun : ¬ J b < 8589934592 → σ (jn_n (J b)) = none) (hne : J a ≠ J b) (hF : lN (8589934592 + jn_n (J a)) ∈ us_E (us_h A B σ 8) (jn_t A B b) → ∀ (ct hs : Int32) (o1 w1 o2 w2 bd wo ha ho hl : Nat → Int32), post 0 (f_place, ct, f_top, f_done, f_open, f_steps, f_shownSteps, f_fault, f_in, f_made, f_old, f_size, hs, f_fresh, a_kind, a_value, a_all, a_split, a_toKind, a_doneKind, a_toValue, a_doneValue, a_begins, a_lacks, a_inKind, a_leftKind, a_madeKind, a_oldKind, a_resultKind, a_inValue, a_leftValue, a_madeValue, a_oldValue, a_resultValue, a_from, a_to, a_whole, a_known, bd, wo, a_rank, o1, o2, w1, w2, ha, ho, hl, a_pairs, a_first)) (hQ : ¬ lN (8589934592 + jn_n (J a)) ∈ us_E (us_h A B σ 8) (jn_t A B b) → yu_Q post f_place f_count f_top f_done f_open f_steps f_shownSteps f_fault f_in f_made f_old f_size f_heads f_fresh a_kind a_value a_all a_split a_toKind a_doneKind a_toValue a_doneValue a_begins a_lacks a_inKind a_leftKind a_madeKind a_oldKind a_resultKind a_inValue a_leftValue a_madeValue a_oldValue a_resultValue a_from a_to a_whole a_known a_bound a_whose a_rank a_one a_two a_oneOf a_twoOf a_headAt a_headOf a_headLeft a_pairs a_first i j S (us_put σ (jn_n (J a)) b)) : yu_Q post f_place f_count f_top f_done f_open f_steps f_shownSteps f_fault f_in f_made f_old f_size f_heads f_fresh a_kind a_value a_all a_split a_toKind a_doneKind a_toValue a_doneValue a_begins a_lacks a_inKind a_leftKind a_madeKind a_oldKind a_resultKind a_inValue a_leftValue a_madeValue a_oldValue a_resultValue a_from a_to a_whole a_known a_bound a_whose a_rank a_one a_two a_oneOf a_twoOf a_headAt a_headOf a_headLeft a_pairs a_first i j ((a, b) :: S) σ := by
  obtain ⟨hv, ev, _⟩ := jn_var (jn_J H ha) hav
  have hbl := jn_lt H hb
  have hbp := jy_plt (i := i) (j := j) hY.1 hY.2.1 hbl.2.1
  have hbo := jy_o1 b
  have h0 : ¬ nI (jn_n (J a)) < 0 := nI_pos (by omega)
  have h0' : 0 ≤ nI (jn_n (J a)) := nI_pos' (by omega)
  have hin : vp_in (nI (jn_n (J a))) 8 := vp_in_nI hv (by omega)
  have ec : (nI (jn_n (J a))).toNatClampNeg = jn_n (J a) := nI_clamp (by omega)
  by_cases hoc : lN (8589934592 + jn_n (J a)) ∈ us_E (us_h A B σ 8) (jn_t A B b)
  · refine yu_pre H hY ha hb hS ⟨0, fun n hnN hs o1 w1 o2 w2 bd wo hda ho hl g1 g2 => ?_⟩
    refine yu_165 H ha hb (Or.inl hne) (fun _ => hun) g2 (yu_205 H hb hbun g2 ?_)
    rw [yu_pos hav]
    refine br_t h0' (br_f h0 (br_f h0 (br_f h0 ?_)))
    exact yo_occurs hv H hR hY g2 hb rfl rfl rfl (fun _ hs ha ho hl => br_f (by decide) (hF hoc _ _ _ _ _ _ _ _ _ _ _)) (fun z => absurd hoc z)
  · obtain ⟨N, hN⟩ := hQ hoc
    refine yu_pre H hY ha hb hS ⟨N, fun n hnN hs o1 w1 o2 w2 bd wo hda ho hl g1 g2 => ?_⟩
    refine yu_165 H ha hb (Or.inl hne) (fun _ => hun) g2 (yu_205 H hb hbun g2 ?_)
    rw [yu_pos hav]
    refine br_t h0' (br_f h0 (br_f h0 (br_f h0 ?_)))
    refine yo_occurs hv H hR hY g2 hb rfl rfl rfl (fun z => absurd z hoc) (fun _ hs ha ho hl => br_t rfl (br_f h0 ?_))
    refine ⟨hin, nm_r (e' := upd bd (jn_n (J a)) (nI (jy_p i j b))) (by rw [ec, (tk_ns (by omega)).1]) (br_f h0 ⟨hin, nm_r (e' := upd wo (jn_n (J a)) (nI (jy_o b))) (by rw [ec, (tk_nb (by omega)).1]) ?_⟩)⟩
    exact hN n hnN _ _ _ _ _ _ _ _ _ _ _ rfl g1 (yu_sput g2)
theorem yu_s5 {post : Int32 → SY → Prop} (H : jn_H J A B) (hR : us_R A B σ rk) (hY : jy_H a_kind a_value i j A B) {a b : Nat} {S : List (Nat × Nat)} (ha : jn_v A B a) (hb : jn_v A B b) (hS : S.length < 399) (has : J a < 8589934592) (hbv : ¬ J b < 8589934592) (hun : σ (jn_n (J b)) = none) (hF : lN (8589934592 + jn_n (J b)) ∈ us_E (us_h A B σ 8) (jn_t A B a) → ∀ (ct hs : Int32) (o1 w1 o2 w2 bd wo ha ho hl : Nat → Int32), post 0 (f_place, ct, f_top, f_done, f_open, f_steps, f_shownSteps, f_fault, f_in, f_made, f_old, f_size, hs, f_fresh, a_kind, a_value, a_all, a_split, a_toKind, a_doneKind, a_toValue, a_doneValue, a_begins, a_lacks, a_inKind, a_leftKind, a_madeKind, a_oldKind, a_resultKind, a_inValue, a_leftValue, a_madeValue, a_oldValue, a_resultValue, a_from, a_to, a_whole, a_known, bd, wo, a_rank, o1, o2, w1, w2, ha, ho, hl, a_pairs, a_first)) (hQ : ¬ lN (8589934592 + jn_n (J b)) ∈ us_E (us_h A B σ 8) (jn_t A B a) → yu_Q post f_place f_count f_top f_done f_open f_steps f_shownSteps f_fault f_in f_made f_old f_size f_heads f_fresh a_kind a_value a_all a_split a_toKind a_doneKind a_toValue a_doneValue a_begins a_lacks a_inKind a_leftKind a_madeKind a_oldKind a_resultKind a_inValue a_leftValue a_madeValue a_oldValue a_resultValue a_from a_to a_whole a_known a_bound a_whose a_rank a_one a_two a_oneOf a_twoOf a_headAt a_headOf a_headLeft a_pairs a_first i j S (us_put σ (jn_n (J b)) a)) : yu_Q post f_place f_count f_top f_done f_open f_steps f_shownSteps f_fault f_in f_made f_old f_size f_heads f_fresh a_kind a_value a_all a_split a_toKind a_doneKind a_toValue a_doneValue a_begins a_lacks a_inKind a_leftKind a_madeKind a_oldKind a_resultKind a_inValue a_leftValue a_madeValue a_oldValue a_resultValue a_from a_to a_whole a_known a_bound a_whose a_rank a_one a_two a_oneOf a_twoOf a_headAt a_headOf a_headLeft a_pairs a_first i j ((a, b) :: S) σ := by
  obtain ⟨hv, ev, _⟩ := jn_var (jn_J H hb) hbv
  have hal := jn_lt H ha
  have hap := jy_plt (i := i) (j := j) hY.1 hY.2.1 hal.2.1
  have hao := jy_o1 a
  have h0 : ¬ nI (jn_n (J b)) < 0 := nI_pos (by omega)
  have hin : vp_in (nI (jn_n (J b))) 8 := vp_in_nI hv (by omega)
  have ec : (nI (jn_n (J b))).toNatClampNeg = jn_n (J b) := nI_clamp (by omega)
  have hm : (-1 : Int32) < 0 := by decide
  by_cases hoc : lN (8589934592 + jn_n (J b)) ∈ us_E (us_h A B σ 8) (jn_t A B a)
  · refine yu_pre H hY ha hb hS ⟨0, fun n hnN hs o1 w1 o2 w2 bd wo hda ho hl g1 g2 => ?_⟩
    refine yu_165 H ha hb (Or.inr has) (fun z => absurd has z) g2 (yu_205 H hb (fun _ => hun) g2 ?_)
    rw [yu_neg has, yu_pos hbv]
    refine br_f (by decide) (br_f h0 (br_t hm (br_t hm (br_t hm ?_))))
    exact yo_occurs hv H hR hY g2 ha rfl rfl rfl (fun _ hs ha ho hl => br_f (by decide) (hF hoc _ _ _ _ _ _ _ _ _ _ _)) (fun z => absurd hoc z)
  · obtain ⟨N, hN⟩ := hQ hoc
    refine yu_pre H hY ha hb hS ⟨N, fun n hnN hs o1 w1 o2 w2 bd wo hda ho hl g1 g2 => ?_⟩
    refine yu_165 H ha hb (Or.inr has) (fun z => absurd has z) g2 (yu_205 H hb (fun _ => hun) g2 ?_)
    rw [yu_neg has, yu_pos hbv]
    refine br_f (by decide) (br_f h0 (br_t hm (br_t hm (br_t hm ?_))))
    refine yo_occurs hv H hR hY g2 ha rfl rfl rfl (fun z => absurd z hoc) (fun _ hs ha ho hl => br_t rfl (br_t hm ?_))
    refine ⟨hin, nm_r (e' := upd bd (jn_n (J b)) (nI (jy_p i j a))) (by rw [ec, (tk_ns (by omega)).1]) (br_t hm ⟨hin, nm_r (e' := upd wo (jn_n (J b)) (nI (jy_o a))) (by rw [ec, (tk_nb (by omega)).1]) ?_⟩)⟩
    exact hN n hnN _ _ _ _ _ _ _ _ _ _ _ rfl g1 (yu_sput g2)
/-- two symbols -/
theorem yu_s6 {post : Int32 → SY → Prop} (H : jn_H J A B) (hY : jy_H a_kind a_value i j A B) {a b : Nat} {S : List (Nat × Nat)} (ha : jn_v A B a) (hb : jn_v A B b) (hS : S.length < 399) (has : J a < 8589934592) (hbs : J b < 8589934592) (hne : J a ≠ J b) (hF : ∀ (ct hs : Int32) (o1 w1 o2 w2 bd wo ha ho hl : Nat → Int32), post 0 (f_place, ct, f_top, f_done, f_open, f_steps, f_shownSteps, f_fault, f_in, f_made, f_old, f_size, hs, f_fresh, a_kind, a_value, a_all, a_split, a_toKind, a_doneKind, a_toValue, a_doneValue, a_begins, a_lacks, a_inKind, a_leftKind, a_madeKind, a_oldKind, a_resultKind, a_inValue, a_leftValue, a_madeValue, a_oldValue, a_resultValue, a_from, a_to, a_whole, a_known, bd, wo, a_rank, o1, o2, w1, w2, ha, ho, hl, a_pairs, a_first)) : yu_Q post f_place f_count f_top f_done f_open f_steps f_shownSteps f_fault f_in f_made f_old f_size f_heads f_fresh a_kind a_value a_all a_split a_toKind a_doneKind a_toValue a_doneValue a_begins a_lacks a_inKind a_leftKind a_madeKind a_oldKind a_resultKind a_inValue a_leftValue a_madeValue a_oldValue a_resultValue a_from a_to a_whole a_known a_bound a_whose a_rank a_one a_two a_oneOf a_twoOf a_headAt a_headOf a_headLeft a_pairs a_first i j ((a, b) :: S) σ := by
  have hal := jn_lt H ha
  have hap := jy_plt (i := i) (j := j) hY.1 hY.2.1 hal.2.1
  have hbl := jn_lt H hb
  have hbp := jy_plt (i := i) (j := j) hY.1 hY.2.1 hbl.2.1
  refine yu_pre H hY ha hb hS ⟨0, fun n hnN hs o1 w1 o2 w2 bd wo hda ho hl g1 g2 => ?_⟩
  refine yu_165 H ha hb (Or.inr has) (fun z => absurd has z) g2 (yu_205 H hb (fun z => absurd hbs z) g2 ?_)
  rw [yu_neg has, yu_neg hbs]
  obtain ⟨na, h1, e1, v1⟩ := (yu_at H hY ha).2.2 has
  obtain ⟨nb, h2, e2, v2⟩ := (yu_at H hY hb).2.2 hbs
  refine br_f (by decide) (br_t (by decide) ⟨vp_in_nI (by omega) (by omega), vp_in_nI (by omega) (by omega), br_f ?_ (hF _ _ _ _ _ _ _ _ _ _ _)⟩)
  rw [nI_clamp (by omega), nI_clamp (by omega), v1, v2, nI_eq (by omega) (by omega)]
  intro z
  exact hne (by rw [e1, e2, z])
def yu_ag (J : Nat → Int64) (A B : List Int64) (p q : Nat) (S : List (Nat × Nat)) : List (Nat × Nat) :=
  if tm_ar (J p) = 0 then S else if tm_ar (J p) = 2 then (p + 1, q + 1) :: (p + 1 + (jn_t A B (p + 1)).length, q + 1 + (jn_t A B (q + 1)).length) :: S else (p + 1, q + 1) :: S
theorem yj_end {post : Int32 → Prop} (H : jn_H J A B) (hY : jy_H a_kind a_value i j A B) {p : Nat} {x : Int32} (hx : x = nI (jy_p i j p)) (hp : jn_v A B p) (h : post (nI (jy_p i j p + (jn_t A B p).length))) : wpY_endOf post (f_place, f_count, f_top, f_done, f_open, f_steps, f_shownSteps, f_fault, f_in, f_made, f_old, f_size, f_heads, f_fresh, a_kind, a_value, a_all, a_split, a_toKind, a_doneKind, a_toValue, a_doneValue, a_begins, a_lacks, a_inKind, a_leftKind, a_madeKind, a_oldKind, a_resultKind, a_inValue, a_leftValue, a_madeValue, a_oldValue, a_resultValue, a_from, a_to, a_whole, a_known, a_bound, a_whose, a_rank, a_one, a_two, a_oneOf, a_twoOf, a_headAt, a_headOf, a_headLeft, a_pairs, a_first) x 270 := by
  subst hx
  obtain ⟨jt1, jt2, jt3⟩ := jy_term H hY hp
  obtain ⟨_, _, _, _, _, tw, _, _, _, tk, _, _⟩ := jn_tm H hp
  have ho := jy_o1 p
  have key : ∀ (a : List Int64) (m k n q : Nat), q = k + a.length → tm_w a m → jy_h a_kind a_value (jy_o p) k a → q ≤ 240 → a.length < n → post (nI q) → wY_endOf_5 post 270 f_place f_count f_top f_done f_open f_steps f_shownSteps f_fault f_in f_made f_old f_size f_heads f_fresh a_kind a_value a_all a_split a_toKind a_doneKind a_toValue a_doneValue a_begins a_lacks a_inKind a_leftKind a_madeKind a_oldKind a_resultKind a_inValue a_leftValue a_madeValue a_oldValue a_resultValue a_from a_to a_whole a_known a_bound a_whose a_rank a_one a_two a_oneOf a_twoOf a_headAt a_headOf a_headLeft a_pairs a_first n (nI m) (nI k) := by
    intro a
    induction a with
    | nil =>
      intro m k n q hq hw hh hl hn hp
      obtain ⟨n, rfl⟩ : ∃ n', n = n' + 1 := ⟨n - 1, by omega⟩
      rw [tm_w_nil] at hw
      subst hw
      have hq' : q = k := hq
      subst hq'
      exact br_t (Int32.le_refl _) (br_t (Int32.le_refl _) hp)
    | cons t a ih =>
      intro m k n q hq hw hh hl hn hp
      obtain ⟨n, rfl⟩ : ∃ n', n = n' + 1 := ⟨n - 1, by omega⟩
      rw [List.length_cons] at hq hn
      have hml := tm_w_len _ _ hw
      rw [List.length_cons] at hml
      obtain ⟨c, rfl, h1⟩ := tm_w_ne hw
      have hin : vp_in (nI k) 270 := vp_in_nI (by omega) (by omega)
      refine pk_le (c + 1) 0 (fun z => absurd z (by omega)) (fun _ => pk_le 270 k (fun z => absurd z (by omega)) (fun _ => ⟨hin, hin, ?_⟩))
      rw [nI_clamp (by omega)]
      refine jy_ar ho hh.1 (nm_r (ya_step c _) (nm_r (nI_1 k) (ih _ (k + 1) n q (by omega) h1 hh.2 hl (by omega) hp)))
  exact ⟨(jn_t A B p).length + 1, key (jn_t A B p) 1 _ _ _ rfl tw jt1 jt3 (by omega) h⟩
theorem jn_reg (H : jn_H J A B) {p : Nat} (hp : jn_v A B p) : p + (jn_t A B p).length < 30 ∨ 30 ≤ p := by
  by_cases h30 : p < 30
  · obtain ⟨_, _, _, _, _, _, _, _, _, _, z8, _⟩ := jn_tm H hp
    have := z8 h30
    obtain ⟨_, _, h3, _⟩ := H
    omega
  · omega
theorem jn_v29 (H : jn_H J A B) {p : Nat} (hp : jn_v A B p) : p ≠ 29 := by
  obtain ⟨_, _, h3, _⟩ := H
  rcases hp with h | h <;> omega
theorem yu_s7 {post : Int32 → SY → Prop} (H : jn_H J A B) (hY : jy_H a_kind a_value i j A B) {a b : Nat} {S : List (Nat × Nat)} (ha : jn_v A B a) (hb : jn_v A B b) (hS : S.length < 398) (has : J a < 8589934592) (he : J a = J b) (hQ : yu_Q post f_place f_count f_top f_done f_open f_steps f_shownSteps f_fault f_in f_made f_old f_size f_heads f_fresh a_kind a_value a_all a_split a_toKind a_doneKind a_toValue a_doneValue a_begins a_lacks a_inKind a_leftKind a_madeKind a_oldKind a_resultKind a_inValue a_leftValue a_madeValue a_oldValue a_resultValue a_from a_to a_whole a_known a_bound a_whose a_rank a_one a_two a_oneOf a_twoOf a_headAt a_headOf a_headLeft a_pairs a_first i j (yu_ag J A B a b S) σ) : yu_Q post f_place f_count f_top f_done f_open f_steps f_shownSteps f_fault f_in f_made f_old f_size f_heads f_fresh a_kind a_value a_all a_split a_toKind a_doneKind a_toValue a_doneValue a_begins a_lacks a_inKind a_leftKind a_madeKind a_oldKind a_resultKind a_inValue a_leftValue a_madeValue a_oldValue a_resultValue a_from a_to a_whole a_known a_bound a_whose a_rank a_one a_two a_oneOf a_twoOf a_headAt a_headOf a_headLeft a_pairs a_first i j ((a, b) :: S) σ := by
  have hal := jn_lt H ha
  have hap := jy_plt (i := i) (j := j) hY.1 hY.2.1 hal.2.1
  have hbl := jn_lt H hb
  have hbp := jy_plt (i := i) (j := j) hY.1 hY.2.1 hbl.2.1
  obtain ⟨N, hN⟩ := hQ
  refine yu_pre H hY ha hb (by omega) ⟨N, fun n hnN hs o1 w1 o2 w2 bd wo hda ho hl g1 g2 => ?_⟩
  refine yu_165 H ha hb (Or.inr has) (fun z => absurd has z) g2 (yu_205 H hb (fun z => absurd (by rw [← he]; exact has) z) g2 ?_)
  have hbs : J b < 8589934592 := by rw [← he]; exact has
  rw [yu_neg has, yu_neg hbs]
  obtain ⟨na, h1, e1, v1⟩ := (yu_at H hY ha).2.2 has
  obtain ⟨nb, h2, e2, v2⟩ := (yu_at H hY hb).2.2 hbs
  have enb : na = nb := by rw [he, e2, pk_lEQ (by omega) (by omega)] at e1; exact e1.symm
  have hina : vp_in (nI (jy_p i j a)) 270 := vp_in_nI (by omega) (by omega)
  have hinb : vp_in (nI (jy_p i j b)) 270 := vp_in_nI (by omega) (by omega)
  have ea : (nI (jy_p i j a)).toNatClampNeg = jy_p i j a := nI_clamp (by omega)
  have eb : (nI (jy_p i j b)).toNatClampNeg = jy_p i j b := nI_clamp (by omega)
  have har := tm_ar_le (J a)
  refine br_f (by decide) (br_t (by decide) ⟨hina, hinb, br_t (by rw [ea, eb, v1, v2, enb]) ⟨hina, ?_⟩⟩)
  rw [ea, v1]
  refine tk_ar0 (Or.inl (by omega)) ?_
  have eA : (if na < 4 then 0 else if na < 12 then (if 7 ≤ na then 2 else 1) else 0) = tm_ar (J a) := by rw [e1, tk_ar_n (by omega)]
  rw [eA]
  unfold yu_ag at hN
  by_cases h0 : tm_ar (J a) = 0
  · rw [if_pos h0] at hN
    refine pk_eq (tm_ar (J a)) 2 (fun z => absurd z (by omega)) (fun _ => pk_le (tm_ar (J a)) 0 (fun _ => ?_) (fun z => absurd z (by omega)))
    exact hN n hnN _ _ _ _ _ _ _ _ _ _ _ rfl g1 g2
  · rw [if_neg h0] at hN
    obtain ⟨pa1, pa2⟩ := jy_ps (i := i) (j := j) (jn_v29 H ha) (by omega)
    obtain ⟨pb1, pb2⟩ := jy_ps (i := i) (j := j) (jn_v29 H hb) (by omega)
    by_cases h2 : tm_ar (J a) = 2
    · rw [if_pos h2] at hN
      obtain ⟨p1, l, pt, pl, pv, pe⟩ := jn_args H ha (m := 1) h2
      obtain ⟨q1, l', qt, ql, qv, qe⟩ := jn_args H hb (m := 1) (by rw [← he]; exact h2)
      have hl0 : l ≠ [] := by intro z; rw [z, tm_w_nil] at pl; omega
      have hl0' : l' ≠ [] := by intro z; rw [z, tm_w_nil] at ql; omega
      have pv := pv hl0
      have qv := qv hl0'
      have hp1 := jn_lt H p1
      have hq1 := jn_lt H q1
      have hp2 := jn_lt H pv
      have hq2 := jn_lt H qv
      obtain ⟨ra1, ra2⟩ := jy_pa (i := i) (j := j) (p := a + 1) (jn_t A B (a + 1)).length (jn_reg H p1) (by omega)
      obtain ⟨rb1, rb2⟩ := jy_pa (i := i) (j := j) (p := b + 1) (jn_t A B (b + 1)).length (jn_reg H q1) (by omega)
      refine pk_eq (tm_ar (J a)) 2 (fun _ => ?_) (fun z => absurd h2 z)
      refine yj_end H hY (p := a + 1) (by rw [nI_1, pa1]) p1 ?_
      refine yj_end H hY (p := b + 1) (by rw [nI_1, pb1]) q1 ?_
      refine yu_pend (a := a + 1 + (jn_t A B (a + 1)).length) (b := b + 1 + (jn_t A B (b + 1)).length) (i := i) (j := j) (by omega) hp2.2.1 hq2.2.1 hY.1 hY.2.1 (by rw [ra1]) (by rw [ra2, pa2]) (by rw [rb1]) (by rw [rb2, pb2]) ?_
      refine pk_le (tm_ar (J a)) 0 (fun z => absurd z (by omega)) (fun _ => ?_)
      exact yu_pend (a := a + 1) (b := b + 1) (i := i) (j := j) (by omega) hp1.2.1 hq1.2.1 hY.1 hY.2.1 (by rw [nI_1, pa1]) (by rw [pa2]) (by rw [nI_1, pb1]) (by rw [pb2]) (hN n hnN _ _ _ _ _ _ _ _ _ _ _ rfl (yu_push (S := (_, _) :: S) (yu_push g1)) g2)
    · rw [if_neg h2] at hN
      obtain ⟨p1, l, pt, pl, pv, _⟩ := jn_args H ha (m := 0) (by omega)
      obtain ⟨q1, l', qt, ql, qv, _⟩ := jn_args H hb (m := 0) (by rw [← he]; omega)
      have hp1 := jn_lt H p1
      have hq1 := jn_lt H q1
      refine pk_eq (tm_ar (J a)) 2 (fun z => absurd z h2) (fun _ => pk_le (tm_ar (J a)) 0 (fun z => absurd z (by omega)) (fun _ => ?_))
      exact yu_pend (a := a + 1) (b := b + 1) (i := i) (j := j) (by omega) hp1.2.1 hq1.2.1 hY.1 hY.2.1 (by rw [nI_1, pa1]) (by rw [pa2]) (by rw [nI_1, pb1]) (by rw [pb2]) (hN n hnN _ _ _ _ _ _ _ _ _ _ _ rfl (yu_push g1) g2)
end
