/-! the reference: the same places in its own rows; the walk of an expansion -/
def jy_t (k v : Int32) (o : Nat) (t : Int64) : Prop := (∃ n, n < 9 ∧ t = lN n ∧ k = 0 ∧ v = nI n) ∨ (∃ r, r < 4 ∧ t = lN (8589934592 + (r + 4 * o)) ∧ k = 2 ∧ v = nI r)
def jy_h (ka va : Nat → Int32) (o : Nat) : Nat → List Int64 → Prop
  | _, [] => True
  | i, t :: l => jy_t (ka i) (va i) o t ∧ jy_h ka va o (i + 1) l
theorem jy_app {ka va : Nat → Int32} {o : Nat} : ∀ {a b : List Int64} {i : Nat}, jy_h ka va o i (a ++ b) ↔ jy_h ka va o i a ∧ jy_h ka va o (i + a.length) b
  | [], b, i => by
    show jy_h ka va o i b ↔ True ∧ jy_h ka va o (i + 0) b
    rw [Nat.add_zero, true_and]
  | t :: a, b, i => by
    show (_ ∧ jy_h ka va o (i + 1) (a ++ b)) ↔ (_ ∧ jy_h ka va o (i + 1) a) ∧ jy_h ka va o (i + (a.length + 1)) b
    rw [jy_app, show i + 1 + a.length = i + (a.length + 1) by omega]
    exact and_assoc.symm
theorem jy_ar {k v : Int32} {o : Nat} {t : Int64} (ho : o ≤ 1) (h : jy_t k v o t) {post : Int32 → Prop} (hp : post (nI (tm_ar t))) : wpY_arity post k v := by
  rcases h with ⟨n, h1, e, e1, e2⟩ | ⟨r, h1, e, e1, e2⟩
  · rw [e1, e2]
    rw [e, tk_ar_n (by omega)] at hp
    exact tk_ar0 (Or.inl (by omega)) hp
  · rw [e1]
    rw [e, tk_ar_n (by omega), if_neg (by omega), if_neg (by omega)] at hp
    exact br_f (by decide) hp
/-- the places: 0 .. 29 the first rule, 30 .. 60 the second, from 61 on the first again (its RIGHT may end where the row ends) -/
def jy_p (i j p : Nat) : Nat := if p < 30 then 30 * i + p else if p < 61 then 30 * j + (p - 30) else 30 * i + (p - 61)
def jy_o (p : Nat) : Nat := if p < 30 then 0 else if p < 61 then 1 else 0
theorem jy_o1 (p : Nat) : jy_o p ≤ 1 := by
  unfold jy_o
  split
  · omega
  · split <;> omega
theorem jy_plt {i j p : Nat} (hi : i < 8) (hj : j < 8) (hp : p < 60) : jy_p i j p < 240 := by
  unfold jy_p
  split
  · omega
  · split <;> omega
theorem jy_plt2 {i j p : Nat} (hi : i < 8) (hj : j < 8) (hp : p < 60 ∨ (61 ≤ p ∧ p < 91)) : jy_p i j p < 240 := by
  unfold jy_p
  split
  · omega
  · split <;> omega
theorem jy_plt3 {i j p : Nat} (hi : i < 8) (hj : j < 8) (hp : p ≤ 91) : jy_p i j p < 1000 := by
  unfold jy_p
  split
  · omega
  · split <;> omega
theorem jy_ps {i j p : Nat} (h : p ≠ 29) (h2 : p ≠ 60) : jy_p i j (p + 1) = jy_p i j p + 1 ∧ jy_o (p + 1) = jy_o p := by
  unfold jy_p jy_o
  by_cases h30 : p < 30
  · rw [if_pos h30, if_pos (by omega), if_pos h30, if_pos (by omega)]; omega
  · by_cases h61 : p < 61
    · exact ⟨by simp only [if_neg h30, if_neg (show ¬ p + 1 < 30 by omega), if_pos h61, if_pos (show p + 1 < 61 by omega)]; omega, by simp only [if_neg h30, if_neg (show ¬ p + 1 < 30 by omega), if_pos h61, if_pos (show p + 1 < 61 by omega)]⟩
    · exact ⟨by simp only [if_neg h30, if_neg (show ¬ p + 1 < 30 by omega), if_neg h61, if_neg (show ¬ p + 1 < 61 by omega)]; omega, by simp only [if_neg h30, if_neg (show ¬ p + 1 < 30 by omega), if_neg h61, if_neg (show ¬ p + 1 < 61 by omega)]⟩
theorem jy_pa {i j p : Nat} (n : Nat) (h : p + n < 30 ∨ 30 ≤ p) (h2 : p + n ≤ 60) : jy_p i j (p + n) = jy_p i j p + n ∧ jy_o (p + n) = jy_o p := by
  unfold jy_p jy_o
  by_cases h30 : p < 30
  · rw [if_pos h30, if_pos (by omega), if_pos h30, if_pos (by omega)]; omega
  · exact ⟨by simp only [if_neg h30, if_neg (show ¬ p + n < 30 by omega), if_pos (show p < 61 by omega), if_pos (show p + n < 61 by omega)]; omega, by simp only [if_neg h30, if_neg (show ¬ p + n < 30 by omega), if_pos (show p < 61 by omega), if_pos (show p + n < 61 by omega)]⟩
/-- the reference's rows hold both rules -/
def jy_H (ka va : Nat → Int32) (i j : Nat) (A B : List Int64) : Prop := i < 8 ∧ j < 8 ∧ jy_h ka va 0 (30 * i) A ∧ jy_h ka va 1 (30 * j) B
theorem jy_term {J : Nat → Int64} {A B : List Int64} {ka va : Nat → Int32} {i j p : Nat} (H : jn_H J A B) (hY : jy_H ka va i j A B) (hp : jn_v A B p) : jy_h ka va (jy_o p) (jy_p i j p) (jn_t A B p) ∧ jy_t (ka (jy_p i j p)) (va (jy_p i j p)) (jy_o p) (J p) ∧ jy_p i j p + (jn_t A B p).length ≤ 240 := by
  obtain ⟨l, r, k, q1, q2, q3, q4, q5, q6, q7, q8, q9⟩ := jn_tm H hp
  obtain ⟨hi, hj, hA, hB⟩ := hY
  obtain ⟨_, _, h3, h4, _⟩ := H
  have key : jy_h ka va (jy_o p) (jy_p i j p) (jn_t A B p) ∧ jy_p i j p + (jn_t A B p).length ≤ 240 := by
    unfold jn_s at q4
    unfold jy_o jy_p
    by_cases h30 : p < 30
    · rw [if_pos h30] at q4
      rw [if_pos h30, if_pos h30]
      have e := q8 h30
      have hs : A = A.take p ++ (jn_t A B p ++ r) := by rw [← q4]; exact (List.take_append_drop p A).symm
      rw [hs] at hA
      have := (jy_app.mp hA).2
      rw [List.length_take, Nat.min_eq_left (by omega)] at this
      exact ⟨(jy_app.mp this).1, by omega⟩
    · rw [if_neg h30] at q4
      have e := q9 h30
      rw [if_neg h30, if_neg h30, if_pos (by omega), if_pos (by omega)]
      have hs : B = B.take (p - 30) ++ (jn_t A B p ++ r) := by rw [← q4]; exact (List.take_append_drop (p - 30) B).symm
      rw [hs] at hB
      have := (jy_app.mp hB).2
      rw [List.length_take, Nat.min_eq_left (by omega)] at this
      exact ⟨(jy_app.mp this).1, by omega⟩
  refine ⟨key.1, ?_, key.2⟩
  have := key.1
  rw [q1] at this
  exact this.1
/-- a walk: places, the bound of the ranks, what is left of each list; the innermost first -/
def wk_c (rk : Nat → Nat) (M : Nat) : List (Nat × Nat × List Int64) → Prop
  | [] => True
  | (_, b, l) :: F => F.length + b ≤ M ∧ (∀ t, t ∈ l → jn_k t) ∧ (∀ t, t ∈ l → ¬ t < 8589934592 → rk (jn_n t) < b) ∧ wk_c rk M F
def wk_e (ρ : Nat → List Int64) : List (Nat × Nat × List Int64) → List Int64
  | [] => []
  | (_, _, l) :: F => us_E ρ l ++ wk_e ρ F
def wk_w (ω : Nat → Nat) : List (Nat × Nat × List Int64) → Nat
  | [] => 0
  | (_, _, l) :: F => us_W ω l + 1 + wk_w ω F
def yk_F (ka va : Nat → Int32) (i j : Nat) (ha ho hl : Nat → Int32) : List (Nat × Nat × List Int64) → Prop
  | [] => True
  | (p, _, l) :: F => (ha F.length = nI (jy_p i j p) ∧ ho F.length = nI (jy_o p) ∧ (∃ m, m ≤ 31 ∧ hl F.length = nI m ∧ tm_w l m) ∧ jy_h ka va (jy_o p) (jy_p i j p) l ∧ (p + l.length < 30 ∨ 30 ≤ p) ∧ (p + l.length ≤ 60 ∨ (61 ≤ p ∧ p + l.length ≤ 91))) ∧ yk_F ka va i j ha ho hl F
theorem yk_congr {ka va : Nat → Int32} {i j : Nat} {ha ho hl ha' ho' hl' : Nat → Int32} : ∀ {F : List (Nat × Nat × List Int64)}, (∀ k, k < F.length → ha' k = ha k ∧ ho' k = ho k ∧ hl' k = hl k) → yk_F ka va i j ha ho hl F → yk_F ka va i j ha' ho' hl' F
  | [], _, _ => trivial
  | (p, b, l) :: F, h, hh => by
    obtain ⟨e1, e2, e3⟩ := h F.length (by simp)
    obtain ⟨⟨q1, q2, ⟨m, m1, m2, m3⟩, q4⟩, q5⟩ := hh
    refine ⟨⟨e1.trans q1, e2.trans q2, ⟨m, m1, e3.trans m2, m3⟩, q4⟩, yk_congr (fun k hk => h k ?_) q5⟩
    rw [List.length_cons]; omega
/-- the code that the reference's walk answers for a token -/
def yk_code (t : Int64) : Int32 := if t < 8589934592 then nI t.toInt.toNat else nI (12 + jn_n t)
def yu_s (bd wo : Nat → Int32) (i j : Nat) (σ : Nat → Option Nat) : Prop := ∀ v, v < 8 → (σ v = none → bd v = -1) ∧ ∀ q, σ v = some q → bd v = nI (jy_p i j q) ∧ wo v = nI (jy_o q)
section
variable {f_place f_count f_top f_done f_open f_steps f_shownSteps f_fault f_in f_made f_old f_size f_heads f_fresh : Int32} {a_kind a_value a_all a_split a_toKind a_doneKind a_toValue a_doneValue a_begins a_lacks a_inKind a_leftKind a_madeKind a_oldKind a_resultKind a_inValue a_leftValue a_madeValue a_oldValue a_resultValue a_from a_to a_whole a_known a_bound a_whose a_rank a_one a_two a_oneOf a_twoOf a_headAt a_headOf a_headLeft a_pairs a_first : Nat → Int32}
variable {J : Nat → Int64} {A B : List Int64} {σ : Nat → Option Nat} {rk : Nat → Nat} {i j : Nat}
theorem yk_head {post : SY → Prop} {k p : Nat} {x y : Int32} (hk : k < 64) (hp : p < 60 ∨ (61 ≤ p ∧ p < 91)) (hi : i < 8) (hj : j < 8) (hx : x = nI (jy_p i j p)) (hy : y = nI (jy_o p)) (h : post (f_place, f_count, f_top, f_done, f_open, f_steps, f_shownSteps, f_fault, f_in, f_made, f_old, f_size, nI (k + 1), f_fresh, a_kind, a_value, a_all, a_split, a_toKind, a_doneKind, a_toValue, a_doneValue, a_begins, a_lacks, a_inKind, a_leftKind, a_madeKind, a_oldKind, a_resultKind, a_inValue, a_leftValue, a_madeValue, a_oldValue, a_resultValue, a_from, a_to, a_whole, a_known, a_bound, a_whose, a_rank, a_one, a_two, a_oneOf, a_twoOf, upd a_headAt k (nI (jy_p i j p)), upd a_headOf k (nI (jy_o p)), upd a_headLeft k (nI 1), a_pairs, a_first)) : wpY_head post (f_place, f_count, f_top, f_done, f_open, f_steps, f_shownSteps, f_fault, f_in, f_made, f_old, f_size, nI k, f_fresh, a_kind, a_value, a_all, a_split, a_toKind, a_doneKind, a_toValue, a_doneValue, a_begins, a_lacks, a_inKind, a_leftKind, a_madeKind, a_oldKind, a_resultKind, a_inValue, a_leftValue, a_madeValue, a_oldValue, a_resultValue, a_from, a_to, a_whole, a_known, a_bound, a_whose, a_rank, a_one, a_two, a_oneOf, a_twoOf, a_headAt, a_headOf, a_headLeft, a_pairs, a_first) x y := by
  subst hx hy
  have hin : vp_in (nI k) 64 := vp_in_nI hk (by omega)
  have ek : (nI k).toNatClampNeg = k := nI_clamp (by omega)
  have h1 := jy_plt2 hi hj hp
  have h2 := jy_o1 p
  refine ⟨hin, nm_r (e' := upd a_headAt k (nI (jy_p i j p))) (by rw [ek, (tk_ns (by omega)).1]) ⟨hin, nm_r (e' := upd a_headOf k (nI (jy_o p))) (by rw [ek, (tk_nb (by omega)).1]) (nm_r (nI_1 k) ⟨hin, nm_r (e' := upd a_headLeft k (nI 1)) (by rw [ek]; exact congrArg (upd a_headLeft k) ((tk_nb (n := 1) (by omega)).2)) h⟩)⟩⟩
theorem yk_next {post : Int32 → SY → Prop} {ω : Nat → Nat} {ρ : Nat → List Int64} {M : Nat} (H : jn_H J A B) (hR : us_R A B σ rk) (hY : jy_H a_kind a_value i j A B) (hu : yu_s a_bound a_whose i j σ) (hω1 : ∀ v, 1 ≤ ω v) (hω : ∀ v q, σ v = some q → us_W ω (jn_t A B q) + 2 ≤ ω v) (hρ : us_Es A B σ ρ) (hρ0 : ∀ v, σ v = none → ρ v = [lN (8589934592 + v)]) (hM : M ≤ 9) (Jv Kv : List (Nat × Nat × List Int64) → Prop) (k1 : ∀ p b F, Jv ((p, b, []) :: F) → Jv F) (k2 : ∀ p b t l F, Jv ((p, b, t :: l) :: F) → Kv ((p + 1, b, l) :: F)) (k3 : ∀ p b t l F q, Jv ((p, b, t :: l) :: F) → ¬ t < 8589934592 → σ (jn_n t) = some q → Jv ((q, rk (jn_n t), jn_t A B q) :: (p + 1, b, l) :: F)) : ∀ (w : Nat) (F : List (Nat × Nat × List Int64)) (hs : Nat) (ha ho hl : Nat → Int32), Jv F → wk_w ω F < w → wk_c rk M F → hs = F.length → yk_F a_kind a_value i j ha ho hl F →
    (wk_e ρ F = [] → ∀ hs ha ho hl, post (-1) (f_place, f_count, f_top, f_done, f_open, f_steps, f_shownSteps, f_fault, f_in, f_made, f_old, f_size, hs, f_fresh, a_kind, a_value, a_all, a_split, a_toKind, a_doneKind, a_toValue, a_doneValue, a_begins, a_lacks, a_inKind, a_leftKind, a_madeKind, a_oldKind, a_resultKind, a_inValue, a_leftValue, a_madeValue, a_oldValue, a_resultValue, a_from, a_to, a_whole, a_known, a_bound, a_whose, a_rank, a_one, a_two, a_oneOf, a_twoOf, ha, ho, hl, a_pairs, a_first)) →
    (∀ c X F' ha ho hl, wk_e ρ F = c :: X → wk_e ρ F' = X → wk_c rk M F' → wk_w ω F' < wk_w ω F → yk_F a_kind a_value i j ha ho hl F' → jn_k c → Kv F' → post (yk_code c) (f_place, f_count, f_top, f_done, f_open, f_steps, f_shownSteps, f_fault, f_in, f_made, f_old, f_size, nI F'.length, f_fresh, a_kind, a_value, a_all, a_split, a_toKind, a_doneKind, a_toValue, a_doneValue, a_begins, a_lacks, a_inKind, a_leftKind, a_madeKind, a_oldKind, a_resultKind, a_inValue, a_leftValue, a_madeValue, a_oldValue, a_resultValue, a_from, a_to, a_whole, a_known, a_bound, a_whose, a_rank, a_one, a_two, a_oneOf, a_twoOf, ha, ho, hl, a_pairs, a_first)) →
    ∃ n, wY_next_0 post n f_place f_count f_top f_done f_open f_steps f_shownSteps f_fault f_in f_made f_old f_size (nI hs) f_fresh a_kind a_value a_all a_split a_toKind a_doneKind a_toValue a_doneValue a_begins a_lacks a_inKind a_leftKind a_madeKind a_oldKind a_resultKind a_inValue a_leftValue a_madeValue a_oldValue a_resultValue a_from a_to a_whole a_known a_bound a_whose a_rank a_one a_two a_oneOf a_twoOf ha ho hl a_pairs a_first
  | 0, F, hs, ha, ho, hl, hv, hw, hc, hhs, hF, He, Hc => absurd hw (by omega)
  | w + 1, [], hs, ha, ho, hl, hv, hw, hc, hhs, hF, He, Hc => by
    subst hhs
    exact ⟨1, br_t (by decide) (He rfl _ _ _ _)⟩
  | w + 1, (p, b, l) :: F, hs, ha, ho, hl, hv, hw, hc, hhs, hF, He, Hc => by
    subst hhs
    obtain ⟨c1, c2, c3, c4⟩ := hc
    obtain ⟨⟨q1, q2, ⟨m, m1, m2, m3⟩, q4, q5, q6⟩, q7⟩ := hF
    have hlen : ((p, b, l) :: F).length = F.length + 1 := rfl
    have hFM : F.length ≤ 9 := by omega
    rw [hlen]
    have hin : vp_in (nI F.length) 64 := vp_in_nI (by omega) (by omega)
    have ef : (nI F.length).toNatClampNeg = F.length := nI_clamp (by omega)
    have hi := hY.1
    have hj := hY.2.1
    have ho1 := jy_o1 p
    cases l with
    | nil =>
      rw [tm_w_nil] at m3
      subst m3
      have hww : wk_w ω ((p, b, []) :: F) = 0 + 1 + wk_w ω F := rfl
      obtain ⟨n, hn⟩ := yk_next H hR hY hu hω1 hω hρ hρ0 hM Jv Kv k1 k2 k3 w F F.length ha ho hl (k1 _ _ _ hv) (by omega) c4 rfl q7 (fun e => He e) (fun c X F' ha ho hl e1 e2 e3 e4 => Hc c X F' ha ho hl e1 e2 e3 (by omega))
      refine ⟨n + 1, pk_le (F.length + 1) 0 (fun z => absurd z (by omega)) (fun _ => nm_r (nI_pred _) ⟨hin, br_t (by rw [ef]; exact m2) (nm_r (nI_pred _) hn)⟩)⟩
    | cons t l =>
      obtain ⟨k, rfl, m4⟩ := tm_w_ne m3
      have htk := c2 t (List.mem_cons.mpr (Or.inl rfl))
      rw [List.length_cons] at q5 q6
      have hpl := jy_plt2 (i := i) (j := j) (p := p) hi hj (by omega)
      obtain ⟨ep1, ep2⟩ := jy_ps (i := i) (j := j) (p := p) (by omega) (by omega)
      have hinp : vp_in (nI (jy_p i j p)) 270 := vp_in_nI (by omega) (by omega)
      have epp : (nI (jy_p i j p)).toNatClampNeg = jy_p i j p := nI_clamp (by omega)
      have hml := tm_w_len _ _ m4
      have hne : ¬ hl F.length = 0 := by rw [m2]; exact nI_ne0 (by omega) (by omega)
      have hjt := q4.1
      have hc2 : ∀ t, t ∈ l → jn_k t := fun x hx => c2 x (List.mem_cons.mpr (Or.inr hx))
      have hc3 : ∀ t, t ∈ l → ¬ t < 8589934592 → rk (jn_n t) < b := fun x hx => c3 x (List.mem_cons.mpr (Or.inr hx))
      have hat : vp_nar .short ((ha F.length + 1).toInt16.toInt32) = nI (jy_p i j (p + 1)) := by rw [q1, nI_1, ep1, (tk_ns (by omega)).1]
      have hww : wk_w ω ((p, b, t :: l) :: F) = (if t < 8589934592 then 1 else ω (jn_n t)) + us_W ω l + 1 + wk_w ω F := rfl
      -- the frame behind this token
      have frame : ∀ (m' : Nat), m' ≤ 31 → tm_w l m' → yk_F a_kind a_value i j (upd ha F.length (nI (jy_p i j (p + 1)))) ho (upd hl F.length (nI m')) ((p + 1, b, l) :: F) := by
        intro m' hm1 hm2
        refine ⟨⟨pk_us, by rw [ep2]; exact q2, ⟨m', hm1, pk_us, hm2⟩, by rw [ep1, ep2]; exact q4.2, by omega, by omega⟩, yk_congr (fun k hk => ⟨pk_un (by omega), rfl, pk_un (by omega)⟩) q7⟩
      have cond : wk_c rk M ((p + 1, b, l) :: F) := ⟨c1, hc2, hc3, c4⟩
      rcases jn_cases htk with ⟨n, hn9, en, hs⟩ | ⟨v, hv8, ev, hs, env, har0⟩
      · -- a symbol
        have hk0 : a_kind (jy_p i j p) = 0 ∧ a_value (jy_p i j p) = nI n := by
          rcases hjt with ⟨n', h1, e1, e2, e3⟩ | ⟨r, h1, e1, e2, e3⟩
          · rw [en, pk_lEQ (by omega) (by omega)] at e1
            subst e1
            exact ⟨e2, e3⟩
          · rw [en, pk_lEQ (by omega) (by omega)] at e1
            omega
        have har := tm_ar_le t
        have eE : wk_e ρ ((p, b, t :: l) :: F) = t :: (us_E ρ l ++ wk_e ρ F) := by
          show us_E ρ (t :: l) ++ wk_e ρ F = _
          rw [us_E_sym hs]; rfl
        refine ⟨1, pk_le (F.length + 1) 0 (fun z => absurd z (by omega)) (fun _ => nm_r (nI_pred _) ⟨hin, br_f (by rw [ef]; exact hne) ⟨hin, hin, nm_r (e' := upd ha F.length (nI (jy_p i j (p + 1)))) (by rw [ef, hat]) (nm_r (e' := nI (jy_p i j p)) (by rw [ef]; exact q1) ⟨hinp, br_t (by rw [epp]; exact hk0.1) ⟨hin, hinp, ?_⟩⟩)⟩⟩)⟩
        rw [epp, hk0.2]
        refine tk_ar0 (Or.inl (by omega)) ⟨hin, nm_r (e' := upd hl F.length (nI (k + tm_ar t))) ?_ ⟨hinp, ?_⟩⟩
        · rw [ef, m2]
          have ea : tm_ar t = if n < 4 then 0 else if n < 12 then (if 7 ≤ n then 2 else 1) else 0 := by rw [en, tk_ar_n (by omega)]
          rw [← ea, ya_step, (tk_nb (by omega)).1]
        · have hp := Hc t (us_E ρ l ++ wk_e ρ F) ((p + 1, b, l) :: F) _ _ _ eE rfl cond (by
            have : wk_w ω ((p + 1, b, l) :: F) = us_W ω l + 1 + wk_w ω F := rfl
            rw [hww, if_pos hs]; omega) (frame (k + tm_ar t) (by omega) m4) htk (k2 _ _ _ _ _ hv)
          have ecode : yk_code t = nI n := by
            unfold yk_code
            rw [if_pos hs, en, pk_lT (by omega)]
            rfl
          rw [ecode] at hp
          exact hp
      · -- a variable
        obtain ⟨r, hr4, er, ek2, ev2⟩ : ∃ r, r < 4 ∧ t = lN (8589934592 + (r + 4 * jy_o p)) ∧ a_kind (jy_p i j p) = 2 ∧ a_value (jy_p i j p) = nI r := by
          rcases hjt with ⟨n', h1, e1, e2, e3⟩ | ⟨r, h1, e1, e2, e3⟩
          · rw [ev, pk_lEQ (by omega) (by omega)] at e1
            omega
          · exact ⟨r, h1, e1, e2, e3⟩
        have evr : v = r + 4 * jy_o p := by
          rw [ev, pk_lEQ (by omega) (by omega)] at er
          omega
        rw [har0, Nat.add_zero] at m4
        have hrk : rk v < b := by have := c3 t (List.mem_cons.mpr (Or.inl rfl)) hs; rwa [env] at this
        have hinv : vp_in (nI v) 8 := vp_in_nI hv8 (by omega)
        have evv : (nI v).toNatClampNeg = v := nI_clamp (by omega)
        have common : ∀ (n : Nat) (X : Prop), (((0 ≤ a_bound v → (vp_in (nI v) 8 ∧ (vp_in (nI v) 8 ∧ (wpY_head (fun u => match u with | (f_place0, f_count0, f_top0, f_done0, f_open0, f_steps0, f_shownSteps0, f_fault0, f_in0, f_made0, f_old0, f_size0, f_heads0, f_fresh0, a_kind0, a_value0, a_all0, a_split0, a_toKind0, a_doneKind0, a_toValue0, a_doneValue0, a_begins0, a_lacks0, a_inKind0, a_leftKind0, a_madeKind0, a_oldKind0, a_resultKind0, a_inValue0, a_leftValue0, a_madeValue0, a_oldValue0, a_resultValue0, a_from0, a_to0, a_whole0, a_known0, a_bound0, a_whose0, a_rank0, a_one0, a_two0, a_oneOf0, a_twoOf0, a_headAt0, a_headOf0, a_headLeft0, a_pairs0, a_first0) => wY_next_0 post n f_place0 f_count0 f_top0 f_done0 f_open0 f_steps0 f_shownSteps0 f_fault0 f_in0 f_made0 f_old0 f_size0 f_heads0 f_fresh0 a_kind0 a_value0 a_all0 a_split0 a_toKind0 a_doneKind0 a_toValue0 a_doneValue0 a_begins0 a_lacks0 a_inKind0 a_leftKind0 a_madeKind0 a_oldKind0 a_resultKind0 a_inValue0 a_leftValue0 a_madeValue0 a_oldValue0 a_resultValue0 a_from0 a_to0 a_whole0 a_known0 a_bound0 a_whose0 a_rank0 a_one0 a_two0 a_oneOf0 a_twoOf0 a_headAt0 a_headOf0 a_headLeft0 a_pairs0 a_first0) (f_place, f_count, f_top, f_done, f_open, f_steps, f_shownSteps, f_fault, f_in, f_made, f_old, f_size, nI (F.length + 1), f_fresh, a_kind, a_value, a_all, a_split, a_toKind, a_doneKind, a_toValue, a_doneValue, a_begins, a_lacks, a_inKind, a_leftKind, a_madeKind, a_oldKind, a_resultKind, a_inValue, a_leftValue, a_madeValue, a_oldValue, a_resultValue, a_from, a_to, a_whole, a_known, a_bound, a_whose, a_rank, a_one, a_two, a_oneOf, a_twoOf, upd ha F.length (nI (jy_p i j (p + 1))), ho, upd hl F.length (nI k), a_pairs, a_first) (a_bound v) (a_whose v))))) ∧ (¬ 0 ≤ a_bound v → (post (12 + nI v) (f_place, f_count, f_top, f_done, f_open, f_steps, f_shownSteps, f_fault, f_in, f_made, f_old, f_size, nI (F.length + 1), f_fresh, a_kind, a_value, a_all, a_split, a_toKind, a_doneKind, a_toValue, a_doneValue, a_begins, a_lacks, a_inKind, a_leftKind, a_madeKind, a_oldKind, a_resultKind, a_inValue, a_leftValue, a_madeValue, a_oldValue, a_resultValue, a_from, a_to, a_whole, a_known, a_bound, a_whose, a_rank, a_one, a_two, a_oneOf, a_twoOf, upd ha F.length (nI (jy_p i j (p + 1))), ho, upd hl F.length (nI k), a_pairs, a_first))))) → wY_next_0 post (n + 1) f_place f_count f_top f_done f_open f_steps f_shownSteps f_fault f_in f_made f_old f_size (nI (F.length + 1)) f_fresh a_kind a_value a_all a_split a_toKind a_doneKind a_toValue a_doneValue a_begins a_lacks a_inKind a_leftKind a_madeKind a_oldKind a_resultKind a_inValue a_leftValue a_madeValue a_oldValue a_resultValue a_from a_to a_whole a_known a_bound a_whose a_rank a_one a_two a_oneOf a_twoOf ha ho hl a_pairs a_first := by
          intro n X hbody
          refine pk_le (F.length + 1) 0 (fun z => absurd z (by omega)) (fun _ => nm_r (nI_pred _) ⟨hin, br_f (by rw [ef]; exact hne) ⟨hin, hin, nm_r (e' := upd ha F.length (nI (jy_p i j (p + 1)))) (by rw [ef, hat]) (nm_r (e' := nI (jy_p i j p)) (by rw [ef]; exact q1) ⟨hinp, br_f (by rw [epp, ek2]; decide) ⟨hin, hin, nm_r (e' := upd hl F.length (nI k)) ?_ ⟨hinp, hin, nm_r (e' := nI v) ?_ ⟨hinv, ?_⟩⟩⟩⟩)⟩⟩)
          · rw [ef, m2, nI_pred, (tk_nb (by omega)).1]
          · rw [epp, ef, ev2, q2, show (4 : Int32) = nI 4 from rfl, pk_mul, nI_add, evr]
          · rw [evv]
            exact hbody
        obtain ⟨un, us⟩ := hu v hv8
        cases e : σ v with
        | none =>
          have eE : wk_e ρ ((p, b, t :: l) :: F) = t :: (us_E ρ l ++ wk_e ρ F) := by
            show us_E ρ (t :: l) ++ wk_e ρ F = _
            rw [us_E_var hs, env, hρ0 v e, ← ev]; rfl
          refine ⟨0 + 1, common 0 True (br_f (by rw [un e]; decide) ?_)⟩
          have hp := Hc t (us_E ρ l ++ wk_e ρ F) ((p + 1, b, l) :: F) _ _ _ eE rfl cond (by
            have h1 : wk_w ω ((p + 1, b, l) :: F) = us_W ω l + 1 + wk_w ω F := rfl
            have h2 := hω1 (jn_n t)
            rw [hww, if_neg hs]; omega) (frame k (by omega) m4) htk (k2 _ _ _ _ _ hv)
          have ecode : yk_code t = 12 + nI v := by
            unfold yk_code
            rw [if_neg hs, env, ← nI_add]; rfl
          rw [ecode] at hp
          exact hp
        | some q =>
          obtain ⟨ub, uw⟩ := us q e
          obtain ⟨_, hq, hqr⟩ := hR.2 v q e
          have hql := jn_lt H hq
          obtain ⟨jt1, jt2, jt3⟩ := jy_term H hY hq
          obtain ⟨_, _, _, _, _, tw, _, _, _, tk, _, _⟩ := jn_tm H hq
          have hωv := hω v q e
          have eE : wk_e ρ ((q, rk v, jn_t A B q) :: (p + 1, b, l) :: F) = wk_e ρ ((p, b, t :: l) :: F) := by
            show us_E ρ (jn_t A B q) ++ (us_E ρ l ++ wk_e ρ F) = us_E ρ (t :: l) ++ wk_e ρ F
            rw [us_E_var hs, env, hρ v q e, List.append_assoc]
          have hlt : wk_w ω ((q, rk v, jn_t A B q) :: (p + 1, b, l) :: F) < wk_w ω ((p, b, t :: l) :: F) := by
            show us_W ω (jn_t A B q) + 1 + (us_W ω l + 1 + wk_w ω F) < _
            rw [hww, if_neg hs, env]; omega
          have hreg : q + (jn_t A B q).length < 30 ∨ 30 ≤ q := by
            by_cases h30 : q < 30
            · obtain ⟨_, _, _, _, _, _, _, _, _, _, z8, _⟩ := jn_tm H hq
              have := z8 h30
              obtain ⟨_, _, h3, _⟩ := H
              omega
            · omega
          obtain ⟨n, hn⟩ := yk_next H hR hY hu hω1 hω hρ hρ0 hM Jv Kv k1 k2 k3 w ((q, rk v, jn_t A B q) :: (p + 1, b, l) :: F) (F.length + 2) (upd (upd ha F.length (nI (jy_p i j (p + 1)))) (F.length + 1) (nI (jy_p i j q))) (upd ho (F.length + 1) (nI (jy_o q))) (upd (upd hl F.length (nI k)) (F.length + 1) (nI 1)) (by have := k3 _ _ _ _ _ q hv hs (by rw [env]; exact e); rw [env] at this; exact this) (by omega) ⟨by rw [List.length_cons]; omega, tk, hqr, cond⟩ rfl ⟨⟨pk_us, pk_us, ⟨1, by omega, pk_us, tw⟩, jt1, hreg, by omega⟩, yk_congr (fun z hz => ⟨pk_un (by rw [List.length_cons] at hz; omega), pk_un (by rw [List.length_cons] at hz; omega), pk_un (by rw [List.length_cons] at hz; omega)⟩) (frame k (by omega) m4)⟩ (fun e2 => He (by rw [← eE]; exact e2)) (fun c X F' ha ho hl e1 e2 e3 e4 => Hc c X F' ha ho hl (by rw [← eE]; exact e1) e2 e3 (by omega))
          refine ⟨n + 1, common n True (br_t (by rw [ub]; exact nI_pos' (by have := jy_plt (i := i) (j := j) hi hj hql.2.1; omega)) ⟨hinv, hinv, ?_⟩)⟩
          exact yk_head (p := q) (i := i) (j := j) (by omega) (Or.inl hql.2.1) hi hj ub uw hn
end
