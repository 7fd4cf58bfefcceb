/-! the reference writes an expansion -/
def yw_v (ra : Nat → Int32) (t : Int64) : Int32 := if t < 8589934592 then nI t.toInt.toNat else 100 + ra (jn_n t)
def yw_nc (i j : Nat) (x1 : Int32) : List (Nat × Nat × List Int64) → Prop
  | [] => True
  | [(p, _, l)] => ∀ p', p ≤ p' → p' ≤ p + l.length → nI (jy_p i j p') ≠ x1
  | _ :: f :: F => yw_nc i j x1 (f :: F)
theorem yw_k1 {i j : Nat} {x1 : Int32} : ∀ p b F, yw_nc i j x1 ((p, b, []) :: F) → yw_nc i j x1 F
  | p, b, [], _ => trivial
  | p, b, f :: F, h => h
theorem yw_k2 {i j : Nat} {x1 : Int32} : ∀ p b t l F, yw_nc i j x1 ((p, b, t :: l) :: F) → yw_nc i j x1 ((p + 1, b, l) :: F)
  | p, b, t, l, [], h => fun p' h1 h2 => h p' (by omega) (by rw [List.length_cons]; omega)
  | p, b, t, l, f :: F, h => h
theorem us_h_ne {A B : List Int64} {J : Nat → Int64} {σ : Nat → Option Nat} {rk : Nat → Nat} (H : jn_H J A B) (hR : us_R A B σ rk) : ∀ (d v : Nat), us_h A B σ d v ≠ []
  | 0, v => by rw [us_h]; simp
  | d + 1, v => by
    cases e : σ v with
    | none => rw [us_h_none e]; simp
    | some q =>
      rw [us_h_some e]
      obtain ⟨l, _, _, q1, _⟩ := jn_tm H (hR.2 v q e).2.1
      rw [q1]
      by_cases hs : J q < 8589934592
      · rw [us_E_sym hs]; simp
      · rw [us_E_var hs]
        have := us_h_ne H hR d (jn_n (J q))
        simp [this]
theorem us_E_ne {ρ : Nat → List Int64} (hρ : ∀ v, ρ v ≠ []) {t : Int64} {l : List Int64} : us_E ρ (t :: l) ≠ [] := by
  by_cases hs : t < 8589934592
  · rw [us_E_sym hs]; simp
  · rw [us_E_var hs]
    have := hρ (jn_n t)
    simp [this]
theorem us_E_len {ρ : Nat → List Int64} (hρ : ∀ v, ρ v ≠ []) : ∀ (l : List Int64), l.length ≤ (us_E ρ l).length
  | [] => by simp
  | t :: l => by
    have ih := us_E_len hρ l
    by_cases hs : t < 8589934592
    · rw [us_E_sym hs, List.length_cons, List.length_cons]; omega
    · rw [us_E_var hs, List.length_append, List.length_cons]
      have : 0 < (ρ (jn_n t)).length := List.length_pos_iff.mpr (hρ _)
      omega
section
variable {f_place f_count f_top f_done f_open f_steps f_shownSteps f_fault f_in f_made f_old f_size f_heads f_fresh : Int32} {a_kind a_value a_all a_split a_toKind a_doneKind a_toValue a_doneValue a_begins a_lacks a_inKind a_leftKind a_madeKind a_oldKind a_resultKind a_inValue a_leftValue a_madeValue a_oldValue a_resultValue a_from a_to a_whole a_known a_bound a_whose a_rank a_one a_two a_oneOf a_twoOf a_headAt a_headOf a_headLeft a_pairs a_first : Nat → Int32}
variable {J : Nat → Int64} {A B : List Int64} {σ : Nat → Option Nat} {rk : Nat → Nat} {i j : Nat} {ω : Nat → Nat} {ρ : Nat → List Int64} {M : Nat}
/-- one token more -/
theorem yw_109 {post : Int32 → SY → Prop} {J8 : Int32 → Int32 → Int32 → Int32 → Int32 → Int32 → Int32 → Int32 → Int32 → Int32 → Int32 → Int32 → Int32 → Int32 → Int32 → (Nat → Int32) → (Nat → Int32) → (Nat → Int32) → (Nat → Int32) → (Nat → Int32) → (Nat → Int32) → (Nat → Int32) → (Nat → Int32) → (Nat → Int32) → (Nat → Int32) → (Nat → Int32) → (Nat → Int32) → (Nat → Int32) → (Nat → Int32) → (Nat → Int32) → (Nat → Int32) → (Nat → Int32) → (Nat → Int32) → (Nat → Int32) → (Nat → Int32) → (Nat → Int32) → (Nat → Int32) → (Nat → Int32) → (Nat → Int32) → (Nat → Int32) → (Nat → Int32) → (Nat → Int32) → (Nat → Int32) → (Nat → Int32) → (Nat → Int32) → (Nat → Int32) → (Nat → Int32) → (Nat → Int32) → (Nat → Int32) → (Nat → Int32) → (Nat → Int32) → Prop} {x1 x2 x3 : Int32} {q : List Int64} (H : jn_H J A B) (hR : us_R A B σ rk) (hY : jy_H a_kind a_value i j A B) (hu : yu_s a_bound a_whose i j σ) (hω1 : ∀ v, 1 ≤ ω v) (hω : ∀ v q, σ v = some q → us_W ω (jn_t A B q) + 2 ≤ ω v) (hρ : us_Es A B σ ρ) (hρ0 : ∀ v, σ v = none → ρ v = [lN (8589934592 + v)]) (hM : M ≤ 9) (Jv Kv : List (Nat × Nat × List Int64) → Prop) (k1 : ∀ p b F, Jv ((p, b, []) :: F) → Jv F) (k2 : ∀ p b t l F, Jv ((p, b, t :: l) :: F) → Kv ((p + 1, b, l) :: F)) (k3 : ∀ p b t l F q, Jv ((p, b, t :: l) :: F) → ¬ t < 8589934592 → σ (jn_n t) = some q → Jv ((q, rk (jn_n t), jn_t A B q) :: (p + 1, b, l) :: F)) {F : List (Nat × Nat × List Int64)} {hs : Nat} (hJ : Jv F) (hc : wk_c rk M F) (hhs : hs = F.length) (hF : yk_F a_kind a_value i j a_headAt a_headOf a_headLeft F) (hq : q.length < 31) (hik : hd_y (fun _ => 0) (yw_v a_rank) a_inKind a_inValue 0 q)
    (He : wk_e ρ F = [] → ∀ hs ha ho hl, J8 0 f_place f_count f_top f_done f_open f_steps f_shownSteps f_fault (nI q.length) f_made f_old f_size hs f_fresh a_kind a_value a_all a_split a_toKind a_doneKind a_toValue a_doneValue a_begins a_lacks a_inKind a_leftKind a_madeKind a_oldKind a_resultKind a_inValue a_leftValue a_madeValue a_oldValue a_resultValue a_from a_to a_whole a_known a_bound a_whose a_rank a_one a_two a_oneOf a_twoOf ha ho hl a_pairs a_first)
    (Hc : ∀ c X F' ha ho hl ik iv, wk_e ρ F = c :: X → wk_e ρ F' = X → wk_c rk M F' → yk_F a_kind a_value i j ha ho hl F' → Kv F' → hd_y (fun _ => 0) (yw_v a_rank) ik iv 0 (q ++ [c]) → J8 1 f_place f_count f_top f_done f_open f_steps f_shownSteps f_fault (nI (q ++ [c]).length) f_made f_old f_size (nI F'.length) f_fresh a_kind a_value a_all a_split a_toKind a_doneKind a_toValue a_doneValue a_begins a_lacks ik a_leftKind a_madeKind a_oldKind a_resultKind iv a_leftValue a_madeValue a_oldValue a_resultValue a_from a_to a_whole a_known a_bound a_whose a_rank a_one a_two a_oneOf a_twoOf ha ho hl a_pairs a_first) :
    wY_write_109 post J8 x1 x2 x3 f_place f_count f_top f_done f_open f_steps f_shownSteps f_fault (nI q.length) f_made f_old f_size (nI hs) f_fresh a_kind a_value a_all a_split a_toKind a_doneKind a_toValue a_doneValue a_begins a_lacks a_inKind a_leftKind a_madeKind a_oldKind a_resultKind a_inValue a_leftValue a_madeValue a_oldValue a_resultValue a_from a_to a_whole a_known a_bound a_whose a_rank a_one a_two a_oneOf a_twoOf a_headAt a_headOf a_headLeft a_pairs a_first := by
  subst hhs
  have hin : vp_in (nI q.length) 32 := vp_in_nI (by omega) (by omega)
  have ec : (nI q.length).toNatClampNeg = q.length := nI_clamp (by omega)
  refine yk_next H hR hY hu hω1 hω hρ hρ0 hM Jv Kv k1 k2 k3 (wk_w ω F + 1) F F.length _ _ _ hJ (by omega) hc rfl hF (fun e hs ha ho hl => ?_) (fun c X F' ha ho hl e1 e2 e3 e4 e5 hck hK => ?_)
  · exact br_t (by decide) (br_t rfl (br_t rfl (He e hs ha ho hl)))
  · have el : (q ++ [c]).length = q.length + 1 := by simp
    rcases jn_cases hck with ⟨n, h1, en, hs⟩ | ⟨v, h1, ev, hs, env, _⟩
    · have ecode : yk_code c = nI n := by unfold yk_code; rw [if_pos hs, en, pk_lT (by omega)]; rfl
      have eval : yw_v a_rank c = nI n := by unfold yw_v; rw [if_pos hs, en, pk_lT (by omega)]; rfl
      have hp := Hc c X F' ha ho hl (upd a_inKind q.length 0) (upd a_inValue q.length (nI n)) e1 e2 e3 e5 hK (by
        have := hy_snoc (dk := fun _ => 0) (dv := yw_v a_rank) (t := c) q.length (by omega) hik
        rw [eval] at this
        exact this)
      rw [el] at hp
      show ((yk_code c < 0 → _) ∧ (¬ yk_code c < 0 → _))
      rw [ecode]
      refine br_f (nI_pos (by omega)) (br_f (by decide) ⟨hin, nm_r (e' := upd a_inKind q.length 0) (by rw [ec, (tk_nar (Or.inl rfl)).1]) (br_f (by decide) (nm_r (nI_1 _) (pk_le 12 n (fun z => absurd z (by omega)) (fun _ => ⟨hin, nm_r (e' := upd a_inValue q.length (nI n)) (by rw [ec]) hp⟩))))⟩)
    · have ecode : yk_code c = nI (12 + v) := by unfold yk_code; rw [if_neg hs, env]
      have eval : yw_v a_rank c = 100 + a_rank v := by unfold yw_v; rw [if_neg hs, env]
      have hp := Hc c X F' ha ho hl (upd a_inKind q.length 0) (upd a_inValue q.length (100 + a_rank v)) e1 e2 e3 e5 hK (by
        have := hy_snoc (dk := fun _ => 0) (dv := yw_v a_rank) (t := c) q.length (by omega) hik
        rw [eval] at this
        exact this)
      rw [el] at hp
      have e12 : nI (12 + v) - 12 = nI v := by rw [show (12 : Int32) = nI 12 from rfl, pk_sub (by omega), show 12 + v - 12 = v by omega]
      show ((yk_code c < 0 → _) ∧ (¬ yk_code c < 0 → _))
      rw [ecode]
      refine br_f (nI_pos (by omega)) (br_f (by decide) ⟨hin, nm_r (e' := upd a_inKind q.length 0) (by rw [ec, (tk_nar (Or.inl rfl)).1]) (br_f (by decide) (nm_r (nI_1 _) (pk_le 12 (12 + v) (fun _ => ⟨?_, hin, nm_r (e' := upd a_inValue q.length (100 + a_rank v)) ?_ hp⟩) (fun z => absurd z (by omega)))))⟩)
      · rw [e12]; exact vp_in_nI h1 (by omega)
      · rw [ec, e12, nI_clamp (by omega)]
/-- empty lists above the lowest are left -/
theorem yw_22 {post : Int32 → SY → Prop} {J8 : Int32 → Int32 → Int32 → Int32 → Int32 → Int32 → Int32 → Int32 → Int32 → Int32 → Int32 → Int32 → Int32 → Int32 → Int32 → (Nat → Int32) → (Nat → Int32) → (Nat → Int32) → (Nat → Int32) → (Nat → Int32) → (Nat → Int32) → (Nat → Int32) → (Nat → Int32) → (Nat → Int32) → (Nat → Int32) → (Nat → Int32) → (Nat → Int32) → (Nat → Int32) → (Nat → Int32) → (Nat → Int32) → (Nat → Int32) → (Nat → Int32) → (Nat → Int32) → (Nat → Int32) → (Nat → Int32) → (Nat → Int32) → (Nat → Int32) → (Nat → Int32) → (Nat → Int32) → (Nat → Int32) → (Nat → Int32) → (Nat → Int32) → (Nat → Int32) → (Nat → Int32) → (Nat → Int32) → (Nat → Int32) → (Nat → Int32) → (Nat → Int32) → (Nat → Int32) → (Nat → Int32) → (Nat → Int32) → Prop} {x1 x2 x3 : Int32} (P : List (Nat × Nat × List Int64) → Prop) (hpop : ∀ p b f F, P ((p, b, []) :: f :: F) → P (f :: F)) : ∀ (F : List (Nat × Nat × List Int64)) (hs : Nat), hs = F.length → F.length ≤ 10 → P F → wk_c rk M F → yk_F a_kind a_value i j a_headAt a_headOf a_headLeft F → (∀ F', P F' → wk_e ρ F' = wk_e ρ F → wk_c rk M F' → yk_F a_kind a_value i j a_headAt a_headOf a_headLeft F' → (F'.length ≤ 1 ∨ ∃ p b t l f F2, F' = (p, b, t :: l) :: f :: F2) → wY_write_57 post J8 x1 x2 x3 f_place f_count f_top f_done f_open f_steps f_shownSteps f_fault f_in f_made f_old f_size (nI F'.length) f_fresh a_kind a_value a_all a_split a_toKind a_doneKind a_toValue a_doneValue a_begins a_lacks a_inKind a_leftKind a_madeKind a_oldKind a_resultKind a_inValue a_leftValue a_madeValue a_oldValue a_resultValue a_from a_to a_whole a_known a_bound a_whose a_rank a_one a_two a_oneOf a_twoOf a_headAt a_headOf a_headLeft a_pairs a_first) → ∃ n, wY_write_22 post J8 x1 x2 x3 f_place f_count f_top f_done f_open f_steps f_shownSteps f_fault f_in f_made f_old f_size f_fresh a_kind a_value a_all a_split a_toKind a_doneKind a_toValue a_doneValue a_begins a_lacks a_inKind a_leftKind a_madeKind a_oldKind a_resultKind a_inValue a_leftValue a_madeValue a_oldValue a_resultValue a_from a_to a_whole a_known a_bound a_whose a_rank a_one a_two a_oneOf a_twoOf a_headAt a_headOf a_headLeft a_pairs a_first n (nI hs)
  | [], hs, e, hl, hP, hc, hF, h => by
    subst e
    exact ⟨1, br_t (by decide) (h [] hP rfl hc hF (Or.inl (by simp)))⟩
  | [f], hs, e, hl, hP, hc, hF, h => by
    subst e
    exact ⟨1, br_t (show nI 1 ≤ 1 by decide) (h [f] hP rfl hc hF (Or.inl (by simp)))⟩
  | (p, b, l) :: f :: F, hs, e, hl, hP, hc, hF, h => by
    subst e
    have hlen : ((p, b, l) :: f :: F).length = F.length + 2 := rfl
    rw [hlen] at hl ⊢
    obtain ⟨⟨q1, q2, ⟨m, m1, m2, m3⟩, q4⟩, q5⟩ := hF
    have e1 : nI (F.length + 2) - 1 = nI (F.length + 1) := nI_pred _
    have hin : vp_in (nI (F.length + 2) - 1) 64 := by rw [e1]; exact vp_in_nI (by omega) (by omega)
    have ec : (nI (F.length + 2) - 1).toNatClampNeg = F.length + 1 := by rw [e1]; exact nI_clamp (by omega)
    have m2' : a_headLeft (F.length + 1) = nI m := m2
    cases l with
    | nil =>
      rw [tm_w_nil] at m3
      subst m3
      obtain ⟨n, hn⟩ := yw_22 P hpop (f :: F) (F.length + 1) rfl (by simp; omega) (hpop _ _ _ _ hP) hc.2.2.2 q5 (fun F' a1 a2 a3 a4 a5 => h F' a1 a2 a3 a4 a5)
      refine ⟨n + 1, pk_le (F.length + 2) 1 (fun z => absurd z (by omega)) (fun _ => ⟨hin, br_t (by rw [ec]; exact m2') (nm_r e1 hn)⟩)⟩
    | cons t l =>
      obtain ⟨k, rfl, _⟩ := tm_w_ne m3
      refine ⟨1, pk_le (F.length + 2) 1 (fun z => absurd z (by omega)) (fun _ => ⟨hin, br_f (by rw [ec, m2']; exact nI_ne0 (by omega) (by omega)) ?_⟩)⟩
      exact h _ hP rfl hc ⟨⟨q1, q2, ⟨k + 1, m1, m2, m3⟩, q4⟩, q5⟩ (Or.inr ⟨p, b, t, l, f, F, rfl⟩)
theorem yw_191 {post : Int32 → SY → Prop} {q : List Int64} (hq : q.length ≤ 31) (h : post (if q.length ≤ 30 then 1 else 0) (f_place, f_count, f_top, f_done, f_open, f_steps, f_shownSteps, f_fault, nI q.length, f_made, f_old, f_size, f_heads, f_fresh, a_kind, a_value, a_all, a_split, a_toKind, a_doneKind, a_toValue, a_doneValue, a_begins, a_lacks, a_inKind, a_leftKind, a_madeKind, a_oldKind, a_resultKind, a_inValue, a_leftValue, a_madeValue, a_oldValue, a_resultValue, a_from, a_to, a_whole, a_known, a_bound, a_whose, a_rank, a_one, a_two, a_oneOf, a_twoOf, a_headAt, a_headOf, a_headLeft, a_pairs, a_first)) : wY_write_191 post f_place f_count f_top f_done f_open f_steps f_shownSteps f_fault (nI q.length) f_made f_old f_size f_heads f_fresh a_kind a_value a_all a_split a_toKind a_doneKind a_toValue a_doneValue a_begins a_lacks a_inKind a_leftKind a_madeKind a_oldKind a_resultKind a_inValue a_leftValue a_madeValue a_oldValue a_resultValue a_from a_to a_whole a_known a_bound a_whose a_rank a_one a_two a_oneOf a_twoOf a_headAt a_headOf a_headLeft a_pairs a_first := by
  refine pk_le 31 q.length (fun h31 => ?_) (fun h31 => ?_)
  · rw [if_neg (by omega)] at h; exact h
  · rw [if_pos (by omega)] at h; exact h
/-- with no cut to come -/
theorem yw_N {post : Int32 → SY → Prop} {x1 x2 x3 : Int32} (H : jn_H J A B) (hR : us_R A B σ rk) (hY : jy_H a_kind a_value i j A B) (hu : yu_s a_bound a_whose i j σ) (hω1 : ∀ v, 1 ≤ ω v) (hω : ∀ v q, σ v = some q → us_W ω (jn_t A B q) + 2 ≤ ω v) (hρ : us_Es A B σ ρ) (hρ0 : ∀ v, σ v = none → ρ v = [lN (8589934592 + v)]) (hM : M ≤ 9) : ∀ (d : Nat) (F : List (Nat × Nat × List Int64)) (q : List Int64) (n : Nat) (mo : Int32) (ik iv ha ho hl : Nat → Int32), q.length + d = 31 → d + 1 < n → yw_nc i j x1 F → (mo = 1 ∨ (mo = 0 ∧ wk_e ρ F = [])) → wk_c rk M F → yk_F a_kind a_value i j ha ho hl F → hd_y (fun _ => 0) (yw_v a_rank) ik iv 0 q → (∀ hs ha ho hl ik iv nin, nin = nI ((q ++ wk_e ρ F).take 31).length → hd_y (fun _ => 0) (yw_v a_rank) ik iv 0 ((q ++ wk_e ρ F).take 31) → post (if (q ++ wk_e ρ F).length ≤ 30 then 1 else 0) (f_place, f_count, f_top, f_done, f_open, f_steps, f_shownSteps, f_fault, nin, f_made, f_old, f_size, hs, f_fresh, a_kind, a_value, a_all, a_split, a_toKind, a_doneKind, a_toValue, a_doneValue, a_begins, a_lacks, ik, a_leftKind, a_madeKind, a_oldKind, a_resultKind, iv, a_leftValue, a_madeValue, a_oldValue, a_resultValue, a_from, a_to, a_whole, a_known, a_bound, a_whose, a_rank, a_one, a_two, a_oneOf, a_twoOf, ha, ho, hl, a_pairs, a_first)) → wY_write_8 post x1 x2 x3 n mo f_place f_count f_top f_done f_open f_steps f_shownSteps f_fault (nI q.length) f_made f_old f_size (nI F.length) f_fresh a_kind a_value a_all a_split a_toKind a_doneKind a_toValue a_doneValue a_begins a_lacks ik a_leftKind a_madeKind a_oldKind a_resultKind iv a_leftValue a_madeValue a_oldValue a_resultValue a_from a_to a_whole a_known a_bound a_whose a_rank a_one a_two a_oneOf a_twoOf ha ho hl a_pairs a_first := by
  intro d
  induction d with
  | zero =>
    intro F q n mo ik iv ha ho hl hd hn hnc hmo hc hF hik Hp
    obtain ⟨n, rfl⟩ : ∃ n', n = n' + 1 := ⟨n - 1, by omega⟩
    have et : (q ++ wk_e ρ F).take 31 = q := by rw [xi_take' (by omega), List.take_of_length_le (by omega)]
    have fin : wY_write_191 post f_place f_count f_top f_done f_open f_steps f_shownSteps f_fault (nI q.length) f_made f_old f_size (nI F.length) f_fresh a_kind a_value a_all a_split a_toKind a_doneKind a_toValue a_doneValue a_begins a_lacks ik a_leftKind a_madeKind a_oldKind a_resultKind iv a_leftValue a_madeValue a_oldValue a_resultValue a_from a_to a_whole a_known a_bound a_whose a_rank a_one a_two a_oneOf a_twoOf ha ho hl a_pairs a_first := by
      refine yw_191 (by omega) ?_
      have := Hp (nI F.length) ha ho hl ik iv (nI q.length) (by rw [et]) (by rw [et]; exact hik)
      rw [if_neg (by rw [List.length_append]; omega)] at this
      rw [if_neg (by omega)]
      exact this
    exact br_c (fun _ => fin) (fun _ => pk_le 31 q.length (fun _ => fin) (fun z => absurd z (by omega)))
  | succ d ih =>
    intro F q n mo ik iv ha ho hl hd hn hnc hmo hc hF hik Hp
    obtain ⟨n, rfl⟩ : ∃ n', n = n' + 1 := ⟨n - 1, by omega⟩
    rcases hmo with hmo | ⟨hmo, hX⟩
    · subst hmo
      refine br_f (by decide) (pk_le 31 q.length (fun z => absurd z (by omega)) (fun _ => ?_))
      have hFl : F.length ≤ 10 := by
        cases F with
        | nil => simp
        | cons a F => obtain ⟨p, b, l⟩ := a; have := hc.1; rw [List.length_cons]; omega
      refine yw_22 (M := M) (ρ := ρ) (rk := rk) (i := i) (j := j) (yw_nc i j x1) (fun p b f F h => h) F F.length rfl hFl hnc hc hF (fun F' g1 g2 g3 g4 g5 => ?_)
      have go : wY_write_109 post (wY_write_8 post x1 x2 x3 n) x1 x2 x3 f_place f_count f_top f_done f_open f_steps f_shownSteps f_fault (nI q.length) f_made f_old f_size (nI F'.length) f_fresh a_kind a_value a_all a_split a_toKind a_doneKind a_toValue a_doneValue a_begins a_lacks ik a_leftKind a_madeKind a_oldKind a_resultKind iv a_leftValue a_madeValue a_oldValue a_resultValue a_from a_to a_whole a_known a_bound a_whose a_rank a_one a_two a_oneOf a_twoOf ha ho hl a_pairs a_first := by
        refine yw_109 H hR hY hu hω1 hω hρ hρ0 hM (yw_nc i j x1) (yw_nc i j x1) yw_k1 yw_k2 (fun p b t l F q h _ _ => yw_k2 p b t l F h) g1 g3 rfl g4 (by omega) hik (fun e hs ha ho hl => ?_) (fun c X F2 ha ho hl ik iv e1 e2 e3 e4 e5 e6 => ?_)
        · obtain ⟨n, rfl⟩ : ∃ n', n = n' + 1 := ⟨n - 1, by omega⟩
          refine br_t rfl (yw_191 (by omega) ?_)
          rw [g2] at e
          have := Hp hs ha ho hl ik iv (nI q.length) (by rw [e, List.append_nil, List.take_of_length_le (by omega)]) (by rw [e, List.append_nil, List.take_of_length_le (by omega)]; exact hik)
          rw [e, List.append_nil] at this
          exact this
        · rw [g2] at e1
          have es : q ++ wk_e ρ F = (q ++ [c]) ++ wk_e ρ F2 := by rw [e1, e2, List.append_assoc]; rfl
          rw [es] at Hp
          exact ih F2 (q ++ [c]) n 1 ik iv ha ho hl (by simp; omega) (by omega) e5 (Or.inl rfl) e3 e4 e6 Hp
      have hle : F'.length ≤ 10 := by
        cases F' with
        | nil => simp
        | cons a F' => obtain ⟨p, b, l⟩ := a; have := g3.1; rw [List.length_cons]; omega
      refine pk_eq F'.length 1 (fun h1 => ?_) (fun _ => go)
      match F', h1, g1, g4, go with
      | [(p, b, l)], _, g1, g4, go =>
        refine br_f ?_ go
        have : ha 0 = nI (jy_p i j p) := g4.1.1
        rw [this]
        exact g1 p (Nat.le_refl _) (by omega)
    · subst hmo
      refine br_t rfl (yw_191 (by omega) ?_)
      have := Hp (nI F.length) ha ho hl ik iv (nI q.length) (by rw [hX, List.append_nil, List.take_of_length_le (by omega)]) (by rw [hX, List.append_nil, List.take_of_length_le (by omega)]; exact hik)
      rw [hX, List.append_nil] at this
      exact this
end
