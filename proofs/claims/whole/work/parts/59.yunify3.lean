/-! the reference: unification, the whole of it -/
theorem us_f_succ {J : Nat → Int64} {σ : Nat → Option Nat} : ∀ (k p : Nat), us_f J σ (k + 1) p = us_1 J σ (us_f J σ k p)
  | 0, p => rfl
  | k + 1, p => by
    rw [us_f, us_f_succ k (us_1 J σ p)]
    rfl
section
variable {J : Nat → Int64} {A B : List Int64} {σ : Nat → Option Nat} {rk : Nat → Nat}
/-- one link on, the same end -/
theorem us_f_link (H : jn_H J A B) (hR : us_R A B σ rk) {a r : Nat} (hav : ¬ J a < 8589934592) (hr : σ (jn_n (J a)) = some r) : us_f J σ 8 r = us_f J σ 8 a := by
  obtain ⟨_, hrv, hrk⟩ := hR.2 _ r hr
  have h7 := us_fol H hR 7 r hrv (fun hn => by
    obtain ⟨l, _, _, q1, _⟩ := jn_tm H hrv
    have h1 := hrk (J r) (by rw [q1]; simp) hn
    have h2 := hR.1 (jn_n (J a))
    omega)
  have e1 : us_f J σ 8 a = us_f J σ 7 r := by
    show us_f J σ 7 (us_1 J σ a) = _
    rw [us_1_some hav hr]
  rw [e1, us_f_succ 7 r]
  by_cases hs : J (us_f J σ 7 r) < 8589934592
  · exact us_1_sym hs
  · exact us_1_none hs (h7.2 hs)
def us_mu (J : Nat → Int64) (σ : Nat → Option Nat) (rk : Nat → Nat) (p : Nat) : Nat := if ¬ J p < 8589934592 ∧ (σ (jn_n (J p))).isSome = true then rk (jn_n (J p)) + 1 else 0
theorem us_mu_r (H : jn_H J A B) (hR : us_R A B σ rk) {a r : Nat} (hav : ¬ J a < 8589934592) (hr : σ (jn_n (J a)) = some r) : us_mu J σ rk r < us_mu J σ rk a := by
  obtain ⟨_, hrv, hrk⟩ := hR.2 _ r hr
  have ea : us_mu J σ rk a = rk (jn_n (J a)) + 1 := by
    unfold us_mu
    rw [if_pos ⟨hav, by rw [hr]; rfl⟩]
  rw [ea]
  unfold us_mu
  split
  · rename_i hc
    obtain ⟨l, _, _, q1, _⟩ := jn_tm H hrv
    have := hrk (J r) (by rw [q1]; simp) hc.1
    omega
  · omega
end
section
variable {f_place f_count f_top f_done f_open f_steps f_shownSteps f_fault f_in f_made f_old f_size f_heads f_fresh : Int32} {a_kind a_value a_all a_split a_toKind a_doneKind a_toValue a_doneValue a_begins a_lacks a_inKind a_leftKind a_madeKind a_oldKind a_resultKind a_inValue a_leftValue a_madeValue a_oldValue a_resultValue a_from a_to a_whole a_known a_bound a_whose a_rank a_one a_two a_oneOf a_twoOf a_headAt a_headOf a_headLeft a_pairs a_first : Nat → Int32}
variable {J : Nat → Int64} {A B : List Int64} {σ : Nat → Option Nat} {rk : Nat → Nat} {i j : Nat}
theorem yu_ll {post : Int32 → SY → Prop} (H : jn_H J A B) (hY : jy_H a_kind a_value i j A B) : ∀ (k p : Nat) (S : List (Nat × Nat)), jn_v A B p → (jn_t A B p).length ≤ k → S.length + k ≤ 390 → yu_Q post f_place f_count f_top f_done f_open f_steps f_shownSteps f_fault f_in f_made f_old f_size f_heads f_fresh a_kind a_value a_all a_split a_toKind a_doneKind a_toValue a_doneValue a_begins a_lacks a_inKind a_leftKind a_madeKind a_oldKind a_resultKind a_inValue a_leftValue a_madeValue a_oldValue a_resultValue a_from a_to a_whole a_known a_bound a_whose a_rank a_one a_two a_oneOf a_twoOf a_headAt a_headOf a_headLeft a_pairs a_first i j S σ → yu_Q post f_place f_count f_top f_done f_open f_steps f_shownSteps f_fault f_in f_made f_old f_size f_heads f_fresh a_kind a_value a_all a_split a_toKind a_doneKind a_toValue a_doneValue a_begins a_lacks a_inKind a_leftKind a_madeKind a_oldKind a_resultKind a_inValue a_leftValue a_madeValue a_oldValue a_resultValue a_from a_to a_whole a_known a_bound a_whose a_rank a_one a_two a_oneOf a_twoOf a_headAt a_headOf a_headLeft a_pairs a_first i j ((p, p) :: S) σ := by
  intro k
  induction k with
  | zero =>
    intro p S hp hk hS hQ
    have := (jn_lt H hp).2.2.1
    omega
  | succ k ih =>
    intro p S hp hk hS hQ
    by_cases hs : J p < 8589934592
    · refine yu_s7 H hY hp hp (by omega) hs rfl ?_
      have har := tm_ar_le (J p)
      unfold yu_ag
      by_cases h0 : tm_ar (J p) = 0
      · rw [if_pos h0]; exact hQ
      · rw [if_neg h0]
        by_cases h2 : tm_ar (J p) = 2
        · rw [if_pos h2]
          obtain ⟨p1, l, pt, pl, pv, pe⟩ := jn_args H hp (m := 1) h2
          have hl0 : l ≠ [] := by intro z; rw [z, tm_w_nil] at pl; omega
          have pv := pv hl0
          have pe := pe rfl
          have hlen : (jn_t A B p).length = 1 + ((jn_t A B (p + 1)).length + l.length) := by rw [pt]; simp; omega
          rw [pe] at hlen
          have hp1 := jn_lt H p1
          have hp2 := jn_lt H pv
          refine ih (p + 1) _ p1 (by omega) (by rw [List.length_cons]; omega) ?_
          exact ih _ S pv (by omega) (by omega) hQ
        · rw [if_neg h2]
          obtain ⟨p1, l, pt, pl, pv, _⟩ := jn_args H hp (m := 0) (by omega)
          have hlen : (jn_t A B p).length = 1 + ((jn_t A B (p + 1)).length + l.length) := by rw [pt]; simp; omega
          exact ih (p + 1) S p1 (by omega) (by omega) hQ
    · exact yu_s1 H hY hp hp (by omega) hs rfl hQ
/-- both places stand for themselves -/
theorem yu_end {post : Int32 → SY → Prop} {S : List (Nat × Nat)} (H : jn_H J A B) (hR : us_R A B σ rk) (hY : jy_H a_kind a_value i j A B) (hS : S.length ≤ 126) {a b : Nat} (ha : jn_v A B a) (hb : jn_v A B b) (ma : us_mu J σ rk a = 0) (mb : us_mu J σ rk b = 0) (hF : us_st J A B σ (us_f J σ 8 a) (us_f J σ 8 b) S = none → ∀ (ct hs : Int32) (o1 w1 o2 w2 bd wo ha ho hl : Nat → Int32), post 0 (f_place, ct, f_top, f_done, f_open, f_steps, f_shownSteps, f_fault, f_in, f_made, f_old, f_size, hs, f_fresh, a_kind, a_value, a_all, a_split, a_toKind, a_doneKind, a_toValue, a_doneValue, a_begins, a_lacks, a_inKind, a_leftKind, a_madeKind, a_oldKind, a_resultKind, a_inValue, a_leftValue, a_madeValue, a_oldValue, a_resultValue, a_from, a_to, a_whole, a_known, bd, wo, a_rank, o1, o2, w1, w2, ha, ho, hl, a_pairs, a_first)) (hQ : ∀ S' σ', us_st J A B σ (us_f J σ 8 a) (us_f J σ 8 b) S = some (S', σ') → yu_Q post f_place f_count f_top f_done f_open f_steps f_shownSteps f_fault f_in f_made f_old f_size f_heads f_fresh a_kind a_value a_all a_split a_toKind a_doneKind a_toValue a_doneValue a_begins a_lacks a_inKind a_leftKind a_madeKind a_oldKind a_resultKind a_inValue a_leftValue a_madeValue a_oldValue a_resultValue a_from a_to a_whole a_known a_bound a_whose a_rank a_one a_two a_oneOf a_twoOf a_headAt a_headOf a_headLeft a_pairs a_first i j S' σ') : yu_Q post f_place f_count f_top f_done f_open f_steps f_shownSteps f_fault f_in f_made f_old f_size f_heads f_fresh a_kind a_value a_all a_split a_toKind a_doneKind a_toValue a_doneValue a_begins a_lacks a_inKind a_leftKind a_madeKind a_oldKind a_resultKind a_inValue a_leftValue a_madeValue a_oldValue a_resultValue a_from a_to a_whole a_known a_bound a_whose a_rank a_one a_two a_oneOf a_twoOf a_headAt a_headOf a_headLeft a_pairs a_first i j ((a, b) :: S) σ := by
  have un : ∀ p, us_mu J σ rk p = 0 → ¬ J p < 8589934592 → σ (jn_n (J p)) = none := by
    intro p hp hn
    cases e : σ (jn_n (J p)) with
    | none => rfl
    | some r =>
      unfold us_mu at hp
      rw [if_pos ⟨hn, by rw [e]; rfl⟩] at hp
      omega
  have fx : ∀ p, us_mu J σ rk p = 0 → us_f J σ 8 p = p := by
    intro p hp
    by_cases hs : J p < 8589934592
    · exact us_fixp (us_1_sym hs) 8
    · exact us_fixp (us_1_none hs (un p hp hs)) 8
  rw [fx a ma, fx b mb] at hF hQ
  unfold us_st at hF hQ
  by_cases hJ : J a = J b
  · rw [if_pos hJ] at hQ
    have hQ := hQ _ _ rfl
    by_cases hs : J a < 8589934592
    · by_cases hab : a = b
      · subst hab
        unfold us_ag at hQ
        rw [if_pos (Or.inl rfl)] at hQ
        have hl := (jn_lt H ha).2.2.2
        exact yu_ll H hY 30 a S ha (by omega) (by omega) hQ
      · refine yu_s7 H hY ha hb (by omega) hs hJ ?_
        have e : us_ag J A B a b S = yu_ag J A B a b S := by
          unfold us_ag yu_ag
          by_cases h0 : tm_ar (J a) = 0
          · rw [if_pos (Or.inr h0), if_pos h0]
          · rw [if_neg (by rintro (z | z); exact hab z; exact h0 z), if_neg h0]
        rw [← e]
        exact hQ
    · refine yu_s1 H hY ha hb (by omega) hs hJ ?_
      unfold us_ag at hQ
      rw [if_pos (Or.inr (jn_var (jn_J H ha) hs).2.2)] at hQ
      exact hQ
  · rw [if_neg hJ] at hF hQ
    by_cases hs : J a < 8589934592
    · rw [if_neg (fun z => z hs)] at hF hQ
      by_cases hbs : J b < 8589934592
      · rw [if_pos hbs] at hF
        exact yu_s6 H hY ha hb (by omega) hs hbs hJ (hF rfl)
      · rw [if_neg hbs] at hF hQ
        refine yu_s5 H hR hY ha hb (by omega) hs hbs (un b mb hbs) (fun hoc => ?_) (fun hno => ?_)
        · rw [if_pos hoc] at hF
          exact hF rfl
        · rw [if_neg hno] at hQ
          exact hQ _ _ rfl
    · rw [if_pos hs] at hF hQ
      refine yu_s4 H hR hY ha hb (by omega) hs (un a ma hs) (un b mb) hJ (fun hoc => ?_) (fun hno => ?_)
      · rw [if_pos hoc] at hF
        exact hF rfl
      · rw [if_neg hno] at hQ
        exact hQ _ _ rfl
theorem yu_turn {post : Int32 → SY → Prop} {S : List (Nat × Nat)} (H : jn_H J A B) (hR : us_R A B σ rk) (hY : jy_H a_kind a_value i j A B) (hS : S.length ≤ 126) : ∀ (m a b : Nat), jn_v A B a → jn_v A B b → us_mu J σ rk a + us_mu J σ rk b ≤ m → (us_st J A B σ (us_f J σ 8 a) (us_f J σ 8 b) S = none → ∀ (ct hs : Int32) (o1 w1 o2 w2 bd wo ha ho hl : Nat → Int32), post 0 (f_place, ct, f_top, f_done, f_open, f_steps, f_shownSteps, f_fault, f_in, f_made, f_old, f_size, hs, f_fresh, a_kind, a_value, a_all, a_split, a_toKind, a_doneKind, a_toValue, a_doneValue, a_begins, a_lacks, a_inKind, a_leftKind, a_madeKind, a_oldKind, a_resultKind, a_inValue, a_leftValue, a_madeValue, a_oldValue, a_resultValue, a_from, a_to, a_whole, a_known, bd, wo, a_rank, o1, o2, w1, w2, ha, ho, hl, a_pairs, a_first)) → (∀ S' σ', us_st J A B σ (us_f J σ 8 a) (us_f J σ 8 b) S = some (S', σ') → yu_Q post f_place f_count f_top f_done f_open f_steps f_shownSteps f_fault f_in f_made f_old f_size f_heads f_fresh a_kind a_value a_all a_split a_toKind a_doneKind a_toValue a_doneValue a_begins a_lacks a_inKind a_leftKind a_madeKind a_oldKind a_resultKind a_inValue a_leftValue a_madeValue a_oldValue a_resultValue a_from a_to a_whole a_known a_bound a_whose a_rank a_one a_two a_oneOf a_twoOf a_headAt a_headOf a_headLeft a_pairs a_first i j S' σ') → yu_Q post f_place f_count f_top f_done f_open f_steps f_shownSteps f_fault f_in f_made f_old f_size f_heads f_fresh a_kind a_value a_all a_split a_toKind a_doneKind a_toValue a_doneValue a_begins a_lacks a_inKind a_leftKind a_madeKind a_oldKind a_resultKind a_inValue a_leftValue a_madeValue a_oldValue a_resultValue a_from a_to a_whole a_known a_bound a_whose a_rank a_one a_two a_oneOf a_twoOf a_headAt a_headOf a_headLeft a_pairs a_first i j ((a, b) :: S) σ := by
  intro m
  induction m with
  | zero =>
    intro a b ha hb hm hF hQ
    exact yu_end H hR hY hS ha hb (by omega) (by omega) hF hQ
  | succ m ih =>
    intro a b ha hb hm hF hQ
    by_cases h0 : us_mu J σ rk a = 0 ∧ us_mu J σ rk b = 0
    · exact yu_end H hR hY hS ha hb h0.1 h0.2 hF hQ
    · by_cases hav : ¬ J a < 8589934592 ∧ (σ (jn_n (J a))).isSome = true
      · obtain ⟨r, hr⟩ := Option.isSome_iff_exists.mp hav.2
        by_cases hJ : J a = J b
        · refine yu_s1 H hY ha hb (by omega) hav.1 hJ (hQ S σ ?_)
          have e1 := us_f_link H hR hav.1 hr
          have e2 := us_f_link H hR (a := b) (by rw [← hJ]; exact hav.1) (by rw [← hJ]; exact hr)
          rw [← e1, ← e2]
          unfold us_st us_ag
          rw [if_pos rfl, if_pos (Or.inl rfl)]
        · refine yu_s2 H hR hY ha hb (by omega) hav.1 hJ hr ?_
          obtain ⟨_, hrv, _⟩ := hR.2 _ r hr
          have hlt := us_mu_r H hR hav.1 hr
          have e1 := us_f_link H hR hav.1 hr
          exact ih r b hrv hb (by omega) (by rw [e1]; exact hF) (by rw [e1]; exact hQ)
      · have hun : ¬ J a < 8589934592 → σ (jn_n (J a)) = none := fun hn => by
          cases e : σ (jn_n (J a)) with
          | none => rfl
          | some r => exact absurd ⟨hn, by rw [e]; rfl⟩ hav
        have ma0 : us_mu J σ rk a = 0 := by unfold us_mu; rw [if_neg hav]
        have hbv : ¬ J b < 8589934592 ∧ (σ (jn_n (J b))).isSome = true := by
          apply Classical.byContradiction
          intro z
          exact h0 ⟨ma0, by unfold us_mu; rw [if_neg z]⟩
        obtain ⟨r, hr⟩ := Option.isSome_iff_exists.mp hbv.2
        have hJ : J a ≠ J b := by
          intro z
          have := hun (by rw [z]; exact hbv.1)
          rw [z, hr] at this
          exact absurd this (by simp)
        refine yu_s3 H hR hY ha hb (by omega) hun hbv.1 hJ hr ?_
        obtain ⟨_, hrv, _⟩ := hR.2 _ r hr
        have hlt := us_mu_r H hR hbv.1 hr
        have e1 := us_f_link H hR hbv.1 hr
        exact ih a r ha hrv (by omega) (by rw [e1]; exact hF) (by rw [e1]; exact hQ)
theorem yu_run {post : Int32 → SY → Prop} {p0 q0 : Nat} (H : jn_H J A B) (hY : jy_H a_kind a_value i j A B) (h0 : jn_v A B p0) : ∀ (f n : Nat) (S : List (Nat × Nat)) (σ : Nat → Option Nat), us_I A B p0 q0 n S σ → n + f = 10000000 → (∀ σ', us_un J A B f S σ = some σ' → ∀ (ct hs : Int32) (o1 w1 o2 w2 bd wo ha ho hl : Nat → Int32), yu_s bd wo i j σ' → post 1 (f_place, ct, f_top, f_done, f_open, f_steps, f_shownSteps, f_fault, f_in, f_made, f_old, f_size, hs, f_fresh, a_kind, a_value, a_all, a_split, a_toKind, a_doneKind, a_toValue, a_doneValue, a_begins, a_lacks, a_inKind, a_leftKind, a_madeKind, a_oldKind, a_resultKind, a_inValue, a_leftValue, a_madeValue, a_oldValue, a_resultValue, a_from, a_to, a_whole, a_known, bd, wo, a_rank, o1, o2, w1, w2, ha, ho, hl, a_pairs, a_first)) → (us_un J A B f S σ = none → ∀ (ct hs : Int32) (o1 w1 o2 w2 bd wo ha ho hl : Nat → Int32), post 0 (f_place, ct, f_top, f_done, f_open, f_steps, f_shownSteps, f_fault, f_in, f_made, f_old, f_size, hs, f_fresh, a_kind, a_value, a_all, a_split, a_toKind, a_doneKind, a_toValue, a_doneValue, a_begins, a_lacks, a_inKind, a_leftKind, a_madeKind, a_oldKind, a_resultKind, a_inValue, a_leftValue, a_madeValue, a_oldValue, a_resultValue, a_from, a_to, a_whole, a_known, bd, wo, a_rank, o1, o2, w1, w2, ha, ho, hl, a_pairs, a_first)) → yu_Q post f_place f_count f_top f_done f_open f_steps f_shownSteps f_fault f_in f_made f_old f_size f_heads f_fresh a_kind a_value a_all a_split a_toKind a_doneKind a_toValue a_doneValue a_begins a_lacks a_inKind a_leftKind a_madeKind a_oldKind a_resultKind a_inValue a_leftValue a_madeValue a_oldValue a_resultValue a_from a_to a_whole a_known a_bound a_whose a_rank a_one a_two a_oneOf a_twoOf a_headAt a_headOf a_headLeft a_pairs a_first i j S σ := by
  intro f
  induction f with
  | zero =>
    intro n S σ hI hn Hy Hn
    cases S with
    | nil =>
      refine ⟨1, fun n hn ct hs o1 w1 o2 w2 bd wo ha ho hl hct _ hys => ?_⟩
      obtain ⟨n, rfl⟩ : ∃ n', n = n' + 1 := ⟨n - 1, by omega⟩
      subst hct
      exact br_t (by decide) (Hy σ (us_un_nil 0) _ _ _ _ _ _ _ _ _ _ _ hys)
    | cons a S =>
      obtain ⟨p, q⟩ := a
      have := (us_turns H h0 hI).1
      omega
  | succ f ih =>
    intro n S σ hI hn Hy Hn
    cases S with
    | nil =>
      refine ⟨1, fun n hn ct hs o1 w1 o2 w2 bd wo ha ho hl hct _ hys => ?_⟩
      obtain ⟨n, rfl⟩ : ∃ n', n = n' + 1 := ⟨n - 1, by omega⟩
      subst hct
      exact br_t (by decide) (Hy σ (us_un_nil _) _ _ _ _ _ _ _ _ _ _ _ hys)
    | cons a S =>
      obtain ⟨p, q⟩ := a
      have hlim := (us_turns H h0 hI).2
      rw [us_un_cons] at Hy Hn
      have hI0 := hI
      obtain ⟨⟨rk, hR⟩, hv, _⟩ := hI0
      obtain ⟨hp, hq⟩ := hv p q (List.mem_cons.mpr (Or.inl rfl))
      refine yu_turn H hR hY hlim _ p q hp hq (Nat.le_refl _) (fun e => ?_) (fun S' σ' e => ?_)
      · rw [e] at Hn
        exact Hn rfl
      · have hI' := us_pres H hI e
        rw [e] at Hy Hn
        exact ih (n + 1) S' σ' hI' (by omega) Hy Hn
theorem yu_2 {post : Int32 → SY → Prop} {x1 x2 : Int32} : ∀ (d k n : Nat) (bd : Nat → Int32), k + d = 8 → (∀ v, v < k → bd v = -1) → d < n → (∀ bd' : Nat → Int32, (∀ v, v < 8 → bd' v = -1) → wpY_pend (fun u => match u with | (f_place0, f_count0, f_top0, f_done0, f_open0, f_steps0, f_shownSteps0, f_fault0, f_in0, f_made0, f_old0, f_size0, f_heads0, f_fresh0, a_kind0, a_value0, a_all0, a_split0, a_toKind0, a_doneKind0, a_toValue0, a_doneValue0, a_begins0, a_lacks0, a_inKind0, a_leftKind0, a_madeKind0, a_oldKind0, a_resultKind0, a_inValue0, a_leftValue0, a_madeValue0, a_oldValue0, a_resultValue0, a_from0, a_to0, a_whole0, a_known0, a_bound0, a_whose0, a_rank0, a_one0, a_two0, a_oneOf0, a_twoOf0, a_headAt0, a_headOf0, a_headLeft0, a_pairs0, a_first0) => ∃ n34, wY_unify_34 post n34 f_place0 f_count0 f_top0 f_done0 f_open0 f_steps0 f_shownSteps0 f_fault0 f_in0 f_made0 f_old0 f_size0 f_heads0 f_fresh0 a_kind0 a_value0 a_all0 a_split0 a_toKind0 a_doneKind0 a_toValue0 a_doneValue0 a_begins0 a_lacks0 a_inKind0 a_leftKind0 a_madeKind0 a_oldKind0 a_resultKind0 a_inValue0 a_leftValue0 a_madeValue0 a_oldValue0 a_resultValue0 a_from0 a_to0 a_whole0 a_known0 a_bound0 a_whose0 a_rank0 a_one0 a_two0 a_oneOf0 a_twoOf0 a_headAt0 a_headOf0 a_headLeft0 a_pairs0 a_first0) (f_place, 0, f_top, f_done, f_open, f_steps, f_shownSteps, f_fault, f_in, f_made, f_old, f_size, f_heads, f_fresh, a_kind, a_value, a_all, a_split, a_toKind, a_doneKind, a_toValue, a_doneValue, a_begins, a_lacks, a_inKind, a_leftKind, a_madeKind, a_oldKind, a_resultKind, a_inValue, a_leftValue, a_madeValue, a_oldValue, a_resultValue, a_from, a_to, a_whole, a_known, bd', a_whose, a_rank, a_one, a_two, a_oneOf, a_twoOf, a_headAt, a_headOf, a_headLeft, a_pairs, a_first) x1 0 x2 1) → wY_unify_2 post x1 x2 f_place f_count f_top f_done f_open f_steps f_shownSteps f_fault f_in f_made f_old f_size f_heads f_fresh n (nI k) a_kind a_value a_all a_split a_toKind a_doneKind a_toValue a_doneValue a_begins a_lacks a_inKind a_leftKind a_madeKind a_oldKind a_resultKind a_inValue a_leftValue a_madeValue a_oldValue a_resultValue a_from a_to a_whole a_known bd a_whose a_rank a_one a_two a_oneOf a_twoOf a_headAt a_headOf a_headLeft a_pairs a_first
  | 0, k, n, bd, hk, hm, hn, H => by
    obtain ⟨n, rfl⟩ : ∃ n', n = n' + 1 := ⟨n - 1, by omega⟩
    exact pk_le 8 k (fun _ => H bd (fun v hv => hm v (by omega))) (fun z => absurd z (by omega))
  | d + 1, k, n, bd, hk, hm, hn, H => by
    obtain ⟨n, rfl⟩ : ∃ n', n = n' + 1 := ⟨n - 1, by omega⟩
    refine pk_le 8 k (fun z => absurd z (by omega)) (fun _ => ⟨vp_in_nI (by omega) (by omega), nm_r (e' := upd bd k (-1)) (by rw [nI_clamp (by omega), yf_nsm]) (nm_r (nI_1 k) ?_)⟩)
    refine yu_2 d (k + 1) n _ (by omega) (fun v hv => ?_) (by omega) H
    by_cases e : v = k
    · rw [e, pk_us]
    · rw [pk_un e]; exact hm v (by omega)
theorem yu_unify {post : Int32 → SY → Prop} {p0 f : Nat} {x y : Int32} (hf : f = 10000000) (hp : p0 < 30) (hx : x = nI (30 * i + p0)) (hy : y = nI (30 * j)) (H : jn_H J A B) (hY : jy_H a_kind a_value i j A B) (h0 : jn_v A B p0) (h1 : jn_v A B 30) (Hy : ∀ σ', us_un J A B f [(p0, 30)] (fun _ => none) = some σ' → ∀ (ct hs : Int32) (o1 w1 o2 w2 bd wo ha ho hl : Nat → Int32), yu_s bd wo i j σ' → post 1 (f_place, ct, f_top, f_done, f_open, f_steps, f_shownSteps, f_fault, f_in, f_made, f_old, f_size, hs, f_fresh, a_kind, a_value, a_all, a_split, a_toKind, a_doneKind, a_toValue, a_doneValue, a_begins, a_lacks, a_inKind, a_leftKind, a_madeKind, a_oldKind, a_resultKind, a_inValue, a_leftValue, a_madeValue, a_oldValue, a_resultValue, a_from, a_to, a_whole, a_known, bd, wo, a_rank, o1, o2, w1, w2, ha, ho, hl, a_pairs, a_first)) (Hn : us_un J A B f [(p0, 30)] (fun _ => none) = none → ∀ (ct hs : Int32) (o1 w1 o2 w2 bd wo ha ho hl : Nat → Int32), post 0 (f_place, ct, f_top, f_done, f_open, f_steps, f_shownSteps, f_fault, f_in, f_made, f_old, f_size, hs, f_fresh, a_kind, a_value, a_all, a_split, a_toKind, a_doneKind, a_toValue, a_doneValue, a_begins, a_lacks, a_inKind, a_leftKind, a_madeKind, a_oldKind, a_resultKind, a_inValue, a_leftValue, a_madeValue, a_oldValue, a_resultValue, a_from, a_to, a_whole, a_known, bd, wo, a_rank, o1, o2, w1, w2, ha, ho, hl, a_pairs, a_first)) : wpY_unify post (f_place, f_count, f_top, f_done, f_open, f_steps, f_shownSteps, f_fault, f_in, f_made, f_old, f_size, f_heads, f_fresh, a_kind, a_value, a_all, a_split, a_toKind, a_doneKind, a_toValue, a_doneValue, a_begins, a_lacks, a_inKind, a_leftKind, a_madeKind, a_oldKind, a_resultKind, a_inValue, a_leftValue, a_madeValue, a_oldValue, a_resultValue, a_from, a_to, a_whole, a_known, a_bound, a_whose, a_rank, a_one, a_two, a_oneOf, a_twoOf, a_headAt, a_headOf, a_headLeft, a_pairs, a_first) x y := by
  have hrun : yu_Q post f_place f_count f_top f_done f_open f_steps f_shownSteps f_fault f_in f_made f_old f_size f_heads f_fresh a_kind a_value a_all a_split a_toKind a_doneKind a_toValue a_doneValue a_begins a_lacks a_inKind a_leftKind a_madeKind a_oldKind a_resultKind a_inValue a_leftValue a_madeValue a_oldValue a_resultValue a_from a_to a_whole a_known a_bound a_whose a_rank a_one a_two a_oneOf a_twoOf a_headAt a_headOf a_headLeft a_pairs a_first i j [(p0, 30)] (fun _ => none) := yu_run H hY h0 f 0 [(p0, 30)] (fun _ => none) (us_I0 h0 h1) (by omega) Hy Hn
  obtain ⟨N, hN⟩ := hrun
  refine ⟨9, yu_2 8 0 9 a_bound rfl (fun v hv => absurd hv (by omega)) (by omega) (fun bd hbd => ?_)⟩
  have e1 : jy_p i j p0 = 30 * i + p0 := if_pos hp
  have e2 : jy_o p0 = 0 := if_pos hp
  have e3 : jy_p i j 30 = 30 * j := rfl
  have e4 : jy_o 30 = 1 := rfl
  refine yu_pend (a := p0) (b := 30) (k := 0) (i := i) (j := j) (by omega) (by omega) (by omega) hY.1 hY.2.1 (by rw [e1]; exact hx) (by rw [e2]; rfl) (by rw [e3]; exact hy) (by rw [e4]; rfl) ⟨N, ?_⟩
  exact hN N (Nat.le_refl _) _ _ _ _ _ _ _ _ _ _ _ rfl (yu_push (S := []) trivial) (fun v hv => ⟨fun _ => hbd v hv, fun q e => absurd e (by simp)⟩)
end
