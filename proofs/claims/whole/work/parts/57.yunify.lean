/-! the reference: unification -/
theorem wk_om {A B : List Int64} {J : Nat → Int64} {σ : Nat → Option Nat} {rk : Nat → Nat} (H : jn_H J A B) (hR : us_R A B σ rk) : (∀ v, 1 ≤ 100 ^ (rk v + 1)) ∧ ∀ v q, σ v = some q → us_W (fun v => 100 ^ (rk v + 1)) (jn_t A B q) + 2 ≤ 100 ^ (rk v + 1) := by
  have hpos : ∀ k : Nat, 1 ≤ 100 ^ k := fun k => Nat.le_trans Nat.one_le_two_pow (Nat.pow_le_pow_left (by omega) k)
  refine ⟨fun v => hpos _, fun v q e => ?_⟩
  have hle : ∀ (l : List Int64) (K : Nat), (∀ t, t ∈ l → ¬ t < 8589934592 → rk (jn_n t) < K) → us_W (fun v => 100 ^ (rk v + 1)) l ≤ l.length * 100 ^ K := by
    intro l K
    induction l with
    | nil => intro _; simp [us_W]
    | cons t l ih =>
      intro hK
      have h1 := ih (fun x hx => hK x (List.mem_cons.mpr (Or.inr hx)))
      show (if t < 8589934592 then 1 else 100 ^ (rk (jn_n t) + 1)) + us_W _ l ≤ (l.length + 1) * 100 ^ K
      rw [Nat.add_mul, Nat.one_mul]
      have h2 : (if t < 8589934592 then 1 else 100 ^ (rk (jn_n t) + 1)) ≤ 100 ^ K := by
        by_cases ht : t < 8589934592
        · rw [if_pos ht]; exact hpos K
        · rw [if_neg ht]
          exact Nat.pow_le_pow_right (by omega) (hK t (List.mem_cons.mpr (Or.inl rfl)) ht)
      omega
  obtain ⟨_, hq, hrk⟩ := hR.2 v q e
  have h1 := hle (jn_t A B q) (rk v) hrk
  have h2 := (jn_lt H hq).2.2.2
  have h3 : (jn_t A B q).length * 100 ^ rk v ≤ 29 * 100 ^ rk v := Nat.mul_le_mul_right _ h2
  have h4 := hpos (rk v)
  rw [Nat.pow_succ]
  omega
def yu_S (i j : Nat) (o1 w1 o2 w2 : Nat → Int32) : List (Nat × Nat) → Prop
  | [] => True
  | (a, b) :: S => (o1 S.length = nI (jy_p i j a) ∧ w1 S.length = nI (jy_o a) ∧ o2 S.length = nI (jy_p i j b) ∧ w2 S.length = nI (jy_o b)) ∧ yu_S i j o1 w1 o2 w2 S
theorem yu_S_congr {i j : Nat} {o1 w1 o2 w2 o1' w1' o2' w2' : Nat → Int32} : ∀ {S : List (Nat × Nat)}, (∀ k, k < S.length → o1' k = o1 k ∧ w1' k = w1 k ∧ o2' k = o2 k ∧ w2' k = w2 k) → yu_S i j o1 w1 o2 w2 S → yu_S i j o1' w1' o2' w2' S
  | [], _, _ => trivial
  | (a, b) :: S, h, hh => by
    obtain ⟨e1, e2, e3, e4⟩ := h S.length (by simp)
    refine ⟨⟨e1.trans hh.1.1, e2.trans hh.1.2.1, e3.trans hh.1.2.2.1, e4.trans hh.1.2.2.2⟩, yu_S_congr (fun k hk => h k ?_) hh.2⟩
    rw [List.length_cons]; omega
def yu_Q (post : Int32 → SY → Prop) (f_place f_count f_top f_done f_open f_steps f_shownSteps f_fault f_in f_made f_old f_size f_heads f_fresh : Int32) (a_kind a_value a_all a_split a_toKind a_doneKind a_toValue a_doneValue a_begins a_lacks a_inKind a_leftKind a_madeKind a_oldKind a_resultKind a_inValue a_leftValue a_madeValue a_oldValue a_resultValue a_from a_to a_whole a_known a_bound a_whose a_rank a_one a_two a_oneOf a_twoOf a_headAt a_headOf a_headLeft a_pairs a_first : Nat → Int32) (i j : Nat) (S : List (Nat × Nat)) (σ : Nat → Option Nat) : Prop :=
  ∃ N, ∀ n, N ≤ n → ∀ (ct hs : Int32) (o1 w1 o2 w2 bd wo ha ho hl : Nat → Int32), ct = nI S.length → yu_S i j o1 w1 o2 w2 S → yu_s bd wo i j σ → wY_unify_34 post n f_place ct f_top f_done f_open f_steps f_shownSteps f_fault f_in f_made f_old f_size hs f_fresh a_kind a_value a_all a_split a_toKind a_doneKind a_toValue a_doneValue a_begins a_lacks a_inKind a_leftKind a_madeKind a_oldKind a_resultKind a_inValue a_leftValue a_madeValue a_oldValue a_resultValue a_from a_to a_whole a_known bd wo a_rank o1 o2 w1 w2 ha ho hl a_pairs a_first
def yu_v (t : Int64) : Int32 := if t < 8589934592 then -1 else nI (jn_n t)
theorem yo_code {c : Int64} {u : Nat} (hu8 : u < 8) (hck : jn_k c) : ¬ yk_code c < 0 ∧ (yk_code c = 12 + nI u ↔ c = lN (8589934592 + u)) := by
  unfold yk_code
  rcases jn_cases hck with ⟨n', h1, en, hs⟩ | ⟨v, h1, ev, hs, env, _⟩
  · rw [if_pos hs, en, pk_lT (by omega), show ((n' : Int)).toNat = n' from rfl, show (12 : Int32) = nI 12 from rfl, nI_add, nI_eq (by omega) (by omega), pk_lEQ (by omega) (by omega)]
    exact ⟨nI_pos (by omega), by omega⟩
  · rw [if_neg hs, env, ev, show (12 : Int32) = nI 12 from rfl, nI_add, nI_eq (by omega) (by omega), pk_lEQ (by omega) (by omega)]
    exact ⟨nI_pos (by omega), by omega⟩
section
variable {f_place f_count f_top f_done f_open f_steps f_shownSteps f_fault f_in f_made f_old f_size f_heads f_fresh : Int32} {a_kind a_value a_all a_split a_toKind a_doneKind a_toValue a_doneValue a_begins a_lacks a_inKind a_leftKind a_madeKind a_oldKind a_resultKind a_inValue a_leftValue a_madeValue a_oldValue a_resultValue a_from a_to a_whole a_known a_bound a_whose a_rank a_one a_two a_oneOf a_twoOf a_headAt a_headOf a_headLeft a_pairs a_first : Nat → Int32}
variable {J : Nat → Int64} {A B : List Int64} {σ : Nat → Option Nat} {rk : Nat → Nat} {i j : Nat}
theorem yc_l {post : Int32 → SY → Prop} {ω : Nat → Nat} {ρ : Nat → List Int64} {M u : Nat} (hu8 : u < 8) (H : jn_H J A B) (hR : us_R A B σ rk) (hY : jy_H a_kind a_value i j A B) (hu : yu_s a_bound a_whose i j σ) (hω1 : ∀ v, 1 ≤ ω v) (hω : ∀ v q, σ v = some q → us_W ω (jn_t A B q) + 2 ≤ ω v) (hρ : us_Es A B σ ρ) (hρ0 : ∀ v, σ v = none → ρ v = [lN (8589934592 + v)]) (hM : M ≤ 9) : ∀ (X : List Int64) (F : List (Nat × Nat × List Int64)) (ha ho hl : Nat → Int32) (n : Nat), wk_e ρ F = X → X.length < n → wk_c rk M F → yk_F a_kind a_value i j ha ho hl F → (lN (8589934592 + u) ∈ X → ∀ hs ha ho hl, post 1 (f_place, f_count, f_top, f_done, f_open, f_steps, f_shownSteps, f_fault, f_in, f_made, f_old, f_size, hs, f_fresh, a_kind, a_value, a_all, a_split, a_toKind, a_doneKind, a_toValue, a_doneValue, a_begins, a_lacks, a_inKind, a_leftKind, a_madeKind, a_oldKind, a_resultKind, a_inValue, a_leftValue, a_madeValue, a_oldValue, a_resultValue, a_from, a_to, a_whole, a_known, a_bound, a_whose, a_rank, a_one, a_two, a_oneOf, a_twoOf, ha, ho, hl, a_pairs, a_first)) → (¬ lN (8589934592 + u) ∈ X → ∀ hs ha ho hl, post 0 (f_place, f_count, f_top, f_done, f_open, f_steps, f_shownSteps, f_fault, f_in, f_made, f_old, f_size, hs, f_fresh, a_kind, a_value, a_all, a_split, a_toKind, a_doneKind, a_toValue, a_doneValue, a_begins, a_lacks, a_inKind, a_leftKind, a_madeKind, a_oldKind, a_resultKind, a_inValue, a_leftValue, a_madeValue, a_oldValue, a_resultValue, a_from, a_to, a_whole, a_known, a_bound, a_whose, a_rank, a_one, a_two, a_oneOf, a_twoOf, ha, ho, hl, a_pairs, a_first)) → wpY_next (fun r s => match s with | (f_place0, f_count0, f_top0, f_done0, f_open0, f_steps0, f_shownSteps0, f_fault0, f_in0, f_made0, f_old0, f_size0, f_heads0, f_fresh0, a_kind0, a_value0, a_all0, a_split0, a_toKind0, a_doneKind0, a_toValue0, a_doneValue0, a_begins0, a_lacks0, a_inKind0, a_leftKind0, a_madeKind0, a_oldKind0, a_resultKind0, a_inValue0, a_leftValue0, a_madeValue0, a_oldValue0, a_resultValue0, a_from0, a_to0, a_whole0, a_known0, a_bound0, a_whose0, a_rank0, a_one0, a_two0, a_oneOf0, a_twoOf0, a_headAt0, a_headOf0, a_headLeft0, a_pairs0, a_first0) => wY_occurs_17 post (nI u) n r f_place0 f_count0 f_top0 f_done0 f_open0 f_steps0 f_shownSteps0 f_fault0 f_in0 f_made0 f_old0 f_size0 f_heads0 f_fresh0 a_kind0 a_value0 a_all0 a_split0 a_toKind0 a_doneKind0 a_toValue0 a_doneValue0 a_begins0 a_lacks0 a_inKind0 a_leftKind0 a_madeKind0 a_oldKind0 a_resultKind0 a_inValue0 a_leftValue0 a_madeValue0 a_oldValue0 a_resultValue0 a_from0 a_to0 a_whole0 a_known0 a_bound0 a_whose0 a_rank0 a_one0 a_two0 a_oneOf0 a_twoOf0 a_headAt0 a_headOf0 a_headLeft0 a_pairs0 a_first0) (f_place, f_count, f_top, f_done, f_open, f_steps, f_shownSteps, f_fault, f_in, f_made, f_old, f_size, nI F.length, f_fresh, a_kind, a_value, a_all, a_split, a_toKind, a_doneKind, a_toValue, a_doneValue, a_begins, a_lacks, a_inKind, a_leftKind, a_madeKind, a_oldKind, a_resultKind, a_inValue, a_leftValue, a_madeValue, a_oldValue, a_resultValue, a_from, a_to, a_whole, a_known, a_bound, a_whose, a_rank, a_one, a_two, a_oneOf, a_twoOf, ha, ho, hl, a_pairs, a_first) := by
  intro X
  induction X with
  | nil =>
    intro F ha ho hl n hX hn hc hF Hy Hn
    obtain ⟨n, rfl⟩ : ∃ n', n = n' + 1 := ⟨n - 1, by omega⟩
    refine yk_next H hR hY hu hω1 hω hρ hρ0 hM (fun _ => True) (fun _ => True) (fun _ _ _ _ => trivial) (fun _ _ _ _ _ _ => trivial) (fun _ _ _ _ _ _ _ _ _ => trivial) (wk_w ω F + 1) F F.length ha ho hl trivial (by omega) hc rfl hF (fun _ hs ha ho hl => ?_) (fun c X' F' ha ho hl e1 => ?_)
    · exact br_t (by decide) (br_t (by decide) (Hn (by simp) hs ha ho hl))
    · rw [hX] at e1
      exact absurd e1 (by simp)
  | cons c X ih =>
    intro F ha ho hl n hX hn hc hF Hy Hn
    obtain ⟨n, rfl⟩ : ∃ n', n = n' + 1 := ⟨n - 1, by omega⟩
    refine yk_next H hR hY hu hω1 hω hρ hρ0 hM (fun _ => True) (fun _ => True) (fun _ _ _ _ => trivial) (fun _ _ _ _ _ _ => trivial) (fun _ _ _ _ _ _ _ _ _ => trivial) (wk_w ω F + 1) F F.length ha ho hl trivial (by omega) hc rfl hF (fun e => by rw [hX] at e; exact absurd e (by simp)) (fun c' X' F' ha ho hl e1 e2 e3 e4 e5 hck _ => ?_)
    rw [hX] at e1
    injection e1 with e1 e1'
    subst e1 e1'
    have hcode := yo_code hu8 hck
    refine br_f hcode.1 ?_
    by_cases hcu : c = lN (8589934592 + u)
    · exact br_t (hcode.2.mpr hcu) (br_f hcode.1 (Hy (by rw [hcu]; simp) _ _ _ _))
    · refine br_f (fun z => hcu (hcode.2.mp z)) ?_
      rw [List.length_cons] at hn
      refine ih F' ha ho hl n e2 (by omega) e3 e5 (fun z => Hy (List.mem_cons.mpr (Or.inr z))) (fun z => Hn (fun z2 => ?_))
      rcases List.mem_cons.mp z2 with z3 | z3
      · exact hcu z3.symm
      · exact z z3
theorem yo_occurs {post : Int32 → SY → Prop} {u q : Nat} {x y z : Int32} (hu8 : u < 8) (H : jn_H J A B) (hR : us_R A B σ rk) (hY : jy_H a_kind a_value i j A B) (hu : yu_s a_bound a_whose i j σ) (hq : jn_v A B q) (hz : z = nI u) (hx : x = nI (jy_p i j q)) (hy : y = nI (jy_o q)) (Hy : lN (8589934592 + u) ∈ us_E (us_h A B σ 8) (jn_t A B q) → ∀ hs ha ho hl, post 1 (f_place, f_count, f_top, f_done, f_open, f_steps, f_shownSteps, f_fault, f_in, f_made, f_old, f_size, hs, f_fresh, a_kind, a_value, a_all, a_split, a_toKind, a_doneKind, a_toValue, a_doneValue, a_begins, a_lacks, a_inKind, a_leftKind, a_madeKind, a_oldKind, a_resultKind, a_inValue, a_leftValue, a_madeValue, a_oldValue, a_resultValue, a_from, a_to, a_whole, a_known, a_bound, a_whose, a_rank, a_one, a_two, a_oneOf, a_twoOf, ha, ho, hl, a_pairs, a_first)) (Hn : ¬ lN (8589934592 + u) ∈ us_E (us_h A B σ 8) (jn_t A B q) → ∀ hs ha ho hl, post 0 (f_place, f_count, f_top, f_done, f_open, f_steps, f_shownSteps, f_fault, f_in, f_made, f_old, f_size, hs, f_fresh, a_kind, a_value, a_all, a_split, a_toKind, a_doneKind, a_toValue, a_doneValue, a_begins, a_lacks, a_inKind, a_leftKind, a_madeKind, a_oldKind, a_resultKind, a_inValue, a_leftValue, a_madeValue, a_oldValue, a_resultValue, a_from, a_to, a_whole, a_known, a_bound, a_whose, a_rank, a_one, a_two, a_oneOf, a_twoOf, ha, ho, hl, a_pairs, a_first)) : wpY_occurs post (f_place, f_count, f_top, f_done, f_open, f_steps, f_shownSteps, f_fault, f_in, f_made, f_old, f_size, f_heads, f_fresh, a_kind, a_value, a_all, a_split, a_toKind, a_doneKind, a_toValue, a_doneValue, a_begins, a_lacks, a_inKind, a_leftKind, a_madeKind, a_oldKind, a_resultKind, a_inValue, a_leftValue, a_madeValue, a_oldValue, a_resultValue, a_from, a_to, a_whole, a_known, a_bound, a_whose, a_rank, a_one, a_two, a_oneOf, a_twoOf, a_headAt, a_headOf, a_headLeft, a_pairs, a_first) z x y := by
  subst hz
  have hql := jn_lt H hq
  obtain ⟨jt1, jt2, jt3⟩ := jy_term H hY hq
  obtain ⟨_, _, _, _, _, tw, _, _, _, tk, _, _⟩ := jn_tm H hq
  have hreg : q + (jn_t A B q).length < 30 ∨ 30 ≤ q := by
    by_cases h30 : q < 30
    · obtain ⟨_, _, _, _, _, _, _, _, _, _, z8, _⟩ := jn_tm H hq
      have := z8 h30
      obtain ⟨_, _, h3, _⟩ := H
      omega
    · omega
  obtain ⟨om1, om2⟩ := wk_om H hR
  have eX : wk_e (us_h A B σ 8) [(q, 8, jn_t A B q)] = us_E (us_h A B σ 8) (jn_t A B q) := List.append_nil _
  unfold wpY_occurs
  refine yk_head (k := 0) (p := q) (i := i) (j := j) (by omega) (Or.inl hql.2.1) hY.1 hY.2.1 hx hy ?_
  refine yk_next H hR hY hu om1 om2 (us_h_sol hR) (fun v e => us_h_none e 8) (M := 8) (by omega) (fun _ => True) (fun _ => True) (fun _ _ _ _ => trivial) (fun _ _ _ _ _ _ => trivial) (fun _ _ _ _ _ _ _ _ _ => trivial) (wk_w (fun v => 100 ^ (rk v + 1)) [(q, 8, jn_t A B q)] + 1) [(q, 8, jn_t A B q)] 1 _ _ _ trivial (by omega) ⟨by simp, tk, fun t _ _ => hR.1 _, trivial⟩ rfl ⟨⟨pk_us, pk_us, ⟨1, by omega, pk_us, tw⟩, jt1, hreg, by omega⟩, trivial⟩ (fun e hs ha ho hl => ⟨1, ?_⟩) (fun c X' F' ha ho hl e1 e2 e3 e4 e5 hck _ => ⟨X'.length + 2, ?_⟩)
  · rw [eX] at e
    exact br_t (by decide) (br_t (by decide) (Hn (by rw [e]; simp) hs ha ho hl))
  · rw [eX] at e1
    rw [e1] at Hy Hn
    have hcode := yo_code hu8 hck
    refine br_f hcode.1 ?_
    by_cases hcu : c = lN (8589934592 + u)
    · exact br_t (hcode.2.mpr hcu) (br_f hcode.1 (Hy (by rw [hcu]; simp) _ _ _ _))
    · refine br_f (fun z => hcu (hcode.2.mp z)) ?_
      refine yc_l hu8 H hR hY hu om1 om2 (us_h_sol hR) (fun v e => us_h_none e 8) (M := 8) (by omega) X' F' ha ho hl _ e2 (by omega) e3 e5 (fun z => Hy (List.mem_cons.mpr (Or.inr z))) (fun z => Hn (fun z2 => ?_))
      rcases List.mem_cons.mp z2 with z3 | z3
      · exact hcu z3.symm
      · exact z z3
end
