/-! the unification's turns, over places; what holds through them -/
def us_SW (A B : List Int64) (ρ : Nat → Nat) : List (Nat × Nat) → Nat
  | [] => 0
  | (a, _) :: S => us_W ρ (jn_t A B a) + us_SW A B ρ S
def us_SB (A B : List Int64) (ρ : Nat → Nat) (M : Nat) : List (Nat × Nat) → Prop
  | [] => True
  | (a, _) :: S => S.length + (us_b (jn_t A B a) + us_m ρ (jn_t A B a)) ≤ M ∧ us_SB A B ρ M S
def us_I (A B : List Int64) (p0 q0 n : Nat) (S : List (Nat × Nat)) (σ : Nat → Option Nat) : Prop :=
  (∃ rk, us_R A B σ rk) ∧ (∀ a b, (a, b) ∈ S → jn_v A B a ∧ jn_v A B b) ∧
  (∀ ρ, us_Ws A B σ ρ → n + us_SW A B ρ S ≤ us_W ρ (jn_t A B p0)) ∧
  (∀ ρ, us_Bs A B σ ρ → us_SB A B ρ (us_b (jn_t A B p0) + us_m ρ (jn_t A B p0)) S) ∧
  (∀ ρ, us_Es A B σ ρ → (∀ a b, (a, b) ∈ S → us_E ρ (jn_t A B a) = us_E ρ (jn_t A B b)) → us_E ρ (jn_t A B p0) = us_E ρ (jn_t A B q0))
def us_ag (J : Nat → Int64) (A B : List Int64) (p q : Nat) (S : List (Nat × Nat)) : List (Nat × Nat) :=
  if p = q ∨ tm_ar (J p) = 0 then S else if tm_ar (J p) = 2 then (p + 1, q + 1) :: (p + 1 + (jn_t A B (p + 1)).length, q + 1 + (jn_t A B (q + 1)).length) :: S else (p + 1, q + 1) :: S
/-- a turn, from two places that were followed -/
def us_st (J : Nat → Int64) (A B : List Int64) (σ : Nat → Option Nat) (p q : Nat) (S : List (Nat × Nat)) : Option (List (Nat × Nat) × (Nat → Option Nat)) :=
  if J p = J q then some (us_ag J A B p q S, σ)
  else if ¬ J p < 8589934592 then (if lN (8589934592 + jn_n (J p)) ∈ us_E (us_h A B σ 8) (jn_t A B q) then none else some (S, us_put σ (jn_n (J p)) q))
  else if J q < 8589934592 then none
  else (if lN (8589934592 + jn_n (J q)) ∈ us_E (us_h A B σ 8) (jn_t A B p) then none else some (S, us_put σ (jn_n (J q)) p))
def us_un (J : Nat → Int64) (A B : List Int64) : Nat → List (Nat × Nat) → (Nat → Option Nat) → Option (Nat → Option Nat)
  | _, [], σ => some σ
  | 0, _ :: _, _ => none
  | f + 1, (p, q) :: S, σ => match us_st J A B σ (us_f J σ 8 p) (us_f J σ 8 q) S with
    | none => none
    | some (S', σ') => us_un J A B f S' σ'
section
variable {J : Nat → Int64} {A B : List Int64} {σ : Nat → Option Nat}
theorem us_put_E {ρ : Nat → List Int64} {v q : Nat} (h0 : σ v = none) (h : us_Es A B (us_put σ v q) ρ) : us_Es A B σ ρ := by
  intro w r e
  refine h w r ?_
  unfold us_put
  rw [if_neg (by intro z; rw [z, h0] at e; exact absurd e (by simp))]
  exact e
theorem us_put_W {ρ : Nat → Nat} {v q : Nat} (h0 : σ v = none) (h : us_Ws A B (us_put σ v q) ρ) : us_Ws A B σ ρ := by
  refine ⟨h.1, fun w r e => h.2 w r ?_⟩
  unfold us_put
  rw [if_neg (by intro z; rw [z, h0] at e; exact absurd e (by simp))]
  exact e
theorem us_put_B {ρ : Nat → Nat} {v q : Nat} (h0 : σ v = none) (h : us_Bs A B (us_put σ v q) ρ) : us_Bs A B σ ρ := by
  intro w r e
  refine h w r ?_
  unfold us_put
  rw [if_neg (by intro z; rw [z, h0] at e; exact absurd e (by simp))]
  exact e
/-- the argument places of two equal symbols -/
theorem us_ag_ok (H : jn_H J A B) {p q : Nat} {S : List (Nat × Nat)} (hp : jn_v A B p) (hq : jn_v A B q) (e : J p = J q) (hS : ∀ a b, (a, b) ∈ S → jn_v A B a ∧ jn_v A B b) :
    (∀ a b, (a, b) ∈ us_ag J A B p q S → jn_v A B a ∧ jn_v A B b) ∧
    (∀ ρ, us_Ws A B σ ρ → 1 + us_SW A B ρ (us_ag J A B p q S) ≤ us_W ρ (jn_t A B p) + us_SW A B ρ S) ∧
    (∀ ρ M, S.length + (us_b (jn_t A B p) + us_m ρ (jn_t A B p)) ≤ M → us_SB A B ρ M S → us_SB A B ρ M (us_ag J A B p q S)) ∧
    (∀ ρ : Nat → List Int64, (∀ a b, (a, b) ∈ us_ag J A B p q S → us_E ρ (jn_t A B a) = us_E ρ (jn_t A B b)) → (∀ a b, (a, b) ∈ S → us_E ρ (jn_t A B a) = us_E ρ (jn_t A B b)) ∧ us_E ρ (jn_t A B p) = us_E ρ (jn_t A B q)) := by
  unfold us_ag
  by_cases h0 : p = q ∨ tm_ar (J p) = 0
  · rw [if_pos h0]
    refine ⟨hS, fun ρ hρ => ?_, fun ρ M _ hM => hM, fun ρ hE => ⟨hE, ?_⟩⟩
    · have := us_W_pos H hρ hp
      omega
    · rcases h0 with h | h
      · rw [h]
      · rw [jn_leaf H hp h, jn_leaf H hq (by rw [← e]; exact h), e]
  · rw [if_neg h0]
    have ha0 : ¬ tm_ar (J p) = 0 := fun z => h0 (Or.inr z)
    have ha2 := tm_ar_le (J p)
    have hsym : J p < 8589934592 := by
      apply Classical.byContradiction
      intro z
      exact ha0 (jn_var (jn_J H hp) z).2.2
    by_cases h2 : tm_ar (J p) = 2
    · rw [if_pos h2]
      obtain ⟨p1, l, pt, pl, pv, pe⟩ := jn_args H hp (m := 1) h2
      obtain ⟨q1, l', qt, ql, qv, qe⟩ := jn_args H hq (m := 1) (by rw [← e]; exact h2)
      have hl : l ≠ [] := by intro z; rw [z, tm_w_nil] at pl; omega
      have hl' : l' ≠ [] := by intro z; rw [z, tm_w_nil] at ql; omega
      have pv := pv hl
      have qv := qv hl'
      have pe := pe rfl
      have qe := qe rfl
      rw [pe] at pt
      rw [qe] at qt
      refine ⟨fun a b hm => ?_, fun ρ hρ => ?_, fun ρ M h1 hM => ?_, fun ρ hE => ?_⟩
      · rcases List.mem_cons.mp hm with z | z
        · cases z; exact ⟨p1, q1⟩
        · rcases List.mem_cons.mp z with z | z
          · cases z; exact ⟨pv, qv⟩
          · exact hS a b z
      · rw [pt]
        show 1 + (us_W ρ (jn_t A B (p + 1)) + (us_W ρ _ + us_SW A B ρ S)) ≤ ((if J p < 8589934592 then 1 else ρ (jn_n (J p))) + us_W ρ _) + us_SW A B ρ S
        rw [us_W_app, if_pos hsym]
        omega
      · rw [pt] at h1
        have hb : us_b (J p :: (jn_t A B (p + 1) ++ jn_t A B (p + 1 + (jn_t A B (p + 1)).length))) = 1 + (us_b (jn_t A B (p + 1)) + us_b (jn_t A B (p + 1 + (jn_t A B (p + 1)).length))) := by
          show (if tm_ar (J p) = 2 then 1 else 0) + us_b _ = _
          rw [if_pos h2, us_b_app]
        have hm : us_m ρ (J p :: (jn_t A B (p + 1) ++ jn_t A B (p + 1 + (jn_t A B (p + 1)).length))) = max (us_m ρ (jn_t A B (p + 1))) (us_m ρ (jn_t A B (p + 1 + (jn_t A B (p + 1)).length))) := by
          show max (if J p < 8589934592 then 0 else ρ (jn_n (J p))) (us_m ρ _) = _
          rw [if_pos hsym, us_m_app]; omega
        rw [hb, hm] at h1
        refine ⟨?_, ?_, hM⟩
        · rw [List.length_cons]; omega
        · omega
      · have e1 := hE _ _ (List.mem_cons.mpr (Or.inl rfl))
        have e2 := hE _ _ (List.mem_cons.mpr (Or.inr (List.mem_cons.mpr (Or.inl rfl))))
        refine ⟨fun a b z => hE a b (List.mem_cons.mpr (Or.inr (List.mem_cons.mpr (Or.inr z)))), ?_⟩
        rw [pt, qt, ← e, us_E_sym hsym, us_E_sym hsym, us_E_app, us_E_app, e1, e2]
    · rw [if_neg h2]
      have h1 : tm_ar (J p) = 0 + 1 := by omega
      obtain ⟨p1, l, pt, pl, pv, _⟩ := jn_args H hp h1
      obtain ⟨q1, l', qt, ql, qv, _⟩ := jn_args H hq (m := 0) (by rw [← e]; exact h1)
      rw [tm_w_0 pl, List.append_nil] at pt
      rw [tm_w_0 ql, List.append_nil] at qt
      refine ⟨fun a b hm => ?_, fun ρ hρ => ?_, fun ρ M h1 hM => ?_, fun ρ hE => ?_⟩
      · rcases List.mem_cons.mp hm with z | z
        · cases z; exact ⟨p1, q1⟩
        · exact hS a b z
      · rw [pt]
        show 1 + (us_W ρ (jn_t A B (p + 1)) + us_SW A B ρ S) ≤ ((if J p < 8589934592 then 1 else ρ (jn_n (J p))) + us_W ρ (jn_t A B (p + 1))) + us_SW A B ρ S
        rw [if_pos hsym]
        omega
      · rw [pt] at h1
        refine ⟨Nat.le_trans ?_ h1, hM⟩
        show _ ≤ S.length + (((if tm_ar (J p) = 2 then 1 else 0) + us_b _) + max (if J p < 8589934592 then 0 else ρ (jn_n (J p))) (us_m ρ _))
        omega
      · have e1 := hE _ _ (List.mem_cons.mpr (Or.inl rfl))
        refine ⟨fun a b z => hE a b (List.mem_cons.mpr (Or.inr z)), ?_⟩
        rw [pt, qt, ← e, us_E_sym hsym, us_E_sym hsym, e1]
theorem us_pres (H : jn_H J A B) {p0 q0 n p q : Nat} {S : List (Nat × Nat)} (hI : us_I A B p0 q0 n ((p, q) :: S) σ) {S' : List (Nat × Nat)} {σ' : Nat → Option Nat} (hst : us_st J A B σ (us_f J σ 8 p) (us_f J σ 8 q) S = some (S', σ')) : us_I A B p0 q0 (n + 1) S' σ' := by
  obtain ⟨⟨rk, hR⟩, hv, hW, hB, hE⟩ := hI
  obtain ⟨hp, hq⟩ := hv p q (List.mem_cons.mpr (Or.inl rfl))
  have hS : ∀ a b, (a, b) ∈ S → jn_v A B a ∧ jn_v A B b := fun a b z => hv a b (List.mem_cons.mpr (Or.inr z))
  obtain ⟨hp', hpn⟩ := us_fol8 H hR hp
  obtain ⟨hq', hqn⟩ := us_fol8 H hR hq
  unfold us_st at hst
  by_cases e : J (us_f J σ 8 p) = J (us_f J σ 8 q)
  · rw [if_pos e] at hst
    injection hst with hst
    injection hst with e1 e2
    subst e1 e2
    obtain ⟨a1, a2, a3, a4⟩ := us_ag_ok (σ := σ) H hp' hq' e hS
    refine ⟨⟨rk, hR⟩, a1, fun ρ hρ => ?_, fun ρ hρ => ?_, fun ρ hρ hall => ?_⟩
    · have h1 := hW ρ hρ
      have h2 := a2 ρ hρ
      have h3 := us_f_W H hR hρ 8 p hp
      have h4 : us_SW A B ρ ((p, q) :: S) = us_W ρ (jn_t A B p) + us_SW A B ρ S := rfl
      omega
    · have h1 := hB ρ hρ
      have h3 := us_f_B H hR hρ 8 p hp
      have h4 := h1.1
      exact a3 ρ _ (by omega) h1.2
    · obtain ⟨b1, b2⟩ := a4 ρ hall
      refine hE ρ hρ (fun a b hm => ?_)
      rcases List.mem_cons.mp hm with z | z
      · cases z
        rw [← us_f_E H hR hρ 8 p hp, ← us_f_E H hR hρ 8 q hq]
        exact b2
      · exact b1 a b z
  · rw [if_neg e] at hst
    have bind : ∀ (v r : Nat), v < 8 → jn_v A B r → σ v = none → ¬ lN (8589934592 + v) ∈ us_E (us_h A B σ 8) (jn_t A B r) → (∀ ρ : Nat → List Int64, us_Es A B (us_put σ v r) ρ → us_E ρ (jn_t A B (us_f J σ 8 p)) = us_E ρ (jn_t A B (us_f J σ 8 q))) → us_I A B p0 q0 (n + 1) S (us_put σ v r) := by
      intro v r hv8 hr h0 hno heq
      refine ⟨us_put_R H hR hv8 hr h0 hno, hS, fun ρ hρ => ?_, fun ρ hρ => ?_, fun ρ hρ hall => ?_⟩
      · have hρ' := us_put_W h0 hρ
        have h1 := hW ρ hρ'
        have h3 := us_W_pos H hρ' hp
        have h4 : us_SW A B ρ ((p, q) :: S) = us_W ρ (jn_t A B p) + us_SW A B ρ S := rfl
        omega
      · exact (hB ρ (us_put_B h0 hρ)).2
      · have hρ' := us_put_E h0 hρ
        refine hE ρ hρ' (fun a b hm => ?_)
        rcases List.mem_cons.mp hm with z | z
        · cases z
          rw [← us_f_E H hR hρ' 8 p hp, ← us_f_E H hR hρ' 8 q hq]
          exact heq ρ hρ
        · exact hall a b z
    by_cases hpv : ¬ J (us_f J σ 8 p) < 8589934592
    · rw [if_pos hpv] at hst
      obtain ⟨v8, ve, va⟩ := jn_var (jn_J H hp') hpv
      split at hst
      · exact absurd hst (by simp)
      · rename_i hno
        injection hst with hst
        injection hst with e1 e2
        subst e1 e2
        refine bind _ _ v8 hq' (hpn hpv) hno (fun ρ hρ => ?_)
        rw [jn_leaf H hp' va, us_E_var hpv]
        have := hρ (jn_n (J (us_f J σ 8 p))) (us_f J σ 8 q) (by unfold us_put; rw [if_pos rfl])
        rw [this]
        exact List.append_nil _
    · rw [if_neg hpv] at hst
      by_cases hqs : J (us_f J σ 8 q) < 8589934592
      · rw [if_pos hqs] at hst
        exact absurd hst (by simp)
      · rw [if_neg hqs] at hst
        obtain ⟨v8, ve, va⟩ := jn_var (jn_J H hq') hqs
        split at hst
        · exact absurd hst (by simp)
        · rename_i hno
          injection hst with hst
          injection hst with e1 e2
          subst e1 e2
          refine bind _ _ v8 hp' (hqn hqs) hno (fun ρ hρ => ?_)
          rw [jn_leaf H hq' va, us_E_var hqs]
          have := hρ (jn_n (J (us_f J σ 8 q))) (us_f J σ 8 p) (by unfold us_put; rw [if_pos rfl])
          rw [this]
          exact (List.append_nil _).symm
end
