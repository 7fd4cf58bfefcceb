/-! the component: unification, its loop -/
theorem us_un_nil {J : Nat → Int64} {A B : List Int64} {σ : Nat → Option Nat} (f : Nat) : us_un J A B f [] σ = some σ := by cases f <;> rfl
theorem us_un_cons {J : Nat → Int64} {A B : List Int64} {σ : Nat → Option Nat} {p q : Nat} {S : List (Nat × Nat)} (f : Nat) : us_un J A B (f + 1) ((p, q) :: S) σ = match us_st J A B σ (us_f J σ 8 p) (us_f J σ 8 q) S with
    | none => none
    | some (S', σ') => us_un J A B f S' σ' := by
  rw [us_un]
  generalize us_st J A B σ (us_f J σ 8 p) (us_f J σ 8 q) S = o
  cases o with
  | none => rfl
  | some x => obtain ⟨S', σ'⟩ := x; rfl
theorem us_I0 {A B : List Int64} {p0 q0 : Nat} (hp : jn_v A B p0) (hq : jn_v A B q0) : us_I A B p0 q0 0 [(p0, q0)] (fun _ => none) := by
  refine ⟨⟨fun _ => 0, fun _ => Nat.zero_lt_succ 7, fun v q e => absurd e (by simp)⟩, fun a b h => ?_, fun ρ _ => ?_, fun ρ _ => ⟨?_, trivial⟩, fun ρ _ h => h p0 q0 (by simp)⟩
  · rw [List.mem_singleton] at h
    cases h
    exact ⟨hp, hq⟩
  · show 0 + (us_W ρ (jn_t A B p0) + 0) ≤ _
    omega
  · show 0 + _ ≤ _
    omega
theorem xu_put {un : Nat → Int32} {σ : Nat → Option Nat} (h : xu_s un σ) {v q : Nat} : xu_s (upd un v (nI q)) (us_put σ v q) := by
  intro w hw
  unfold us_put
  by_cases e : w = v
  · subst e
    rw [if_pos rfl, pk_us]
  · rw [if_neg e, pk_un e]
    exact h w hw
section
variable {f_drafted f_faultPlace f_reportedSteps f_resultSize f_sheetSize f_waitingSize f_builtSize f_unfinished f_taken f_keptSize f_stacked f_ranked f_surveyed : Int32} {a_draft a_result a_lefts a_rights a_sheet a_waiting a_built a_kept a_joint : Nat → Int64} {a_leftSize a_ways a_rightSize a_unfinishedStart a_unfinishedLacks a_matchStart a_matchEnd a_unified a_oneStack a_otherStack a_nestedAt a_nestedEnd a_rank a_pairCount a_firstOpen : Nat → Int32}
variable {A B : List Int64}
theorem xu_34 {post : Int32 → SX → Prop} {p0 q0 : Nat} (H : jn_H a_joint A B) (h0 : jn_v A B p0) : ∀ (f n : Nat) (S : List (Nat × Nat)) (σ : Nat → Option Nat) (fu : Nat) (one two un : Nat → Int32), us_I A B p0 q0 n S σ → n + f = 10000000 → xs_S one two S → xu_s un σ → f < fu → (∀ σ' un st one two, us_un a_joint A B f S σ = some σ' → (∃ rk, us_R A B σ' rk) → (∀ ρ, us_Es A B σ' ρ → us_E ρ (jn_t A B p0) = us_E ρ (jn_t A B q0)) → xu_s un σ' → post 1 (f_drafted, f_faultPlace, f_reportedSteps, f_resultSize, f_sheetSize, f_waitingSize, f_builtSize, f_unfinished, f_taken, f_keptSize, st, f_ranked, f_surveyed, a_draft, a_result, a_lefts, a_leftSize, a_ways, a_rights, a_rightSize, a_sheet, a_waiting, a_built, a_unfinishedStart, a_unfinishedLacks, a_kept, a_matchStart, a_matchEnd, a_joint, un, one, two, a_nestedAt, a_nestedEnd, a_rank, a_pairCount, a_firstOpen)) → (∀ un st one two, us_un a_joint A B f S σ = none → post 0 (f_drafted, f_faultPlace, f_reportedSteps, f_resultSize, f_sheetSize, f_waitingSize, f_builtSize, f_unfinished, f_taken, f_keptSize, st, f_ranked, f_surveyed, a_draft, a_result, a_lefts, a_leftSize, a_ways, a_rights, a_rightSize, a_sheet, a_waiting, a_built, a_unfinishedStart, a_unfinishedLacks, a_kept, a_matchStart, a_matchEnd, a_joint, un, one, two, a_nestedAt, a_nestedEnd, a_rank, a_pairCount, a_firstOpen)) → wX_unify_34 post fu (nI n) f_drafted f_faultPlace f_reportedSteps f_resultSize f_sheetSize f_waitingSize f_builtSize f_unfinished f_taken f_keptSize (nI S.length) f_ranked f_surveyed a_draft a_result a_lefts a_leftSize a_ways a_rights a_rightSize a_sheet a_waiting a_built a_unfinishedStart a_unfinishedLacks a_kept a_matchStart a_matchEnd a_joint un one two a_nestedAt a_nestedEnd a_rank a_pairCount a_firstOpen := by
  intro f
  induction f with
  | zero =>
    intro n S σ fu one two un hI hn hS hu hf Hy Hn
    obtain ⟨fu, rfl⟩ : ∃ n', fu = n' + 1 := ⟨fu - 1, by omega⟩
    cases S with
    | nil =>
      refine pk_le 10000000 n (fun _ => ?_) (fun z => absurd z (by omega))
      exact Hy σ un _ one two (us_un_nil 0) hI.1 (fun ρ hρ => hI.2.2.2.2 ρ hρ (fun a b h => absurd h (by simp))) hu
    | cons a S =>
      obtain ⟨p, q⟩ := a
      have := (us_turns H h0 hI).1
      omega
  | succ f ih =>
    intro n S σ fu one two un hI hn hS hu hf Hy Hn
    obtain ⟨fu, rfl⟩ : ∃ n', fu = n' + 1 := ⟨fu - 1, by omega⟩
    cases S with
    | nil =>
      have hp := Hy σ un (nI 0) one two (us_un_nil _) hI.1 (fun ρ hρ => hI.2.2.2.2 ρ hρ (fun a b h => absurd h (by simp))) hu
      exact pk_le 10000000 n (fun _ => hp) (fun _ => br_t (by decide) hp)
    | cons a S =>
      obtain ⟨p, q⟩ := a
      have hlim := (us_turns H h0 hI).2
      rw [us_un_cons] at Hy Hn
      have hI0 := hI
      obtain ⟨⟨rk, hR⟩, hv, _⟩ := hI0
      obtain ⟨hp, hq⟩ := hv p q (List.mem_cons.mpr (Or.inl rfl))
      obtain ⟨hp', hpn⟩ := us_fol8 H hR hp
      obtain ⟨hq', hqn⟩ := us_fol8 H hR hq
      have hpl := jn_lt H hp'
      have hql := jn_lt H hq'
      have hin : vp_in (nI S.length) 128 := vp_in_nI (by omega) (by omega)
      have es : (nI S.length).toNatClampNeg = S.length := nI_clamp (by omega)
      refine pk_le 10000000 n (fun z => absurd z (by omega)) (fun _ => pk_le ((p, q) :: S).length 0 (fun z => absurd z (by simp)) (fun _ => ?_) rfl rfl (by rw [List.length_cons]; omega))
      refine nm_r (e' := nI S.length) (nI_pred S.length) ⟨hin, ?_⟩
      refine xf_fol H hR hu (p := p) (by rw [es]; exact hS.1) hp ⟨hin, ?_⟩
      refine xf_fol H hR hu (p := q) (by rw [es]; exact hS.2.1) hq ?_
      refine ⟨vp_in_nI (by omega) (by omega), nm_r (e' := a_joint (us_f a_joint σ 8 p)) (by rw [nI_clamp (by omega)]) ⟨vp_in_nI (by omega) (by omega), nm_r (e' := a_joint (us_f a_joint σ 8 q)) (by rw [nI_clamp (by omega)]) ?_⟩⟩
      have go : ∀ S' σ', us_st a_joint A B σ (us_f a_joint σ 8 p) (us_f a_joint σ 8 q) S = some (S', σ') → ∀ (un' one' two' : Nat → Int32) (st : Int32), st = nI S'.length → xs_S one' two' S' → xu_s un' σ' → wX_unify_34 post fu (nI (n + 1)) f_drafted f_faultPlace f_reportedSteps f_resultSize f_sheetSize f_waitingSize f_builtSize f_unfinished f_taken f_keptSize st f_ranked f_surveyed a_draft a_result a_lefts a_leftSize a_ways a_rights a_rightSize a_sheet a_waiting a_built a_unfinishedStart a_unfinishedLacks a_kept a_matchStart a_matchEnd a_joint un' one' two' a_nestedAt a_nestedEnd a_rank a_pairCount a_firstOpen := by
        intro S' σ' e un' one' two' st est g1 g2
        subst est
        have hI' := us_pres H hI e
        rw [e] at Hy Hn
        exact ih (n + 1) S' σ' fu one' two' un' hI' (by omega) g1 g2 (by omega) Hy Hn
      by_cases hJ : a_joint (us_f a_joint σ 8 p) = a_joint (us_f a_joint σ 8 q)
      · have est : us_st a_joint A B σ (us_f a_joint σ 8 p) (us_f a_joint σ 8 q) S = some (us_ag a_joint A B (us_f a_joint σ 8 p) (us_f a_joint σ 8 q) S, σ) := by
          unfold us_st
          rw [if_pos hJ]
        refine br_t hJ (xw_args H hp' hq' hJ hS.2.2 ?_ (fun st one' two' e1 e2 => nm_r (nI_1 n) (go _ _ est un one' two' st e1 e2 hu)))
        have hI' := us_pres H hI est
        generalize hag : us_ag a_joint A B (us_f a_joint σ 8 p) (us_f a_joint σ 8 q) S = S' at hI'
        cases S' with
        | nil => simp
        | cons a S' =>
          obtain ⟨p2, q2⟩ := a
          have := (us_turns H h0 hI').2
          rw [List.length_cons]; omega
      · refine br_f hJ ?_
        by_cases hps : a_joint (us_f a_joint σ 8 p) < 8589934592
        · refine br_t hps ?_
          by_cases hqs : a_joint (us_f a_joint σ 8 q) < 8589934592
          · refine br_t hqs (Hn _ _ _ _ ?_)
            unfold us_st
            rw [if_neg hJ, if_neg (fun z => z hps), if_pos hqs]
          · refine br_f hqs (xp_put H hR hu (jn_J H hq') hqs (hqn hqs) hp' (fun hno => ?_) (fun hoc => ?_))
            · refine br_f (by decide) (nm_r (nI_1 n) (go S _ ?_ _ _ _ _ rfl hS.2.2 (xu_put hu)))
              unfold us_st
              rw [if_neg hJ, if_neg (fun z => z hps), if_neg hqs, if_neg hno]
            · refine br_t rfl (Hn _ _ _ _ ?_)
              unfold us_st
              rw [if_neg hJ, if_neg (fun z => z hps), if_neg hqs, if_pos hoc]
        · refine br_f hps (xp_put H hR hu (jn_J H hp') hps (hpn hps) hq' (fun hno => ?_) (fun hoc => ?_))
          · refine br_f (by decide) (nm_r (nI_1 n) (go S _ ?_ _ _ _ _ rfl hS.2.2 (xu_put hu)))
            unfold us_st
            rw [if_neg hJ, if_pos hps, if_neg hno]
          · refine br_t rfl (Hn _ _ _ _ ?_)
            unfold us_st
            rw [if_neg hJ, if_pos hps, if_pos hoc]
theorem xu_2 {post : Int32 → SX → Prop} {x1 x2 : Int32} : ∀ (d k n : Nat) (un : Nat → Int32), k + d = 8 → (∀ j, j < k → un j = -1) → d < n → (∀ un' : Nat → Int32, (∀ j, j < 8 → un' j = -1) → wpX_stack (fun u => match u with | (f_drafted0, f_faultPlace0, f_reportedSteps0, f_resultSize0, f_sheetSize0, f_waitingSize0, f_builtSize0, f_unfinished0, f_taken0, f_keptSize0, f_stacked0, f_ranked0, f_surveyed0, a_draft0, a_result0, a_lefts0, a_leftSize0, a_ways0, a_rights0, a_rightSize0, a_sheet0, a_waiting0, a_built0, a_unfinishedStart0, a_unfinishedLacks0, a_kept0, a_matchStart0, a_matchEnd0, a_joint0, a_unified0, a_oneStack0, a_otherStack0, a_nestedAt0, a_nestedEnd0, a_rank0, a_pairCount0, a_firstOpen0) => ∃ n34, wX_unify_34 post n34 0 f_drafted0 f_faultPlace0 f_reportedSteps0 f_resultSize0 f_sheetSize0 f_waitingSize0 f_builtSize0 f_unfinished0 f_taken0 f_keptSize0 f_stacked0 f_ranked0 f_surveyed0 a_draft0 a_result0 a_lefts0 a_leftSize0 a_ways0 a_rights0 a_rightSize0 a_sheet0 a_waiting0 a_built0 a_unfinishedStart0 a_unfinishedLacks0 a_kept0 a_matchStart0 a_matchEnd0 a_joint0 a_unified0 a_oneStack0 a_otherStack0 a_nestedAt0 a_nestedEnd0 a_rank0 a_pairCount0 a_firstOpen0) (f_drafted, f_faultPlace, f_reportedSteps, f_resultSize, f_sheetSize, f_waitingSize, f_builtSize, f_unfinished, f_taken, f_keptSize, 0, f_ranked, f_surveyed, a_draft, a_result, a_lefts, a_leftSize, a_ways, a_rights, a_rightSize, a_sheet, a_waiting, a_built, a_unfinishedStart, a_unfinishedLacks, a_kept, a_matchStart, a_matchEnd, a_joint, un', a_oneStack, a_otherStack, a_nestedAt, a_nestedEnd, a_rank, a_pairCount, a_firstOpen) x1 x2) → wX_unify_2 post x1 x2 f_drafted f_faultPlace f_reportedSteps f_resultSize f_sheetSize f_waitingSize f_builtSize f_unfinished f_taken f_keptSize f_stacked f_ranked f_surveyed n (nI k) a_draft a_result a_lefts a_leftSize a_ways a_rights a_rightSize a_sheet a_waiting a_built a_unfinishedStart a_unfinishedLacks a_kept a_matchStart a_matchEnd a_joint un a_oneStack a_otherStack a_nestedAt a_nestedEnd a_rank a_pairCount a_firstOpen
  | 0, k, n, un, hk, hm, hn, H => by
    obtain ⟨n, rfl⟩ : ∃ n', n = n' + 1 := ⟨n - 1, by omega⟩
    exact pk_le 8 k (fun _ => H un (fun j hj => hm j (by omega))) (fun z => absurd z (by omega))
  | d + 1, k, n, un, hk, hm, hn, H => by
    obtain ⟨n, rfl⟩ : ∃ n', n = n' + 1 := ⟨n - 1, by omega⟩
    refine pk_le 8 k (fun z => absurd z (by omega)) (fun _ => ⟨vp_in_nI (by omega) (by omega), nm_r (e' := upd un k (-1)) (by rw [nI_clamp (by omega)]) (nm_r (nI_1 k) ?_)⟩)
    refine xu_2 d (k + 1) n _ (by omega) (fun j hj => ?_) (by omega) H
    by_cases e : j = k
    · rw [e, pk_us]
    · rw [pk_un e]; exact hm j (by omega)
theorem xu_unify {post : Int32 → SX → Prop} {p0 q0 f : Nat} {x y : Int32} (hf : f = 10000000) (hx : x = nI p0) (hy : y = nI q0) (H : jn_H a_joint A B) (h0 : jn_v A B p0) (h1 : jn_v A B q0) (Hy : ∀ σ' un st one two, us_un a_joint A B f [(p0, q0)] (fun _ => none) = some σ' → (∃ rk, us_R A B σ' rk) → (∀ ρ, us_Es A B σ' ρ → us_E ρ (jn_t A B p0) = us_E ρ (jn_t A B q0)) → xu_s un σ' → post 1 (f_drafted, f_faultPlace, f_reportedSteps, f_resultSize, f_sheetSize, f_waitingSize, f_builtSize, f_unfinished, f_taken, f_keptSize, st, f_ranked, f_surveyed, a_draft, a_result, a_lefts, a_leftSize, a_ways, a_rights, a_rightSize, a_sheet, a_waiting, a_built, a_unfinishedStart, a_unfinishedLacks, a_kept, a_matchStart, a_matchEnd, a_joint, un, one, two, a_nestedAt, a_nestedEnd, a_rank, a_pairCount, a_firstOpen)) (Hn : ∀ un st one two, us_un a_joint A B f [(p0, q0)] (fun _ => none) = none → post 0 (f_drafted, f_faultPlace, f_reportedSteps, f_resultSize, f_sheetSize, f_waitingSize, f_builtSize, f_unfinished, f_taken, f_keptSize, st, f_ranked, f_surveyed, a_draft, a_result, a_lefts, a_leftSize, a_ways, a_rights, a_rightSize, a_sheet, a_waiting, a_built, a_unfinishedStart, a_unfinishedLacks, a_kept, a_matchStart, a_matchEnd, a_joint, un, one, two, a_nestedAt, a_nestedEnd, a_rank, a_pairCount, a_firstOpen)) : wpX_unify post (f_drafted, f_faultPlace, f_reportedSteps, f_resultSize, f_sheetSize, f_waitingSize, f_builtSize, f_unfinished, f_taken, f_keptSize, f_stacked, f_ranked, f_surveyed, a_draft, a_result, a_lefts, a_leftSize, a_ways, a_rights, a_rightSize, a_sheet, a_waiting, a_built, a_unfinishedStart, a_unfinishedLacks, a_kept, a_matchStart, a_matchEnd, a_joint, a_unified, a_oneStack, a_otherStack, a_nestedAt, a_nestedEnd, a_rank, a_pairCount, a_firstOpen) x y := by
  subst hx hy
  refine ⟨9, xu_2 8 0 9 a_unified rfl (fun j hj => absurd hj (by omega)) (by omega) (fun un' hun => ?_)⟩
  refine xw_stack (k := 0) (by omega) ⟨f + 1, ?_⟩
  exact xu_34 H h0 f 0 [(p0, q0)] (fun _ => none) (f + 1) _ _ un' (us_I0 h0 h1) (by omega) ⟨pk_us, pk_us, trivial⟩ (fun v hv => hun v hv) (by omega) Hy Hn
end
