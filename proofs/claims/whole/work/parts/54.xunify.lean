/-! the component: unification -/
def us_rs (A B : List Int64) (σ : Nat → Option Nat) (p : Nat) : Nat → Nat → Prop
  | 0, u => ∃ t, t ∈ jn_t A B p ∧ ¬ t < 8589934592 ∧ jn_n t = u
  | n + 1, u => us_rs A B σ p n u ∨ ∃ w q, us_rs A B σ p n w ∧ σ w = some q ∧ ∃ t, t ∈ jn_t A B q ∧ ¬ t < 8589934592 ∧ jn_n t = u
theorem us_rs_mono {A B : List Int64} {σ : Nat → Option Nat} {p : Nat} : ∀ (d n u : Nat), us_rs A B σ p n u → us_rs A B σ p (n + d) u
  | 0, n, u, h => h
  | d + 1, n, u, h => Or.inl (us_rs_mono d n u h)
theorem us_rs_h {A B : List Int64} {σ : Nat → Option Nat} {p v : Nat} (hv : v < 8) (hk : ∀ w q, σ w = some q → ∀ t, t ∈ jn_t A B q → jn_k t) : ∀ (d n u : Nat), u < 8 → us_rs A B σ p n u → lN (8589934592 + v) ∈ us_h A B σ d u → us_rs A B σ p (n + d) v := by
  have one : ∀ u, u < 8 → lN (8589934592 + v) ∈ [lN (8589934592 + u)] → v = u := by
    intro u hu h
    rw [List.mem_singleton] at h
    have := (pk_lEQ (a := 8589934592 + v) (b := 8589934592 + u) (by omega) (by omega)).mp h
    omega
  intro d
  induction d with
  | zero =>
    intro n u hu h1 h2
    have := one u hu h2
    subst this
    exact h1
  | succ d ih =>
    intro n u hu h1 h2
    cases e : σ u with
    | none =>
      rw [us_h_none e] at h2
      have := one u hu h2
      subst this
      exact us_rs_mono (d + 1) n v h1
    | some q =>
      rw [us_h_some e] at h2
      unfold us_E at h2
      obtain ⟨t, ht, hz⟩ := List.mem_flatMap.mp h2
      by_cases hs : t < 8589934592
      · rw [if_pos hs, List.mem_singleton] at hz
        rw [← hz, tk_lt 8589934592 (by omega)] at hs
        omega
      · rw [if_neg hs] at hz
        have := ih (n + 1) (jn_n t) (jn_var (hk u q e t ht) hs).1 (Or.inr ⟨u, q, h1, e, t, ht, hs, rfl⟩) hz
        rw [show n + 1 + d = n + (d + 1) by omega] at this
        exact this
theorem us_rs_E {A B : List Int64} {σ : Nat → Option Nat} {p : Nat} {ρ : Nat → List Int64} (hρ : us_Es A B σ ρ) : ∀ (n u : Nat), us_rs A B σ p n u → ∀ z, z ∈ ρ u → z ∈ us_E ρ (jn_t A B p)
  | 0, u, h, z, hz => by
    obtain ⟨t, ht, hn, e⟩ := h
    subst e
    exact us_E_mem ht hn hz
  | n + 1, u, h, z, hz => by
    rcases h with h | ⟨w, q, hw, e, t, ht, hn, e2⟩
    · exact us_rs_E hρ n u h z hz
    · subst e2
      refine us_rs_E hρ n w hw z ?_
      rw [hρ w q e]
      exact us_E_mem ht hn hz
def xs_S (one two : Nat → Int32) : List (Nat × Nat) → Prop
  | [] => True
  | (a, b) :: S => one S.length = nI a ∧ two S.length = nI b ∧ xs_S one two S
def xu_s (un : Nat → Int32) (σ : Nat → Option Nat) : Prop := ∀ v, v < 8 → un v = match σ v with
  | none => -1
  | some q => nI q
theorem xs_S_congr {one two one' two' : Nat → Int32} : ∀ {S : List (Nat × Nat)}, (∀ j, j < S.length → one' j = one j ∧ two' j = two j) → xs_S one two S → xs_S one' two' S
  | [], _, _ => trivial
  | (a, b) :: S, h, hh => by
    have h1 := h S.length (by simp)
    refine ⟨h1.1.trans hh.1, h1.2.trans hh.2.1, xs_S_congr (fun j hj => h j ?_) hh.2.2⟩
    rw [List.length_cons]; omega
theorem xs_S_push {one two : Nat → Int32} {S : List (Nat × Nat)} {a b : Nat} (h : xs_S one two S) : xs_S (upd one S.length (nI a)) (upd two S.length (nI b)) ((a, b) :: S) :=
  ⟨pk_us, pk_us, xs_S_congr (fun j hj => ⟨pk_un (by omega), pk_un (by omega)⟩) h⟩
theorem xu_none {un : Nat → Int32} {σ : Nat → Option Nat} (h : xu_s un σ) {v : Nat} (hv : v < 8) (e : σ v = none) : un v = -1 := by
  have := h v hv
  rw [e] at this
  exact this
theorem xu_some {un : Nat → Int32} {σ : Nat → Option Nat} (h : xu_s un σ) {v q : Nat} (hv : v < 8) (e : σ v = some q) : un v = nI q := by
  have := h v hv
  rw [e] at this
  exact this
section
variable {f_drafted f_faultPlace f_reportedSteps f_resultSize f_sheetSize f_waitingSize f_builtSize f_unfinished f_taken f_keptSize f_stacked f_ranked f_surveyed : Int32} {a_draft a_result a_lefts a_rights a_sheet a_waiting a_built a_kept a_joint : Nat → Int64} {a_leftSize a_ways a_rightSize a_unfinishedStart a_unfinishedLacks a_matchStart a_matchEnd a_unified a_oneStack a_otherStack a_nestedAt a_nestedEnd a_rank a_pairCount a_firstOpen : Nat → Int32}
variable {A B : List Int64} {σ : Nat → Option Nat} {rk : Nat → Nat}
theorem xf_l {post : Int32 → Prop} (H : jn_H a_joint A B) (hR : us_R A B σ rk) (hu : xu_s a_unified σ) : ∀ (d k p n : Nat), k + d = 8 → jn_v A B p → d < n → post (nI (us_f a_joint σ d p)) → wX_followed_4 post f_drafted f_faultPlace f_reportedSteps f_resultSize f_sheetSize f_waitingSize f_builtSize f_unfinished f_taken f_keptSize f_stacked f_ranked f_surveyed a_draft a_result a_lefts a_leftSize a_ways a_rights a_rightSize a_sheet a_waiting a_built a_unfinishedStart a_unfinishedLacks a_kept a_matchStart a_matchEnd a_joint a_unified a_oneStack a_otherStack a_nestedAt a_nestedEnd a_rank a_pairCount a_firstOpen n (nI p) (nI k)
  | 0, k, p, n, hk, hp, hn, h => by
    obtain ⟨n, rfl⟩ : ∃ n', n = n' + 1 := ⟨n - 1, by omega⟩
    exact pk_le 8 k (fun _ => h) (fun z => absurd z (by omega))
  | d + 1, k, p, n, hk, hp, hn, h => by
    obtain ⟨n, rfl⟩ : ∃ n', n = n' + 1 := ⟨n - 1, by omega⟩
    have hl := jn_lt H hp
    have hin : vp_in (nI p) 60 := vp_in_nI (by omega) (by omega)
    have hkJ := jn_J H hp
    refine pk_le 8 k (fun z => absurd z (by omega)) (fun _ => ⟨hin, ?_⟩)
    rw [nI_clamp (by omega)]
    by_cases hs : a_joint p < 8589934592
    · rw [us_fixp (us_1_sym hs)] at h
      exact br_t hs h
    · obtain ⟨hv, _, _⟩ := jn_var hkJ hs
      refine br_f hs ⟨hin, ?_⟩
      rw [jn_and7 hkJ hs]
      refine ⟨vp_in_nI hv (by omega), nm_r (e' := a_unified (jn_n (a_joint p))) (by rw [nI_clamp (by omega)]) ?_⟩
      cases e : σ (jn_n (a_joint p)) with
      | none =>
        rw [us_f, us_1_none hs e] at h
        rw [xu_none hu hv e]
        exact br_f (by decide) (nm_r (nI_1 k) (xf_l H hR hu d (k + 1) p n (by omega) hp (by omega) h))
      | some q =>
        rw [us_f, us_1_some hs e] at h
        obtain ⟨_, hq, _⟩ := hR.2 _ q e
        have := jn_lt H hq
        rw [xu_some hu hv e]
        exact br_t (nI_pos' (by omega)) (nm_r (nI_1 k) (xf_l H hR hu d (k + 1) q n (by omega) hq (by omega) h))
theorem xf_fol {post : Int32 → Prop} (H : jn_H a_joint A B) (hR : us_R A B σ rk) (hu : xu_s a_unified σ) {p : Nat} {x : Int32} (hx : x = nI p) (hp : jn_v A B p) (h : post (nI (us_f a_joint σ 8 p))) : wpX_followed post (f_drafted, f_faultPlace, f_reportedSteps, f_resultSize, f_sheetSize, f_waitingSize, f_builtSize, f_unfinished, f_taken, f_keptSize, f_stacked, f_ranked, f_surveyed, a_draft, a_result, a_lefts, a_leftSize, a_ways, a_rights, a_rightSize, a_sheet, a_waiting, a_built, a_unfinishedStart, a_unfinishedLacks, a_kept, a_matchStart, a_matchEnd, a_joint, a_unified, a_oneStack, a_otherStack, a_nestedAt, a_nestedEnd, a_rank, a_pairCount, a_firstOpen) x := by
  subst hx
  exact ⟨9, xf_l H hR hu 8 0 p 9 rfl hp (by omega) h⟩
theorem xj_end {post : Int32 → Prop} (H : jn_H a_joint A B) {p : Nat} {x : Int32} (hx : x = nI p) (hp : jn_v A B p) (h : post (nI (p + (jn_t A B p).length))) : wpX_endOf__joint post (f_drafted, f_faultPlace, f_reportedSteps, f_resultSize, f_sheetSize, f_waitingSize, f_builtSize, f_unfinished, f_taken, f_keptSize, f_stacked, f_ranked, f_surveyed, a_draft, a_result, a_lefts, a_leftSize, a_ways, a_rights, a_rightSize, a_sheet, a_waiting, a_built, a_unfinishedStart, a_unfinishedLacks, a_kept, a_matchStart, a_matchEnd, a_joint, a_unified, a_oneStack, a_otherStack, a_nestedAt, a_nestedEnd, a_rank, a_pairCount, a_firstOpen) x 60 := by
  subst hx
  obtain ⟨l, r, k, q1, q2, q3, q4, q5, q6, q7, _⟩ := jn_tm H hp
  have hl := jn_lt H hp
  obtain ⟨s, s1, s2⟩ := hd_ex a_joint (60 - (p + (jn_t A B p).length)) (p + (jn_t A B p).length)
  exact xe_joint (a := jn_t A B p) (r := s) p 60 (p + (jn_t A B p).length) q3 (hd_app.mpr ⟨q6, s2⟩) (by omega) rfl (by omega) h
theorem xw_stack {post : SX → Prop} {k : Nat} {a b : Int32} (hk : k < 128) (h : post (f_drafted, f_faultPlace, f_reportedSteps, f_resultSize, f_sheetSize, f_waitingSize, f_builtSize, f_unfinished, f_taken, f_keptSize, nI (k + 1), f_ranked, f_surveyed, a_draft, a_result, a_lefts, a_leftSize, a_ways, a_rights, a_rightSize, a_sheet, a_waiting, a_built, a_unfinishedStart, a_unfinishedLacks, a_kept, a_matchStart, a_matchEnd, a_joint, a_unified, upd a_oneStack k a, upd a_otherStack k b, a_nestedAt, a_nestedEnd, a_rank, a_pairCount, a_firstOpen)) : wpX_stack post (f_drafted, f_faultPlace, f_reportedSteps, f_resultSize, f_sheetSize, f_waitingSize, f_builtSize, f_unfinished, f_taken, f_keptSize, nI k, f_ranked, f_surveyed, a_draft, a_result, a_lefts, a_leftSize, a_ways, a_rights, a_rightSize, a_sheet, a_waiting, a_built, a_unfinishedStart, a_unfinishedLacks, a_kept, a_matchStart, a_matchEnd, a_joint, a_unified, a_oneStack, a_otherStack, a_nestedAt, a_nestedEnd, a_rank, a_pairCount, a_firstOpen) a b := by
  have hin : vp_in (nI k) 128 := vp_in_nI hk (by omega)
  have ek : (nI k).toNatClampNeg = k := nI_clamp (by omega)
  refine pk_le 128 k (fun z => absurd z (by omega)) (fun _ => ⟨hin, nm_r (e' := upd a_oneStack k a) (by rw [ek]) ⟨hin, nm_r (e' := upd a_otherStack k b) (by rw [ek]) (nm_r (nI_1 k) h)⟩⟩)
theorem xw_stack2 {post : SX → Prop} {k a' b' : Nat} {a b : Int32} (ha : a = nI a') (hb : b = nI b') (hk : k < 128) (h : post (f_drafted, f_faultPlace, f_reportedSteps, f_resultSize, f_sheetSize, f_waitingSize, f_builtSize, f_unfinished, f_taken, f_keptSize, nI (k + 1), f_ranked, f_surveyed, a_draft, a_result, a_lefts, a_leftSize, a_ways, a_rights, a_rightSize, a_sheet, a_waiting, a_built, a_unfinishedStart, a_unfinishedLacks, a_kept, a_matchStart, a_matchEnd, a_joint, a_unified, upd a_oneStack k (nI a'), upd a_otherStack k (nI b'), a_nestedAt, a_nestedEnd, a_rank, a_pairCount, a_firstOpen)) : wpX_stack post (f_drafted, f_faultPlace, f_reportedSteps, f_resultSize, f_sheetSize, f_waitingSize, f_builtSize, f_unfinished, f_taken, f_keptSize, nI k, f_ranked, f_surveyed, a_draft, a_result, a_lefts, a_leftSize, a_ways, a_rights, a_rightSize, a_sheet, a_waiting, a_built, a_unfinishedStart, a_unfinishedLacks, a_kept, a_matchStart, a_matchEnd, a_joint, a_unified, a_oneStack, a_otherStack, a_nestedAt, a_nestedEnd, a_rank, a_pairCount, a_firstOpen) a b := by
  subst ha hb
  exact xw_stack hk h
theorem xw_args {post : SX → Prop} (H : jn_H a_joint A B) {p q : Nat} {S : List (Nat × Nat)} (hp : jn_v A B p) (hq : jn_v A B q) (e : a_joint p = a_joint q) (hS : xs_S a_oneStack a_otherStack S) (hb : (us_ag a_joint A B p q S).length ≤ 128) (Hp : ∀ st one two, st = nI (us_ag a_joint A B p q S).length → xs_S one two (us_ag a_joint A B p q S) → post (f_drafted, f_faultPlace, f_reportedSteps, f_resultSize, f_sheetSize, f_waitingSize, f_builtSize, f_unfinished, f_taken, f_keptSize, st, f_ranked, f_surveyed, a_draft, a_result, a_lefts, a_leftSize, a_ways, a_rights, a_rightSize, a_sheet, a_waiting, a_built, a_unfinishedStart, a_unfinishedLacks, a_kept, a_matchStart, a_matchEnd, a_joint, a_unified, one, two, a_nestedAt, a_nestedEnd, a_rank, a_pairCount, a_firstOpen)) : wpX_stackArguments post (f_drafted, f_faultPlace, f_reportedSteps, f_resultSize, f_sheetSize, f_waitingSize, f_builtSize, f_unfinished, f_taken, f_keptSize, nI S.length, f_ranked, f_surveyed, a_draft, a_result, a_lefts, a_leftSize, a_ways, a_rights, a_rightSize, a_sheet, a_waiting, a_built, a_unfinishedStart, a_unfinishedLacks, a_kept, a_matchStart, a_matchEnd, a_joint, a_unified, a_oneStack, a_otherStack, a_nestedAt, a_nestedEnd, a_rank, a_pairCount, a_firstOpen) (nI p) (nI q) := by
  have hlp := jn_lt H hp
  have hlq := jn_lt H hq
  refine ⟨vp_in_nI (by omega) (by omega), ?_⟩
  rw [nI_clamp (by omega)]
  refine tk_arX _ ?_
  unfold us_ag at hb Hp
  by_cases hpq : p = q
  · rw [if_pos (Or.inl hpq)] at Hp
    exact br_t (by rw [hpq]) (Hp _ _ _ rfl hS)
  · have hne : ¬ nI p = nI q := by rw [nI_eq (by omega) (by omega)]; exact hpq
    have har := tm_ar_le (a_joint p)
    refine br_f hne (pk_eq (tm_ar (a_joint p)) 0 (fun h0 => ?_) (fun h0 => ?_))
    · rw [if_pos (Or.inr h0)] at Hp
      exact Hp _ _ _ rfl hS
    · rw [if_neg (by rintro (z | z); exact hpq z; exact h0 z)] at Hp hb
      refine pk_eq (tm_ar (a_joint p)) 2 (fun h2 => ?_) (fun h2 => ?_)
      · rw [if_pos h2] at Hp hb
        rw [List.length_cons, List.length_cons] at hb
        obtain ⟨p1, l, pt, pl, pv, pe⟩ := jn_args H hp (m := 1) h2
        obtain ⟨q1, l', qt, ql, qv, qe⟩ := jn_args H hq (m := 1) (by rw [← e]; exact h2)
        refine xj_end H (nI_1 p) p1 ?_
        refine xj_end H (nI_1 q) q1 ?_
        refine xw_stack (by omega) ?_
        refine xw_stack2 (nI_1 p) (nI_1 q) (by omega) (Hp _ _ _ rfl ?_)
        exact xs_S_push (S := (_, _) :: S) (xs_S_push hS)
      · rw [if_neg h2] at Hp hb
        rw [List.length_cons] at hb
        exact xw_stack2 (nI_1 p) (nI_1 q) (by omega) (Hp _ _ _ rfl (xs_S_push hS))
theorem xv_l {post : Int32 → Prop} {e : Nat} (he : e ≤ 60) : ∀ (l : List Int64) (p n : Nat) (x3 : Int32), p + l.length = e → hd_h a_joint p l → (∀ t, t ∈ l → jn_k t) → l.length < n → (∀ y : Int32, (∀ i, i < 8 → (bt y i = true ↔ (bt x3 i = true ∨ ∃ t, t ∈ l ∧ ¬ t < 8589934592 ∧ jn_n t = i))) → post y) → wX_variablesIn_16 post (nI e) f_drafted f_faultPlace f_reportedSteps f_resultSize f_sheetSize f_waitingSize f_builtSize f_unfinished f_taken f_keptSize f_stacked f_ranked f_surveyed a_draft a_result a_lefts a_leftSize a_ways a_rights a_rightSize a_sheet a_waiting a_built a_unfinishedStart a_unfinishedLacks a_kept a_matchStart a_matchEnd a_joint a_unified a_oneStack a_otherStack a_nestedAt a_nestedEnd a_rank a_pairCount a_firstOpen n x3 (nI p)
  | [], p, n, x3, h1, h2, h3, hn, h => by
    obtain ⟨n, rfl⟩ : ∃ n', n = n' + 1 := ⟨n - 1, by omega⟩
    rw [List.length_nil] at h1
    refine pk_le e p (fun _ => h x3 (fun i hi => ⟨fun z => Or.inl z, fun z => ?_⟩)) (fun z => absurd z (by omega))
    rcases z with z | ⟨t, ht, _⟩
    · exact z
    · exact absurd ht (by simp)
  | t :: l, p, n, x3, h1, h2, h3, hn, h => by
    obtain ⟨n, rfl⟩ : ∃ n', n = n' + 1 := ⟨n - 1, by omega⟩
    rw [List.length_cons] at h1 hn
    have hin : vp_in (nI p) 60 := vp_in_nI (by omega) (by omega)
    have hk := h3 t (List.mem_cons.mpr (Or.inl rfl))
    refine pk_le e p (fun z => absurd z (by omega)) (fun _ => ⟨hin, ?_⟩)
    rw [nI_clamp (by omega), h2.1]
    by_cases hs : t < 8589934592
    · refine br_f (Int64.not_le.mpr hs) (nm_r (fb_or0 x3) (nm_r (nI_1 p) (xv_l he l (p + 1) n x3 (by omega) h2.2 (fun x hx => h3 x (List.mem_cons.mpr (Or.inr hx))) (by omega) (fun y hy => h y (fun i hi => ?_)))))
      rw [hy i hi]
      constructor
      · rintro (z | ⟨s, z1, z2, z3⟩)
        · exact Or.inl z
        · exact Or.inr ⟨s, List.mem_cons.mpr (Or.inr z1), z2, z3⟩
      · rintro (z | ⟨s, z1, z2, z3⟩)
        · exact Or.inl z
        · rcases List.mem_cons.mp z1 with e2 | e2
          · rw [e2] at z2; exact absurd hs z2
          · exact Or.inr ⟨s, e2, z2, z3⟩
    · obtain ⟨hv, _, _⟩ := jn_var hk hs
      refine br_t (Int64.not_lt.mp hs) ⟨hin, nm_r (e' := x3 ||| ((1 : Int32) <<< (nI (jn_n t) &&& 31))) (by rw [jn_and7 hk hs]) (nm_r (nI_1 p) (xv_l he l (p + 1) n _ (by omega) h2.2 (fun x hx => h3 x (List.mem_cons.mpr (Or.inr hx))) (by omega) (fun y hy => h y (fun i hi => ?_))))⟩
      rw [hy i hi, fa_or (by omega) (by omega), Bool.or_eq_true, decide_eq_true_iff]
      constructor
      · rintro ((z | z) | ⟨s, z1, z2, z3⟩)
        · exact Or.inl z
        · exact Or.inr ⟨t, by simp, hs, z.symm⟩
        · exact Or.inr ⟨s, List.mem_cons.mpr (Or.inr z1), z2, z3⟩
      · rintro (z | ⟨s, z1, z2, z3⟩)
        · exact Or.inl (Or.inl z)
        · rcases List.mem_cons.mp z1 with e2 | e2
          · rw [e2] at z3; exact Or.inl (Or.inr z3.symm)
          · exact Or.inr ⟨s, e2, z2, z3⟩
theorem xv_in {post : Int32 → Prop} (H : jn_H a_joint A B) {p : Nat} {x : Int32} (hx : x = nI p) (hp : jn_v A B p) (h : ∀ y : Int32, (∀ i, i < 8 → (bt y i = true ↔ ∃ t, t ∈ jn_t A B p ∧ ¬ t < 8589934592 ∧ jn_n t = i)) → post y) : wpX_variablesIn post (f_drafted, f_faultPlace, f_reportedSteps, f_resultSize, f_sheetSize, f_waitingSize, f_builtSize, f_unfinished, f_taken, f_keptSize, f_stacked, f_ranked, f_surveyed, a_draft, a_result, a_lefts, a_leftSize, a_ways, a_rights, a_rightSize, a_sheet, a_waiting, a_built, a_unfinishedStart, a_unfinishedLacks, a_kept, a_matchStart, a_matchEnd, a_joint, a_unified, a_oneStack, a_otherStack, a_nestedAt, a_nestedEnd, a_rank, a_pairCount, a_firstOpen) x := by
  subst hx
  obtain ⟨l, r, k, q1, q2, q3, q4, q5, q6, q7, _⟩ := jn_tm H hp
  have hl := jn_lt H hp
  refine xj_end H rfl hp ⟨(jn_t A B p).length + 1, ?_⟩
  refine xv_l (by omega) (jn_t A B p) p _ 0 rfl q6 q7 (by omega) (fun y hy => h y (fun i hi => ?_))
  rw [hy i hi, b_0]
  simp
theorem xp_bit {x : Int32} {w : Nat} (hw : w < 8) : ((x >>> (nI w &&& 31)) &&& 1) = 1 ↔ bt x w = true := by
  have key : ∀ i, i < 32 → bt ((x >>> (nI w &&& 31)) &&& 1) i = (bt x w && decide (i = 0)) := by
    intro i hi
    rw [b_and, fa_b1 i hi]
    by_cases e : i = 0
    · subst e
      rw [b_sshr w (by omega) x (by omega), if_pos (by omega), Nat.add_zero]
    · rw [decide_eq_false e, Bool.and_false, Bool.and_false]
  constructor
  · intro h
    have := key 0 (by omega)
    rw [h, fa_b1 0 (by omega), decide_eq_true rfl, Bool.and_true] at this
    exact this.symm
  · intro h
    apply b_ext
    intro i hi
    rw [key i hi, fa_b1 i hi, h, Bool.true_and]
theorem xp_bit0 {x : Int32} {w : Nat} (hw : w < 8) : ((x >>> (nI w &&& 31)) &&& 1) = 0 ↔ bt x w = false := by
  have key : ∀ i, i < 32 → bt ((x >>> (nI w &&& 31)) &&& 1) i = (bt x w && decide (i = 0)) := by
    intro i hi
    rw [b_and, fa_b1 i hi]
    by_cases e : i = 0
    · subst e
      rw [b_sshr w (by omega) x (by omega), if_pos (by omega), Nat.add_zero]
    · rw [decide_eq_false e, Bool.and_false, Bool.and_false]
  constructor
  · intro h
    have := key 0 (by omega)
    rw [h, b_0, decide_eq_true rfl, Bool.and_true] at this
    exact this.symm
  · intro h
    apply b_ext
    intro i hi
    rw [key i hi, b_0, h, Bool.false_and]
theorem xp_28 {post : Int32 → SX → Prop} (J18 : Int32 → Int32 → Prop) {x3 x4 : Int32} {k p m : Nat} (H : jn_H a_joint A B) (hR : us_R A B σ rk) (hu : xu_s a_unified σ) (hJ : ∀ y : Int32, (∀ i, i < 8 → us_rs A B σ p (m + 1) i → bt y i = true) → (∀ i, i < 8 → bt y i = true → ∃ n, us_rs A B σ p n i) → J18 y (nI (k + 1))) : ∀ (d w n : Nat) (x5 : Int32), w + d = 8 → (∀ i, i < 8 → us_rs A B σ p m i → bt x5 i = true) → (∀ i, i < 8 → bt x5 i = true → ∃ n, us_rs A B σ p n i) → (∀ u q i, u < w → us_rs A B σ p m u → σ u = some q → i < 8 → (∃ t, t ∈ jn_t A B q ∧ ¬ t < 8589934592 ∧ jn_n t = i) → bt x5 i = true) → d < n → wX_put_28 post J18 x3 x4 (nI k) f_drafted f_faultPlace f_reportedSteps f_resultSize f_sheetSize f_waitingSize f_builtSize f_unfinished f_taken f_keptSize f_stacked f_ranked f_surveyed a_draft a_result a_lefts a_leftSize a_ways a_rights a_rightSize a_sheet a_waiting a_built a_unfinishedStart a_unfinishedLacks a_kept a_matchStart a_matchEnd a_joint a_unified a_oneStack a_otherStack a_nestedAt a_nestedEnd a_rank a_pairCount a_firstOpen n x5 (nI w)
  | 0, w, n, x5, hw, h1, h2, h3, hn => by
    obtain ⟨n, rfl⟩ : ∃ n', n = n' + 1 := ⟨n - 1, by omega⟩
    refine pk_le 8 w (fun _ => nm_r (nI_1 k) (hJ x5 (fun i hi z => ?_) h2)) (fun z => absurd z (by omega))
    rcases z with z | ⟨u, q, z1, z2, z3⟩
    · exact h1 i hi z
    · exact h3 u q i (by have := (hR.2 u q z2).1; omega) z1 z2 hi z3
  | d + 1, w, n, x5, hw, h1, h2, h3, hn => by
    obtain ⟨n, rfl⟩ : ∃ n', n = n' + 1 := ⟨n - 1, by omega⟩
    have ew : (nI w).toNatClampNeg = w := nI_clamp (by omega)
    have hin : vp_in (nI w) 8 := vp_in_nI (by omega) (by omega)
    refine pk_le 8 w (fun z => absurd z (by omega)) (fun _ => ?_)
    have go : ∀ (y : Int32), (∀ i, i < 8 → bt x5 i = true → bt y i = true) → (∀ i, i < 8 → bt y i = true → ∃ n, us_rs A B σ p n i) → (us_rs A B σ p m w → ∀ q i, σ w = some q → i < 8 → (∃ t, t ∈ jn_t A B q ∧ ¬ t < 8589934592 ∧ jn_n t = i) → bt y i = true) → wX_put_28 post J18 x3 x4 (nI k) f_drafted f_faultPlace f_reportedSteps f_resultSize f_sheetSize f_waitingSize f_builtSize f_unfinished f_taken f_keptSize f_stacked f_ranked f_surveyed a_draft a_result a_lefts a_leftSize a_ways a_rights a_rightSize a_sheet a_waiting a_built a_unfinishedStart a_unfinishedLacks a_kept a_matchStart a_matchEnd a_joint a_unified a_oneStack a_otherStack a_nestedAt a_nestedEnd a_rank a_pairCount a_firstOpen n y (nI (w + 1)) := by
      intro y g1 g2 g3
      refine xp_28 J18 H hR hu hJ d (w + 1) n y (by omega) (fun i hi z => g1 i hi (h1 i hi z)) g2 (fun u q i hu' z1 z2 hi z3 => ?_) (by omega)
      by_cases e : u = w
      · subst e; exact g3 z1 q i z2 hi z3
      · exact g1 i hi (h3 u q i (by omega) z1 z2 hi z3)
    by_cases hb : bt x5 w = true
    · refine br_t ((xp_bit (by omega)).mpr hb) ⟨hin, ?_⟩
      rw [ew]
      cases e : σ w with
      | none =>
        rw [xu_none hu (by omega) e]
        exact br_t (by decide) (nm_r (nI_1 w) (go x5 (fun i hi z => z) h2 (fun _ q i z => absurd z (by rw [e]; simp))))
      | some q =>
        obtain ⟨_, hq, _⟩ := hR.2 w q e
        have hlq := jn_lt H hq
        rw [xu_some hu (by omega) e]
        refine br_f (nI_pos (by omega)) ⟨hin, xv_in H rfl hq (fun y hy => nm_e (nm_r (nI_1 w) (go _ (fun i hi z => ?_) (fun i hi z => ?_) (fun _ q' i z hi z2 => ?_))))⟩
        · rw [b_or, z, Bool.true_or]
        · rw [b_or, Bool.or_eq_true] at z
          rcases z with z | z
          · exact h2 i hi z
          · obtain ⟨m', hm'⟩ := h2 w (by omega) hb
            exact ⟨m' + 1, Or.inr ⟨w, q, hm', e, (hy i hi).mp z⟩⟩
        · rw [e] at z
          injection z with z
          subst z
          rw [b_or, (hy i hi).mpr z2, Bool.or_true]
    · refine br_f (fun z => hb ((xp_bit (by omega)).mp z)) (nm_r (nI_1 w) (go x5 (fun i hi z => z) h2 (fun z => absurd (h1 w (by omega) z) hb)))
theorem xp_18 {post : Int32 → SX → Prop} {p v : Nat} (H : jn_H a_joint A B) (hR : us_R A B σ rk) (hu : xu_s a_unified σ) (hv : v < 8) (Hp : ∀ y : Int32, (us_rs A B σ p 8 v → bt y v = true) → (bt y v = true → ∃ n, us_rs A B σ p n v) → (bt y v = false → post 1 (f_drafted, f_faultPlace, f_reportedSteps, f_resultSize, f_sheetSize, f_waitingSize, f_builtSize, f_unfinished, f_taken, f_keptSize, f_stacked, f_ranked, f_surveyed, a_draft, a_result, a_lefts, a_leftSize, a_ways, a_rights, a_rightSize, a_sheet, a_waiting, a_built, a_unfinishedStart, a_unfinishedLacks, a_kept, a_matchStart, a_matchEnd, a_joint, upd a_unified v (nI p), a_oneStack, a_otherStack, a_nestedAt, a_nestedEnd, a_rank, a_pairCount, a_firstOpen)) ∧ (bt y v = true → post 0 (f_drafted, f_faultPlace, f_reportedSteps, f_resultSize, f_sheetSize, f_waitingSize, f_builtSize, f_unfinished, f_taken, f_keptSize, f_stacked, f_ranked, f_surveyed, a_draft, a_result, a_lefts, a_leftSize, a_ways, a_rights, a_rightSize, a_sheet, a_waiting, a_built, a_unfinishedStart, a_unfinishedLacks, a_kept, a_matchStart, a_matchEnd, a_joint, upd a_unified v (nI p), a_oneStack, a_otherStack, a_nestedAt, a_nestedEnd, a_rank, a_pairCount, a_firstOpen)) → True) (Hy : (¬ ∃ n, us_rs A B σ p n v) → post 1 (f_drafted, f_faultPlace, f_reportedSteps, f_resultSize, f_sheetSize, f_waitingSize, f_builtSize, f_unfinished, f_taken, f_keptSize, f_stacked, f_ranked, f_surveyed, a_draft, a_result, a_lefts, a_leftSize, a_ways, a_rights, a_rightSize, a_sheet, a_waiting, a_built, a_unfinishedStart, a_unfinishedLacks, a_kept, a_matchStart, a_matchEnd, a_joint, upd a_unified v (nI p), a_oneStack, a_otherStack, a_nestedAt, a_nestedEnd, a_rank, a_pairCount, a_firstOpen)) (Hn : (us_rs A B σ p 8 v ∨ ∃ n, us_rs A B σ p n v) → post 0 (f_drafted, f_faultPlace, f_reportedSteps, f_resultSize, f_sheetSize, f_waitingSize, f_builtSize, f_unfinished, f_taken, f_keptSize, f_stacked, f_ranked, f_surveyed, a_draft, a_result, a_lefts, a_leftSize, a_ways, a_rights, a_rightSize, a_sheet, a_waiting, a_built, a_unfinishedStart, a_unfinishedLacks, a_kept, a_matchStart, a_matchEnd, a_joint, upd a_unified v (nI p), a_oneStack, a_otherStack, a_nestedAt, a_nestedEnd, a_rank, a_pairCount, a_firstOpen)) (hdec : (∃ n, us_rs A B σ p n v) → us_rs A B σ p 8 v) : ∀ (d k n : Nat) (x5 : Int32), k + d = 8 → (∀ i, i < 8 → us_rs A B σ p k i → bt x5 i = true) → (∀ i, i < 8 → bt x5 i = true → ∃ n, us_rs A B σ p n i) → d < n → wX_put_18 post (nI p) (nI v) f_drafted f_faultPlace f_reportedSteps f_resultSize f_sheetSize f_waitingSize f_builtSize f_unfinished f_taken f_keptSize f_stacked f_ranked f_surveyed a_draft a_result a_lefts a_leftSize a_ways a_rights a_rightSize a_sheet a_waiting a_built a_unfinishedStart a_unfinishedLacks a_kept a_matchStart a_matchEnd a_joint a_unified a_oneStack a_otherStack a_nestedAt a_nestedEnd a_rank a_pairCount a_firstOpen n x5 (nI k)
  | 0, k, n, x5, hk, h1, h2, hn => by
    obtain ⟨n, rfl⟩ : ∃ n', n = n' + 1 := ⟨n - 1, by omega⟩
    have ek : k = 8 := by omega
    subst ek
    refine pk_le 8 8 (fun _ => ⟨vp_in_nI hv (by omega), nm_r (e' := upd a_unified v (nI p)) (by rw [nI_clamp (by omega)]) ?_⟩) (fun z => absurd z (by omega))
    by_cases hb : bt x5 v = true
    · refine br_f (fun z => ?_) (Hn (Or.inr (h2 v hv hb)))
      rw [xp_bit0 hv, hb] at z
      exact absurd z (by decide)
    · refine br_t ((xp_bit0 hv).mpr (by simpa using hb)) (Hy (fun z => hb (h1 v hv (hdec z))))
  | d + 1, k, n, x5, hk, h1, h2, hn => by
    obtain ⟨n, rfl⟩ : ∃ n', n = n' + 1 := ⟨n - 1, by omega⟩
    refine pk_le 8 k (fun z => absurd z (by omega)) (fun _ => ⟨9, ?_⟩)
    exact xp_28 (m := k) (p := p) _ H hR hu (fun y g1 g2 => xp_18 H hR hu hv Hp Hy Hn hdec d (k + 1) n y (by omega) g1 g2 (by omega)) 8 0 9 x5 rfl h1 h2 (fun u q i z => absurd z (by omega)) (by omega)
theorem xp_put {post : Int32 → SX → Prop} (H : jn_H a_joint A B) (hR : us_R A B σ rk) (hu : xu_s a_unified σ) {t : Int64} {p : Nat} (ht : jn_k t) (htn : ¬ t < 8589934592) (h0 : σ (jn_n t) = none) (hp : jn_v A B p) (Hy : ¬ lN (8589934592 + jn_n t) ∈ us_E (us_h A B σ 8) (jn_t A B p) → post 1 (f_drafted, f_faultPlace, f_reportedSteps, f_resultSize, f_sheetSize, f_waitingSize, f_builtSize, f_unfinished, f_taken, f_keptSize, f_stacked, f_ranked, f_surveyed, a_draft, a_result, a_lefts, a_leftSize, a_ways, a_rights, a_rightSize, a_sheet, a_waiting, a_built, a_unfinishedStart, a_unfinishedLacks, a_kept, a_matchStart, a_matchEnd, a_joint, upd a_unified (jn_n t) (nI p), a_oneStack, a_otherStack, a_nestedAt, a_nestedEnd, a_rank, a_pairCount, a_firstOpen)) (Hn : lN (8589934592 + jn_n t) ∈ us_E (us_h A B σ 8) (jn_t A B p) → post 0 (f_drafted, f_faultPlace, f_reportedSteps, f_resultSize, f_sheetSize, f_waitingSize, f_builtSize, f_unfinished, f_taken, f_keptSize, f_stacked, f_ranked, f_surveyed, a_draft, a_result, a_lefts, a_leftSize, a_ways, a_rights, a_rightSize, a_sheet, a_waiting, a_built, a_unfinishedStart, a_unfinishedLacks, a_kept, a_matchStart, a_matchEnd, a_joint, upd a_unified (jn_n t) (nI p), a_oneStack, a_otherStack, a_nestedAt, a_nestedEnd, a_rank, a_pairCount, a_firstOpen)) : wpX_put post (f_drafted, f_faultPlace, f_reportedSteps, f_resultSize, f_sheetSize, f_waitingSize, f_builtSize, f_unfinished, f_taken, f_keptSize, f_stacked, f_ranked, f_surveyed, a_draft, a_result, a_lefts, a_leftSize, a_ways, a_rights, a_rightSize, a_sheet, a_waiting, a_built, a_unfinishedStart, a_unfinishedLacks, a_kept, a_matchStart, a_matchEnd, a_joint, a_unified, a_oneStack, a_otherStack, a_nestedAt, a_nestedEnd, a_rank, a_pairCount, a_firstOpen) t (nI p) := by
  obtain ⟨hv, _, _⟩ := jn_var ht htn
  have hkk : ∀ w q, σ w = some q → ∀ t, t ∈ jn_t A B q → jn_k t := fun w q e => by
    obtain ⟨_, _, _, _, _, _, _, _, _, z, _⟩ := jn_tm H (hR.2 w q e).2.1
    exact z
  have hkp : ∀ t, t ∈ jn_t A B p → jn_k t := by
    obtain ⟨_, _, _, _, _, _, _, _, _, z, _⟩ := jn_tm H hp
    exact z
  have s1 : (∃ n, us_rs A B σ p n (jn_n t)) → lN (8589934592 + jn_n t) ∈ us_E (us_h A B σ 8) (jn_t A B p) := by
    rintro ⟨n, hn⟩
    refine us_rs_E (us_h_sol hR) n _ hn _ ?_
    rw [us_h_none h0]; simp
  have s2 : lN (8589934592 + jn_n t) ∈ us_E (us_h A B σ 8) (jn_t A B p) → us_rs A B σ p 8 (jn_n t) := by
    intro hz
    unfold us_E at hz
    obtain ⟨s, hs, hz⟩ := List.mem_flatMap.mp hz
    by_cases hss : s < 8589934592
    · rw [if_pos hss, List.mem_singleton] at hz
      rw [← hz, tk_lt 8589934592 (by omega)] at hss
      omega
    · rw [if_neg hss] at hz
      have := us_rs_h (p := p) hv hkk 8 0 (jn_n s) (jn_var (hkp s hs) hss).1 ⟨s, hs, hss, rfl⟩ hz
      rwa [Nat.zero_add] at this
  refine nm_r (e' := nI (jn_n t)) (jn_and7 ht htn) (xv_in H rfl hp (fun y hy => ⟨9, ?_⟩))
  exact xp_18 H hR hu hv (fun _ _ _ _ => trivial) (fun z => Hy (fun q => z ⟨8, s2 q⟩)) (fun z => Hn (by rcases z with z | z; exact s1 ⟨8, z⟩; exact s1 z)) (fun z => s2 (s1 z)) 8 0 9 y rfl (fun i hi z => (hy i hi).mpr z) (fun i hi z => ⟨0, (hy i hi).mp z⟩) (by omega)
end
