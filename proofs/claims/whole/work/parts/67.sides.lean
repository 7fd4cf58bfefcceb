/-! both sides of a pair: one term each, every variable ranked -/
theorem vd_base {L R : Nat → List Int64} (hG : mc_G L R) {r : Nat} (h : vd_pl L R r = true) : L r ≠ [] ∧ tm_w (L r) 1 ∧ tm_w (R r) 1 ∧ (L r).length + (R r).length ≤ 30 ∧ (L r).length ≤ 29 ∧ (∀ t, t ∈ L r → vd_k t) ∧ (∀ t, t ∈ R r → vd_k t) ∧ ∀ t, t ∈ R r → ¬ t < 8589934592 → t ∈ L r := by
  unfold vd_pl at h
  rw [Bool.and_eq_true, Bool.and_eq_true] at h
  obtain ⟨⟨h1, h2⟩, h3⟩ := h
  have h0 : L r ≠ [] := by
    intro z
    rw [z] at h1
    exact absurd h1 (by decide)
  rcases hG r with z | ⟨g1, g2, g3, g4, g5, g6, g7, g8⟩
  · exact absurd z h0
  · have := tm_w_len _ _ g2
    rw [List.all_eq_true] at h2 h3
    exact ⟨h0, g1, g2, g3, by omega, fun t ht => (vd_p_k (g4 t ht)).mp (h2 t ht), fun t ht => (vd_p_k (g5 t ht)).mp (h3 t ht), g8⟩
theorem vd_B {L R : Nat → List Int64} (hG : mc_G L R) {r : Nat} (h : vd_pl L R r = true) : tm_w ((L r).map vd_h) 1 ∧ tm_w ((R r).map vd_h) 1 ∧ (∀ t, t ∈ (L r).map vd_h → jn_k t) ∧ (∀ t, t ∈ (R r).map vd_h → jn_k t) ∧ ∀ t, t ∈ (R r).map vd_h → ¬ t < 8589934592 → t ∈ (L r).map vd_h := by
  obtain ⟨h0, h1, h2, h3, h4, h5, h6, h7⟩ := vd_base hG h
  refine ⟨vd_map_w vd_h _ _ (fun t ht => (vd_k_h (h5 t ht)).2.1) h1, vd_map_w vd_h _ _ (fun t ht => (vd_k_h (h6 t ht)).2.1) h2, fun t ht => ?_, fun t ht => ?_, fun t ht hn => ?_⟩
  · obtain ⟨s, hs, e⟩ := List.mem_map.mp ht
    rw [← e]; exact (vd_k_h (h5 s hs)).1
  · obtain ⟨s, hs, e⟩ := List.mem_map.mp ht
    rw [← e]; exact (vd_k_h (h6 s hs)).1
  · obtain ⟨s, hs, e⟩ := List.mem_map.mp ht
    rw [← e] at hn ⊢
    have : ¬ s < 8589934592 := fun z => hn ((vd_k_h (h6 s hs)).2.2.mpr z)
    exact List.mem_map.mpr ⟨s, h7 s hs this, rfl⟩
theorem jn_t30 {J : Nat → Int64} {A B : List Int64} (H : jn_H J A B) : jn_t A B 30 = B := by
  unfold jn_t
  have : jn_s A B 30 = B := by unfold jn_s; rw [if_neg (by omega)]; exact List.drop_zero
  rw [this, tm_n_all H.2.1]
  exact List.take_of_length_le (Nat.le_refl _)
/-- what is in an expansion of a list whose variables come in another -/
theorem us_E_sub {ρ : Nat → List Int64} {l m : List Int64} (hlk : ∀ t, t ∈ l → jn_k t) (h : ∀ t, t ∈ l → ¬ t < 8589934592 → t ∈ m) : ∀ z, z ∈ us_E ρ l → ¬ z < 8589934592 → z ∈ us_E ρ m := by
  intro z hz hn
  unfold us_E at hz
  obtain ⟨s, hs, hz⟩ := List.mem_flatMap.mp hz
  by_cases hss : s < 8589934592
  · rw [if_pos hss, List.mem_singleton] at hz
    rw [hz] at hn
    exact absurd hss hn
  · rw [if_neg hss] at hz
    exact us_E_mem (h s hs hss) hss hz
def vd_r2 (A B RB : List Int64) (p : Nat) (σ : Nat → Option Nat) : List Int64 := us_E (us_h A B σ 8) (A.take p) ++ (us_E (us_h A B σ 8) RB ++ us_E (us_h A B σ 8) (A.drop (p + (jn_t A B p).length)))
section
variable {J : Nat → Int64} {A B RA RB : List Int64} {σ : Nat → Option Nat} {rk : Nat → Nat} {p : Nat}
theorem vd_side (H : jn_H J A B) (hR : us_R A B σ rk) (hp : p < A.length) (hE : us_E (us_h A B σ 8) (jn_t A B p) = us_E (us_h A B σ 8) (jn_t A B 30)) (hRA : tm_w RA 1) (hRAk : ∀ t, t ∈ RA → jn_k t) (hRAs : ∀ t, t ∈ RA → ¬ t < 8589934592 → t ∈ A) (hRB : tm_w RB 1) (hRBk : ∀ t, t ∈ RB → jn_k t) (hRBs : ∀ t, t ∈ RB → ¬ t < 8589934592 → t ∈ B) {ra0 : Nat → Int32} (h0 : ∀ v, v < 8 → ra0 v = -1) :
    (∀ t, t ∈ us_E (us_h A B σ 8) A → jn_k t) ∧ (∀ t, t ∈ us_E (us_h A B σ 8) RA → jn_k t) ∧ (∀ t, t ∈ vd_r2 A B RB p σ → jn_k t) ∧
    tm_w (us_E (us_h A B σ 8) RA) 1 ∧ tm_w (vd_r2 A B RB p σ) 1 ∧
    (∀ t, t ∈ us_E (us_h A B σ 8) RA → ¬ t < 8589934592 → ∃ r, r < 8 ∧ (rn_f (us_E (us_h A B σ 8) A) ra0 0).1 (jn_n t) = nI r) ∧
    (∀ t, t ∈ vd_r2 A B RB p σ → ¬ t < 8589934592 → ∃ r, r < 8 ∧ (rn_f (us_E (us_h A B σ 8) A) ra0 0).1 (jn_n t) = nI r) := by
  have hAk := H.2.2.2.2.2.2.1
  have hw := us_h_w H hR 8
  have hρk : ∀ v, v < 8 → ∀ t, t ∈ us_h A B σ 8 v → jn_k t := fun v hv => (hw v hv).2
  have hρw : ∀ v, v < 8 → tm_w (us_h A B σ 8 v) 1 := fun v hv => (hw v hv).1
  have hEA := us_E_k hρk hAk
  have hok := rn_ok_f _ _ _ (rn_ok0 h0) hEA
  have rank : ∀ t, t ∈ us_E (us_h A B σ 8) A → ¬ t < 8589934592 → ∃ r, r < 8 ∧ (rn_f (us_E (us_h A B σ 8) A) ra0 0).1 (jn_n t) = nI r := by
    intro t ht hn
    have h1 := rn_f_has _ _ _ (rn_ok0 h0) hEA t ht hn
    have h8 := rn_c_le (rn_f (us_E (us_h A B σ 8) A) ra0 0).1 8
    rcases hok.1 _ (jn_var (hEA t ht) hn).1 with z | ⟨r, z1, z2⟩
    · rw [z] at h1; exact absurd h1 (by decide)
    · exact ⟨r, by have := hok.2; omega, z2⟩
  have hv : jn_v A B p := Or.inl hp
  obtain ⟨l, r, k, q1, q2, q3, q4, q5, q6, q7, q8, q9⟩ := jn_tm H hv
  have hAl : A.length ≤ 29 := H.2.2.1
  have hsuf : A.drop p = jn_t A B p ++ r := by
    unfold jn_s at q4
    rw [if_pos (by omega)] at q4
    exact q4
  have hrd : A.drop (p + (jn_t A B p).length) = r := by rw [← List.drop_drop, hsuf, List.drop_left]
  have hAs : A = A.take p ++ (jn_t A B p ++ r) := by rw [← hsuf]; exact (List.take_append_drop p A).symm
  have htm : ∀ t, t ∈ A.take p → t ∈ A := fun t ht => List.mem_of_mem_take ht
  have hjm : ∀ t, t ∈ jn_t A B p → t ∈ A := fun t ht => by rw [hAs]; exact List.mem_append.mpr (Or.inr (List.mem_append.mpr (Or.inl ht)))
  have hrm : ∀ t, t ∈ r → t ∈ A := fun t ht => by rw [hAs]; exact List.mem_append.mpr (Or.inr (List.mem_append.mpr (Or.inr ht)))
  have hB30 := jn_t30 H
  have subRB : ∀ z, z ∈ us_E (us_h A B σ 8) RB → ¬ z < 8589934592 → z ∈ us_E (us_h A B σ 8) A := by
    intro z hz hn
    have h1 := us_E_sub hRBk hRBs z hz hn
    have h2 : us_E (us_h A B σ 8) B = us_E (us_h A B σ 8) (jn_t A B p) := (congrArg (us_E (us_h A B σ 8)) hB30).symm.trans hE.symm
    rw [h2] at h1
    exact us_E_sub (fun t ht => hAk t (hjm t ht)) (fun t ht _ => hjm t ht) z h1 hn
  refine ⟨hEA, us_E_k hρk hRAk, fun t ht => ?_, us_E_w hρw _ _ hRAk hRA, ?_, fun t ht hn => rank t (us_E_sub hRAk hRAs t ht hn) hn, fun t ht hn => ?_⟩
  · unfold vd_r2 at ht
    rw [hrd] at ht
    rcases List.mem_append.mp ht with z | z
    · exact us_E_k hρk (fun t ht => hAk t (htm t ht)) t z
    · rcases List.mem_append.mp z with z | z
      · exact us_E_k hρk hRBk t z
      · exact us_E_k hρk (fun t ht => hAk t (hrm t ht)) t z
  · unfold vd_r2
    rw [hrd, ← us_E_app, ← us_E_app]
    refine us_E_w hρw _ _ (fun t ht => ?_) (vd_rep 1 (by rw [← hAs]; exact H.1) q3 hRB)
    rcases List.mem_append.mp ht with z | z
    · exact hAk t (htm t z)
    · rcases List.mem_append.mp z with z | z
      · exact hRBk t z
      · exact hAk t (hrm t z)
  · unfold vd_r2 at ht
    rw [hrd] at ht
    refine rank t ?_ hn
    rcases List.mem_append.mp ht with z | z
    · exact us_E_sub (fun t ht => hAk t (htm t ht)) (fun t ht _ => htm t ht) t z hn
    · rcases List.mem_append.mp z with z | z
      · exact subRB t z hn
      · exact us_E_sub (fun t ht => hAk t (hrm t ht)) (fun t ht _ => hrm t ht) t z hn
/-- a side with its names -/
theorem vd_named {ra : Nat → Int32} {l : List Int64} (hk : ∀ t, t ∈ l → jn_k t) (hr : ∀ t, t ∈ l → ¬ t < 8589934592 → ∃ r, r < 8 ∧ ra (jn_n t) = nI r) (hw : tm_w l 1) : tm_w (l.map (rn_n ra)) 1 ∧ (∀ t, t ∈ l.map (rn_n ra) → tk_t t) ∧ (∀ t, t ∈ l → ¬ t < 8589934592 → 0 ≤ ra (jn_n t)) := by
  refine ⟨vd_map_w _ _ _ (fun t ht => (rn_good (hk t ht) (hr t ht)).1) hw, fun t ht => ?_, fun t ht hn => ?_⟩
  · obtain ⟨s, hs, e⟩ := List.mem_map.mp ht
    rw [← e]; exact (rn_good (hk s hs) (hr s hs)).2.1
  · obtain ⟨r, h8, e⟩ := hr t ht hn
    rw [e]; exact nI_pos' (by omega)
end
section
variable {f_drafted f_faultPlace f_reportedSteps f_resultSize f_sheetSize f_waitingSize f_builtSize f_unfinished f_taken f_keptSize f_stacked f_ranked f_surveyed : Int32} {a_draft a_result a_lefts a_rights a_sheet a_waiting a_built a_kept a_joint : Nat → Int64} {a_leftSize a_ways a_rightSize a_unfinishedStart a_unfinishedLacks a_matchStart a_matchEnd a_unified a_oneStack a_otherStack a_nestedAt a_nestedEnd a_rank a_pairCount a_firstOpen : Nat → Int32}
/-- the sheet is full -/
theorem xk_full {post : SX → Prop} {x y : Int32} (h : ∀ na ne : Nat → Int32, post (f_drafted, f_faultPlace, f_reportedSteps, f_resultSize, nI 31, f_waitingSize, f_builtSize, f_unfinished, f_taken, f_keptSize, f_stacked, f_ranked, f_surveyed, a_draft, a_result, a_lefts, a_leftSize, a_ways, a_rights, a_rightSize, a_sheet, a_waiting, a_built, a_unfinishedStart, a_unfinishedLacks, a_kept, a_matchStart, a_matchEnd, a_joint, a_unified, a_oneStack, a_otherStack, na, ne, a_rank, a_pairCount, a_firstOpen)) : wpX_expand post (f_drafted, f_faultPlace, f_reportedSteps, f_resultSize, nI 31, f_waitingSize, f_builtSize, f_unfinished, f_taken, f_keptSize, f_stacked, f_ranked, f_surveyed, a_draft, a_result, a_lefts, a_leftSize, a_ways, a_rights, a_rightSize, a_sheet, a_waiting, a_built, a_unfinishedStart, a_unfinishedLacks, a_kept, a_matchStart, a_matchEnd, a_joint, a_unified, a_oneStack, a_otherStack, a_nestedAt, a_nestedEnd, a_rank, a_pairCount, a_firstOpen) x y :=
  nm_e (nm_e ⟨1, br_f (by decide) (br_f (by decide) (br_t (by decide) (h _ _)))⟩)
end
