/-! ranks; the reference's first and last steps of a writing -/
def rn_c (ra : Nat → Int32) : Nat → Nat
  | 0 => 0
  | k + 1 => rn_c ra k + (if 0 ≤ ra k then 1 else 0)
def rn_ok (ra : Nat → Int32) (c : Nat) : Prop := (∀ v, v < 8 → ra v = -1 ∨ ∃ r, r < c ∧ ra v = nI r) ∧ c = rn_c ra 8
theorem rn_c_le (ra : Nat → Int32) : ∀ k, rn_c ra k ≤ k
  | 0 => Nat.le_refl _
  | k + 1 => by
    have := rn_c_le ra k
    show rn_c ra k + (if 0 ≤ ra k then 1 else 0) ≤ k + 1
    split <;> omega
theorem rn_c_upd {ra : Nat → Int32} {v : Nat} {x : Int32} (h : ¬ 0 ≤ ra v) (hx : 0 ≤ x) : ∀ k, rn_c (upd ra v x) k = rn_c ra k + (if v < k then 1 else 0)
  | 0 => by simp [rn_c]
  | k + 1 => by
    have ih := rn_c_upd h hx k
    show rn_c (upd ra v x) k + (if 0 ≤ upd ra v x k then 1 else 0) = rn_c ra k + (if 0 ≤ ra k then 1 else 0) + (if v < k + 1 then 1 else 0)
    rw [ih]
    by_cases e : k = v
    · subst e
      rw [pk_us, if_pos hx, if_neg h, if_neg (by omega), if_pos (by omega)]
    · rw [pk_un e]
      by_cases h2 : v < k
      · rw [if_pos h2, if_pos (show v < k + 1 by omega)]; omega
      · rw [if_neg h2, if_neg (show ¬ v < k + 1 by omega)]; omega
theorem rn_ok_s {ra : Nat → Int32} {c : Nat} {t : Int64} (h : rn_ok ra c) (ht : jn_k t) : rn_ok (rn_s ra c t).1 (rn_s ra c t).2 := by
  unfold rn_s
  by_cases hs : t < 8589934592
  · rw [if_pos hs]; exact h
  · rw [if_neg hs]
    by_cases h0 : 0 ≤ ra (jn_n t)
    · rw [if_pos h0]; exact h
    · rw [if_neg h0]
      have hv := (jn_var ht hs).1
      have hc8 := rn_c_le ra 8
      have hc := h.2
      refine ⟨fun v hv8 => ?_, ?_⟩
      · show upd ra (jn_n t) (nI c) v = -1 ∨ ∃ r, r < c + 1 ∧ upd ra (jn_n t) (nI c) v = nI r
        by_cases e : v = jn_n t
        · rw [e, pk_us]; exact Or.inr ⟨c, by omega, rfl⟩
        · rw [pk_un e]
          rcases h.1 v hv8 with z | ⟨r, z1, z2⟩
          · exact Or.inl z
          · exact Or.inr ⟨r, by omega, z2⟩
      · show c + 1 = rn_c (upd ra (jn_n t) (nI c)) 8
        rw [rn_c_upd h0 (nI_pos' (by omega)) 8, if_pos hv]; omega
theorem rn_ok_f : ∀ (l : List Int64) (ra : Nat → Int32) (c : Nat), rn_ok ra c → (∀ t, t ∈ l → jn_k t) → rn_ok (rn_f l ra c).1 (rn_f l ra c).2
  | [], ra, c, h, _ => h
  | t :: l, ra, c, h, hk => rn_ok_f l _ _ (rn_ok_s h (hk t (List.mem_cons.mpr (Or.inl rfl)))) (fun x hx => hk x (List.mem_cons.mpr (Or.inr hx)))
theorem rn_ok0 {ra : Nat → Int32} (h : ∀ v, v < 8 → ra v = -1) : rn_ok ra 0 := by
  refine ⟨fun v hv => Or.inl (h v hv), ?_⟩
  have : ∀ k, k ≤ 8 → rn_c ra k = 0 := by
    intro k
    induction k with
    | zero => intro _; rfl
    | succ k ih =>
      intro hk
      show rn_c ra k + (if 0 ≤ ra k then 1 else 0) = 0
      rw [ih (by omega), h k (by omega)]
      decide
  exact (this 8 (by omega)).symm
/-- a rank stays -/
theorem rn_s_stay {ra : Nat → Int32} {c : Nat} {t : Int64} {v : Nat} (h : 0 ≤ ra v) : (rn_s ra c t).1 v = ra v := by
  unfold rn_s
  by_cases hs : t < 8589934592
  · rw [if_pos hs]
  · rw [if_neg hs]
    by_cases h0 : 0 ≤ ra (jn_n t)
    · rw [if_pos h0]
    · rw [if_neg h0]
      show upd ra (jn_n t) (nI c) v = ra v
      rw [pk_un (by intro z; rw [z] at h; exact h0 h)]
theorem rn_f_stay : ∀ (l : List Int64) (ra : Nat → Int32) (c v : Nat), 0 ≤ ra v → (rn_f l ra c).1 v = ra v
  | [], ra, c, v, h => rfl
  | t :: l, ra, c, v, h => by
    have e := rn_s_stay (c := c) (t := t) h
    rw [rn_f, rn_f_stay l _ _ v (by rw [e]; exact h), e]
/-- every variable that came has a rank -/
theorem rn_f_has : ∀ (l : List Int64) (ra : Nat → Int32) (c : Nat), rn_ok ra c → (∀ t, t ∈ l → jn_k t) → ∀ t, t ∈ l → ¬ t < 8589934592 → 0 ≤ (rn_f l ra c).1 (jn_n t)
  | [], ra, c, h, hk, t, ht, hn => absurd ht (by simp)
  | s :: l, ra, c, h, hk, t, ht, hn => by
    have hks := hk s (List.mem_cons.mpr (Or.inl rfl))
    have hc8 := rn_c_le ra 8
    have hcc := h.2
    rcases List.mem_cons.mp ht with e | e
    · subst e
      have h1 : 0 ≤ (rn_s ra c t).1 (jn_n t) := by
        unfold rn_s
        rw [if_neg hn]
        by_cases h0 : 0 ≤ ra (jn_n t)
        · rw [if_pos h0]; exact h0
        · rw [if_neg h0]
          show 0 ≤ upd ra (jn_n t) (nI c) (jn_n t)
          rw [pk_us]; exact nI_pos' (by omega)
      rw [rn_f, rn_f_stay l _ _ _ h1]; exact h1
    · rw [rn_f]
      exact rn_f_has l _ _ (rn_ok_s h hks) (fun x hx => hk x (List.mem_cons.mpr (Or.inr hx))) t e hn
/-- with every variable ranked the names are a map -/
theorem rn_l_map : ∀ (l : List Int64) (ra : Nat → Int32) (c : Nat), (∀ t, t ∈ l → ¬ t < 8589934592 → 0 ≤ ra (jn_n t)) → rn_l l ra c = l.map (rn_n ra) ∧ rn_f l ra c = (ra, c)
  | [], ra, c, _ => ⟨rfl, rfl⟩
  | t :: l, ra, c, h => by
    have e : rn_s ra c t = (ra, c) := by
      unfold rn_s
      by_cases hs : t < 8589934592
      · rw [if_pos hs]
      · rw [if_neg hs, if_pos (h t (List.mem_cons.mpr (Or.inl rfl)) hs)]
    obtain ⟨i1, i2⟩ := rn_l_map l ra c (fun x hx => h x (List.mem_cons.mpr (Or.inr hx)))
    rw [rn_l, rn_f, e]
    exact ⟨by rw [List.map_cons, i1], i2⟩
theorem rn_s_congr {ra ra' : Nat → Int32} {c : Nat} {t : Int64} (ht : jn_k t) (h : ∀ v, v < 8 → ra v = ra' v) : (rn_s ra c t).2 = (rn_s ra' c t).2 ∧ ∀ v, v < 8 → (rn_s ra c t).1 v = (rn_s ra' c t).1 v := by
  unfold rn_s
  by_cases hs : t < 8589934592
  · rw [if_pos hs, if_pos hs]; exact ⟨rfl, h⟩
  · have hv := (jn_var ht hs).1
    rw [if_neg hs, if_neg hs, h _ hv]
    by_cases h0 : 0 ≤ ra' (jn_n t)
    · rw [if_pos h0, if_pos h0]; exact ⟨rfl, h⟩
    · rw [if_neg h0, if_neg h0]
      refine ⟨rfl, fun v hv8 => ?_⟩
      show upd ra (jn_n t) (nI c) v = upd ra' (jn_n t) (nI c) v
      by_cases e : v = jn_n t
      · rw [e, pk_us, pk_us]
      · rw [pk_un e, pk_un e]; exact h v hv8
theorem rn_f_congr : ∀ (l : List Int64) (ra ra' : Nat → Int32) (c : Nat), (∀ t, t ∈ l → jn_k t) → (∀ v, v < 8 → ra v = ra' v) → (rn_f l ra c).2 = (rn_f l ra' c).2 ∧ ∀ v, v < 8 → (rn_f l ra c).1 v = (rn_f l ra' c).1 v
  | [], ra, ra', c, _, h => ⟨rfl, h⟩
  | t :: l, ra, ra', c, hk, h => by
    obtain ⟨e1, e2⟩ := rn_s_congr (c := c) (hk t (List.mem_cons.mpr (Or.inl rfl))) h
    rw [rn_f, rn_f, e1]
    exact rn_f_congr l _ _ _ (fun x hx => hk x (List.mem_cons.mpr (Or.inr hx))) e2
section
variable {f_place f_count f_top f_done f_open f_steps f_shownSteps f_fault f_in f_made f_old f_size f_heads f_fresh : Int32} {a_kind a_value a_all a_split a_toKind a_doneKind a_toValue a_doneValue a_begins a_lacks a_inKind a_leftKind a_madeKind a_oldKind a_resultKind a_inValue a_leftValue a_madeValue a_oldValue a_resultValue a_from a_to a_whole a_known a_bound a_whose a_rank a_one a_two a_oneOf a_twoOf a_headAt a_headOf a_headLeft a_pairs a_first : Nat → Int32}
variable {J : Nat → Int64} {A B : List Int64} {σ : Nat → Option Nat} {rk : Nat → Nat} {i j : Nat} {ω : Nat → Nat} {ρ : Nat → List Int64}
theorem yr_28 {post : SY → Prop} {x : Int32} (H : jn_H J A B) (hR : us_R A B σ rk) (hY : jy_H a_kind a_value i j A B) (hu : yu_s a_bound a_whose i j σ) (hω1 : ∀ v, 1 ≤ ω v) (hω : ∀ v q, σ v = some q → us_W ω (jn_t A B q) + 2 ≤ ω v) (hρ : us_Es A B σ ρ) (hρ0 : ∀ v, σ v = none → ρ v = [lN (8589934592 + v)]) : ∀ (X : List Int64) (F : List (Nat × Nat × List Int64)) (c n : Nat) (ra ha ho hl : Nat → Int32), wk_e ρ F = X → X.length < n → wk_c rk 8 F → yk_F a_kind a_value i j ha ho hl F → rn_ok ra c → (∀ hs ha ho hl, post (f_place, f_count, f_top, f_done, f_open, f_steps, f_shownSteps, f_fault, f_in, f_made, f_old, f_size, hs, f_fresh, a_kind, a_value, a_all, a_split, a_toKind, a_doneKind, a_toValue, a_doneValue, a_begins, a_lacks, a_inKind, a_leftKind, a_madeKind, a_oldKind, a_resultKind, a_inValue, a_leftValue, a_madeValue, a_oldValue, a_resultValue, a_from, a_to, a_whole, a_known, a_bound, a_whose, (rn_f X ra c).1, a_one, a_two, a_oneOf, a_twoOf, ha, ho, hl, a_pairs, a_first)) → wY_rankAll_64 post (wY_rankAll_28 post n) (nI c) f_place f_count f_top f_done f_open f_steps f_shownSteps f_fault f_in f_made f_old f_size (nI F.length) f_fresh a_kind a_value a_all a_split a_toKind a_doneKind a_toValue a_doneValue a_begins a_lacks a_inKind a_leftKind a_madeKind a_oldKind a_resultKind a_inValue a_leftValue a_madeValue a_oldValue a_resultValue a_from a_to a_whole a_known a_bound a_whose ra a_one a_two a_oneOf a_twoOf ha ho hl a_pairs a_first := by
  intro X
  induction X with
  | nil =>
    intro F c n ra ha ho hl hX hn hc hF hra Hp
    obtain ⟨n, rfl⟩ : ∃ n', n = n' + 1 := ⟨n - 1, by omega⟩
    refine yk_next H hR hY hu hω1 hω hρ hρ0 (M := 8) (by omega) (fun _ => True) (fun _ => True) (fun _ _ _ _ => trivial) (fun _ _ _ _ _ _ => trivial) (fun _ _ _ _ _ _ _ _ _ => trivial) (wk_w ω F + 1) F F.length ha ho hl trivial (by omega) hc rfl hF (fun _ hs ha ho hl => br_t (by decide) (Hp hs ha ho hl)) (fun c X' F' ha ho hl e1 => ?_)
    rw [hX] at e1
    exact absurd e1 (by simp)
  | cons t X ih =>
    intro F c n ra ha ho hl hX hn hc hF hra Hp
    obtain ⟨n, rfl⟩ : ∃ n', n = n' + 1 := ⟨n - 1, by omega⟩
    rw [List.length_cons] at hn
    refine yk_next H hR hY hu hω1 hω hρ hρ0 (M := 8) (by omega) (fun _ => True) (fun _ => True) (fun _ _ _ _ => trivial) (fun _ _ _ _ _ _ => trivial) (fun _ _ _ _ _ _ _ _ _ => trivial) (wk_w ω F + 1) F F.length ha ho hl trivial (by omega) hc rfl hF (fun e => by rw [hX] at e; exact absurd e (by simp)) (fun c' X' F' ha ho hl e1 e2 e3 e4 e5 hck _ => ?_)
    rw [hX] at e1
    injection e1 with e1 e1'
    subst e1 e1'
    have hra' := rn_ok_s (c := c) hra hck
    have hc8 := rn_c_le ra 8
    have hcc := hra.2
    rw [rn_f] at Hp
    rcases jn_cases hck with ⟨n', h1, en, hs⟩ | ⟨v, h1, ev, hs, env, _⟩
    · have ecode : yk_code t = nI n' := by unfold yk_code; rw [if_pos hs, en, pk_lT (by omega)]; rfl
      have ers : rn_s ra c t = (ra, c) := by unfold rn_s; rw [if_pos hs]
      rw [ers] at Hp hra'
      rw [ecode]
      refine br_f (nI_pos (by omega)) (pk_le n' 11 (fun _ => ?_) (fun z => absurd z (by omega)))
      exact ih F' c n ra ha ho hl e2 (by omega) e3 e5 hra' Hp
    · have ecode : yk_code t = nI (12 + v) := by unfold yk_code; rw [if_neg hs, env]
      have e12 : nI (12 + v) - 12 = nI v := by rw [show (12 : Int32) = nI 12 from rfl, pk_sub (by omega), show 12 + v - 12 = v by omega]
      have hin : vp_in (nI (12 + v) - 12) 8 := by rw [e12]; exact vp_in_nI h1 (by omega)
      have ec : (nI (12 + v) - 12).toNatClampNeg = v := by rw [e12]; exact nI_clamp (by omega)
      rw [ecode]
      refine br_f (nI_pos (by omega)) (pk_le (12 + v) 11 (fun z => absurd z (by omega)) (fun _ => ⟨hin, ?_⟩))
      rw [ec]
      by_cases h0 : 0 ≤ ra v
      · have ers : rn_s ra c t = (ra, c) := by unfold rn_s; rw [if_neg hs, env, if_pos h0]
        rw [ers] at Hp hra'
        exact br_t h0 (ih F' c n ra ha ho hl e2 (by omega) e3 e5 hra' Hp)
      · have ers : rn_s ra c t = (upd ra v (nI c), c + 1) := by unfold rn_s; rw [if_neg hs, env, if_neg h0]
        rw [ers] at Hp hra'
        refine br_f h0 (nm_r (nI_1 c) ⟨hin, nm_r (e' := upd ra v (nI c)) (by rw [(tk_nb (by omega)).1]) ?_⟩)
        exact ih F' (c + 1) n (upd ra v (nI c)) ha ho hl e2 (by omega) e3 e5 hra' Hp
theorem yr_4 {post : SY → Prop} {x1 : Int32} : ∀ (d k n : Nat) (ra : Nat → Int32), k + d = 8 → (∀ v, v < k → ra v = -1) → d < n → (∀ ra' : Nat → Int32, (∀ v, v < 8 → ra' v = -1) → wpY_next (fun r u => match u with | (f_place0, f_count0, f_top0, f_done0, f_open0, f_steps0, f_shownSteps0, f_fault0, f_in0, f_made0, f_old0, f_size0, f_heads0, f_fresh0, a_kind0, a_value0, a_all0, a_split0, a_toKind0, a_doneKind0, a_toValue0, a_doneValue0, a_begins0, a_lacks0, a_inKind0, a_leftKind0, a_madeKind0, a_oldKind0, a_resultKind0, a_inValue0, a_leftValue0, a_madeValue0, a_oldValue0, a_resultValue0, a_from0, a_to0, a_whole0, a_known0, a_bound0, a_whose0, a_rank0, a_one0, a_two0, a_oneOf0, a_twoOf0, a_headAt0, a_headOf0, a_headLeft0, a_pairs0, a_first0) => ∃ n28, wY_rankAll_28 post n28 x1 r f_place0 f_count0 f_top0 f_done0 f_open0 f_steps0 f_shownSteps0 f_fault0 f_in0 f_made0 f_old0 f_size0 f_heads0 f_fresh0 a_kind0 a_value0 a_all0 a_split0 a_toKind0 a_doneKind0 a_toValue0 a_doneValue0 a_begins0 a_lacks0 a_inKind0 a_leftKind0 a_madeKind0 a_oldKind0 a_resultKind0 a_inValue0 a_leftValue0 a_madeValue0 a_oldValue0 a_resultValue0 a_from0 a_to0 a_whole0 a_known0 a_bound0 a_whose0 a_rank0 a_one0 a_two0 a_oneOf0 a_twoOf0 a_headAt0 a_headOf0 a_headLeft0 a_pairs0 a_first0) (f_place, f_count, f_top, f_done, f_open, f_steps, f_shownSteps, f_fault, f_in, f_made, f_old, f_size, f_heads, f_fresh, a_kind, a_value, a_all, a_split, a_toKind, a_doneKind, a_toValue, a_doneValue, a_begins, a_lacks, a_inKind, a_leftKind, a_madeKind, a_oldKind, a_resultKind, a_inValue, a_leftValue, a_madeValue, a_oldValue, a_resultValue, a_from, a_to, a_whole, a_known, a_bound, a_whose, ra', a_one, a_two, a_oneOf, a_twoOf, a_headAt, a_headOf, a_headLeft, a_pairs, a_first)) → wY_rankAll_4 post x1 f_place f_count f_top f_done f_open f_steps f_shownSteps f_fault f_in f_made f_old f_size f_heads f_fresh n (nI k) a_kind a_value a_all a_split a_toKind a_doneKind a_toValue a_doneValue a_begins a_lacks a_inKind a_leftKind a_madeKind a_oldKind a_resultKind a_inValue a_leftValue a_madeValue a_oldValue a_resultValue a_from a_to a_whole a_known a_bound a_whose ra a_one a_two a_oneOf a_twoOf a_headAt a_headOf a_headLeft a_pairs a_first
  | 0, k, n, ra, hk, hm, hn, H => by
    obtain ⟨n, rfl⟩ : ∃ n', n = n' + 1 := ⟨n - 1, by omega⟩
    exact pk_le 8 k (fun _ => H ra (fun v hv => hm v (by omega))) (fun z => absurd z (by omega))
  | d + 1, k, n, ra, hk, hm, hn, H => by
    obtain ⟨n, rfl⟩ : ∃ n', n = n' + 1 := ⟨n - 1, by omega⟩
    refine pk_le 8 k (fun z => absurd z (by omega)) (fun _ => ⟨vp_in_nI (by omega) (by omega), nm_r (e' := upd ra k (-1)) (by rw [nI_clamp (by omega), show vp_nar .byte (-1) = -1 by rw [vp_nar_byte]; decide]) (nm_r (nI_1 k) ?_)⟩)
    refine yr_4 d (k + 1) n _ (by omega) (fun v hv => ?_) (by omega) H
    by_cases e : v = k
    · rw [e, pk_us]
    · rw [pk_un e]; exact hm v (by omega)
theorem yr_rank {post : SY → Prop} {p : Nat} {l : List Int64} {ha ho hl : Nat → Int32} (H : jn_H J A B) (hR : us_R A B σ rk) (hY : jy_H a_kind a_value i j A B) (hu : yu_s a_bound a_whose i j σ) (hω1 : ∀ v, 1 ≤ ω v) (hω : ∀ v q, σ v = some q → us_W ω (jn_t A B q) + 2 ≤ ω v) (hρ : us_Es A B σ ρ) (hρ0 : ∀ v, σ v = none → ρ v = [lN (8589934592 + v)]) (hlk : ∀ t, t ∈ l → jn_k t) (hF : yk_F a_kind a_value i j ha ho hl [(p, 8, l)]) (Hp : ∀ (hs : Int32) (ra ha ho hl : Nat → Int32), (∃ ra0 : Nat → Int32, (∀ v, v < 8 → ra0 v = -1) ∧ ra = (rn_f (us_E ρ l) ra0 0).1) → post (f_place, f_count, f_top, f_done, f_open, f_steps, f_shownSteps, f_fault, f_in, f_made, f_old, f_size, hs, f_fresh, a_kind, a_value, a_all, a_split, a_toKind, a_doneKind, a_toValue, a_doneValue, a_begins, a_lacks, a_inKind, a_leftKind, a_madeKind, a_oldKind, a_resultKind, a_inValue, a_leftValue, a_madeValue, a_oldValue, a_resultValue, a_from, a_to, a_whole, a_known, a_bound, a_whose, ra, a_one, a_two, a_oneOf, a_twoOf, ha, ho, hl, a_pairs, a_first)) : wpY_rankAll post (f_place, f_count, f_top, f_done, f_open, f_steps, f_shownSteps, f_fault, f_in, f_made, f_old, f_size, nI 1, f_fresh, a_kind, a_value, a_all, a_split, a_toKind, a_doneKind, a_toValue, a_doneValue, a_begins, a_lacks, a_inKind, a_leftKind, a_madeKind, a_oldKind, a_resultKind, a_inValue, a_leftValue, a_madeValue, a_oldValue, a_resultValue, a_from, a_to, a_whole, a_known, a_bound, a_whose, a_rank, a_one, a_two, a_oneOf, a_twoOf, ha, ho, hl, a_pairs, a_first) := by
  have eX : wk_e ρ [(p, 8, l)] = us_E ρ l := List.append_nil _
  refine ⟨9, yr_4 8 0 9 a_rank rfl (fun v hv => absurd hv (by omega)) (by omega) (fun ra hra => ?_)⟩
  have hok := rn_ok0 hra
  refine yk_next H hR hY hu hω1 hω hρ hρ0 (M := 8) (by omega) (fun _ => True) (fun _ => True) (fun _ _ _ _ => trivial) (fun _ _ _ _ _ _ => trivial) (fun _ _ _ _ _ _ _ _ _ => trivial) (wk_w ω [(p, 8, l)] + 1) [(p, 8, l)] 1 ha ho hl trivial (by omega) ⟨by simp, hlk, fun t _ _ => hR.1 _, trivial⟩ rfl hF (fun e hs ha ho hl => ⟨1, ?_⟩) (fun t X' F' ha ho hl e1 e2 e3 e4 e5 hck _ => ⟨X'.length + 2, ?_⟩)
  · rw [eX] at e
    refine br_t (by decide) (Hp hs ra ha ho hl ⟨ra, hra, ?_⟩)
    rw [e]; rfl
  · rw [eX] at e1
    have Hp2 : ∀ hs ha ho hl, post (f_place, f_count, f_top, f_done, f_open, f_steps, f_shownSteps, f_fault, f_in, f_made, f_old, f_size, hs, f_fresh, a_kind, a_value, a_all, a_split, a_toKind, a_doneKind, a_toValue, a_doneValue, a_begins, a_lacks, a_inKind, a_leftKind, a_madeKind, a_oldKind, a_resultKind, a_inValue, a_leftValue, a_madeValue, a_oldValue, a_resultValue, a_from, a_to, a_whole, a_known, a_bound, a_whose, (rn_f X' (rn_s ra 0 t).1 (rn_s ra 0 t).2).1, a_one, a_two, a_oneOf, a_twoOf, ha, ho, hl, a_pairs, a_first) := fun hs ha ho hl => Hp hs _ ha ho hl ⟨ra, hra, by rw [e1, rn_f]⟩
    have hra' := rn_ok_s (c := 0) hok hck
    rcases jn_cases hck with ⟨n', h1, en, hs⟩ | ⟨v, h1, ev, hs, env, _⟩
    · have ecode : yk_code t = nI n' := by unfold yk_code; rw [if_pos hs, en, pk_lT (by omega)]; rfl
      have ers : rn_s ra 0 t = (ra, 0) := by unfold rn_s; rw [if_pos hs]
      rw [ers] at Hp2 hra'
      rw [ecode]
      refine br_f (nI_pos (by omega)) (pk_le n' 11 (fun _ => ?_) (fun z => absurd z (by omega)))
      rw [← nI_0]
      exact yr_28 (x := 0) H hR hY hu hω1 hω hρ hρ0 X' F' 0 _ ra ha ho hl e2 (by omega) e3 e5 hra' Hp2
    · have ecode : yk_code t = nI (12 + v) := by unfold yk_code; rw [if_neg hs, env]
      have e12 : nI (12 + v) - 12 = nI v := by rw [show (12 : Int32) = nI 12 from rfl, pk_sub (by omega), show 12 + v - 12 = v by omega]
      have hin : vp_in (nI (12 + v) - 12) 8 := by rw [e12]; exact vp_in_nI h1 (by omega)
      have ec : (nI (12 + v) - 12).toNatClampNeg = v := by rw [e12]; exact nI_clamp (by omega)
      have h0 : ¬ 0 ≤ ra v := by rw [hra v h1]; decide
      have ers : rn_s ra 0 t = (upd ra v (nI 0), 0 + 1) := by unfold rn_s; rw [if_neg hs, env, if_neg h0]
      rw [ers] at Hp2 hra'
      rw [ecode]
      refine br_f (nI_pos (by omega)) (pk_le (12 + v) 11 (fun z => absurd z (by omega)) (fun _ => ⟨hin, ?_⟩))
      rw [ec]
      refine br_f h0 (nm_r (nI_1 0) ⟨hin, nm_r (e' := upd ra v (nI 0)) (by rw [show vp_nar .byte ((0 : Int32).toInt8.toInt32) = nI 0 from (tk_nb (n := 0) (by omega)).1]) ?_⟩)
      exact yr_28 (x := 0) H hR hY hu hω1 hω hρ hρ0 X' F' 1 _ _ ha ho hl e2 (by omega) e3 e5 hra' Hp2
theorem yw_write0 {post : Int32 → SY → Prop} {p : Nat} {l : List Int64} {x2 x3 : Int32} {ha ho hl : Nat → Int32} (H : jn_H J A B) (hR : us_R A B σ rk) (hY : jy_H a_kind a_value i j A B) (hu : yu_s a_bound a_whose i j σ) (hω1 : ∀ v, 1 ≤ ω v) (hω : ∀ v q, σ v = some q → us_W ω (jn_t A B q) + 2 ≤ ω v) (hρ : us_Es A B σ ρ) (hρ0 : ∀ v, σ v = none → ρ v = [lN (8589934592 + v)]) (hlk : ∀ t, t ∈ l → jn_k t) (hpl : p + l.length ≤ 91) (hF : yk_F a_kind a_value i j ha ho hl [(p, 8, l)]) (Hp : ∀ hs ha ho hl ik iv nin, nin = nI ((us_E ρ l).take 31).length → hd_y (fun _ => 0) (yw_v a_rank) ik iv 0 ((us_E ρ l).take 31) → post (if (us_E ρ l).length ≤ 30 then 1 else 0) (f_place, f_count, f_top, f_done, f_open, f_steps, f_shownSteps, f_fault, nin, f_made, f_old, f_size, hs, f_fresh, a_kind, a_value, a_all, a_split, a_toKind, a_doneKind, a_toValue, a_doneValue, a_begins, a_lacks, ik, a_leftKind, a_madeKind, a_oldKind, a_resultKind, iv, a_leftValue, a_madeValue, a_oldValue, a_resultValue, a_from, a_to, a_whole, a_known, a_bound, a_whose, a_rank, a_one, a_two, a_oneOf, a_twoOf, ha, ho, hl, a_pairs, a_first)) : wpY_write post (f_place, f_count, f_top, f_done, f_open, f_steps, f_shownSteps, f_fault, f_in, f_made, f_old, f_size, nI 1, f_fresh, a_kind, a_value, a_all, a_split, a_toKind, a_doneKind, a_toValue, a_doneValue, a_begins, a_lacks, a_inKind, a_leftKind, a_madeKind, a_oldKind, a_resultKind, a_inValue, a_leftValue, a_madeValue, a_oldValue, a_resultValue, a_from, a_to, a_whole, a_known, a_bound, a_whose, a_rank, a_one, a_two, a_oneOf, a_twoOf, ha, ho, hl, a_pairs, a_first) (-1) x2 x3 := by
  have eX : wk_e ρ [(p, 8, l)] = us_E ρ l := List.append_nil _
  refine ⟨34, ?_⟩
  rw [← nI_0]
  refine yw_N H hR hY hu hω1 hω hρ hρ0 (M := 8) (by omega) 31 [(p, 8, l)] [] 34 1 _ _ ha ho hl rfl (by omega) (fun p' _ h2 z => ?_) (Or.inl rfl) ⟨by simp, hlk, fun t _ _ => hR.1 _, trivial⟩ hF trivial (by rw [List.nil_append, eX]; exact Hp)
  have hi := hY.1
  have h1 := jy_plt3 (i := i) (j := j) (p := p') hi hY.2.1 (by omega)
  have := nI_pos (n := jy_p i j p') (by omega)
  rw [z] at this
  exact this (by decide)
theorem yw_writeC {post : Int32 → SY → Prop} {p0 pr : Nat} {RB : List Int64} {x1 x2 x3 : Int32} {ha ho hl : Nat → Int32} (H : jn_H J A B) (hR : us_R A B σ rk) (hY : jy_H a_kind a_value i j A B) (hu : yu_s a_bound a_whose i j σ) (hω1 : ∀ v, 1 ≤ ω v) (hω : ∀ v q, σ v = some q → us_W ω (jn_t A B q) + 2 ≤ ω v) (hρ : us_Es A B σ ρ) (hρ0 : ∀ v, σ v = none → ρ v = [lN (8589934592 + v)]) (hne : ∀ v, ρ v ≠ []) (hp0 : p0 < A.length) (hx1 : x1 = nI (30 * i + p0)) (hx2 : x2 = nI (30 * i + (p0 + (jn_t A B p0).length))) (hpr : 30 ≤ pr) (hpr2 : pr + RB.length ≤ 60) (hx3 : x3 = nI (jy_p i j pr)) (hRB : tm_w RB 1) (hRk : ∀ t, t ∈ RB → jn_k t) (hRy : jy_h a_kind a_value 1 (jy_p i j pr) RB) (hF : yk_F a_kind a_value i j ha ho hl [(0, 8, A)]) (Hp : ∀ hs ha ho hl ik iv nin, nin = nI ((us_E ρ (A.take p0) ++ (us_E ρ RB ++ us_E ρ (A.drop (p0 + (jn_t A B p0).length)))).take 31).length → hd_y (fun _ => 0) (yw_v a_rank) ik iv 0 ((us_E ρ (A.take p0) ++ (us_E ρ RB ++ us_E ρ (A.drop (p0 + (jn_t A B p0).length)))).take 31) → post (if (us_E ρ (A.take p0) ++ (us_E ρ RB ++ us_E ρ (A.drop (p0 + (jn_t A B p0).length)))).length ≤ 30 then 1 else 0) (f_place, f_count, f_top, f_done, f_open, f_steps, f_shownSteps, f_fault, nin, f_made, f_old, f_size, hs, f_fresh, a_kind, a_value, a_all, a_split, a_toKind, a_doneKind, a_toValue, a_doneValue, a_begins, a_lacks, ik, a_leftKind, a_madeKind, a_oldKind, a_resultKind, iv, a_leftValue, a_madeValue, a_oldValue, a_resultValue, a_from, a_to, a_whole, a_known, a_bound, a_whose, a_rank, a_one, a_two, a_oneOf, a_twoOf, ha, ho, hl, a_pairs, a_first)) : wpY_write post (f_place, f_count, f_top, f_done, f_open, f_steps, f_shownSteps, f_fault, f_in, f_made, f_old, f_size, nI 1, f_fresh, a_kind, a_value, a_all, a_split, a_toKind, a_doneKind, a_toValue, a_doneValue, a_begins, a_lacks, a_inKind, a_leftKind, a_madeKind, a_oldKind, a_resultKind, a_inValue, a_leftValue, a_madeValue, a_oldValue, a_resultValue, a_from, a_to, a_whole, a_known, a_bound, a_whose, a_rank, a_one, a_two, a_oneOf, a_twoOf, ha, ho, hl, a_pairs, a_first) x1 x2 x3 := by
  refine ⟨34, ?_⟩
  rw [← nI_0]
  exact yw_C H hR hY hu hω1 hω hρ hρ0 hne hp0 hx1 hx2 hpr hpr2 hx3 hRB hRk hRy rfl 31 [(0, 8, A)] [] (us_E ρ (A.take p0)) 34 _ _ ha ho hl rfl (by omega) ⟨[], 0, 8, by rw [List.drop_zero]; rfl, by omega, by rw [List.drop_zero, Nat.sub_zero]; rfl⟩ ⟨by simp, H.2.2.2.2.2.2.1, fun t _ _ => hR.1 _, trivial⟩ hF trivial Hp
end
