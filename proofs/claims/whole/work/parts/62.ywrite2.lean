/-! the reference writes an expansion with a part cut out; it ranks the variables -/
section
variable {f_place f_count f_top f_done f_open f_steps f_shownSteps f_fault f_in f_made f_old f_size f_heads f_fresh : Int32} {a_kind a_value a_all a_split a_toKind a_doneKind a_toValue a_doneValue a_begins a_lacks a_inKind a_leftKind a_madeKind a_oldKind a_resultKind a_inValue a_leftValue a_madeValue a_oldValue a_resultValue a_from a_to a_whole a_known a_bound a_whose a_rank a_one a_two a_oneOf a_twoOf a_headAt a_headOf a_headLeft a_pairs a_first : Nat → Int32}
variable {J : Nat → Int64} {A B : List Int64} {σ : Nat → Option Nat} {rk : Nat → Nat} {i j : Nat} {ω : Nat → Nat} {ρ : Nat → List Int64}
theorem wk_e_app {ρ : Nat → List Int64} : ∀ (G F : List (Nat × Nat × List Int64)), wk_e ρ (G ++ F) = wk_e ρ G ++ wk_e ρ F
  | [], F => rfl
  | (p, b, l) :: G, F => by
    show us_E ρ l ++ wk_e ρ (G ++ F) = us_E ρ l ++ wk_e ρ G ++ wk_e ρ F
    rw [wk_e_app G F, List.append_assoc]
def yw_J (ρ : Nat → List Int64) (A : List Int64) (p0 : Nat) (F : List (Nat × Nat × List Int64)) : Prop := ∃ G p b, F = G ++ [(p, b, A.drop p)] ∧ (p < p0 ∨ (p = p0 ∧ wk_e ρ G ≠ []))
def yw_K (A : List Int64) (p0 : Nat) (F : List (Nat × Nat × List Int64)) : Prop := ∃ G p b, F = G ++ [(p, b, A.drop p)] ∧ p ≤ p0
theorem yw_c1 {p0 : Nat} (hA : p0 < A.length) : ∀ p b F, yw_J ρ A p0 ((p, b, []) :: F) → yw_J ρ A p0 F := by
  rintro p b F ⟨G, p', b', e, h⟩
  cases G with
  | nil =>
    rw [List.nil_append] at e
    injection e with e1 e2
    injection e1 with e1 e3
    injection e3 with e3 e4
    have := congrArg List.length e4
    rw [List.length_drop] at this
    simp at this
    omega
  | cons g G =>
    rw [List.cons_append] at e
    injection e with e1 e2
    subst e1
    exact ⟨G, p', b', e2, h⟩
theorem yw_c2 {p0 : Nat} : ∀ p b t l F, yw_J ρ A p0 ((p, b, t :: l) :: F) → yw_K A p0 ((p + 1, b, l) :: F) := by
  rintro p b t l F ⟨G, p', b', e, h⟩
  cases G with
  | nil =>
    rw [List.nil_append] at e
    injection e with e1 e2
    injection e1 with e1 e3
    injection e3 with e3 e4
    subst e1 e3 e2
    have hd : A.drop (p + 1) = l := by rw [← List.drop_drop, ← e4]; rfl
    rcases h with h | h
    · exact ⟨[], p + 1, b, by rw [hd]; rfl, by omega⟩
    · exact absurd rfl h.2
  | cons g G =>
    rw [List.cons_append] at e
    injection e with e1 e2
    exact ⟨(p + 1, b, l) :: G, p', b', by rw [e2]; rfl, by omega⟩
theorem yw_c3 {p0 : Nat} (H : jn_H J A B) (hR : us_R A B σ rk) (hne : ∀ v, ρ v ≠ []) : ∀ p b t l F q, yw_J ρ A p0 ((p, b, t :: l) :: F) → ¬ t < 8589934592 → σ (jn_n t) = some q → yw_J ρ A p0 ((q, rk (jn_n t), jn_t A B q) :: (p + 1, b, l) :: F) := by
  rintro p b t l F q ⟨G, p', b', e, h⟩ hn hq
  have hE : us_E ρ (jn_t A B q) ≠ [] := by
    obtain ⟨l, _, _, q1, _⟩ := jn_tm H (hR.2 _ q hq).2.1
    rw [q1]
    exact us_E_ne hne
  cases G with
  | nil =>
    rw [List.nil_append] at e
    injection e with e1 e2
    injection e1 with e1 e3
    injection e3 with e3 e4
    subst e1 e3 e2
    have hd : A.drop (p + 1) = l := by rw [← List.drop_drop, ← e4]; rfl
    rcases h with h | h
    · refine ⟨[(q, rk (jn_n t), jn_t A B q)], p + 1, b, by rw [hd]; rfl, ?_⟩
      by_cases h2 : p + 1 < p0
      · exact Or.inl h2
      · refine Or.inr ⟨by omega, ?_⟩
        show us_E ρ (jn_t A B q) ++ [] ≠ []
        rw [List.append_nil]; exact hE
    · exact absurd rfl h.2
  | cons g G =>
    rw [List.cons_append] at e
    injection e with e1 e2
    refine ⟨(q, rk (jn_n t), jn_t A B q) :: (p + 1, b, l) :: G, p', b', by rw [e2]; rfl, ?_⟩
    have hX : wk_e ρ ((q, rk (jn_n t), jn_t A B q) :: (p + 1, b, l) :: G) ≠ [] := by
      show us_E ρ (jn_t A B q) ++ _ ≠ []
      simp [hE]
    rcases h with h | h
    · exact Or.inl h
    · exact Or.inr ⟨h.1, hX⟩
/-- what comes ahead of the cut -/
def yw_p (ρ : Nat → List Int64) (A : List Int64) (p0 : Nat) (F : List (Nat × Nat × List Int64)) (X : List Int64) : Prop := ∃ G p b, F = G ++ [(p, b, A.drop p)] ∧ p ≤ p0 ∧ X = wk_e ρ G ++ us_E ρ ((A.drop p).take (p0 - p))
theorem yw_p_e {p0 : Nat} {F : List (Nat × Nat × List Int64)} {X : List Int64} (h : yw_p ρ A p0 F X) : wk_e ρ F = X ++ us_E ρ (A.drop p0) := by
  obtain ⟨G, p, b, e, hp, eX⟩ := h
  subst e eX
  rw [wk_e_app, List.append_assoc, ← us_E_app]
  congr 1
  show us_E ρ (A.drop p) ++ [] = _
  rw [List.append_nil]
  congr 1
  have := (List.take_append_drop (p0 - p) (A.drop p)).symm
  rw [List.drop_drop, show p + (p0 - p) = p0 by omega] at this
  exact this
theorem yw_C {post : Int32 → SY → Prop} {p0 pr : Nat} {RB Z : List Int64} {x1 x2 x3 : Int32} (H : jn_H J A B) (hR : us_R A B σ rk) (hY : jy_H a_kind a_value i j A B) (hu : yu_s a_bound a_whose i j σ) (hω1 : ∀ v, 1 ≤ ω v) (hω : ∀ v q, σ v = some q → us_W ω (jn_t A B q) + 2 ≤ ω v) (hρ : us_Es A B σ ρ) (hρ0 : ∀ v, σ v = none → ρ v = [lN (8589934592 + v)]) (hne : ∀ v, ρ v ≠ []) (hp0 : p0 < A.length) (hx1 : x1 = nI (30 * i + p0)) (hx2 : x2 = nI (30 * i + (p0 + (jn_t A B p0).length))) (hpr : 30 ≤ pr) (hpr2 : pr + RB.length ≤ 60) (hx3 : x3 = nI (jy_p i j pr)) (hRB : tm_w RB 1) (hRk : ∀ t, t ∈ RB → jn_k t) (hRy : jy_h a_kind a_value 1 (jy_p i j pr) RB) (hZ : Z = us_E ρ RB ++ us_E ρ (A.drop (p0 + (jn_t A B p0).length))) : ∀ (d : Nat) (F : List (Nat × Nat × List Int64)) (q X : List Int64) (n : Nat) (ik iv ha ho hl : Nat → Int32), q.length + d = 31 → d + 1 < n → yw_p ρ A p0 F X → wk_c rk 9 F → yk_F a_kind a_value i j ha ho hl F → hd_y (fun _ => 0) (yw_v a_rank) ik iv 0 q → (∀ hs ha ho hl ik iv nin, nin = nI ((q ++ (X ++ Z)).take 31).length → hd_y (fun _ => 0) (yw_v a_rank) ik iv 0 ((q ++ (X ++ Z)).take 31) → post (if (q ++ (X ++ Z)).length ≤ 30 then 1 else 0) (f_place, f_count, f_top, f_done, f_open, f_steps, f_shownSteps, f_fault, nin, f_made, f_old, f_size, hs, f_fresh, a_kind, a_value, a_all, a_split, a_toKind, a_doneKind, a_toValue, a_doneValue, a_begins, a_lacks, ik, a_leftKind, a_madeKind, a_oldKind, a_resultKind, iv, a_leftValue, a_madeValue, a_oldValue, a_resultValue, a_from, a_to, a_whole, a_known, a_bound, a_whose, a_rank, a_one, a_two, a_oneOf, a_twoOf, ha, ho, hl, a_pairs, a_first)) → wY_write_8 post x1 x2 x3 n 1 f_place f_count f_top f_done f_open f_steps f_shownSteps f_fault (nI q.length) f_made f_old f_size (nI F.length) f_fresh a_kind a_value a_all a_split a_toKind a_doneKind a_toValue a_doneValue a_begins a_lacks ik a_leftKind a_madeKind a_oldKind a_resultKind iv a_leftValue a_madeValue a_oldValue a_resultValue a_from a_to a_whole a_known a_bound a_whose a_rank a_one a_two a_oneOf a_twoOf ha ho hl a_pairs a_first := by
  have hAl : A.length ≤ 29 := H.2.2.1
  have hv0 : jn_v A B p0 := Or.inl hp0
  intro d
  induction d with
  | zero =>
    intro F q X n ik iv ha ho hl hd hn hX hc hF hik Hp
    obtain ⟨n, rfl⟩ : ∃ n', n = n' + 1 := ⟨n - 1, by omega⟩
    have et : (q ++ (X ++ Z)).take 31 = q := by rw [xi_take' (by omega), List.take_of_length_le (by omega)]
    refine br_f (by decide) (pk_le 31 q.length (fun _ => yw_191 (by omega) ?_) (fun z => absurd z (by omega)))
    have := Hp (nI F.length) ha ho hl ik iv (nI q.length) (by rw [et]) (by rw [et]; exact hik)
    rw [if_neg (by rw [List.length_append]; omega)] at this
    rw [if_neg (by omega)]
    exact this
  | succ d ih =>
    intro F q X n ik iv ha ho hl hd hn hX hc hF hik Hp
    obtain ⟨n, rfl⟩ : ∃ n', n = n' + 1 := ⟨n - 1, by omega⟩
    refine br_f (by decide) (pk_le 31 q.length (fun z => absurd z (by omega)) (fun _ => ?_))
    have hlim : ∀ F : List (Nat × Nat × List Int64), wk_c rk 9 F → F.length ≤ 10 := by
      intro F hc
      cases F with
      | nil => simp
      | cons a F => obtain ⟨p, b, l⟩ := a; have := hc.1; rw [List.length_cons]; omega
    refine yw_22 (M := 9) (ρ := ρ) (rk := rk) (i := i) (j := j) (fun F => yw_p ρ A p0 F X) (fun p b f F h => ?_) F F.length rfl (hlim F hc) hX hc hF (fun F' g1 g2 g3 g4 g5 => ?_)
    · obtain ⟨G, p', b', e, hp, eX⟩ := h
      cases G with
      | nil => simp at e
      | cons g G =>
        rw [List.cons_append] at e
        injection e with e1 e2
        subst e1
        exact ⟨G, p', b', e2, hp, eX⟩
    · have he := yw_p_e g1
      -- a token ahead of the cut
      have go : yw_J ρ A p0 F' → wY_write_109 post (wY_write_8 post x1 x2 x3 n) x1 x2 x3 f_place f_count f_top f_done f_open f_steps f_shownSteps f_fault (nI q.length) f_made f_old f_size (nI F'.length) f_fresh a_kind a_value a_all a_split a_toKind a_doneKind a_toValue a_doneValue a_begins a_lacks ik a_leftKind a_madeKind a_oldKind a_resultKind iv a_leftValue a_madeValue a_oldValue a_resultValue a_from a_to a_whole a_known a_bound a_whose a_rank a_one a_two a_oneOf a_twoOf ha ho hl a_pairs a_first := by
        intro hJ
        refine yw_109 H hR hY hu hω1 hω hρ hρ0 (M := 9) (by omega) (yw_J ρ A p0) (yw_K A p0) (yw_c1 hp0) yw_c2 (yw_c3 H hR hne) hJ g3 rfl g4 (by omega) hik (fun e => ?_) (fun c X1 F2 ha ho hl ik iv e1 e2 e3 e4 e5 e6 => ?_)
        · rw [he] at e
          have hdr : A.drop p0 ≠ [] := by
            intro z
            have := congrArg List.length z
            rw [List.length_drop] at this
            simp at this
            omega
          cases hdd : A.drop p0 with
          | nil => exact absurd hdd hdr
          | cons t l =>
            rw [hdd] at e
            have := us_E_ne hne (t := t) (l := l)
            simp [this] at e
        · obtain ⟨G2, p2, b2, eF, hp2⟩ := e5
          have hX2 : yw_p ρ A p0 F2 (wk_e ρ G2 ++ us_E ρ ((A.drop p2).take (p0 - p2))) := ⟨G2, p2, b2, eF, hp2, rfl⟩
          have he2 := yw_p_e hX2
          rw [he] at e1
          rw [he2] at e2
          have hXc : X = c :: (wk_e ρ G2 ++ us_E ρ ((A.drop p2).take (p0 - p2))) := by
            rw [← e2, ← List.cons_append] at e1
            exact List.append_cancel_right e1
          have es : q ++ (X ++ Z) = (q ++ [c]) ++ ((wk_e ρ G2 ++ us_E ρ ((A.drop p2).take (p0 - p2))) ++ Z) := by rw [hXc, List.append_assoc]; rfl
          rw [es] at Hp
          exact ih F2 (q ++ [c]) _ n ik iv ha ho hl (by simp; omega) (by omega) hX2 e3 e4 e6 Hp
      obtain ⟨G, p, b, eF, hp, eX⟩ := g1
      cases G with
      | nil =>
        rw [List.nil_append] at eF
        subst eF
        have hh0 := g4.1
        have hat : ha 0 = nI (jy_p i j p) := hh0.1
        have hjp : jy_p i j p = 30 * i + p := if_pos (by omega)
        have hi := hY.1
        refine br_t rfl ?_
        by_cases hpp : p = p0
        · subst hpp
          obtain ⟨m, m1, m2, m3⟩ := hh0.2.2.1
          have m2' : hl 0 = nI m := m2
          obtain ⟨l, r, k, q1, q2, q3, q4, q5, q6, q7, q8, q9⟩ := jn_tm H hv0
          have hsuf : A.drop p = jn_t A B p ++ r := by
            unfold jn_s at q4
            rw [if_pos (by omega)] at q4
            exact q4
          have hrd : A.drop (p + (jn_t A B p).length) = r := by rw [← List.drop_drop, hsuf, List.drop_left]
          have hl8 := q8 (by omega)
          have hmk : m = 1 + k := tm_w_inj _ _ _ m3 (by rw [hsuf]; exact tm_w_app _ _ _ _ q3 q5)
          subst hmk
          have hn0 : ¬ nI (1 + k) ≤ 0 := nI_nle (by omega) (by omega)
          have hprj := jy_plt (i := i) (j := j) hi hY.2.1 (show pr < 60 by
            have := tm_w_len _ _ hRB
            omega)
          have hyp2 : jy_p i j (p + (jn_t A B p).length) = 30 * i + (p + (jn_t A B p).length) := if_pos (by omega)
          refine br_t (by show ha 0 = x1; rw [hat, hx1, hjp]) (br_f (by show ¬ hl 0 ≤ 0; rw [m2']; exact hn0) ?_)
          refine nm_r (e' := upd ha 0 (nI (jy_p i j (p + (jn_t A B p).length)))) (by rw [hx2, ← hyp2, (tk_ns (by rw [hyp2]; omega)).1]) (nm_r (e' := upd hl 0 (nI k)) (by rw [m2', show nI (1 + k) - 1 = nI k from by rw [Nat.add_comm]; exact nI_pred k, (tk_nb (by omega)).1]) ?_)
          refine yk_head (k := 1) (p := pr) (i := i) (j := j) (by omega) (by have := tm_w_len _ _ hRB; omega) hi hY.2.1 hx3 (by unfold jy_o; rw [if_neg (by omega), if_pos (by have := tm_w_len _ _ hRB; omega)]; rfl) ?_
          have hop : jy_o p = 0 := if_pos (by omega)
          have hopr : jy_o pr = 1 := (if_neg (by omega)).trans (if_pos (by have := tm_w_len _ _ hRB; omega))
          have hop2 : jy_o (p + (jn_t A B p).length) = 0 := if_pos (by omega)
          have hjy := hh0.2.2.2.1
          rw [hop, hjp, hsuf] at hjy
          have hjy2 := (jy_app.mp hjy).2
          have hnc : yw_nc i j x1 [(pr, 8, RB), (p + (jn_t A B p).length, 8, r)] := by
            intro p' h1 h2
            have e1 : jy_p i j p' = 30 * i + p' := if_pos (by omega)
            rw [e1, hx1]
            intro z
            have := (nI_eq (by omega) (by omega)).mp z
            have := q3
            have hl1 := tm_w_len _ _ q3
            omega
          have hrk8 : ∀ t : Int64, rk (jn_n t) < 8 := fun t => hR.1 _
          have hrk : ∀ t, t ∈ r → jn_k t := fun t ht => H.2.2.2.2.2.2.1 t (by
            have : t ∈ A.drop p := by rw [hsuf]; exact List.mem_append.mpr (Or.inr ht)
            exact List.mem_of_mem_drop this)
          have hwc : wk_c rk 9 [(pr, 8, RB), (p + (jn_t A B p).length, 8, r)] := ⟨by simp, hRk, fun t _ _ => hrk8 t, by simp, hrk, fun t _ _ => hrk8 t, trivial⟩
          have hyk : yk_F a_kind a_value i j (upd (upd ha 0 (nI (jy_p i j (p + (jn_t A B p).length)))) 1 (nI (jy_p i j pr))) (upd ho 1 (nI (jy_o pr))) (upd (upd hl 0 (nI k)) 1 (nI 1)) [(pr, 8, RB), (p + (jn_t A B p).length, 8, r)] := by
            refine ⟨⟨pk_us, pk_us, ⟨1, by omega, pk_us, hRB⟩, by rw [hopr]; exact hRy, Or.inr hpr, Or.inl hpr2⟩, ⟨?_, ?_, ⟨k, by omega, ?_, q5⟩, ?_, Or.inl (by omega), by omega⟩, trivial⟩
            · show upd (upd ha 0 _) 1 _ 0 = _
              rw [pk_un (by omega)]; exact pk_us
            · show upd ho 1 _ 0 = _
              rw [pk_un (by omega), hop2]
              have : ho 0 = nI (jy_o p) := hh0.2.1
              rw [this, hop]
            · show upd (upd hl 0 _) 1 _ 0 = _
              rw [pk_un (by omega)]; exact pk_us
            · rw [hop2, hyp2, show 30 * i + (p + (jn_t A B p).length) = 30 * i + p + (jn_t A B p).length by omega]
              exact hjy2
          have eX0 : X = [] := by
            rw [eX, show p - p = 0 by omega]
            rfl
          have eZ : wk_e ρ [(pr, 8, RB), (p + (jn_t A B p).length, 8, r)] = X ++ Z := by
            rw [eX0, hZ, hrd]
            show us_E ρ RB ++ (us_E ρ r ++ []) = _
            rw [List.append_nil]; rfl
          rw [← eZ] at Hp
          refine yw_109 H hR hY hu hω1 hω hρ hρ0 (M := 9) (by omega) (yw_nc i j x1) (yw_nc i j x1) yw_k1 yw_k2 (fun p b t l F q h _ _ => yw_k2 p b t l F h) hnc hwc rfl hyk (by omega) hik (fun e hs ha ho hl => ?_) (fun c X1 F2 ha ho hl ik iv e1 e2 e3 e4 e5 e6 => ?_)
          · obtain ⟨n, rfl⟩ : ∃ n', n = n' + 1 := ⟨n - 1, by omega⟩
            refine br_t rfl (yw_191 (by omega) ?_)
            have := Hp hs ha ho hl ik iv (nI q.length) (by rw [e, List.append_nil, List.take_of_length_le (by omega)]) (by rw [e, List.append_nil, List.take_of_length_le (by omega)]; exact hik)
            rw [e, List.append_nil] at this
            exact this
          · have es : q ++ wk_e ρ [(pr, 8, RB), (p + (jn_t A B p).length, 8, r)] = (q ++ [c]) ++ wk_e ρ F2 := by rw [e1, e2, List.append_assoc]; rfl
            rw [es] at Hp
            exact yw_N H hR hY hu hω1 hω hρ hρ0 (M := 9) (by omega) d F2 (q ++ [c]) n 1 ik iv ha ho hl (by simp; omega) (by omega) e5 (Or.inl rfl) e3 e4 e6 Hp
        · refine br_f ?_ (go ⟨[], p, b, rfl, Or.inl (by omega)⟩)
          show ¬ ha 0 = x1
          rw [hat, hx1, hjp]
          intro z
          have := (nI_eq (by omega) (by omega)).mp z
          omega
      | cons g G =>
        have hgl : F'.length = G.length + 2 := by rw [eF]; simp
        have hl10 := hlim F' g3
        refine pk_eq F'.length 1 (fun z => absurd z (by omega)) (fun _ => go ⟨g :: G, p, b, eF, ?_⟩)
        by_cases hpp : p < p0
        · exact Or.inl hpp
        · refine Or.inr ⟨by omega, ?_⟩
          rcases g5 with h | ⟨p3, b3, t3, l3, f3, F3, e3⟩
          · omega
          · rw [e3, List.cons_append] at eF
            injection eF with e4 e5
            rw [← e4]
            show us_E ρ (t3 :: l3) ++ wk_e ρ G ≠ []
            have := us_E_ne hne (t := t3) (l := l3)
            simp [this]
end
