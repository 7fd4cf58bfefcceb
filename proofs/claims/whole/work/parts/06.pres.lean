/-! the machine keeps its invariant, and its measure falls -/
section
variable {P : Int64 → Prop} {L R : Nat → List Int64}
theorem mc_fl_mem {F : List (List Int64 × Nat)} : ∀ x, x ∈ mc_fl F → ∃ p k, (p, k) ∈ F ∧ x ∈ p := by
  induction F with
  | nil => intro x hx; exact absurd hx (by simp [mc_fl])
  | cons a F ih =>
    intro x hx
    obtain ⟨p, k⟩ := a
    rcases List.mem_append.mp (show x ∈ mc_fl F ++ p from hx) with h | h
    · obtain ⟨q, j, h1, h2⟩ := ih x h
      exact ⟨q, j, List.mem_cons.mpr (Or.inr h1), h2⟩
    · exact ⟨p, k, List.mem_cons.mpr (Or.inl rfl), h⟩
theorem mc_fl_len {F : List (List Int64 × Nat)} (h : mc_fo P F) : F.length ≤ (mc_fl F).length := by
  induction F with
  | nil => simp
  | cons a F ih =>
    obtain ⟨p, k⟩ := a
    have h1 := ih (fun q j hq => h q j (List.mem_cons.mpr (Or.inr hq)))
    have h2 := (h p k (List.mem_cons.mpr (Or.inl rfl))).1
    have h3 : 0 < p.length := List.length_pos_iff.mpr h2
    show F.length + 1 ≤ (mc_fl F ++ p).length
    rw [List.length_append]; omega
theorem mc_fo_tl {a : List Int64 × Nat} {F : List (List Int64 × Nat)} (h : mc_fo P (a :: F)) : mc_fo P F := fun q j hq => h q j (List.mem_cons.mpr (Or.inr hq))
theorem mc_fo_cons {p : List Int64} {k : Nat} {F : List (List Int64 × Nat)} (h : mc_fo P F) (hp : p ≠ []) (h1 : 1 ≤ k) (h2 : k ≤ 2) (hw : ∀ r, tm_w r k → tm_w (p ++ r) 1) (hx : ∀ x, x ∈ p → P x) : mc_fo P ((p, k) :: F) := by
  intro q j hq
  rcases List.mem_cons.mp hq with e | e
  · cases e; exact ⟨hp, h1, h2, hw, hx⟩
  · exact h q j e
/-- a finished term goes to the term around it -/
theorem mc_fin_I {W : List Int64} {F : List (List Int64 × Nat)} {t n : Nat} {s : List Int64} (ht : t ≤ 60) (hW : ∀ x, x ∈ W → P x) (hF : mc_fo P F) (hw : tm_w W (mc_nd F)) (hs : tm_w s 1) (hP : ∀ x, x ∈ s → P x) (hn : W.length + (mc_fl F).length + s.length ≤ 30 + 30 * t) (h30 : s.length ≤ 30) :
    (F = [] ∧ W = [] ∧ mc_fin W F t s = .inr (0, t, s)) ∨ (∃ W' F' t' m', mc_fin W F t s = .inl (W', F', t', m') ∧ mc_I P W' F' t' m' ∧ mc_mu W' F' t' m' < 2 * W.length + F.length + 1 + 60 * (60 - t)) := by
  cases F with
  | nil => exact Or.inl ⟨rfl, tm_w_0 hw, rfl⟩
  | cons a F =>
    obtain ⟨p, k⟩ := a
    obtain ⟨h1, h2, h3, h4, h5⟩ := hF p k (List.mem_cons.mpr (Or.inl rfl))
    refine Or.inr ?_
    have hpx : ∀ x, x ∈ p ++ s → P x := fun x hx => by
      rcases List.mem_append.mp hx with h | h
      · exact h5 x h
      · exact hP x h
    have hl : (mc_fl ((p, k) :: F)).length = (mc_fl F).length + p.length := by
      show (mc_fl F ++ p).length = _
      rw [List.length_append]
    rw [hl] at hn
    have hnd : mc_nd ((p, k) :: F) = (k - 1) + mc_nd F := rfl
    rw [hnd] at hw
    by_cases hk : k ≤ 1
    · have hk1 : k = 1 := by omega
      subst hk1
      refine ⟨W, F, t, some (p ++ s), rfl, ⟨ht, hW, mc_fo_tl hF, ?_, h4 s hs, hpx, ?_⟩, ?_⟩
      · rw [show 1 - 1 + mc_nd F = mc_nd F by omega] at hw; exact hw
      · rw [List.length_append]; omega
      · show 2 * W.length + F.length + 1 + 60 * (60 - t) < 2 * W.length + (F.length + 1) + 1 + 60 * (60 - t)
        omega
    · have hk2 : k = 2 := by omega
      subst hk2
      refine ⟨W, (p ++ s, 1) :: F, t, none, rfl, ⟨ht, hW, mc_fo_cons (mc_fo_tl hF) (by simp [h1]) (by omega) (by omega) (fun r hr => ?_) hpx, ?_, ?_⟩, ?_⟩
      · rw [List.append_assoc]
        exact h4 _ (tm_w_app s r 1 1 hs hr)
      · show tm_w W (1 + ((1 - 1) + mc_nd F))
        rw [show 1 + ((1 - 1) + mc_nd F) = 2 - 1 + mc_nd F by omega]; exact hw
      · show W.length + (mc_fl F ++ (p ++ s)).length ≤ _
        rw [List.length_append, List.length_append]; omega
      · show 2 * W.length + (F.length + 1) + 0 + 60 * (60 - t) < 2 * W.length + (F.length + 1) + 1 + 60 * (60 - t)
        omega
/-- every step keeps the invariant, or ends -/
theorem mc_pres (hd : ∀ x, tk_d x → P x) (hG : mc_G L R) {W : List Int64} {F : List (List Int64 × Nat)} {t : Nat} {m : Option (List Int64)} (hI : mc_I P W F t m) :
    (∃ W' F' t' m', mc_st L R W F t m = .inl (W', F', t', m') ∧ mc_I P W' F' t' m' ∧ mc_mu W' F' t' m' < mc_mu W F t m) ∨
    (∃ c t' s', mc_st L R W F t m = .inr (c, t', s') ∧ t' ≤ 61 ∧ c ≤ 3 ∧ (c = 0 → W = [] ∧ F = [] ∧ t' ≤ 60 ∧ tm_w s' 1 ∧ s'.length ≤ 30 ∧ ∀ x, x ∈ s' → P x)) := by
  obtain ⟨ht, hW, hF, hm⟩ := hI
  cases m with
  | none =>
    obtain ⟨h1, h2⟩ := hm
    cases W with
    | nil => rw [tm_w_nil] at h1; omega
    | cons c W =>
      obtain ⟨k, e, h3⟩ := tm_w_ne h1
      have hk : k = mc_nd F := by omega
      subst hk
      have hW' : ∀ x, x ∈ W → P x := fun x hx => hW x (List.mem_cons.mpr (Or.inr hx))
      have hc : P c := hW c (List.mem_cons.mpr (Or.inl rfl))
      rw [List.length_cons] at h2
      refine Or.inl ?_
      by_cases ha : tm_ar c = 0
      · refine ⟨W, F, t, some [c], if_pos ha, ⟨ht, hW', hF, ?_, tm_w_1 ha, fun x hx => ?_, ?_⟩, ?_⟩
        · rw [ha] at h3; exact h3
        · rw [List.mem_singleton] at hx; rw [hx]; exact hc
        · rw [List.length_singleton]; omega
        · show 2 * W.length + F.length + 1 + 60 * (60 - t) < 2 * (W.length + 1) + F.length + 0 + 60 * (60 - t)
          omega
      · have ha2 := tm_ar_le c
        refine ⟨W, ([c], tm_ar c) :: F, t, none, if_neg ha, ⟨ht, hW', mc_fo_cons hF (by simp) (by omega) ha2 (fun r hr => ?_) (fun x hx => ?_), ?_, ?_⟩, ?_⟩
        · show tm_w (c :: r) (0 + 1)
          exact tm_w_cons.mpr (by rw [Nat.zero_add]; exact hr)
        · rw [List.mem_singleton] at hx; rw [hx]; exact hc
        · show tm_w W (1 + ((tm_ar c - 1) + mc_nd F))
          rw [show 1 + ((tm_ar c - 1) + mc_nd F) = mc_nd F + tm_ar c by omega]; exact h3
        · show W.length + (mc_fl F ++ [c]).length ≤ _
          rw [List.length_append, List.length_singleton]; omega
        · show 2 * W.length + (F.length + 1) + 0 + 60 * (60 - t) < 2 * (W.length + 1) + F.length + 0 + 60 * (60 - t)
          omega
  | some s =>
    obtain ⟨h1, h2, h3, h4⟩ := hm
    have hmu : mc_mu W F t (some s) = 2 * W.length + F.length + 1 + 60 * (60 - t) := rfl
    rw [hmu]
    unfold mc_st
    dsimp only
    by_cases h30 : 30 < s.length
    · exact Or.inr ⟨3, t, [], if_pos h30, by omega, by omega, fun z => absurd z (by omega)⟩
    · rw [if_neg h30]
      have hol := mc_or_len s
      have how := mc_or_w h2
      have hoP : ∀ x, x ∈ mc_or s → P x := fun x hx => h3 x (mc_or_mem hx)
      cases ha : mc_ar (mc_or s) with
      | some v =>
        dsimp only
        obtain ⟨hv, hv3⟩ := mc_ar_d ha
        by_cases h60 : 60 < t + 1
        · exact Or.inr ⟨2, t + 1, [], if_pos h60, by omega, by omega, fun z => absurd z (by omega)⟩
        · rw [if_neg h60]
          have har : tm_ar v = 0 := by
            obtain ⟨n, rfl, hn⟩ := hv
            unfold mc_ar at ha
            split at ha
            · rename_i o x y _
              split at ha
              · injection ha with ha
                obtain ⟨k, hk, hk2⟩ := mc_val (if o = 10 then x.toInt32 + y.toInt32 else x.toInt32 * y.toInt32)
                obtain ⟨j, hj, e⟩ := wb_of (if o = 10 then x.toInt32 + y.toInt32 else x.toInt32 * y.toInt32).toInt64
                rw [e, show (4294967295 : Int64) = lN (2 ^ 32 - 1) from rfl, wb_mask hj (by omega), show (4294967296 : Int64) = lN 4294967296 from rfl, lN_add] at ha
                rw [← ha]
                have : j % 2 ^ 32 < 4294967296 := Nat.mod_lt _ (by decide)
                rw [tk_ar_n (by omega), if_neg (by omega), if_neg (by omega)]
              · exact absurd ha (by simp)
            · exact absurd ha (by simp)
          rcases mc_fin_I (n := 0) (t := t + 1) (by omega) hW hF h1 (tm_w_1 har) (fun x hx => by rw [List.mem_singleton] at hx; rw [hx]; exact hd _ hv) (by rw [List.length_singleton]; omega) (by simp) with ⟨e1, e2, e3⟩ | ⟨W', F', t', m', e1, e2, e3⟩
          · exact Or.inr ⟨0, t + 1, [v], e3, by omega, by omega, fun _ => ⟨e2, e1, by omega, tm_w_1 har, by simp, fun x hx => by rw [List.mem_singleton] at hx; rw [hx]; exact hd _ hv⟩⟩
          · exact Or.inl ⟨W', F', t', m', e1, e2, by omega⟩
      | none =>
        dsimp only
        cases hf : ru_fr L (mc_or s) 8 0 with
        | none =>
          dsimp only
          rcases mc_fin_I (n := 0) ht hW hF h1 how hoP (by omega) (by omega) with ⟨e1, e2, e3⟩ | ⟨W', F', t', m', e1, e2, e3⟩
          · exact Or.inr ⟨0, t, _, e3, by omega, by omega, fun _ => ⟨e2, e1, ht, how, by omega, hoP⟩⟩
          · exact Or.inl ⟨W', F', t', m', e1, e2, e3⟩
        | some rb =>
          obtain ⟨r, β⟩ := rb
          dsimp only
          by_cases h60 : 60 < t + 1
          · exact Or.inr ⟨2, t + 1, [], if_pos h60, by omega, by omega, fun z => absurd z (by omega)⟩
          · rw [if_neg h60]
            by_cases hb : 30 < (ru_in β (R r)).length
            · exact Or.inr ⟨3, t + 1, [], if_pos hb, by omega, by omega, fun z => absurd z (by omega)⟩
            · rw [if_neg hb]
              obtain ⟨_, _, hL0, w, hw, hm⟩ := mc_fr _ _ _ _ hf
              rcases hG r with h | ⟨g1, g2, g3, g4, g5, g6, g7, g8⟩
              · exact absurd h hL0
              · obtain ⟨b1, b2, b3⟩ := mc_mt (P := P) _ _ 1 _ _ hm how hoP (fun k => Or.inl rfl)
                have hbw : ∀ q, q ∈ R r → ¬ q < 8589934592 → tm_w (β (ru_slot q)) 1 := fun q hq hq' => by
                  have hm2 : q ∈ (ru_wy (L r) w).1 := mc_wy_mem' (L r) w q (g8 q hq hq')
                  rcases b1 (ru_slot q) with h | h
                  · exact absurd h (b3 q hm2 hq')
                  · exact h.1
                have hbP : ∀ k x, x ∈ β k → P x := fun k x hx => by
                  rcases b1 k with h | h
                  · rw [h] at hx; exact absurd hx (by simp)
                  · exact h.2 x hx
                refine Or.inl ⟨_, F, t + 1, none, rfl, ⟨by omega, fun x hx => ?_, hF, ?_, ?_⟩, ?_⟩
                · rcases List.mem_append.mp hx with h | h
                  · exact mc_in_P hd g5 hbP x h
                  · exact hW x h
                · exact tm_w_app _ _ _ _ (mc_in_w (R r) 1 g2 g5 hbw) h1
                · rw [List.length_append]
                  have : 0 < s.length := by have := tm_w_len _ _ h2; omega
                  omega
                · show 2 * (ru_in β (R r) ++ W).length + F.length + 0 + 60 * (60 - (t + 1)) < _
                  rw [List.length_append]; omega
/-- the run ends within its measure, and well -/
theorem mc_run_ok (hd : ∀ x, tk_d x → P x) (hG : mc_G L R) : ∀ (f : Nat) (W : List Int64) (F : List (List Int64 × Nat)) (t : Nat) (m : Option (List Int64)), mc_I P W F t m → mc_mu W F t m < f → ∃ c t' s', mc_run L R f W F t m = (c, t', s') ∧ t' ≤ 61 ∧ c ≤ 3 ∧ (c = 0 → t' ≤ 60 ∧ tm_w s' 1 ∧ s'.length ≤ 30 ∧ ∀ x, x ∈ s' → P x)
  | 0, W, F, t, m, _, h => absurd h (by omega)
  | f + 1, W, F, t, m, hI, hf => by
    rcases mc_pres hd hG hI with ⟨W', F', t', m', e1, e2, e3⟩ | ⟨c, t', s', e1, e2, e3, e4⟩
    · rw [mc_run, e1]
      exact mc_run_ok hd hG f W' F' t' m' e2 (by omega)
    · rw [mc_run, e1]
      exact ⟨c, t', s', rfl, e2, e3, fun z => (e4 z).2.2⟩
end
