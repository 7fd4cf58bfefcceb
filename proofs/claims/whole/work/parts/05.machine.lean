/-! the machine of the normal form, over lists -/
def mc_fl : List (List Int64 × Nat) → List Int64
  | [] => []
  | (p, _) :: F => mc_fl F ++ p
def mc_nd : List (List Int64 × Nat) → Nat
  | [] => 0
  | (_, k) :: F => (k - 1) + mc_nd F
/-- the ORDER: the first tokens that differ -/
def mc_cb : List Int64 → List Int64 → Bool
  | x :: xs, y :: ys => if x = y then mc_cb xs ys else decide (tk_key x < tk_key y)
  | _, _ => false
theorem mc_cb_eq {x : Int64} {xs ys : List Int64} : mc_cb (x :: xs) (x :: ys) = mc_cb xs ys := by rw [mc_cb, if_pos rfl]
theorem mc_cb_ne {x y : Int64} {xs ys : List Int64} (h : x ≠ y) : mc_cb (x :: xs) (y :: ys) = decide (tk_key x < tk_key y) := by rw [mc_cb, if_neg h]
def mc_or : List Int64 → List Int64
  | [] => []
  | t :: r => if t = 9 ∧ mc_cb (r.drop (tm_n r 1)) (r.take (tm_n r 1)) = true then t :: tm_sw r else t :: r
def mc_ar : List Int64 → Option Int64
  | [o, x, y] => if (o = 10 ∨ o = 11) ∧ tk_N x ∧ tk_N y then some (4294967296 + ((if o = 10 then x.toInt32 + y.toInt32 else x.toInt32 * y.toInt32).toInt64 &&& 4294967295)) else none
  | _ => none
def mc_fin (W : List Int64) (F : List (List Int64 × Nat)) (t : Nat) (s : List Int64) : (List Int64 × List (List Int64 × Nat) × Nat × Option (List Int64)) ⊕ (Nat × Nat × List Int64) :=
  match F with
  | [] => .inr (0, t, s)
  | (p, k) :: F' => if k ≤ 1 then .inl (W, F', t, some (p ++ s)) else .inl (W, (p ++ s, k - 1) :: F', t, none)
/-- one step: waiting tokens, unfinished terms with what they lack, steps taken, a term whose arguments are all replaced -/
def mc_st (L R : Nat → List Int64) (W : List Int64) (F : List (List Int64 × Nat)) (t : Nat) : Option (List Int64) → (List Int64 × List (List Int64 × Nat) × Nat × Option (List Int64)) ⊕ (Nat × Nat × List Int64)
  | none => match W with
    | [] => .inr (0, t, [])
    | c :: W' => if tm_ar c = 0 then .inl (W', F, t, some [c]) else .inl (W', ([c], tm_ar c) :: F, t, none)
  | some s =>
    if 30 < s.length then .inr (3, t, [])
    else match mc_ar (mc_or s) with
      | some v => if 60 < t + 1 then .inr (2, t + 1, []) else mc_fin W F (t + 1) [v]
      | none => match ru_fr L (mc_or s) 8 0 with
        | none => mc_fin W F t (mc_or s)
        | some (r, β) => if 60 < t + 1 then .inr (2, t + 1, []) else if 30 < (ru_in β (R r)).length then .inr (3, t + 1, []) else .inl (ru_in β (R r) ++ W, F, t + 1, none)
def mc_run (L R : Nat → List Int64) : Nat → List Int64 → List (List Int64 × Nat) → Nat → Option (List Int64) → (Nat × Nat × List Int64)
  | 0, _, _, _, _ => (9, 0, [])
  | f + 1, W, F, t, s => match mc_st L R W F t s with
    | .inr r => r
    | .inl (W', F', t', s') => mc_run L R f W' F' t' s'
/-- what is asked of the rules -/
def mc_G (L R : Nat → List Int64) : Prop := ∀ r, L r = [] ∨ (tm_w (L r) 1 ∧ tm_w (R r) 1 ∧ (L r).length + (R r).length ≤ 30 ∧ (∀ t, t ∈ L r → tk_r t) ∧ (∀ t, t ∈ R r → tk_r t) ∧ (∃ t l, L r = t :: l ∧ t < 4294967296) ∧ ru_c9 (L r) ≤ 4 ∧ ∀ t, t ∈ R r → ¬ t < 8589934592 → t ∈ L r)
def mc_fo (P : Int64 → Prop) (F : List (List Int64 × Nat)) : Prop := ∀ p k, (p, k) ∈ F → p ≠ [] ∧ 1 ≤ k ∧ k ≤ 2 ∧ (∀ r, tm_w r k → tm_w (p ++ r) 1) ∧ ∀ x, x ∈ p → P x
/-- the machine's invariant -/
def mc_I (P : Int64 → Prop) (W : List Int64) (F : List (List Int64 × Nat)) (t : Nat) (m : Option (List Int64)) : Prop :=
  t ≤ 60 ∧ (∀ x, x ∈ W → P x) ∧ mc_fo P F ∧ match m with
    | none => tm_w W (1 + mc_nd F) ∧ W.length + (mc_fl F).length ≤ 30 + 30 * t
    | some s => tm_w W (mc_nd F) ∧ tm_w s 1 ∧ (∀ x, x ∈ s → P x) ∧ W.length + (mc_fl F).length + s.length ≤ 30 + 30 * t
def mc_mu (W : List Int64) (F : List (List Int64 × Nat)) (t : Nat) (m : Option (List Int64)) : Nat := 2 * W.length + F.length + (if m.isSome then 1 else 0) + 60 * (60 - t)
theorem mc_or_w {s : List Int64} (h : tm_w s 1) : tm_w (mc_or s) 1 := by
  cases s with
  | nil => exact h
  | cons t r =>
    unfold mc_or
    dsimp only
    split
    · rename_i hc
      have h9 : tm_ar t = 2 := by rw [hc.1]; exact ru_ar9
      have h1 := tm_w_cons.mp h
      rw [h9] at h1
      refine tm_w_cons.mpr ?_
      rw [h9]
      exact tm_w_sw h1
    · exact h
theorem mc_or_len (s : List Int64) : (mc_or s).length = s.length := by
  cases s with
  | nil => rfl
  | cons t r =>
    unfold mc_or
    dsimp only
    split
    · simp only [List.length_cons, ru_sw_len]
    · rfl
theorem mc_or_mem {s : List Int64} {x : Int64} (h : x ∈ mc_or s) : x ∈ s := by
  cases s with
  | nil => exact h
  | cons t r =>
    unfold mc_or at h
    dsimp only at h
    split at h
    · rcases List.mem_cons.mp h with h | h
      · exact List.mem_cons.mpr (Or.inl h)
      · exact List.mem_cons.mpr (Or.inr (ru_sw_mem h))
    · exact h
theorem mc_or_9 {r : List Int64} : mc_or (9 :: r) = if mc_cb (r.drop (tm_n r 1)) (r.take (tm_n r 1)) = true then 9 :: tm_sw r else 9 :: r := by
  show (if (9 : Int64) = 9 ∧ mc_cb (r.drop (tm_n r 1)) (r.take (tm_n r 1)) = true then _ else _) = _
  by_cases h : mc_cb (r.drop (tm_n r 1)) (r.take (tm_n r 1)) = true
  · rw [if_pos ⟨rfl, h⟩, if_pos h]
  · rw [if_neg (fun z => h z.2), if_neg h]
theorem mc_or_n {t : Int64} {r : List Int64} (h : ¬ t = 9) : mc_or (t :: r) = t :: r := by
  show (if t = 9 ∧ _ then _ else _) = _
  rw [if_neg (fun z => h z.1)]
theorem mc_or_hd (t : Int64) (r : List Int64) : ∃ r', mc_or (t :: r) = t :: r' := by
  by_cases h : t = 9
  · subst h
    rw [mc_or_9]
    split <;> exact ⟨_, rfl⟩
  · rw [mc_or_n h]; exact ⟨_, rfl⟩
theorem mc_val (v : Int32) : tk_d (4294967296 + (v.toInt64 &&& 4294967295)) := by
  obtain ⟨n, hn, e⟩ := wb_of v.toInt64
  rw [e, show (4294967295 : Int64) = lN (2 ^ 32 - 1) from rfl, wb_mask hn (by omega), show (4294967296 : Int64) = lN 4294967296 from rfl, lN_add]
  have : n % 2 ^ 32 < 4294967296 := Nat.mod_lt _ (by decide)
  exact ⟨_, rfl, Or.inr (by omega)⟩
theorem mc_ar_d {s : List Int64} {v : Int64} (h : mc_ar s = some v) : tk_d v ∧ 3 ≤ s.length := by
  unfold mc_ar at h
  split at h
  · rename_i o x y
    split at h
    · cases h
      exact ⟨mc_val _, by simp⟩
    · exact absurd h (by simp)
  · exact absurd h (by simp)
/-- what a match binds -/
theorem mc_mt {P : Int64 → Prop} : ∀ (ps s : List Int64) (m : Nat) (β β' : Nat → List Int64), ru_mt ps s β = some β' → tm_w s m → (∀ x, x ∈ s → P x) → (∀ k, β k = [] ∨ (tm_w (β k) 1 ∧ ∀ x, x ∈ β k → P x)) → (∀ k, β' k = [] ∨ (tm_w (β' k) 1 ∧ ∀ x, x ∈ β' k → P x)) ∧ (∀ k, β k ≠ [] → β' k ≠ []) ∧ ∀ p, p ∈ ps → ¬ p < 8589934592 → β' (ru_slot p) ≠ []
  | [], s, m, β, β', h, hw, hP, hb => by
    rw [ru_mt] at h
    cases h
    exact ⟨hb, fun k z => z, fun p hp => absurd hp (by simp)⟩
  | p :: ps, [], m, β, β', h, hw, hP, hb => by
    rw [ru_mt] at h
    exact absurd h (by simp)
  | p :: ps, c :: s, m, β, β', h, hw, hP, hb => by
    obtain ⟨k, rfl, hw1⟩ := tm_w_ne hw
    by_cases hp : p < 8589934592
    · by_cases hc : c = p
      · rw [ru_mt_sym hp hc] at h
        obtain ⟨h1, h2, h3⟩ := mc_mt ps s _ β β' h hw1 (fun x hx => hP x (List.mem_cons.mpr (Or.inr hx))) hb
        refine ⟨h1, h2, fun q hq hq' => ?_⟩
        rcases List.mem_cons.mp hq with e | e
        · subst e; exact absurd hp hq'
        · exact h3 q e hq'
      · rw [ru_mt_symn hp hc] at h
        exact absurd h (by simp)
    · by_cases hn : ¬ p < 12884901888 ∧ ¬ tk_N c
      · rw [ru_mt_w hp hn.1 hn.2] at h
        exact absurd h (by simp)
      · have hn' : p < 12884901888 ∨ tk_N c := by
          by_cases h1 : p < 12884901888
          · exact Or.inl h1
          · exact Or.inr (Classical.byContradiction (fun z => hn ⟨h1, z⟩))
        have hs := tm_w_split (c :: s) 1 k (by rw [Nat.add_comm]; exact hw)
        obtain ⟨a, b, e, ha, hb2⟩ := hs
        obtain ⟨c', a', rfl, _⟩ := tm_w_pos ha
        rw [List.cons_append] at e
        injection e with e1 e2
        subst e1 e2
        have hPb : ∀ x, x ∈ b → P x := fun x hx => hP x (List.mem_cons.mpr (Or.inr (List.mem_append.mpr (Or.inr hx))))
        by_cases h0 : β (ru_slot p) = []
        · rw [ru_mt_new hp hn' ha h0] at h
          obtain ⟨h1, h2, h3⟩ := mc_mt ps b k _ β' h hb2 hPb (fun j => by
            by_cases hj : j = ru_slot p
            · rw [if_pos hj]
              refine Or.inr ⟨ha, fun x hx => hP x ?_⟩
              rcases List.mem_cons.mp hx with e | e
              · exact List.mem_cons.mpr (Or.inl e)
              · exact List.mem_cons.mpr (Or.inr (List.mem_append.mpr (Or.inl e)))
            · rw [if_neg hj]; exact hb j)
          have hk : ∀ j, β j ≠ [] → β' j ≠ [] := fun j hj => h2 j (by
            by_cases e : j = ru_slot p
            · rw [if_pos e]; exact List.cons_ne_nil _ _
            · rw [if_neg e]; exact hj)
          refine ⟨h1, hk, fun q hq hq' => ?_⟩
          rcases List.mem_cons.mp hq with e | e
          · subst e
            exact h2 _ (by rw [if_pos rfl]; exact List.cons_ne_nil _ _)
          · exact h3 q e hq'
        · by_cases h0' : β (ru_slot p) = c :: a'
          · rw [ru_mt_old hp hn' ha h0'] at h
            obtain ⟨h1, h2, h3⟩ := mc_mt ps b k _ β' h hb2 hPb hb
            refine ⟨h1, h2, fun q hq hq' => ?_⟩
            rcases List.mem_cons.mp hq with e | e
            · subst e; exact h2 _ h0
            · exact h3 q e hq'
          · rw [ru_mt_oldn hp hn' ha h0 h0'] at h
            exact absurd h (by simp)
theorem mc_fw {l s : List Int64} : ∀ (k w : Nat) (β : Nat → List Int64), ru_fw l s k w = some β → ∃ w', w ≤ w' ∧ w' < w + k ∧ ru_mt (ru_wy l w').1 s (fun _ => []) = some β
  | 0, w, β, h => absurd h (by simp [ru_fw])
  | k + 1, w, β, h => by
    rw [ru_fw] at h
    cases e : ru_mt (ru_wy l w).1 s (fun _ => []) with
    | some β0 =>
      rw [e] at h
      cases h
      exact ⟨w, by omega, by omega, e⟩
    | none =>
      rw [e] at h
      obtain ⟨w', h1, h2, h3⟩ := mc_fw k (w + 1) β h
      exact ⟨w', by omega, by omega, h3⟩
theorem mc_fr {L : Nat → List Int64} {s : List Int64} : ∀ (k r r' : Nat) (β : Nat → List Int64), ru_fr L s k r = some (r', β) → r ≤ r' ∧ r' < r + k ∧ L r' ≠ [] ∧ ∃ w, w < 2 ^ ru_c9 (L r') ∧ ru_mt (ru_wy (L r') w).1 s (fun _ => []) = some β
  | 0, r, r', β, h => absurd h (by simp [ru_fr])
  | k + 1, r, r', β, h => by
    rw [ru_fr] at h
    by_cases h0 : L r = []
    · rw [if_pos h0] at h
      obtain ⟨a, b, c⟩ := mc_fr k (r + 1) r' β h
      exact ⟨by omega, by omega, c⟩
    · rw [if_neg h0] at h
      cases e : ru_fw (L r) s (2 ^ ru_c9 (L r)) 0 with
      | some β0 =>
        rw [e] at h
        cases h
        obtain ⟨w, h1, h2, h3⟩ := mc_fw _ _ _ e
        exact ⟨by omega, by omega, h0, w, by omega, h3⟩
      | none =>
        rw [e] at h
        obtain ⟨a, b, c⟩ := mc_fr k (r + 1) r' β h
        exact ⟨by omega, by omega, c⟩
theorem mc_in_w {β : Nat → List Int64} : ∀ (l : List Int64) (m : Nat), tm_w l m → (∀ t, t ∈ l → tk_r t) → (∀ t, t ∈ l → ¬ t < 8589934592 → tm_w (β (ru_slot t)) 1) → tm_w (ru_in β l) m
  | [], m, h, _, _ => h
  | t :: l, m, h, hr, hb => by
    obtain ⟨k, rfl, h1⟩ := tm_w_ne h
    have ih := mc_in_w l _ h1 (fun x hx => hr x (List.mem_cons.mpr (Or.inr hx))) (fun x hx => hb x (List.mem_cons.mpr (Or.inr hx)))
    show tm_w ((if t < 8589934592 then [t] else β (ru_slot t)) ++ ru_in β l) (k + 1)
    by_cases ht : t < 8589934592
    · rw [if_pos ht]
      exact tm_w_cons.mpr ih
    · rw [if_neg ht]
      have h0 : tm_ar t = 0 := by
        obtain ⟨n, rfl, hn⟩ := hr t (List.mem_cons.mpr (Or.inl rfl))
        rw [tk_lt 8589934592 (by omega)] at ht
        rw [tk_ar_n (by omega), if_neg (by omega), if_neg (by omega)]
      rw [h0] at ih
      rw [Nat.add_comm]
      exact tm_w_app _ _ _ _ (hb t (List.mem_cons.mpr (Or.inl rfl)) ht) ih
theorem mc_in_P {P : Int64 → Prop} {β : Nat → List Int64} {l : List Int64} (hd : ∀ x, tk_d x → P x) (hr : ∀ t, t ∈ l → tk_r t) (hb : ∀ k x, x ∈ β k → P x) : ∀ x, x ∈ ru_in β l → P x := by
  intro x hx
  unfold ru_in at hx
  obtain ⟨t, ht, hx⟩ := List.mem_flatMap.mp hx
  by_cases h : t < 8589934592
  · rw [if_pos h, List.mem_singleton] at hx
    subst hx
    obtain ⟨n, rfl, hn⟩ := hr x ht
    rw [tk_lt 8589934592 (by omega)] at h
    exact hd _ ⟨n, rfl, by omega⟩
  · rw [if_neg h] at hx
    exact hb _ x hx
theorem mc_sw_mem' {l : List Int64} {t : Int64} (h : t ∈ l) : t ∈ tm_sw l := by
  unfold tm_sw
  rw [List.mem_append, List.mem_append]
  rw [← List.take_append_drop (tm_n l 1) l, List.mem_append] at h
  rcases h with h | h
  · exact Or.inl (Or.inr h)
  · rw [← List.take_append_drop (tm_n (l.drop (tm_n l 1)) 1) (l.drop (tm_n l 1)), List.mem_append] at h
    rcases h with h | h
    · exact Or.inl (Or.inl h)
    · exact Or.inr h
theorem mc_wy_mem' : ∀ (l : List Int64) (b : Nat) (s : Int64), s ∈ l → s ∈ (ru_wy l b).1
  | [], b, s, h => h
  | t :: l, b, s, h => by
    by_cases h9 : t = 9
    · subst h9
      rw [ru_wy_9]
      rcases List.mem_cons.mp h with h | h
      · exact List.mem_cons.mpr (Or.inl h)
      · refine List.mem_cons.mpr (Or.inr ?_)
        have := mc_wy_mem' l b s h
        split
        · exact mc_sw_mem' this
        · exact this
    · rw [ru_wy_n h9]
      rcases List.mem_cons.mp h with h | h
      · exact List.mem_cons.mpr (Or.inl h)
      · exact List.mem_cons.mpr (Or.inr (mc_wy_mem' l b s h))
