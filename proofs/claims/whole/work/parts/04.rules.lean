/-! rules: slots of names, the ways of exchange, the match, what RIGHT becomes, the first rule that matches -/
def ru_slot (t : Int64) : Nat := if t < 12884901888 then (t.toInt - 8589934592).toNat else 4 + (t.toInt - 12884901888).toNat
theorem ru_slot_v {r : Nat} (h : r < 4) : ru_slot (lN (8589934592 + r)) = r := by
  unfold ru_slot
  rw [if_pos ((tk_lt 12884901888 (by omega)).mpr (by omega)), pk_lT (by omega)]; omega
theorem ru_slot_w {r : Nat} (h : r < 4) : ru_slot (lN (12884901888 + r)) = 4 + r := by
  unfold ru_slot
  rw [if_neg (by rw [tk_lt 12884901888 (by omega)]; omega), pk_lT (by omega)]; omega
theorem ru_and3 {n : Nat} (h : n < 2 ^ 62) : (lN n &&& 3).toInt32 = nI (n % 4) := by
  rw [show (3 : Int64) = lN (2 ^ 2 - 1) from rfl, wb_mask (by omega) (by omega), lN_i]
theorem ru_and7 {n : Nat} (h : n < 2 ^ 62) : (lN n &&& 7).toInt32 = nI (n % 8) := by
  rw [show (7 : Int64) = lN (2 ^ 3 - 1) from rfl, wb_mask (by omega) (by omega), lN_i]
theorem ru_names {t : Int64} (h : tk_r t) (hn : ¬ t < 8589934592) : (∃ r, r < 4 ∧ t = lN (8589934592 + r) ∧ tk_kR t = 2 ∧ tk_vR t = nI r ∧ ru_slot t = r ∧ t < 12884901888) ∨ (∃ r, r < 4 ∧ t = lN (12884901888 + r) ∧ tk_kR t = 3 ∧ tk_vR t = nI r ∧ ru_slot t = 4 + r ∧ ¬ t < 12884901888) := by
  rcases tk_R_cases h with ⟨n, h1, e1, k1, v1⟩ | ⟨n, h1, h1', e1, k1, v1⟩ | ⟨r, h1, e1, k1, v1⟩ | ⟨r, h1, e1, k1, v1⟩
  · rw [e1, tk_lt 8589934592 (by omega)] at hn; omega
  · rw [e1, tk_lt 8589934592 (by omega)] at hn; omega
  · refine Or.inl ⟨r, h1, e1, k1, v1, by rw [e1, ru_slot_v h1], ?_⟩
    rw [e1, tk_lt 12884901888 (by omega)]; omega
  · refine Or.inr ⟨r, h1, e1, k1, v1, by rw [e1, ru_slot_w h1], ?_⟩
    rw [e1, tk_lt 12884901888 (by omega)]; omega
theorem ru_slot_lt {t : Int64} (h : tk_r t) (hn : ¬ t < 8589934592) : ru_slot t < 8 := by
  rcases ru_names h hn with ⟨r, h1, _, _, _, e, _⟩ | ⟨r, h1, _, _, _, e, _⟩ <;> omega
theorem ru_slotX {t : Int64} (h : tk_r t) (hn : ¬ t < 8589934592) {post : Int32 → Prop} (hp : post (nI (ru_slot t))) : wpX_slotOf post t := by
  rcases ru_names h hn with ⟨r, h1, e, _, _, es, hl⟩ | ⟨r, h1, e, _, _, es, hl⟩
  · refine br_f (fun z => absurd hl (Int64.not_lt.mpr z)) ?_
    rw [e, ru_and3 (by omega), show (8589934592 + r) % 4 = r by omega]
    rw [es] at hp; exact hp
  · refine br_t (Int64.not_lt.mp hl) ?_
    rw [e, ru_and3 (by omega), show (12884901888 + r) % 4 = r by omega, show (4 : Int32) = nI 4 from rfl, nI_add]
    rw [es] at hp; exact hp
/-- symbols 9 in a list -/
def ru_c9 : List Int64 → Nat
  | [] => 0
  | t :: l => (if t = 9 then 1 else 0) + ru_c9 l
theorem ru_c9_app : ∀ (a b : List Int64), ru_c9 (a ++ b) = ru_c9 a + ru_c9 b
  | [], b => by simp [ru_c9]
  | t :: a, b => by
    show (if t = 9 then 1 else 0) + ru_c9 (a ++ b) = ((if t = 9 then 1 else 0) + ru_c9 a) + ru_c9 b
    rw [ru_c9_app a b]; omega
theorem ru_sw_len (l : List Int64) : (tm_sw l).length = l.length := by
  unfold tm_sw
  simp only [List.length_append, List.length_take, List.length_drop]
  omega
theorem ru_sw_mem {l : List Int64} {t : Int64} (h : t ∈ tm_sw l) : t ∈ l := by
  unfold tm_sw at h
  rw [List.mem_append, List.mem_append] at h
  rcases h with (h | h) | h
  · exact List.mem_of_mem_drop (List.mem_of_mem_take h)
  · exact List.mem_of_mem_take h
  · exact List.mem_of_mem_drop (List.mem_of_mem_drop h)
/-- a way: its bits, the lowest for the last symbol 9, say where arguments are exchanged -/
def ru_wy : List Int64 → Nat → List Int64 × Nat
  | [], b => ([], b)
  | t :: l, b => if t = 9 then (t :: (if (ru_wy l b).2 % 2 = 1 then tm_sw (ru_wy l b).1 else (ru_wy l b).1), (ru_wy l b).2 / 2) else (t :: (ru_wy l b).1, (ru_wy l b).2)
theorem ru_wy_9 {l : List Int64} {b : Nat} : ru_wy (9 :: l) b = (9 :: (if (ru_wy l b).2 % 2 = 1 then tm_sw (ru_wy l b).1 else (ru_wy l b).1), (ru_wy l b).2 / 2) := if_pos rfl
theorem ru_wy_n {t : Int64} {l : List Int64} {b : Nat} (h : t ≠ 9) : ru_wy (t :: l) b = (t :: (ru_wy l b).1, (ru_wy l b).2) := if_neg h
theorem ru_wy_bits : ∀ (l : List Int64) (b : Nat), (ru_wy l b).2 = b / 2 ^ ru_c9 l
  | [], b => by simp [ru_wy, ru_c9]
  | t :: l, b => by
    by_cases h : t = 9
    · subst h
      rw [ru_wy_9]
      show (ru_wy l b).2 / 2 = b / 2 ^ ((if (9 : Int64) = 9 then 1 else 0) + ru_c9 l)
      rw [if_pos rfl, ru_wy_bits l b, Nat.div_div_eq_div_mul, Nat.add_comm 1, Nat.pow_succ]
    · rw [ru_wy_n h]
      show (ru_wy l b).2 = b / 2 ^ ((if t = 9 then 1 else 0) + ru_c9 l)
      rw [if_neg h, Nat.zero_add, ru_wy_bits l b]
theorem ru_wy_len : ∀ (l : List Int64) (b : Nat), (ru_wy l b).1.length = l.length
  | [], b => rfl
  | t :: l, b => by
    by_cases h : t = 9
    · subst h
      rw [ru_wy_9]
      show (if (ru_wy l b).2 % 2 = 1 then tm_sw (ru_wy l b).1 else (ru_wy l b).1).length + 1 = l.length + 1
      split
      · rw [ru_sw_len, ru_wy_len l b]
      · rw [ru_wy_len l b]
    · rw [ru_wy_n h]
      show (ru_wy l b).1.length + 1 = l.length + 1
      rw [ru_wy_len l b]
theorem ru_ar9 : tm_ar 9 = 2 := by decide
theorem ru_wy_w : ∀ (l : List Int64) (b m : Nat), tm_w l m → tm_w (ru_wy l b).1 m
  | [], b, m, h => h
  | t :: l, b, m, h => by
    obtain ⟨k, rfl, h1⟩ := tm_w_ne h
    have ih := ru_wy_w l b _ h1
    by_cases h9 : t = 9
    · subst h9
      rw [ru_wy_9]
      refine tm_w_cons.mpr ?_
      rw [ru_ar9] at ih ⊢
      split
      · exact tm_w_sw ih
      · exact ih
    · rw [ru_wy_n h9]
      exact tm_w_cons.mpr ih
theorem ru_wy_mem : ∀ (l : List Int64) (b : Nat) (s : Int64), s ∈ (ru_wy l b).1 → s ∈ l
  | [], b, s, h => h
  | t :: l, b, s, h => by
    by_cases h9 : t = 9
    · subst h9
      rw [ru_wy_9] at h
      rcases List.mem_cons.mp h with h | h
      · exact List.mem_cons.mpr (Or.inl h)
      · refine List.mem_cons.mpr (Or.inr (ru_wy_mem l b s ?_))
        split at h
        · exact ru_sw_mem h
        · exact h
    · rw [ru_wy_n h9] at h
      rcases List.mem_cons.mp h with h | h
      · exact List.mem_cons.mpr (Or.inl h)
      · exact List.mem_cons.mpr (Or.inr (ru_wy_mem l b s h))
theorem ru_wy_hd (t : Int64) (l : List Int64) (b : Nat) : ∃ l', (ru_wy (t :: l) b).1 = t :: l' := by
  by_cases h9 : t = 9
  · subst h9; rw [ru_wy_9]; exact ⟨_, rfl⟩
  · rw [ru_wy_n h9]; exact ⟨_, rfl⟩
/-- the match of a pattern against a term's tokens; an empty list is bound to a name that has no term -/
def ru_mt : List Int64 → List Int64 → (Nat → List Int64) → Option (Nat → List Int64)
  | [], _, β => some β
  | _ :: _, [], _ => none
  | p :: ps, c :: s, β =>
    if p < 8589934592 then (if c = p then ru_mt ps s β else none)
    else if ¬ p < 12884901888 ∧ ¬ tk_N c then none
    else if β (ru_slot p) = [] then ru_mt ps ((c :: s).drop (tm_n (c :: s) 1)) (fun k => if k = ru_slot p then (c :: s).take (tm_n (c :: s) 1) else β k)
    else if β (ru_slot p) = (c :: s).take (tm_n (c :: s) 1) then ru_mt ps ((c :: s).drop (tm_n (c :: s) 1)) β else none
theorem ru_mt_sym {p c : Int64} {ps s : List Int64} {β : Nat → List Int64} (h : p < 8589934592) (hc : c = p) : ru_mt (p :: ps) (c :: s) β = ru_mt ps s β := by
  rw [ru_mt, if_pos h, if_pos hc]
theorem ru_mt_symn {p c : Int64} {ps s : List Int64} {β : Nat → List Int64} (h : p < 8589934592) (hc : ¬ c = p) : ru_mt (p :: ps) (c :: s) β = none := by
  rw [ru_mt, if_pos h, if_neg hc]
theorem ru_mt_w {p c : Int64} {ps s : List Int64} {β : Nat → List Int64} (h : ¬ p < 8589934592) (hw : ¬ p < 12884901888) (hc : ¬ tk_N c) : ru_mt (p :: ps) (c :: s) β = none := by
  rw [ru_mt, if_neg h, if_pos ⟨hw, hc⟩]
theorem ru_mt_new {p c : Int64} {ps a s : List Int64} {β : Nat → List Int64} (h : ¬ p < 8589934592) (hw : p < 12884901888 ∨ tk_N c) (ha : tm_w (c :: a) 1) (hb : β (ru_slot p) = []) : ru_mt (p :: ps) (c :: (a ++ s)) β = ru_mt ps s (fun k => if k = ru_slot p then c :: a else β k) := by
  have e1 : tm_n (c :: (a ++ s)) 1 = (c :: a).length := tm_n_app (c :: a) s 1 ha
  have e2 : (c :: (a ++ s)).drop (c :: a).length = s := List.drop_left (l₁ := c :: a)
  have e3 : (c :: (a ++ s)).take (c :: a).length = c :: a := List.take_left (l₁ := c :: a)
  rw [ru_mt, if_neg h, if_neg (by rcases hw with hw | hw; exact fun z => z.1 hw; exact fun z => z.2 hw), if_pos hb, e1, e2, e3]
theorem ru_mt_old {p c : Int64} {ps a s : List Int64} {β : Nat → List Int64} (h : ¬ p < 8589934592) (hw : p < 12884901888 ∨ tk_N c) (ha : tm_w (c :: a) 1) (hb : β (ru_slot p) = c :: a) : ru_mt (p :: ps) (c :: (a ++ s)) β = ru_mt ps s β := by
  have e1 : tm_n (c :: (a ++ s)) 1 = (c :: a).length := tm_n_app (c :: a) s 1 ha
  have e2 : (c :: (a ++ s)).drop (c :: a).length = s := List.drop_left (l₁ := c :: a)
  have e3 : (c :: (a ++ s)).take (c :: a).length = c :: a := List.take_left (l₁ := c :: a)
  rw [ru_mt, if_neg h, if_neg (by rcases hw with hw | hw; exact fun z => z.1 hw; exact fun z => z.2 hw), if_neg (by rw [hb]; exact List.cons_ne_nil _ _), e1, e2, e3, if_pos hb]
theorem ru_mt_oldn {p c : Int64} {ps a s : List Int64} {β : Nat → List Int64} (h : ¬ p < 8589934592) (hw : p < 12884901888 ∨ tk_N c) (ha : tm_w (c :: a) 1) (hb : ¬ β (ru_slot p) = []) (hb2 : ¬ β (ru_slot p) = c :: a) : ru_mt (p :: ps) (c :: (a ++ s)) β = none := by
  have e1 : tm_n (c :: (a ++ s)) 1 = (c :: a).length := tm_n_app (c :: a) s 1 ha
  have e3 : (c :: (a ++ s)).take (c :: a).length = c :: a := List.take_left (l₁ := c :: a)
  rw [ru_mt, if_neg h, if_neg (by rcases hw with hw | hw; exact fun z => z.1 hw; exact fun z => z.2 hw), if_neg hb, e1, e3, if_neg hb2]
/-- what RIGHT becomes -/
def ru_in (β : Nat → List Int64) (l : List Int64) : List Int64 := l.flatMap (fun t => if t < 8589934592 then [t] else β (ru_slot t))
/-- ways of one rule, k of them from way w on -/
def ru_fw (l s : List Int64) : Nat → Nat → Option (Nat → List Int64)
  | 0, _ => none
  | k + 1, w => match ru_mt (ru_wy l w).1 s (fun _ => []) with
    | some β => some β
    | none => ru_fw l s k (w + 1)
/-- the first rule that matches, k rules from rule r on -/
def ru_fr (L : Nat → List Int64) (s : List Int64) : Nat → Nat → Option (Nat × (Nat → List Int64))
  | 0, _ => none
  | k + 1, r => if L r = [] then ru_fr L s k (r + 1) else match ru_fw (L r) s (2 ^ ru_c9 (L r)) 0 with
    | some β => some (r, β)
    | none => ru_fr L s k (r + 1)
/-- a number fits no LEFT, which begins with a symbol -/
theorem ru_fw_num {t : Int64} {l s : List Int64} {c : Int64} (ht : t < 4294967296) (hc : tk_N c) : ∀ (k w : Nat), ru_fw (t :: l) (c :: s) k w = none
  | 0, _ => rfl
  | k + 1, w => by
    obtain ⟨l', e⟩ := ru_wy_hd t l w
    have h1 : t < 8589934592 := Int64.lt_trans ht (by decide)
    have h2 : ¬ c = t := by
      intro h
      subst h
      exact absurd ht (Int64.not_lt.mpr hc.1)
    rw [ru_fw, e, ru_mt_symn h1 h2]
    exact ru_fw_num ht hc k (w + 1)
theorem ru_fr_num {L : Nat → List Int64} {c : Int64} {s : List Int64} (hc : tk_N c) (hL : ∀ r, L r = [] ∨ ∃ t l, L r = t :: l ∧ t < 4294967296) : ∀ (k r : Nat), ru_fr L (c :: s) k r = none
  | 0, _ => rfl
  | k + 1, r => by
    rw [ru_fr]
    rcases hL r with h | ⟨t, l, h, ht⟩
    · rw [if_pos h]; exact ru_fr_num hc hL k (r + 1)
    · rw [if_neg (by rw [h]; exact List.cons_ne_nil _ _), h, ru_fw_num ht hc]
      exact ru_fr_num hc hL k (r + 1)
