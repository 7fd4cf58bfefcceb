/-! two plain rules side by side: places, terms, variables -/
def jn_n (t : Int64) : Nat := (t.toInt - 8589934592).toNat
def jn_k (t : Int64) : Prop := ∃ n, t = lN n ∧ (n < 9 ∨ (8589934592 ≤ n ∧ n < 8589934600))
def jn_s (A B : List Int64) (p : Nat) : List Int64 := if p < 30 then A.drop p else B.drop (p - 30)
def jn_t (A B : List Int64) (p : Nat) : List Int64 := (jn_s A B p).take (tm_n (jn_s A B p) 1)
def jn_v (A B : List Int64) (p : Nat) : Prop := p < A.length ∨ (30 ≤ p ∧ p < 30 + B.length)
def jn_H (J : Nat → Int64) (A B : List Int64) : Prop := tm_w A 1 ∧ tm_w B 1 ∧ A.length ≤ 29 ∧ B.length ≤ 29 ∧ hd_h J 0 A ∧ hd_h J 30 B ∧ (∀ t, t ∈ A → jn_k t) ∧ ∀ t, t ∈ B → jn_k t
theorem jn_cases {t : Int64} (h : jn_k t) : (∃ n, n < 9 ∧ t = lN n ∧ t < 8589934592) ∨ (∃ v, v < 8 ∧ t = lN (8589934592 + v) ∧ ¬ t < 8589934592 ∧ jn_n t = v ∧ tm_ar t = 0) := by
  obtain ⟨n, rfl, h⟩ := h
  by_cases h9 : n < 9
  · exact Or.inl ⟨n, h9, rfl, (tk_lt 8589934592 (by omega)).mpr (by omega)⟩
  · obtain ⟨v, rfl⟩ : ∃ v, n = 8589934592 + v := ⟨n - 8589934592, by omega⟩
    refine Or.inr ⟨v, by omega, rfl, by rw [tk_lt 8589934592 (by omega)]; omega, ?_, ?_⟩
    · unfold jn_n
      rw [pk_lT (by omega)]; omega
    · rw [tk_ar_n (by omega), if_neg (by omega), if_neg (by omega)]
theorem jn_nv {v : Nat} (hv : v < 8) : jn_n (lN (8589934592 + v)) = v := by
  unfold jn_n
  rw [pk_lT (by omega)]; omega
theorem jn_var {t : Int64} (h : jn_k t) (hn : ¬ t < 8589934592) : jn_n t < 8 ∧ t = lN (8589934592 + jn_n t) ∧ tm_ar t = 0 := by
  rcases jn_cases h with ⟨n, h1, e, h2⟩ | ⟨v, h1, e, h2, h3, h4⟩
  · exact absurd h2 hn
  · exact ⟨by omega, by rw [h3]; exact e, h4⟩
theorem jn_and7 {t : Int64} (h : jn_k t) (hn : ¬ t < 8589934592) : (t &&& 7).toInt32 = nI (jn_n t) := by
  obtain ⟨h1, h2, _⟩ := jn_var h hn
  rw [h2, ru_and7 (by omega), jn_nv h1]
  congr 1
  omega
theorem hd_ex {α : Type} (f : Nat → α) : ∀ (n i : Nat), ∃ r : List α, r.length = n ∧ hd_h f i r
  | 0, i => ⟨[], rfl, trivial⟩
  | n + 1, i => by
    obtain ⟨r, h1, h2⟩ := hd_ex f n (i + 1)
    exact ⟨f i :: r, by simp [h1], rfl, h2⟩
section
variable {J : Nat → Int64} {A B : List Int64}
theorem jn_suf (H : jn_H J A B) {p : Nat} (hp : jn_v A B p) : ∃ l k, jn_s A B p = J p :: l ∧ tm_w (J p :: l) (k + 1) ∧ hd_h J p (J p :: l) ∧ (∀ t, t ∈ J p :: l → jn_k t) ∧ (p < 30 → p + (l.length + 1) = A.length) ∧ (¬ p < 30 → p + (l.length + 1) = 30 + B.length) := by
  obtain ⟨h1, h2, h3, h4, h5, h6, h7, h8⟩ := H
  have go : ∀ (C : List Int64) (b q : Nat), tm_w C 1 → hd_h J b C → (∀ t, t ∈ C → jn_k t) → q < C.length → p = b + q → ∃ l k, C.drop q = J p :: l ∧ tm_w (J p :: l) (k + 1) ∧ hd_h J p (J p :: l) ∧ (∀ t, t ∈ J p :: l → jn_k t) ∧ q + (l.length + 1) = C.length := by
    intro C b q hC hJ hk hq e
    have hs : C = C.take q ++ C.drop q := (List.take_append_drop q C).symm
    have hd := hJ
    rw [hs] at hd
    have hd2 := (hd_app.mp hd).2
    rw [List.length_take, Nat.min_eq_left (by omega), ← e] at hd2
    have hw := hC
    rw [hs] at hw
    obtain ⟨k, hk2⟩ := tm_w_suf _ _ _ hw
    have hl : (C.drop q).length = C.length - q := List.length_drop
    cases hcd : C.drop q with
    | nil => rw [hcd] at hl; simp at hl; omega
    | cons x l =>
      rw [hcd] at hd2 hk2 hl
      have ex : J p = x := hd2.1
      rw [ex]
      obtain ⟨k', rfl, _⟩ := tm_w_ne hk2
      refine ⟨l, k', rfl, hk2, by rw [← ex] at hd2 ⊢; exact hd2, fun t ht => hk t ?_, ?_⟩
      · rw [← hcd] at ht
        exact List.mem_of_mem_drop ht
      · rw [List.length_cons] at hl; omega
  unfold jn_s
  by_cases h30 : p < 30
  · have hpA : p < A.length := by rcases hp with h | h; exact h; omega
    rw [if_pos h30]
    obtain ⟨l, k, q1, q2, q3, q4, q5⟩ := go A 0 p h1 h5 h7 hpA (by omega)
    exact ⟨l, k, q1, q2, q3, q4, fun _ => by omega, fun z => absurd h30 z⟩
  · have hpB : p - 30 < B.length := by rcases hp with h | h <;> omega
    rw [if_neg h30]
    obtain ⟨l, k, q1, q2, q3, q4, q5⟩ := go B 30 (p - 30) h2 h6 h8 hpB (by omega)
    exact ⟨l, k, q1, q2, q3, q4, fun z => absurd z h30, fun _ => by omega⟩
theorem jn_tm (H : jn_H J A B) {p : Nat} (hp : jn_v A B p) : ∃ l r k, jn_t A B p = J p :: l ∧ tm_w l (tm_ar (J p)) ∧ tm_w (jn_t A B p) 1 ∧ jn_s A B p = jn_t A B p ++ r ∧ tm_w r k ∧ hd_h J p (jn_t A B p) ∧ (∀ t, t ∈ jn_t A B p → jn_k t) ∧ (p < 30 → p + ((jn_t A B p).length + r.length) = A.length) ∧ (¬ p < 30 → p + ((jn_t A B p).length + r.length) = 30 + B.length) := by
  obtain ⟨l, k, q1, q2, q3, q4, q5, q6⟩ := jn_suf H hp
  obtain ⟨a, r, e, ha, hr⟩ := tm_w_split (J p :: l) 1 k (by rw [Nat.add_comm]; exact q2)
  have et : jn_t A B p = a := by
    unfold jn_t
    rw [q1, e, tm_n_app a r 1 ha, List.take_left]
  obtain ⟨x, a', ea, ha'⟩ := tm_w_pos ha
  have ex : x = J p := by rw [ea] at e; injection e with e1 _; exact e1.symm
  subst ex
  rw [et]
  rw [e] at q3 q4
  have hlen : l.length + 1 = a.length + r.length := by
    have := congrArg List.length e
    rw [List.length_cons, List.length_append] at this
    exact this
  refine ⟨a', r, k, ea, ha', ha, by rw [q1, e], hr, (hd_app.mp q3).1, fun t ht => q4 t (List.mem_append.mpr (Or.inl ht)), fun z => ?_, fun z => ?_⟩
  · have := q5 z; omega
  · have := q6 z; omega
theorem jn_J (H : jn_H J A B) {p : Nat} (hp : jn_v A B p) : jn_k (J p) := by
  obtain ⟨l, r, k, q1, _, _, _, _, _, q, _⟩ := jn_tm H hp
  exact q (J p) (by rw [q1]; simp)
theorem jn_lt (H : jn_H J A B) {p : Nat} (hp : jn_v A B p) : p + (jn_t A B p).length ≤ 59 ∧ p < 60 ∧ 1 ≤ (jn_t A B p).length ∧ (jn_t A B p).length ≤ 29 := by
  obtain ⟨l, r, k, q1, _, _, _, _, _, _, q8, q9⟩ := jn_tm H hp
  obtain ⟨_, _, h3, h4, _⟩ := H
  have hl : (jn_t A B p).length = l.length + 1 := by rw [q1]; rfl
  by_cases h30 : p < 30
  · have := q8 h30; omega
  · have := q9 h30; omega
theorem jn_leaf (H : jn_H J A B) {p : Nat} (hp : jn_v A B p) (h0 : tm_ar (J p) = 0) : jn_t A B p = [J p] := by
  obtain ⟨l, r, k, q1, q2, _⟩ := jn_tm H hp
  rw [h0] at q2
  rw [q1, tm_w_0 q2]
/-- the place behind p, in the same rule -/
theorem jn_next (H : jn_H J A B) {p : Nat} (hp : jn_v A B p) {l : List Int64} (hs : jn_s A B p = J p :: l) : jn_s A B (p + 1) = l ∧ (l ≠ [] → jn_v A B (p + 1)) := by
  obtain ⟨l', k, q1, q2, q3, q4, q5, q6⟩ := jn_suf H hp
  have el : l' = l := by rw [q1] at hs; injection hs
  subst el
  obtain ⟨_, _, h3, h4, _⟩ := H
  unfold jn_s at q1 ⊢
  by_cases h30 : p < 30
  · rw [if_pos h30] at q1
    have := q5 h30
    refine ⟨?_, fun hne => ?_⟩
    · rw [if_pos (by omega), ← List.drop_drop, q1]; rfl
    · have : 0 < l'.length := List.length_pos_iff.mpr hne
      exact Or.inl (by omega)
  · rw [if_neg h30] at q1
    have := q6 h30
    refine ⟨?_, fun hne => ?_⟩
    · rw [if_neg (by omega), show p + 1 - 30 = (p - 30) + 1 by omega, ← List.drop_drop, q1]; rfl
    · have : 0 < l'.length := List.length_pos_iff.mpr hne
      exact Or.inr (by omega)
/-- n places on, in the same rule -/
theorem jn_skip (H : jn_H J A B) : ∀ (a r : List Int64) (p : Nat), jn_v A B p → jn_s A B p = a ++ r → r ≠ [] → jn_s A B (p + a.length) = r ∧ jn_v A B (p + a.length)
  | [], r, p, hp, hs, hr => ⟨hs, hp⟩
  | x :: a, r, p, hp, hs, hr => by
    obtain ⟨l, k, q1, _⟩ := jn_suf H hp
    have e : J p = x ∧ l = a ++ r := by
      rw [q1, List.cons_append] at hs
      injection hs with e1 e2
      exact ⟨e1, e2⟩
    obtain ⟨n1, n2⟩ := jn_next H hp q1
    have hl : l ≠ [] := by rw [e.2]; simp [hr]
    have := jn_skip H a r (p + 1) (n2 hl) (by rw [n1]; exact e.2) hr
    rw [List.length_cons, show p + (a.length + 1) = p + 1 + a.length by omega]
    exact this
theorem jn_args (H : jn_H J A B) {p : Nat} (hp : jn_v A B p) {m : Nat} (hm : tm_ar (J p) = m + 1) : jn_v A B (p + 1) ∧ ∃ l, jn_t A B p = J p :: (jn_t A B (p + 1) ++ l) ∧ tm_w l m ∧ (l ≠ [] → jn_v A B (p + 1 + (jn_t A B (p + 1)).length)) ∧ (m = 1 → l = jn_t A B (p + 1 + (jn_t A B (p + 1)).length)) := by
  obtain ⟨l, r, k, q1, q2, q3, q4, q5, q6, q7, q8, q9⟩ := jn_tm H hp
  rw [hm] at q2
  obtain ⟨a, b, e, ha, hb⟩ := tm_w_split l 1 m (by rw [Nat.add_comm]; exact q2)
  have hs : jn_s A B p = J p :: (a ++ (b ++ r)) := by rw [q4, q1, e, List.cons_append, List.append_assoc]
  obtain ⟨n1, n2⟩ := jn_next H hp hs
  have hane : a ≠ [] := by obtain ⟨x, a', ea, _⟩ := tm_w_pos ha; rw [ea]; exact List.cons_ne_nil _ _
  have hv1 : jn_v A B (p + 1) := n2 (by simp [hane])
  have et1 : jn_t A B (p + 1) = a := by
    unfold jn_t
    rw [n1, tm_n_app a _ 1 ha, List.take_left]
  refine ⟨hv1, b, by rw [q1, e, et1], hb, fun hbne => ?_, fun h1 => ?_⟩
  · rw [et1]
    exact (jn_skip H a (b ++ r) (p + 1) hv1 n1 (by simp [hbne])).2
  · subst h1
    obtain ⟨x, b', eb, _⟩ := tm_w_pos hb
    have hbne : b ++ r ≠ [] := by rw [eb]; simp
    rw [et1]
    have := (jn_skip H a (b ++ r) (p + 1) hv1 n1 hbne).1
    unfold jn_t
    rw [this, tm_n_app b _ 1 hb, List.take_left]
end
