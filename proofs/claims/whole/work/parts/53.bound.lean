/-! the turns are few enough, the stack is low enough -/
def us_n0 : List Int64 → Nat
  | [] => 0
  | t :: l => (if tm_ar t = 0 then 1 else 0) + us_n0 l
theorem us_n0_w : ∀ (l : List Int64) (m : Nat), tm_w l m → us_n0 l = m + us_b l
  | [], m, h => by rw [tm_w_nil] at h; subst h; rfl
  | t :: l, m, h => by
    obtain ⟨k, rfl, h1⟩ := tm_w_ne h
    have ih := us_n0_w l _ h1
    have := tm_ar_le t
    show (if tm_ar t = 0 then 1 else 0) + us_n0 l = k + 1 + ((if tm_ar t = 2 then 1 else 0) + us_b l)
    by_cases h0 : tm_ar t = 0
    · rw [if_pos h0, if_neg (by omega)]; omega
    · rw [if_neg h0]
      by_cases h2 : tm_ar t = 2
      · rw [if_pos h2]; omega
      · rw [if_neg h2]; omega
theorem us_n0_len : ∀ (l : List Int64), us_n0 l + us_b l ≤ l.length
  | [] => by simp [us_n0, us_b]
  | t :: l => by
    have ih := us_n0_len l
    show (if tm_ar t = 0 then 1 else 0) + us_n0 l + ((if tm_ar t = 2 then 1 else 0) + us_b l) ≤ l.length + 1
    by_cases h0 : tm_ar t = 0
    · rw [if_pos h0, if_neg (by omega)]; omega
    · rw [if_neg h0]; split <;> omega
def us_q (rk : Nat → Nat) (k : Nat) : List Int64 → Nat
  | [] => 0
  | t :: l => (if ¬ t < 8589934592 ∧ rk (jn_n t) = k then 1 else 0) + us_q rk k l
theorem us_q_app (rk : Nat → Nat) (k : Nat) : ∀ (a b : List Int64), us_q rk k (a ++ b) = us_q rk k a + us_q rk k b
  | [], b => by simp [us_q]
  | t :: a, b => by
    show _ + us_q rk k (a ++ b) = _
    rw [us_q_app rk k a b, us_q]; omega
def us_sm (f : Nat → Nat) : Nat → Nat
  | 0 => 0
  | k + 1 => us_sm f k + f k
theorem us_sm_le {f g : Nat → Nat} (h : ∀ k, f k ≤ g k) : ∀ K, us_sm f K ≤ us_sm g K
  | 0 => Nat.le_refl _
  | K + 1 => by
    have := us_sm_le h K
    have := h K
    show us_sm f K + f K ≤ us_sm g K + g K
    omega
theorem us_sm_eq {f g : Nat → Nat} (h : ∀ k, f k = g k) (K : Nat) : us_sm f K = us_sm g K := by
  rw [show f = g from funext h]
theorem us_sm_add (f : Nat → Nat) (j x : Nat) : ∀ K, j < K → us_sm (fun k => (if j = k then x else 0) + f k) K = x + us_sm f K
  | 0, h => absurd h (by omega)
  | K + 1, h => by
    show us_sm (fun k => (if j = k then x else 0) + f k) K + ((if j = K then x else 0) + f K) = x + (us_sm f K + f K)
    by_cases e : j = K
    · have : ∀ K', K' ≤ j → us_sm (fun k => (if j = k then x else 0) + f k) K' = us_sm f K' := by
        intro K'
        induction K' with
        | zero => intro _; rfl
        | succ K' ih =>
          intro hK
          show us_sm _ K' + ((if j = K' then x else 0) + f K') = us_sm f K' + f K'
          rw [ih (by omega), if_neg (by omega)]; omega
      rw [if_pos e, this K (by omega)]; omega
    · rw [us_sm_add f j x K (by omega), if_neg e]; omega
def us_A (O : Nat → Nat) : Nat → Nat
  | 0 => 29
  | k + 1 => us_A O k + O k * us_A O k
theorem us_A_sum (O : Nat → Nat) : ∀ K, 29 + us_sm (fun k => O k * us_A O k) K = us_A O K
  | 0 => rfl
  | K + 1 => by
    have := us_A_sum O K
    show 29 + (us_sm (fun k => O k * us_A O k) K + O K * us_A O K) = us_A O K + O K * us_A O K
    omega
theorem us_A_ge (O : Nat → Nat) (K : Nat) : 29 ≤ us_A O K := by
  have := us_A_sum O K; omega
theorem us_W_le (O rk : Nat → Nat) (K : Nat) : ∀ (l : List Int64), (∀ t, t ∈ l → ¬ t < 8589934592 → rk (jn_n t) < K) → us_W (fun v => us_A O (rk v)) l ≤ l.length + us_sm (fun k => us_q rk k l * us_A O k) K
  | [], _ => by simp [us_W]
  | t :: l, h => by
    have ih := us_W_le O rk K l (fun x hx => h x (List.mem_cons.mpr (Or.inr hx)))
    show (if t < 8589934592 then 1 else us_A O (rk (jn_n t))) + us_W _ l ≤ l.length + 1 + us_sm (fun k => ((if ¬ t < 8589934592 ∧ rk (jn_n t) = k then 1 else 0) + us_q rk k l) * us_A O k) K
    by_cases ht : t < 8589934592
    · rw [if_pos ht, us_sm_eq (g := fun k => us_q rk k l * us_A O k) (fun k => by rw [if_neg (fun z => z.1 ht), Nat.zero_add])]
      omega
    · rw [if_neg ht, us_sm_eq (g := fun k => (if rk (jn_n t) = k then us_A O (rk (jn_n t)) else 0) + us_q rk k l * us_A O k) (fun k => by
        by_cases e : rk (jn_n t) = k
        · rw [if_pos ⟨ht, e⟩, if_pos e, Nat.add_mul, Nat.one_mul, e]
        · rw [if_neg (fun z => e z.2), if_neg e, Nat.zero_add, Nat.zero_add]), us_sm_add (fun k => us_q rk k l * us_A O k) (rk (jn_n t)) _ K (h t (List.mem_cons.mpr (Or.inl rfl)) ht)]
      omega
theorem us_q_sum (rk : Nat → Nat) (hrk : ∀ v, rk v < 8) : ∀ (l : List Int64), (∀ t, t ∈ l → jn_k t) → us_sm (fun k => us_q rk k l) 8 ≤ us_n0 l
  | [], _ => Nat.le_refl 0
  | t :: l, h => by
    have ih := us_q_sum rk hrk l (fun x hx => h x (List.mem_cons.mpr (Or.inr hx)))
    show us_sm (fun k => (if ¬ t < 8589934592 ∧ rk (jn_n t) = k then 1 else 0) + us_q rk k l) 8 ≤ (if tm_ar t = 0 then 1 else 0) + us_n0 l
    by_cases ht : t < 8589934592
    · rw [us_sm_eq (g := fun k => us_q rk k l) (fun k => by rw [if_neg (fun z => z.1 ht), Nat.zero_add])]
      omega
    · rw [us_sm_eq (g := fun k => (if rk (jn_n t) = k then 1 else 0) + us_q rk k l) (fun k => by
        by_cases e : rk (jn_n t) = k
        · rw [if_pos ⟨ht, e⟩, if_pos e]
        · rw [if_neg (fun z => e z.2), if_neg e]), us_sm_add (fun k => us_q rk k l) (rk (jn_n t)) 1 8 (hrk _), if_pos (jn_var (h t (List.mem_cons.mpr (Or.inl rfl))) ht).2.2]
      omega
theorem us_am (x y : Nat) : 4 * (x * y) ≤ (x + y) * (x + y) := by
  have h : ∀ a b : Nat, a ≤ b → 4 * (a * b) ≤ (a + b) * (a + b) := by
    intro a b hab
    obtain ⟨d, rfl⟩ : ∃ d, b = a + d := ⟨b - a, by omega⟩
    have e : (a + (a + d)) * (a + (a + d)) = 4 * (a * (a + d)) + d * d := by grind
    omega
  rcases Nat.le_total x y with hxy | hxy
  · exact h x y hxy
  · have := h y x hxy
    rw [Nat.mul_comm y x, Nat.add_comm y x] at this
    exact this
theorem us_am4 (a b c d : Nat) : 256 * ((a * b) * (c * d)) ≤ (a + b + c + d) ^ 4 := by
  have h1 := us_am a b
  have h2 := us_am c d
  have h3 := us_am (a + b) (c + d)
  have h4 : (4 * (a * b)) * (4 * (c * d)) ≤ ((a + b) * (a + b)) * ((c + d) * (c + d)) := Nat.mul_le_mul h1 h2
  have h5 : (4 * ((a + b) * (c + d))) * (4 * ((a + b) * (c + d))) ≤ ((a + b + (c + d)) * (a + b + (c + d))) * ((a + b + (c + d)) * (a + b + (c + d))) := Nat.mul_le_mul h3 h3
  have e1 : (4 * (a * b)) * (4 * (c * d)) = 16 * ((a * b) * (c * d)) := by grind
  have e2 : (4 * ((a + b) * (c + d))) * (4 * ((a + b) * (c + d))) = 16 * (((a + b) * (a + b)) * ((c + d) * (c + d))) := by grind
  have e3 : ((a + b + (c + d)) * (a + b + (c + d))) * ((a + b + (c + d)) * (a + b + (c + d))) = (a + b + c + d) ^ 4 := by grind
  omega
theorem us_am8 (a b c d e f g h : Nat) (hs : a + b + c + d + (e + f + g + h) ≤ 38) : ((a * b) * (c * d)) * ((e * f) * (g * h)) ≤ 259148 := by
  have h1 := us_am4 a b c d
  have h2 := us_am4 e f g h
  have h3 := us_am (a + b + c + d) (e + f + g + h)
  have h4 : (a + b + c + d + (e + f + g + h)) * (a + b + c + d + (e + f + g + h)) ≤ 38 * 38 := Nat.mul_le_mul hs hs
  have h5 : (a + b + c + d) * (e + f + g + h) ≤ 361 := by omega
  have h6 : ((a + b + c + d) * (e + f + g + h)) ^ 4 ≤ 361 ^ 4 := Nat.pow_le_pow_left h5 4
  rw [Nat.mul_pow] at h6
  have h7 : (256 * ((a * b) * (c * d))) * (256 * ((e * f) * (g * h))) ≤ (a + b + c + d) ^ 4 * (e + f + g + h) ^ 4 := Nat.mul_le_mul h1 h2
  have e1 : (256 * ((a * b) * (c * d))) * (256 * ((e * f) * (g * h))) = 65536 * (((a * b) * (c * d)) * ((e * f) * (g * h))) := by grind
  have e2 : (361 : Nat) ^ 4 = 16983563041 := by decide
  omega
theorem us_A_8 (O : Nat → Nat) (h : us_sm O 8 ≤ 30) : us_A O 8 < 10000000 := by
  have e : us_A O 8 = 29 * ((((1 + O 0) * (1 + O 1)) * ((1 + O 2) * (1 + O 3))) * (((1 + O 4) * (1 + O 5)) * ((1 + O 6) * (1 + O 7)))) := by
    simp only [us_A]
    grind
  have hs : us_sm O 8 = 0 + O 0 + O 1 + O 2 + O 3 + O 4 + O 5 + O 6 + O 7 := rfl
  have := us_am8 (1 + O 0) (1 + O 1) (1 + O 2) (1 + O 3) (1 + O 4) (1 + O 5) (1 + O 6) (1 + O 7) (by omega)
  omega
section
variable {J : Nat → Int64} {A B : List Int64} {σ : Nat → Option Nat}
theorem us_q_t (H : jn_H J A B) (rk : Nat → Nat) (k : Nat) {p : Nat} (hp : jn_v A B p) : us_q rk k (jn_t A B p) ≤ us_q rk k A + us_q rk k B := by
  obtain ⟨l, r, m, q1, q2, q3, q4, q5, _⟩ := jn_tm H hp
  unfold jn_s at q4
  have hd : ∀ (C : List Int64) (n : Nat), us_q rk k (C.drop n) ≤ us_q rk k C := by
    intro C n
    have := us_q_app rk k (C.take n) (C.drop n)
    rw [List.take_append_drop] at this
    omega
  have h1 := us_q_app rk k (jn_t A B p) r
  by_cases h30 : p < 30
  · rw [if_pos h30] at q4
    rw [← q4] at h1
    have := hd A p
    omega
  · rw [if_neg h30] at q4
    rw [← q4] at h1
    have := hd B (p - 30)
    omega
theorem us_turns (H : jn_H J A B) {p0 q0 n p q : Nat} {S : List (Nat × Nat)} (h0 : jn_v A B p0) (hI : us_I A B p0 q0 n ((p, q) :: S) σ) : n < 10000000 ∧ S.length ≤ 126 := by
  obtain ⟨⟨rk, hR⟩, hv, hW, hB, _⟩ := hI
  have hp := (hv p q (List.mem_cons.mpr (Or.inl rfl))).1
  have hkk : ∀ p, jn_v A B p → ∀ t, t ∈ jn_t A B p → jn_k t := fun p hp => by
    obtain ⟨_, _, _, _, _, _, _, _, _, z, _⟩ := jn_tm H hp
    exact z
  have hsmall : ∀ p, jn_v A B p → us_b (jn_t A B p) ≤ 14 := fun p hp => by
    obtain ⟨_, _, _, _, _, z, _⟩ := jn_tm H hp
    have := us_n0_w _ _ z
    have := us_n0_len (jn_t A B p)
    have := (jn_lt H hp).2.2.2
    omega
  constructor
  · have hO : us_sm (fun k => us_q rk k A + us_q rk k B) 8 ≤ 30 := by
      obtain ⟨a1, b1, a2, b2, _, _, a3, b3⟩ := H
      have s1 := us_q_sum rk hR.1 A a3
      have s2 := us_q_sum rk hR.1 B b3
      have := us_n0_w _ _ a1
      have := us_n0_len A
      have := us_n0_w _ _ b1
      have := us_n0_len B
      have e : ∀ K, us_sm (fun k => us_q rk k A + us_q rk k B) K = us_sm (fun k => us_q rk k A) K + us_sm (fun k => us_q rk k B) K := by
        intro K
        induction K with
        | zero => rfl
        | succ K ih =>
          show us_sm _ K + (us_q rk K A + us_q rk K B) = (us_sm _ K + us_q rk K A) + (us_sm _ K + us_q rk K B)
          rw [ih]; omega
      rw [e]
      omega
    have hle : ∀ (r K : Nat), jn_v A B r → (∀ t, t ∈ jn_t A B r → ¬ t < 8589934592 → rk (jn_n t) < K) → us_W (fun v => us_A (fun k => us_q rk k A + us_q rk k B) (rk v)) (jn_t A B r) ≤ us_A (fun k => us_q rk k A + us_q rk k B) K := by
      intro r K hr hK
      have h1 := us_W_le (fun k => us_q rk k A + us_q rk k B) rk K (jn_t A B r) hK
      have h2 := (jn_lt H hr).2.2.2
      have h3 := us_A_sum (fun k => us_q rk k A + us_q rk k B) K
      have h4 : us_sm (fun k => us_q rk k (jn_t A B r) * us_A (fun k => us_q rk k A + us_q rk k B) k) K ≤ us_sm (fun k => (us_q rk k A + us_q rk k B) * us_A (fun k => us_q rk k A + us_q rk k B) k) K := us_sm_le (fun k => Nat.mul_le_mul_right _ (us_q_t H rk k hr)) K
      omega
    have hsup : us_Ws A B σ (fun v => us_A (fun k => us_q rk k A + us_q rk k B) (rk v)) := by
      refine ⟨fun v => ?_, fun v r e => ?_⟩
      · have := us_A_ge (fun k => us_q rk k A + us_q rk k B) (rk v)
        dsimp only
        omega
      · obtain ⟨_, hr, hrk⟩ := hR.2 v r e
        exact hle r (rk v) hr hrk
    have h1 := hW _ hsup
    have h2 := us_W_pos H hsup hp
    have h3 := hle p0 8 h0 (fun t _ _ => hR.1 _)
    have h4 := us_A_8 _ hO
    have h5 : us_SW A B (fun v => us_A (fun k => us_q rk k A + us_q rk k B) (rk v)) ((p, q) :: S) = us_W (fun v => us_A (fun k => us_q rk k A + us_q rk k B) (rk v)) (jn_t A B p) + us_SW A B (fun v => us_A (fun k => us_q rk k A + us_q rk k B) (rk v)) S := rfl
    omega
  · have hm : ∀ (l : List Int64) (K : Nat), (∀ t, t ∈ l → ¬ t < 8589934592 → rk (jn_n t) < K) → us_m (fun v => 14 * (rk v + 1)) l ≤ 14 * K := by
      intro l
      induction l with
      | nil => intro K _; simp [us_m]
      | cons t l ih =>
        intro K hK
        have h1 := ih K (fun x hx => hK x (List.mem_cons.mpr (Or.inr hx)))
        show max (if t < 8589934592 then 0 else 14 * (rk (jn_n t) + 1)) (us_m _ l) ≤ 14 * K
        by_cases ht : t < 8589934592
        · rw [if_pos ht]; omega
        · rw [if_neg ht]
          have := hK t (List.mem_cons.mpr (Or.inl rfl)) ht
          omega
    have hsup : us_Bs A B σ (fun v => 14 * (rk v + 1)) := by
      intro v r e
      obtain ⟨_, hr, hrk⟩ := hR.2 v r e
      have h1 := hsmall r hr
      have h2 := hm (jn_t A B r) (rk v) hrk
      dsimp only
      omega
    have h1 := (hB _ hsup).1
    have h2 := hsmall p0 h0
    have h3 := hm (jn_t A B p0) 8 (fun t _ _ => hR.1 _)
    omega
end
