/-! substitutions: what stands for a variable, ranks, weights, expansions -/
def us_1 (J : Nat → Int64) (σ : Nat → Option Nat) (p : Nat) : Nat := if J p < 8589934592 then p else match σ (jn_n (J p)) with
  | some q => q
  | none => p
def us_f (J : Nat → Int64) (σ : Nat → Option Nat) : Nat → Nat → Nat
  | 0, p => p
  | k + 1, p => us_f J σ k (us_1 J σ p)
def us_R (A B : List Int64) (σ : Nat → Option Nat) (rk : Nat → Nat) : Prop := (∀ v, rk v < 8) ∧ ∀ v q, σ v = some q → v < 8 ∧ jn_v A B q ∧ ∀ t, t ∈ jn_t A B q → ¬ t < 8589934592 → rk (jn_n t) < rk v
theorem us_1_sym {J : Nat → Int64} {σ : Nat → Option Nat} {p : Nat} (h : J p < 8589934592) : us_1 J σ p = p := if_pos h
theorem us_1_some {J : Nat → Int64} {σ : Nat → Option Nat} {p q : Nat} (h : ¬ J p < 8589934592) (hq : σ (jn_n (J p)) = some q) : us_1 J σ p = q := by
  unfold us_1
  rw [if_neg h, hq]
theorem us_1_none {J : Nat → Int64} {σ : Nat → Option Nat} {p : Nat} (h : ¬ J p < 8589934592) (hq : σ (jn_n (J p)) = none) : us_1 J σ p = p := by
  unfold us_1
  rw [if_neg h, hq]
theorem us_fixp {J : Nat → Int64} {σ : Nat → Option Nat} {p : Nat} (h : us_1 J σ p = p) : ∀ k, us_f J σ k p = p
  | 0 => rfl
  | k + 1 => by rw [us_f, h]; exact us_fixp h k
def us_W (ρ : Nat → Nat) : List Int64 → Nat
  | [] => 0
  | t :: l => (if t < 8589934592 then 1 else ρ (jn_n t)) + us_W ρ l
theorem us_W_app (ρ : Nat → Nat) : ∀ (a b : List Int64), us_W ρ (a ++ b) = us_W ρ a + us_W ρ b
  | [], b => by simp [us_W]
  | t :: a, b => by
    show (if t < 8589934592 then 1 else ρ (jn_n t)) + us_W ρ (a ++ b) = _
    rw [us_W_app ρ a b, us_W]; omega
def us_b : List Int64 → Nat
  | [] => 0
  | t :: l => (if tm_ar t = 2 then 1 else 0) + us_b l
theorem us_b_app : ∀ (a b : List Int64), us_b (a ++ b) = us_b a + us_b b
  | [], b => by simp [us_b]
  | t :: a, b => by
    show (if tm_ar t = 2 then 1 else 0) + us_b (a ++ b) = _
    rw [us_b_app a b, us_b]; omega
def us_m (ρ : Nat → Nat) : List Int64 → Nat
  | [] => 0
  | t :: l => max (if t < 8589934592 then 0 else ρ (jn_n t)) (us_m ρ l)
theorem us_m_app (ρ : Nat → Nat) : ∀ (a b : List Int64), us_m ρ (a ++ b) = max (us_m ρ a) (us_m ρ b)
  | [], b => by simp [us_m]
  | t :: a, b => by
    show max _ (us_m ρ (a ++ b)) = _
    rw [us_m_app ρ a b, us_m]; omega
def us_E (ρ : Nat → List Int64) (l : List Int64) : List Int64 := l.flatMap (fun t => if t < 8589934592 then [t] else ρ (jn_n t))
theorem us_E_app (ρ : Nat → List Int64) (a b : List Int64) : us_E ρ (a ++ b) = us_E ρ a ++ us_E ρ b := by
  unfold us_E
  rw [List.flatMap_append]
theorem us_E_sym {ρ : Nat → List Int64} {t : Int64} {l : List Int64} (h : t < 8589934592) : us_E ρ (t :: l) = t :: us_E ρ l := by
  unfold us_E
  rw [List.flatMap_cons, if_pos h]; rfl
theorem us_E_var {ρ : Nat → List Int64} {t : Int64} {l : List Int64} (h : ¬ t < 8589934592) : us_E ρ (t :: l) = ρ (jn_n t) ++ us_E ρ l := by
  unfold us_E
  rw [List.flatMap_cons, if_neg h]
theorem us_E_congr {ρ ρ' : Nat → List Int64} : ∀ {l : List Int64}, (∀ t, t ∈ l → ¬ t < 8589934592 → ρ (jn_n t) = ρ' (jn_n t)) → us_E ρ l = us_E ρ' l
  | [], _ => rfl
  | t :: l, h => by
    have ih := us_E_congr (l := l) (fun x hx => h x (List.mem_cons.mpr (Or.inr hx)))
    by_cases ht : t < 8589934592
    · rw [us_E_sym ht, us_E_sym ht, ih]
    · rw [us_E_var ht, us_E_var ht, ih, h t (List.mem_cons.mpr (Or.inl rfl)) ht]
theorem us_E_mem {ρ : Nat → List Int64} {l : List Int64} {t z : Int64} (ht : t ∈ l) (hn : ¬ t < 8589934592) (hz : z ∈ ρ (jn_n t)) : z ∈ us_E ρ l := by
  unfold us_E
  rw [List.mem_flatMap]
  exact ⟨t, ht, by rw [if_neg hn]; exact hz⟩
/-- the expansion of a variable, so many bindings deep -/
def us_h (A B : List Int64) (σ : Nat → Option Nat) : Nat → Nat → List Int64
  | 0, v => [lN (8589934592 + v)]
  | d + 1, v => match σ v with
    | none => [lN (8589934592 + v)]
    | some q => us_E (us_h A B σ d) (jn_t A B q)
theorem us_h_none {A B : List Int64} {σ : Nat → Option Nat} {v : Nat} (h : σ v = none) : ∀ d, us_h A B σ d v = [lN (8589934592 + v)]
  | 0 => rfl
  | d + 1 => by rw [us_h, h]
theorem us_h_some {A B : List Int64} {σ : Nat → Option Nat} {v q : Nat} (h : σ v = some q) (d : Nat) : us_h A B σ (d + 1) v = us_E (us_h A B σ d) (jn_t A B q) := by rw [us_h, h]
def us_Es (A B : List Int64) (σ : Nat → Option Nat) (ρ : Nat → List Int64) : Prop := ∀ v q, σ v = some q → ρ v = us_E ρ (jn_t A B q)
def us_Ws (A B : List Int64) (σ : Nat → Option Nat) (ρ : Nat → Nat) : Prop := (∀ v, 1 ≤ ρ v) ∧ ∀ v q, σ v = some q → us_W ρ (jn_t A B q) ≤ ρ v
def us_Bs (A B : List Int64) (σ : Nat → Option Nat) (ρ : Nat → Nat) : Prop := ∀ v q, σ v = some q → us_b (jn_t A B q) + us_m ρ (jn_t A B q) ≤ ρ v
theorem us_h_st {A B : List Int64} {σ : Nat → Option Nat} {rk : Nat → Nat} (hR : us_R A B σ rk) : ∀ (d v : Nat), rk v < d → us_h A B σ d v = us_h A B σ (d + 1) v
  | 0, v, h => absurd h (by omega)
  | d + 1, v, h => by
    cases e : σ v with
    | none => rw [us_h_none e, us_h_none e]
    | some q =>
      rw [us_h_some e, us_h_some e]
      refine us_E_congr (fun t ht hn => us_h_st hR d _ ?_)
      have := (hR.2 v q e).2.2 t ht hn
      omega
theorem us_h_sol {A B : List Int64} {σ : Nat → Option Nat} {rk : Nat → Nat} (hR : us_R A B σ rk) : us_Es A B σ (us_h A B σ 8) := by
  intro v q e
  rw [us_h_some e 7]
  refine us_E_congr (fun t ht hn => us_h_st hR 7 _ ?_)
  have h1 := (hR.2 v q e).2.2 t ht hn
  have h2 := hR.1 v
  omega
section
variable {J : Nat → Int64} {A B : List Int64} {σ : Nat → Option Nat} {rk : Nat → Nat}
theorem us_fol (H : jn_H J A B) (hR : us_R A B σ rk) : ∀ (k p : Nat), jn_v A B p → (¬ J p < 8589934592 → rk (jn_n (J p)) < k) → jn_v A B (us_f J σ k p) ∧ (¬ J (us_f J σ k p) < 8589934592 → σ (jn_n (J (us_f J σ k p))) = none)
  | 0, p, hp, hk => ⟨hp, fun z => absurd (hk z) (by omega)⟩
  | k + 1, p, hp, hk => by
    by_cases hs : J p < 8589934592
    · rw [us_fixp (us_1_sym hs)]
      exact ⟨hp, fun z => absurd hs z⟩
    · cases e : σ (jn_n (J p)) with
      | none =>
        rw [us_fixp (us_1_none hs e)]
        exact ⟨hp, fun _ => e⟩
      | some q =>
        rw [us_f, us_1_some hs e]
        obtain ⟨_, hq, hu⟩ := hR.2 _ q e
        refine us_fol H hR k q hq (fun hn => ?_)
        obtain ⟨l, _, _, q1, _⟩ := jn_tm H hq
        have := hu (J q) (by rw [q1]; simp) hn
        have := hk hs
        omega
theorem us_fol8 (H : jn_H J A B) (hR : us_R A B σ rk) {p : Nat} (hp : jn_v A B p) : jn_v A B (us_f J σ 8 p) ∧ (¬ J (us_f J σ 8 p) < 8589934592 → σ (jn_n (J (us_f J σ 8 p))) = none) :=
  us_fol H hR 8 p hp (fun _ => hR.1 _)
/-- following keeps the expansion, and makes weights no greater -/
theorem us_1_E (H : jn_H J A B) {ρ : Nat → List Int64} (hρ : us_Es A B σ ρ) {p : Nat} (hp : jn_v A B p) : us_E ρ (jn_t A B (us_1 J σ p)) = us_E ρ (jn_t A B p) := by
  by_cases hs : J p < 8589934592
  · rw [us_1_sym hs]
  · cases e : σ (jn_n (J p)) with
    | none => rw [us_1_none hs e]
    | some q =>
      rw [us_1_some hs e, jn_leaf H hp (jn_var (jn_J H hp) hs).2.2, us_E_var hs, ← hρ _ q e]
      exact (List.append_nil _).symm
theorem us_1_W (H : jn_H J A B) {ρ : Nat → Nat} (hρ : us_Ws A B σ ρ) {p : Nat} (hp : jn_v A B p) : us_W ρ (jn_t A B (us_1 J σ p)) ≤ us_W ρ (jn_t A B p) := by
  by_cases hs : J p < 8589934592
  · rw [us_1_sym hs]; exact Nat.le_refl _
  · cases e : σ (jn_n (J p)) with
    | none => rw [us_1_none hs e]; exact Nat.le_refl _
    | some q =>
      have := hρ.2 _ q e
      rw [us_1_some hs e, jn_leaf H hp (jn_var (jn_J H hp) hs).2.2]
      show _ ≤ (if J p < 8589934592 then 1 else ρ (jn_n (J p))) + 0
      rw [if_neg hs]
      omega
theorem us_1_B (H : jn_H J A B) {ρ : Nat → Nat} (hρ : us_Bs A B σ ρ) {p : Nat} (hp : jn_v A B p) : us_b (jn_t A B (us_1 J σ p)) + us_m ρ (jn_t A B (us_1 J σ p)) ≤ us_b (jn_t A B p) + us_m ρ (jn_t A B p) := by
  by_cases hs : J p < 8589934592
  · rw [us_1_sym hs]; exact Nat.le_refl _
  · cases e : σ (jn_n (J p)) with
    | none => rw [us_1_none hs e]; exact Nat.le_refl _
    | some q =>
      have := hρ _ q e
      have har := (jn_var (jn_J H hp) hs).2.2
      rw [us_1_some hs e, jn_leaf H hp har]
      show _ ≤ ((if tm_ar (J p) = 2 then 1 else 0) + 0) + max (if J p < 8589934592 then 0 else ρ (jn_n (J p))) 0
      rw [if_neg hs, if_neg (by omega)]
      omega
theorem us_1_v (hR : us_R A B σ rk) {p : Nat} (hp : jn_v A B p) : jn_v A B (us_1 J σ p) := by
  by_cases hs : J p < 8589934592
  · rw [us_1_sym hs]; exact hp
  · cases e : σ (jn_n (J p)) with
    | none => rw [us_1_none hs e]; exact hp
    | some q => rw [us_1_some hs e]; exact (hR.2 _ q e).2.1
theorem us_f_E (H : jn_H J A B) (hR : us_R A B σ rk) {ρ : Nat → List Int64} (hρ : us_Es A B σ ρ) : ∀ (k p : Nat), jn_v A B p → us_E ρ (jn_t A B (us_f J σ k p)) = us_E ρ (jn_t A B p)
  | 0, p, hp => rfl
  | k + 1, p, hp => by rw [us_f, us_f_E H hR hρ k _ (us_1_v hR hp), us_1_E H hρ hp]
theorem us_f_W (H : jn_H J A B) (hR : us_R A B σ rk) {ρ : Nat → Nat} (hρ : us_Ws A B σ ρ) : ∀ (k p : Nat), jn_v A B p → us_W ρ (jn_t A B (us_f J σ k p)) ≤ us_W ρ (jn_t A B p)
  | 0, p, hp => Nat.le_refl _
  | k + 1, p, hp => Nat.le_trans (us_f_W H hR hρ k _ (us_1_v hR hp)) (us_1_W H hρ hp)
theorem us_f_B (H : jn_H J A B) (hR : us_R A B σ rk) {ρ : Nat → Nat} (hρ : us_Bs A B σ ρ) : ∀ (k p : Nat), jn_v A B p → us_b (jn_t A B (us_f J σ k p)) + us_m ρ (jn_t A B (us_f J σ k p)) ≤ us_b (jn_t A B p) + us_m ρ (jn_t A B p)
  | 0, p, hp => Nat.le_refl _
  | k + 1, p, hp => Nat.le_trans (us_f_B H hR hρ k _ (us_1_v hR hp)) (us_1_B H hρ hp)
theorem us_W_pos (H : jn_H J A B) {ρ : Nat → Nat} (hρ : us_Ws A B σ ρ) {p : Nat} (hp : jn_v A B p) : 1 ≤ us_W ρ (jn_t A B p) := by
  obtain ⟨l, _, _, q1, _⟩ := jn_tm H hp
  rw [q1]
  show 1 ≤ (if J p < 8589934592 then 1 else ρ (jn_n (J p))) + us_W ρ l
  have := hρ.1 (jn_n (J p))
  split <;> omega
end
/-- ranks below 8: how many variables rank lower -/
def us_c (f : Nat → Nat) (x : Nat) : Nat → Nat
  | 0 => 0
  | k + 1 => us_c f x k + (if f k < x then 1 else 0)
theorem us_c_le (f : Nat → Nat) {x y : Nat} (h : x ≤ y) : ∀ n, us_c f x n ≤ us_c f y n
  | 0 => Nat.le_refl _
  | n + 1 => by
    have := us_c_le f h n
    show us_c f x n + (if f n < x then 1 else 0) ≤ us_c f y n + (if f n < y then 1 else 0)
    split
    · rw [if_pos (by omega)]; omega
    · split <;> omega
theorem us_c_lt (f : Nat → Nat) {u y : Nat} (h : f u < y) : ∀ n, u < n → us_c f (f u) n < us_c f y n
  | 0, hn => absurd hn (by omega)
  | n + 1, hn => by
    show us_c f (f u) n + (if f n < f u then 1 else 0) < us_c f y n + (if f n < y then 1 else 0)
    by_cases e : u = n
    · subst e
      have := us_c_le f (Nat.le_of_lt h) u
      rw [if_neg (by omega), if_pos h]; omega
    · have := us_c_lt f h n (by omega)
      split
      · rw [if_pos (by omega)]; omega
      · split <;> omega
theorem us_c_n (f : Nat → Nat) (x : Nat) : ∀ n, us_c f x n ≤ n
  | 0 => Nat.le_refl _
  | n + 1 => by
    have := us_c_n f x n
    show us_c f x n + (if f n < x then 1 else 0) ≤ n + 1
    split <;> omega
theorem us_c_self (f : Nat → Nat) {u : Nat} : ∀ n, u < n → us_c f (f u) n < n
  | 0, hn => absurd hn (by omega)
  | n + 1, hn => by
    show us_c f (f u) n + (if f n < f u then 1 else 0) < n + 1
    by_cases e : u = n
    · subst e
      have := us_c_n f (f u) u
      rw [if_neg (by omega)]; omega
    · have := us_c_self f n (u := u) (by omega)
      split <;> omega
theorem us_norm {A B : List Int64} {σ : Nat → Option Nat} {f : Nat → Nat} (hk : ∀ v q, σ v = some q → ∀ t, t ∈ jn_t A B q → jn_k t) (h : ∀ v q, σ v = some q → v < 8 ∧ jn_v A B q ∧ ∀ t, t ∈ jn_t A B q → ¬ t < 8589934592 → f (jn_n t) < f v) : us_R A B σ (fun v => if v < 8 then us_c f (f v) 8 else 0) := by
  refine ⟨fun v => ?_, fun v q e => ?_⟩
  · dsimp only
    split
    · rename_i hv
      exact us_c_self f 8 hv
    · omega
  · obtain ⟨h1, h2, h3⟩ := h v q e
    refine ⟨h1, h2, fun t ht hn => ?_⟩
    have hv := (jn_var (hk v q e t ht) hn).1
    dsimp only
    rw [if_pos hv, if_pos h1]
    exact us_c_lt f (h3 t ht hn) 8 hv
/-- v is put for by the term at q, in which it does not occur -/
def us_put (σ : Nat → Option Nat) (v q : Nat) : Nat → Option Nat := fun w => if w = v then some q else σ w
theorem us_put_R {J : Nat → Int64} {A B : List Int64} {σ : Nat → Option Nat} {rk : Nat → Nat} (H : jn_H J A B) (hR : us_R A B σ rk) {v q : Nat} (hv : v < 8) (hq : jn_v A B q) (h0 : σ v = none) (hno : ¬ lN (8589934592 + v) ∈ us_E (us_h A B σ 8) (jn_t A B q)) : ∃ rk', us_R A B (us_put σ v q) rk' := by
  have hkk : ∀ p, jn_v A B p → ∀ t, t ∈ jn_t A B p → jn_k t := fun p hp => by
    obtain ⟨_, _, _, _, _, _, _, _, _, z, _⟩ := jn_tm H hp
    exact z
  refine ⟨_, us_norm (f := fun u => if lN (8589934592 + v) ∈ us_h A B σ 8 u then rk u + 8 else rk u) (fun w r e => ?_) (fun w r e => ?_)⟩
  · unfold us_put at e
    split at e
    · cases e; exact hkk q hq
    · exact hkk r (hR.2 w r e).2.1
  · have hvv : lN (8589934592 + v) ∈ us_h A B σ 8 v := by rw [us_h_none h0]; simp
    unfold us_put at e
    split at e
    · rename_i ew
      cases e
      subst ew
      refine ⟨hv, hq, fun t ht hn => ?_⟩
      have hnot : ¬ lN (8589934592 + w) ∈ us_h A B σ 8 (jn_n t) := fun z => hno (us_E_mem ht hn z)
      rw [if_neg hnot, if_pos hvv]
      have := hR.1 (jn_n t)
      omega
    · obtain ⟨h1, h2, h3⟩ := hR.2 w r e
      refine ⟨h1, h2, fun t ht hn => ?_⟩
      have h4 := h3 t ht hn
      by_cases hz : lN (8589934592 + v) ∈ us_h A B σ 8 (jn_n t)
      · have hw : lN (8589934592 + v) ∈ us_h A B σ 8 w := by
          rw [us_h_sol hR w r e]
          exact us_E_mem ht hn hz
        rw [if_pos hz, if_pos hw]; omega
      · rw [if_neg hz]
        split <;> omega
