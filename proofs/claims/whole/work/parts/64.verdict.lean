/-! the verdict on a pair, over lists -/
def vd_h (t : Int64) : Int64 := if t < 8589934592 then t else t + 4
def vd_k (t : Int64) : Prop := ∃ n, t = lN n ∧ (n < 9 ∨ (8589934592 ≤ n ∧ n < 8589934596))
def vd_J (A B : List Int64) (p : Nat) : Int64 := (jn_s A B p).headD 0
theorem vd_k_j {t : Int64} (h : vd_k t) : jn_k t := by
  obtain ⟨n, e, h⟩ := h
  exact ⟨n, e, by omega⟩
theorem vd_k_h {t : Int64} (h : vd_k t) : jn_k (vd_h t) ∧ tm_ar (vd_h t) = tm_ar t ∧ ((vd_h t < 8589934592) ↔ (t < 8589934592)) := by
  obtain ⟨n, rfl, h⟩ := h
  unfold vd_h
  by_cases hs : lN n < 8589934592
  · rw [if_pos hs]
    exact ⟨⟨n, rfl, by omega⟩, rfl, Iff.rfl⟩
  · have hs' := hs
    rw [tk_lt 8589934592 (by omega)] at hs'
    have e : lN n + 4 = lN (n + 4) := lN_add n 4
    rw [if_neg hs, e]
    refine ⟨⟨n + 4, rfl, by omega⟩, ?_, ?_⟩
    · rw [tk_ar_n (by omega), tk_ar_n (by omega), if_neg (by omega), if_neg (by omega), if_neg (by omega), if_neg (by omega)]
    · rw [tk_lt 8589934592 (by omega), tk_lt 8589934592 (by omega)]; omega
theorem vd_map_w (g : Int64 → Int64) : ∀ (l : List Int64) (m : Nat), (∀ t, t ∈ l → tm_ar (g t) = tm_ar t) → tm_w l m → tm_w (l.map g) m
  | [], m, _, h => h
  | t :: l, m, hg, h => by
    obtain ⟨k, rfl, h1⟩ := tm_w_ne h
    rw [List.map_cons]
    refine tm_w_cons.mpr ?_
    rw [hg t (List.mem_cons.mpr (Or.inl rfl))]
    exact vd_map_w g l _ (fun x hx => hg x (List.mem_cons.mpr (Or.inr hx))) h1
theorem us_E_w {ρ : Nat → List Int64} (hρ : ∀ v, v < 8 → tm_w (ρ v) 1) : ∀ (l : List Int64) (m : Nat), (∀ t, t ∈ l → jn_k t) → tm_w l m → tm_w (us_E ρ l) m
  | [], m, _, h => h
  | t :: l, m, hk, h => by
    obtain ⟨k, rfl, h1⟩ := tm_w_ne h
    have ih := us_E_w hρ l _ (fun x hx => hk x (List.mem_cons.mpr (Or.inr hx))) h1
    by_cases hs : t < 8589934592
    · rw [us_E_sym hs]
      exact tm_w_cons.mpr ih
    · obtain ⟨hv, _, ha⟩ := jn_var (hk t (List.mem_cons.mpr (Or.inl rfl))) hs
      rw [us_E_var hs]
      rw [ha, Nat.add_zero] at ih
      rw [Nat.add_comm]
      exact tm_w_app _ _ _ _ (hρ _ hv) ih
theorem us_E_k {ρ : Nat → List Int64} (hρ : ∀ v, v < 8 → ∀ t, t ∈ ρ v → jn_k t) {l : List Int64} (hk : ∀ t, t ∈ l → jn_k t) : ∀ t, t ∈ us_E ρ l → jn_k t := by
  intro t ht
  unfold us_E at ht
  obtain ⟨s, hs, hz⟩ := List.mem_flatMap.mp ht
  by_cases hss : s < 8589934592
  · rw [if_pos hss, List.mem_singleton] at hz
    rw [hz]; exact hk s hs
  · rw [if_neg hss] at hz
    exact hρ _ (jn_var (hk s hs) hss).1 t hz
section
variable {J : Nat → Int64} {A B : List Int64} {σ : Nat → Option Nat} {rk : Nat → Nat}
theorem us_h_w (H : jn_H J A B) (hR : us_R A B σ rk) : ∀ (d v : Nat), v < 8 → tm_w (us_h A B σ d v) 1 ∧ ∀ t, t ∈ us_h A B σ d v → jn_k t := by
  have base : ∀ v, v < 8 → tm_w [lN (8589934592 + v)] 1 ∧ ∀ t, t ∈ [lN (8589934592 + v)] → jn_k t := by
    intro v hv
    refine ⟨tm_w_1 (by rw [tk_ar_n (by omega), if_neg (by omega), if_neg (by omega)]), fun t ht => ?_⟩
    rw [List.mem_singleton] at ht
    exact ⟨8589934592 + v, ht, by omega⟩
  intro d
  induction d with
  | zero => intro v hv; exact base v hv
  | succ d ih =>
    intro v hv
    cases e : σ v with
    | none => rw [us_h_none e]; exact base v hv
    | some q =>
      rw [us_h_some e]
      obtain ⟨_, _, _, _, _, tw, _, _, _, tk, _, _⟩ := jn_tm H (hR.2 v q e).2.1
      exact ⟨us_E_w (fun v hv => (ih v hv).1) _ _ tk tw, us_E_k (fun v hv => (ih v hv).2) tk⟩
end
/-- a name by its rank -/
theorem rn_good {ra : Nat → Int32} {t : Int64} (ht : jn_k t) (hr : ¬ t < 8589934592 → ∃ r, r < 8 ∧ ra (jn_n t) = nI r) : tm_ar (rn_n ra t) = tm_ar t ∧ tk_t (rn_n ra t) ∧ tk_kT (rn_n ra t) = 0 ∧ tk_vT (rn_n ra t) = yw_v ra t := by
  rcases jn_cases ht with ⟨n, h1, en, hs⟩ | ⟨v, h1, ev, hs, env, ha⟩
  · have e : rn_n ra t = t := by unfold rn_n; rw [if_pos hs]
    obtain ⟨k1, k2⟩ := tk_T_sym (n := n) (by omega)
    have ev : yw_v ra t = nI n := by unfold yw_v; rw [if_pos hs, en, pk_lT (by omega)]; rfl
    rw [e, ev]
    exact ⟨rfl, ⟨n, en, by omega⟩, by rw [en]; exact k1, by rw [en]; exact k2⟩
  · obtain ⟨r, hr8, er⟩ := hr hs
    have e : rn_n ra t = lN (8589934592 + r) := by
      unfold rn_n
      rw [if_neg hs, er, nI_l (by omega), show (8589934592 : Int64) = lN 8589934592 from rfl, lN_add]
    obtain ⟨k1, k2⟩ := tk_T_var (r := r) hr8
    have ev2 : yw_v ra t = nI (100 + r) := by unfold yw_v; rw [if_neg hs, er, ← nI_add]; rfl
    rw [e, ev2, ha]
    exact ⟨by rw [tk_ar_n (by omega), if_neg (by omega), if_neg (by omega)], ⟨_, rfl, by omega⟩, k1, k2⟩
theorem rn_hd {ra : Nat → Int32} {ik iv : Nat → Int32} : ∀ (l : List Int64) (k : Nat), (∀ t, t ∈ l → jn_k t) → (∀ t, t ∈ l → ¬ t < 8589934592 → ∃ r, r < 8 ∧ ra (jn_n t) = nI r) → hd_y (fun _ => 0) (yw_v ra) ik iv k l → hd_y tk_kT tk_vT ik iv k (l.map (rn_n ra))
  | [], k, _, _, _ => trivial
  | t :: l, k, hk, hr, h => by
    obtain ⟨_, _, g3, g4⟩ := rn_good (hk t (List.mem_cons.mpr (Or.inl rfl))) (hr t (List.mem_cons.mpr (Or.inl rfl)))
    exact ⟨⟨h.1.1.trans g3.symm, h.1.2.trans g4.symm⟩, rn_hd l (k + 1) (fun x hx => hk x (List.mem_cons.mpr (Or.inr hx))) (fun x hx => hr x (List.mem_cons.mpr (Or.inr hx))) h.2⟩
theorem rn_n_congr {ra ra' : Nat → Int32} (h : ∀ v, v < 8 → ra v = ra' v) {t : Int64} (ht : jn_k t) : rn_n ra t = rn_n ra' t := by
  by_cases hs : t < 8589934592
  · exact (if_pos hs).trans (if_pos hs).symm
  · have e := h _ (jn_var ht hs).1
    exact (if_neg hs).trans ((congrArg (fun x : Int32 => 8589934592 + x.toInt64) e).trans (if_neg hs).symm)
theorem rn_map_congr {ra ra' : Nat → Int32} (h : ∀ v, v < 8 → ra v = ra' v) (l : List Int64) (hk : ∀ t, t ∈ l → jn_k t) : l.map (rn_n ra) = l.map (rn_n ra') :=
  List.map_congr_left (fun t ht => rn_n_congr h (hk t ht))
theorem vd_rep {a s s' r : List Int64} : ∀ (m : Nat), tm_w (a ++ (s ++ r)) m → tm_w s 1 → tm_w s' 1 → tm_w (a ++ (s' ++ r)) m := by
  induction a with
  | nil =>
    intro m h hs hs'
    rw [List.nil_append] at h ⊢
    obtain ⟨k, hk⟩ := tm_w_suf s r m h
    have := tm_w_inj _ _ _ h (tm_w_app _ _ _ _ hs hk)
    rw [this]
    exact tm_w_app _ _ _ _ hs' hk
  | cons t a ih =>
    intro m h hs hs'
    obtain ⟨k, rfl, h1⟩ := tm_w_ne (show tm_w (t :: (a ++ (s ++ r))) m from h)
    exact tm_w_cons.mpr (ih _ h1 hs hs')
/-- the verdict: 0 no pair, 1 joined, 2 not joined, 3 unknown -/
def vd_s1 (A RA B : List Int64) (σ : Nat → Option Nat) : List Int64 := (us_E (us_h A B σ 8) RA).map (rn_n (rn_f (us_E (us_h A B σ 8) A) (fun _ => -1) 0).1)
def vd_s2 (A B RB : List Int64) (p : Nat) (σ : Nat → Option Nat) : List Int64 := (us_E (us_h A B σ 8) (A.take p) ++ (us_E (us_h A B σ 8) RB ++ us_E (us_h A B σ 8) (A.drop (p + (jn_t A B p).length)))).map (rn_n (rn_f (us_E (us_h A B σ 8) A) (fun _ => -1) 0).1)
def vd_c (L R : Nat → List Int64) (A RA B RB : List Int64) (p : Nat) (σ : Nat → Option Nat) : Nat :=
  if (us_E (us_h A B σ 8) A).length ≤ 30 ∧ (vd_s1 A RA B σ).length ≤ 30 ∧ (mc_run L R 4000 (vd_s1 A RA B σ) [] 0 none).1 = 0 ∧ (vd_s2 A B RB p σ).length ≤ 30 ∧ (mc_run L R 4000 (vd_s2 A B RB p σ) [] 0 none).1 = 0 then (if (mc_run L R 4000 (vd_s1 A RA B σ) [] 0 none).2.2 = (mc_run L R 4000 (vd_s2 A B RB p σ) [] 0 none).2.2 then 1 else 2) else 3
def vd (f : Nat) (L R : Nat → List Int64) (i j p : Nat) : Nat :=
  match us_un (vd_J (L i) ((L j).map vd_h)) (L i) ((L j).map vd_h) f [(p, 30)] (fun _ => none) with
  | none => 0
  | some σ => vd_c L R (L i) (R i) ((L j).map vd_h) ((R j).map vd_h) p σ
section
variable {J J' : Nat → Int64} {A B : List Int64}
theorem us_J_eq (H : jn_H J A B) (H' : jn_H J' A B) {p : Nat} (hp : jn_v A B p) : J p = J' p := by
  obtain ⟨l, _, _, q1, _⟩ := jn_tm H hp
  obtain ⟨l', _, _, q1', _⟩ := jn_tm H' hp
  rw [q1] at q1'
  injection q1'
theorem us_f_J (H : jn_H J A B) (H' : jn_H J' A B) {σ : Nat → Option Nat} {rk : Nat → Nat} (hR : us_R A B σ rk) : ∀ (k p : Nat), jn_v A B p → us_f J σ k p = us_f J' σ k p
  | 0, p, hp => rfl
  | k + 1, p, hp => by
    have e : us_1 J σ p = us_1 J' σ p := by unfold us_1; rw [us_J_eq H H' hp]
    rw [us_f, us_f, ← e]
    exact us_f_J H H' hR k _ (us_1_v hR hp)
theorem us_un_J (H : jn_H J A B) (H' : jn_H J' A B) {p0 q0 : Nat} : ∀ (f n : Nat) (S : List (Nat × Nat)) (σ : Nat → Option Nat), us_I A B p0 q0 n S σ → us_un J A B f S σ = us_un J' A B f S σ := by
  intro f
  induction f with
  | zero =>
    intro n S σ hI
    cases S with
    | nil => rfl
    | cons a S => rfl
  | succ f ih =>
    intro n S σ hI
    cases S with
    | nil => rfl
    | cons a S =>
      obtain ⟨p, q⟩ := a
      rw [us_un_cons, us_un_cons]
      have hI0 := hI
      obtain ⟨⟨rk, hR⟩, hv, _⟩ := hI0
      obtain ⟨hp, hq⟩ := hv p q (List.mem_cons.mpr (Or.inl rfl))
      have e1 := us_f_J H H' hR 8 p hp
      have e2 := us_f_J H H' hR 8 q hq
      have hp' := (us_fol8 H hR hp).1
      have hq' := (us_fol8 H hR hq).1
      have est : us_st J A B σ (us_f J σ 8 p) (us_f J σ 8 q) S = us_st J' A B σ (us_f J' σ 8 p) (us_f J' σ 8 q) S := by
        rw [← e1, ← e2]
        unfold us_st us_ag
        rw [us_J_eq H H' hp', us_J_eq H H' hq']
      rw [← est]
      cases eo : us_st J A B σ (us_f J σ 8 p) (us_f J σ 8 q) S with
      | none => rfl
      | some x =>
        obtain ⟨S', σ'⟩ := x
        exact ih (n + 1) S' σ' (us_pres H hI eo)
end
theorem vd_H {A B : List Int64} (hA : tm_w A 1) (hB : tm_w B 1) (hAl : A.length ≤ 29) (hBl : B.length ≤ 29) (hAk : ∀ t, t ∈ A → jn_k t) (hBk : ∀ t, t ∈ B → jn_k t) : jn_H (vd_J A B) A B := by
  refine ⟨hA, hB, hAl, hBl, hd_of (fun k hk => ?_), hd_of (fun k hk => ?_), hAk, hBk⟩
  · unfold vd_J jn_s
    rw [if_pos (by omega), Nat.zero_add, List.drop_eq_getElem_cons hk]
    rfl
  · unfold vd_J jn_s
    rw [if_neg (by omega), show 30 + k - 30 = k by omega, List.drop_eq_getElem_cons hk]
    rfl
