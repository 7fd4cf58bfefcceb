/-! tokens: the component's longs, and the reference's kind and value -/
def tk_t (t : Int64) : Prop := ∃ n : Nat, t = lN n ∧ (n < 12 ∨ (4294967296 ≤ n ∧ n < 8589934600))
def tk_d (t : Int64) : Prop := ∃ n : Nat, t = lN n ∧ (n < 12 ∨ (4294967296 ≤ n ∧ n < 8589934592))
def tk_r (t : Int64) : Prop := ∃ n : Nat, t = lN n ∧ (n < 12 ∨ (4294967296 ≤ n ∧ n < 8589934596) ∨ (12884901888 ≤ n ∧ n < 12884901892))
def tk_kT (t : Int64) : Int32 := if t < 4294967296 then 0 else if t < 8589934592 then 1 else 0
def tk_vT (t : Int64) : Int32 := if t < 8589934592 then t.toInt32 else 100 + t.toInt32
def tk_kR (t : Int64) : Int32 := if t < 4294967296 then 0 else if t < 8589934592 then 1 else if t < 12884901888 then 2 else 3
def tk_vR (t : Int64) : Int32 := t.toInt32
theorem tk_d_t {t : Int64} (h : tk_d t) : tk_t t := by
  obtain ⟨n, e, h⟩ := h
  exact ⟨n, e, by omega⟩
theorem tk_d_r {t : Int64} (h : tk_d t) : tk_r t := by
  obtain ⟨n, e, h⟩ := h
  exact ⟨n, e, by omega⟩
theorem tk_lt {n : Nat} (k : Nat) (h : n < 2 ^ 62) {x : Int64} (hx : x = lN k := by rfl) (hk : k < 2 ^ 62 := by decide) : lN n < x ↔ n < k := by
  subst hx
  exact pk_lLT (by omega) (by omega)
theorem tk_le {n : Nat} (k : Nat) (h : n < 2 ^ 62) {x : Int64} (hx : x = lN k := by rfl) (hk : k < 2 ^ 62 := by decide) : x ≤ lN n ↔ k ≤ n := by
  subst hx
  exact pk_lLE (by omega) (by omega)
theorem tk_eq {n : Nat} (k : Nat) (h : n < 2 ^ 62) {x : Int64} (hx : x = lN k := by rfl) (hk : k < 2 ^ 62 := by decide) : lN n = x ↔ n = k := by
  subst hx
  exact pk_lEQ (by omega) (by omega)
theorem tk_wrap (n k : Nat) : nI (n + 4294967296 * k) = nI n := by
  apply Int32.toBitVec_inj.mp
  show BitVec.ofNat 32 _ = BitVec.ofNat 32 _
  apply BitVec.eq_of_toNat_eq
  rw [BitVec.toNat_ofNat, BitVec.toNat_ofNat]
  omega
theorem tk_inj {n k : Nat} (h : nI n = nI k) : n % 4294967296 = k % 4294967296 := by
  have h1 := congrArg (fun x => x.toBitVec.toNat) h
  have h2 : (BitVec.ofNat 32 n).toNat = (BitVec.ofNat 32 k).toNat := h1
  rw [BitVec.toNat_ofNat, BitVec.toNat_ofNat] at h2
  exact h2
theorem tk_ar_n {n : Nat} (h : n < 2 ^ 62) : tm_ar (lN n) = if n < 4 then 0 else if n < 12 then (if 7 ≤ n then 2 else 1) else 0 := by
  unfold tm_ar
  simp only [(tk_lt 4 h : lN n < 4 ↔ n < 4), (tk_lt 12 h : lN n < 12 ↔ n < 12), (tk_le 7 h : 7 ≤ lN n ↔ 7 ≤ n)]
theorem tk_T_sym {n : Nat} (h : n < 12) : tk_kT (lN n) = 0 ∧ tk_vT (lN n) = nI n := by
  unfold tk_kT tk_vT
  rw [if_pos ((tk_lt 4294967296 (by omega)).mpr (by omega)), if_pos ((tk_lt 8589934592 (by omega)).mpr (by omega)), lN_i]
  exact ⟨rfl, rfl⟩
theorem tk_T_num {n : Nat} (h : 4294967296 ≤ n) (h2 : n < 8589934592) : tk_kT (lN n) = 1 ∧ tk_vT (lN n) = nI n := by
  unfold tk_kT tk_vT
  rw [if_neg (by rw [tk_lt 4294967296 (by omega)]; omega), if_pos ((tk_lt 8589934592 (by omega)).mpr (by omega)), if_pos ((tk_lt 8589934592 (by omega)).mpr (by omega)), lN_i]
  exact ⟨rfl, rfl⟩
theorem tk_T_var {r : Nat} (h : r < 8) : tk_kT (lN (8589934592 + r)) = 0 ∧ tk_vT (lN (8589934592 + r)) = nI (100 + r) := by
  unfold tk_kT tk_vT
  rw [if_neg (by rw [tk_lt 4294967296 (by omega)]; omega), if_neg (by rw [tk_lt 8589934592 (by omega)]; omega), if_neg (by rw [tk_lt 8589934592 (by omega)]; omega), lN_i, show 8589934592 + r = r + 4294967296 * 2 by omega, tk_wrap, ← nI_add]
  exact ⟨rfl, rfl⟩
theorem tk_T_cases {t : Int64} (h : tk_t t) : (∃ n, n < 12 ∧ t = lN n ∧ tk_kT t = 0 ∧ tk_vT t = nI n) ∨ (∃ n, 4294967296 ≤ n ∧ n < 8589934592 ∧ t = lN n ∧ tk_kT t = 1 ∧ tk_vT t = nI n) ∨ (∃ r, r < 8 ∧ t = lN (8589934592 + r) ∧ tk_kT t = 0 ∧ tk_vT t = nI (100 + r)) := by
  obtain ⟨n, rfl, h⟩ := h
  by_cases h1 : n < 12
  · exact Or.inl ⟨n, h1, rfl, tk_T_sym h1⟩
  · by_cases h2 : n < 8589934592
    · exact Or.inr (Or.inl ⟨n, by omega, h2, rfl, tk_T_num (by omega) h2⟩)
    · obtain ⟨r, rfl⟩ : ∃ r, n = 8589934592 + r := ⟨n - 8589934592, by omega⟩
      exact Or.inr (Or.inr ⟨r, by omega, rfl, tk_T_var (by omega)⟩)
theorem tk_R_cases {t : Int64} (h : tk_r t) : (∃ n, n < 12 ∧ t = lN n ∧ tk_kR t = 0 ∧ tk_vR t = nI n) ∨ (∃ n, 4294967296 ≤ n ∧ n < 8589934592 ∧ t = lN n ∧ tk_kR t = 1 ∧ tk_vR t = nI n) ∨ (∃ r, r < 4 ∧ t = lN (8589934592 + r) ∧ tk_kR t = 2 ∧ tk_vR t = nI r) ∨ (∃ r, r < 4 ∧ t = lN (12884901888 + r) ∧ tk_kR t = 3 ∧ tk_vR t = nI r) := by
  obtain ⟨n, rfl, h⟩ := h
  unfold tk_kR tk_vR
  rw [lN_i]
  have l1 : lN n < 4294967296 ↔ n < 4294967296 := tk_lt 4294967296 (by omega)
  have l2 : lN n < 8589934592 ↔ n < 8589934592 := tk_lt 8589934592 (by omega)
  have l3 : lN n < 12884901888 ↔ n < 12884901888 := tk_lt 12884901888 (by omega)
  by_cases h1 : n < 12
  · exact Or.inl ⟨n, h1, rfl, if_pos (l1.mpr (by omega)), rfl⟩
  · by_cases h2 : n < 8589934592
    · exact Or.inr (Or.inl ⟨n, by omega, h2, rfl, by rw [if_neg (by rw [l1]; omega), if_pos (l2.mpr h2)], rfl⟩)
    · by_cases h3 : n < 12884901888
      · obtain ⟨r, rfl⟩ : ∃ r, n = 8589934592 + r := ⟨n - 8589934592, by omega⟩
        refine Or.inr (Or.inr (Or.inl ⟨r, by omega, rfl, by rw [if_neg (by rw [l1]; omega), if_neg (by rw [l2]; omega), if_pos (l3.mpr h3)], ?_⟩))
        rw [show 8589934592 + r = r + 4294967296 * 2 by omega, tk_wrap]
      · obtain ⟨r, rfl⟩ : ∃ r, n = 12884901888 + r := ⟨n - 12884901888, by omega⟩
        refine Or.inr (Or.inr (Or.inr ⟨r, by omega, rfl, by rw [if_neg (by rw [l1]; omega), if_neg (by rw [l2]; omega), if_neg (by rw [l3]; omega)], ?_⟩))
        rw [show 12884901888 + r = r + 4294967296 * 3 by omega, tk_wrap]
theorem tk_T_inj {s t : Int64} (hs : tk_t s) (ht : tk_t t) (hk : tk_kT s = tk_kT t) (hv : tk_vT s = tk_vT t) : s = t := by
  rcases tk_T_cases hs with ⟨n, h1, e1, k1, v1⟩ | ⟨n, h1, h1', e1, k1, v1⟩ | ⟨n, h1, e1, k1, v1⟩ <;>
    rcases tk_T_cases ht with ⟨m, h2, e2, k2, v2⟩ | ⟨m, h2, h2', e2, k2, v2⟩ | ⟨m, h2, e2, k2, v2⟩ <;>
    rw [k1, k2] at hk <;> rw [v1, v2] at hv <;> have hv := tk_inj hv <;> first
      | exact absurd hk (by decide)
      | (rw [e1, e2]; congr 1; omega)
      | (exfalso; omega)
theorem tk_R_inj {s t : Int64} (hs : tk_r s) (ht : tk_r t) (hk : tk_kR s = tk_kR t) (hv : tk_vR s = tk_vR t) : s = t := by
  rcases tk_R_cases hs with ⟨n, h1, e1, k1, v1⟩ | ⟨n, h1, h1', e1, k1, v1⟩ | ⟨n, h1, e1, k1, v1⟩ | ⟨n, h1, e1, k1, v1⟩ <;>
    rcases tk_R_cases ht with ⟨m, h2, e2, k2, v2⟩ | ⟨m, h2, h2', e2, k2, v2⟩ | ⟨m, h2, e2, k2, v2⟩ | ⟨m, h2, e2, k2, v2⟩ <;>
    rw [k1, k2] at hk <;> rw [v1, v2] at hv <;> have hv := tk_inj hv <;> first
      | exact absurd hk (by decide)
      | (rw [e1, e2]; congr 1; omega)
/-- a rule's token below the names and a term's token -/
theorem tk_RT {s t : Int64} (hs : tk_r s) (hn : s < 8589934592) (ht : tk_t t) : (tk_kR s = tk_kT t ∧ tk_vR s = tk_vT t) ↔ s = t := by
  constructor
  · intro ⟨hk, hv⟩
    rcases tk_R_cases hs with ⟨n, h1, e1, k1, v1⟩ | ⟨n, h1, h1', e1, k1, v1⟩ | ⟨n, h1, e1, k1, v1⟩ | ⟨n, h1, e1, k1, v1⟩ <;>
      rcases tk_T_cases ht with ⟨m, h2, e2, k2, v2⟩ | ⟨m, h2, h2', e2, k2, v2⟩ | ⟨m, h2, e2, k2, v2⟩ <;>
      rw [k1, k2] at hk <;> rw [v1, v2] at hv <;> have hv := tk_inj hv <;> first
        | exact absurd hk (by decide)
        | (rw [e1, e2]; congr 1; omega)
        | (exfalso; omega)
        | (rw [e1, tk_lt 8589934592 (by omega)] at hn; omega)
  · intro h
    subst h
    rcases tk_R_cases hs with ⟨n, h1, e1, k1, v1⟩ | ⟨n, h1, h1', e1, k1, v1⟩ | ⟨n, h1, e1, k1, v1⟩ | ⟨n, h1, e1, k1, v1⟩
    · rw [k1, v1, e1]; exact ⟨(tk_T_sym h1).1.symm, (tk_T_sym h1).2.symm⟩
    · rw [k1, v1, e1]; exact ⟨(tk_T_num h1 h1').1.symm, (tk_T_num h1 h1').2.symm⟩
    · rw [e1, tk_lt 8589934592 (by omega)] at hn; omega
    · rw [e1, tk_lt 8589934592 (by omega)] at hn; omega
theorem tk_dT {t : Int64} (h : tk_d t) : tk_kR t = tk_kT t ∧ tk_vR t = tk_vT t := by
  refine (tk_RT (tk_d_r h) ?_ (tk_d_t h)).mpr rfl
  obtain ⟨n, rfl, h⟩ := h
  rw [tk_lt 8589934592 (by omega)]; omega
theorem tk_kT_01 (t : Int64) : tk_kT t = 0 ∨ tk_kT t = 1 := by
  unfold tk_kT
  split
  · exact Or.inl rfl
  · split
    · exact Or.inr rfl
    · exact Or.inl rfl
theorem tk_kR_03 (t : Int64) : tk_kR t = 0 ∨ tk_kR t = 1 ∨ tk_kR t = 2 ∨ tk_kR t = 3 := by
  unfold tk_kR
  split
  · exact Or.inl rfl
  · split
    · exact Or.inr (Or.inl rfl)
    · split
      · exact Or.inr (Or.inr (Or.inl rfl))
      · exact Or.inr (Or.inr (Or.inr rfl))
theorem tk_nar {k : Int32} (h : k = 0 ∨ k = 1 ∨ k = 2 ∨ k = 3) : vp_nar .byte k = k ∧ vp_nar .byte k.toInt8.toInt32 = k := by
  rcases h with rfl | rfl | rfl | rfl <;> (rw [vp_nar_byte, vp_nar_byte]; decide)
theorem tk_narT (t : Int64) : vp_nar .byte (tk_kT t) = tk_kT t ∧ vp_nar .byte (tk_kT t).toInt8.toInt32 = tk_kT t :=
  tk_nar (by rcases tk_kT_01 t with h | h <;> simp [h])
theorem tk_narR (t : Int64) : vp_nar .byte (tk_kR t) = tk_kR t ∧ vp_nar .byte (tk_kR t).toInt8.toInt32 = tk_kR t := tk_nar (tk_kR_03 t)
theorem tk_b {n : Nat} (h : n < 128) : (nI n).toInt8.toInt32 = nI n := by
  apply lg_i2b_small <;> rw [nI_toInt (by omega)] <;> omega
theorem tk_nb {n : Nat} (h : n < 128) : vp_nar .byte (nI n).toInt8.toInt32 = nI n ∧ vp_nar .byte (nI n) = nI n := by
  rw [vp_nar_byte, vp_nar_byte, tk_b h, tk_b h]; exact ⟨rfl, rfl⟩
theorem tk_s {n : Nat} (h : n < 32768) : (nI n).toInt16.toInt32 = nI n := by
  apply lg_i2s_small <;> rw [nI_toInt (by omega)] <;> omega
theorem tk_ns {n : Nat} (h : n < 32768) : vp_nar .short (nI n).toInt16.toInt32 = nI n ∧ vp_nar .short (nI n) = nI n := by
  rw [vp_nar_short, vp_nar_short, tk_s h, tk_s h]; exact ⟨rfl, rfl⟩
theorem tk_arX (t : Int64) {post : Int32 → Prop} (hp : post (nI (tm_ar t))) : wpX_argumentsOf post t := by
  unfold tm_ar at hp
  by_cases h : t < 4
  · rw [if_pos h] at hp; exact br_t h hp
  · rw [if_neg h] at hp
    refine br_f h ?_
    by_cases h2 : t < 12
    · rw [if_pos h2] at hp
      refine br_t h2 ?_
      by_cases h3 : 7 ≤ t
      · rw [if_pos h3] at hp; exact br_t h3 hp
      · rw [if_neg h3] at hp; exact br_f h3 hp
    · rw [if_neg h2] at hp; exact br_f h2 hp
theorem tk_ar0 {n : Nat} {post : Int32 → Prop} (hn : n < 12 ∨ (100 ≤ n ∧ n < 200)) (hp : post (nI (if n < 4 then 0 else if n < 12 then (if 7 ≤ n then 2 else 1) else 0))) : wpY_arity post 0 (nI n) := by
  refine br_t rfl ?_
  refine pk_lt n 4 (fun h => ?_) (fun h => ?_)
  · rw [if_pos h] at hp; exact hp
  · rw [if_neg (by omega)] at hp
    refine pk_le n 11 (fun h2 => ?_) (fun h2 => ?_)
    · rw [if_pos (by omega)] at hp
      refine pk_le 7 n (fun h3 => ?_) (fun h3 => ?_)
      · rw [if_pos h3] at hp; exact hp
      · rw [if_neg (by omega)] at hp; exact hp
    · rw [if_neg (by omega)] at hp; exact hp
theorem tk_arT {t : Int64} (h : tk_t t) {post : Int32 → Prop} (hp : post (nI (tm_ar t))) : wpY_arity post (tk_kT t) (tk_vT t) := by
  rcases tk_T_cases h with ⟨n, h1, e1, k1, v1⟩ | ⟨n, h1, h1', e1, k1, v1⟩ | ⟨n, h1, e1, k1, v1⟩
  · rw [k1, v1]; rw [e1, tk_ar_n (by omega)] at hp; exact tk_ar0 (Or.inl h1) hp
  · rw [k1]; rw [e1, tk_ar_n (by omega), if_neg (by omega), if_neg (by omega)] at hp
    exact br_f (by decide) hp
  · rw [k1, v1]
    rw [e1, tk_ar_n (by omega), if_neg (by omega), if_neg (by omega)] at hp
    exact tk_ar0 (Or.inr (by omega)) (by rw [if_neg (by omega), if_neg (by omega)]; exact hp)
theorem tk_arR {t : Int64} (h : tk_r t) {post : Int32 → Prop} (hp : post (nI (tm_ar t))) : wpY_arity post (tk_kR t) (tk_vR t) := by
  rcases tk_R_cases h with ⟨n, h1, e1, k1, v1⟩ | ⟨n, h1, h1', e1, k1, v1⟩ | ⟨n, h1, e1, k1, v1⟩ | ⟨n, h1, e1, k1, v1⟩
  · rw [k1, v1]; rw [e1, tk_ar_n (by omega)] at hp; exact tk_ar0 (Or.inl h1) hp
  · rw [k1]; rw [e1, tk_ar_n (by omega), if_neg (by omega), if_neg (by omega)] at hp
    exact br_f (by decide) hp
  · rw [k1]; rw [e1, tk_ar_n (by omega), if_neg (by omega), if_neg (by omega)] at hp
    exact br_f (by decide) hp
  · rw [k1]; rw [e1, tk_ar_n (by omega), if_neg (by omega), if_neg (by omega)] at hp
    exact br_f (by decide) hp
theorem tk_sh {n : Nat} (h : n < 2 ^ 62) : ((lN n).toUInt64 >>> ((32 : Int32).toInt64.toUInt64 &&& Int64.toUInt64 63)).toInt64 = lN (n / 4294967296) := wb_shr (k := 32) (by omega) (by omega)
theorem tk_sh1 {n : Nat} (h : n < 2 ^ 62) : ((lN n).toUInt64 >>> ((32 : Int32).toInt64.toUInt64 &&& Int64.toUInt64 63)).toInt64 = 1 ↔ 4294967296 ≤ n ∧ n < 8589934592 := by
  rw [tk_sh h, tk_eq 1 (by omega)]; omega
theorem tk_sh2 {n : Nat} (h : n < 2 ^ 62) : ((lN n).toUInt64 >>> ((32 : Int32).toInt64.toUInt64 &&& Int64.toUInt64 63)).toInt64 = 2 ↔ 8589934592 ≤ n ∧ n < 12884901888 := by
  rw [tk_sh h, tk_eq 2 (by omega)]; omega
/-- a token of a term is a number -/
abbrev tk_N (t : Int64) : Prop := 4294967296 ≤ t ∧ t < 8589934592
theorem tk_N_n {n : Nat} (h : n < 2 ^ 62) : tk_N (lN n) ↔ 4294967296 ≤ n ∧ n < 8589934592 := by
  unfold tk_N
  rw [tk_le 4294967296 h, tk_lt 8589934592 h]
theorem tk_N_X {t : Int64} (h : tk_t t) : ((t).toUInt64 >>> ((32 : Int32).toInt64.toUInt64 &&& Int64.toUInt64 63)).toInt64 = 1 ↔ tk_N t := by
  obtain ⟨n, rfl, h⟩ := h
  rw [tk_sh1 (by omega), tk_N_n (by omega)]
theorem tk_N_Y {t : Int64} (h : tk_t t) : tk_kT t = 1 ↔ tk_N t := by
  rcases tk_T_cases h with ⟨n, h1, e1, k1, v1⟩ | ⟨n, h1, h1', e1, k1, v1⟩ | ⟨n, h1, e1, k1, v1⟩
  · rw [k1, e1, tk_N_n (by omega)]; exact ⟨fun z => absurd z (by decide), fun z => by omega⟩
  · rw [k1, e1, tk_N_n (by omega)]; exact ⟨fun _ => ⟨h1, h1'⟩, fun _ => rfl⟩
  · rw [k1, e1, tk_N_n (by omega)]; exact ⟨fun z => absurd z (by decide), fun z => by omega⟩
theorem tk_N_ar {t : Int64} (h : tk_t t) (hn : tk_N t) : tm_ar t = 0 := by
  obtain ⟨n, rfl, h⟩ := h
  rw [tk_N_n (by omega)] at hn
  rw [tk_ar_n (by omega), if_neg (by omega), if_neg (by omega)]
/-- the order's key -/
def tk_key (t : Int64) : Int64 := if t < 4294967296 then t + 4294967296 else if 8589934592 ≤ t then t + 4294967296 else t.toInt32.toInt64
theorem tk_keyX (t : Int64) {post : Int64 → Prop} (hp : post (tk_key t)) : wpX_orderKey post t := by
  unfold tk_key at hp
  by_cases h : t < 4294967296
  · rw [if_pos h] at hp; exact br_t h hp
  · rw [if_neg h] at hp
    refine br_f h ?_
    by_cases h2 : 8589934592 ≤ t
    · rw [if_pos h2] at hp; exact br_t h2 hp
    · rw [if_neg h2] at hp; exact br_f h2 hp
theorem tk_key_s {n : Nat} (h : n < 12) : (tk_key (lN n)).toInt = (n : Int) + 4294967296 := by
  unfold tk_key
  rw [if_pos ((tk_lt 4294967296 (by omega)).mpr (by omega)), show (4294967296 : Int64) = lN 4294967296 from rfl, lN_add, pk_lT (by omega)]
  omega
theorem tk_key_v {r : Nat} (h : r < 8) : (tk_key (lN (8589934592 + r))).toInt = (r : Int) + 12884901888 := by
  unfold tk_key
  rw [if_neg (by rw [tk_lt 4294967296 (by omega)]; omega), if_pos ((tk_le 8589934592 (by omega)).mpr (by omega)), show (4294967296 : Int64) = lN 4294967296 from rfl, lN_add, pk_lT (by omega)]
  omega
theorem tk_key_n {n : Nat} (h : 4294967296 ≤ n) (h2 : n < 8589934592) : (tk_key (lN n)).toInt = (nI n).toInt := by
  unfold tk_key
  rw [if_neg (by rw [tk_lt 4294967296 (by omega)]; omega), if_neg (by rw [tk_le 8589934592 (by omega)]; omega), lN_i, Int32.toInt_toInt64]
theorem tk_i32 (x : Int32) : -2147483648 ≤ x.toInt ∧ x.toInt < 2147483648 := by
  have := x.le_toInt
  have := x.toInt_lt
  omega
/-- the reference's comparison of two tokens: above 0 iff the second's key comes first -/
theorem tk_ord {s t : Int64} (hs : tk_t s) (ht : tk_t t) {post : Int32 → Prop} (h0 : s = t → post 0) (h1 : s ≠ t → tk_key t < tk_key s → post 1) (h2 : s ≠ t → ¬ tk_key t < tk_key s → post (-1)) : wpY_ordered post (tk_kT s) (tk_vT s) (tk_kT t) (tk_vT t) := by
  have hl : tk_key t < tk_key s ↔ (tk_key t).toInt < (tk_key s).toInt := Int64.lt_iff_toInt_lt
  have hin : ∀ n, -2147483648 ≤ (nI n).toInt ∧ (nI n).toInt < 2147483648 := fun n => tk_i32 _
  by_cases hk : tk_kT s = tk_kT t
  · refine br_t hk ?_
    by_cases ha : tk_vT t ≤ tk_vT s
    · refine br_t ha ?_
      by_cases hb : tk_vT s ≤ tk_vT t
      · exact br_t hb (h0 (tk_T_inj hs ht hk (Int32.le_antisymm hb ha)))
      · refine br_f hb (h1 (fun e => hb (by rw [e]; exact Int32.le_refl _)) ?_)
        rw [hl]
        rw [Int32.le_iff_toInt_le] at ha hb
        rcases tk_T_cases hs with ⟨n, x1, e1, k1, v1⟩ | ⟨n, x1, x1', e1, k1, v1⟩ | ⟨n, x1, e1, k1, v1⟩ <;>
          rcases tk_T_cases ht with ⟨m, x2, e2, k2, v2⟩ | ⟨m, x2, x2', e2, k2, v2⟩ | ⟨m, x2, e2, k2, v2⟩ <;>
          rw [k1, k2] at hk <;> rw [v1, v2] at ha hb <;> rw [e1, e2] <;> first
            | exact absurd hk (by decide)
            | (rw [tk_key_s x1, tk_key_s x2]; rw [nI_toInt (by omega), nI_toInt (by omega)] at ha hb; omega)
            | (rw [tk_key_n x1 x1', tk_key_n x2 x2']; omega)
            | (rw [tk_key_v x1, tk_key_v x2]; rw [nI_toInt (by omega), nI_toInt (by omega)] at ha hb; omega)
            | (rw [tk_key_s x1, tk_key_v x2]; rw [nI_toInt (by omega), nI_toInt (by omega)] at ha hb; omega)
            | (rw [tk_key_v x1, tk_key_s x2]; rw [nI_toInt (by omega), nI_toInt (by omega)] at ha hb; omega)
    · refine br_f ha (h2 (fun e => ha (by rw [e]; exact Int32.le_refl _)) ?_)
      rw [hl]
      rw [Int32.le_iff_toInt_le] at ha
      rcases tk_T_cases hs with ⟨n, x1, e1, k1, v1⟩ | ⟨n, x1, x1', e1, k1, v1⟩ | ⟨n, x1, e1, k1, v1⟩ <;>
        rcases tk_T_cases ht with ⟨m, x2, e2, k2, v2⟩ | ⟨m, x2, x2', e2, k2, v2⟩ | ⟨m, x2, e2, k2, v2⟩ <;>
        rw [k1, k2] at hk <;> rw [v1, v2] at ha <;> rw [e1, e2] <;> first
          | exact absurd hk (by decide)
          | (rw [tk_key_s x1, tk_key_s x2]; rw [nI_toInt (by omega), nI_toInt (by omega)] at ha; omega)
          | (rw [tk_key_n x1 x1', tk_key_n x2 x2']; omega)
          | (rw [tk_key_v x1, tk_key_v x2]; rw [nI_toInt (by omega), nI_toInt (by omega)] at ha; omega)
          | (rw [tk_key_s x1, tk_key_v x2]; rw [nI_toInt (by omega), nI_toInt (by omega)] at ha; omega)
          | (rw [tk_key_v x1, tk_key_s x2]; rw [nI_toInt (by omega), nI_toInt (by omega)] at ha; omega)
  · refine br_f hk ?_
    have hne : s ≠ t := fun e => hk (by rw [e])
    by_cases hk1 : tk_kT s = 1
    · refine br_t hk1 (h2 hne ?_)
      rw [hl]
      rcases tk_T_cases hs with ⟨n, x1, e1, k1, v1⟩ | ⟨n, x1, x1', e1, k1, v1⟩ | ⟨n, x1, e1, k1, v1⟩ <;>
        rcases tk_T_cases ht with ⟨m, x2, e2, k2, v2⟩ | ⟨m, x2, x2', e2, k2, v2⟩ | ⟨m, x2, e2, k2, v2⟩ <;>
        rw [k1] at hk1 hk <;> rw [k2] at hk <;> rw [e1, e2] <;> have := hin n <;> have := hin m <;> first
          | exact absurd hk1 (by decide)
          | exact absurd rfl hk
          | (rw [tk_key_n x1 x1', tk_key_s x2]; omega)
          | (rw [tk_key_n x1 x1', tk_key_v x2]; omega)
    · refine br_f hk1 (h1 hne ?_)
      rw [hl]
      rcases tk_T_cases hs with ⟨n, x1, e1, k1, v1⟩ | ⟨n, x1, x1', e1, k1, v1⟩ | ⟨n, x1, e1, k1, v1⟩ <;>
        rcases tk_T_cases ht with ⟨m, x2, e2, k2, v2⟩ | ⟨m, x2, x2', e2, k2, v2⟩ | ⟨m, x2, e2, k2, v2⟩ <;>
        rw [k1] at hk1 hk <;> rw [k2] at hk <;> rw [e1, e2] <;> have := hin n <;> have := hin m <;> first
          | exact absurd rfl hk1
          | exact absurd rfl hk
          | (rw [tk_key_s x1, tk_key_n x2 x2']; omega)
          | (rw [tk_key_v x1, tk_key_n x2 x2']; omega)
