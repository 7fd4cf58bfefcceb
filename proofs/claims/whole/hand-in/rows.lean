section
theorem pk_us {f : Nat → Int32} {k : Nat} {x : Int32} : upd f k x k = x := if_pos rfl
theorem pk_un {f : Nat → Int32} {k j : Nat} {x : Int32} (h : j ≠ k) : upd f k x j = f j := if_neg h
theorem pk_uLs {f : Nat → Int64} {k : Nat} {x : Int64} : vp_updL f k x k = x := if_pos rfl
theorem pk_uLn {f : Nat → Int64} {k j : Nat} {x : Int64} (h : j ≠ k) : vp_updL f k x j = f j := if_neg h
theorem pk_sub {a b : Nat} (h : b ≤ a) : nI a - nI b = nI (a - b) := by
  obtain ⟨c, rfl⟩ : ∃ c, a = c + b := ⟨a - b, by omega⟩
  rw [← nI_add, Int32.add_sub_cancel, Nat.add_sub_cancel]
theorem pk_m1 (n : Nat) : nI (n + 1) + (-1) = nI n := by
  rw [← nI_1, Int32.add_assoc, show (1 : Int32) + (-1) = 0 from rfl, Int32.add_zero]
theorem pk_mul (a b : Nat) : nI a * nI b = nI (a * b) := (Int32.ofNat_mul a b).symm
theorem pk_div {a d : Nat} (ha : a < 2 ^ 31) (h0 : 0 < d) (hd : d < 2 ^ 31) : nI a / nI d = nI (a / d) := by
  apply Int32.toInt_inj.mp
  rw [lg_idiv_nonneg (by rw [nI_toInt ha]; omega) (by rw [nI_toInt hd]; omega), nI_toInt ha, nI_toInt hd, nI_toInt (Nat.lt_of_le_of_lt (Nat.div_le_self a d) ha)]
  first | rfl | exact (Int.natCast_ediv _ _).symm
theorem pk_rem {a d : Nat} (ha : a < 2 ^ 31) (h0 : 0 < d) (hd : d < 2 ^ 31) : nI a - nI a / nI d * nI d = nI (a % d) := by
  rw [pk_div ha h0 hd, pk_mul, pk_sub (Nat.div_mul_le_self a d)]
  exact congrArg nI (by have := Nat.div_add_mod' a d; omega)
theorem pk_sub_toInt {a b : Nat} (ha : a < 2 ^ 30) (hb : b < 2 ^ 30) : (nI a - nI b).toInt = (a : Int) - b := by
  rw [Int32.toInt_sub, nI_toInt (by omega), nI_toInt (by omega)]
  exact Int.bmod_eq_of_le (by omega) (by omega)
theorem pk_sneg {a b : Nat} (hb : b < 2 ^ 30) (h : a < b) : nI a - nI b < 0 := by
  rw [Int32.lt_iff_toInt_lt, pk_sub_toInt (by omega) hb, show (0 : Int32).toInt = 0 from by decide]
  omega
theorem pk_ix (x : Int32) {n : Nat} (hn : n < 2 ^ 31) : x < 0 ∨ nI n ≤ x ∨ ∃ j : Nat, j < n ∧ x = nI j := by
  by_cases h : x < 0
  · exact Or.inl h
  · obtain ⟨j, hj, rfl⟩ := nI_of h
    by_cases h2 : j < n
    · exact Or.inr (Or.inr ⟨j, h2, rfl⟩)
    · exact Or.inr (Or.inl (nI_le (by omega) hj))
theorem pk_le {x y : Int32} {A B : Prop} (a b : Nat) (f : a ≤ b → A) (g : b < a → B) (hx : x = nI a := by rfl) (hy : y = nI b := by rfl) (ha : a < 2 ^ 31 := by omega) (hb : b < 2 ^ 31 := by omega) : (x ≤ y → A) ∧ (¬ x ≤ y → B) := by
  subst hx hy
  rw [nI_leI ha hb]
  exact ⟨f, fun z => g (by omega)⟩
theorem pk_lt {x y : Int32} {A B : Prop} (a b : Nat) (f : a < b → A) (g : b ≤ a → B) (hx : x = nI a := by rfl) (hy : y = nI b := by rfl) (ha : a < 2 ^ 31 := by omega) (hb : b < 2 ^ 31 := by omega) : (x < y → A) ∧ (¬ x < y → B) := by
  subst hx hy
  rw [nI_ltI ha hb]
  exact ⟨f, fun z => g (by omega)⟩
theorem pk_eq {x y : Int32} {A B : Prop} (a b : Nat) (f : a = b → A) (g : a ≠ b → B) (hx : x = nI a := by rfl) (hy : y = nI b := by rfl) (ha : a < 2 ^ 31 := by omega) (hb : b < 2 ^ 31 := by omega) : (x = y → A) ∧ (¬ x = y → B) := by
  subst hx hy
  rw [nI_eq ha hb]
  exact ⟨f, g⟩
theorem pk_in {x : Int32} (n N : Nat) (h : n < N) (hx : x = nI n := by rfl) (hN : N < 2 ^ 31 := by omega) : vp_in x N := by
  subst hx
  exact vp_in_nI h hN
theorem pk_cl {x : Int32} (n : Nat) (hx : x = nI n := by rfl) (h : n < 2 ^ 31 := by omega) : x.toNatClampNeg = n := by
  subst hx
  exact nI_clamp h
theorem pk_tn {n : Nat} (h : n < 2 ^ 32) : (nI n).toBitVec.toNat = n := Nat.mod_eq_of_lt h
theorem pk_and (x : Int32) {m : Int32} (k : Nat) (hm : m.toBitVec.toNat = 2 ^ k - 1) : x &&& m = nI (x.toBitVec.toNat % 2 ^ k) := by
  apply Int32.toBitVec_inj.mp
  apply BitVec.eq_of_toNat_eq
  rw [Int32.toBitVec_and, BitVec.toNat_and, hm, Nat.and_two_pow_sub_one_eq_mod]
  show _ = (BitVec.ofNat 32 _).toNat
  rw [BitVec.toNat_ofNat]
  exact (Nat.mod_eq_of_lt (Nat.lt_of_le_of_lt (Nat.mod_le _ _) x.toBitVec.isLt)).symm
theorem pk_andN {n : Nat} (h : n < 2 ^ 32) {m : Int32} (k : Nat) (hm : m.toBitVec.toNat = 2 ^ k - 1) : nI n &&& m = nI (n % 2 ^ k) := by
  rw [pk_and _ k hm, pk_tn h]
theorem pk_andE (x : Int32) {m : Int32} (k : Nat) (hm : m.toBitVec.toNat = 2 ^ k - 1) : ∃ j : Nat, j < 2 ^ k ∧ x &&& m = nI j := ⟨_, Nat.mod_lt _ (Nat.two_pow_pos k), pk_and x k hm⟩
theorem pk_andIn (x : Int32) {m : Int32} (k : Nat) (hm : m.toBitVec.toNat = 2 ^ k - 1) (hk : k ≤ 30) : vp_in (x &&& m) (2 ^ k) := by
  obtain ⟨j, hj, e⟩ := pk_andE x k hm
  rw [e]
  exact vp_in_nI hj (Nat.lt_of_le_of_lt (Nat.pow_le_pow_right (by decide) hk) (by decide))
theorem pk_shl (a s : Int32) (k : Nat) (hs : (s.toBitVec.smod 32).toNat = k) : (a <<< s).toBitVec.toNat = a.toBitVec.toNat * 2 ^ k % 2 ^ 32 := by
  show (a.toBitVec <<< (s.toBitVec.smod 32).toNat).toNat = _
  rw [hs, BitVec.toNat_shiftLeft, Nat.shiftLeft_eq]
theorem pk_shlN {n : Nat} (s : Int32) (k : Nat) (hs : (s.toBitVec.smod 32).toNat = k) (h : n * 2 ^ k < 2 ^ 32) : nI n <<< s = nI (n * 2 ^ k) := by
  apply Int32.toBitVec_inj.mp
  apply BitVec.eq_of_toNat_eq
  have hn : n < 2 ^ 32 := Nat.lt_of_le_of_lt (Nat.le_mul_of_pos_right n (Nat.two_pow_pos k)) h
  rw [pk_shl _ _ k hs, pk_tn hn, pk_tn h, Nat.mod_eq_of_lt h]
theorem pk_shr (a s : Int32) (k : Nat) (hs : (s.toBitVec.smod 32).toNat = k) : (a >>> s).toInt = a.toInt >>> k := by
  show (a.toBitVec.sshiftRight (s.toBitVec.smod 32).toNat).toInt = _
  rw [hs, BitVec.toInt_sshiftRight]
  rfl
theorem pk_shrN {n : Nat} (h : n < 2 ^ 31) (s : Int32) (k : Nat) (hs : (s.toBitVec.smod 32).toNat = k) : nI n >>> s = nI (n / 2 ^ k) := by
  apply Int32.toInt_inj.mp
  have h2 : n / 2 ^ k ≤ n := Nat.div_le_self _ _
  rw [pk_shr _ _ k hs, nI_toInt h, nI_toInt (by omega), Int.shiftRight_eq_div_pow]
  rfl
theorem pk_ushr (x s : Int32) (k : Nat) (hs : ((s.toUInt32 &&& Int32.toUInt32 31).toBitVec % 32).toNat = k) : (x.toUInt32 >>> (s.toUInt32 &&& Int32.toUInt32 31)).toInt32.toBitVec.toNat = x.toBitVec.toNat / 2 ^ k := by
  have e : (x.toUInt32 >>> (s.toUInt32 &&& Int32.toUInt32 31)).toInt32.toBitVec = x.toBitVec >>> k := by
    rw [← hs]
    exact UInt32.toBitVec_shiftRight _ _
  rw [e, BitVec.toNat_ushiftRight, Nat.shiftRight_eq_div_pow]
theorem pk_ushrN {n : Nat} (hn : n < 2 ^ 32) (s : Int32) (k : Nat) (hs : ((s.toUInt32 &&& Int32.toUInt32 31).toBitVec % 32).toNat = k) : ((nI n).toUInt32 >>> (s.toUInt32 &&& Int32.toUInt32 31)).toInt32 = nI (n / 2 ^ k) := by
  apply Int32.toBitVec_inj.mp
  apply BitVec.eq_of_toNat_eq
  rw [pk_ushr _ s k hs, pk_tn hn, pk_tn (Nat.lt_of_le_of_lt (Nat.div_le_self _ _) hn)]
theorem pk_nb (z : Int32) : narrow .byte (.int z.toInt8.toInt32) = .int z.toInt8.toInt32 := congrArg Value.int (by simp)
theorem pk_ns (z : Int32) : narrow .short (.int z.toInt16.toInt32) = .int z.toInt16.toInt32 := congrArg Value.int (by simp)
theorem pk_fb (r : Int32) : fits .byte (.int r.toInt8.toInt32) = true := by
  have ⟨a, b⟩ := lg_i2b_range r
  have h1 : (-128 : Int32).toInt = -128 := by decide
  have h2 : (127 : Int32).toInt = 127 := by decide
  simp only [fits, Bool.and_eq_true, decide_eq_true_eq, Int32.le_iff_toInt_le, h1, h2]
  omega
theorem pk_fs (r : Int32) : fits .short (.int r.toInt16.toInt32) = true := by
  have ⟨a, b⟩ := lg_i2s_range r
  have h1 : (-32768 : Int32).toInt = -32768 := by decide
  have h2 : (32767 : Int32).toInt = 32767 := by decide
  simp only [fits, Bool.and_eq_true, decide_eq_true_eq, Int32.le_iff_toInt_le, h1, h2]
  omega
theorem pk_charN {q : Nat} (hq : q < 65536) : narrow .char (.int (nI q)) = .int (nI q) ∧ fits .char (.int (nI q)) = true := by
  constructor
  · have e : (nI q).toUInt32.toUInt16.toUInt32.toInt32 = nI q := by
      apply Int32.toBitVec_inj.mp
      apply BitVec.eq_of_toNat_eq
      show (nI q).toUInt32.toUInt16.toUInt32.toNat = q % 2 ^ 32
      rw [UInt16.toNat_toUInt32, UInt32.toNat_toUInt16, show (nI q).toUInt32.toNat = q % 2 ^ 32 from rfl]
      omega
    exact congrArg Value.int e
  · have a : (0 : Int32) ≤ nI q := nI_pos' (by omega)
    have b : nI q ≤ 65535 := nI_le (b := 65535) (by omega) (by decide)
    show (decide ((0 : Int32) ≤ nI q) && decide (nI q ≤ 65535)) = true
    rw [decide_eq_true a, decide_eq_true b]
    rfl
theorem pk_char (x : Int32) : (x.toUInt32 % 65536).toInt32 = nI (x.toBitVec.toNat % 65536) := by
  apply Int32.toBitVec_inj.mp
  apply BitVec.eq_of_toNat_eq
  rw [pk_tn (by omega)]
  show (x.toUInt32 % 65536).toNat = _
  rw [UInt32.toNat_mod]
  rfl
theorem pk_nc (x : Int32) : narrow .char (.int (x.toUInt32 % 65536).toInt32) = .int (x.toUInt32 % 65536).toInt32 := by
  rw [pk_char]
  exact (pk_charN (Nat.mod_lt _ (by decide))).1
theorem pk_fc (x : Int32) : fits .char (.int (x.toUInt32 % 65536).toInt32) = true := by
  rw [pk_char]
  exact (pk_charN (Nat.mod_lt _ (by decide))).2
theorem pk_vb (z : Int32) : vp_nar .byte z.toInt8.toInt32 = z.toInt8.toInt32 := by rw [vp_nar_byte]; simp
theorem pk_vs (z : Int32) : vp_nar .short z.toInt16.toInt32 = z.toInt16.toInt32 := by rw [vp_nar_short]; simp
theorem pk_vc (z : Int32) : vp_nar .char (z.toUInt32 % 65536).toInt32 = (z.toUInt32 % 65536).toInt32 := Value.int.inj (pk_nc z)
theorem pk_lT {n : Nat} (h : n < 2 ^ 63) : (lN n).toInt = (n : Int) := lg_ofNat_toInt h
theorem pk_lLT {a b : Nat} (ha : a < 2 ^ 63) (hb : b < 2 ^ 63) : lN a < lN b ↔ a < b := by
  rw [Int64.lt_iff_toInt_lt, pk_lT ha, pk_lT hb]; omega
theorem pk_lLE {a b : Nat} (ha : a < 2 ^ 63) (hb : b < 2 ^ 63) : lN a ≤ lN b ↔ a ≤ b := by
  rw [Int64.le_iff_toInt_le, pk_lT ha, pk_lT hb]; omega
theorem pk_lEQ {a b : Nat} (ha : a < 2 ^ 63) (hb : b < 2 ^ 63) : lN a = lN b ↔ a = b := by
  rw [← Int64.toInt_inj, pk_lT ha, pk_lT hb]; omega
theorem pk_lOf {x : Int64} (h : ¬ x < 0) : ∃ k : Nat, k < 2 ^ 63 ∧ x = lN k := by
  rw [Int64.lt_iff_toInt_lt] at h
  have h0 : (0 : Int64).toInt = 0 := by decide
  have hx := Int64.toInt_lt x
  refine ⟨x.toInt.toNat, by omega, Int64.toInt_inj.mp ?_⟩
  rw [pk_lT (by omega)]
  omega
theorem pk_lDiv {a b : Nat} (ha : a < 2 ^ 63) (h0 : 0 < b) (hb : b < 2 ^ 63) : lN a / lN b = lN (a / b) := by
  apply Int64.toInt_inj.mp
  rw [lg_ldiv_nonneg (by rw [pk_lT ha]; omega) (by rw [pk_lT hb]; omega), pk_lT ha, pk_lT hb, pk_lT (Nat.lt_of_le_of_lt (Nat.div_le_self a b) ha)]
  rfl
theorem pk_lRem {a b : Nat} (ha : a < 2 ^ 63) (h0 : 0 < b) (hb : b < 2 ^ 63) : lN a - lN a / lN b * lN b = lN (a % b) := by
  rw [pk_lDiv ha h0 hb, lN_mul, lN_sub (Nat.div_mul_le_self a b)]
  exact congrArg lN (by have := Nat.div_add_mod' a b; omega)
theorem pk_loop {σ : Type} (W : Nat → Nat → σ → Prop) (I : Nat → σ → Prop) (e i0 : Nat) (s : σ) (hi : i0 ≤ e) (h0 : I i0 s) (hx : ∀ n s, I e s → W (n + 1) e s)
    (hs : ∀ n i s, i < e → I i s → (∀ s', I (i + 1) s' → W n (i + 1) s') → W (n + 1) i s) : ∃ n, W n i0 s :=
  ⟨e + 1, loop_i W I e hx hs (e + 1) i0 s hi (by omega) h0⟩
theorem pk_loopD {σ : Type} (W : Nat → Nat → σ → Prop) (I : Nat → σ → Prop) (hx : ∀ n s, I 0 s → W (n + 1) 0 s)
    (hs : ∀ n i s, I (i + 1) s → (∀ s', I i s' → W n i s') → W (n + 1) (i + 1) s) : ∀ (e : Nat) (s : σ), I e s → W (e + 1) e s := by
  intro e
  induction e with
  | zero => exact fun s h => hx 0 s h
  | succ e ih => exact fun s h => hs (e + 1) e s h (fun s' h' => ih s' h')
def bt (x : Int32) (i : Nat) : Bool := x.toBitVec.getLsbD i
theorem b_ext {x y : Int32} (h : ∀ i, i < 32 → bt x i = bt y i) : x = y := Int32.toBitVec_inj.mp (BitVec.eq_of_getLsbD_eq (fun i hi => h i hi))
theorem b_or (x y : Int32) (i : Nat) : bt (x ||| y) i = (bt x i || bt y i) := by unfold bt; rw [Int32.toBitVec_or, BitVec.getLsbD_or]
theorem b_and (x y : Int32) (i : Nat) : bt (x &&& y) i = (bt x i && bt y i) := by unfold bt; rw [Int32.toBitVec_and, BitVec.getLsbD_and]
theorem b_xor (x y : Int32) (i : Nat) : bt (x ^^^ y) i = (bt x i ^^ bt y i) := by unfold bt; rw [Int32.toBitVec_xor, BitVec.getLsbD_xor]
theorem b_big {x : Int32} {i : Nat} (h : 32 ≤ i) : bt x i = false := BitVec.getLsbD_of_ge _ _ h
theorem b_255 (i : Nat) : bt 255 i = decide (i < 8) := by
  rcases Nat.lt_or_ge i 32 with h | h
  · exact (by decide +kernel : ∀ i, i < 32 → bt 255 i = decide (i < 8)) i h
  · rw [b_big h, decide_eq_false (by omega)]
theorem b_65535 (i : Nat) : bt 65535 i = decide (i < 16) := by
  rcases Nat.lt_or_ge i 32 with h | h
  · exact (by decide +kernel : ∀ i, i < 32 → bt 65535 i = decide (i < 16)) i h
  · rw [b_big h, decide_eq_false (by omega)]
theorem b_m1 : ∀ i, i < 32 → bt (-1) i = true := by decide +kernel
theorem b_0 (i : Nat) : bt 0 i = false := BitVec.getLsbD_zero
theorem s_l : ∀ n, n < 32 → ((nI n &&& 31).toBitVec.smod 32).toNat = n := by decide +kernel
theorem s_u : ∀ n, n < 32 → (((nI n).toUInt32 &&& Int32.toUInt32 31).toBitVec % 32).toNat = n := by decide +kernel
theorem b_shl (n : Nat) (hn : n < 32) (x : Int32) {i : Nat} (hi : i < 32) : bt (x <<< (nI n &&& 31)) i = (decide (n ≤ i) && bt x (i - n)) := by
  unfold bt
  rw [Int32.toBitVec_shiftLeft]
  show (x.toBitVec <<< ((nI n &&& 31).toBitVec.smod 32).toNat).getLsbD i = _
  rw [s_l n hn, BitVec.getLsbD_shiftLeft]
  rcases Nat.lt_or_ge i n with h | h
  · simp [h, Nat.not_le.mpr h]
  · simp [hi, h, Nat.not_lt.mpr h]
theorem b_ushr (n : Nat) (hn : n < 32) (x : Int32) (i : Nat) : bt ((x.toUInt32 >>> ((nI n).toUInt32 &&& Int32.toUInt32 31)).toInt32) i = bt x (n + i) := by
  show (x.toUInt32 >>> ((nI n).toUInt32 &&& Int32.toUInt32 31)).toBitVec.getLsbD i = x.toUInt32.toBitVec.getLsbD (n + i)
  rw [UInt32.toBitVec_shiftRight]
  show (x.toUInt32.toBitVec >>> (((nI n).toUInt32 &&& Int32.toUInt32 31).toBitVec % 32).toNat).getLsbD i = _
  rw [s_u n hn, BitVec.getLsbD_ushiftRight]
theorem b_sshr (n : Nat) (hn : n < 32) (x : Int32) {i : Nat} (hi : i < 32) : bt (x >>> (nI n &&& 31)) i = if n + i < 32 then bt x (n + i) else bt x 31 := by
  unfold bt
  rw [Int32.toBitVec_shiftRight]
  show (x.toBitVec.sshiftRight ((nI n &&& 31).toBitVec.smod 32).toNat).getLsbD i = _
  rw [s_l n hn, BitVec.getLsbD_sshiftRight, BitVec.msb_eq_getLsbD_last]
  simp [hi]
theorem wb_tb (n : Nat) : (lN n).toBitVec = BitVec.ofNat 64 n := rfl
theorem wb_inj {a b : Int64} (h : a.toBitVec = b.toBitVec) : a = b := Int64.toBitVec_inj.mp h
theorem wb_tn {n : Nat} (h : n < 2 ^ 64) : (lN n).toBitVec.toNat = n := by rw [wb_tb, BitVec.toNat_ofNat, Nat.mod_eq_of_lt h]
theorem wb_of (x : Int64) : ∃ n, n < 2 ^ 64 ∧ x = lN n := ⟨x.toBitVec.toNat, x.toBitVec.isLt, wb_inj (by rw [wb_tb]; simp)⟩
theorem wb_of32 (x : Int32) : ∃ n, n < 2 ^ 32 ∧ x = nI n := ⟨x.toBitVec.toNat, x.toBitVec.isLt, Int32.toBitVec_inj.mp (by show _ = BitVec.ofNat 32 _; simp)⟩
theorem wb_c : ∀ k, k < 64 → ((nI k).toInt64 &&& 63) = lN k := by decide +kernel
theorem wb_cu : ∀ k, k < 64 → ((nI k).toInt64.toUInt64 &&& Int64.toUInt64 63) = UInt64.ofNat k := by decide +kernel
theorem wb_sm : ∀ k, k < 64 → (BitVec.ofNat 64 k).smod 64 = BitVec.ofNat 64 k := by decide +kernel
theorem wb_pw {a b : Nat} (h : a ≤ b) : 2 ^ b = 2 ^ a * 2 ^ (b - a) := by rw [← Nat.pow_add]; congr 1; omega
theorem wb_lt2 {a b : Nat} (h : a < b) : 2 ^ a < 2 ^ b := Nat.pow_lt_pow_right (by decide) h
theorem wb_mod (n : Nat) : lN n = lN (n % 2 ^ 64) := wb_inj (by rw [wb_tb, wb_tb]; apply BitVec.eq_of_toNat_eq; rw [BitVec.toNat_ofNat, BitVec.toNat_ofNat, Nat.mod_mod])
theorem wb_shr {n k : Nat} (hn : n < 2 ^ 64) (hk : k < 64) : ((lN n).toUInt64 >>> ((nI k).toInt64.toUInt64 &&& Int64.toUInt64 63)).toInt64 = lN (n / 2 ^ k) := by
  rw [wb_cu k hk]
  apply wb_inj
  apply BitVec.eq_of_toNat_eq
  show ((lN n).toUInt64 >>> UInt64.ofNat k).toNat = (BitVec.ofNat 64 _).toNat
  have h1 : (UInt64.ofNat k).toNat = k := by
    show (BitVec.ofNat 64 k).toNat = k
    rw [BitVec.toNat_ofNat, Nat.mod_eq_of_lt (by omega)]
  have h2 : (lN n).toUInt64.toNat = n := wb_tn hn
  rw [UInt64.toNat_shiftRight, h1, h2, Nat.mod_eq_of_lt hk, Nat.shiftRight_eq_div_pow, BitVec.toNat_ofNat, Nat.mod_eq_of_lt (Nat.lt_of_le_of_lt (Nat.div_le_self _ _) hn)]
theorem wb_shl (n : Nat) {k : Nat} (hk : k < 64) : lN n <<< ((nI k).toInt64 &&& 63) = lN (n * 2 ^ k) := by
  rw [wb_c k hk]
  apply wb_inj
  rw [Int64.toBitVec_shiftLeft, wb_tb, wb_tb, wb_tb, wb_sm k hk]
  apply BitVec.eq_of_toNat_eq
  rw [BitVec.shiftLeft_eq', BitVec.toNat_shiftLeft, BitVec.toNat_ofNat, BitVec.toNat_ofNat, BitVec.toNat_ofNat, Nat.mod_eq_of_lt (show k < 2 ^ 64 by omega), Nat.shiftLeft_eq, Nat.mul_mod, Nat.mod_mod, ← Nat.mul_mod]
theorem wb_and {a b : Nat} (ha : a < 2 ^ 64) (hb : b < 2 ^ 64) : lN a &&& lN b = lN (a &&& b) := by
  apply wb_inj
  rw [Int64.toBitVec_and, wb_tb, wb_tb, wb_tb]
  apply BitVec.eq_of_toNat_eq
  rw [BitVec.toNat_and, BitVec.toNat_ofNat, BitVec.toNat_ofNat, BitVec.toNat_ofNat, Nat.mod_eq_of_lt ha, Nat.mod_eq_of_lt hb, Nat.mod_eq_of_lt (Nat.and_lt_two_pow _ hb)]
theorem wb_or {a b : Nat} (ha : a < 2 ^ 64) (hb : b < 2 ^ 64) : lN a ||| lN b = lN (a ||| b) := by
  apply wb_inj
  rw [Int64.toBitVec_or, wb_tb, wb_tb, wb_tb]
  apply BitVec.eq_of_toNat_eq
  rw [BitVec.toNat_or, BitVec.toNat_ofNat, BitVec.toNat_ofNat, BitVec.toNat_ofNat, Nat.mod_eq_of_lt ha, Nat.mod_eq_of_lt hb, Nat.mod_eq_of_lt (Nat.or_lt_two_pow ha hb)]
theorem wb_mask {n k : Nat} (hn : n < 2 ^ 64) (hk : k < 64) : lN n &&& lN (2 ^ k - 1) = lN (n % 2 ^ k) := by
  rw [wb_and hn (by have := wb_lt2 hk; omega), Nat.and_two_pow_sub_one_eq_mod]
theorem wb_a1 {n : Nat} (hn : n < 2 ^ 64) : lN n &&& 1 = lN (n % 2) := wb_mask (k := 1) hn (by decide)
theorem wb_bit {n k : Nat} (hn : n < 2 ^ 64) (hk : k < 64) : ((lN n).toUInt64 >>> ((nI k).toInt64.toUInt64 &&& Int64.toUInt64 63)).toInt64 &&& 1 = lN (n / 2 ^ k % 2) := by
  rw [wb_shr hn hk, wb_a1 (Nat.lt_of_le_of_lt (Nat.div_le_self _ _) hn)]
end
section
/-! terms as lists of tokens: arity, m terms in a row, where they end, no term begins another; what an array holds -/
def tm_ar (t : Int64) : Nat := if t < 4 then 0 else if t < 12 then (if 7 ≤ t then 2 else 1) else 0
theorem tm_ar_le (t : Int64) : tm_ar t ≤ 2 := by
  unfold tm_ar
  split
  · omega
  · split
    · split <;> omega
    · omega
/-- the list is m terms, one behind another -/
def tm_w : List Int64 → Nat → Prop
  | [], m => m = 0
  | t :: l, m => 0 < m ∧ tm_w l (m - 1 + tm_ar t)
theorem tm_w_nil {m : Nat} : tm_w [] m ↔ m = 0 := Iff.rfl
theorem tm_w_cons {t : Int64} {l : List Int64} {m : Nat} : tm_w (t :: l) (m + 1) ↔ tm_w l (m + tm_ar t) := by
  constructor
  · intro h; exact h.2
  · intro h; exact ⟨by omega, h⟩
theorem tm_w_ne {t : Int64} {l : List Int64} {m : Nat} (h : tm_w (t :: l) m) : ∃ k, m = k + 1 ∧ tm_w l (k + tm_ar t) := by
  obtain ⟨h0, h1⟩ := h
  exact ⟨m - 1, by omega, h1⟩
theorem tm_w_app : ∀ (a b : List Int64) (m k : Nat), tm_w a m → tm_w b k → tm_w (a ++ b) (m + k)
  | [], b, m, k, ha, hb => by
    rw [tm_w_nil] at ha; subst ha; rw [Nat.zero_add]; exact hb
  | t :: a, b, m, k, ha, hb => by
    obtain ⟨h0, h1⟩ := ha
    refine ⟨by omega, ?_⟩
    have := tm_w_app a b _ k h1 hb
    rw [show m + k - 1 + tm_ar t = m - 1 + tm_ar t + k by omega]
    exact this
theorem tm_w_split : ∀ (l : List Int64) (m k : Nat), tm_w l (m + k) → ∃ a b, l = a ++ b ∧ tm_w a m ∧ tm_w b k
  | l, 0, k, h => ⟨[], l, rfl, rfl, by rw [Nat.zero_add] at h; exact h⟩
  | [], m + 1, k, h => by
    rw [tm_w_nil] at h; omega
  | t :: l, m + 1, k, h => by
    obtain ⟨_, h1⟩ := h
    rw [show m + 1 + k - 1 + tm_ar t = (m + tm_ar t) + k by omega] at h1
    obtain ⟨a, b, e, ha, hb⟩ := tm_w_split l (m + tm_ar t) k h1
    exact ⟨t :: a, b, by rw [e]; rfl, tm_w_cons.mpr ha, hb⟩
theorem tm_w_inj : ∀ (l : List Int64) (m k : Nat), tm_w l m → tm_w l k → m = k
  | [], m, k, h, h' => by rw [tm_w_nil] at h h'; omega
  | t :: l, m, k, h, h' => by
    have := tm_w_inj l _ _ h.2 h'.2
    have := h.1
    have := h'.1
    omega
/-- how many tokens the first m terms take -/
def tm_n : List Int64 → Nat → Nat
  | _, 0 => 0
  | [], _ + 1 => 0
  | t :: l, m + 1 => tm_n l (m + tm_ar t) + 1
theorem tm_n_0 (l : List Int64) : tm_n l 0 = 0 := by cases l <;> rfl
theorem tm_n_app : ∀ (a r : List Int64) (m : Nat), tm_w a m → tm_n (a ++ r) m = a.length
  | [], r, m, h => by rw [tm_w_nil] at h; subst h; exact tm_n_0 _
  | t :: a, r, m, h => by
    obtain ⟨k, rfl, h1⟩ := tm_w_ne h
    show tm_n (a ++ r) (k + tm_ar t) + 1 = a.length + 1
    rw [tm_n_app a r _ h1]
theorem tm_n_all {a : List Int64} {m : Nat} (h : tm_w a m) : tm_n a m = a.length := by
  have := tm_n_app a [] m h
  rwa [List.append_nil] at this
theorem tm_pf {a b r s : List Int64} {m : Nat} (ha : tm_w a m) (hb : tm_w b m) (h : a ++ r = b ++ s) : a = b ∧ r = s := by
  have e : a.length = b.length := by rw [← tm_n_app a r m ha, ← tm_n_app b s m hb, h]
  exact List.append_inj h e
theorem tm_w_len : ∀ (l : List Int64) (m : Nat), tm_w l m → m ≤ l.length
  | [], m, h => by rw [tm_w_nil] at h; omega
  | t :: l, m, h => by
    obtain ⟨k, rfl, h1⟩ := tm_w_ne h
    have := tm_w_len l _ h1
    simp only [List.length_cons]; omega
theorem tm_w_pos {l : List Int64} (h : tm_w l 1) : ∃ t r, l = t :: r ∧ tm_w r (tm_ar t) := by
  cases l with
  | nil => rw [tm_w_nil] at h; omega
  | cons t r => exact ⟨t, r, rfl, by have := tm_w_cons.mp h; rwa [Nat.zero_add] at this⟩
theorem tm_w_0 {l : List Int64} (h : tm_w l 0) : l = [] := by
  cases l with
  | nil => rfl
  | cons t r => exact absurd h.1 (by omega)
theorem tm_w_1 {t : Int64} (h : tm_ar t = 0) : tm_w [t] 1 := by
  refine ⟨by omega, ?_⟩
  rw [h]; exact rfl
/-- the first two terms exchanged -/
def tm_sw (l : List Int64) : List Int64 :=
  (l.drop (tm_n l 1)).take (tm_n (l.drop (tm_n l 1)) 1) ++ l.take (tm_n l 1) ++ (l.drop (tm_n l 1)).drop (tm_n (l.drop (tm_n l 1)) 1)
theorem tm_sw_eq {a b r : List Int64} (ha : tm_w a 1) (hb : tm_w b 1) : tm_sw (a ++ (b ++ r)) = b ++ (a ++ r) := by
  have e1 : tm_n (a ++ (b ++ r)) 1 = a.length := tm_n_app _ _ _ ha
  have e2 : (a ++ (b ++ r)).drop a.length = b ++ r := List.drop_left
  have e3 : tm_n (b ++ r) 1 = b.length := tm_n_app _ _ _ hb
  unfold tm_sw
  rw [e1, e2, e3, List.take_left, List.take_left, List.drop_left, List.append_assoc]
theorem tm_sw_len {a b r : List Int64} (ha : tm_w a 1) (hb : tm_w b 1) : (tm_sw (a ++ (b ++ r))).length = (a ++ (b ++ r)).length := by
  rw [tm_sw_eq ha hb]
  simp only [List.length_append]; omega
theorem tm_w_sw {l : List Int64} {m : Nat} (h : tm_w l (m + 2)) : tm_w (tm_sw l) (m + 2) := by
  rw [show m + 2 = 1 + (1 + m) by omega] at h
  obtain ⟨a, l1, rfl, ha, h1⟩ := tm_w_split l 1 (1 + m) h
  obtain ⟨b, r, rfl, hb, hr⟩ := tm_w_split l1 1 m h1
  rw [tm_sw_eq ha hb, show m + 2 = 1 + (1 + m) by omega]
  exact tm_w_app _ _ _ _ hb (tm_w_app _ _ _ _ ha hr)
theorem tm_2 {l : List Int64} {m : Nat} (h : tm_w l (m + 2)) : ∃ a b r, l = a ++ (b ++ r) ∧ tm_w a 1 ∧ tm_w b 1 ∧ tm_w r m := by
  rw [show m + 2 = 1 + (1 + m) by omega] at h
  obtain ⟨a, l1, rfl, ha, h1⟩ := tm_w_split l 1 (1 + m) h
  obtain ⟨b, r, rfl, hb, hr⟩ := tm_w_split l1 1 m h1
  exact ⟨a, b, r, rfl, ha, hb, hr⟩

/-- the array f holds the list from place i on -/
def hd_h {α : Type} (f : Nat → α) : Nat → List α → Prop
  | _, [] => True
  | i, t :: l => f i = t ∧ hd_h f (i + 1) l
theorem hd_app {α : Type} {f : Nat → α} : ∀ {a b : List α} {i : Nat}, hd_h f i (a ++ b) ↔ hd_h f i a ∧ hd_h f (i + a.length) b
  | [], b, i => by
    show hd_h f i b ↔ True ∧ hd_h f (i + 0) b
    rw [Nat.add_zero, true_and]
  | t :: a, b, i => by
    show (f i = t ∧ hd_h f (i + 1) (a ++ b)) ↔ (f i = t ∧ hd_h f (i + 1) a) ∧ hd_h f (i + (a.length + 1)) b
    rw [hd_app, show i + 1 + a.length = i + (a.length + 1) by omega, and_assoc]
theorem hd_congr {α : Type} {f g : Nat → α} : ∀ {l : List α} {i : Nat}, (∀ j, i ≤ j → j < i + l.length → g j = f j) → hd_h f i l → hd_h g i l
  | [], i, _, _ => trivial
  | t :: l, i, h, h1 => by
    refine ⟨(h i (by omega) (by simp only [List.length_cons]; omega)).trans h1.1, hd_congr (fun j a b => h j (by omega) (by simp only [List.length_cons]; omega)) h1.2⟩
theorem hd_get {α : Type} {f : Nat → α} : ∀ {l : List α} {i j : Nat} (_ : hd_h f i l) (hj : j < l.length), f (i + j) = l[j]
  | t :: l, i, 0, h, hj => h.1
  | t :: l, i, j + 1, h, hj => by
    have := hd_get (i := i + 1) (j := j) h.2 (by simp only [List.length_cons] at hj; omega)
    rw [show i + 1 + j = i + (j + 1) by omega] at this
    exact this
theorem hd_of {α : Type} {f : Nat → α} : ∀ {l : List α} {i : Nat}, (∀ j (hj : j < l.length), f (i + j) = l[j]) → hd_h f i l
  | [], i, _ => trivial
  | t :: l, i, h => ⟨h 0 (by simp), hd_of (fun j hj => by
      have := h (j + 1) (by simp only [List.length_cons]; omega)
      rw [show i + 1 + j = i + (j + 1) by omega]
      exact this)⟩
theorem hd_snoc {α : Type} {f g : Nat → α} {l : List α} {i : Nat} {x : α} (h : hd_h f i l) (hg : ∀ j, i ≤ j → j < i + l.length → g j = f j) (hx : g (i + l.length) = x) : hd_h g i (l ++ [x]) :=
  hd_app.mpr ⟨hd_congr hg h, hx, trivial⟩
theorem hd_uniq {α : Type} {f : Nat → α} : ∀ {a b : List α} {i : Nat}, hd_h f i a → hd_h f i b → a.length = b.length → a = b
  | [], [], _, _, _, _ => rfl
  | [], _ :: _, _, _, _, h => by simp at h
  | _ :: _, [], _, _, _, h => by simp at h
  | x :: a, y :: b, i, h1, h2, h => by
    rw [← h1.1, ← h2.1, hd_uniq h1.2 h2.2 (by simpa using h)]
theorem hd_eq {α : Type} {f : Nat → α} {l : List α} {i : Nat} (t : α) (r : List α) (h : hd_h f i l) (e : l = t :: r) : f i = t ∧ hd_h f (i + 1) r := by
  subst e; exact h
/-- the same but from i on, n places -/
def hd_o {α : Type} (f g : Nat → α) (i n : Nat) : Prop := ∀ j, (j < i ∨ i + n ≤ j) → g j = f j
theorem hd_keepl {α : Type} {f g : Nat → α} {i n : Nat} {l : List α} {k : Nat} (ho : hd_o f g i n) (h : hd_h f k l) (hk : k + l.length ≤ i) : hd_h g k l :=
  hd_congr (fun j a b => ho j (Or.inl (by omega))) h
theorem hd_keepr {α : Type} {f g : Nat → α} {i n : Nat} {l : List α} {k : Nat} (ho : hd_o f g i n) (h : hd_h f k l) (hk : i + n ≤ k) : hd_h g k l :=
  hd_congr (fun j a b => ho j (Or.inr (by omega))) h
theorem hd_updL {f : Nat → Int64} {l : List Int64} {i k : Nat} {x : Int64} (h : hd_h f i l) (hk : k < i ∨ i + l.length ≤ k) : hd_h (vp_updL f k x) i l :=
  hd_congr (fun j a b => pk_uLn (by omega)) h
theorem hd_upd {f : Nat → Int32} {l : List Int32} {i k : Nat} {x : Int32} (h : hd_h f i l) (hk : k < i ∨ i + l.length ≤ k) : hd_h (upd f k x) i l :=
  hd_congr (fun j a b => pk_un (by omega)) h
theorem hd_snocL {f : Nat → Int64} {l : List Int64} {i : Nat} {x : Int64} (h : hd_h f i l) : hd_h (vp_updL f (i + l.length) x) i (l ++ [x]) :=
  hd_snoc h (fun j a b => pk_uLn (by omega)) pk_uLs
end
section
/-! tokens: the component's longs, and the reference's kind and value -/
def tk_t (t : Int64) : Prop := ∃ n : Nat, t = lN n ∧ (n < 12 ∨ (4294967296 ≤ n ∧ n < 8589934600))
def tk_d (t : Int64) : Prop := ∃ n : Nat, t = lN n ∧ (n < 12 ∨ (4294967296 ≤ n ∧ n < 8589934592))
def tk_r (t : Int64) : Prop := ∃ n : Nat, t = lN n ∧ (n < 12 ∨ (4294967296 ≤ n ∧ n < 8589934596) ∨ (12884901888 ≤ n ∧ n < 12884901892))
def tk_kT (t : Int64) : Int32 := if t < 4294967296 then 0 else if t < 8589934592 then 1 else 0
def tk_vT (t : Int64) : Int32 := if t < 8589934592 then t.toInt32 else 100 + t.toInt32
def tk_kR (t : Int64) : Int32 := if t < 4294967296 then 0 else if t < 8589934592 then 1 else if t < 12884901888 then 2 else 3
def tk_vR (t : Int64) : Int32 := t.toInt32
theorem tk_d_t {t : Int64} (h : tk_d t) : tk_t t := by
  obtain ⟨n, e, h⟩ := h
  exact ⟨n, e, by omega⟩
theorem tk_d_r {t : Int64} (h : tk_d t) : tk_r t := by
  obtain ⟨n, e, h⟩ := h
  exact ⟨n, e, by omega⟩
theorem tk_lt {n : Nat} (k : Nat) (h : n < 2 ^ 62) {x : Int64} (hx : x = lN k := by rfl) (hk : k < 2 ^ 62 := by decide) : lN n < x ↔ n < k := by
  subst hx
  exact pk_lLT (by omega) (by omega)
theorem tk_le {n : Nat} (k : Nat) (h : n < 2 ^ 62) {x : Int64} (hx : x = lN k := by rfl) (hk : k < 2 ^ 62 := by decide) : x ≤ lN n ↔ k ≤ n := by
  subst hx
  exact pk_lLE (by omega) (by omega)
theorem tk_eq {n : Nat} (k : Nat) (h : n < 2 ^ 62) {x : Int64} (hx : x = lN k := by rfl) (hk : k < 2 ^ 62 := by decide) : lN n = x ↔ n = k := by
  subst hx
  exact pk_lEQ (by omega) (by omega)
theorem tk_wrap (n k : Nat) : nI (n + 4294967296 * k) = nI n := by
  apply Int32.toBitVec_inj.mp
  show BitVec.ofNat 32 _ = BitVec.ofNat 32 _
  apply BitVec.eq_of_toNat_eq
  rw [BitVec.toNat_ofNat, BitVec.toNat_ofNat]
  omega
theorem tk_inj {n k : Nat} (h : nI n = nI k) : n % 4294967296 = k % 4294967296 := by
  have h1 := congrArg (fun x => x.toBitVec.toNat) h
  have h2 : (BitVec.ofNat 32 n).toNat = (BitVec.ofNat 32 k).toNat := h1
  rw [BitVec.toNat_ofNat, BitVec.toNat_ofNat] at h2
  exact h2
theorem tk_ar_n {n : Nat} (h : n < 2 ^ 62) : tm_ar (lN n) = if n < 4 then 0 else if n < 12 then (if 7 ≤ n then 2 else 1) else 0 := by
  unfold tm_ar
  simp only [(tk_lt 4 h : lN n < 4 ↔ n < 4), (tk_lt 12 h : lN n < 12 ↔ n < 12), (tk_le 7 h : 7 ≤ lN n ↔ 7 ≤ n)]
theorem tk_T_sym {n : Nat} (h : n < 12) : tk_kT (lN n) = 0 ∧ tk_vT (lN n) = nI n := by
  unfold tk_kT tk_vT
  rw [if_pos ((tk_lt 4294967296 (by omega)).mpr (by omega)), if_pos ((tk_lt 8589934592 (by omega)).mpr (by omega)), lN_i]
  exact ⟨rfl, rfl⟩
theorem tk_T_num {n : Nat} (h : 4294967296 ≤ n) (h2 : n < 8589934592) : tk_kT (lN n) = 1 ∧ tk_vT (lN n) = nI n := by
  unfold tk_kT tk_vT
  rw [if_neg (by rw [tk_lt 4294967296 (by omega)]; omega), if_pos ((tk_lt 8589934592 (by omega)).mpr (by omega)), if_pos ((tk_lt 8589934592 (by omega)).mpr (by omega)), lN_i]
  exact ⟨rfl, rfl⟩
theorem tk_T_var {r : Nat} (h : r < 8) : tk_kT (lN (8589934592 + r)) = 0 ∧ tk_vT (lN (8589934592 + r)) = nI (100 + r) := by
  unfold tk_kT tk_vT
  rw [if_neg (by rw [tk_lt 4294967296 (by omega)]; omega), if_neg (by rw [tk_lt 8589934592 (by omega)]; omega), if_neg (by rw [tk_lt 8589934592 (by omega)]; omega), lN_i, show 8589934592 + r = r + 4294967296 * 2 by omega, tk_wrap, ← nI_add]
  exact ⟨rfl, rfl⟩
theorem tk_T_cases {t : Int64} (h : tk_t t) : (∃ n, n < 12 ∧ t = lN n ∧ tk_kT t = 0 ∧ tk_vT t = nI n) ∨ (∃ n, 4294967296 ≤ n ∧ n < 8589934592 ∧ t = lN n ∧ tk_kT t = 1 ∧ tk_vT t = nI n) ∨ (∃ r, r < 8 ∧ t = lN (8589934592 + r) ∧ tk_kT t = 0 ∧ tk_vT t = nI (100 + r)) := by
  obtain ⟨n, rfl, h⟩ := h
  by_cases h1 : n < 12
  · exact Or.inl ⟨n, h1, rfl, tk_T_sym h1⟩
  · by_cases h2 : n < 8589934592
    · exact Or.inr (Or.inl ⟨n, by omega, h2, rfl, tk_T_num (by omega) h2⟩)
    · obtain ⟨r, rfl⟩ : ∃ r, n = 8589934592 + r := ⟨n - 8589934592, by omega⟩
      exact Or.inr (Or.inr ⟨r, by omega, rfl, tk_T_var (by omega)⟩)
theorem tk_R_cases {t : Int64} (h : tk_r t) : (∃ n, n < 12 ∧ t = lN n ∧ tk_kR t = 0 ∧ tk_vR t = nI n) ∨ (∃ n, 4294967296 ≤ n ∧ n < 8589934592 ∧ t = lN n ∧ tk_kR t = 1 ∧ tk_vR t = nI n) ∨ (∃ r, r < 4 ∧ t = lN (8589934592 + r) ∧ tk_kR t = 2 ∧ tk_vR t = nI r) ∨ (∃ r, r < 4 ∧ t = lN (12884901888 + r) ∧ tk_kR t = 3 ∧ tk_vR t = nI r) := by
  obtain ⟨n, rfl, h⟩ := h
  unfold tk_kR tk_vR
  rw [lN_i]
  have l1 : lN n < 4294967296 ↔ n < 4294967296 := tk_lt 4294967296 (by omega)
  have l2 : lN n < 8589934592 ↔ n < 8589934592 := tk_lt 8589934592 (by omega)
  have l3 : lN n < 12884901888 ↔ n < 12884901888 := tk_lt 12884901888 (by omega)
  by_cases h1 : n < 12
  · exact Or.inl ⟨n, h1, rfl, if_pos (l1.mpr (by omega)), rfl⟩
  · by_cases h2 : n < 8589934592
    · exact Or.inr (Or.inl ⟨n, by omega, h2, rfl, by rw [if_neg (by rw [l1]; omega), if_pos (l2.mpr h2)], rfl⟩)
    · by_cases h3 : n < 12884901888
      · obtain ⟨r, rfl⟩ : ∃ r, n = 8589934592 + r := ⟨n - 8589934592, by omega⟩
        refine Or.inr (Or.inr (Or.inl ⟨r, by omega, rfl, by rw [if_neg (by rw [l1]; omega), if_neg (by rw [l2]; omega), if_pos (l3.mpr h3)], ?_⟩))
        rw [show 8589934592 + r = r + 4294967296 * 2 by omega, tk_wrap]
      · obtain ⟨r, rfl⟩ : ∃ r, n = 12884901888 + r := ⟨n - 12884901888, by omega⟩
        refine Or.inr (Or.inr (Or.inr ⟨r, by omega, rfl, by rw [if_neg (by rw [l1]; omega), if_neg (by rw [l2]; omega), if_neg (by rw [l3]; omega)], ?_⟩))
        rw [show 12884901888 + r = r + 4294967296 * 3 by omega, tk_wrap]
theorem tk_T_inj {s t : Int64} (hs : tk_t s) (ht : tk_t t) (hk : tk_kT s = tk_kT t) (hv : tk_vT s = tk_vT t) : s = t := by
  rcases tk_T_cases hs with ⟨n, h1, e1, k1, v1⟩ | ⟨n, h1, h1', e1, k1, v1⟩ | ⟨n, h1, e1, k1, v1⟩ <;>
    rcases tk_T_cases ht with ⟨m, h2, e2, k2, v2⟩ | ⟨m, h2, h2', e2, k2, v2⟩ | ⟨m, h2, e2, k2, v2⟩ <;>
    rw [k1, k2] at hk <;> rw [v1, v2] at hv <;> have hv := tk_inj hv <;> first
      | exact absurd hk (by decide)
      | (rw [e1, e2]; congr 1; omega)
      | (exfalso; omega)
theorem tk_R_inj {s t : Int64} (hs : tk_r s) (ht : tk_r t) (hk : tk_kR s = tk_kR t) (hv : tk_vR s = tk_vR t) : s = t := by
  rcases tk_R_cases hs with ⟨n, h1, e1, k1, v1⟩ | ⟨n, h1, h1', e1, k1, v1⟩ | ⟨n, h1, e1, k1, v1⟩ | ⟨n, h1, e1, k1, v1⟩ <;>
    rcases tk_R_cases ht with ⟨m, h2, e2, k2, v2⟩ | ⟨m, h2, h2', e2, k2, v2⟩ | ⟨m, h2, e2, k2, v2⟩ | ⟨m, h2, e2, k2, v2⟩ <;>
    rw [k1, k2] at hk <;> rw [v1, v2] at hv <;> have hv := tk_inj hv <;> first
      | exact absurd hk (by decide)
      | (rw [e1, e2]; congr 1; omega)
/-- a rule's token below the names and a term's token -/
theorem tk_RT {s t : Int64} (hs : tk_r s) (hn : s < 8589934592) (ht : tk_t t) : (tk_kR s = tk_kT t ∧ tk_vR s = tk_vT t) ↔ s = t := by
  constructor
  · intro ⟨hk, hv⟩
    rcases tk_R_cases hs with ⟨n, h1, e1, k1, v1⟩ | ⟨n, h1, h1', e1, k1, v1⟩ | ⟨n, h1, e1, k1, v1⟩ | ⟨n, h1, e1, k1, v1⟩ <;>
      rcases tk_T_cases ht with ⟨m, h2, e2, k2, v2⟩ | ⟨m, h2, h2', e2, k2, v2⟩ | ⟨m, h2, e2, k2, v2⟩ <;>
      rw [k1, k2] at hk <;> rw [v1, v2] at hv <;> have hv := tk_inj hv <;> first
        | exact absurd hk (by decide)
        | (rw [e1, e2]; congr 1; omega)
        | (exfalso; omega)
        | (rw [e1, tk_lt 8589934592 (by omega)] at hn; omega)
  · intro h
    subst h
    rcases tk_R_cases hs with ⟨n, h1, e1, k1, v1⟩ | ⟨n, h1, h1', e1, k1, v1⟩ | ⟨n, h1, e1, k1, v1⟩ | ⟨n, h1, e1, k1, v1⟩
    · rw [k1, v1, e1]; exact ⟨(tk_T_sym h1).1.symm, (tk_T_sym h1).2.symm⟩
    · rw [k1, v1, e1]; exact ⟨(tk_T_num h1 h1').1.symm, (tk_T_num h1 h1').2.symm⟩
    · rw [e1, tk_lt 8589934592 (by omega)] at hn; omega
    · rw [e1, tk_lt 8589934592 (by omega)] at hn; omega
theorem tk_dT {t : Int64} (h : tk_d t) : tk_kR t = tk_kT t ∧ tk_vR t = tk_vT t := by
  refine (tk_RT (tk_d_r h) ?_ (tk_d_t h)).mpr rfl
  obtain ⟨n, rfl, h⟩ := h
  rw [tk_lt 8589934592 (by omega)]; omega
theorem tk_kT_01 (t : Int64) : tk_kT t = 0 ∨ tk_kT t = 1 := by
  unfold tk_kT
  split
  · exact Or.inl rfl
  · split
    · exact Or.inr rfl
    · exact Or.inl rfl
theorem tk_kR_03 (t : Int64) : tk_kR t = 0 ∨ tk_kR t = 1 ∨ tk_kR t = 2 ∨ tk_kR t = 3 := by
  unfold tk_kR
  split
  · exact Or.inl rfl
  · split
    · exact Or.inr (Or.inl rfl)
    · split
      · exact Or.inr (Or.inr (Or.inl rfl))
      · exact Or.inr (Or.inr (Or.inr rfl))
theorem tk_nar {k : Int32} (h : k = 0 ∨ k = 1 ∨ k = 2 ∨ k = 3) : vp_nar .byte k = k ∧ vp_nar .byte k.toInt8.toInt32 = k := by
  rcases h with rfl | rfl | rfl | rfl <;> (rw [vp_nar_byte, vp_nar_byte]; decide)
theorem tk_narT (t : Int64) : vp_nar .byte (tk_kT t) = tk_kT t ∧ vp_nar .byte (tk_kT t).toInt8.toInt32 = tk_kT t :=
  tk_nar (by rcases tk_kT_01 t with h | h <;> simp [h])
theorem tk_narR (t : Int64) : vp_nar .byte (tk_kR t) = tk_kR t ∧ vp_nar .byte (tk_kR t).toInt8.toInt32 = tk_kR t := tk_nar (tk_kR_03 t)
theorem tk_b {n : Nat} (h : n < 128) : (nI n).toInt8.toInt32 = nI n := by
  apply lg_i2b_small <;> rw [nI_toInt (by omega)] <;> omega
theorem tk_nb {n : Nat} (h : n < 128) : vp_nar .byte (nI n).toInt8.toInt32 = nI n ∧ vp_nar .byte (nI n) = nI n := by
  rw [vp_nar_byte, vp_nar_byte, tk_b h, tk_b h]; exact ⟨rfl, rfl⟩
theorem tk_s {n : Nat} (h : n < 32768) : (nI n).toInt16.toInt32 = nI n := by
  apply lg_i2s_small <;> rw [nI_toInt (by omega)] <;> omega
theorem tk_ns {n : Nat} (h : n < 32768) : vp_nar .short (nI n).toInt16.toInt32 = nI n ∧ vp_nar .short (nI n) = nI n := by
  rw [vp_nar_short, vp_nar_short, tk_s h, tk_s h]; exact ⟨rfl, rfl⟩
theorem tk_arX (t : Int64) {post : Int32 → Prop} (hp : post (nI (tm_ar t))) : wpX_argumentsOf post t := by
  unfold tm_ar at hp
  by_cases h : t < 4
  · rw [if_pos h] at hp; exact br_t h hp
  · rw [if_neg h] at hp
    refine br_f h ?_
    by_cases h2 : t < 12
    · rw [if_pos h2] at hp
      refine br_t h2 ?_
      by_cases h3 : 7 ≤ t
      · rw [if_pos h3] at hp; exact br_t h3 hp
      · rw [if_neg h3] at hp; exact br_f h3 hp
    · rw [if_neg h2] at hp; exact br_f h2 hp
theorem tk_ar0 {n : Nat} {post : Int32 → Prop} (hn : n < 12 ∨ (100 ≤ n ∧ n < 200)) (hp : post (nI (if n < 4 then 0 else if n < 12 then (if 7 ≤ n then 2 else 1) else 0))) : wpY_arity post 0 (nI n) := by
  refine br_t rfl ?_
  refine pk_lt n 4 (fun h => ?_) (fun h => ?_)
  · rw [if_pos h] at hp; exact hp
  · rw [if_neg (by omega)] at hp
    refine pk_le n 11 (fun h2 => ?_) (fun h2 => ?_)
    · rw [if_pos (by omega)] at hp
      refine pk_le 7 n (fun h3 => ?_) (fun h3 => ?_)
      · rw [if_pos h3] at hp; exact hp
      · rw [if_neg (by omega)] at hp; exact hp
    · rw [if_neg (by omega)] at hp; exact hp
theorem tk_arT {t : Int64} (h : tk_t t) {post : Int32 → Prop} (hp : post (nI (tm_ar t))) : wpY_arity post (tk_kT t) (tk_vT t) := by
  rcases tk_T_cases h with ⟨n, h1, e1, k1, v1⟩ | ⟨n, h1, h1', e1, k1, v1⟩ | ⟨n, h1, e1, k1, v1⟩
  · rw [k1, v1]; rw [e1, tk_ar_n (by omega)] at hp; exact tk_ar0 (Or.inl h1) hp
  · rw [k1]; rw [e1, tk_ar_n (by omega), if_neg (by omega), if_neg (by omega)] at hp
    exact br_f (by decide) hp
  · rw [k1, v1]
    rw [e1, tk_ar_n (by omega), if_neg (by omega), if_neg (by omega)] at hp
    exact tk_ar0 (Or.inr (by omega)) (by rw [if_neg (by omega), if_neg (by omega)]; exact hp)
theorem tk_arR {t : Int64} (h : tk_r t) {post : Int32 → Prop} (hp : post (nI (tm_ar t))) : wpY_arity post (tk_kR t) (tk_vR t) := by
  rcases tk_R_cases h with ⟨n, h1, e1, k1, v1⟩ | ⟨n, h1, h1', e1, k1, v1⟩ | ⟨n, h1, e1, k1, v1⟩ | ⟨n, h1, e1, k1, v1⟩
  · rw [k1, v1]; rw [e1, tk_ar_n (by omega)] at hp; exact tk_ar0 (Or.inl h1) hp
  · rw [k1]; rw [e1, tk_ar_n (by omega), if_neg (by omega), if_neg (by omega)] at hp
    exact br_f (by decide) hp
  · rw [k1]; rw [e1, tk_ar_n (by omega), if_neg (by omega), if_neg (by omega)] at hp
    exact br_f (by decide) hp
  · rw [k1]; rw [e1, tk_ar_n (by omega), if_neg (by omega), if_neg (by omega)] at hp
    exact br_f (by decide) hp
theorem tk_sh {n : Nat} (h : n < 2 ^ 62) : ((lN n).toUInt64 >>> ((32 : Int32).toInt64.toUInt64 &&& Int64.toUInt64 63)).toInt64 = lN (n / 4294967296) := wb_shr (k := 32) (by omega) (by omega)
theorem tk_sh1 {n : Nat} (h : n < 2 ^ 62) : ((lN n).toUInt64 >>> ((32 : Int32).toInt64.toUInt64 &&& Int64.toUInt64 63)).toInt64 = 1 ↔ 4294967296 ≤ n ∧ n < 8589934592 := by
  rw [tk_sh h, tk_eq 1 (by omega)]; omega
theorem tk_sh2 {n : Nat} (h : n < 2 ^ 62) : ((lN n).toUInt64 >>> ((32 : Int32).toInt64.toUInt64 &&& Int64.toUInt64 63)).toInt64 = 2 ↔ 8589934592 ≤ n ∧ n < 12884901888 := by
  rw [tk_sh h, tk_eq 2 (by omega)]; omega
/-- a token of a term is a number -/
abbrev tk_N (t : Int64) : Prop := 4294967296 ≤ t ∧ t < 8589934592
theorem tk_N_n {n : Nat} (h : n < 2 ^ 62) : tk_N (lN n) ↔ 4294967296 ≤ n ∧ n < 8589934592 := by
  unfold tk_N
  rw [tk_le 4294967296 h, tk_lt 8589934592 h]
theorem tk_N_X {t : Int64} (h : tk_t t) : ((t).toUInt64 >>> ((32 : Int32).toInt64.toUInt64 &&& Int64.toUInt64 63)).toInt64 = 1 ↔ tk_N t := by
  obtain ⟨n, rfl, h⟩ := h
  rw [tk_sh1 (by omega), tk_N_n (by omega)]
theorem tk_N_Y {t : Int64} (h : tk_t t) : tk_kT t = 1 ↔ tk_N t := by
  rcases tk_T_cases h with ⟨n, h1, e1, k1, v1⟩ | ⟨n, h1, h1', e1, k1, v1⟩ | ⟨n, h1, e1, k1, v1⟩
  · rw [k1, e1, tk_N_n (by omega)]; exact ⟨fun z => absurd z (by decide), fun z => by omega⟩
  · rw [k1, e1, tk_N_n (by omega)]; exact ⟨fun _ => ⟨h1, h1'⟩, fun _ => rfl⟩
  · rw [k1, e1, tk_N_n (by omega)]; exact ⟨fun z => absurd z (by decide), fun z => by omega⟩
theorem tk_N_ar {t : Int64} (h : tk_t t) (hn : tk_N t) : tm_ar t = 0 := by
  obtain ⟨n, rfl, h⟩ := h
  rw [tk_N_n (by omega)] at hn
  rw [tk_ar_n (by omega), if_neg (by omega), if_neg (by omega)]
/-- the order's key -/
def tk_key (t : Int64) : Int64 := if t < 4294967296 then t + 4294967296 else if 8589934592 ≤ t then t + 4294967296 else t.toInt32.toInt64
theorem tk_keyX (t : Int64) {post : Int64 → Prop} (hp : post (tk_key t)) : wpX_orderKey post t := by
  unfold tk_key at hp
  by_cases h : t < 4294967296
  · rw [if_pos h] at hp; exact br_t h hp
  · rw [if_neg h] at hp
    refine br_f h ?_
    by_cases h2 : 8589934592 ≤ t
    · rw [if_pos h2] at hp; exact br_t h2 hp
    · rw [if_neg h2] at hp; exact br_f h2 hp
theorem tk_key_s {n : Nat} (h : n < 12) : (tk_key (lN n)).toInt = (n : Int) + 4294967296 := by
  unfold tk_key
  rw [if_pos ((tk_lt 4294967296 (by omega)).mpr (by omega)), show (4294967296 : Int64) = lN 4294967296 from rfl, lN_add, pk_lT (by omega)]
  omega
theorem tk_key_v {r : Nat} (h : r < 8) : (tk_key (lN (8589934592 + r))).toInt = (r : Int) + 12884901888 := by
  unfold tk_key
  rw [if_neg (by rw [tk_lt 4294967296 (by omega)]; omega), if_pos ((tk_le 8589934592 (by omega)).mpr (by omega)), show (4294967296 : Int64) = lN 4294967296 from rfl, lN_add, pk_lT (by omega)]
  omega
theorem tk_key_n {n : Nat} (h : 4294967296 ≤ n) (h2 : n < 8589934592) : (tk_key (lN n)).toInt = (nI n).toInt := by
  unfold tk_key
  rw [if_neg (by rw [tk_lt 4294967296 (by omega)]; omega), if_neg (by rw [tk_le 8589934592 (by omega)]; omega), lN_i, Int32.toInt_toInt64]
theorem tk_i32 (x : Int32) : -2147483648 ≤ x.toInt ∧ x.toInt < 2147483648 := by
  have := x.le_toInt
  have := x.toInt_lt
  omega
/-- the reference's comparison of two tokens: above 0 iff the second's key comes first -/
theorem tk_ord {s t : Int64} (hs : tk_t s) (ht : tk_t t) {post : Int32 → Prop} (h0 : s = t → post 0) (h1 : s ≠ t → tk_key t < tk_key s → post 1) (h2 : s ≠ t → ¬ tk_key t < tk_key s → post (-1)) : wpY_ordered post (tk_kT s) (tk_vT s) (tk_kT t) (tk_vT t) := by
  have hl : tk_key t < tk_key s ↔ (tk_key t).toInt < (tk_key s).toInt := Int64.lt_iff_toInt_lt
  have hin : ∀ n, -2147483648 ≤ (nI n).toInt ∧ (nI n).toInt < 2147483648 := fun n => tk_i32 _
  by_cases hk : tk_kT s = tk_kT t
  · refine br_t hk ?_
    by_cases ha : tk_vT t ≤ tk_vT s
    · refine br_t ha ?_
      by_cases hb : tk_vT s ≤ tk_vT t
      · exact br_t hb (h0 (tk_T_inj hs ht hk (Int32.le_antisymm hb ha)))
      · refine br_f hb (h1 (fun e => hb (by rw [e]; exact Int32.le_refl _)) ?_)
        rw [hl]
        rw [Int32.le_iff_toInt_le] at ha hb
        rcases tk_T_cases hs with ⟨n, x1, e1, k1, v1⟩ | ⟨n, x1, x1', e1, k1, v1⟩ | ⟨n, x1, e1, k1, v1⟩ <;>
          rcases tk_T_cases ht with ⟨m, x2, e2, k2, v2⟩ | ⟨m, x2, x2', e2, k2, v2⟩ | ⟨m, x2, e2, k2, v2⟩ <;>
          rw [k1, k2] at hk <;> rw [v1, v2] at ha hb <;> rw [e1, e2] <;> first
            | exact absurd hk (by decide)
            | (rw [tk_key_s x1, tk_key_s x2]; rw [nI_toInt (by omega), nI_toInt (by omega)] at ha hb; omega)
            | (rw [tk_key_n x1 x1', tk_key_n x2 x2']; omega)
            | (rw [tk_key_v x1, tk_key_v x2]; rw [nI_toInt (by omega), nI_toInt (by omega)] at ha hb; omega)
            | (rw [tk_key_s x1, tk_key_v x2]; rw [nI_toInt (by omega), nI_toInt (by omega)] at ha hb; omega)
            | (rw [tk_key_v x1, tk_key_s x2]; rw [nI_toInt (by omega), nI_toInt (by omega)] at ha hb; omega)
    · refine br_f ha (h2 (fun e => ha (by rw [e]; exact Int32.le_refl _)) ?_)
      rw [hl]
      rw [Int32.le_iff_toInt_le] at ha
      rcases tk_T_cases hs with ⟨n, x1, e1, k1, v1⟩ | ⟨n, x1, x1', e1, k1, v1⟩ | ⟨n, x1, e1, k1, v1⟩ <;>
        rcases tk_T_cases ht with ⟨m, x2, e2, k2, v2⟩ | ⟨m, x2, x2', e2, k2, v2⟩ | ⟨m, x2, e2, k2, v2⟩ <;>
        rw [k1, k2] at hk <;> rw [v1, v2] at ha <;> rw [e1, e2] <;> first
          | exact absurd hk (by decide)
          | (rw [tk_key_s x1, tk_key_s x2]; rw [nI_toInt (by omega), nI_toInt (by omega)] at ha; omega)
          | (rw [tk_key_n x1 x1', tk_key_n x2 x2']; omega)
          | (rw [tk_key_v x1, tk_key_v x2]; rw [nI_toInt (by omega), nI_toInt (by omega)] at ha; omega)
          | (rw [tk_key_s x1, tk_key_v x2]; rw [nI_toInt (by omega), nI_toInt (by omega)] at ha; omega)
          | (rw [tk_key_v x1, tk_key_s x2]; rw [nI_toInt (by omega), nI_toInt (by omega)] at ha; omega)
  · refine br_f hk ?_
    have hne : s ≠ t := fun e => hk (by rw [e])
    by_cases hk1 : tk_kT s = 1
    · refine br_t hk1 (h2 hne ?_)
      rw [hl]
      rcases tk_T_cases hs with ⟨n, x1, e1, k1, v1⟩ | ⟨n, x1, x1', e1, k1, v1⟩ | ⟨n, x1, e1, k1, v1⟩ <;>
        rcases tk_T_cases ht with ⟨m, x2, e2, k2, v2⟩ | ⟨m, x2, x2', e2, k2, v2⟩ | ⟨m, x2, e2, k2, v2⟩ <;>
        rw [k1] at hk1 hk <;> rw [k2] at hk <;> rw [e1, e2] <;> have := hin n <;> have := hin m <;> first
          | exact absurd hk1 (by decide)
          | exact absurd rfl hk
          | (rw [tk_key_n x1 x1', tk_key_s x2]; omega)
          | (rw [tk_key_n x1 x1', tk_key_v x2]; omega)
    · refine br_f hk1 (h1 hne ?_)
      rw [hl]
      rcases tk_T_cases hs with ⟨n, x1, e1, k1, v1⟩ | ⟨n, x1, x1', e1, k1, v1⟩ | ⟨n, x1, e1, k1, v1⟩ <;>
        rcases tk_T_cases ht with ⟨m, x2, e2, k2, v2⟩ | ⟨m, x2, x2', e2, k2, v2⟩ | ⟨m, x2, e2, k2, v2⟩ <;>
        rw [k1] at hk1 hk <;> rw [k2] at hk <;> rw [e1, e2] <;> have := hin n <;> have := hin m <;> first
          | exact absurd rfl hk1
          | exact absurd rfl hk
          | (rw [tk_key_s x1, tk_key_n x2 x2']; omega)
          | (rw [tk_key_v x1, tk_key_n x2 x2']; omega)
end
section
/-! rules: slots of names, the ways of exchange, the match, what RIGHT becomes, the first rule that matches -/
def ru_slot (t : Int64) : Nat := if t < 12884901888 then (t.toInt - 8589934592).toNat else 4 + (t.toInt - 12884901888).toNat
theorem ru_slot_v {r : Nat} (h : r < 4) : ru_slot (lN (8589934592 + r)) = r := by
  unfold ru_slot
  rw [if_pos ((tk_lt 12884901888 (by omega)).mpr (by omega)), pk_lT (by omega)]; omega
theorem ru_slot_w {r : Nat} (h : r < 4) : ru_slot (lN (12884901888 + r)) = 4 + r := by
  unfold ru_slot
  rw [if_neg (by rw [tk_lt 12884901888 (by omega)]; omega), pk_lT (by omega)]; omega
theorem ru_and3 {n : Nat} (h : n < 2 ^ 62) : (lN n &&& 3).toInt32 = nI (n % 4) := by
  rw [show (3 : Int64) = lN (2 ^ 2 - 1) from rfl, wb_mask (by omega) (by omega), lN_i]
theorem ru_and7 {n : Nat} (h : n < 2 ^ 62) : (lN n &&& 7).toInt32 = nI (n % 8) := by
  rw [show (7 : Int64) = lN (2 ^ 3 - 1) from rfl, wb_mask (by omega) (by omega), lN_i]
theorem ru_names {t : Int64} (h : tk_r t) (hn : ¬ t < 8589934592) : (∃ r, r < 4 ∧ t = lN (8589934592 + r) ∧ tk_kR t = 2 ∧ tk_vR t = nI r ∧ ru_slot t = r ∧ t < 12884901888) ∨ (∃ r, r < 4 ∧ t = lN (12884901888 + r) ∧ tk_kR t = 3 ∧ tk_vR t = nI r ∧ ru_slot t = 4 + r ∧ ¬ t < 12884901888) := by
  rcases tk_R_cases h with ⟨n, h1, e1, k1, v1⟩ | ⟨n, h1, h1', e1, k1, v1⟩ | ⟨r, h1, e1, k1, v1⟩ | ⟨r, h1, e1, k1, v1⟩
  · rw [e1, tk_lt 8589934592 (by omega)] at hn; omega
  · rw [e1, tk_lt 8589934592 (by omega)] at hn; omega
  · refine Or.inl ⟨r, h1, e1, k1, v1, by rw [e1, ru_slot_v h1], ?_⟩
    rw [e1, tk_lt 12884901888 (by omega)]; omega
  · refine Or.inr ⟨r, h1, e1, k1, v1, by rw [e1, ru_slot_w h1], ?_⟩
    rw [e1, tk_lt 12884901888 (by omega)]; omega
theorem ru_slot_lt {t : Int64} (h : tk_r t) (hn : ¬ t < 8589934592) : ru_slot t < 8 := by
  rcases ru_names h hn with ⟨r, h1, _, _, _, e, _⟩ | ⟨r, h1, _, _, _, e, _⟩ <;> omega
theorem ru_slotX {t : Int64} (h : tk_r t) (hn : ¬ t < 8589934592) {post : Int32 → Prop} (hp : post (nI (ru_slot t))) : wpX_slotOf post t := by
  rcases ru_names h hn with ⟨r, h1, e, _, _, es, hl⟩ | ⟨r, h1, e, _, _, es, hl⟩
  · refine br_f (fun z => absurd hl (Int64.not_lt.mpr z)) ?_
    rw [e, ru_and3 (by omega), show (8589934592 + r) % 4 = r by omega]
    rw [es] at hp; exact hp
  · refine br_t (Int64.not_lt.mp hl) ?_
    rw [e, ru_and3 (by omega), show (12884901888 + r) % 4 = r by omega, show (4 : Int32) = nI 4 from rfl, nI_add]
    rw [es] at hp; exact hp
/-- symbols 9 in a list -/
def ru_c9 : List Int64 → Nat
  | [] => 0
  | t :: l => (if t = 9 then 1 else 0) + ru_c9 l
theorem ru_c9_app : ∀ (a b : List Int64), ru_c9 (a ++ b) = ru_c9 a + ru_c9 b
  | [], b => by simp [ru_c9]
  | t :: a, b => by
    show (if t = 9 then 1 else 0) + ru_c9 (a ++ b) = ((if t = 9 then 1 else 0) + ru_c9 a) + ru_c9 b
    rw [ru_c9_app a b]; omega
theorem ru_sw_len (l : List Int64) : (tm_sw l).length = l.length := by
  unfold tm_sw
  simp only [List.length_append, List.length_take, List.length_drop]
  omega
theorem ru_sw_mem {l : List Int64} {t : Int64} (h : t ∈ tm_sw l) : t ∈ l := by
  unfold tm_sw at h
  rw [List.mem_append, List.mem_append] at h
  rcases h with (h | h) | h
  · exact List.mem_of_mem_drop (List.mem_of_mem_take h)
  · exact List.mem_of_mem_take h
  · exact List.mem_of_mem_drop (List.mem_of_mem_drop h)
/-- a way: its bits, the lowest for the last symbol 9, say where arguments are exchanged -/
def ru_wy : List Int64 → Nat → List Int64 × Nat
  | [], b => ([], b)
  | t :: l, b => if t = 9 then (t :: (if (ru_wy l b).2 % 2 = 1 then tm_sw (ru_wy l b).1 else (ru_wy l b).1), (ru_wy l b).2 / 2) else (t :: (ru_wy l b).1, (ru_wy l b).2)
theorem ru_wy_9 {l : List Int64} {b : Nat} : ru_wy (9 :: l) b = (9 :: (if (ru_wy l b).2 % 2 = 1 then tm_sw (ru_wy l b).1 else (ru_wy l b).1), (ru_wy l b).2 / 2) := if_pos rfl
theorem ru_wy_n {t : Int64} {l : List Int64} {b : Nat} (h : t ≠ 9) : ru_wy (t :: l) b = (t :: (ru_wy l b).1, (ru_wy l b).2) := if_neg h
theorem ru_wy_bits : ∀ (l : List Int64) (b : Nat), (ru_wy l b).2 = b / 2 ^ ru_c9 l
  | [], b => by simp [ru_wy, ru_c9]
  | t :: l, b => by
    by_cases h : t = 9
    · subst h
      rw [ru_wy_9]
      show (ru_wy l b).2 / 2 = b / 2 ^ ((if (9 : Int64) = 9 then 1 else 0) + ru_c9 l)
      rw [if_pos rfl, ru_wy_bits l b, Nat.div_div_eq_div_mul, Nat.add_comm 1, Nat.pow_succ]
    · rw [ru_wy_n h]
      show (ru_wy l b).2 = b / 2 ^ ((if t = 9 then 1 else 0) + ru_c9 l)
      rw [if_neg h, Nat.zero_add, ru_wy_bits l b]
theorem ru_wy_len : ∀ (l : List Int64) (b : Nat), (ru_wy l b).1.length = l.length
  | [], b => rfl
  | t :: l, b => by
    by_cases h : t = 9
    · subst h
      rw [ru_wy_9]
      show (if (ru_wy l b).2 % 2 = 1 then tm_sw (ru_wy l b).1 else (ru_wy l b).1).length + 1 = l.length + 1
      split
      · rw [ru_sw_len, ru_wy_len l b]
      · rw [ru_wy_len l b]
    · rw [ru_wy_n h]
      show (ru_wy l b).1.length + 1 = l.length + 1
      rw [ru_wy_len l b]
theorem ru_ar9 : tm_ar 9 = 2 := by decide
theorem ru_wy_w : ∀ (l : List Int64) (b m : Nat), tm_w l m → tm_w (ru_wy l b).1 m
  | [], b, m, h => h
  | t :: l, b, m, h => by
    obtain ⟨k, rfl, h1⟩ := tm_w_ne h
    have ih := ru_wy_w l b _ h1
    by_cases h9 : t = 9
    · subst h9
      rw [ru_wy_9]
      refine tm_w_cons.mpr ?_
      rw [ru_ar9] at ih ⊢
      split
      · exact tm_w_sw ih
      · exact ih
    · rw [ru_wy_n h9]
      exact tm_w_cons.mpr ih
theorem ru_wy_mem : ∀ (l : List Int64) (b : Nat) (s : Int64), s ∈ (ru_wy l b).1 → s ∈ l
  | [], b, s, h => h
  | t :: l, b, s, h => by
    by_cases h9 : t = 9
    · subst h9
      rw [ru_wy_9] at h
      rcases List.mem_cons.mp h with h | h
      · exact List.mem_cons.mpr (Or.inl h)
      · refine List.mem_cons.mpr (Or.inr (ru_wy_mem l b s ?_))
        split at h
        · exact ru_sw_mem h
        · exact h
    · rw [ru_wy_n h9] at h
      rcases List.mem_cons.mp h with h | h
      · exact List.mem_cons.mpr (Or.inl h)
      · exact List.mem_cons.mpr (Or.inr (ru_wy_mem l b s h))
theorem ru_wy_hd (t : Int64) (l : List Int64) (b : Nat) : ∃ l', (ru_wy (t :: l) b).1 = t :: l' := by
  by_cases h9 : t = 9
  · subst h9; rw [ru_wy_9]; exact ⟨_, rfl⟩
  · rw [ru_wy_n h9]; exact ⟨_, rfl⟩
/-- the match of a pattern against a term's tokens; an empty list is bound to a name that has no term -/
def ru_mt : List Int64 → List Int64 → (Nat → List Int64) → Option (Nat → List Int64)
  | [], _, β => some β
  | _ :: _, [], _ => none
  | p :: ps, c :: s, β =>
    if p < 8589934592 then (if c = p then ru_mt ps s β else none)
    else if ¬ p < 12884901888 ∧ ¬ tk_N c then none
    else if β (ru_slot p) = [] then ru_mt ps ((c :: s).drop (tm_n (c :: s) 1)) (fun k => if k = ru_slot p then (c :: s).take (tm_n (c :: s) 1) else β k)
    else if β (ru_slot p) = (c :: s).take (tm_n (c :: s) 1) then ru_mt ps ((c :: s).drop (tm_n (c :: s) 1)) β else none
theorem ru_mt_sym {p c : Int64} {ps s : List Int64} {β : Nat → List Int64} (h : p < 8589934592) (hc : c = p) : ru_mt (p :: ps) (c :: s) β = ru_mt ps s β := by
  rw [ru_mt, if_pos h, if_pos hc]
theorem ru_mt_symn {p c : Int64} {ps s : List Int64} {β : Nat → List Int64} (h : p < 8589934592) (hc : ¬ c = p) : ru_mt (p :: ps) (c :: s) β = none := by
  rw [ru_mt, if_pos h, if_neg hc]
theorem ru_mt_w {p c : Int64} {ps s : List Int64} {β : Nat → List Int64} (h : ¬ p < 8589934592) (hw : ¬ p < 12884901888) (hc : ¬ tk_N c) : ru_mt (p :: ps) (c :: s) β = none := by
  rw [ru_mt, if_neg h, if_pos ⟨hw, hc⟩]
theorem ru_mt_new {p c : Int64} {ps a s : List Int64} {β : Nat → List Int64} (h : ¬ p < 8589934592) (hw : p < 12884901888 ∨ tk_N c) (ha : tm_w (c :: a) 1) (hb : β (ru_slot p) = []) : ru_mt (p :: ps) (c :: (a ++ s)) β = ru_mt ps s (fun k => if k = ru_slot p then c :: a else β k) := by
  have e1 : tm_n (c :: (a ++ s)) 1 = (c :: a).length := tm_n_app (c :: a) s 1 ha
  have e2 : (c :: (a ++ s)).drop (c :: a).length = s := List.drop_left (l₁ := c :: a)
  have e3 : (c :: (a ++ s)).take (c :: a).length = c :: a := List.take_left (l₁ := c :: a)
  rw [ru_mt, if_neg h, if_neg (by rcases hw with hw | hw; exact fun z => z.1 hw; exact fun z => z.2 hw), if_pos hb, e1, e2, e3]
theorem ru_mt_old {p c : Int64} {ps a s : List Int64} {β : Nat → List Int64} (h : ¬ p < 8589934592) (hw : p < 12884901888 ∨ tk_N c) (ha : tm_w (c :: a) 1) (hb : β (ru_slot p) = c :: a) : ru_mt (p :: ps) (c :: (a ++ s)) β = ru_mt ps s β := by
  have e1 : tm_n (c :: (a ++ s)) 1 = (c :: a).length := tm_n_app (c :: a) s 1 ha
  have e2 : (c :: (a ++ s)).drop (c :: a).length = s := List.drop_left (l₁ := c :: a)
  have e3 : (c :: (a ++ s)).take (c :: a).length = c :: a := List.take_left (l₁ := c :: a)
  rw [ru_mt, if_neg h, if_neg (by rcases hw with hw | hw; exact fun z => z.1 hw; exact fun z => z.2 hw), if_neg (by rw [hb]; exact List.cons_ne_nil _ _), e1, e2, e3, if_pos hb]
theorem ru_mt_oldn {p c : Int64} {ps a s : List Int64} {β : Nat → List Int64} (h : ¬ p < 8589934592) (hw : p < 12884901888 ∨ tk_N c) (ha : tm_w (c :: a) 1) (hb : ¬ β (ru_slot p) = []) (hb2 : ¬ β (ru_slot p) = c :: a) : ru_mt (p :: ps) (c :: (a ++ s)) β = none := by
  have e1 : tm_n (c :: (a ++ s)) 1 = (c :: a).length := tm_n_app (c :: a) s 1 ha
  have e3 : (c :: (a ++ s)).take (c :: a).length = c :: a := List.take_left (l₁ := c :: a)
  rw [ru_mt, if_neg h, if_neg (by rcases hw with hw | hw; exact fun z => z.1 hw; exact fun z => z.2 hw), if_neg hb, e1, e3, if_neg hb2]
/-- what RIGHT becomes -/
def ru_in (β : Nat → List Int64) (l : List Int64) : List Int64 := l.flatMap (fun t => if t < 8589934592 then [t] else β (ru_slot t))
/-- ways of one rule, k of them from way w on -/
def ru_fw (l s : List Int64) : Nat → Nat → Option (Nat → List Int64)
  | 0, _ => none
  | k + 1, w => match ru_mt (ru_wy l w).1 s (fun _ => []) with
    | some β => some β
    | none => ru_fw l s k (w + 1)
/-- the first rule that matches, k rules from rule r on -/
def ru_fr (L : Nat → List Int64) (s : List Int64) : Nat → Nat → Option (Nat × (Nat → List Int64))
  | 0, _ => none
  | k + 1, r => if L r = [] then ru_fr L s k (r + 1) else match ru_fw (L r) s (2 ^ ru_c9 (L r)) 0 with
    | some β => some (r, β)
    | none => ru_fr L s k (r + 1)
/-- a number fits no LEFT, which begins with a symbol -/
theorem ru_fw_num {t : Int64} {l s : List Int64} {c : Int64} (ht : t < 4294967296) (hc : tk_N c) : ∀ (k w : Nat), ru_fw (t :: l) (c :: s) k w = none
  | 0, _ => rfl
  | k + 1, w => by
    obtain ⟨l', e⟩ := ru_wy_hd t l w
    have h1 : t < 8589934592 := Int64.lt_trans ht (by decide)
    have h2 : ¬ c = t := by
      intro h
      subst h
      exact absurd ht (Int64.not_lt.mpr hc.1)
    rw [ru_fw, e, ru_mt_symn h1 h2]
    exact ru_fw_num ht hc k (w + 1)
theorem ru_fr_num {L : Nat → List Int64} {c : Int64} {s : List Int64} (hc : tk_N c) (hL : ∀ r, L r = [] ∨ ∃ t l, L r = t :: l ∧ t < 4294967296) : ∀ (k r : Nat), ru_fr L (c :: s) k r = none
  | 0, _ => rfl
  | k + 1, r => by
    rw [ru_fr]
    rcases hL r with h | ⟨t, l, h, ht⟩
    · rw [if_pos h]; exact ru_fr_num hc hL k (r + 1)
    · rw [if_neg (by rw [h]; exact List.cons_ne_nil _ _), h, ru_fw_num ht hc]
      exact ru_fr_num hc hL k (r + 1)
end
section
/-! the machine of the normal form, over lists -/
def mc_fl : List (List Int64 × Nat) → List Int64
  | [] => []
  | (p, _) :: F => mc_fl F ++ p
def mc_nd : List (List Int64 × Nat) → Nat
  | [] => 0
  | (_, k) :: F => (k - 1) + mc_nd F
/-- the ORDER: the first tokens that differ -/
def mc_cb : List Int64 → List Int64 → Bool
  | x :: xs, y :: ys => if x = y then mc_cb xs ys else decide (tk_key x < tk_key y)
  | _, _ => false
theorem mc_cb_eq {x : Int64} {xs ys : List Int64} : mc_cb (x :: xs) (x :: ys) = mc_cb xs ys := by rw [mc_cb, if_pos rfl]
theorem mc_cb_ne {x y : Int64} {xs ys : List Int64} (h : x ≠ y) : mc_cb (x :: xs) (y :: ys) = decide (tk_key x < tk_key y) := by rw [mc_cb, if_neg h]
def mc_or : List Int64 → List Int64
  | [] => []
  | t :: r => if t = 9 ∧ mc_cb (r.drop (tm_n r 1)) (r.take (tm_n r 1)) = true then t :: tm_sw r else t :: r
def mc_ar : List Int64 → Option Int64
  | [o, x, y] => if (o = 10 ∨ o = 11) ∧ tk_N x ∧ tk_N y then some (4294967296 + ((if o = 10 then x.toInt32 + y.toInt32 else x.toInt32 * y.toInt32).toInt64 &&& 4294967295)) else none
  | _ => none
def mc_fin (W : List Int64) (F : List (List Int64 × Nat)) (t : Nat) (s : List Int64) : (List Int64 × List (List Int64 × Nat) × Nat × Option (List Int64)) ⊕ (Nat × Nat × List Int64) :=
  match F with
  | [] => .inr (0, t, s)
  | (p, k) :: F' => if k ≤ 1 then .inl (W, F', t, some (p ++ s)) else .inl (W, (p ++ s, k - 1) :: F', t, none)
/-- one step: waiting tokens, unfinished terms with what they lack, steps taken, a term whose arguments are all replaced -/
def mc_st (L R : Nat → List Int64) (W : List Int64) (F : List (List Int64 × Nat)) (t : Nat) : Option (List Int64) → (List Int64 × List (List Int64 × Nat) × Nat × Option (List Int64)) ⊕ (Nat × Nat × List Int64)
  | none => match W with
    | [] => .inr (0, t, [])
    | c :: W' => if tm_ar c = 0 then .inl (W', F, t, some [c]) else .inl (W', ([c], tm_ar c) :: F, t, none)
  | some s =>
    if 30 < s.length then .inr (3, t, [])
    else match mc_ar (mc_or s) with
      | some v => if 60 < t + 1 then .inr (2, t + 1, []) else mc_fin W F (t + 1) [v]
      | none => match ru_fr L (mc_or s) 8 0 with
        | none => mc_fin W F t (mc_or s)
        | some (r, β) => if 60 < t + 1 then .inr (2, t + 1, []) else if 30 < (ru_in β (R r)).length then .inr (3, t + 1, []) else .inl (ru_in β (R r) ++ W, F, t + 1, none)
def mc_run (L R : Nat → List Int64) : Nat → List Int64 → List (List Int64 × Nat) → Nat → Option (List Int64) → (Nat × Nat × List Int64)
  | 0, _, _, _, _ => (9, 0, [])
  | f + 1, W, F, t, s => match mc_st L R W F t s with
    | .inr r => r
    | .inl (W', F', t', s') => mc_run L R f W' F' t' s'
/-- what is asked of the rules -/
def mc_G (L R : Nat → List Int64) : Prop := ∀ r, L r = [] ∨ (tm_w (L r) 1 ∧ tm_w (R r) 1 ∧ (L r).length + (R r).length ≤ 30 ∧ (∀ t, t ∈ L r → tk_r t) ∧ (∀ t, t ∈ R r → tk_r t) ∧ (∃ t l, L r = t :: l ∧ t < 4294967296) ∧ ru_c9 (L r) ≤ 4 ∧ ∀ t, t ∈ R r → ¬ t < 8589934592 → t ∈ L r)
def mc_fo (P : Int64 → Prop) (F : List (List Int64 × Nat)) : Prop := ∀ p k, (p, k) ∈ F → p ≠ [] ∧ 1 ≤ k ∧ k ≤ 2 ∧ (∀ r, tm_w r k → tm_w (p ++ r) 1) ∧ ∀ x, x ∈ p → P x
/-- the machine's invariant -/
def mc_I (P : Int64 → Prop) (W : List Int64) (F : List (List Int64 × Nat)) (t : Nat) (m : Option (List Int64)) : Prop :=
  t ≤ 60 ∧ (∀ x, x ∈ W → P x) ∧ mc_fo P F ∧ match m with
    | none => tm_w W (1 + mc_nd F) ∧ W.length + (mc_fl F).length ≤ 30 + 30 * t
    | some s => tm_w W (mc_nd F) ∧ tm_w s 1 ∧ (∀ x, x ∈ s → P x) ∧ W.length + (mc_fl F).length + s.length ≤ 30 + 30 * t
def mc_mu (W : List Int64) (F : List (List Int64 × Nat)) (t : Nat) (m : Option (List Int64)) : Nat := 2 * W.length + F.length + (if m.isSome then 1 else 0) + 60 * (60 - t)
theorem mc_or_w {s : List Int64} (h : tm_w s 1) : tm_w (mc_or s) 1 := by
  cases s with
  | nil => exact h
  | cons t r =>
    unfold mc_or
    dsimp only
    split
    · rename_i hc
      have h9 : tm_ar t = 2 := by rw [hc.1]; exact ru_ar9
      have h1 := tm_w_cons.mp h
      rw [h9] at h1
      refine tm_w_cons.mpr ?_
      rw [h9]
      exact tm_w_sw h1
    · exact h
theorem mc_or_len (s : List Int64) : (mc_or s).length = s.length := by
  cases s with
  | nil => rfl
  | cons t r =>
    unfold mc_or
    dsimp only
    split
    · simp only [List.length_cons, ru_sw_len]
    · rfl
theorem mc_or_mem {s : List Int64} {x : Int64} (h : x ∈ mc_or s) : x ∈ s := by
  cases s with
  | nil => exact h
  | cons t r =>
    unfold mc_or at h
    dsimp only at h
    split at h
    · rcases List.mem_cons.mp h with h | h
      · exact List.mem_cons.mpr (Or.inl h)
      · exact List.mem_cons.mpr (Or.inr (ru_sw_mem h))
    · exact h
theorem mc_or_9 {r : List Int64} : mc_or (9 :: r) = if mc_cb (r.drop (tm_n r 1)) (r.take (tm_n r 1)) = true then 9 :: tm_sw r else 9 :: r := by
  show (if (9 : Int64) = 9 ∧ mc_cb (r.drop (tm_n r 1)) (r.take (tm_n r 1)) = true then _ else _) = _
  by_cases h : mc_cb (r.drop (tm_n r 1)) (r.take (tm_n r 1)) = true
  · rw [if_pos ⟨rfl, h⟩, if_pos h]
  · rw [if_neg (fun z => h z.2), if_neg h]
theorem mc_or_n {t : Int64} {r : List Int64} (h : ¬ t = 9) : mc_or (t :: r) = t :: r := by
  show (if t = 9 ∧ _ then _ else _) = _
  rw [if_neg (fun z => h z.1)]
theorem mc_or_hd (t : Int64) (r : List Int64) : ∃ r', mc_or (t :: r) = t :: r' := by
  by_cases h : t = 9
  · subst h
    rw [mc_or_9]
    split <;> exact ⟨_, rfl⟩
  · rw [mc_or_n h]; exact ⟨_, rfl⟩
theorem mc_val (v : Int32) : tk_d (4294967296 + (v.toInt64 &&& 4294967295)) := by
  obtain ⟨n, hn, e⟩ := wb_of v.toInt64
  rw [e, show (4294967295 : Int64) = lN (2 ^ 32 - 1) from rfl, wb_mask hn (by omega), show (4294967296 : Int64) = lN 4294967296 from rfl, lN_add]
  have : n % 2 ^ 32 < 4294967296 := Nat.mod_lt _ (by decide)
  exact ⟨_, rfl, Or.inr (by omega)⟩
theorem mc_ar_d {s : List Int64} {v : Int64} (h : mc_ar s = some v) : tk_d v ∧ 3 ≤ s.length := by
  unfold mc_ar at h
  split at h
  · rename_i o x y
    split at h
    · cases h
      exact ⟨mc_val _, by simp⟩
    · exact absurd h (by simp)
  · exact absurd h (by simp)
/-- what a match binds -/
theorem mc_mt {P : Int64 → Prop} : ∀ (ps s : List Int64) (m : Nat) (β β' : Nat → List Int64), ru_mt ps s β = some β' → tm_w s m → (∀ x, x ∈ s → P x) → (∀ k, β k = [] ∨ (tm_w (β k) 1 ∧ ∀ x, x ∈ β k → P x)) → (∀ k, β' k = [] ∨ (tm_w (β' k) 1 ∧ ∀ x, x ∈ β' k → P x)) ∧ (∀ k, β k ≠ [] → β' k ≠ []) ∧ ∀ p, p ∈ ps → ¬ p < 8589934592 → β' (ru_slot p) ≠ []
  | [], s, m, β, β', h, hw, hP, hb => by
    rw [ru_mt] at h
    cases h
    exact ⟨hb, fun k z => z, fun p hp => absurd hp (by simp)⟩
  | p :: ps, [], m, β, β', h, hw, hP, hb => by
    rw [ru_mt] at h
    exact absurd h (by simp)
  | p :: ps, c :: s, m, β, β', h, hw, hP, hb => by
    obtain ⟨k, rfl, hw1⟩ := tm_w_ne hw
    by_cases hp : p < 8589934592
    · by_cases hc : c = p
      · rw [ru_mt_sym hp hc] at h
        obtain ⟨h1, h2, h3⟩ := mc_mt ps s _ β β' h hw1 (fun x hx => hP x (List.mem_cons.mpr (Or.inr hx))) hb
        refine ⟨h1, h2, fun q hq hq' => ?_⟩
        rcases List.mem_cons.mp hq with e | e
        · subst e; exact absurd hp hq'
        · exact h3 q e hq'
      · rw [ru_mt_symn hp hc] at h
        exact absurd h (by simp)
    · by_cases hn : ¬ p < 12884901888 ∧ ¬ tk_N c
      · rw [ru_mt_w hp hn.1 hn.2] at h
        exact absurd h (by simp)
      · have hn' : p < 12884901888 ∨ tk_N c := by
          by_cases h1 : p < 12884901888
          · exact Or.inl h1
          · exact Or.inr (Classical.byContradiction (fun z => hn ⟨h1, z⟩))
        have hs := tm_w_split (c :: s) 1 k (by rw [Nat.add_comm]; exact hw)
        obtain ⟨a, b, e, ha, hb2⟩ := hs
        obtain ⟨c', a', rfl, _⟩ := tm_w_pos ha
        rw [List.cons_append] at e
        injection e with e1 e2
        subst e1 e2
        have hPb : ∀ x, x ∈ b → P x := fun x hx => hP x (List.mem_cons.mpr (Or.inr (List.mem_append.mpr (Or.inr hx))))
        by_cases h0 : β (ru_slot p) = []
        · rw [ru_mt_new hp hn' ha h0] at h
          obtain ⟨h1, h2, h3⟩ := mc_mt ps b k _ β' h hb2 hPb (fun j => by
            by_cases hj : j = ru_slot p
            · rw [if_pos hj]
              refine Or.inr ⟨ha, fun x hx => hP x ?_⟩
              rcases List.mem_cons.mp hx with e | e
              · exact List.mem_cons.mpr (Or.inl e)
              · exact List.mem_cons.mpr (Or.inr (List.mem_append.mpr (Or.inl e)))
            · rw [if_neg hj]; exact hb j)
          have hk : ∀ j, β j ≠ [] → β' j ≠ [] := fun j hj => h2 j (by
            by_cases e : j = ru_slot p
            · rw [if_pos e]; exact List.cons_ne_nil _ _
            · rw [if_neg e]; exact hj)
          refine ⟨h1, hk, fun q hq hq' => ?_⟩
          rcases List.mem_cons.mp hq with e | e
          · subst e
            exact h2 _ (by rw [if_pos rfl]; exact List.cons_ne_nil _ _)
          · exact h3 q e hq'
        · by_cases h0' : β (ru_slot p) = c :: a'
          · rw [ru_mt_old hp hn' ha h0'] at h
            obtain ⟨h1, h2, h3⟩ := mc_mt ps b k _ β' h hb2 hPb hb
            refine ⟨h1, h2, fun q hq hq' => ?_⟩
            rcases List.mem_cons.mp hq with e | e
            · subst e; exact h2 _ h0
            · exact h3 q e hq'
          · rw [ru_mt_oldn hp hn' ha h0 h0'] at h
            exact absurd h (by simp)
theorem mc_fw {l s : List Int64} : ∀ (k w : Nat) (β : Nat → List Int64), ru_fw l s k w = some β → ∃ w', w ≤ w' ∧ w' < w + k ∧ ru_mt (ru_wy l w').1 s (fun _ => []) = some β
  | 0, w, β, h => absurd h (by simp [ru_fw])
  | k + 1, w, β, h => by
    rw [ru_fw] at h
    cases e : ru_mt (ru_wy l w).1 s (fun _ => []) with
    | some β0 =>
      rw [e] at h
      cases h
      exact ⟨w, by omega, by omega, e⟩
    | none =>
      rw [e] at h
      obtain ⟨w', h1, h2, h3⟩ := mc_fw k (w + 1) β h
      exact ⟨w', by omega, by omega, h3⟩
theorem mc_fr {L : Nat → List Int64} {s : List Int64} : ∀ (k r r' : Nat) (β : Nat → List Int64), ru_fr L s k r = some (r', β) → r ≤ r' ∧ r' < r + k ∧ L r' ≠ [] ∧ ∃ w, w < 2 ^ ru_c9 (L r') ∧ ru_mt (ru_wy (L r') w).1 s (fun _ => []) = some β
  | 0, r, r', β, h => absurd h (by simp [ru_fr])
  | k + 1, r, r', β, h => by
    rw [ru_fr] at h
    by_cases h0 : L r = []
    · rw [if_pos h0] at h
      obtain ⟨a, b, c⟩ := mc_fr k (r + 1) r' β h
      exact ⟨by omega, by omega, c⟩
    · rw [if_neg h0] at h
      cases e : ru_fw (L r) s (2 ^ ru_c9 (L r)) 0 with
      | some β0 =>
        rw [e] at h
        cases h
        obtain ⟨w, h1, h2, h3⟩ := mc_fw _ _ _ e
        exact ⟨by omega, by omega, h0, w, by omega, h3⟩
      | none =>
        rw [e] at h
        obtain ⟨a, b, c⟩ := mc_fr k (r + 1) r' β h
        exact ⟨by omega, by omega, c⟩
theorem mc_in_w {β : Nat → List Int64} : ∀ (l : List Int64) (m : Nat), tm_w l m → (∀ t, t ∈ l → tk_r t) → (∀ t, t ∈ l → ¬ t < 8589934592 → tm_w (β (ru_slot t)) 1) → tm_w (ru_in β l) m
  | [], m, h, _, _ => h
  | t :: l, m, h, hr, hb => by
    obtain ⟨k, rfl, h1⟩ := tm_w_ne h
    have ih := mc_in_w l _ h1 (fun x hx => hr x (List.mem_cons.mpr (Or.inr hx))) (fun x hx => hb x (List.mem_cons.mpr (Or.inr hx)))
    show tm_w ((if t < 8589934592 then [t] else β (ru_slot t)) ++ ru_in β l) (k + 1)
    by_cases ht : t < 8589934592
    · rw [if_pos ht]
      exact tm_w_cons.mpr ih
    · rw [if_neg ht]
      have h0 : tm_ar t = 0 := by
        obtain ⟨n, rfl, hn⟩ := hr t (List.mem_cons.mpr (Or.inl rfl))
        rw [tk_lt 8589934592 (by omega)] at ht
        rw [tk_ar_n (by omega), if_neg (by omega), if_neg (by omega)]
      rw [h0] at ih
      rw [Nat.add_comm]
      exact tm_w_app _ _ _ _ (hb t (List.mem_cons.mpr (Or.inl rfl)) ht) ih
theorem mc_in_P {P : Int64 → Prop} {β : Nat → List Int64} {l : List Int64} (hd : ∀ x, tk_d x → P x) (hr : ∀ t, t ∈ l → tk_r t) (hb : ∀ k x, x ∈ β k → P x) : ∀ x, x ∈ ru_in β l → P x := by
  intro x hx
  unfold ru_in at hx
  obtain ⟨t, ht, hx⟩ := List.mem_flatMap.mp hx
  by_cases h : t < 8589934592
  · rw [if_pos h, List.mem_singleton] at hx
    subst hx
    obtain ⟨n, rfl, hn⟩ := hr x ht
    rw [tk_lt 8589934592 (by omega)] at h
    exact hd _ ⟨n, rfl, by omega⟩
  · rw [if_neg h] at hx
    exact hb _ x hx
theorem mc_sw_mem' {l : List Int64} {t : Int64} (h : t ∈ l) : t ∈ tm_sw l := by
  unfold tm_sw
  rw [List.mem_append, List.mem_append]
  rw [← List.take_append_drop (tm_n l 1) l, List.mem_append] at h
  rcases h with h | h
  · exact Or.inl (Or.inr h)
  · rw [← List.take_append_drop (tm_n (l.drop (tm_n l 1)) 1) (l.drop (tm_n l 1)), List.mem_append] at h
    rcases h with h | h
    · exact Or.inl (Or.inl h)
    · exact Or.inr h
theorem mc_wy_mem' : ∀ (l : List Int64) (b : Nat) (s : Int64), s ∈ l → s ∈ (ru_wy l b).1
  | [], b, s, h => h
  | t :: l, b, s, h => by
    by_cases h9 : t = 9
    · subst h9
      rw [ru_wy_9]
      rcases List.mem_cons.mp h with h | h
      · exact List.mem_cons.mpr (Or.inl h)
      · refine List.mem_cons.mpr (Or.inr ?_)
        have := mc_wy_mem' l b s h
        split
        · exact mc_sw_mem' this
        · exact this
    · rw [ru_wy_n h9]
      rcases List.mem_cons.mp h with h | h
      · exact List.mem_cons.mpr (Or.inl h)
      · exact List.mem_cons.mpr (Or.inr (mc_wy_mem' l b s h))
end
section
/-! the machine keeps its invariant, and its measure falls -/
section
variable {P : Int64 → Prop} {L R : Nat → List Int64}
theorem mc_fl_mem {F : List (List Int64 × Nat)} : ∀ x, x ∈ mc_fl F → ∃ p k, (p, k) ∈ F ∧ x ∈ p := by
  induction F with
  | nil => intro x hx; exact absurd hx (by simp [mc_fl])
  | cons a F ih =>
    intro x hx
    obtain ⟨p, k⟩ := a
    rcases List.mem_append.mp (show x ∈ mc_fl F ++ p from hx) with h | h
    · obtain ⟨q, j, h1, h2⟩ := ih x h
      exact ⟨q, j, List.mem_cons.mpr (Or.inr h1), h2⟩
    · exact ⟨p, k, List.mem_cons.mpr (Or.inl rfl), h⟩
theorem mc_fl_len {F : List (List Int64 × Nat)} (h : mc_fo P F) : F.length ≤ (mc_fl F).length := by
  induction F with
  | nil => simp
  | cons a F ih =>
    obtain ⟨p, k⟩ := a
    have h1 := ih (fun q j hq => h q j (List.mem_cons.mpr (Or.inr hq)))
    have h2 := (h p k (List.mem_cons.mpr (Or.inl rfl))).1
    have h3 : 0 < p.length := List.length_pos_iff.mpr h2
    show F.length + 1 ≤ (mc_fl F ++ p).length
    rw [List.length_append]; omega
theorem mc_fo_tl {a : List Int64 × Nat} {F : List (List Int64 × Nat)} (h : mc_fo P (a :: F)) : mc_fo P F := fun q j hq => h q j (List.mem_cons.mpr (Or.inr hq))
theorem mc_fo_cons {p : List Int64} {k : Nat} {F : List (List Int64 × Nat)} (h : mc_fo P F) (hp : p ≠ []) (h1 : 1 ≤ k) (h2 : k ≤ 2) (hw : ∀ r, tm_w r k → tm_w (p ++ r) 1) (hx : ∀ x, x ∈ p → P x) : mc_fo P ((p, k) :: F) := by
  intro q j hq
  rcases List.mem_cons.mp hq with e | e
  · cases e; exact ⟨hp, h1, h2, hw, hx⟩
  · exact h q j e
/-- a finished term goes to the term around it -/
theorem mc_fin_I {W : List Int64} {F : List (List Int64 × Nat)} {t n : Nat} {s : List Int64} (ht : t ≤ 60) (hW : ∀ x, x ∈ W → P x) (hF : mc_fo P F) (hw : tm_w W (mc_nd F)) (hs : tm_w s 1) (hP : ∀ x, x ∈ s → P x) (hn : W.length + (mc_fl F).length + s.length ≤ 30 + 30 * t) (h30 : s.length ≤ 30) :
    (F = [] ∧ W = [] ∧ mc_fin W F t s = .inr (0, t, s)) ∨ (∃ W' F' t' m', mc_fin W F t s = .inl (W', F', t', m') ∧ mc_I P W' F' t' m' ∧ mc_mu W' F' t' m' < 2 * W.length + F.length + 1 + 60 * (60 - t)) := by
  cases F with
  | nil => exact Or.inl ⟨rfl, tm_w_0 hw, rfl⟩
  | cons a F =>
    obtain ⟨p, k⟩ := a
    obtain ⟨h1, h2, h3, h4, h5⟩ := hF p k (List.mem_cons.mpr (Or.inl rfl))
    refine Or.inr ?_
    have hpx : ∀ x, x ∈ p ++ s → P x := fun x hx => by
      rcases List.mem_append.mp hx with h | h
      · exact h5 x h
      · exact hP x h
    have hl : (mc_fl ((p, k) :: F)).length = (mc_fl F).length + p.length := by
      show (mc_fl F ++ p).length = _
      rw [List.length_append]
    rw [hl] at hn
    have hnd : mc_nd ((p, k) :: F) = (k - 1) + mc_nd F := rfl
    rw [hnd] at hw
    by_cases hk : k ≤ 1
    · have hk1 : k = 1 := by omega
      subst hk1
      refine ⟨W, F, t, some (p ++ s), rfl, ⟨ht, hW, mc_fo_tl hF, ?_, h4 s hs, hpx, ?_⟩, ?_⟩
      · rw [show 1 - 1 + mc_nd F = mc_nd F by omega] at hw; exact hw
      · rw [List.length_append]; omega
      · show 2 * W.length + F.length + 1 + 60 * (60 - t) < 2 * W.length + (F.length + 1) + 1 + 60 * (60 - t)
        omega
    · have hk2 : k = 2 := by omega
      subst hk2
      refine ⟨W, (p ++ s, 1) :: F, t, none, rfl, ⟨ht, hW, mc_fo_cons (mc_fo_tl hF) (by simp [h1]) (by omega) (by omega) (fun r hr => ?_) hpx, ?_, ?_⟩, ?_⟩
      · rw [List.append_assoc]
        exact h4 _ (tm_w_app s r 1 1 hs hr)
      · show tm_w W (1 + ((1 - 1) + mc_nd F))
        rw [show 1 + ((1 - 1) + mc_nd F) = 2 - 1 + mc_nd F by omega]; exact hw
      · show W.length + (mc_fl F ++ (p ++ s)).length ≤ _
        rw [List.length_append, List.length_append]; omega
      · show 2 * W.length + (F.length + 1) + 0 + 60 * (60 - t) < 2 * W.length + (F.length + 1) + 1 + 60 * (60 - t)
        omega
/-- every step keeps the invariant, or ends -/
theorem mc_pres (hd : ∀ x, tk_d x → P x) (hG : mc_G L R) {W : List Int64} {F : List (List Int64 × Nat)} {t : Nat} {m : Option (List Int64)} (hI : mc_I P W F t m) :
    (∃ W' F' t' m', mc_st L R W F t m = .inl (W', F', t', m') ∧ mc_I P W' F' t' m' ∧ mc_mu W' F' t' m' < mc_mu W F t m) ∨
    (∃ c t' s', mc_st L R W F t m = .inr (c, t', s') ∧ t' ≤ 61 ∧ c ≤ 3 ∧ (c = 0 → W = [] ∧ F = [] ∧ t' ≤ 60 ∧ tm_w s' 1 ∧ s'.length ≤ 30 ∧ ∀ x, x ∈ s' → P x)) := by
  obtain ⟨ht, hW, hF, hm⟩ := hI
  cases m with
  | none =>
    obtain ⟨h1, h2⟩ := hm
    cases W with
    | nil => rw [tm_w_nil] at h1; omega
    | cons c W =>
      obtain ⟨k, e, h3⟩ := tm_w_ne h1
      have hk : k = mc_nd F := by omega
      subst hk
      have hW' : ∀ x, x ∈ W → P x := fun x hx => hW x (List.mem_cons.mpr (Or.inr hx))
      have hc : P c := hW c (List.mem_cons.mpr (Or.inl rfl))
      rw [List.length_cons] at h2
      refine Or.inl ?_
      by_cases ha : tm_ar c = 0
      · refine ⟨W, F, t, some [c], if_pos ha, ⟨ht, hW', hF, ?_, tm_w_1 ha, fun x hx => ?_, ?_⟩, ?_⟩
        · rw [ha] at h3; exact h3
        · rw [List.mem_singleton] at hx; rw [hx]; exact hc
        · rw [List.length_singleton]; omega
        · show 2 * W.length + F.length + 1 + 60 * (60 - t) < 2 * (W.length + 1) + F.length + 0 + 60 * (60 - t)
          omega
      · have ha2 := tm_ar_le c
        refine ⟨W, ([c], tm_ar c) :: F, t, none, if_neg ha, ⟨ht, hW', mc_fo_cons hF (by simp) (by omega) ha2 (fun r hr => ?_) (fun x hx => ?_), ?_, ?_⟩, ?_⟩
        · show tm_w (c :: r) (0 + 1)
          exact tm_w_cons.mpr (by rw [Nat.zero_add]; exact hr)
        · rw [List.mem_singleton] at hx; rw [hx]; exact hc
        · show tm_w W (1 + ((tm_ar c - 1) + mc_nd F))
          rw [show 1 + ((tm_ar c - 1) + mc_nd F) = mc_nd F + tm_ar c by omega]; exact h3
        · show W.length + (mc_fl F ++ [c]).length ≤ _
          rw [List.length_append, List.length_singleton]; omega
        · show 2 * W.length + (F.length + 1) + 0 + 60 * (60 - t) < 2 * (W.length + 1) + F.length + 0 + 60 * (60 - t)
          omega
  | some s =>
    obtain ⟨h1, h2, h3, h4⟩ := hm
    have hmu : mc_mu W F t (some s) = 2 * W.length + F.length + 1 + 60 * (60 - t) := rfl
    rw [hmu]
    unfold mc_st
    dsimp only
    by_cases h30 : 30 < s.length
    · exact Or.inr ⟨3, t, [], if_pos h30, by omega, by omega, fun z => absurd z (by omega)⟩
    · rw [if_neg h30]
      have hol := mc_or_len s
      have how := mc_or_w h2
      have hoP : ∀ x, x ∈ mc_or s → P x := fun x hx => h3 x (mc_or_mem hx)
      cases ha : mc_ar (mc_or s) with
      | some v =>
        dsimp only
        obtain ⟨hv, hv3⟩ := mc_ar_d ha
        by_cases h60 : 60 < t + 1
        · exact Or.inr ⟨2, t + 1, [], if_pos h60, by omega, by omega, fun z => absurd z (by omega)⟩
        · rw [if_neg h60]
          have har : tm_ar v = 0 := by
            obtain ⟨n, rfl, hn⟩ := hv
            unfold mc_ar at ha
            split at ha
            · rename_i o x y _
              split at ha
              · injection ha with ha
                obtain ⟨k, hk, hk2⟩ := mc_val (if o = 10 then x.toInt32 + y.toInt32 else x.toInt32 * y.toInt32)
                obtain ⟨j, hj, e⟩ := wb_of (if o = 10 then x.toInt32 + y.toInt32 else x.toInt32 * y.toInt32).toInt64
                rw [e, show (4294967295 : Int64) = lN (2 ^ 32 - 1) from rfl, wb_mask hj (by omega), show (4294967296 : Int64) = lN 4294967296 from rfl, lN_add] at ha
                rw [← ha]
                have : j % 2 ^ 32 < 4294967296 := Nat.mod_lt _ (by decide)
                rw [tk_ar_n (by omega), if_neg (by omega), if_neg (by omega)]
              · exact absurd ha (by simp)
            · exact absurd ha (by simp)
          rcases mc_fin_I (n := 0) (t := t + 1) (by omega) hW hF h1 (tm_w_1 har) (fun x hx => by rw [List.mem_singleton] at hx; rw [hx]; exact hd _ hv) (by rw [List.length_singleton]; omega) (by simp) with ⟨e1, e2, e3⟩ | ⟨W', F', t', m', e1, e2, e3⟩
          · exact Or.inr ⟨0, t + 1, [v], e3, by omega, by omega, fun _ => ⟨e2, e1, by omega, tm_w_1 har, by simp, fun x hx => by rw [List.mem_singleton] at hx; rw [hx]; exact hd _ hv⟩⟩
          · exact Or.inl ⟨W', F', t', m', e1, e2, by omega⟩
      | none =>
        dsimp only
        cases hf : ru_fr L (mc_or s) 8 0 with
        | none =>
          dsimp only
          rcases mc_fin_I (n := 0) ht hW hF h1 how hoP (by omega) (by omega) with ⟨e1, e2, e3⟩ | ⟨W', F', t', m', e1, e2, e3⟩
          · exact Or.inr ⟨0, t, _, e3, by omega, by omega, fun _ => ⟨e2, e1, ht, how, by omega, hoP⟩⟩
          · exact Or.inl ⟨W', F', t', m', e1, e2, e3⟩
        | some rb =>
          obtain ⟨r, β⟩ := rb
          dsimp only
          by_cases h60 : 60 < t + 1
          · exact Or.inr ⟨2, t + 1, [], if_pos h60, by omega, by omega, fun z => absurd z (by omega)⟩
          · rw [if_neg h60]
            by_cases hb : 30 < (ru_in β (R r)).length
            · exact Or.inr ⟨3, t + 1, [], if_pos hb, by omega, by omega, fun z => absurd z (by omega)⟩
            · rw [if_neg hb]
              obtain ⟨_, _, hL0, w, hw, hm⟩ := mc_fr _ _ _ _ hf
              rcases hG r with h | ⟨g1, g2, g3, g4, g5, g6, g7, g8⟩
              · exact absurd h hL0
              · obtain ⟨b1, b2, b3⟩ := mc_mt (P := P) _ _ 1 _ _ hm how hoP (fun k => Or.inl rfl)
                have hbw : ∀ q, q ∈ R r → ¬ q < 8589934592 → tm_w (β (ru_slot q)) 1 := fun q hq hq' => by
                  have hm2 : q ∈ (ru_wy (L r) w).1 := mc_wy_mem' (L r) w q (g8 q hq hq')
                  rcases b1 (ru_slot q) with h | h
                  · exact absurd h (b3 q hm2 hq')
                  · exact h.1
                have hbP : ∀ k x, x ∈ β k → P x := fun k x hx => by
                  rcases b1 k with h | h
                  · rw [h] at hx; exact absurd hx (by simp)
                  · exact h.2 x hx
                refine Or.inl ⟨_, F, t + 1, none, rfl, ⟨by omega, fun x hx => ?_, hF, ?_, ?_⟩, ?_⟩
                · rcases List.mem_append.mp hx with h | h
                  · exact mc_in_P hd g5 hbP x h
                  · exact hW x h
                · exact tm_w_app _ _ _ _ (mc_in_w (R r) 1 g2 g5 hbw) h1
                · rw [List.length_append]
                  have : 0 < s.length := by have := tm_w_len _ _ h2; omega
                  omega
                · show 2 * (ru_in β (R r) ++ W).length + F.length + 0 + 60 * (60 - (t + 1)) < _
                  rw [List.length_append]; omega
/-- the run ends within its measure, and well -/
theorem mc_run_ok (hd : ∀ x, tk_d x → P x) (hG : mc_G L R) : ∀ (f : Nat) (W : List Int64) (F : List (List Int64 × Nat)) (t : Nat) (m : Option (List Int64)), mc_I P W F t m → mc_mu W F t m < f → ∃ c t' s', mc_run L R f W F t m = (c, t', s') ∧ t' ≤ 61 ∧ c ≤ 3 ∧ (c = 0 → t' ≤ 60 ∧ tm_w s' 1 ∧ s'.length ≤ 30 ∧ ∀ x, x ∈ s' → P x)
  | 0, W, F, t, m, _, h => absurd h (by omega)
  | f + 1, W, F, t, m, hI, hf => by
    rcases mc_pres hd hG hI with ⟨W', F', t', m', e1, e2, e3⟩ | ⟨c, t', s', e1, e2, e3, e4⟩
    · rw [mc_run, e1]
      exact mc_run_ok hd hG f W' F' t' m' e2 (by omega)
    · rw [mc_run, e1]
      exact ⟨c, t', s', rfl, e2, e3, fun z => (e4 z).2.2⟩
end
end
section
/-! the low half of a long -/
theorem tk_mask : ∀ i, i < 64 → (4294967295 : Int64).toBitVec.getLsbD i = decide (i < 32) := by decide +kernel
theorem tk_low (z : Int32) : z.toInt64 &&& 4294967295 = lN z.toBitVec.toNat := by
  apply wb_inj
  rw [Int64.toBitVec_and, wb_tb]
  apply BitVec.eq_of_getLsbD_eq
  intro i hi
  rw [BitVec.getLsbD_and, tk_mask i hi, BitVec.getLsbD_ofNat]
  have e : z.toInt64.toBitVec = z.toBitVec.signExtend 64 := rfl
  rw [e, BitVec.getLsbD_signExtend]
  by_cases h : i < 32
  · simp [h, hi, BitVec.testBit_toNat]
  · have h2 : z.toBitVec.toNat.testBit i = false := Nat.testBit_lt_two_pow (Nat.lt_of_lt_of_le z.toBitVec.isLt (Nat.pow_le_pow_right (by omega) (by omega)))
    simp [h, h2]
theorem tk_nn (z : Int32) : nI z.toBitVec.toNat = z := by
  apply Int32.toBitVec_inj.mp
  show BitVec.ofNat 32 _ = _
  rw [BitVec.ofNat_toNat]
  simp
theorem tk_num (z : Int32) : 4294967296 + (z.toInt64 &&& 4294967295) = lN (4294967296 + z.toBitVec.toNat) ∧ tk_kT (4294967296 + (z.toInt64 &&& 4294967295)) = 1 ∧ tk_vT (4294967296 + (z.toInt64 &&& 4294967295)) = z := by
  have h := z.toBitVec.isLt
  have e : 4294967296 + (z.toInt64 &&& 4294967295) = lN (4294967296 + z.toBitVec.toNat) := by
    rw [tk_low, show (4294967296 : Int64) = lN 4294967296 from rfl, lN_add]
  rw [e]
  obtain ⟨h1, h2⟩ := tk_T_num (n := 4294967296 + z.toBitVec.toNat) (by omega) (by omega)
  refine ⟨rfl, h1, ?_⟩
  rw [h2, show 4294967296 + z.toBitVec.toNat = z.toBitVec.toNat + 4294967296 * 1 by omega, tk_wrap, tk_nn]
theorem tk_vT_num {x : Int64} (h : tk_N x) : tk_vT x = x.toInt32 := by
  unfold tk_vT
  rw [if_pos h.2]
/-- a term's token of kind 0 with a symbol's value -/
theorem tk_sym {t : Int64} (h : tk_t t) (hk : ¬ tk_kT t = 1) (n : Nat) (hn : n < 12) {x : Int64} (hx : x = lN n := by rfl) {y : Int32} (hy : y = nI n := by rfl) : tk_vT t = y ↔ t = x := by
  subst hx hy
  constructor
  · intro e
    have hkT : tk_kT t = 0 := by rcases tk_kT_01 t with h | h; exact h; exact absurd h hk
    exact tk_T_inj h ⟨n, rfl, Or.inl hn⟩ (by rw [hkT, (tk_T_sym hn).1]) (by rw [e, (tk_T_sym hn).2])
  · intro e; rw [e]; exact (tk_T_sym hn).2
theorem mc_len_mt : ∀ (ps s : List Int64) (β β' : Nat → List Int64), ru_mt ps s β = some β' → s.length ≤ 2000 → (∀ k, (β k).length ≤ 2000) → ∀ k, (β' k).length ≤ 2000
  | [], s, β, β', h, hs, hb => by
    rw [ru_mt] at h
    cases h
    exact hb
  | p :: ps, [], β, β', h, hs, hb => by
    rw [ru_mt] at h
    exact absurd h (by simp)
  | p :: ps, c :: s, β, β', h, hs, hb => by
    rw [ru_mt] at h
    have hd : ((c :: s).drop (tm_n (c :: s) 1)).length ≤ 2000 := by rw [List.length_drop]; omega
    have ht : ((c :: s).take (tm_n (c :: s) 1)).length ≤ 2000 := by rw [List.length_take]; omega
    split at h
    · split at h
      · exact mc_len_mt ps s β β' h (by rw [List.length_cons] at hs; omega) hb
      · exact absurd h (by simp)
    · split at h
      · exact absurd h (by simp)
      · split at h
        · refine mc_len_mt ps _ _ β' h hd (fun k => ?_)
          split
          · exact ht
          · exact hb k
        · split at h
          · exact mc_len_mt ps _ β β' h hd hb
          · exact absurd h (by simp)
end
section
/-! the component: where terms end, the sheet, the exchange of arguments -/
section
variable {f_drafted f_faultPlace f_reportedSteps f_resultSize f_sheetSize f_waitingSize f_builtSize f_unfinished f_taken f_keptSize f_stacked f_ranked f_surveyed : Int32} {a_draft a_result a_lefts a_rights a_sheet a_waiting a_built a_kept a_joint : Nat → Int64} {a_leftSize a_ways a_rightSize a_unfinishedStart a_unfinishedLacks a_matchStart a_matchEnd a_unified a_oneStack a_otherStack a_nestedAt a_nestedEnd a_rank a_pairCount a_firstOpen : Nat → Int32}
theorem xe_lefts_l {post : Int32 → Prop} : ∀ (a r : List Int64) (m i n e q : Nat), e = i + a.length + r.length → q = i + a.length → tm_w a m → hd_h a_lefts i (a ++ r) → e ≤ 3840 → a.length < n → post (nI q) → wX_endOf__lefts_5 post (nI e) f_drafted f_faultPlace f_reportedSteps f_resultSize f_sheetSize f_waitingSize f_builtSize f_unfinished f_taken f_keptSize f_stacked f_ranked f_surveyed a_draft a_result a_lefts a_leftSize a_ways a_rights a_rightSize a_sheet a_waiting a_built a_unfinishedStart a_unfinishedLacks a_kept a_matchStart a_matchEnd a_joint a_unified a_oneStack a_otherStack a_nestedAt a_nestedEnd a_rank a_pairCount a_firstOpen n (nI m) (nI i)
  | [], r, m, i, n, e, q, he, hq, hw, hh, hl, hn, hp => by
    obtain ⟨n, rfl⟩ : ∃ n', n = n' + 1 := ⟨n - 1, by omega⟩
    rw [tm_w_nil] at hw
    subst hw
    have hq' : q = i := hq
    subst hq'
    refine pk_le e q (fun _ => hp) (fun _ => br_t (Int32.le_refl _) hp) rfl rfl (by omega) (by simp at he; omega)
  | t :: a, r, m, i, n, e, q, he, hq, hw, hh, hl, hn, hp => by
    obtain ⟨n, rfl⟩ : ∃ n', n = n' + 1 := ⟨n - 1, by omega⟩
    have hlen : (t :: a).length = a.length + 1 := rfl
    rw [hlen] at he hq hn
    have hml := tm_w_len _ _ hw
    obtain ⟨k, rfl, h1⟩ := tm_w_ne hw
    have hml2 := tm_w_len _ _ h1
    rw [hlen] at hml
    have et : a_lefts (nI i).toNatClampNeg = t := by rw [nI_clamp (by omega)]; exact hh.1
    have hin : vp_in (nI i) 3840 := vp_in_nI (by omega) (by omega)
    refine pk_le e i (fun z => absurd z (by omega)) (fun _ => ?_)
    refine pk_le (k + 1) 0 (fun z => absurd z (by omega)) (fun _ => ?_)
    refine ⟨hin, ?_⟩
    by_cases h4 : t < 4
    · have har : tm_ar t = 0 := by unfold tm_ar; rw [if_pos h4]
      rw [har] at h1
      exact br_t (by rw [et]; exact h4) (nm_r (pk_m1 k) (nm_r (nI_1 i) (xe_lefts_l a r k (i + 1) n e q (by omega) (by omega) h1 hh.2 hl (by omega) hp)))
    · refine br_f (by rw [et]; exact h4) ⟨hin, ?_⟩
      by_cases h12 : t < 12
      · refine br_t (by rw [et]; exact h12) ⟨hin, ?_⟩
        by_cases h7 : t < 7
        · have har : tm_ar t = 1 := by unfold tm_ar; rw [if_neg h4, if_pos h12, if_neg (by rw [Int64.not_le]; exact h7)]
          rw [har] at h1
          exact br_t (by rw [et]; exact h7) (nm_r (nI_1 i) (xe_lefts_l a r (k + 1) (i + 1) n e q (by omega) (by omega) h1 hh.2 hl (by omega) hp))
        · have har : tm_ar t = 2 := by unfold tm_ar; rw [if_neg h4, if_pos h12, if_pos (Int64.not_lt.mp h7)]
          rw [har] at h1
          exact br_f (by rw [et]; exact h7) (nm_r (nI_1 (k + 1)) (nm_r (nI_1 i) (xe_lefts_l a r (k + 2) (i + 1) n e q (by omega) (by omega) h1 hh.2 hl (by omega) hp)))
      · have har : tm_ar t = 0 := by unfold tm_ar; rw [if_neg h4, if_neg h12]
        rw [har] at h1
        exact br_f (by rw [et]; exact h12) (nm_r (pk_m1 k) (nm_r (nI_1 i) (xe_lefts_l a r k (i + 1) n e q (by omega) (by omega) h1 hh.2 hl (by omega) hp)))
theorem xe_lefts {post : Int32 → Prop} {a r : List Int64} (i e q : Nat) (hw : tm_w a 1) (hh : hd_h a_lefts i (a ++ r)) (he : e = i + a.length + r.length) (hq : q = i + a.length) (hl : e ≤ 3840) (hp : post (nI q)) : wpX_endOf__lefts post (f_drafted, f_faultPlace, f_reportedSteps, f_resultSize, f_sheetSize, f_waitingSize, f_builtSize, f_unfinished, f_taken, f_keptSize, f_stacked, f_ranked, f_surveyed, a_draft, a_result, a_lefts, a_leftSize, a_ways, a_rights, a_rightSize, a_sheet, a_waiting, a_built, a_unfinishedStart, a_unfinishedLacks, a_kept, a_matchStart, a_matchEnd, a_joint, a_unified, a_oneStack, a_otherStack, a_nestedAt, a_nestedEnd, a_rank, a_pairCount, a_firstOpen) (nI i) (nI e) :=
  ⟨a.length + 1, xe_lefts_l a r 1 i _ e q he hq hw hh hl (by omega) hp⟩
theorem xe_draft_l {post : Int32 → Prop} : ∀ (a r : List Int64) (m i n e q : Nat), e = i + a.length + r.length → q = i + a.length → tm_w a m → hd_h a_draft i (a ++ r) → e ≤ 30 → a.length < n → post (nI q) → wX_endOf__draft_5 post (nI e) f_drafted f_faultPlace f_reportedSteps f_resultSize f_sheetSize f_waitingSize f_builtSize f_unfinished f_taken f_keptSize f_stacked f_ranked f_surveyed a_draft a_result a_lefts a_leftSize a_ways a_rights a_rightSize a_sheet a_waiting a_built a_unfinishedStart a_unfinishedLacks a_kept a_matchStart a_matchEnd a_joint a_unified a_oneStack a_otherStack a_nestedAt a_nestedEnd a_rank a_pairCount a_firstOpen n (nI m) (nI i)
  | [], r, m, i, n, e, q, he, hq, hw, hh, hl, hn, hp => by
    obtain ⟨n, rfl⟩ : ∃ n', n = n' + 1 := ⟨n - 1, by omega⟩
    rw [tm_w_nil] at hw
    subst hw
    have hq' : q = i := hq
    subst hq'
    refine pk_le e q (fun _ => hp) (fun _ => br_t (Int32.le_refl _) hp) rfl rfl (by omega) (by simp at he; omega)
  | t :: a, r, m, i, n, e, q, he, hq, hw, hh, hl, hn, hp => by
    obtain ⟨n, rfl⟩ : ∃ n', n = n' + 1 := ⟨n - 1, by omega⟩
    have hlen : (t :: a).length = a.length + 1 := rfl
    rw [hlen] at he hq hn
    have hml := tm_w_len _ _ hw
    obtain ⟨k, rfl, h1⟩ := tm_w_ne hw
    have hml2 := tm_w_len _ _ h1
    rw [hlen] at hml
    have et : a_draft (nI i).toNatClampNeg = t := by rw [nI_clamp (by omega)]; exact hh.1
    have hin : vp_in (nI i) 30 := vp_in_nI (by omega) (by omega)
    refine pk_le e i (fun z => absurd z (by omega)) (fun _ => ?_)
    refine pk_le (k + 1) 0 (fun z => absurd z (by omega)) (fun _ => ?_)
    refine ⟨hin, ?_⟩
    by_cases h4 : t < 4
    · have har : tm_ar t = 0 := by unfold tm_ar; rw [if_pos h4]
      rw [har] at h1
      exact br_t (by rw [et]; exact h4) (nm_r (pk_m1 k) (nm_r (nI_1 i) (xe_draft_l a r k (i + 1) n e q (by omega) (by omega) h1 hh.2 hl (by omega) hp)))
    · refine br_f (by rw [et]; exact h4) ⟨hin, ?_⟩
      by_cases h12 : t < 12
      · refine br_t (by rw [et]; exact h12) ⟨hin, ?_⟩
        by_cases h7 : t < 7
        · have har : tm_ar t = 1 := by unfold tm_ar; rw [if_neg h4, if_pos h12, if_neg (by rw [Int64.not_le]; exact h7)]
          rw [har] at h1
          exact br_t (by rw [et]; exact h7) (nm_r (nI_1 i) (xe_draft_l a r (k + 1) (i + 1) n e q (by omega) (by omega) h1 hh.2 hl (by omega) hp))
        · have har : tm_ar t = 2 := by unfold tm_ar; rw [if_neg h4, if_pos h12, if_pos (Int64.not_lt.mp h7)]
          rw [har] at h1
          exact br_f (by rw [et]; exact h7) (nm_r (nI_1 (k + 1)) (nm_r (nI_1 i) (xe_draft_l a r (k + 2) (i + 1) n e q (by omega) (by omega) h1 hh.2 hl (by omega) hp)))
      · have har : tm_ar t = 0 := by unfold tm_ar; rw [if_neg h4, if_neg h12]
        rw [har] at h1
        exact br_f (by rw [et]; exact h12) (nm_r (pk_m1 k) (nm_r (nI_1 i) (xe_draft_l a r k (i + 1) n e q (by omega) (by omega) h1 hh.2 hl (by omega) hp)))
theorem xe_draft {post : Int32 → Prop} {a r : List Int64} (i e q : Nat) (hw : tm_w a 1) (hh : hd_h a_draft i (a ++ r)) (he : e = i + a.length + r.length) (hq : q = i + a.length) (hl : e ≤ 30) (hp : post (nI q)) : wpX_endOf__draft post (f_drafted, f_faultPlace, f_reportedSteps, f_resultSize, f_sheetSize, f_waitingSize, f_builtSize, f_unfinished, f_taken, f_keptSize, f_stacked, f_ranked, f_surveyed, a_draft, a_result, a_lefts, a_leftSize, a_ways, a_rights, a_rightSize, a_sheet, a_waiting, a_built, a_unfinishedStart, a_unfinishedLacks, a_kept, a_matchStart, a_matchEnd, a_joint, a_unified, a_oneStack, a_otherStack, a_nestedAt, a_nestedEnd, a_rank, a_pairCount, a_firstOpen) (nI i) (nI e) :=
  ⟨a.length + 1, xe_draft_l a r 1 i _ e q he hq hw hh hl (by omega) hp⟩
theorem xe_built_l {post : Int32 → Prop} : ∀ (a r : List Int64) (m i n e q : Nat), e = i + a.length + r.length → q = i + a.length → tm_w a m → hd_h a_built i (a ++ r) → e ≤ 2048 → a.length < n → post (nI q) → wX_endOf__built_5 post (nI e) f_drafted f_faultPlace f_reportedSteps f_resultSize f_sheetSize f_waitingSize f_builtSize f_unfinished f_taken f_keptSize f_stacked f_ranked f_surveyed a_draft a_result a_lefts a_leftSize a_ways a_rights a_rightSize a_sheet a_waiting a_built a_unfinishedStart a_unfinishedLacks a_kept a_matchStart a_matchEnd a_joint a_unified a_oneStack a_otherStack a_nestedAt a_nestedEnd a_rank a_pairCount a_firstOpen n (nI m) (nI i)
  | [], r, m, i, n, e, q, he, hq, hw, hh, hl, hn, hp => by
    obtain ⟨n, rfl⟩ : ∃ n', n = n' + 1 := ⟨n - 1, by omega⟩
    rw [tm_w_nil] at hw
    subst hw
    have hq' : q = i := hq
    subst hq'
    refine pk_le e q (fun _ => hp) (fun _ => br_t (Int32.le_refl _) hp) rfl rfl (by omega) (by simp at he; omega)
  | t :: a, r, m, i, n, e, q, he, hq, hw, hh, hl, hn, hp => by
    obtain ⟨n, rfl⟩ : ∃ n', n = n' + 1 := ⟨n - 1, by omega⟩
    have hlen : (t :: a).length = a.length + 1 := rfl
    rw [hlen] at he hq hn
    have hml := tm_w_len _ _ hw
    obtain ⟨k, rfl, h1⟩ := tm_w_ne hw
    have hml2 := tm_w_len _ _ h1
    rw [hlen] at hml
    have et : a_built (nI i).toNatClampNeg = t := by rw [nI_clamp (by omega)]; exact hh.1
    have hin : vp_in (nI i) 2048 := vp_in_nI (by omega) (by omega)
    refine pk_le e i (fun z => absurd z (by omega)) (fun _ => ?_)
    refine pk_le (k + 1) 0 (fun z => absurd z (by omega)) (fun _ => ?_)
    refine ⟨hin, ?_⟩
    by_cases h4 : t < 4
    · have har : tm_ar t = 0 := by unfold tm_ar; rw [if_pos h4]
      rw [har] at h1
      exact br_t (by rw [et]; exact h4) (nm_r (pk_m1 k) (nm_r (nI_1 i) (xe_built_l a r k (i + 1) n e q (by omega) (by omega) h1 hh.2 hl (by omega) hp)))
    · refine br_f (by rw [et]; exact h4) ⟨hin, ?_⟩
      by_cases h12 : t < 12
      · refine br_t (by rw [et]; exact h12) ⟨hin, ?_⟩
        by_cases h7 : t < 7
        · have har : tm_ar t = 1 := by unfold tm_ar; rw [if_neg h4, if_pos h12, if_neg (by rw [Int64.not_le]; exact h7)]
          rw [har] at h1
          exact br_t (by rw [et]; exact h7) (nm_r (nI_1 i) (xe_built_l a r (k + 1) (i + 1) n e q (by omega) (by omega) h1 hh.2 hl (by omega) hp))
        · have har : tm_ar t = 2 := by unfold tm_ar; rw [if_neg h4, if_pos h12, if_pos (Int64.not_lt.mp h7)]
          rw [har] at h1
          exact br_f (by rw [et]; exact h7) (nm_r (nI_1 (k + 1)) (nm_r (nI_1 i) (xe_built_l a r (k + 2) (i + 1) n e q (by omega) (by omega) h1 hh.2 hl (by omega) hp)))
      · have har : tm_ar t = 0 := by unfold tm_ar; rw [if_neg h4, if_neg h12]
        rw [har] at h1
        exact br_f (by rw [et]; exact h12) (nm_r (pk_m1 k) (nm_r (nI_1 i) (xe_built_l a r k (i + 1) n e q (by omega) (by omega) h1 hh.2 hl (by omega) hp)))
theorem xe_built {post : Int32 → Prop} {a r : List Int64} (i e q : Nat) (hw : tm_w a 1) (hh : hd_h a_built i (a ++ r)) (he : e = i + a.length + r.length) (hq : q = i + a.length) (hl : e ≤ 2048) (hp : post (nI q)) : wpX_endOf__built post (f_drafted, f_faultPlace, f_reportedSteps, f_resultSize, f_sheetSize, f_waitingSize, f_builtSize, f_unfinished, f_taken, f_keptSize, f_stacked, f_ranked, f_surveyed, a_draft, a_result, a_lefts, a_leftSize, a_ways, a_rights, a_rightSize, a_sheet, a_waiting, a_built, a_unfinishedStart, a_unfinishedLacks, a_kept, a_matchStart, a_matchEnd, a_joint, a_unified, a_oneStack, a_otherStack, a_nestedAt, a_nestedEnd, a_rank, a_pairCount, a_firstOpen) (nI i) (nI e) :=
  ⟨a.length + 1, xe_built_l a r 1 i _ e q he hq hw hh hl (by omega) hp⟩
theorem xe_joint_l {post : Int32 → Prop} : ∀ (a r : List Int64) (m i n e q : Nat), e = i + a.length + r.length → q = i + a.length → tm_w a m → hd_h a_joint i (a ++ r) → e ≤ 60 → a.length < n → post (nI q) → wX_endOf__joint_5 post (nI e) f_drafted f_faultPlace f_reportedSteps f_resultSize f_sheetSize f_waitingSize f_builtSize f_unfinished f_taken f_keptSize f_stacked f_ranked f_surveyed a_draft a_result a_lefts a_leftSize a_ways a_rights a_rightSize a_sheet a_waiting a_built a_unfinishedStart a_unfinishedLacks a_kept a_matchStart a_matchEnd a_joint a_unified a_oneStack a_otherStack a_nestedAt a_nestedEnd a_rank a_pairCount a_firstOpen n (nI m) (nI i)
  | [], r, m, i, n, e, q, he, hq, hw, hh, hl, hn, hp => by
    obtain ⟨n, rfl⟩ : ∃ n', n = n' + 1 := ⟨n - 1, by omega⟩
    rw [tm_w_nil] at hw
    subst hw
    have hq' : q = i := hq
    subst hq'
    refine pk_le e q (fun _ => hp) (fun _ => br_t (Int32.le_refl _) hp) rfl rfl (by omega) (by simp at he; omega)
  | t :: a, r, m, i, n, e, q, he, hq, hw, hh, hl, hn, hp => by
    obtain ⟨n, rfl⟩ : ∃ n', n = n' + 1 := ⟨n - 1, by omega⟩
    have hlen : (t :: a).length = a.length + 1 := rfl
    rw [hlen] at he hq hn
    have hml := tm_w_len _ _ hw
    obtain ⟨k, rfl, h1⟩ := tm_w_ne hw
    have hml2 := tm_w_len _ _ h1
    rw [hlen] at hml
    have et : a_joint (nI i).toNatClampNeg = t := by rw [nI_clamp (by omega)]; exact hh.1
    have hin : vp_in (nI i) 60 := vp_in_nI (by omega) (by omega)
    refine pk_le e i (fun z => absurd z (by omega)) (fun _ => ?_)
    refine pk_le (k + 1) 0 (fun z => absurd z (by omega)) (fun _ => ?_)
    refine ⟨hin, ?_⟩
    by_cases h4 : t < 4
    · have har : tm_ar t = 0 := by unfold tm_ar; rw [if_pos h4]
      rw [har] at h1
      exact br_t (by rw [et]; exact h4) (nm_r (pk_m1 k) (nm_r (nI_1 i) (xe_joint_l a r k (i + 1) n e q (by omega) (by omega) h1 hh.2 hl (by omega) hp)))
    · refine br_f (by rw [et]; exact h4) ⟨hin, ?_⟩
      by_cases h12 : t < 12
      · refine br_t (by rw [et]; exact h12) ⟨hin, ?_⟩
        by_cases h7 : t < 7
        · have har : tm_ar t = 1 := by unfold tm_ar; rw [if_neg h4, if_pos h12, if_neg (by rw [Int64.not_le]; exact h7)]
          rw [har] at h1
          exact br_t (by rw [et]; exact h7) (nm_r (nI_1 i) (xe_joint_l a r (k + 1) (i + 1) n e q (by omega) (by omega) h1 hh.2 hl (by omega) hp))
        · have har : tm_ar t = 2 := by unfold tm_ar; rw [if_neg h4, if_pos h12, if_pos (Int64.not_lt.mp h7)]
          rw [har] at h1
          exact br_f (by rw [et]; exact h7) (nm_r (nI_1 (k + 1)) (nm_r (nI_1 i) (xe_joint_l a r (k + 2) (i + 1) n e q (by omega) (by omega) h1 hh.2 hl (by omega) hp)))
      · have har : tm_ar t = 0 := by unfold tm_ar; rw [if_neg h4, if_neg h12]
        rw [har] at h1
        exact br_f (by rw [et]; exact h12) (nm_r (pk_m1 k) (nm_r (nI_1 i) (xe_joint_l a r k (i + 1) n e q (by omega) (by omega) h1 hh.2 hl (by omega) hp)))
theorem xe_joint {post : Int32 → Prop} {a r : List Int64} (i e q : Nat) (hw : tm_w a 1) (hh : hd_h a_joint i (a ++ r)) (he : e = i + a.length + r.length) (hq : q = i + a.length) (hl : e ≤ 60) (hp : post (nI q)) : wpX_endOf__joint post (f_drafted, f_faultPlace, f_reportedSteps, f_resultSize, f_sheetSize, f_waitingSize, f_builtSize, f_unfinished, f_taken, f_keptSize, f_stacked, f_ranked, f_surveyed, a_draft, a_result, a_lefts, a_leftSize, a_ways, a_rights, a_rightSize, a_sheet, a_waiting, a_built, a_unfinishedStart, a_unfinishedLacks, a_kept, a_matchStart, a_matchEnd, a_joint, a_unified, a_oneStack, a_otherStack, a_nestedAt, a_nestedEnd, a_rank, a_pairCount, a_firstOpen) (nI i) (nI e) :=
  ⟨a.length + 1, xe_joint_l a r 1 i _ e q he hq hw hh hl (by omega) hp⟩
theorem xw_put {post : SX → Prop} {k : Nat} {t : Int64} (hk : k < 31) (h : post (f_drafted, f_faultPlace, f_reportedSteps, f_resultSize, nI (k + 1), f_waitingSize, f_builtSize, f_unfinished, f_taken, f_keptSize, f_stacked, f_ranked, f_surveyed, a_draft, a_result, a_lefts, a_leftSize, a_ways, a_rights, a_rightSize, vp_updL a_sheet k t, a_waiting, a_built, a_unfinishedStart, a_unfinishedLacks, a_kept, a_matchStart, a_matchEnd, a_joint, a_unified, a_oneStack, a_otherStack, a_nestedAt, a_nestedEnd, a_rank, a_pairCount, a_firstOpen)) : wpX_write post (f_drafted, f_faultPlace, f_reportedSteps, f_resultSize, nI k, f_waitingSize, f_builtSize, f_unfinished, f_taken, f_keptSize, f_stacked, f_ranked, f_surveyed, a_draft, a_result, a_lefts, a_leftSize, a_ways, a_rights, a_rightSize, a_sheet, a_waiting, a_built, a_unfinishedStart, a_unfinishedLacks, a_kept, a_matchStart, a_matchEnd, a_joint, a_unified, a_oneStack, a_otherStack, a_nestedAt, a_nestedEnd, a_rank, a_pairCount, a_firstOpen) t := by
  refine pk_le 31 k (fun z => absurd z (by omega)) (fun _ => ⟨vp_in_nI hk (by omega), ?_⟩)
  refine nm_r (e' := vp_updL a_sheet k t) (by rw [nI_clamp (by omega)]) (nm_r (nI_1 k) h)
theorem xw_full {post : SX → Prop} {k : Nat} {t : Int64} (hk : 31 ≤ k) (hk2 : k < 100) (h : post (f_drafted, f_faultPlace, f_reportedSteps, f_resultSize, nI k, f_waitingSize, f_builtSize, f_unfinished, f_taken, f_keptSize, f_stacked, f_ranked, f_surveyed, a_draft, a_result, a_lefts, a_leftSize, a_ways, a_rights, a_rightSize, a_sheet, a_waiting, a_built, a_unfinishedStart, a_unfinishedLacks, a_kept, a_matchStart, a_matchEnd, a_joint, a_unified, a_oneStack, a_otherStack, a_nestedAt, a_nestedEnd, a_rank, a_pairCount, a_firstOpen)) : wpX_write post (f_drafted, f_faultPlace, f_reportedSteps, f_resultSize, nI k, f_waitingSize, f_builtSize, f_unfinished, f_taken, f_keptSize, f_stacked, f_ranked, f_surveyed, a_draft, a_result, a_lefts, a_leftSize, a_ways, a_rights, a_rightSize, a_sheet, a_waiting, a_built, a_unfinishedStart, a_unfinishedLacks, a_kept, a_matchStart, a_matchEnd, a_joint, a_unified, a_oneStack, a_otherStack, a_nestedAt, a_nestedEnd, a_rank, a_pairCount, a_firstOpen) t :=
  pk_le 31 k (fun _ => h) (fun z => absurd z (by omega))
theorem xx_lefts_78 {post : SX → Prop} {a0 : Nat → Int64} {q : List Int64} {s : Nat} (hs : s + 1 + q.length ≤ 3840) (hq31 : q.length ≤ 31) (hsh : hd_h a_sheet 0 q) (H : ∀ z, hd_h z (s + 1) q → hd_o a0 z (s + 1) q.length → post (f_drafted, f_faultPlace, f_reportedSteps, f_resultSize, nI q.length, f_waitingSize, f_builtSize, f_unfinished, f_taken, f_keptSize, f_stacked, f_ranked, f_surveyed, a_draft, a_result, z, a_leftSize, a_ways, a_rights, a_rightSize, a_sheet, a_waiting, a_built, a_unfinishedStart, a_unfinishedLacks, a_kept, a_matchStart, a_matchEnd, a_joint, a_unified, a_oneStack, a_otherStack, a_nestedAt, a_nestedEnd, a_rank, a_pairCount, a_firstOpen)) : ∀ (q2 q1 : List Int64) (zb : Nat → Int64) (n : Nat), q = q1 ++ q2 → hd_h zb (s + 1) q1 → hd_o a0 zb (s + 1) q1.length → q2.length < n → wX_exchangeArguments__lefts_78 post (nI s) (nI (s + 1 + q.length)) f_drafted f_faultPlace f_reportedSteps f_resultSize (nI q.length) f_waitingSize f_builtSize f_unfinished f_taken f_keptSize f_stacked f_ranked f_surveyed n (nI q1.length) a_draft a_result zb a_leftSize a_ways a_rights a_rightSize a_sheet a_waiting a_built a_unfinishedStart a_unfinishedLacks a_kept a_matchStart a_matchEnd a_joint a_unified a_oneStack a_otherStack a_nestedAt a_nestedEnd a_rank a_pairCount a_firstOpen
  | [], q1, zb, n, e, h1, h2, hn => by
    obtain ⟨n, rfl⟩ : ∃ n', n = n' + 1 := ⟨n - 1, by omega⟩
    rw [List.append_nil] at e
    subst e
    exact pk_le q.length q.length (fun _ => H zb h1 h2) (fun z => absurd z (by omega))
  | t :: q2, q1, zb, n, e, h1, h2, hn => by
    obtain ⟨n, rfl⟩ : ∃ n', n = n' + 1 := ⟨n - 1, by omega⟩
    have hlen : q.length = q1.length + (q2.length + 1) := by rw [e, List.length_append]; rfl
    rw [List.length_cons] at hn
    refine pk_le q.length q1.length (fun z => absurd z (by omega)) (fun _ => ?_)
    have e1 : nI s + 1 + nI q1.length = nI (s + 1 + q1.length) := by rw [nI_1, nI_add]
    refine pk_le (s + 1 + q.length) (s + 1 + q1.length) (fun z => absurd z (by omega)) (fun _ => ?_) rfl e1
    refine ⟨vp_in_nI (by omega) (by omega), ?_, ?_⟩
    · rw [e1]; exact vp_in_nI (by omega) (by omega)
    · have et : a_sheet q1.length = t := by
        have hh := hsh
        rw [e] at hh
        have := (hd_app.mp hh).2.1
        rwa [Nat.zero_add] at this
      refine nm_r (e' := vp_updL zb (s + 1 + q1.length) t) (by rw [e1, nI_clamp (by omega), nI_clamp (by omega), et]) (nm_r (e' := nI (q1 ++ [t]).length) (by rw [List.length_append]; exact nI_1 _) ?_)
      refine xx_lefts_78 hs hq31 hsh H q2 (q1 ++ [t]) _ n (by rw [e, List.append_assoc]; rfl) (hd_snocL h1) ?_ (by omega)
      intro j hj
      rw [List.length_append, List.length_singleton] at hj
      rw [pk_uLn (by omega)]
      exact h2 j (by omega)
theorem xx_lefts_54 {post : SX → Prop} {s mid e : Nat} (hm : e ≤ 3840) (hmid : mid ≤ e) (B : List Int64) : ∀ (A2 A1 : List Int64) (zs : Nat → Int64) (n : Nat), (B ++ (A1 ++ A2)).length ≤ 31 → mid = s + 1 + A1.length + A2.length → hd_h a_lefts (s + 1 + A1.length) A2 → hd_h zs 0 (B ++ A1) → A2.length < n → (∀ z, hd_h z 0 (B ++ (A1 ++ A2)) → ∃ n78, wX_exchangeArguments__lefts_78 post (nI s) (nI e) f_drafted f_faultPlace f_reportedSteps f_resultSize (nI (B ++ (A1 ++ A2)).length) f_waitingSize f_builtSize f_unfinished f_taken f_keptSize f_stacked f_ranked f_surveyed n78 0 a_draft a_result a_lefts a_leftSize a_ways a_rights a_rightSize z a_waiting a_built a_unfinishedStart a_unfinishedLacks a_kept a_matchStart a_matchEnd a_joint a_unified a_oneStack a_otherStack a_nestedAt a_nestedEnd a_rank a_pairCount a_firstOpen) → wX_exchangeArguments__lefts_54 post (nI s) (nI mid) (nI e) n (nI (s + 1 + A1.length)) f_drafted f_faultPlace f_reportedSteps f_resultSize (nI (B ++ A1).length) f_waitingSize f_builtSize f_unfinished f_taken f_keptSize f_stacked f_ranked f_surveyed a_draft a_result a_lefts a_leftSize a_ways a_rights a_rightSize zs a_waiting a_built a_unfinishedStart a_unfinishedLacks a_kept a_matchStart a_matchEnd a_joint a_unified a_oneStack a_otherStack a_nestedAt a_nestedEnd a_rank a_pairCount a_firstOpen
  | [], A1, zs, n, hl, hmi, ha, hz, hn, H => by
    obtain ⟨n, rfl⟩ : ∃ n', n = n' + 1 := ⟨n - 1, by omega⟩
    rw [List.append_nil] at H
    rw [List.length_nil, Nat.add_zero] at hmi
    exact pk_le mid (s + 1 + A1.length) (fun _ => H zs hz) (fun z => absurd z (by omega))
  | t :: A2, A1, zs, n, hl, hmi, ha, hz, hn, H => by
    obtain ⟨n, rfl⟩ : ∃ n', n = n' + 1 := ⟨n - 1, by omega⟩
    rw [List.length_cons] at hmi hn
    have hl2 : (B ++ A1).length + (A2.length + 1) ≤ 31 := by simp only [List.length_append, List.length_cons] at hl ⊢; omega
    refine pk_le mid (s + 1 + A1.length) (fun z => absurd z (by omega)) (fun _ => ⟨vp_in_nI (by omega) (by omega), ?_⟩)
    have et : a_lefts (nI (s + 1 + A1.length)).toNatClampNeg = t := by rw [nI_clamp (by omega)]; exact ha.1
    rw [et]
    refine xw_put (by omega) (nm_r (nI_1 _) ?_)
    have e1 : (B ++ A1).length + 1 = (B ++ (A1 ++ [t])).length := by simp only [List.length_append, List.length_singleton]; omega
    have e2 : s + 1 + A1.length + 1 = s + 1 + (A1 ++ [t]).length := by simp only [List.length_append, List.length_singleton]; omega
    have e3 : A1 ++ t :: A2 = (A1 ++ [t]) ++ A2 := by rw [List.append_assoc]; rfl
    rw [e1, e2]
    refine xx_lefts_54 hm hmid B A2 (A1 ++ [t]) _ n (by rw [← e3]; exact hl) (by rw [List.length_append, List.length_singleton]; omega) (by rw [← e2]; exact ha.2) ?_ (by omega) (by rw [← e3]; exact H)
    rw [← List.append_assoc]
    have := hd_snocL (x := t) hz
    rwa [Nat.zero_add] at this
theorem xx_lefts_28 {post : SX → Prop} {s mid e : Nat} (hm : e ≤ 3840) : ∀ (B2 B1 : List Int64) (zs : Nat → Int64) (n : Nat), (B1 ++ B2).length ≤ 31 → e = mid + B1.length + B2.length → hd_h a_lefts (mid + B1.length) B2 → hd_h zs 0 B1 → B2.length < n → (∀ z, hd_h z 0 (B1 ++ B2) → ∃ n54, wX_exchangeArguments__lefts_54 post (nI s) (nI mid) (nI e) n54 (nI (s + 1)) f_drafted f_faultPlace f_reportedSteps f_resultSize (nI (B1 ++ B2).length) f_waitingSize f_builtSize f_unfinished f_taken f_keptSize f_stacked f_ranked f_surveyed a_draft a_result a_lefts a_leftSize a_ways a_rights a_rightSize z a_waiting a_built a_unfinishedStart a_unfinishedLacks a_kept a_matchStart a_matchEnd a_joint a_unified a_oneStack a_otherStack a_nestedAt a_nestedEnd a_rank a_pairCount a_firstOpen) → wX_exchangeArguments__lefts_28 post (nI s) (nI mid) (nI e) n (nI (mid + B1.length)) f_drafted f_faultPlace f_reportedSteps f_resultSize (nI B1.length) f_waitingSize f_builtSize f_unfinished f_taken f_keptSize f_stacked f_ranked f_surveyed a_draft a_result a_lefts a_leftSize a_ways a_rights a_rightSize zs a_waiting a_built a_unfinishedStart a_unfinishedLacks a_kept a_matchStart a_matchEnd a_joint a_unified a_oneStack a_otherStack a_nestedAt a_nestedEnd a_rank a_pairCount a_firstOpen
  | [], B1, zs, n, hl, hmi, ha, hz, hn, H => by
    obtain ⟨n, rfl⟩ : ∃ n', n = n' + 1 := ⟨n - 1, by omega⟩
    rw [List.append_nil] at H
    rw [List.length_nil, Nat.add_zero] at hmi
    exact pk_le e (mid + B1.length) (fun _ => nm_r (nI_1 s) (H zs hz)) (fun z => absurd z (by omega))
  | t :: B2, B1, zs, n, hl, hmi, ha, hz, hn, H => by
    obtain ⟨n, rfl⟩ : ∃ n', n = n' + 1 := ⟨n - 1, by omega⟩
    rw [List.length_cons] at hmi hn
    have hl2 : B1.length + (B2.length + 1) ≤ 31 := by simp only [List.length_append, List.length_cons] at hl; omega
    refine pk_le e (mid + B1.length) (fun z => absurd z (by omega)) (fun _ => ⟨vp_in_nI (by omega) (by omega), ?_⟩)
    have et : a_lefts (nI (mid + B1.length)).toNatClampNeg = t := by rw [nI_clamp (by omega)]; exact ha.1
    rw [et]
    refine xw_put (by omega) (nm_r (nI_1 _) ?_)
    have e1 : B1.length + 1 = (B1 ++ [t]).length := by simp only [List.length_append, List.length_singleton]
    have e2 : mid + B1.length + 1 = mid + (B1 ++ [t]).length := by simp only [List.length_append, List.length_singleton]; omega
    have e3 : B1 ++ t :: B2 = (B1 ++ [t]) ++ B2 := by rw [List.append_assoc]; rfl
    rw [e2, e1]
    refine xx_lefts_28 hm B2 (B1 ++ [t]) _ n (by rw [← e3]; exact hl) (by rw [List.length_append, List.length_singleton]; omega) (by rw [← e2]; exact ha.2) ?_ (by omega) (by rw [← e3]; exact H)
    have := hd_snocL (x := t) hz
    rwa [Nat.zero_add] at this
theorem xx_lefts {post : SX → Prop} {A B r : List Int64} (s e : Nat) (hA : tm_w A 1) (hB : tm_w B 1) (hh : hd_h a_lefts (s + 1) (A ++ (B ++ r))) (he : e = s + 1 + (A.length + (B.length + r.length))) (hl : e ≤ 3840) (h31 : A.length + B.length ≤ 31) (H : ∀ zs zb, hd_h zb (s + 1) (B ++ A) → hd_o a_lefts zb (s + 1) (B ++ A).length → post (f_drafted, f_faultPlace, f_reportedSteps, f_resultSize, nI (B ++ A).length, f_waitingSize, f_builtSize, f_unfinished, f_taken, f_keptSize, f_stacked, f_ranked, f_surveyed, a_draft, a_result, zb, a_leftSize, a_ways, a_rights, a_rightSize, zs, a_waiting, a_built, a_unfinishedStart, a_unfinishedLacks, a_kept, a_matchStart, a_matchEnd, a_joint, a_unified, a_oneStack, a_otherStack, a_nestedAt, a_nestedEnd, a_rank, a_pairCount, a_firstOpen)) : wpX_exchangeArguments__lefts post (f_drafted, f_faultPlace, f_reportedSteps, f_resultSize, f_sheetSize, f_waitingSize, f_builtSize, f_unfinished, f_taken, f_keptSize, f_stacked, f_ranked, f_surveyed, a_draft, a_result, a_lefts, a_leftSize, a_ways, a_rights, a_rightSize, a_sheet, a_waiting, a_built, a_unfinishedStart, a_unfinishedLacks, a_kept, a_matchStart, a_matchEnd, a_joint, a_unified, a_oneStack, a_otherStack, a_nestedAt, a_nestedEnd, a_rank, a_pairCount, a_firstOpen) (nI s) (nI e) := by
  unfold wpX_exchangeArguments__lefts
  dsimp only
  rw [nI_1]
  have hBr := (hd_app.mp hh).2
  refine xe_lefts (s + 1) e (s + 1 + A.length) hA hh (by rw [List.length_append]; omega) rfl hl ?_
  refine xe_lefts (s + 1 + A.length) e (s + 1 + A.length + B.length) hB hBr (by omega) rfl hl ?_
  have hlAB : (B ++ A).length = B.length + A.length := List.length_append
  refine ⟨B.length + 1, ?_⟩
  refine xx_lefts_28 (s := s) (mid := s + 1 + A.length) (e := s + 1 + A.length + B.length) (by omega) B [] a_sheet _ (by rw [List.nil_append]; omega) rfl (hd_app.mp hBr).1 trivial (by omega) ?_
  intro z hz
  rw [List.nil_append] at hz ⊢
  refine ⟨A.length + 1, ?_⟩
  have hz' : hd_h z 0 (B ++ []) := by rw [List.append_nil]; exact hz
  rw [show nI B.length = nI (B ++ []).length by rw [List.append_nil]]
  refine xx_lefts_54 (s := s) (mid := s + 1 + A.length) (e := s + 1 + A.length + B.length) (by omega) (by omega) B A [] z (A.length + 1) (by rw [List.nil_append]; omega) rfl (hd_app.mp hh).1 hz' (by omega) ?_
  intro z2 hz2
  rw [List.nil_append] at hz2 ⊢
  refine ⟨(B ++ A).length + 1, ?_⟩
  rw [show s + 1 + A.length + B.length = s + 1 + (B ++ A).length by omega]
  exact xx_lefts_78 (post := post) (a0 := a_lefts) (q := B ++ A) (s := s) (by omega) (by omega) hz2 (fun z3 h1 h2 => H z2 z3 h1 h2) (B ++ A) [] a_lefts ((B ++ A).length + 1) rfl trivial (fun j _ => rfl) (by omega)
theorem xx_built_78 {post : SX → Prop} {a0 : Nat → Int64} {q : List Int64} {s : Nat} (hs : s + 1 + q.length ≤ 2048) (hq31 : q.length ≤ 31) (hsh : hd_h a_sheet 0 q) (H : ∀ z, hd_h z (s + 1) q → hd_o a0 z (s + 1) q.length → post (f_drafted, f_faultPlace, f_reportedSteps, f_resultSize, nI q.length, f_waitingSize, f_builtSize, f_unfinished, f_taken, f_keptSize, f_stacked, f_ranked, f_surveyed, a_draft, a_result, a_lefts, a_leftSize, a_ways, a_rights, a_rightSize, a_sheet, a_waiting, z, a_unfinishedStart, a_unfinishedLacks, a_kept, a_matchStart, a_matchEnd, a_joint, a_unified, a_oneStack, a_otherStack, a_nestedAt, a_nestedEnd, a_rank, a_pairCount, a_firstOpen)) : ∀ (q2 q1 : List Int64) (zb : Nat → Int64) (n : Nat), q = q1 ++ q2 → hd_h zb (s + 1) q1 → hd_o a0 zb (s + 1) q1.length → q2.length < n → wX_exchangeArguments__built_78 post (nI s) (nI (s + 1 + q.length)) f_drafted f_faultPlace f_reportedSteps f_resultSize (nI q.length) f_waitingSize f_builtSize f_unfinished f_taken f_keptSize f_stacked f_ranked f_surveyed n (nI q1.length) a_draft a_result a_lefts a_leftSize a_ways a_rights a_rightSize a_sheet a_waiting zb a_unfinishedStart a_unfinishedLacks a_kept a_matchStart a_matchEnd a_joint a_unified a_oneStack a_otherStack a_nestedAt a_nestedEnd a_rank a_pairCount a_firstOpen
  | [], q1, zb, n, e, h1, h2, hn => by
    obtain ⟨n, rfl⟩ : ∃ n', n = n' + 1 := ⟨n - 1, by omega⟩
    rw [List.append_nil] at e
    subst e
    exact pk_le q.length q.length (fun _ => H zb h1 h2) (fun z => absurd z (by omega))
  | t :: q2, q1, zb, n, e, h1, h2, hn => by
    obtain ⟨n, rfl⟩ : ∃ n', n = n' + 1 := ⟨n - 1, by omega⟩
    have hlen : q.length = q1.length + (q2.length + 1) := by rw [e, List.length_append]; rfl
    rw [List.length_cons] at hn
    refine pk_le q.length q1.length (fun z => absurd z (by omega)) (fun _ => ?_)
    have e1 : nI s + 1 + nI q1.length = nI (s + 1 + q1.length) := by rw [nI_1, nI_add]
    refine pk_le (s + 1 + q.length) (s + 1 + q1.length) (fun z => absurd z (by omega)) (fun _ => ?_) rfl e1
    refine ⟨vp_in_nI (by omega) (by omega), ?_, ?_⟩
    · rw [e1]; exact vp_in_nI (by omega) (by omega)
    · have et : a_sheet q1.length = t := by
        have hh := hsh
        rw [e] at hh
        have := (hd_app.mp hh).2.1
        rwa [Nat.zero_add] at this
      refine nm_r (e' := vp_updL zb (s + 1 + q1.length) t) (by rw [e1, nI_clamp (by omega), nI_clamp (by omega), et]) (nm_r (e' := nI (q1 ++ [t]).length) (by rw [List.length_append]; exact nI_1 _) ?_)
      refine xx_built_78 hs hq31 hsh H q2 (q1 ++ [t]) _ n (by rw [e, List.append_assoc]; rfl) (hd_snocL h1) ?_ (by omega)
      intro j hj
      rw [List.length_append, List.length_singleton] at hj
      rw [pk_uLn (by omega)]
      exact h2 j (by omega)
theorem xx_built_54 {post : SX → Prop} {s mid e : Nat} (hm : e ≤ 2048) (hmid : mid ≤ e) (B : List Int64) : ∀ (A2 A1 : List Int64) (zs : Nat → Int64) (n : Nat), (B ++ (A1 ++ A2)).length ≤ 31 → mid = s + 1 + A1.length + A2.length → hd_h a_built (s + 1 + A1.length) A2 → hd_h zs 0 (B ++ A1) → A2.length < n → (∀ z, hd_h z 0 (B ++ (A1 ++ A2)) → ∃ n78, wX_exchangeArguments__built_78 post (nI s) (nI e) f_drafted f_faultPlace f_reportedSteps f_resultSize (nI (B ++ (A1 ++ A2)).length) f_waitingSize f_builtSize f_unfinished f_taken f_keptSize f_stacked f_ranked f_surveyed n78 0 a_draft a_result a_lefts a_leftSize a_ways a_rights a_rightSize z a_waiting a_built a_unfinishedStart a_unfinishedLacks a_kept a_matchStart a_matchEnd a_joint a_unified a_oneStack a_otherStack a_nestedAt a_nestedEnd a_rank a_pairCount a_firstOpen) → wX_exchangeArguments__built_54 post (nI s) (nI mid) (nI e) n (nI (s + 1 + A1.length)) f_drafted f_faultPlace f_reportedSteps f_resultSize (nI (B ++ A1).length) f_waitingSize f_builtSize f_unfinished f_taken f_keptSize f_stacked f_ranked f_surveyed a_draft a_result a_lefts a_leftSize a_ways a_rights a_rightSize zs a_waiting a_built a_unfinishedStart a_unfinishedLacks a_kept a_matchStart a_matchEnd a_joint a_unified a_oneStack a_otherStack a_nestedAt a_nestedEnd a_rank a_pairCount a_firstOpen
  | [], A1, zs, n, hl, hmi, ha, hz, hn, H => by
    obtain ⟨n, rfl⟩ : ∃ n', n = n' + 1 := ⟨n - 1, by omega⟩
    rw [List.append_nil] at H
    rw [List.length_nil, Nat.add_zero] at hmi
    exact pk_le mid (s + 1 + A1.length) (fun _ => H zs hz) (fun z => absurd z (by omega))
  | t :: A2, A1, zs, n, hl, hmi, ha, hz, hn, H => by
    obtain ⟨n, rfl⟩ : ∃ n', n = n' + 1 := ⟨n - 1, by omega⟩
    rw [List.length_cons] at hmi hn
    have hl2 : (B ++ A1).length + (A2.length + 1) ≤ 31 := by simp only [List.length_append, List.length_cons] at hl ⊢; omega
    refine pk_le mid (s + 1 + A1.length) (fun z => absurd z (by omega)) (fun _ => ⟨vp_in_nI (by omega) (by omega), ?_⟩)
    have et : a_built (nI (s + 1 + A1.length)).toNatClampNeg = t := by rw [nI_clamp (by omega)]; exact ha.1
    rw [et]
    refine xw_put (by omega) (nm_r (nI_1 _) ?_)
    have e1 : (B ++ A1).length + 1 = (B ++ (A1 ++ [t])).length := by simp only [List.length_append, List.length_singleton]; omega
    have e2 : s + 1 + A1.length + 1 = s + 1 + (A1 ++ [t]).length := by simp only [List.length_append, List.length_singleton]; omega
    have e3 : A1 ++ t :: A2 = (A1 ++ [t]) ++ A2 := by rw [List.append_assoc]; rfl
    rw [e1, e2]
    refine xx_built_54 hm hmid B A2 (A1 ++ [t]) _ n (by rw [← e3]; exact hl) (by rw [List.length_append, List.length_singleton]; omega) (by rw [← e2]; exact ha.2) ?_ (by omega) (by rw [← e3]; exact H)
    rw [← List.append_assoc]
    have := hd_snocL (x := t) hz
    rwa [Nat.zero_add] at this
theorem xx_built_28 {post : SX → Prop} {s mid e : Nat} (hm : e ≤ 2048) : ∀ (B2 B1 : List Int64) (zs : Nat → Int64) (n : Nat), (B1 ++ B2).length ≤ 31 → e = mid + B1.length + B2.length → hd_h a_built (mid + B1.length) B2 → hd_h zs 0 B1 → B2.length < n → (∀ z, hd_h z 0 (B1 ++ B2) → ∃ n54, wX_exchangeArguments__built_54 post (nI s) (nI mid) (nI e) n54 (nI (s + 1)) f_drafted f_faultPlace f_reportedSteps f_resultSize (nI (B1 ++ B2).length) f_waitingSize f_builtSize f_unfinished f_taken f_keptSize f_stacked f_ranked f_surveyed a_draft a_result a_lefts a_leftSize a_ways a_rights a_rightSize z a_waiting a_built a_unfinishedStart a_unfinishedLacks a_kept a_matchStart a_matchEnd a_joint a_unified a_oneStack a_otherStack a_nestedAt a_nestedEnd a_rank a_pairCount a_firstOpen) → wX_exchangeArguments__built_28 post (nI s) (nI mid) (nI e) n (nI (mid + B1.length)) f_drafted f_faultPlace f_reportedSteps f_resultSize (nI B1.length) f_waitingSize f_builtSize f_unfinished f_taken f_keptSize f_stacked f_ranked f_surveyed a_draft a_result a_lefts a_leftSize a_ways a_rights a_rightSize zs a_waiting a_built a_unfinishedStart a_unfinishedLacks a_kept a_matchStart a_matchEnd a_joint a_unified a_oneStack a_otherStack a_nestedAt a_nestedEnd a_rank a_pairCount a_firstOpen
  | [], B1, zs, n, hl, hmi, ha, hz, hn, H => by
    obtain ⟨n, rfl⟩ : ∃ n', n = n' + 1 := ⟨n - 1, by omega⟩
    rw [List.append_nil] at H
    rw [List.length_nil, Nat.add_zero] at hmi
    exact pk_le e (mid + B1.length) (fun _ => nm_r (nI_1 s) (H zs hz)) (fun z => absurd z (by omega))
  | t :: B2, B1, zs, n, hl, hmi, ha, hz, hn, H => by
    obtain ⟨n, rfl⟩ : ∃ n', n = n' + 1 := ⟨n - 1, by omega⟩
    rw [List.length_cons] at hmi hn
    have hl2 : B1.length + (B2.length + 1) ≤ 31 := by simp only [List.length_append, List.length_cons] at hl; omega
    refine pk_le e (mid + B1.length) (fun z => absurd z (by omega)) (fun _ => ⟨vp_in_nI (by omega) (by omega), ?_⟩)
    have et : a_built (nI (mid + B1.length)).toNatClampNeg = t := by rw [nI_clamp (by omega)]; exact ha.1
    rw [et]
    refine xw_put (by omega) (nm_r (nI_1 _) ?_)
    have e1 : B1.length + 1 = (B1 ++ [t]).length := by simp only [List.length_append, List.length_singleton]
    have e2 : mid + B1.length + 1 = mid + (B1 ++ [t]).length := by simp only [List.length_append, List.length_singleton]; omega
    have e3 : B1 ++ t :: B2 = (B1 ++ [t]) ++ B2 := by rw [List.append_assoc]; rfl
    rw [e2, e1]
    refine xx_built_28 hm B2 (B1 ++ [t]) _ n (by rw [← e3]; exact hl) (by rw [List.length_append, List.length_singleton]; omega) (by rw [← e2]; exact ha.2) ?_ (by omega) (by rw [← e3]; exact H)
    have := hd_snocL (x := t) hz
    rwa [Nat.zero_add] at this
theorem xx_built {post : SX → Prop} {A B r : List Int64} (s e : Nat) (hA : tm_w A 1) (hB : tm_w B 1) (hh : hd_h a_built (s + 1) (A ++ (B ++ r))) (he : e = s + 1 + (A.length + (B.length + r.length))) (hl : e ≤ 2048) (h31 : A.length + B.length ≤ 31) (H : ∀ zs zb, hd_h zb (s + 1) (B ++ A) → hd_o a_built zb (s + 1) (B ++ A).length → post (f_drafted, f_faultPlace, f_reportedSteps, f_resultSize, nI (B ++ A).length, f_waitingSize, f_builtSize, f_unfinished, f_taken, f_keptSize, f_stacked, f_ranked, f_surveyed, a_draft, a_result, a_lefts, a_leftSize, a_ways, a_rights, a_rightSize, zs, a_waiting, zb, a_unfinishedStart, a_unfinishedLacks, a_kept, a_matchStart, a_matchEnd, a_joint, a_unified, a_oneStack, a_otherStack, a_nestedAt, a_nestedEnd, a_rank, a_pairCount, a_firstOpen)) : wpX_exchangeArguments__built post (f_drafted, f_faultPlace, f_reportedSteps, f_resultSize, f_sheetSize, f_waitingSize, f_builtSize, f_unfinished, f_taken, f_keptSize, f_stacked, f_ranked, f_surveyed, a_draft, a_result, a_lefts, a_leftSize, a_ways, a_rights, a_rightSize, a_sheet, a_waiting, a_built, a_unfinishedStart, a_unfinishedLacks, a_kept, a_matchStart, a_matchEnd, a_joint, a_unified, a_oneStack, a_otherStack, a_nestedAt, a_nestedEnd, a_rank, a_pairCount, a_firstOpen) (nI s) (nI e) := by
  unfold wpX_exchangeArguments__built
  dsimp only
  rw [nI_1]
  have hBr := (hd_app.mp hh).2
  refine xe_built (s + 1) e (s + 1 + A.length) hA hh (by rw [List.length_append]; omega) rfl hl ?_
  refine xe_built (s + 1 + A.length) e (s + 1 + A.length + B.length) hB hBr (by omega) rfl hl ?_
  have hlAB : (B ++ A).length = B.length + A.length := List.length_append
  refine ⟨B.length + 1, ?_⟩
  refine xx_built_28 (s := s) (mid := s + 1 + A.length) (e := s + 1 + A.length + B.length) (by omega) B [] a_sheet _ (by rw [List.nil_append]; omega) rfl (hd_app.mp hBr).1 trivial (by omega) ?_
  intro z hz
  rw [List.nil_append] at hz ⊢
  refine ⟨A.length + 1, ?_⟩
  have hz' : hd_h z 0 (B ++ []) := by rw [List.append_nil]; exact hz
  rw [show nI B.length = nI (B ++ []).length by rw [List.append_nil]]
  refine xx_built_54 (s := s) (mid := s + 1 + A.length) (e := s + 1 + A.length + B.length) (by omega) (by omega) B A [] z (A.length + 1) (by rw [List.nil_append]; omega) rfl (hd_app.mp hh).1 hz' (by omega) ?_
  intro z2 hz2
  rw [List.nil_append] at hz2 ⊢
  refine ⟨(B ++ A).length + 1, ?_⟩
  rw [show s + 1 + A.length + B.length = s + 1 + (B ++ A).length by omega]
  exact xx_built_78 (post := post) (a0 := a_built) (q := B ++ A) (s := s) (by omega) (by omega) hz2 (fun z3 h1 h2 => H z2 z3 h1 h2) (B ++ A) [] a_built ((B ++ A).length + 1) rfl trivial (fun j _ => rfl) (by omega)
end
end
section
/-! the component: the order, arithmetic, the stacks of the normal form -/
theorem mc_cb_app (x : List Int64) : ∀ (a b : List Int64) (m : Nat), tm_w a m → tm_w b m → mc_cb b (a ++ x) = mc_cb b a
  | [], b, m, ha, hb => by
    rw [tm_w_nil] at ha
    subst ha
    rw [tm_w_0 hb]
    simp [mc_cb]
  | y :: a, [], m, ha, hb => by simp [mc_cb]
  | y :: a, z :: b, m, ha, hb => by
    obtain ⟨k, rfl, h1⟩ := tm_w_ne ha
    have h2 := tm_w_cons.mp hb
    rw [List.cons_append]
    by_cases h : z = y
    · subst h
      rw [mc_cb_eq, mc_cb_eq]
      exact mc_cb_app x a b _ h1 h2
    · rw [mc_cb_ne h, mc_cb_ne h]
theorem mc_or_AB {A B : List Int64} (hA : tm_w A 1) (hB : tm_w B 1) : mc_or (9 :: (A ++ B)) = if mc_cb B A = true then 9 :: (B ++ A) else 9 :: (A ++ B) := by
  rw [mc_or_9, tm_n_app A B 1 hA, List.drop_left, List.take_left]
  have := tm_sw_eq (r := []) hA hB
  rw [List.append_nil, List.append_nil] at this
  rw [this]
section
variable {f_drafted f_faultPlace f_reportedSteps f_resultSize f_sheetSize f_waitingSize f_builtSize f_unfinished f_taken f_keptSize f_stacked f_ranked f_surveyed : Int32} {a_draft a_result a_lefts a_rights a_sheet a_waiting a_built a_kept a_joint : Nat → Int64} {a_leftSize a_ways a_rightSize a_unfinishedStart a_unfinishedLacks a_matchStart a_matchEnd a_unified a_oneStack a_otherStack a_nestedAt a_nestedEnd a_rank a_pairCount a_firstOpen : Nat → Int32}
theorem xc_l {post : Int32 → Prop} {one other B : Nat} (hB : B ≤ 2048) : ∀ (sa sb : List Int64) (k n : Nat), one + k + sa.length = B → other + k + sb.length = B → hd_h a_built (one + k) sa → hd_h a_built (other + k) sb → sa.length < n → post (if mc_cb sa sb = true then 1 else 0) → wX_comesBefore_2 post (nI one) (nI other) f_drafted f_faultPlace f_reportedSteps f_resultSize f_sheetSize f_waitingSize (nI B) f_unfinished f_taken f_keptSize f_stacked f_ranked f_surveyed a_draft a_result a_lefts a_leftSize a_ways a_rights a_rightSize a_sheet a_waiting a_built a_unfinishedStart a_unfinishedLacks a_kept a_matchStart a_matchEnd a_joint a_unified a_oneStack a_otherStack a_nestedAt a_nestedEnd a_rank a_pairCount a_firstOpen n (nI k)
  | [], sb, k, n, h1, h2, h3, h4, hn, hp => by
    obtain ⟨n, rfl⟩ : ∃ n', n = n' + 1 := ⟨n - 1, by omega⟩
    rw [List.length_nil] at h1
    exact pk_le B (one + k) (fun _ => by simpa [mc_cb] using hp) (fun z => absurd z (by omega)) rfl (nI_add _ _)
  | x :: sa, [], k, n, h1, h2, h3, h4, hn, hp => by
    obtain ⟨n, rfl⟩ : ∃ n', n = n' + 1 := ⟨n - 1, by omega⟩
    rw [List.length_nil] at h2
    rw [List.length_cons] at h1
    refine pk_le B (one + k) (fun z => absurd z (by omega)) (fun _ => ?_) rfl (nI_add _ _)
    exact pk_le B (other + k) (fun _ => by simpa [mc_cb] using hp) (fun z => absurd z (by omega)) rfl (nI_add _ _)
  | x :: sa, y :: sb, k, n, h1, h2, h3, h4, hn, hp => by
    obtain ⟨n, rfl⟩ : ∃ n', n = n' + 1 := ⟨n - 1, by omega⟩
    rw [List.length_cons] at h1 h2 hn
    refine pk_le B (one + k) (fun z => absurd z (by omega)) (fun _ => ?_) rfl (nI_add _ _)
    refine pk_le B (other + k) (fun z => absurd z (by omega)) (fun _ => ?_) rfl (nI_add _ _)
    have e1 : a_built (nI one + nI k).toNatClampNeg = x := by rw [nI_add, nI_clamp (by omega)]; exact h3.1
    have e2 : a_built (nI other + nI k).toNatClampNeg = y := by rw [nI_add, nI_clamp (by omega)]; exact h4.1
    have i1 : vp_in (nI one + nI k) 2048 := by rw [nI_add]; exact vp_in_nI (by omega) (by omega)
    have i2 : vp_in (nI other + nI k) 2048 := by rw [nI_add]; exact vp_in_nI (by omega) (by omega)
    refine ⟨i1, i2, ?_⟩
    rw [e1, e2]
    by_cases h : x = y
    · subst h
      rw [mc_cb_eq] at hp
      exact br_t rfl (nm_r (nI_1 k) (xc_l hB sa sb (k + 1) n (by omega) (by omega) h3.2 h4.2 (by omega) hp))
    · rw [mc_cb_ne h] at hp
      refine br_f h ⟨i1, tk_keyX x ⟨i2, tk_keyX y ?_⟩⟩
      by_cases hl : tk_key x < tk_key y
      · rw [if_pos (decide_eq_true hl)] at hp
        exact br_f (Int64.not_le.mpr hl) hp
      · rw [if_neg (by simpa using Int64.not_lt.mp hl)] at hp
        exact br_t (Int64.not_lt.mp hl) hp
theorem xc_ord {post : SX → Prop} {s : List Int64} (st B : Nat) (hs : tm_w s 1) (h30 : s.length ≤ 30) (hh : hd_h a_built st s) (hB : B = st + s.length) (hl : B ≤ 2048) (H : ∀ ss zs zb, hd_h zb st (mc_or s) → hd_o a_built zb st s.length → post (f_drafted, f_faultPlace, f_reportedSteps, f_resultSize, ss, f_waitingSize, nI B, f_unfinished, f_taken, f_keptSize, f_stacked, f_ranked, f_surveyed, a_draft, a_result, a_lefts, a_leftSize, a_ways, a_rights, a_rightSize, zs, a_waiting, zb, a_unfinishedStart, a_unfinishedLacks, a_kept, a_matchStart, a_matchEnd, a_joint, a_unified, a_oneStack, a_otherStack, a_nestedAt, a_nestedEnd, a_rank, a_pairCount, a_firstOpen)) : wpX_orderArguments post (f_drafted, f_faultPlace, f_reportedSteps, f_resultSize, f_sheetSize, f_waitingSize, nI B, f_unfinished, f_taken, f_keptSize, f_stacked, f_ranked, f_surveyed, a_draft, a_result, a_lefts, a_leftSize, a_ways, a_rights, a_rightSize, a_sheet, a_waiting, a_built, a_unfinishedStart, a_unfinishedLacks, a_kept, a_matchStart, a_matchEnd, a_joint, a_unified, a_oneStack, a_otherStack, a_nestedAt, a_nestedEnd, a_rank, a_pairCount, a_firstOpen) (nI st) := by
  obtain ⟨t, r, rfl, hr⟩ := tm_w_pos hs
  rw [List.length_cons] at hB h30
  have et : a_built (nI st).toNatClampNeg = t := by rw [nI_clamp (by omega)]; exact hh.1
  refine ⟨vp_in_nI (by omega) (by omega), ?_⟩
  rw [et]
  by_cases h9 : t = 9
  · subst h9
    refine br_t rfl ?_
    rw [ru_ar9] at hr
    obtain ⟨A, Bb, r', e, hA, hBb, hr'⟩ := tm_2 (m := 0) hr
    have := tm_w_0 hr'
    subst this
    rw [List.append_nil] at e
    subst e
    rw [List.length_append] at hB h30
    have hhr : hd_h a_built (st + 1) (A ++ Bb) := hh.2
    rw [nI_1]
    refine xe_built (st + 1) B (st + 1 + A.length) hA hhr (by omega) rfl hl ?_
    refine ⟨Bb.length + 1, ?_⟩
    rw [← nI_0]
    refine xc_l (B := B) hl Bb (A ++ Bb) 0 _ (by omega) (by rw [List.length_append]; omega) (hd_app.mp hhr).2 hhr (by omega) ?_
    rw [mc_cb_app Bb A Bb 1 hA hBb]
    rw [mc_or_AB hA hBb] at H
    by_cases hc : mc_cb Bb A = true
    · rw [if_pos hc] at H ⊢
      refine br_f (by decide) ?_
      refine xx_built (r := []) st B hA hBb (by rw [List.append_nil]; exact hhr) (by rw [List.length_nil]; omega) hl (by omega) ?_
      intro zs zb h1 h2
      refine H _ zs zb ⟨?_, h1⟩ ?_
      · rw [h2 st (Or.inl (by omega))]; exact hh.1
      · intro j hj
        rw [List.length_cons, List.length_append] at hj
        exact h2 j (by rw [List.length_append]; omega)
    · rw [if_neg hc] at H ⊢
      exact br_t (by decide) (H _ _ _ hh (fun j _ => rfl))
  · refine br_f h9 (H _ _ _ ?_ (fun j _ => rfl))
    rw [mc_or_n h9]
    exact hh
theorem xc_ari {post : Int32 → Prop} {s : List Int64} (st B : Nat) (hs : s ≠ []) (hP : ∀ x, x ∈ s → tk_t x) (hh : hd_h a_built st s) (hB : B = st + s.length) (hl : B ≤ 2048) (h1 : ∀ v, mc_ar s = some v → post 1) (h0 : mc_ar s = none → post 0) : wpX_isArithmetic post (f_drafted, f_faultPlace, f_reportedSteps, f_resultSize, f_sheetSize, f_waitingSize, nI B, f_unfinished, f_taken, f_keptSize, f_stacked, f_ranked, f_surveyed, a_draft, a_result, a_lefts, a_leftSize, a_ways, a_rights, a_rightSize, a_sheet, a_waiting, a_built, a_unfinishedStart, a_unfinishedLacks, a_kept, a_matchStart, a_matchEnd, a_joint, a_unified, a_oneStack, a_otherStack, a_nestedAt, a_nestedEnd, a_rank, a_pairCount, a_firstOpen) (nI st) := by
  cases s with
  | nil => exact absurd rfl hs
  | cons t r =>
    rw [List.length_cons] at hB
    have et : a_built (nI st).toNatClampNeg = t := by rw [nI_clamp (by omega)]; exact hh.1
    have hin : vp_in (nI st) 2048 := vp_in_nI (by omega) (by omega)
    have key : (t = 10 ∨ t = 11) → wX_isArithmetic_26 post (nI st) f_drafted f_faultPlace f_reportedSteps f_resultSize f_sheetSize f_waitingSize (nI B) f_unfinished f_taken f_keptSize f_stacked f_ranked f_surveyed a_draft a_result a_lefts a_leftSize a_ways a_rights a_rightSize a_sheet a_waiting a_built a_unfinishedStart a_unfinishedLacks a_kept a_matchStart a_matchEnd a_joint a_unified a_oneStack a_otherStack a_nestedAt a_nestedEnd a_rank a_pairCount a_firstOpen := by
      intro ht
      have e3 : nI st + 3 = nI (st + 3) := nI_add st 3
      have e1 : nI st + 1 = nI (st + 1) := nI_1 st
      have e2 : nI st + 2 = nI (st + 2) := nI_add st 2
      refine pk_eq B (st + 3) (fun hb => ?_) (fun hb => ?_) rfl e3
      · have hr : r.length = 2 := by omega
        match r, hr with
        | [x, y], _ =>
          have ex : a_built (nI st + 1).toNatClampNeg = x := by rw [e1, nI_clamp (by omega)]; exact hh.2.1
          have ey : a_built (nI st + 2).toNatClampNeg = y := by rw [e2, nI_clamp (by omega)]; exact hh.2.2.1
          have hx := tk_N_X (hP x (by simp))
          have hy := tk_N_X (hP y (by simp))
          refine ⟨by rw [e1]; exact vp_in_nI (by omega) (by omega), ?_⟩
          rw [ex]
          by_cases nx : tk_N x
          · refine br_t (hx.mpr nx) ⟨by rw [e2]; exact vp_in_nI (by omega) (by omega), ?_⟩
            rw [ey]
            by_cases ny : tk_N y
            · exact br_t (hy.mpr ny) (h1 _ (by rw [mc_ar, if_pos ⟨ht, nx, ny⟩]))
            · exact br_f (fun z => ny (hy.mp z)) (h0 (by rw [mc_ar, if_neg (fun z => ny z.2.2)]))
          · exact br_f (fun z => nx (hx.mp z)) (h0 (by rw [mc_ar, if_neg (fun z => nx z.2.1)]))
      · refine h0 ?_
        unfold mc_ar
        split
        · rename_i o x y e
          injection e with e1 e2
          rw [e2] at hB
          simp at hB
          omega
        · rfl
    refine ⟨hin, ?_⟩
    rw [et]
    by_cases h10 : t = 10
    · exact br_t h10 (key (Or.inl h10))
    · refine br_f h10 ⟨hin, ?_⟩
      by_cases h11 : t = 11
      · exact br_t h11 (key (Or.inr h11))
      · refine br_f h11 (h0 ?_)
        unfold mc_ar
        split
        · rename_i o x y e
          injection e with e1 e2
          rw [if_neg]
          rw [← e1]
          rintro ⟨z | z, _⟩
          · exact h10 z
          · exact h11 z
        · rfl
theorem xc_cal {post : SX → Prop} {s : List Int64} {v : Int64} (st : Nat) (hh : hd_h a_built st s) (hl : st + 3 ≤ 2048) (hv : mc_ar s = some v) (H : post (f_drafted, f_faultPlace, f_reportedSteps, f_resultSize, f_sheetSize, f_waitingSize, nI (st + 1), f_unfinished, f_taken, f_keptSize, f_stacked, f_ranked, f_surveyed, a_draft, a_result, a_lefts, a_leftSize, a_ways, a_rights, a_rightSize, a_sheet, a_waiting, vp_updL a_built st v, a_unfinishedStart, a_unfinishedLacks, a_kept, a_matchStart, a_matchEnd, a_joint, a_unified, a_oneStack, a_otherStack, a_nestedAt, a_nestedEnd, a_rank, a_pairCount, a_firstOpen)) : wpX_calculate post (f_drafted, f_faultPlace, f_reportedSteps, f_resultSize, f_sheetSize, f_waitingSize, f_builtSize, f_unfinished, f_taken, f_keptSize, f_stacked, f_ranked, f_surveyed, a_draft, a_result, a_lefts, a_leftSize, a_ways, a_rights, a_rightSize, a_sheet, a_waiting, a_built, a_unfinishedStart, a_unfinishedLacks, a_kept, a_matchStart, a_matchEnd, a_joint, a_unified, a_oneStack, a_otherStack, a_nestedAt, a_nestedEnd, a_rank, a_pairCount, a_firstOpen) (nI st) := by
  unfold mc_ar at hv
  split at hv
  · rename_i o x y
    split at hv
    · rename_i hc
      cases hv
      have e1 : nI st + 1 = nI (st + 1) := nI_1 st
      have e2 : nI st + 2 = nI (st + 2) := nI_add st 2
      have eo : a_built (nI st).toNatClampNeg = o := by rw [nI_clamp (by omega)]; exact hh.1
      have ex : a_built (nI st + 1).toNatClampNeg = x := by rw [e1, nI_clamp (by omega)]; exact hh.2.1
      have ey : a_built (nI st + 2).toNatClampNeg = y := by rw [e2, nI_clamp (by omega)]; exact hh.2.2.1
      have hin : vp_in (nI st) 2048 := vp_in_nI (by omega) (by omega)
      refine ⟨by rw [e1]; exact vp_in_nI (by omega) (by omega), nm_r (e' := x.toInt32) (by rw [ex]) ⟨by rw [e2]; exact vp_in_nI (by omega) (by omega), nm_r (e' := y.toInt32) (by rw [ey]) ⟨hin, ?_⟩⟩⟩
      rw [eo]
      have fin : ∀ z : Int32, post (f_drafted, f_faultPlace, f_reportedSteps, f_resultSize, f_sheetSize, f_waitingSize, nI (st + 1), f_unfinished, f_taken, f_keptSize, f_stacked, f_ranked, f_surveyed, a_draft, a_result, a_lefts, a_leftSize, a_ways, a_rights, a_rightSize, a_sheet, a_waiting, vp_updL a_built st (4294967296 + (z.toInt64 &&& 4294967295)), a_unfinishedStart, a_unfinishedLacks, a_kept, a_matchStart, a_matchEnd, a_joint, a_unified, a_oneStack, a_otherStack, a_nestedAt, a_nestedEnd, a_rank, a_pairCount, a_firstOpen) → wX_calculate_42 post (nI st) z f_drafted f_faultPlace f_reportedSteps f_resultSize f_sheetSize f_waitingSize f_builtSize f_unfinished f_taken f_keptSize f_stacked f_ranked f_surveyed a_draft a_result a_lefts a_leftSize a_ways a_rights a_rightSize a_sheet a_waiting a_built a_unfinishedStart a_unfinishedLacks a_kept a_matchStart a_matchEnd a_joint a_unified a_oneStack a_otherStack a_nestedAt a_nestedEnd a_rank a_pairCount a_firstOpen := fun z hz =>
        ⟨hin, nm_r (e' := vp_updL a_built st (4294967296 + (z.toInt64 &&& 4294967295))) (by rw [nI_clamp (by omega)]) (nm_r e1 hz)⟩
      by_cases ho : o = 10
      · rw [if_pos ho] at H
        exact br_t ho (fin _ H)
      · rw [if_neg ho] at H
        exact br_f ho (fin _ H)
    · exact absurd hv (by simp)
  · exact absurd hv (by simp)
theorem xc_read {post : SX → Prop} {c : Int64} {W : List Int64} (B k w : Nat) (hw : w = W.length + 1) (hW : hd_h a_waiting 0 (c :: W).reverse) (hl : w ≤ 2048) (hB : B < 2048) (hk : k < 2048) (H : post (f_drafted, f_faultPlace, f_reportedSteps, f_resultSize, f_sheetSize, nI W.length, nI (B + 1), nI (k + 1), f_taken, f_keptSize, f_stacked, f_ranked, f_surveyed, a_draft, a_result, a_lefts, a_leftSize, a_ways, a_rights, a_rightSize, a_sheet, a_waiting, vp_updL a_built B c, upd a_unfinishedStart k (nI B), upd a_unfinishedLacks k (nI (tm_ar c)), a_kept, a_matchStart, a_matchEnd, a_joint, a_unified, a_oneStack, a_otherStack, a_nestedAt, a_nestedEnd, a_rank, a_pairCount, a_firstOpen)) : wpX_readToken post (f_drafted, f_faultPlace, f_reportedSteps, f_resultSize, f_sheetSize, nI w, nI B, nI k, f_taken, f_keptSize, f_stacked, f_ranked, f_surveyed, a_draft, a_result, a_lefts, a_leftSize, a_ways, a_rights, a_rightSize, a_sheet, a_waiting, a_built, a_unfinishedStart, a_unfinishedLacks, a_kept, a_matchStart, a_matchEnd, a_joint, a_unified, a_oneStack, a_otherStack, a_nestedAt, a_nestedEnd, a_rank, a_pairCount, a_firstOpen) := by
  subst hw
  refine pk_eq (W.length + 1) 0 (fun z => absurd z (by omega)) (fun _ => ?_)
  refine pk_le 2048 B (fun z => absurd z (by omega)) (fun _ => ?_)
  refine pk_lt k 2048 (fun _ => ?_) (fun z => absurd z (by omega))
  refine nm_r (nI_pred _) ⟨vp_in_nI (by omega) (by omega), nm_r (e' := c) ?_ ⟨vp_in_nI (by omega) (by omega), ?_⟩⟩
  · rw [nI_clamp (by omega)]
    rw [List.reverse_cons] at hW
    have := (hd_app.mp hW).2.1
    rwa [Nat.zero_add, List.length_reverse] at this
  · refine nm_r (e' := upd a_unfinishedStart k (nI B)) (by rw [nI_clamp (by omega)]) (tk_arX c ⟨vp_in_nI (by omega) (by omega), ?_⟩)
    refine nm_r (e' := upd a_unfinishedLacks k (nI (tm_ar c))) (by rw [nI_clamp (by omega)]) (nm_r (nI_1 k) ⟨vp_in_nI (by omega) (by omega), ?_⟩)
    exact nm_r (e' := vp_updL a_built B c) (by rw [nI_clamp (by omega)]) (nm_r (nI_1 B) H)
theorem xc_fin0 {post : SX → Prop} (H : post (f_drafted, f_faultPlace, f_reportedSteps, f_resultSize, f_sheetSize, f_waitingSize, f_builtSize, nI 0, f_taken, f_keptSize, f_stacked, f_ranked, f_surveyed, a_draft, a_result, a_lefts, a_leftSize, a_ways, a_rights, a_rightSize, a_sheet, a_waiting, a_built, a_unfinishedStart, a_unfinishedLacks, a_kept, a_matchStart, a_matchEnd, a_joint, a_unified, a_oneStack, a_otherStack, a_nestedAt, a_nestedEnd, a_rank, a_pairCount, a_firstOpen)) : wpX_finishTerm post (f_drafted, f_faultPlace, f_reportedSteps, f_resultSize, f_sheetSize, f_waitingSize, f_builtSize, nI 1, f_taken, f_keptSize, f_stacked, f_ranked, f_surveyed, a_draft, a_result, a_lefts, a_leftSize, a_ways, a_rights, a_rightSize, a_sheet, a_waiting, a_built, a_unfinishedStart, a_unfinishedLacks, a_kept, a_matchStart, a_matchEnd, a_joint, a_unified, a_oneStack, a_otherStack, a_nestedAt, a_nestedEnd, a_rank, a_pairCount, a_firstOpen) :=
  nm_r (e' := nI 0) (nI_pred 0) (br_t (by decide) H)
theorem xc_fin1 {post : SX → Prop} {k j : Nat} (hk : k < 2047) (hj : a_unfinishedLacks k = nI (j + 1)) (H : post (f_drafted, f_faultPlace, f_reportedSteps, f_resultSize, f_sheetSize, f_waitingSize, f_builtSize, nI (k + 1), f_taken, f_keptSize, f_stacked, f_ranked, f_surveyed, a_draft, a_result, a_lefts, a_leftSize, a_ways, a_rights, a_rightSize, a_sheet, a_waiting, a_built, a_unfinishedStart, upd a_unfinishedLacks k (nI j), a_kept, a_matchStart, a_matchEnd, a_joint, a_unified, a_oneStack, a_otherStack, a_nestedAt, a_nestedEnd, a_rank, a_pairCount, a_firstOpen)) : wpX_finishTerm post (f_drafted, f_faultPlace, f_reportedSteps, f_resultSize, f_sheetSize, f_waitingSize, f_builtSize, nI (k + 2), f_taken, f_keptSize, f_stacked, f_ranked, f_surveyed, a_draft, a_result, a_lefts, a_leftSize, a_ways, a_rights, a_rightSize, a_sheet, a_waiting, a_built, a_unfinishedStart, a_unfinishedLacks, a_kept, a_matchStart, a_matchEnd, a_joint, a_unified, a_oneStack, a_otherStack, a_nestedAt, a_nestedEnd, a_rank, a_pairCount, a_firstOpen) := by
  refine nm_r (e' := nI (k + 1)) (nI_pred (k + 1)) (pk_le (k + 1) 0 (fun z => absurd z (by omega)) (fun _ => ?_))
  have e : nI (k + 1) - 1 = nI k := nI_pred k
  have hin : vp_in (nI (k + 1) - 1) 2048 := by rw [e]; exact vp_in_nI (by omega) (by omega)
  refine ⟨hin, hin, nm_r (e' := upd a_unfinishedLacks k (nI j)) ?_ H⟩
  rw [e, nI_clamp (by omega), hj, nI_pred]
theorem xc_line_l {post : SX → Prop} {q : List Int64} (hq : hd_h a_sheet 0 q) (hq31 : q.length ≤ 31) (W : List Int64) (hl : q.length + W.length ≤ 2048) (H : ∀ z, hd_h z 0 (q ++ W).reverse → post (f_drafted, f_faultPlace, f_reportedSteps, f_resultSize, f_sheetSize, nI (q.length + W.length), f_builtSize, f_unfinished, f_taken, f_keptSize, f_stacked, f_ranked, f_surveyed, a_draft, a_result, a_lefts, a_leftSize, a_ways, a_rights, a_rightSize, a_sheet, z, a_built, a_unfinishedStart, a_unfinishedLacks, a_kept, a_matchStart, a_matchEnd, a_joint, a_unified, a_oneStack, a_otherStack, a_nestedAt, a_nestedEnd, a_rank, a_pairCount, a_firstOpen)) : ∀ (p q2 : List Int64) (zw : Nat → Int64) (n w : Nat) (x1 : Int32), q = p.reverse ++ q2 → w = q2.length + W.length → x1 = nI p.length + (-1) → hd_h zw 0 (q2 ++ W).reverse → p.length < n → wX_putSheetInLine_7 post f_drafted f_faultPlace f_reportedSteps f_resultSize f_sheetSize f_builtSize f_unfinished f_taken f_keptSize f_stacked f_ranked f_surveyed n x1 (nI w) a_draft a_result a_lefts a_leftSize a_ways a_rights a_rightSize a_sheet zw a_built a_unfinishedStart a_unfinishedLacks a_kept a_matchStart a_matchEnd a_joint a_unified a_oneStack a_otherStack a_nestedAt a_nestedEnd a_rank a_pairCount a_firstOpen
  | [], q2, zw, n, w, x1, e, ew, hx, hz, hn => by
    obtain ⟨n, rfl⟩ : ∃ n', n = n' + 1 := ⟨n - 1, by omega⟩
    subst hx
    rw [List.reverse_nil, List.nil_append] at e
    subst e
    refine br_t (by decide) ?_
    rw [ew]
    exact H zw hz
  | t :: p, q2, zw, n, w, x1, e, ew, hx, hz, hn => by
    obtain ⟨n, rfl⟩ : ∃ n', n = n' + 1 := ⟨n - 1, by omega⟩
    rw [List.length_cons] at hn hx
    rw [pk_m1] at hx
    subst hx
    rw [List.reverse_cons, List.append_assoc] at e
    have hlen : q.length = p.length + (q2.length + 1) := by rw [e]; simp
    refine br_f (nI_pos (by omega)) ?_
    refine pk_le 2048 w (fun z => absurd z (by omega)) (fun _ => ⟨vp_in_nI (by omega) (by omega), vp_in_nI (by omega) (by omega), ?_⟩)
    have et : a_sheet p.length = t := by
      have hh := hq
      rw [e] at hh
      have := (hd_app.mp hh).2.1
      rwa [Nat.zero_add, List.length_reverse] at this
    refine nm_r (e' := vp_updL zw w t) (by rw [nI_clamp (by omega), nI_clamp (by omega), et]) (nm_r (nI_1 w) ?_)
    refine nm_e ?_
    refine xc_line_l hq hq31 W hl H p (t :: q2) _ n (w + 1) _ e (by rw [List.length_cons]; omega) rfl ?_ (by omega)
    rw [List.cons_append, List.reverse_cons]
    have := hd_snocL (x := t) hz
    rwa [Nat.zero_add, List.length_reverse, List.length_append, ← ew] at this
theorem xc_line {post : SX → Prop} {q W : List Int64} (k w : Nat) (hk : k = q.length) (hww : w = W.length) (hq : hd_h a_sheet 0 q) (hq31 : q.length ≤ 31) (hW : hd_h a_waiting 0 W.reverse) (hl : q.length + W.length ≤ 2048) (H : ∀ z, hd_h z 0 (q ++ W).reverse → post (f_drafted, f_faultPlace, f_reportedSteps, f_resultSize, nI k, nI (q.length + W.length), f_builtSize, f_unfinished, f_taken, f_keptSize, f_stacked, f_ranked, f_surveyed, a_draft, a_result, a_lefts, a_leftSize, a_ways, a_rights, a_rightSize, a_sheet, z, a_built, a_unfinishedStart, a_unfinishedLacks, a_kept, a_matchStart, a_matchEnd, a_joint, a_unified, a_oneStack, a_otherStack, a_nestedAt, a_nestedEnd, a_rank, a_pairCount, a_firstOpen)) : wpX_putSheetInLine post (f_drafted, f_faultPlace, f_reportedSteps, f_resultSize, nI k, nI w, f_builtSize, f_unfinished, f_taken, f_keptSize, f_stacked, f_ranked, f_surveyed, a_draft, a_result, a_lefts, a_leftSize, a_ways, a_rights, a_rightSize, a_sheet, a_waiting, a_built, a_unfinishedStart, a_unfinishedLacks, a_kept, a_matchStart, a_matchEnd, a_joint, a_unified, a_oneStack, a_otherStack, a_nestedAt, a_nestedEnd, a_rank, a_pairCount, a_firstOpen) := by
  subst hk hww
  refine nm_r (Int32.sub_eq_add_neg _ _) ⟨q.length + 1, ?_⟩
  refine xc_line_l hq hq31 W hl H q.reverse [] a_waiting _ W.length _ (by rw [List.reverse_reverse, List.append_nil]) (by simp) (by rw [List.length_reverse]) (by rw [List.nil_append]; exact hW) (by rw [List.length_reverse]; omega)
end
end
section
/-! the component: the match, the first rule, what RIGHT becomes -/
def xm_b (built : Nat → Int64) (ms me : Nat → Int32) (B : Nat) (β : Nat → List Int64) : Prop := ∀ k, k < 8 → (β k = [] → ms k = -1) ∧ (β k ≠ [] → ∃ st, ms k = nI st ∧ me k = nI (st + (β k).length) ∧ st + (β k).length ≤ B ∧ hd_h built st (β k))
def xr_R (L R : Nat → List Int64) (lefts : Nat → Int64) (leftSize ways : Nat → Int32) (rights : Nat → Int64) (rightSize : Nat → Int32) : Prop := ∀ r, r < 8 → (∃ nl nr, leftSize r = nI nl ∧ rightSize r = nI nr ∧ nl ≤ 30 ∧ nr ≤ 30) ∧ (L r = [] → ways r = 0) ∧ (L r ≠ [] → ways r = nI (2 ^ ru_c9 (L r)) ∧ leftSize r = nI (L r).length ∧ rightSize r = nI (R r).length ∧ hd_h rights (r * 30) (R r) ∧ ∀ w, w < 2 ^ ru_c9 (L r) → hd_h lefts ((r * 16 + w) * 30) (ru_wy (L r) w).1)
theorem xm_b_new {built : Nat → Int64} {ms me : Nat → Int32} {B : Nat} {β : Nat → List Int64} (h : xm_b built ms me B β) {k i : Nat} {a : List Int64} (ha : a ≠ []) (hh : hd_h built i a) (hB : i + a.length ≤ B) : xm_b built (upd ms k (nI i)) (upd me k (nI (i + a.length))) B (fun j => if j = k then a else β j) := by
  intro j hj
  dsimp only
  by_cases e : j = k
  · subst e
    rw [if_pos rfl, pk_us, pk_us]
    exact ⟨fun z => absurd z ha, fun _ => ⟨i, rfl, rfl, hB, hh⟩⟩
  · rw [if_neg e, pk_un e, pk_un e]
    exact h j hj
section
variable {f_drafted f_faultPlace f_reportedSteps f_resultSize f_sheetSize f_waitingSize f_builtSize f_unfinished f_taken f_keptSize f_stacked f_ranked f_surveyed : Int32} {a_draft a_result a_lefts a_rights a_sheet a_waiting a_built a_kept a_joint : Nat → Int64} {a_leftSize a_ways a_rightSize a_unfinishedStart a_unfinishedLacks a_matchStart a_matchEnd a_unified a_oneStack a_otherStack a_nestedAt a_nestedEnd a_rank a_pairCount a_firstOpen : Nat → Int32}
theorem xm_bind_l {post : Int32 → SX → Prop} {i st : Nat} : ∀ (a b : List Int64) (k n d : Nat), a.length = b.length → d = k + a.length → st + d ≤ 2048 → i + d ≤ 2048 → hd_h a_built (i + k) a → hd_h a_built (st + k) b → a.length < n → (b = a → post 1 (f_drafted, f_faultPlace, f_reportedSteps, f_resultSize, f_sheetSize, f_waitingSize, f_builtSize, f_unfinished, f_taken, f_keptSize, f_stacked, f_ranked, f_surveyed, a_draft, a_result, a_lefts, a_leftSize, a_ways, a_rights, a_rightSize, a_sheet, a_waiting, a_built, a_unfinishedStart, a_unfinishedLacks, a_kept, a_matchStart, a_matchEnd, a_joint, a_unified, a_oneStack, a_otherStack, a_nestedAt, a_nestedEnd, a_rank, a_pairCount, a_firstOpen)) → (b ≠ a → post 0 (f_drafted, f_faultPlace, f_reportedSteps, f_resultSize, f_sheetSize, f_waitingSize, f_builtSize, f_unfinished, f_taken, f_keptSize, f_stacked, f_ranked, f_surveyed, a_draft, a_result, a_lefts, a_leftSize, a_ways, a_rights, a_rightSize, a_sheet, a_waiting, a_built, a_unfinishedStart, a_unfinishedLacks, a_kept, a_matchStart, a_matchEnd, a_joint, a_unified, a_oneStack, a_otherStack, a_nestedAt, a_nestedEnd, a_rank, a_pairCount, a_firstOpen)) → wX_bind_49 post (nI i) (nI (i + d)) (nI st) f_drafted f_faultPlace f_reportedSteps f_resultSize f_sheetSize f_waitingSize f_builtSize f_unfinished f_taken f_keptSize f_stacked f_ranked f_surveyed a_draft a_result a_lefts a_leftSize a_ways a_rights a_rightSize a_sheet a_waiting a_built a_unfinishedStart a_unfinishedLacks a_kept a_matchStart a_matchEnd a_joint a_unified a_oneStack a_otherStack a_nestedAt a_nestedEnd a_rank a_pairCount a_firstOpen n (nI k)
  | [], [], k, n, d, he, hd, hl1, hl2, h1, h2, hn, hy, hz => by
    obtain ⟨n, rfl⟩ : ∃ n', n = n' + 1 := ⟨n - 1, by omega⟩
    rw [List.length_nil] at hd
    refine pk_le d k (fun _ => hy rfl) (fun z => absurd z (by omega)) ?_ rfl
    rw [pk_sub (by omega), show i + d - i = d by omega]
  | [], y :: b, k, n, d, he, hd, hl1, hl2, h1, h2, hn, hy, hz => by simp at he
  | x :: a, [], k, n, d, he, hd, hl1, hl2, h1, h2, hn, hy, hz => by simp at he
  | x :: a, y :: b, k, n, d, he, hd, hl1, hl2, h1, h2, hn, hy, hz => by
    obtain ⟨n, rfl⟩ : ∃ n', n = n' + 1 := ⟨n - 1, by omega⟩
    rw [List.length_cons] at hd hn
    refine pk_le d k (fun z => absurd z (by omega)) (fun _ => ?_) (by rw [pk_sub (by omega), show i + d - i = d by omega]) rfl
    refine ⟨by rw [nI_add]; exact vp_in_nI (by omega) (by omega), by rw [nI_add]; exact vp_in_nI (by omega) (by omega), ?_⟩
    have e1 : a_built (nI i + nI k).toNatClampNeg = x := by rw [nI_add, nI_clamp (by omega)]; exact h1.1
    have e2 : a_built (nI st + nI k).toNatClampNeg = y := by rw [nI_add, nI_clamp (by omega)]; exact h2.1
    rw [e1, e2]
    by_cases h : y = x
    · refine br_t h (nm_r (nI_1 k) (xm_bind_l a b (k + 1) n d (by simpa using he) (by omega) hl1 hl2 h1.2 h2.2 (by omega) (fun e => hy (by rw [h, e])) (fun e => hz (fun z => e (by injection z)))))
    · exact br_f h (hz (fun z => h (by injection z)))
theorem xm_bind {post : Int32 → SX → Prop} {β : Nat → List Int64} {B : Nat} (hB : B ≤ 2048) (hb : xm_b a_built a_matchStart a_matchEnd B β) {k i : Nat} {a : List Int64} (e : Nat) (he : e = i + a.length) (hk : k < 8) (ha : a ≠ []) (hh : hd_h a_built i a) (hi : i + a.length ≤ B) (Hn : β k = [] → post 1 (f_drafted, f_faultPlace, f_reportedSteps, f_resultSize, f_sheetSize, f_waitingSize, f_builtSize, f_unfinished, f_taken, f_keptSize, f_stacked, f_ranked, f_surveyed, a_draft, a_result, a_lefts, a_leftSize, a_ways, a_rights, a_rightSize, a_sheet, a_waiting, a_built, a_unfinishedStart, a_unfinishedLacks, a_kept, upd a_matchStart k (nI i), upd a_matchEnd k (nI (i + a.length)), a_joint, a_unified, a_oneStack, a_otherStack, a_nestedAt, a_nestedEnd, a_rank, a_pairCount, a_firstOpen)) (Hy : β k ≠ [] → β k = a → post 1 (f_drafted, f_faultPlace, f_reportedSteps, f_resultSize, f_sheetSize, f_waitingSize, f_builtSize, f_unfinished, f_taken, f_keptSize, f_stacked, f_ranked, f_surveyed, a_draft, a_result, a_lefts, a_leftSize, a_ways, a_rights, a_rightSize, a_sheet, a_waiting, a_built, a_unfinishedStart, a_unfinishedLacks, a_kept, a_matchStart, a_matchEnd, a_joint, a_unified, a_oneStack, a_otherStack, a_nestedAt, a_nestedEnd, a_rank, a_pairCount, a_firstOpen)) (Hz : β k ≠ [] → β k ≠ a → post 0 (f_drafted, f_faultPlace, f_reportedSteps, f_resultSize, f_sheetSize, f_waitingSize, f_builtSize, f_unfinished, f_taken, f_keptSize, f_stacked, f_ranked, f_surveyed, a_draft, a_result, a_lefts, a_leftSize, a_ways, a_rights, a_rightSize, a_sheet, a_waiting, a_built, a_unfinishedStart, a_unfinishedLacks, a_kept, a_matchStart, a_matchEnd, a_joint, a_unified, a_oneStack, a_otherStack, a_nestedAt, a_nestedEnd, a_rank, a_pairCount, a_firstOpen)) : wpX_bind post (f_drafted, f_faultPlace, f_reportedSteps, f_resultSize, f_sheetSize, f_waitingSize, f_builtSize, f_unfinished, f_taken, f_keptSize, f_stacked, f_ranked, f_surveyed, a_draft, a_result, a_lefts, a_leftSize, a_ways, a_rights, a_rightSize, a_sheet, a_waiting, a_built, a_unfinishedStart, a_unfinishedLacks, a_kept, a_matchStart, a_matchEnd, a_joint, a_unified, a_oneStack, a_otherStack, a_nestedAt, a_nestedEnd, a_rank, a_pairCount, a_firstOpen) (nI k) (nI i) (nI e) := by
  subst he
  have hin : vp_in (nI k) 8 := vp_in_nI hk (by omega)
  have ek : (nI k).toNatClampNeg = k := nI_clamp (by omega)
  obtain ⟨b1, b2⟩ := hb k hk
  refine ⟨hin, nm_r (e' := a_matchStart k) (by rw [ek]) ?_⟩
  by_cases h0 : β k = []
  · rw [b1 h0]
    refine br_f (by decide) ⟨hin, nm_r (e' := upd a_matchStart k (nI i)) (by rw [ek]) ⟨hin, nm_r (e' := upd a_matchEnd k (nI (i + a.length))) (by rw [ek]) (Hn h0)⟩⟩
  · obtain ⟨st, s1, s2, s3, s4⟩ := b2 h0
    rw [s1]
    refine br_t (nI_pos' (by omega)) ⟨hin, ?_⟩
    rw [ek, s2]
    refine pk_eq (β k).length a.length (fun hl => ?_) (fun hl => ?_) (by rw [pk_sub (by omega), show st + (β k).length - st = (β k).length by omega]) (by rw [pk_sub (by omega), show i + a.length - i = a.length by omega])
    · refine ⟨a.length + 1, ?_⟩
      exact xm_bind_l a (β k) 0 _ a.length hl.symm (by omega) (by omega) (by omega) hh s4 (by omega) (Hy h0) (Hz h0)
    · exact Hz h0 (fun z => hl (by rw [z]))
theorem xm_l {post : Int32 → SX → Prop} {r fr ln B : Nat} (hr : r < 8) (hls : a_leftSize r = nI ln) (hfr : fr + ln ≤ 3840) (hB : B ≤ 2048) : ∀ (ps s : List Int64) (m pos pi n : Nat) (β : Nat → List Int64) (ms me : Nat → Int32), pi + ps.length = fr + ln → pos + s.length = B → hd_h a_lefts pi ps → hd_h a_built pos s → (∀ t, t ∈ ps → tk_r t) → (∀ t, t ∈ s → tk_t t) → tm_w s m → xm_b a_built ms me B β → ps.length < n → (∀ β' ms' me', ru_mt ps s β = some β' → xm_b a_built ms' me' B β' → post 1 (f_drafted, f_faultPlace, f_reportedSteps, f_resultSize, f_sheetSize, f_waitingSize, nI B, f_unfinished, f_taken, f_keptSize, f_stacked, f_ranked, f_surveyed, a_draft, a_result, a_lefts, a_leftSize, a_ways, a_rights, a_rightSize, a_sheet, a_waiting, a_built, a_unfinishedStart, a_unfinishedLacks, a_kept, ms', me', a_joint, a_unified, a_oneStack, a_otherStack, a_nestedAt, a_nestedEnd, a_rank, a_pairCount, a_firstOpen)) → (∀ ms' me', ru_mt ps s β = none → post 0 (f_drafted, f_faultPlace, f_reportedSteps, f_resultSize, f_sheetSize, f_waitingSize, nI B, f_unfinished, f_taken, f_keptSize, f_stacked, f_ranked, f_surveyed, a_draft, a_result, a_lefts, a_leftSize, a_ways, a_rights, a_rightSize, a_sheet, a_waiting, a_built, a_unfinishedStart, a_unfinishedLacks, a_kept, ms', me', a_joint, a_unified, a_oneStack, a_otherStack, a_nestedAt, a_nestedEnd, a_rank, a_pairCount, a_firstOpen)) → wX_matches_42 post (nI r) (nI fr) n (nI pos) (nI pi) f_drafted f_faultPlace f_reportedSteps f_resultSize f_sheetSize f_waitingSize (nI B) f_unfinished f_taken f_keptSize f_stacked f_ranked f_surveyed a_draft a_result a_lefts a_leftSize a_ways a_rights a_rightSize a_sheet a_waiting a_built a_unfinishedStart a_unfinishedLacks a_kept ms me a_joint a_unified a_oneStack a_otherStack a_nestedAt a_nestedEnd a_rank a_pairCount a_firstOpen
  | [], s, m, pos, pi, n, β, ms, me, h1, h2, h3, h4, h5, h6, h7, h8, hn, Hy, Hz => by
    obtain ⟨n, rfl⟩ : ∃ n', n = n' + 1 := ⟨n - 1, by omega⟩
    rw [List.length_nil] at h1
    refine ⟨vp_in_nI hr (by omega), ?_⟩
    rw [nI_clamp (by omega), hls]
    exact pk_le (fr + ln) pi (fun _ => Hy β ms me (by rw [ru_mt]) h8) (fun z => absurd z (by omega)) (nI_add _ _) rfl
  | p :: ps, [], m, pos, pi, n, β, ms, me, h1, h2, h3, h4, h5, h6, h7, h8, hn, Hy, Hz => by
    obtain ⟨n, rfl⟩ : ∃ n', n = n' + 1 := ⟨n - 1, by omega⟩
    rw [List.length_cons] at h1
    rw [List.length_nil] at h2
    refine ⟨vp_in_nI hr (by omega), ?_⟩
    rw [nI_clamp (by omega), hls]
    refine pk_le (fr + ln) pi (fun z => absurd z (by omega)) (fun _ => ?_) (nI_add _ _) rfl
    refine ⟨vp_in_nI (by omega) (by omega), nm_e ?_⟩
    exact pk_lt pos B (fun z => absurd z (by omega)) (fun _ => Hz ms me (by rw [ru_mt]))
  | p :: ps, c :: s, m, pos, pi, n, β, ms, me, h1, h2, h3, h4, h5, h6, h7, h8, hn, Hy, Hz => by
    obtain ⟨n, rfl⟩ : ∃ n', n = n' + 1 := ⟨n - 1, by omega⟩
    rw [List.length_cons] at h1 hn h2
    refine ⟨vp_in_nI hr (by omega), ?_⟩
    rw [nI_clamp (by omega), hls]
    refine pk_le (fr + ln) pi (fun z => absurd z (by omega)) (fun _ => ?_) (nI_add _ _) rfl
    refine ⟨vp_in_nI (by omega) (by omega), nm_r (e' := p) (by rw [nI_clamp (by omega)]; exact h3.1) ?_⟩
    refine pk_lt pos B (fun _ => ?_) (fun z => absurd z (by omega))
    have hps : ∀ t, t ∈ ps → tk_r t := fun t ht => h5 t (List.mem_cons.mpr (Or.inr ht))
    have hs : ∀ t, t ∈ s → tk_t t := fun t ht => h6 t (List.mem_cons.mpr (Or.inr ht))
    have ec : a_built (nI pos).toNatClampNeg = c := by rw [nI_clamp (by omega)]; exact h4.1
    have hin : vp_in (nI pos) 2048 := vp_in_nI (by omega) (by omega)
    obtain ⟨k, rfl, hw⟩ := tm_w_ne h7
    by_cases hp : p < 8589934592
    · refine br_f (Int64.not_le.mpr hp) ⟨hin, ?_⟩
      rw [ec]
      by_cases hc : c = p
      · rw [ru_mt_sym hp hc] at Hy Hz
        exact br_t hc (nm_r (nI_1 pos) (nm_r (nI_1 pi) (xm_l hr hls hfr hB ps s _ (pos + 1) (pi + 1) n β ms me (by omega) (by omega) h3.2 h4.2 hps hs hw h8 (by omega) Hy Hz)))
      · exact br_f hc (Hz ms me (ru_mt_symn hp hc))
    · refine br_t (Int64.not_lt.mp hp) ?_
      have hpr := h5 p (List.mem_cons.mpr (Or.inl rfl))
      have hct := h6 c (List.mem_cons.mpr (Or.inl rfl))
      obtain ⟨a, b, e, ha, hb2⟩ := tm_w_split (c :: s) 1 k (by rw [Nat.add_comm]; exact h7)
      obtain ⟨c', a', rfl, _⟩ := tm_w_pos ha
      rw [List.cons_append] at e
      injection e with e1 e2
      subst e1 e2
      rw [List.length_append] at h2
      have hb3 : ∀ t, t ∈ b → tk_t t := fun t ht => hs t (List.mem_append.mpr (Or.inr ht))
      have h4' : hd_h a_built pos ((c :: a') ++ b) := h4
      have hba := (hd_app.mp h4').2
      have hla : (c :: a').length = a'.length + 1 := rfl
      have core : (p < 12884901888 ∨ tk_N c) → wX_matches_144 post (wX_matches_42 post (nI r) (nI fr) n) (nI r) (nI fr) (nI pos) (nI pi) p f_drafted f_faultPlace f_reportedSteps f_resultSize f_sheetSize f_waitingSize (nI B) f_unfinished f_taken f_keptSize f_stacked f_ranked f_surveyed a_draft a_result a_lefts a_leftSize a_ways a_rights a_rightSize a_sheet a_waiting a_built a_unfinishedStart a_unfinishedLacks a_kept ms me a_joint a_unified a_oneStack a_otherStack a_nestedAt a_nestedEnd a_rank a_pairCount a_firstOpen := by
        intro hw'
        refine ru_slotX hpr hp ?_
        refine xe_built pos B (pos + (c :: a').length) ha h4' (by omega) rfl hB ?_
        refine xm_bind hB h8 (a := c :: a') (pos + (c :: a').length) rfl (ru_slot_lt hpr hp) (by simp) (hd_app.mp h4').1 (by omega) (fun h0 => ?_) (fun h0 h0' => ?_) (fun h0 h0' => ?_)
        · rw [ru_mt_new hp hw' ha h0] at Hy Hz
          exact br_f (by decide) (nm_r (nI_1 pi) (xm_l hr hls hfr hB ps b k (pos + (c :: a').length) (pi + 1) n _ _ _ (by omega) (by omega) h3.2 hba hps hb3 hb2 (xm_b_new h8 (by simp) (hd_app.mp h4').1 (by omega)) (by omega) Hy Hz))
        · rw [ru_mt_old hp hw' ha h0'] at Hy Hz
          exact br_f (by decide) (nm_r (nI_1 pi) (xm_l hr hls hfr hB ps b k (pos + (c :: a').length) (pi + 1) n _ _ _ (by omega) (by omega) h3.2 hba hps hb3 hb2 h8 (by omega) Hy Hz))
        · exact br_t rfl (Hz ms me (ru_mt_oldn hp hw' ha h0 h0'))
      by_cases hw3 : p < 12884901888
      · exact br_t hw3 (br_t rfl (core (Or.inl hw3)))
      · refine br_f hw3 (br_f (by decide) ⟨hin, ?_⟩)
        rw [ec]
        by_cases hN : tk_N c
        · exact br_t ((tk_N_X hct).mpr hN) (core (Or.inr hN))
        · exact br_f (fun z => hN ((tk_N_X hct).mp z)) (Hz ms me (ru_mt_w hp hw3 hN))
theorem xm_14 {post : Int32 → SX → Prop} {x1 x3 x4 : Int32} : ∀ (d k n : Nat) (ms : Nat → Int32), k + d = 8 → (∀ j, j < k → ms j = -1) → d < n → (∀ ms', (∀ j, j < 8 → ms' j = -1) → ∃ n42, wX_matches_42 post x1 x4 n42 x3 x4 f_drafted f_faultPlace f_reportedSteps f_resultSize f_sheetSize f_waitingSize f_builtSize f_unfinished f_taken f_keptSize f_stacked f_ranked f_surveyed a_draft a_result a_lefts a_leftSize a_ways a_rights a_rightSize a_sheet a_waiting a_built a_unfinishedStart a_unfinishedLacks a_kept ms' a_matchEnd a_joint a_unified a_oneStack a_otherStack a_nestedAt a_nestedEnd a_rank a_pairCount a_firstOpen) → wX_matches_14 post x1 x3 x4 f_drafted f_faultPlace f_reportedSteps f_resultSize f_sheetSize f_waitingSize f_builtSize f_unfinished f_taken f_keptSize f_stacked f_ranked f_surveyed n (nI k) a_draft a_result a_lefts a_leftSize a_ways a_rights a_rightSize a_sheet a_waiting a_built a_unfinishedStart a_unfinishedLacks a_kept ms a_matchEnd a_joint a_unified a_oneStack a_otherStack a_nestedAt a_nestedEnd a_rank a_pairCount a_firstOpen
  | 0, k, n, ms, hk, hm, hn, H => by
    obtain ⟨n, rfl⟩ : ∃ n', n = n' + 1 := ⟨n - 1, by omega⟩
    exact pk_le 8 k (fun _ => H ms (fun j hj => hm j (by omega))) (fun z => absurd z (by omega))
  | d + 1, k, n, ms, hk, hm, hn, H => by
    obtain ⟨n, rfl⟩ : ∃ n', n = n' + 1 := ⟨n - 1, by omega⟩
    refine pk_le 8 k (fun z => absurd z (by omega)) (fun _ => ⟨vp_in_nI (by omega) (by omega), nm_r (e' := upd ms k (-1)) (by rw [nI_clamp (by omega)]) (nm_r (nI_1 k) ?_)⟩)
    refine xm_14 d (k + 1) n _ (by omega) (fun j hj => ?_) (by omega) H
    by_cases e : j = k
    · rw [e, pk_us]
    · rw [pk_un e]; exact hm j (by omega)
theorem xm_matches {post : Int32 → SX → Prop} {r w ln B st : Nat} {ps s : List Int64} (hr : r < 8) (hw : w < 16) (hls : a_leftSize r = nI ln) (hln : ln = ps.length) (hln2 : ln ≤ 30) (hB : B ≤ 2048) (hs : st + s.length = B) (h3 : hd_h a_lefts ((r * 16 + w) * 30) ps) (h4 : hd_h a_built st s) (h5 : ∀ t, t ∈ ps → tk_r t) (h6 : ∀ t, t ∈ s → tk_t t) {m : Nat} (h7 : tm_w s m) (Hy : ∀ β' ms' me', ru_mt ps s (fun _ => []) = some β' → xm_b a_built ms' me' B β' → post 1 (f_drafted, f_faultPlace, f_reportedSteps, f_resultSize, f_sheetSize, f_waitingSize, nI B, f_unfinished, f_taken, f_keptSize, f_stacked, f_ranked, f_surveyed, a_draft, a_result, a_lefts, a_leftSize, a_ways, a_rights, a_rightSize, a_sheet, a_waiting, a_built, a_unfinishedStart, a_unfinishedLacks, a_kept, ms', me', a_joint, a_unified, a_oneStack, a_otherStack, a_nestedAt, a_nestedEnd, a_rank, a_pairCount, a_firstOpen)) (Hz : ∀ ms' me', ru_mt ps s (fun _ => []) = none → post 0 (f_drafted, f_faultPlace, f_reportedSteps, f_resultSize, f_sheetSize, f_waitingSize, nI B, f_unfinished, f_taken, f_keptSize, f_stacked, f_ranked, f_surveyed, a_draft, a_result, a_lefts, a_leftSize, a_ways, a_rights, a_rightSize, a_sheet, a_waiting, a_built, a_unfinishedStart, a_unfinishedLacks, a_kept, ms', me', a_joint, a_unified, a_oneStack, a_otherStack, a_nestedAt, a_nestedEnd, a_rank, a_pairCount, a_firstOpen)) : wpX_matches post (f_drafted, f_faultPlace, f_reportedSteps, f_resultSize, f_sheetSize, f_waitingSize, nI B, f_unfinished, f_taken, f_keptSize, f_stacked, f_ranked, f_surveyed, a_draft, a_result, a_lefts, a_leftSize, a_ways, a_rights, a_rightSize, a_sheet, a_waiting, a_built, a_unfinishedStart, a_unfinishedLacks, a_kept, a_matchStart, a_matchEnd, a_joint, a_unified, a_oneStack, a_otherStack, a_nestedAt, a_nestedEnd, a_rank, a_pairCount, a_firstOpen) (nI r) (nI w) (nI st) := by
  refine nm_r (e' := nI ((r * 16 + w) * 30)) ?_ ⟨9, ?_⟩
  · rw [show (16 : Int32) = nI 16 from rfl, show (30 : Int32) = nI 30 from rfl, pk_mul, nI_add, pk_mul]
  · refine xm_14 8 0 9 a_matchStart rfl (fun j hj => absurd hj (by omega)) (by omega) (fun ms' hm => ⟨ps.length + 1, ?_⟩)
    refine xm_l hr hls (by omega) hB ps s m st ((r * 16 + w) * 30) _ (fun _ => []) ms' a_matchEnd (by omega) hs h3 h4 h5 h6 h7 (fun j hj => ⟨fun _ => hm j hj, fun z => absurd rfl z⟩) (by omega) Hy Hz
end
end
section
/-! the component: the first rule that matches, what RIGHT becomes -/
theorem xi_take {q : List Int64} {t : Int64} (h : q.length < 31) : (q ++ [t]).take 31 = q ++ [t] := List.take_of_length_le (by simp; omega)
theorem xi_take' {q a : List Int64} (h : 31 ≤ q.length) : (q ++ a).take 31 = q.take 31 := by
  rw [List.take_append_of_le_length h]
section
variable {f_drafted f_faultPlace f_reportedSteps f_resultSize f_sheetSize f_waitingSize f_builtSize f_unfinished f_taken f_keptSize f_stacked f_ranked f_surveyed : Int32} {a_draft a_result a_lefts a_rights a_sheet a_waiting a_built a_kept a_joint : Nat → Int64} {a_leftSize a_ways a_rightSize a_unfinishedStart a_unfinishedLacks a_matchStart a_matchEnd a_unified a_oneStack a_otherStack a_nestedAt a_nestedEnd a_rank a_pairCount a_firstOpen : Nat → Int32}
theorem xw_t {post : SX → Prop} {q : List Int64} {t : Int64} (c : Nat) (hc : c = (q.take 31).length) (hq : hd_h a_sheet 0 (q.take 31)) (H : ∀ z, hd_h z 0 ((q ++ [t]).take 31) → post (f_drafted, f_faultPlace, f_reportedSteps, f_resultSize, nI ((q ++ [t]).take 31).length, f_waitingSize, f_builtSize, f_unfinished, f_taken, f_keptSize, f_stacked, f_ranked, f_surveyed, a_draft, a_result, a_lefts, a_leftSize, a_ways, a_rights, a_rightSize, z, a_waiting, a_built, a_unfinishedStart, a_unfinishedLacks, a_kept, a_matchStart, a_matchEnd, a_joint, a_unified, a_oneStack, a_otherStack, a_nestedAt, a_nestedEnd, a_rank, a_pairCount, a_firstOpen)) : wpX_write post (f_drafted, f_faultPlace, f_reportedSteps, f_resultSize, nI c, f_waitingSize, f_builtSize, f_unfinished, f_taken, f_keptSize, f_stacked, f_ranked, f_surveyed, a_draft, a_result, a_lefts, a_leftSize, a_ways, a_rights, a_rightSize, a_sheet, a_waiting, a_built, a_unfinishedStart, a_unfinishedLacks, a_kept, a_matchStart, a_matchEnd, a_joint, a_unified, a_oneStack, a_otherStack, a_nestedAt, a_nestedEnd, a_rank, a_pairCount, a_firstOpen) t := by
  subst hc
  by_cases h : q.length < 31
  · have e : q.take 31 = q := List.take_of_length_le (by omega)
    rw [e] at hq ⊢
    rw [xi_take h] at H
    refine xw_put h ?_
    have := H (vp_updL a_sheet q.length t) (by have := hd_snocL (x := t) hq; rwa [Nat.zero_add] at this)
    rw [List.length_append, List.length_singleton] at this
    exact this
  · have e := xi_take' (a := [t]) (show 31 ≤ q.length by omega)
    rw [e] at H
    refine xw_full ?_ ?_ (H a_sheet hq)
    · rw [List.length_take]; omega
    · rw [List.length_take]; omega
theorem xm_ways {post : Int32 → SX → Prop} {L R : Nat → List Int64} {s : List Int64} {st B r m : Nat} (J2 : _) (hG : mc_G L R) (hR : xr_R L R a_lefts a_leftSize a_ways a_rights a_rightSize) (hr : r < 8) (h0 : L r ≠ []) (hB : B ≤ 2048) (hs : st + s.length = B) (h4 : hd_h a_built st s) (h6 : ∀ t, t ∈ s → tk_t t) (h7 : tm_w s m) : ∀ (k w n : Nat) (ms me : Nat → Int32), w + k = 2 ^ ru_c9 (L r) → k < n → (∀ β ms me, ru_fw (L r) s k w = some β → xm_b a_built ms me B β → post (nI r) (f_drafted, f_faultPlace, f_reportedSteps, f_resultSize, f_sheetSize, f_waitingSize, nI B, f_unfinished, f_taken, f_keptSize, f_stacked, f_ranked, f_surveyed, a_draft, a_result, a_lefts, a_leftSize, a_ways, a_rights, a_rightSize, a_sheet, a_waiting, a_built, a_unfinishedStart, a_unfinishedLacks, a_kept, ms, me, a_joint, a_unified, a_oneStack, a_otherStack, a_nestedAt, a_nestedEnd, a_rank, a_pairCount, a_firstOpen)) → (∀ ms me, ru_fw (L r) s k w = none → J2 (nI (r + 1)) f_drafted f_faultPlace f_reportedSteps f_resultSize f_sheetSize f_waitingSize (nI B) f_unfinished f_taken f_keptSize f_stacked f_ranked f_surveyed a_draft a_result a_lefts a_leftSize a_ways a_rights a_rightSize a_sheet a_waiting a_built a_unfinishedStart a_unfinishedLacks a_kept ms me a_joint a_unified a_oneStack a_otherStack a_nestedAt a_nestedEnd a_rank a_pairCount a_firstOpen) → wX_ruleFor_10 post J2 (nI st) (nI r) n (nI w) f_drafted f_faultPlace f_reportedSteps f_resultSize f_sheetSize f_waitingSize (nI B) f_unfinished f_taken f_keptSize f_stacked f_ranked f_surveyed a_draft a_result a_lefts a_leftSize a_ways a_rights a_rightSize a_sheet a_waiting a_built a_unfinishedStart a_unfinishedLacks a_kept ms me a_joint a_unified a_oneStack a_otherStack a_nestedAt a_nestedEnd a_rank a_pairCount a_firstOpen
  | 0, w, n, ms, me, hk, hn, Hy, Hn => by
    obtain ⟨n, rfl⟩ : ∃ n', n = n' + 1 := ⟨n - 1, by omega⟩
    obtain ⟨_, _, x3⟩ := hR r hr
    obtain ⟨w1, w2, w3, w4, w5⟩ := x3 h0
    rcases hG r with h | ⟨g1, g2, g3, g4, g5, g6, g7, g8⟩
    · exact absurd h h0
    have h16 : 2 ^ ru_c9 (L r) ≤ 16 := Nat.le_trans (Nat.pow_le_pow_right (by omega) g7) (by decide)
    refine ⟨vp_in_nI hr (by omega), ?_⟩
    rw [nI_clamp (by omega), w1]
    exact pk_le (2 ^ ru_c9 (L r)) w (fun _ => nm_r (nI_1 r) (Hn ms me rfl)) (fun z => absurd z (by omega))
  | k + 1, w, n, ms, me, hk, hn, Hy, Hn => by
    obtain ⟨n, rfl⟩ : ∃ n', n = n' + 1 := ⟨n - 1, by omega⟩
    obtain ⟨_, _, x3⟩ := hR r hr
    obtain ⟨w1, w2, w3, w4, w5⟩ := x3 h0
    rcases hG r with h | ⟨g1, g2, g3, g4, g5, g6, g7, g8⟩
    · exact absurd h h0
    have h16 : 2 ^ ru_c9 (L r) ≤ 16 := Nat.le_trans (Nat.pow_le_pow_right (by omega) g7) (by decide)
    refine ⟨vp_in_nI hr (by omega), ?_⟩
    rw [nI_clamp (by omega), w1]
    refine pk_le (2 ^ ru_c9 (L r)) w (fun z => absurd z (by omega)) (fun _ => ?_)
    refine xm_matches (ps := (ru_wy (L r) w).1) hr (by omega) w2 (ru_wy_len _ _).symm (by omega) hB hs (w5 w (by omega)) h4 (fun t ht => g4 t (ru_wy_mem _ _ _ ht)) h6 h7 (fun β ms' me' e hb => ?_) (fun ms' me' e => ?_)
    · exact br_f (by decide) (Hy β ms' me' (by rw [ru_fw, e]) hb)
    · rw [ru_fw, e] at Hy Hn
      exact br_t rfl (nm_r (nI_1 w) (xm_ways J2 hG hR hr h0 hB hs h4 h6 h7 k (w + 1) n ms' me' (by omega) (by omega) Hy Hn))
theorem xm_rf {post : Int32 → SX → Prop} {L R : Nat → List Int64} {s : List Int64} {st B m : Nat} (hG : mc_G L R) (hR : xr_R L R a_lefts a_leftSize a_ways a_rights a_rightSize) (hB : B ≤ 2048) (hs : st + s.length = B) (h4 : hd_h a_built st s) (h6 : ∀ t, t ∈ s → tk_t t) (h7 : tm_w s m) : ∀ (k r n : Nat) (ms me : Nat → Int32), r + k = 8 → k < n → (∀ r' β ms me, ru_fr L s k r = some (r', β) → xm_b a_built ms me B β → post (nI r') (f_drafted, f_faultPlace, f_reportedSteps, f_resultSize, f_sheetSize, f_waitingSize, nI B, f_unfinished, f_taken, f_keptSize, f_stacked, f_ranked, f_surveyed, a_draft, a_result, a_lefts, a_leftSize, a_ways, a_rights, a_rightSize, a_sheet, a_waiting, a_built, a_unfinishedStart, a_unfinishedLacks, a_kept, ms, me, a_joint, a_unified, a_oneStack, a_otherStack, a_nestedAt, a_nestedEnd, a_rank, a_pairCount, a_firstOpen)) → (∀ ms me, ru_fr L s k r = none → post (-2) (f_drafted, f_faultPlace, f_reportedSteps, f_resultSize, f_sheetSize, f_waitingSize, nI B, f_unfinished, f_taken, f_keptSize, f_stacked, f_ranked, f_surveyed, a_draft, a_result, a_lefts, a_leftSize, a_ways, a_rights, a_rightSize, a_sheet, a_waiting, a_built, a_unfinishedStart, a_unfinishedLacks, a_kept, ms, me, a_joint, a_unified, a_oneStack, a_otherStack, a_nestedAt, a_nestedEnd, a_rank, a_pairCount, a_firstOpen)) → wX_ruleFor_2 post (nI st) n (nI r) f_drafted f_faultPlace f_reportedSteps f_resultSize f_sheetSize f_waitingSize (nI B) f_unfinished f_taken f_keptSize f_stacked f_ranked f_surveyed a_draft a_result a_lefts a_leftSize a_ways a_rights a_rightSize a_sheet a_waiting a_built a_unfinishedStart a_unfinishedLacks a_kept ms me a_joint a_unified a_oneStack a_otherStack a_nestedAt a_nestedEnd a_rank a_pairCount a_firstOpen
  | 0, r, n, ms, me, hk, hn, Hy, Hn => by
    obtain ⟨n, rfl⟩ : ∃ n', n = n' + 1 := ⟨n - 1, by omega⟩
    exact pk_le 8 r (fun _ => Hn ms me rfl) (fun z => absurd z (by omega))
  | k + 1, r, n, ms, me, hk, hn, Hy, Hn => by
    obtain ⟨n, rfl⟩ : ∃ n', n = n' + 1 := ⟨n - 1, by omega⟩
    refine pk_le 8 r (fun z => absurd z (by omega)) (fun _ => ?_)
    by_cases h0 : L r = []
    · rw [ru_fr, if_pos h0] at Hy Hn
      refine ⟨1, vp_in_nI (by omega) (by omega), ?_⟩
      rw [nI_clamp (by omega), (hR r (by omega)).2.1 h0]
      exact br_t (Int32.le_refl _) (nm_r (nI_1 r) (xm_rf hG hR hB hs h4 h6 h7 k (r + 1) n ms me (by omega) (by omega) Hy Hn))
    · rw [ru_fr, if_neg h0] at Hy Hn
      refine ⟨2 ^ ru_c9 (L r) + 1, ?_⟩
      rw [← nI_0]
      refine xm_ways _ hG hR (by omega) h0 hB hs h4 h6 h7 (2 ^ ru_c9 (L r)) 0 _ ms me (by omega) (by omega) (fun β ms' me' e hb => ?_) (fun ms' me' e => ?_)
      · exact Hy r β ms' me' (by rw [e]) hb
      · rw [e] at Hy Hn
        exact xm_rf hG hR hB hs h4 h6 h7 k (r + 1) n ms' me' (by omega) (by omega) Hy Hn
theorem xm_ruleFor {post : Int32 → SX → Prop} {L R : Nat → List Int64} {s : List Int64} (st B m : Nat) (hG : mc_G L R) (hR : xr_R L R a_lefts a_leftSize a_ways a_rights a_rightSize) (hB : B ≤ 2048) (hs : st + s.length = B) (h4 : hd_h a_built st s) (h6 : ∀ t, t ∈ s → tk_t t) (h7 : tm_w s m) (Hy : ∀ r' β ms me, ru_fr L s 8 0 = some (r', β) → xm_b a_built ms me B β → post (nI r') (f_drafted, f_faultPlace, f_reportedSteps, f_resultSize, f_sheetSize, f_waitingSize, nI B, f_unfinished, f_taken, f_keptSize, f_stacked, f_ranked, f_surveyed, a_draft, a_result, a_lefts, a_leftSize, a_ways, a_rights, a_rightSize, a_sheet, a_waiting, a_built, a_unfinishedStart, a_unfinishedLacks, a_kept, ms, me, a_joint, a_unified, a_oneStack, a_otherStack, a_nestedAt, a_nestedEnd, a_rank, a_pairCount, a_firstOpen)) (Hn : ∀ ms me, ru_fr L s 8 0 = none → post (-2) (f_drafted, f_faultPlace, f_reportedSteps, f_resultSize, f_sheetSize, f_waitingSize, nI B, f_unfinished, f_taken, f_keptSize, f_stacked, f_ranked, f_surveyed, a_draft, a_result, a_lefts, a_leftSize, a_ways, a_rights, a_rightSize, a_sheet, a_waiting, a_built, a_unfinishedStart, a_unfinishedLacks, a_kept, ms, me, a_joint, a_unified, a_oneStack, a_otherStack, a_nestedAt, a_nestedEnd, a_rank, a_pairCount, a_firstOpen)) : wpX_ruleFor post (f_drafted, f_faultPlace, f_reportedSteps, f_resultSize, f_sheetSize, f_waitingSize, nI B, f_unfinished, f_taken, f_keptSize, f_stacked, f_ranked, f_surveyed, a_draft, a_result, a_lefts, a_leftSize, a_ways, a_rights, a_rightSize, a_sheet, a_waiting, a_built, a_unfinishedStart, a_unfinishedLacks, a_kept, a_matchStart, a_matchEnd, a_joint, a_unified, a_oneStack, a_otherStack, a_nestedAt, a_nestedEnd, a_rank, a_pairCount, a_firstOpen) (nI st) :=
  ⟨9, xm_rf hG hR hB hs h4 h6 h7 8 0 9 a_matchStart a_matchEnd rfl (by omega) Hy Hn⟩
theorem xi_60 {post : SX → Prop} (J7 : _) {x1 : Int32} {k slot e : Nat} (hsl : slot < 8) (he : a_matchEnd slot = nI e) (heB : e ≤ 2048) : ∀ (a q : List Int64) (b n c : Nat) (zs : Nat → Int64), b + a.length = e → c = (q.take 31).length → hd_h a_built b a → hd_h zs 0 (q.take 31) → a.length < n → (∀ z, hd_h z 0 ((q ++ a).take 31) → J7 (nI (k + 1)) f_drafted f_faultPlace f_reportedSteps f_resultSize (nI ((q ++ a).take 31).length) f_waitingSize f_builtSize f_unfinished f_taken f_keptSize f_stacked f_ranked f_surveyed a_draft a_result a_lefts a_leftSize a_ways a_rights a_rightSize z a_waiting a_built a_unfinishedStart a_unfinishedLacks a_kept a_matchStart a_matchEnd a_joint a_unified a_oneStack a_otherStack a_nestedAt a_nestedEnd a_rank a_pairCount a_firstOpen) → wX_writeInstance_60 post J7 x1 (nI k) (nI slot) n (nI b) f_drafted f_faultPlace f_reportedSteps f_resultSize (nI c) f_waitingSize f_builtSize f_unfinished f_taken f_keptSize f_stacked f_ranked f_surveyed a_draft a_result a_lefts a_leftSize a_ways a_rights a_rightSize zs a_waiting a_built a_unfinishedStart a_unfinishedLacks a_kept a_matchStart a_matchEnd a_joint a_unified a_oneStack a_otherStack a_nestedAt a_nestedEnd a_rank a_pairCount a_firstOpen
  | [], q, b, n, c, zs, h1, hc, h2, h3, hn, H => by
    obtain ⟨n, rfl⟩ : ∃ n', n = n' + 1 := ⟨n - 1, by omega⟩
    rw [List.length_nil] at h1
    rw [List.append_nil, ← hc] at H
    refine br_f (nI_pos (by omega)) ⟨vp_in_nI hsl (by omega), ?_⟩
    rw [nI_clamp (by omega), he]
    exact pk_le e b (fun _ => nm_r (nI_1 k) (H zs h3)) (fun z => absurd z (by omega))
  | t :: a, q, b, n, c, zs, h1, hc, h2, h3, hn, H => by
    obtain ⟨n, rfl⟩ : ∃ n', n = n' + 1 := ⟨n - 1, by omega⟩
    rw [List.length_cons] at h1 hn
    refine br_f (nI_pos (by omega)) ⟨vp_in_nI hsl (by omega), ?_⟩
    rw [nI_clamp (n := slot) (by omega), he]
    refine pk_le e b (fun z => absurd z (by omega)) (fun _ => ⟨vp_in_nI (by omega) (by omega), ?_⟩)
    have et : a_built (nI b).toNatClampNeg = t := by rw [nI_clamp (by omega)]; exact h2.1
    rw [et]
    have e3 : q ++ t :: a = (q ++ [t]) ++ a := by rw [List.append_assoc]; rfl
    rw [e3] at H
    refine xw_t c hc h3 (fun z hz => nm_r (nI_1 b) ?_)
    exact xi_60 J7 hsl he heB a (q ++ [t]) (b + 1) n _ z (by omega) rfl h2.2 hz (by omega) H
theorem xi_7 {post : SX → Prop} {β : Nat → List Int64} {r nr B : Nat} (hr : r < 8) (hrs : a_rightSize r = nI nr) (hnr : nr ≤ 30) (hB : B ≤ 2048) (hb : xm_b a_built a_matchStart a_matchEnd B β) : ∀ (l q : List Int64) (k n c : Nat) (zs : Nat → Int64), k + l.length = nr → c = (q.take 31).length → hd_h a_rights (r * 30 + k) l → (∀ t, t ∈ l → tk_r t) → hd_h zs 0 (q.take 31) → l.length < n → (∀ z, hd_h z 0 ((q ++ ru_in β l).take 31) → post (f_drafted, f_faultPlace, f_reportedSteps, f_resultSize, nI ((q ++ ru_in β l).take 31).length, f_waitingSize, f_builtSize, f_unfinished, f_taken, f_keptSize, f_stacked, f_ranked, f_surveyed, a_draft, a_result, a_lefts, a_leftSize, a_ways, a_rights, a_rightSize, z, a_waiting, a_built, a_unfinishedStart, a_unfinishedLacks, a_kept, a_matchStart, a_matchEnd, a_joint, a_unified, a_oneStack, a_otherStack, a_nestedAt, a_nestedEnd, a_rank, a_pairCount, a_firstOpen)) → wX_writeInstance_7 post (nI r) n (nI k) f_drafted f_faultPlace f_reportedSteps f_resultSize (nI c) f_waitingSize f_builtSize f_unfinished f_taken f_keptSize f_stacked f_ranked f_surveyed a_draft a_result a_lefts a_leftSize a_ways a_rights a_rightSize zs a_waiting a_built a_unfinishedStart a_unfinishedLacks a_kept a_matchStart a_matchEnd a_joint a_unified a_oneStack a_otherStack a_nestedAt a_nestedEnd a_rank a_pairCount a_firstOpen
  | [], q, k, n, c, zs, h1, hc, h2, ht, h3, hn, H => by
    obtain ⟨n, rfl⟩ : ∃ n', n = n' + 1 := ⟨n - 1, by omega⟩
    rw [List.length_nil] at h1
    have e : q ++ ru_in β [] = q := List.append_nil q
    rw [e, ← hc] at H
    refine ⟨vp_in_nI hr (by omega), ?_⟩
    rw [nI_clamp (by omega), hrs]
    exact pk_le nr k (fun _ => H zs h3) (fun z => absurd z (by omega))
  | t :: l, q, k, n, c, zs, h1, hc, h2, ht, h3, hn, H => by
    obtain ⟨n, rfl⟩ : ∃ n', n = n' + 1 := ⟨n - 1, by omega⟩
    rw [List.length_cons] at h1 hn
    refine ⟨vp_in_nI hr (by omega), ?_⟩
    rw [nI_clamp (by omega), hrs]
    have ei : nI r * 30 + nI k = nI (r * 30 + k) := by rw [show (30 : Int32) = nI 30 from rfl, pk_mul, nI_add]
    refine pk_le nr k (fun z => absurd z (by omega)) (fun _ => ⟨by rw [ei]; exact vp_in_nI (by omega) (by omega), nm_r (e' := t) (by rw [ei, nI_clamp (by omega)]; exact h2.1) ?_⟩)
    have e0 : ru_in β (t :: l) = (if t < 8589934592 then [t] else β (ru_slot t)) ++ ru_in β l := rfl
    have htl : ∀ t, t ∈ l → tk_r t := fun x hx => ht x (List.mem_cons.mpr (Or.inr hx))
    rw [e0, ← List.append_assoc] at H
    by_cases hn' : t < 8589934592
    · rw [if_pos hn'] at H
      refine br_f (Int64.not_le.mpr hn') (xw_t c hc h3 (fun z hz => nm_r (nI_1 k) ?_))
      exact xi_7 hr hrs hnr hB hb l (q ++ [t]) (k + 1) n _ z (by omega) rfl h2.2 htl hz (by omega) H
    · rw [if_neg hn'] at H
      have htr := ht t (List.mem_cons.mpr (Or.inl rfl))
      have hsl := ru_slot_lt htr hn'
      refine br_t (Int64.not_lt.mp hn') (ru_slotX htr hn' ⟨vp_in_nI hsl (by omega), ?_⟩)
      refine nm_r (e' := a_matchStart (ru_slot t)) (by rw [nI_clamp (by omega)]) ?_
      obtain ⟨b1, b2⟩ := hb _ hsl
      by_cases h0 : β (ru_slot t) = []
      · rw [b1 h0]
        rw [h0, List.append_nil] at H
        refine ⟨1, br_t (by decide) (nm_r (nI_1 k) ?_)⟩
        exact xi_7 hr hrs hnr hB hb l q (k + 1) n c zs (by omega) hc h2.2 htl h3 (by omega) H
      · obtain ⟨st, s1, s2, s3, s4⟩ := b2 h0
        rw [s1]
        refine ⟨(β (ru_slot t)).length + 1, xi_60 _ hsl s2 (by omega) (β (ru_slot t)) q st _ c zs rfl hc s4 h3 (by omega) (fun z hz => ?_)⟩
        exact xi_7 hr hrs hnr hB hb l (q ++ β (ru_slot t)) (k + 1) n _ z (by omega) rfl h2.2 htl hz (by omega) H
theorem xi_in {post : SX → Prop} {L R : Nat → List Int64} {β : Nat → List Int64} (r B : Nat) (hG : mc_G L R) (hR : xr_R L R a_lefts a_leftSize a_ways a_rights a_rightSize) (hr : r < 8) (h0 : L r ≠ []) (hB : B ≤ 2048) (hb : xm_b a_built a_matchStart a_matchEnd B β) (H : ∀ z, hd_h z 0 ((ru_in β (R r)).take 31) → post (f_drafted, f_faultPlace, f_reportedSteps, f_resultSize, nI ((ru_in β (R r)).take 31).length, f_waitingSize, f_builtSize, f_unfinished, f_taken, f_keptSize, f_stacked, f_ranked, f_surveyed, a_draft, a_result, a_lefts, a_leftSize, a_ways, a_rights, a_rightSize, z, a_waiting, a_built, a_unfinishedStart, a_unfinishedLacks, a_kept, a_matchStart, a_matchEnd, a_joint, a_unified, a_oneStack, a_otherStack, a_nestedAt, a_nestedEnd, a_rank, a_pairCount, a_firstOpen)) : wpX_writeInstance post (f_drafted, f_faultPlace, f_reportedSteps, f_resultSize, f_sheetSize, f_waitingSize, f_builtSize, f_unfinished, f_taken, f_keptSize, f_stacked, f_ranked, f_surveyed, a_draft, a_result, a_lefts, a_leftSize, a_ways, a_rights, a_rightSize, a_sheet, a_waiting, a_built, a_unfinishedStart, a_unfinishedLacks, a_kept, a_matchStart, a_matchEnd, a_joint, a_unified, a_oneStack, a_otherStack, a_nestedAt, a_nestedEnd, a_rank, a_pairCount, a_firstOpen) (nI r) := by
  obtain ⟨_, _, x3⟩ := hR r hr
  obtain ⟨w1, w2, w3, w4, w5⟩ := x3 h0
  rcases hG r with h | ⟨g1, g2, g3, g4, g5, g6, g7, g8⟩
  · exact absurd h h0
  · refine ⟨(R r).length + 1, ?_⟩
    rw [← nI_0]
    exact xi_7 hr w3 (by omega) hB hb (R r) [] 0 _ 0 a_sheet (by omega) rfl w4 g5 trivial (by omega) H
end
end
section
/-! the component: the normal form's loop follows the machine -/
def xn_fs (us ul : Nat → Int32) : List (List Int64 × Nat) → Prop
  | [] => True
  | (_, k) :: F => us F.length = nI (mc_fl F).length ∧ ul F.length = nI k ∧ xn_fs us ul F
def xn_F (m : Option (List Int64)) (F : List (List Int64 × Nat)) : List (List Int64 × Nat) := match m with
  | none => F
  | some s => (s, 0) :: F
theorem xn_fs_congr {us ul us' ul' : Nat → Int32} : ∀ {F : List (List Int64 × Nat)}, (∀ j, j < F.length → us' j = us j ∧ ul' j = ul j) → xn_fs us ul F → xn_fs us' ul' F
  | [], _, _ => trivial
  | (p, k) :: F, h, hh => by
    have h1 := h F.length (by simp)
    refine ⟨h1.1.trans hh.1, h1.2.trans hh.2.1, xn_fs_congr (fun j hj => h j ?_) hh.2.2⟩
    rw [List.length_cons]; omega
section
variable {f_drafted f_faultPlace f_reportedSteps f_resultSize f_sheetSize f_waitingSize f_builtSize f_unfinished f_taken f_keptSize f_stacked f_ranked f_surveyed : Int32} {a_draft a_result a_lefts a_rights a_sheet a_waiting a_built a_kept a_joint : Nat → Int64} {a_leftSize a_ways a_rightSize a_unfinishedStart a_unfinishedLacks a_matchStart a_matchEnd a_unified a_oneStack a_otherStack a_nestedAt a_nestedEnd a_rank a_pairCount a_firstOpen : Nat → Int32}
variable {P : Int64 → Prop} {L R : Nat → List Int64}
theorem xn_fin {J : Int32 → Int32 → Int32 → Int32 → Int32 → Int32 → Int32 → Int32 → Int32 → Int32 → Int32 → Int32 → Int32 → Int32 → (Nat → Int64) → (Nat → Int64) → (Nat → Int64) → (Nat → Int32) → (Nat → Int32) → (Nat → Int64) → (Nat → Int32) → (Nat → Int64) → (Nat → Int64) → (Nat → Int64) → (Nat → Int32) → (Nat → Int32) → (Nat → Int64) → (Nat → Int32) → (Nat → Int32) → (Nat → Int64) → (Nat → Int32) → (Nat → Int32) → (Nat → Int32) → (Nat → Int32) → (Nat → Int32) → (Nat → Int32) → (Nat → Int32) → (Nat → Int32) → Prop} {ss : Int32} {ms me us ul : Nat → Int32} {zs zw zb : Nat → Int64} {W s : List Int64} {F : List (List Int64 × Nat)} {i : Nat} (t : Nat) (hPt : ∀ x, P x → tk_t x) (hF : mc_fo P F) (hFl : F.length < 2046) (hk : ∀ p k, (p, k) ∈ F → 1 ≤ k) (hw : hd_h zw 0 W.reverse) (hb : hd_h zb 0 (mc_fl F ++ s)) (hu : xn_fs us ul F) (bs uf : Nat) (hbs : bs = (mc_fl F).length + s.length) (huf : uf = F.length + 1)
    (He : F = [] → mc_fin W F t s = .inr (0, t, s) → J (nI (i + 1)) f_drafted f_faultPlace f_reportedSteps f_resultSize ss (nI W.length) (nI bs) (nI 0) (nI t) f_keptSize f_stacked f_ranked f_surveyed a_draft a_result a_lefts a_leftSize a_ways a_rights a_rightSize zs zw zb us ul a_kept ms me a_joint a_unified a_oneStack a_otherStack a_nestedAt a_nestedEnd a_rank a_pairCount a_firstOpen)
    (Hc : ∀ F' m' ul' uf', mc_fin W F t s = .inl (W, F', t, m') → hd_h zb 0 (mc_fl (xn_F m' F')) → xn_fs us ul' (xn_F m' F') → bs = (mc_fl (xn_F m' F')).length → uf' = (xn_F m' F').length → J (nI (i + 1)) f_drafted f_faultPlace f_reportedSteps f_resultSize ss (nI W.length) (nI bs) (nI uf') (nI t) f_keptSize f_stacked f_ranked f_surveyed a_draft a_result a_lefts a_leftSize a_ways a_rights a_rightSize zs zw zb us ul' a_kept ms me a_joint a_unified a_oneStack a_otherStack a_nestedAt a_nestedEnd a_rank a_pairCount a_firstOpen) :
    wpX_finishTerm (fun u => match u with | (f_drafted0, f_faultPlace0, f_reportedSteps0, f_resultSize0, f_sheetSize0, f_waitingSize0, f_builtSize0, f_unfinished0, f_taken0, f_keptSize0, f_stacked0, f_ranked0, f_surveyed0, a_draft0, a_result0, a_lefts0, a_leftSize0, a_ways0, a_rights0, a_rightSize0, a_sheet0, a_waiting0, a_built0, a_unfinishedStart0, a_unfinishedLacks0, a_kept0, a_matchStart0, a_matchEnd0, a_joint0, a_unified0, a_oneStack0, a_otherStack0, a_nestedAt0, a_nestedEnd0, a_rank0, a_pairCount0, a_firstOpen0) => ∀ y, y = nI i + 1 → J y f_drafted0 f_faultPlace0 f_reportedSteps0 f_resultSize0 f_sheetSize0 f_waitingSize0 f_builtSize0 f_unfinished0 f_taken0 f_keptSize0 f_stacked0 f_ranked0 f_surveyed0 a_draft0 a_result0 a_lefts0 a_leftSize0 a_ways0 a_rights0 a_rightSize0 a_sheet0 a_waiting0 a_built0 a_unfinishedStart0 a_unfinishedLacks0 a_kept0 a_matchStart0 a_matchEnd0 a_joint0 a_unified0 a_oneStack0 a_otherStack0 a_nestedAt0 a_nestedEnd0 a_rank0 a_pairCount0 a_firstOpen0) (f_drafted, f_faultPlace, f_reportedSteps, f_resultSize, ss, nI W.length, nI bs, nI uf, nI t, f_keptSize, f_stacked, f_ranked, f_surveyed, a_draft, a_result, a_lefts, a_leftSize, a_ways, a_rights, a_rightSize, zs, zw, zb, us, ul, a_kept, ms, me, a_joint, a_unified, a_oneStack, a_otherStack, a_nestedAt, a_nestedEnd, a_rank, a_pairCount, a_firstOpen) := by
  subst huf
  cases F with
  | nil => exact xc_fin0 (nm_r (nI_1 i) (He rfl rfl))
  | cons a F =>
    obtain ⟨p, k⟩ := a
    have h1 := hk p k (List.mem_cons.mpr (Or.inl rfl))
    obtain ⟨j, rfl⟩ : ∃ j, k = j + 1 := ⟨k - 1, by omega⟩
    rw [List.length_cons] at hFl ⊢
    refine xc_fin1 (k := F.length) (j := j) (by omega) hu.2.1 (nm_r (nI_1 i) ?_)
    have hfl : mc_fl ((p, j + 1) :: F) ++ s = mc_fl F ++ (p ++ s) := List.append_assoc _ _ _
    have hbs' : bs = (mc_fl F ++ (p ++ s)).length := by rw [← hfl, List.length_append]; exact hbs
    rw [hfl] at hb
    have hu' : xn_fs us (upd ul F.length (nI j)) F := xn_fs_congr (fun i hi => ⟨rfl, pk_un (by omega)⟩) hu.2.2
    by_cases hj : j = 0
    · subst hj
      exact Hc F (some (p ++ s)) _ _ rfl hb ⟨hu.1, pk_us, hu'⟩ hbs' rfl
    · refine Hc ((p ++ s, j) :: F) none _ _ ?_ hb ⟨hu.1, pk_us, hu'⟩ hbs' rfl
      show (if j + 1 ≤ 1 then _ else _) = _
      rw [if_neg (by omega)]
      rfl

theorem xn_st_len {W : List Int64} {F : List (List Int64 × Nat)} {t : Nat} {m : Option (List Int64)} (hI : mc_I P W F t m) : W.length + (mc_fl (xn_F m F)).length ≤ 1830 ∧ (xn_F m F).length ≤ 1830 := by
  obtain ⟨h1, h2, h3, h4⟩ := hI
  have h5 := mc_fl_len h3
  cases m with
  | none =>
    obtain ⟨_, h6⟩ := h4
    show W.length + (mc_fl F).length ≤ 1830 ∧ F.length ≤ 1830
    omega
  | some s =>
    obtain ⟨_, h6, _, h7⟩ := h4
    have h8 := tm_w_len _ _ h6
    show W.length + (mc_fl F ++ s).length ≤ 1830 ∧ F.length + 1 ≤ 1830
    rw [List.length_append]
    omega
theorem xn_l {post : Int32 → SX → Prop} (hPt : ∀ x, P x → tk_t x) (hd : ∀ x, tk_d x → P x) (hG : mc_G L R) (hR : xr_R L R a_lefts a_leftSize a_ways a_rights a_rightSize) : ∀ (f : Nat) (W : List Int64) (F : List (List Int64 × Nat)) (t : Nat) (m : Option (List Int64)) (n i ws bs uf : Nat) (ss : Int32) (zs zw zb : Nat → Int64) (us ul ms me : Nat → Int32), mc_I P W F t m → mc_mu W F t m < f → i + f ≤ 10000000 → ws = W.length → bs = (mc_fl (xn_F m F)).length → uf = (xn_F m F).length → hd_h zw 0 W.reverse → hd_h zb 0 (mc_fl (xn_F m F)) → xn_fs us ul (xn_F m F) → f + 2 ≤ n → (∀ c t' s', mc_run L R f W F t m = (c, t', s') → ∀ (ss ws bs uf : Int32) (zs zw zb : Nat → Int64) (us ul ms me : Nat → Int32), (c = 0 → bs = nI s'.length ∧ hd_h zb 0 s') → post (nI c) (f_drafted, f_faultPlace, f_reportedSteps, f_resultSize, ss, ws, bs, uf, nI t', f_keptSize, f_stacked, f_ranked, f_surveyed, a_draft, a_result, a_lefts, a_leftSize, a_ways, a_rights, a_rightSize, zs, zw, zb, us, ul, a_kept, ms, me, a_joint, a_unified, a_oneStack, a_otherStack, a_nestedAt, a_nestedEnd, a_rank, a_pairCount, a_firstOpen)) → wX_normalForm_21 post n (nI i) f_drafted f_faultPlace f_reportedSteps f_resultSize ss (nI ws) (nI bs) (nI uf) (nI t) f_keptSize f_stacked f_ranked f_surveyed a_draft a_result a_lefts a_leftSize a_ways a_rights a_rightSize zs zw zb us ul a_kept ms me a_joint a_unified a_oneStack a_otherStack a_nestedAt a_nestedEnd a_rank a_pairCount a_firstOpen
  | 0, W, F, t, m, n, i, ws, bs, uf, ss, zs, zw, zb, us, ul, ms, me, hI, hmu, hi, hws, hbs, huf, hw, hb, hu, hn, H => absurd hmu (by omega)
  | f + 1, W, F, t, m, n, i, ws, bs, uf, ss, zs, zw, zb, us, ul, ms, me, hI, hmu, hi, hws, hbs, huf, hw, hb, hu, hn, H => by
    obtain ⟨n, rfl⟩ : ∃ n', n = n' + 1 := ⟨n - 1, by omega⟩
    have hlen := xn_st_len hI
    have hHC : ∀ W' F' t' m', mc_st L R W F t m = .inl (W', F', t', m') → ∀ (ws bs uf : Nat) (ss : Int32) (zs zw zb : Nat → Int64) (us ul ms me : Nat → Int32), ws = W'.length → bs = (mc_fl (xn_F m' F')).length → uf = (xn_F m' F').length → hd_h zw 0 W'.reverse → hd_h zb 0 (mc_fl (xn_F m' F')) → xn_fs us ul (xn_F m' F') → wX_normalForm_21 post n (nI (i + 1)) f_drafted f_faultPlace f_reportedSteps f_resultSize ss (nI ws) (nI bs) (nI uf) (nI t') f_keptSize f_stacked f_ranked f_surveyed a_draft a_result a_lefts a_leftSize a_ways a_rights a_rightSize zs zw zb us ul a_kept ms me a_joint a_unified a_oneStack a_otherStack a_nestedAt a_nestedEnd a_rank a_pairCount a_firstOpen := by
      intro W' F' t' m' e ws bs uf ss zs zw zb us ul ms me a1 a2 a3 a4 a5 a6
      rcases mc_pres hd hG hI with ⟨W1, F1, t1, m1, e1, e2, e3⟩ | ⟨c, t1, s1, e1, e2, e3, e4⟩
      · rw [e] at e1
        injection e1 with e1
        injection e1 with g1 e1
        injection e1 with g2 e1
        injection e1 with g3 g4
        subst g1 g2 g3 g4
        refine xn_l hPt hd hG hR f W' F' t' m' n (i + 1) ws bs uf ss zs zw zb us ul ms me e2 (by omega) (by omega) a1 a2 a3 a4 a5 a6 (by omega) (fun c t2 s2 er => H c t2 s2 ?_)
        rw [mc_run, e]
        exact er
      · rw [e] at e1
        exact absurd e1 (by simp)
    have hHE : ∀ t' s', mc_st L R W F t m = .inr (0, t', s') → ∀ (ss : Int32) (zs zw zb : Nat → Int64) (us ul ms me : Nat → Int32), hd_h zb 0 s' → wX_normalForm_21 post n (nI (i + 1)) f_drafted f_faultPlace f_reportedSteps f_resultSize ss (nI 0) (nI s'.length) (nI 0) (nI t') f_keptSize f_stacked f_ranked f_surveyed a_draft a_result a_lefts a_leftSize a_ways a_rights a_rightSize zs zw zb us ul a_kept ms me a_joint a_unified a_oneStack a_otherStack a_nestedAt a_nestedEnd a_rank a_pairCount a_firstOpen := by
      intro t' s' e ss zs zw zb us ul ms me a1
      obtain ⟨n, rfl⟩ : ∃ n', n = n' + 1 := ⟨n - 1, by omega⟩
      have hp := H 0 t' s' (by rw [mc_run, e]) ss (nI 0) (nI s'.length) (nI 0) zs zw zb us ul ms me (fun _ => ⟨rfl, a1⟩)
      refine pk_le 10000000 (i + 1) (fun _ => hp) (fun _ => br_t (by decide) hp)
    have hHP : ∀ c t' s', mc_st L R W F t m = .inr (c, t', s') → c ≠ 0 → ∀ (ss ws bs uf : Int32) (zs zw zb : Nat → Int64) (us ul ms me : Nat → Int32), post (nI c) (f_drafted, f_faultPlace, f_reportedSteps, f_resultSize, ss, ws, bs, uf, nI t', f_keptSize, f_stacked, f_ranked, f_surveyed, a_draft, a_result, a_lefts, a_leftSize, a_ways, a_rights, a_rightSize, zs, zw, zb, us, ul, a_kept, ms, me, a_joint, a_unified, a_oneStack, a_otherStack, a_nestedAt, a_nestedEnd, a_rank, a_pairCount, a_firstOpen) := by
      intro c t' s' e hc ss ws bs uf zs zw zb us ul ms me
      exact H c t' s' (by rw [mc_run, e]) ss ws bs uf zs zw zb us ul ms me (fun z => absurd z hc)
    subst hws hbs huf
    refine pk_le 10000000 i (fun z => absurd z (by omega)) (fun _ => ?_)
    have hI' := hI
    obtain ⟨ht, hW, hF, hm⟩ := hI'
    cases m with
    | none =>
      obtain ⟨h1, h2⟩ := hm
      cases W with
      | nil => rw [tm_w_nil] at h1; omega
      | cons c W =>
        have hlW : (c :: W).length = W.length + 1 := rfl
        have hlF : (xn_F none F).length = F.length := rfl
        refine pk_le ((xn_F none F).length + (c :: W).length) 0 (fun z => absurd z (by omega)) (fun _ => ?_) (nI_add _ _) rfl
        have hread : wX_normalForm_60 post (wX_normalForm_21 post n) (nI i) f_drafted f_faultPlace f_reportedSteps f_resultSize ss (nI (c :: W).length) (nI (mc_fl F).length) (nI F.length) (nI t) f_keptSize f_stacked f_ranked f_surveyed a_draft a_result a_lefts a_leftSize a_ways a_rights a_rightSize zs zw zb us ul a_kept ms me a_joint a_unified a_oneStack a_otherStack a_nestedAt a_nestedEnd a_rank a_pairCount a_firstOpen := by
          refine xc_read (W := W) (mc_fl F).length F.length (c :: W).length hlW hw (by omega) (by have := hlen.1; show (mc_fl (xn_F none F)).length < 2048; omega) (by omega) (nm_r (nI_1 i) ?_)
          have hb' : hd_h (vp_updL zb (mc_fl F).length c) 0 (mc_fl F ++ [c]) := by
            have := hd_snocL (x := c) (show hd_h zb 0 (mc_fl F) from hb)
            rwa [Nat.zero_add] at this
          have hw' : hd_h zw 0 W.reverse := by
            rw [List.reverse_cons] at hw
            exact (hd_app.mp hw).1
          have hu' : xn_fs (upd us F.length (nI (mc_fl F).length)) (upd ul F.length (nI (tm_ar c))) F := xn_fs_congr (fun j hj => ⟨pk_un (by omega), pk_un (by omega)⟩) hu
          have hl' : (mc_fl F).length + 1 = (mc_fl F ++ [c]).length := by rw [List.length_append]; rfl
          by_cases ha : tm_ar c = 0
          · refine hHC W F t (some [c]) (if_pos ha) W.length ((mc_fl F).length + 1) (F.length + 1) ss zs zw _ _ _ ms me rfl hl' rfl hw' hb' ⟨pk_us, ?_, hu'⟩
            rw [ha]; exact pk_us
          · exact hHC W (([c], tm_ar c) :: F) t none (if_neg ha) W.length ((mc_fl F).length + 1) (F.length + 1) ss zs zw _ _ _ ms me rfl hl' rfl hw' hb' ⟨pk_us, pk_us, hu'⟩
        refine pk_eq F.length 0 (fun _ => hread) (fun h0 => ?_)
        cases F with
        | nil => exact absurd rfl h0
        | cons a F =>
          obtain ⟨p, k⟩ := a
          have hk := (hF p k (List.mem_cons.mpr (Or.inl rfl))).2
          rw [List.length_cons] at hlF
          have e : nI ((p, k) :: F).length - 1 = nI F.length := nI_pred F.length
          refine ⟨by show vp_in (nI ((p, k) :: F).length - 1) 2048; rw [e]; exact vp_in_nI (by omega) (by omega), ?_⟩
          refine pk_le k 0 (fun z => absurd z (by omega)) (fun _ => hread) ?_ rfl
          show ul (nI ((p, k) :: F).length - 1).toNatClampNeg = nI k
          rw [e, nI_clamp (by omega)]
          exact hu.2.1
    | some s =>
      obtain ⟨h1, h2, h3, h4⟩ := hm
      have hlF : (xn_F (some s) F).length = F.length + 1 := rfl
      have hlB : (mc_fl (xn_F (some s) F)).length = (mc_fl F).length + s.length := List.length_append
      rw [hlB]
      rw [hlB, hlF] at hlen
      have hb2 : hd_h zb 0 (mc_fl F ++ s) := hb
      have hbs := (hd_app.mp hb2).2
      rw [Nat.zero_add] at hbs
      refine pk_le ((xn_F (some s) F).length + W.length) 0 (fun z => absurd z (by omega)) (fun _ => ?_) (nI_add _ _) rfl
      refine pk_eq (F.length + 1) 0 (fun z => absurd z (by omega)) (fun _ => ?_)
      have e : nI (xn_F (some s) F).length - 1 = nI F.length := nI_pred F.length
      have hin : vp_in (nI (xn_F (some s) F).length - 1) 2048 := by rw [e]; exact vp_in_nI (by omega) (by omega)
      refine ⟨hin, br_t ?_ ⟨hin, nm_r (e' := nI (mc_fl F).length) ?_ ?_⟩⟩
      · rw [e, nI_clamp (by omega), hu.2.1]; exact Int32.le_refl _
      · rw [e, nI_clamp (by omega)]; exact hu.1
      · refine pk_le s.length 30 (fun h30 => ?_) (fun h30 => ?_) (by rw [pk_sub (by omega), show (mc_fl F).length + s.length - (mc_fl F).length = s.length by omega]) rfl
        · refine xc_ord (mc_fl F).length ((mc_fl F).length + s.length) h2 h30 hbs rfl (by omega) (fun ss zs zb' hz1 hz2 => ?_)
          have hol := mc_or_len s
          have how := mc_or_w h2
          have hoP : ∀ x, x ∈ mc_or s → tk_t x := fun x hx => hPt x (h3 x (mc_or_mem hx))
          have hone : mc_or s ≠ [] := by
            intro z
            rw [z] at hol
            have := tm_w_len _ _ h2
            rw [List.length_nil] at hol
            omega
          have hb3 : hd_h zb' 0 (mc_fl F) := hd_keepl hz2 (hd_app.mp hb2).1 (by omega)
          have hb4 : hd_h zb' 0 (mc_fl F ++ mc_or s) := hd_app.mpr ⟨hb3, by rw [Nat.zero_add]; exact hz1⟩
          have hkF : ∀ p k, (p, k) ∈ F → 1 ≤ k := fun p k h => (hF p k h).2.1
          refine xc_ari (mc_fl F).length ((mc_fl F).length + s.length) hone hoP hz1 (by omega) (by omega) (fun v hv => ?_) (fun hv => ?_)
          · refine br_f (by decide) (br_f (by decide) (nm_r (nI_1 t) ?_))
            have hst : ∀ x, (if 60 < t + 1 then Sum.inr (2, t + 1, []) else mc_fin W F (t + 1) [v]) = x → mc_st L R W F t (some s) = x := by
              intro x hx
              rw [mc_st, if_neg (by omega), hv]
              exact hx
            refine pk_le (t + 1) 60 (fun h60 => ?_) (fun h60 => ?_)
            · rw [if_neg (by omega)] at hst
              refine br_f (by decide) ?_
              refine xc_cal (mc_fl F).length hz1 (by have := (mc_ar_d hv).2; omega) hv ?_
              refine xn_fin (W := W) (s := [v]) (t + 1) hPt hF (by omega) hkF hw ?_ hu.2.2 _ _ rfl rfl (fun eF e0 => ?_) (fun F' m' ul' uf' e0 g1 g2 g3 g4 => ?_)
              · have := hd_snocL (x := v) hb3
                rwa [Nat.zero_add] at this
              · subst eF
                have eW : W = [] := tm_w_0 h1
                subst eW
                refine hHE (t + 1) [v] (hst _ e0) ss zs zw _ us ul ms me ?_
                exact ⟨pk_uLs, trivial⟩
              · exact hHC W F' (t + 1) m' (hst _ e0) _ _ _ ss zs zw _ us ul' ms me rfl g3 g4 hw g1 g2
            · rw [if_pos (by omega)] at hst
              exact hHP 2 (t + 1) [] (hst _ rfl) (by omega) _ _ _ _ _ _ _ _ _ _ _
          · refine br_t rfl ?_
            refine xm_ruleFor (mc_fl F).length ((mc_fl F).length + s.length) 1 hG hR (by omega) (by omega) hz1 hoP how (fun r β ms' me' hf hbb => ?_) (fun ms' me' hf => ?_)
            · obtain ⟨_, hr8, hL0, _⟩ := mc_fr _ _ _ _ hf
              have hst : ∀ x, (if 60 < t + 1 then Sum.inr (2, t + 1, []) else if 30 < (ru_in β (R r)).length then .inr (3, t + 1, []) else .inl (ru_in β (R r) ++ W, F, t + 1, none)) = x → mc_st L R W F t (some s) = x := by
                intro x hx
                rw [mc_st, if_neg (by omega), hv, hf]
                exact hx
              refine br_t rfl (br_t (nI_pos' (by omega)) (nm_r (nI_1 t) ?_))
              refine pk_le (t + 1) 60 (fun h60 => ?_) (fun h60 => ?_)
              · rw [if_neg (by omega)] at hst
                refine br_t rfl ?_
                refine xi_in r ((mc_fl F).length + s.length) hG hR (by omega) hL0 (by omega) hbb (fun z hz => ?_)
                refine pk_le ((ru_in β (R r)).take 31).length 30 (fun hi30 => ?_) (fun hi30 => ?_) rfl rfl (by rw [List.length_take]; omega)
                · have hl30 : (ru_in β (R r)).length ≤ 30 := by rw [List.length_take] at hi30; omega
                  rw [if_neg (by omega)] at hst
                  have etk : (ru_in β (R r)).take 31 = ru_in β (R r) := List.take_of_length_le (by omega)
                  rw [etk] at hz ⊢
                  refine nm_r e ?_
                  refine xc_line (ru_in β (R r)).length W.length rfl rfl hz (by omega) hw (by omega) (fun z2 hz2 => nm_r (nI_1 i) ?_)
                  exact hHC _ _ _ _ (hst _ rfl) _ _ _ _ _ _ _ _ _ _ _ (by rw [List.length_append]) rfl rfl hz2 hb3 hu.2.2
                · have hl30 : 30 < (ru_in β (R r)).length := by rw [List.length_take] at hi30; omega
                  rw [if_pos hl30] at hst
                  exact hHP 3 (t + 1) [] (hst _ rfl) (by omega) _ _ _ _ _ _ _ _ _ _ _
              · rw [if_pos (by omega)] at hst
                exact hHP 2 (t + 1) [] (hst _ rfl) (by omega) _ _ _ _ _ _ _ _ _ _ _
            · have hst : ∀ x, mc_fin W F t (mc_or s) = x → mc_st L R W F t (some s) = x := by
                intro x hx
                rw [mc_st, if_neg (by omega), hv, hf]
                exact hx
              refine br_t rfl (br_f (by decide) ?_)
              refine xn_fin (W := W) (s := mc_or s) t hPt hF (by omega) hkF hw hb4 hu.2.2 _ _ (by rw [hol]) rfl (fun eF e0 => ?_) (fun F' m' ul' uf' e0 g1 g2 g3 g4 => ?_)
              · subst eF
                have eW : W = [] := tm_w_0 h1
                subst eW
                have hbz : hd_h zb' 0 (mc_or s) := hz1
                have := hHE t (mc_or s) (hst _ e0) ss zs zw _ us ul ms' me' hbz
                rw [hol] at this
                rw [show (mc_fl ([] : List (List Int64 × Nat))).length + s.length = s.length by rw [mc_fl, List.length_nil, Nat.zero_add]]
                exact this
              · exact hHC W F' t m' (hst _ e0) _ _ _ ss zs zw _ us ul' ms' me' rfl g3 g4 hw g1 g2
        · refine hHP 3 t [] ?_ (by omega) _ _ _ _ _ _ _ _ _ _ _
          rw [mc_st, if_pos (by omega)]
end
end
section
/-! the component: the normal form of what lies on the sheet; what is kept and compared -/
section
variable {f_drafted f_faultPlace f_reportedSteps f_resultSize f_sheetSize f_waitingSize f_builtSize f_unfinished f_taken f_keptSize f_stacked f_ranked f_surveyed : Int32} {a_draft a_result a_lefts a_rights a_sheet a_waiting a_built a_kept a_joint : Nat → Int64} {a_leftSize a_ways a_rightSize a_unfinishedStart a_unfinishedLacks a_matchStart a_matchEnd a_unified a_oneStack a_otherStack a_nestedAt a_nestedEnd a_rank a_pairCount a_firstOpen : Nat → Int32}
variable {P : Int64 → Prop} {L R : Nat → List Int64}
theorem mc_I0 {q : List Int64} {t0 : Nat} (hq : tm_w q 1) (h30 : q.length ≤ 30) (hP : ∀ x, x ∈ q → P x) (ht : t0 ≤ 60) : mc_I P q [] t0 none ∧ mc_mu q [] t0 none < 4000 := by
  refine ⟨⟨ht, hP, fun p k h => absurd h (by simp), ?_, ?_⟩, ?_⟩
  · exact hq
  · show q.length + 0 ≤ _
    omega
  · show 2 * q.length + 0 + 0 + 60 * (60 - t0) < 4000
    omega
theorem xn_nf {post : Int32 → SX → Prop} {q : List Int64} (k t0 : Nat) (hPt : ∀ x, P x → tk_t x) (hd : ∀ x, tk_d x → P x) (hG : mc_G L R) (hR : xr_R L R a_lefts a_leftSize a_ways a_rights a_rightSize) (hq : tm_w q 1) (h30 : q.length ≤ 30) (hP : ∀ x, x ∈ q → P x) (ht : t0 ≤ 60) (hk : k = q.length) (hs : hd_h a_sheet 0 q)
    (H : ∀ c t' s', mc_run L R 4000 q [] t0 none = (c, t', s') → ∀ (ss ws bs uf : Int32) (zs zw zb : Nat → Int64) (us ul ms me : Nat → Int32), (c = 0 → bs = nI s'.length ∧ hd_h zb 0 s') → post (nI c) (f_drafted, f_faultPlace, f_reportedSteps, f_resultSize, ss, ws, bs, uf, nI t', f_keptSize, f_stacked, f_ranked, f_surveyed, a_draft, a_result, a_lefts, a_leftSize, a_ways, a_rights, a_rightSize, zs, zw, zb, us, ul, a_kept, ms, me, a_joint, a_unified, a_oneStack, a_otherStack, a_nestedAt, a_nestedEnd, a_rank, a_pairCount, a_firstOpen)) : wpX_normalForm post (f_drafted, f_faultPlace, f_reportedSteps, f_resultSize, nI k, f_waitingSize, f_builtSize, f_unfinished, nI t0, f_keptSize, f_stacked, f_ranked, f_surveyed, a_draft, a_result, a_lefts, a_leftSize, a_ways, a_rights, a_rightSize, a_sheet, a_waiting, a_built, a_unfinishedStart, a_unfinishedLacks, a_kept, a_matchStart, a_matchEnd, a_joint, a_unified, a_oneStack, a_otherStack, a_nestedAt, a_nestedEnd, a_rank, a_pairCount, a_firstOpen) := by
  obtain ⟨hI, hmu⟩ := mc_I0 hq h30 hP ht
  unfold wpX_normalForm
  dsimp only
  refine xc_line (W := []) k 0 hk rfl hs (by omega) trivial (by simp; omega) (fun z hz => ⟨4002, ?_⟩)
  rw [List.append_nil] at hz
  exact xn_l hPt hd hG hR 4000 q [] t0 none 4002 0 q.length 0 0 _ _ _ _ _ _ _ _ hI hmu (by omega) rfl rfl rfl hz trivial trivial (by omega) H
theorem xn_take_l {post : SX → Prop} {e : Nat} (he : e ≤ 30) : ∀ (l q : List Int64) (i n c : Nat) (zs : Nat → Int64), i + l.length = e → c = q.length → q.length + l.length ≤ 31 → hd_h a_draft i l → hd_h zs 0 q → l.length < n → (∀ z, hd_h z 0 (q ++ l) → post (f_drafted, f_faultPlace, f_reportedSteps, f_resultSize, nI (q ++ l).length, f_waitingSize, f_builtSize, f_unfinished, f_taken, f_keptSize, f_stacked, f_ranked, f_surveyed, a_draft, a_result, a_lefts, a_leftSize, a_ways, a_rights, a_rightSize, z, a_waiting, a_built, a_unfinishedStart, a_unfinishedLacks, a_kept, a_matchStart, a_matchEnd, a_joint, a_unified, a_oneStack, a_otherStack, a_nestedAt, a_nestedEnd, a_rank, a_pairCount, a_firstOpen)) → wX_takeToSheet__draft_8 post (nI e) n (nI i) f_drafted f_faultPlace f_reportedSteps f_resultSize (nI c) f_waitingSize f_builtSize f_unfinished f_taken f_keptSize f_stacked f_ranked f_surveyed a_draft a_result a_lefts a_leftSize a_ways a_rights a_rightSize zs a_waiting a_built a_unfinishedStart a_unfinishedLacks a_kept a_matchStart a_matchEnd a_joint a_unified a_oneStack a_otherStack a_nestedAt a_nestedEnd a_rank a_pairCount a_firstOpen
  | [], q, i, n, c, zs, h1, hc, hl, h2, h3, hn, H => by
    obtain ⟨n, rfl⟩ : ∃ n', n = n' + 1 := ⟨n - 1, by omega⟩
    rw [List.length_nil] at h1
    rw [List.append_nil, ← hc] at H
    exact pk_le e i (fun _ => H zs h3) (fun z => absurd z (by omega))
  | t :: l, q, i, n, c, zs, h1, hc, hl, h2, h3, hn, H => by
    obtain ⟨n, rfl⟩ : ∃ n', n = n' + 1 := ⟨n - 1, by omega⟩
    rw [List.length_cons] at h1 hn hl
    refine pk_le e i (fun z => absurd z (by omega)) (fun _ => ⟨vp_in_nI (by omega) (by omega), ?_⟩)
    have et : a_draft (nI i).toNatClampNeg = t := by rw [nI_clamp (by omega)]; exact h2.1
    rw [et]
    subst hc
    have e3 : q ++ t :: l = (q ++ [t]) ++ l := by rw [List.append_assoc]; rfl
    rw [e3] at H
    refine xw_put (by omega) (nm_r (nI_1 i) ?_)
    have hz := hd_snocL (x := t) h3
    rw [Nat.zero_add] at hz
    exact xn_take_l he l (q ++ [t]) (i + 1) n (q.length + 1) _ (by omega) (by simp) (by simp; omega) h2.2 hz (by omega) H
theorem xn_take {post : SX → Prop} {l : List Int64} (i e : Nat) (hi : i + l.length = e) (he : e ≤ 30) (hh : hd_h a_draft i l) (H : ∀ z, hd_h z 0 l → post (f_drafted, f_faultPlace, f_reportedSteps, f_resultSize, nI l.length, f_waitingSize, f_builtSize, f_unfinished, f_taken, f_keptSize, f_stacked, f_ranked, f_surveyed, a_draft, a_result, a_lefts, a_leftSize, a_ways, a_rights, a_rightSize, z, a_waiting, a_built, a_unfinishedStart, a_unfinishedLacks, a_kept, a_matchStart, a_matchEnd, a_joint, a_unified, a_oneStack, a_otherStack, a_nestedAt, a_nestedEnd, a_rank, a_pairCount, a_firstOpen)) : wpX_takeToSheet__draft post (f_drafted, f_faultPlace, f_reportedSteps, f_resultSize, f_sheetSize, f_waitingSize, f_builtSize, f_unfinished, f_taken, f_keptSize, f_stacked, f_ranked, f_surveyed, a_draft, a_result, a_lefts, a_leftSize, a_ways, a_rights, a_rightSize, a_sheet, a_waiting, a_built, a_unfinishedStart, a_unfinishedLacks, a_kept, a_matchStart, a_matchEnd, a_joint, a_unified, a_oneStack, a_otherStack, a_nestedAt, a_nestedEnd, a_rank, a_pairCount, a_firstOpen) (nI i) (nI e) := by
  refine ⟨l.length + 1, ?_⟩
  rw [← nI_0]
  exact xn_take_l he l [] i _ 0 a_sheet hi rfl (by simp; omega) hh trivial (by omega) H
theorem xn_keep_l {post : SX → Prop} {B : Nat} (hB : B ≤ 30) : ∀ (l q : List Int64) (k n c : Nat) (zk : Nat → Int64), q.length = k → c = k → k + l.length = B → hd_h a_built k l → hd_h zk 0 q → l.length < n → (∀ z, hd_h z 0 (q ++ l) → post (f_drafted, f_faultPlace, f_reportedSteps, f_resultSize, f_sheetSize, f_waitingSize, nI B, f_unfinished, f_taken, nI B, f_stacked, f_ranked, f_surveyed, a_draft, a_result, a_lefts, a_leftSize, a_ways, a_rights, a_rightSize, a_sheet, a_waiting, a_built, a_unfinishedStart, a_unfinishedLacks, z, a_matchStart, a_matchEnd, a_joint, a_unified, a_oneStack, a_otherStack, a_nestedAt, a_nestedEnd, a_rank, a_pairCount, a_firstOpen)) → wX_keepBuilt_7 post f_drafted f_faultPlace f_reportedSteps f_resultSize f_sheetSize f_waitingSize (nI B) f_unfinished f_taken f_stacked f_ranked f_surveyed n (nI k) (nI c) a_draft a_result a_lefts a_leftSize a_ways a_rights a_rightSize a_sheet a_waiting a_built a_unfinishedStart a_unfinishedLacks zk a_matchStart a_matchEnd a_joint a_unified a_oneStack a_otherStack a_nestedAt a_nestedEnd a_rank a_pairCount a_firstOpen
  | [], q, k, n, c, zk, h0, hc, h1, h2, h3, hn, H => by
    obtain ⟨n, rfl⟩ : ∃ n', n = n' + 1 := ⟨n - 1, by omega⟩
    rw [List.length_nil] at h1
    rw [List.append_nil] at H
    refine pk_le B k (fun _ => ?_) (fun z => absurd z (by omega))
    rw [hc, show k = B by omega]
    exact H zk h3
  | t :: l, q, k, n, c, zk, h0, hc, h1, h2, h3, hn, H => by
    obtain ⟨n, rfl⟩ : ∃ n', n = n' + 1 := ⟨n - 1, by omega⟩
    rw [List.length_cons] at h1 hn
    refine pk_le B k (fun z => absurd z (by omega)) (fun _ => ?_)
    refine pk_le 30 k (fun z => absurd z (by omega)) (fun _ => ⟨vp_in_nI (by omega) (by omega), vp_in_nI (by omega) (by omega), ?_⟩)
    have e3 : q ++ t :: l = (q ++ [t]) ++ l := by rw [List.append_assoc]; rfl
    rw [e3] at H
    refine nm_r (e' := vp_updL zk k t) (by rw [nI_clamp (by omega), h2.1]) (nm_r (nI_1 c) (nm_r (nI_1 k) ?_))
    refine xn_keep_l hB l (q ++ [t]) (k + 1) n (c + 1) _ (by simp; omega) (by omega) (by omega) h2.2 ?_ (by omega) H
    have := hd_snocL (x := t) h3
    rwa [Nat.zero_add, h0] at this
theorem xn_keep {post : SX → Prop} {l : List Int64} (B : Nat) (hB : B = l.length) (h30 : B ≤ 30) (hh : hd_h a_built 0 l) (H : ∀ z, hd_h z 0 l → post (f_drafted, f_faultPlace, f_reportedSteps, f_resultSize, f_sheetSize, f_waitingSize, nI B, f_unfinished, f_taken, nI B, f_stacked, f_ranked, f_surveyed, a_draft, a_result, a_lefts, a_leftSize, a_ways, a_rights, a_rightSize, a_sheet, a_waiting, a_built, a_unfinishedStart, a_unfinishedLacks, z, a_matchStart, a_matchEnd, a_joint, a_unified, a_oneStack, a_otherStack, a_nestedAt, a_nestedEnd, a_rank, a_pairCount, a_firstOpen)) : wpX_keepBuilt post (f_drafted, f_faultPlace, f_reportedSteps, f_resultSize, f_sheetSize, f_waitingSize, nI B, f_unfinished, f_taken, f_keptSize, f_stacked, f_ranked, f_surveyed, a_draft, a_result, a_lefts, a_leftSize, a_ways, a_rights, a_rightSize, a_sheet, a_waiting, a_built, a_unfinishedStart, a_unfinishedLacks, a_kept, a_matchStart, a_matchEnd, a_joint, a_unified, a_oneStack, a_otherStack, a_nestedAt, a_nestedEnd, a_rank, a_pairCount, a_firstOpen) :=
  ⟨l.length + 1, xn_keep_l h30 l [] 0 _ 0 a_kept rfl rfl (by omega) hh trivial (by omega) H⟩
/-- whatever lies in `built` -/
theorem xn_keepany_l {post : SX → Prop} {bs : Int32} (H : ∀ ks z, post (f_drafted, f_faultPlace, f_reportedSteps, f_resultSize, f_sheetSize, f_waitingSize, bs, f_unfinished, f_taken, ks, f_stacked, f_ranked, f_surveyed, a_draft, a_result, a_lefts, a_leftSize, a_ways, a_rights, a_rightSize, a_sheet, a_waiting, a_built, a_unfinishedStart, a_unfinishedLacks, z, a_matchStart, a_matchEnd, a_joint, a_unified, a_oneStack, a_otherStack, a_nestedAt, a_nestedEnd, a_rank, a_pairCount, a_firstOpen)) : ∀ (d k n : Nat) (c : Int32) (zk : Nat → Int64), k + d = 30 → d < n → wX_keepBuilt_7 post f_drafted f_faultPlace f_reportedSteps f_resultSize f_sheetSize f_waitingSize bs f_unfinished f_taken f_stacked f_ranked f_surveyed n (nI k) c a_draft a_result a_lefts a_leftSize a_ways a_rights a_rightSize a_sheet a_waiting a_built a_unfinishedStart a_unfinishedLacks zk a_matchStart a_matchEnd a_joint a_unified a_oneStack a_otherStack a_nestedAt a_nestedEnd a_rank a_pairCount a_firstOpen
  | 0, k, n, c, zk, hk, hn => by
    obtain ⟨n, rfl⟩ : ∃ n', n = n' + 1 := ⟨n - 1, by omega⟩
    refine br_c (fun _ => H c zk) (fun _ => ?_)
    exact pk_le 30 k (fun _ => H c zk) (fun z => absurd z (by omega))
  | d + 1, k, n, c, zk, hk, hn => by
    obtain ⟨n, rfl⟩ : ∃ n', n = n' + 1 := ⟨n - 1, by omega⟩
    refine br_c (fun _ => H c zk) (fun _ => ?_)
    refine pk_le 30 k (fun _ => H c zk) (fun _ => ⟨vp_in_nI (by omega) (by omega), vp_in_nI (by omega) (by omega), ?_⟩)
    exact nm_e (nm_e (nm_r (nI_1 k) (xn_keepany_l H d (k + 1) n _ _ (by omega) (by omega))))
theorem xn_keepany {post : SX → Prop} {bs : Int32} (H : ∀ ks z, post (f_drafted, f_faultPlace, f_reportedSteps, f_resultSize, f_sheetSize, f_waitingSize, bs, f_unfinished, f_taken, ks, f_stacked, f_ranked, f_surveyed, a_draft, a_result, a_lefts, a_leftSize, a_ways, a_rights, a_rightSize, a_sheet, a_waiting, a_built, a_unfinishedStart, a_unfinishedLacks, z, a_matchStart, a_matchEnd, a_joint, a_unified, a_oneStack, a_otherStack, a_nestedAt, a_nestedEnd, a_rank, a_pairCount, a_firstOpen)) : wpX_keepBuilt post (f_drafted, f_faultPlace, f_reportedSteps, f_resultSize, f_sheetSize, f_waitingSize, bs, f_unfinished, f_taken, f_keptSize, f_stacked, f_ranked, f_surveyed, a_draft, a_result, a_lefts, a_leftSize, a_ways, a_rights, a_rightSize, a_sheet, a_waiting, a_built, a_unfinishedStart, a_unfinishedLacks, a_kept, a_matchStart, a_matchEnd, a_joint, a_unified, a_oneStack, a_otherStack, a_nestedAt, a_nestedEnd, a_rank, a_pairCount, a_firstOpen) :=
  ⟨31, xn_keepany_l H 30 0 31 0 a_kept rfl (by omega)⟩
theorem xn_same_l {post : Int32 → Prop} {K : Nat} (hK : K ≤ 30) : ∀ (a b : List Int64) (k n : Nat), a.length = b.length → k + a.length = K → hd_h a_kept k a → hd_h a_built k b → a.length < n → (a = b → post 1) → (a ≠ b → post 0) → wX_isBuiltAsKept_15 post f_drafted f_faultPlace f_reportedSteps f_resultSize f_sheetSize f_waitingSize f_builtSize f_unfinished f_taken (nI K) f_stacked f_ranked f_surveyed a_draft a_result a_lefts a_leftSize a_ways a_rights a_rightSize a_sheet a_waiting a_built a_unfinishedStart a_unfinishedLacks a_kept a_matchStart a_matchEnd a_joint a_unified a_oneStack a_otherStack a_nestedAt a_nestedEnd a_rank a_pairCount a_firstOpen n (nI k)
  | [], [], k, n, he, h1, h2, h3, hn, hy, hz => by
    obtain ⟨n, rfl⟩ : ∃ n', n = n' + 1 := ⟨n - 1, by omega⟩
    rw [List.length_nil] at h1
    exact pk_le K k (fun _ => hy rfl) (fun z => absurd z (by omega))
  | [], y :: b, k, n, he, h1, h2, h3, hn, hy, hz => by simp at he
  | x :: a, [], k, n, he, h1, h2, h3, hn, hy, hz => by simp at he
  | x :: a, y :: b, k, n, he, h1, h2, h3, hn, hy, hz => by
    obtain ⟨n, rfl⟩ : ∃ n', n = n' + 1 := ⟨n - 1, by omega⟩
    rw [List.length_cons] at h1 hn
    refine pk_le K k (fun z => absurd z (by omega)) (fun _ => ⟨vp_in_nI (by omega) (by omega), vp_in_nI (by omega) (by omega), ?_⟩)
    rw [nI_clamp (by omega), h2.1, h3.1]
    by_cases h : x = y
    · refine br_t h (nm_r (nI_1 k) (xn_same_l hK a b (k + 1) n (by simpa using he) (by omega) h2.2 h3.2 (by omega) (fun e => hy (by rw [h, e])) (fun e => hz (fun z => e (by injection z)))))
    · exact br_f h (hz (fun z => h (by injection z)))
theorem xn_same {post : Int32 → Prop} {a b : List Int64} (K B : Nat) (hK : K = a.length) (hB : B = b.length) (hK30 : K ≤ 30) (hB30 : B ≤ 30) (h2 : hd_h a_kept 0 a) (h3 : hd_h a_built 0 b) (hy : a = b → post 1) (hz : a ≠ b → post 0) : wpX_isBuiltAsKept post (f_drafted, f_faultPlace, f_reportedSteps, f_resultSize, f_sheetSize, f_waitingSize, nI B, f_unfinished, f_taken, nI K, f_stacked, f_ranked, f_surveyed, a_draft, a_result, a_lefts, a_leftSize, a_ways, a_rights, a_rightSize, a_sheet, a_waiting, a_built, a_unfinishedStart, a_unfinishedLacks, a_kept, a_matchStart, a_matchEnd, a_joint, a_unified, a_oneStack, a_otherStack, a_nestedAt, a_nestedEnd, a_rank, a_pairCount, a_firstOpen) := by
  refine pk_eq K B (fun e => ⟨a.length + 1, ?_⟩) (fun e => hz (fun z => e (by rw [hK, hB, z])))
  rw [← nI_0]
  exact xn_same_l hK30 a b 0 _ (by omega) (by omega) h2 h3 (by omega) hy hz
end
end
section
/-! the reference: what its arrays hold, where terms end -/
def hd_y (dk dv : Int64 → Int32) (ka va : Nat → Int32) : Nat → List Int64 → Prop
  | _, [] => True
  | i, t :: l => (ka i = dk t ∧ va i = dv t) ∧ hd_y dk dv ka va (i + 1) l
section
variable {dk dv : Int64 → Int32} {ka va ka' va' : Nat → Int32}
theorem hy_app : ∀ {a b : List Int64} {i : Nat}, hd_y dk dv ka va i (a ++ b) ↔ hd_y dk dv ka va i a ∧ hd_y dk dv ka va (i + a.length) b
  | [], b, i => by
    show hd_y dk dv ka va i b ↔ True ∧ hd_y dk dv ka va (i + 0) b
    rw [Nat.add_zero, true_and]
  | t :: a, b, i => by
    show (_ ∧ hd_y dk dv ka va (i + 1) (a ++ b)) ↔ (_ ∧ hd_y dk dv ka va (i + 1) a) ∧ hd_y dk dv ka va (i + (a.length + 1)) b
    rw [hy_app, show i + 1 + a.length = i + (a.length + 1) by omega]
    exact and_assoc.symm
theorem hy_congr : ∀ {l : List Int64} {i : Nat}, (∀ j, i ≤ j → j < i + l.length → ka' j = ka j ∧ va' j = va j) → hd_y dk dv ka va i l → hd_y dk dv ka' va' i l
  | [], i, _, _ => trivial
  | t :: l, i, h, h1 => by
    have h0 := h i (by omega) (by simp only [List.length_cons]; omega)
    refine ⟨⟨h0.1.trans h1.1.1, h0.2.trans h1.1.2⟩, hy_congr (fun j a b => h j (by omega) (by simp only [List.length_cons]; omega)) h1.2⟩
theorem hy_upd {l : List Int64} {i k : Nat} {x y : Int32} (h : hd_y dk dv ka va i l) (hk : k < i ∨ i + l.length ≤ k) : hd_y dk dv (upd ka k x) (upd va k y) i l :=
  hy_congr (fun j a b => ⟨pk_un (by omega), pk_un (by omega)⟩) h
theorem hy_snoc {l : List Int64} {i : Nat} (k : Nat) {t : Int64} (hk : k = i + l.length) (h : hd_y dk dv ka va i l) : hd_y dk dv (upd ka k (dk t)) (upd va k (dv t)) i (l ++ [t]) := by
  subst hk
  exact hy_app.mpr ⟨hy_upd h (Or.inr (by omega)), ⟨pk_us, pk_us⟩, trivial⟩
theorem hy_get : ∀ {l : List Int64} {i j : Nat} (_ : hd_y dk dv ka va i l) (hj : j < l.length), ka (i + j) = dk l[j] ∧ va (i + j) = dv l[j]
  | t :: l, i, 0, h, hj => h.1
  | t :: l, i, j + 1, h, hj => by
    have := hy_get (i := i + 1) (j := j) h.2 (by simp only [List.length_cons] at hj; omega)
    rw [show i + 1 + j = i + (j + 1) by omega] at this
    exact this
end
theorem hy_dT {ka va : Nat → Int32} : ∀ {l : List Int64} {i : Nat}, (∀ t, t ∈ l → tk_d t) → hd_y tk_kR tk_vR ka va i l → hd_y tk_kT tk_vT ka va i l
  | [], i, _, _ => trivial
  | t :: l, i, h, h1 => by
    obtain ⟨e1, e2⟩ := tk_dT (h t (List.mem_cons.mpr (Or.inl rfl)))
    exact ⟨⟨h1.1.1.trans e1, h1.1.2.trans e2⟩, hy_dT (fun x hx => h x (List.mem_cons.mpr (Or.inr hx))) h1.2⟩
theorem ya_step (k a : Nat) : nI (k + 1) + (nI a - 1) = nI (k + a) := by
  rw [← nI_1, ← nI_add]
  grind
section
variable {f_place f_count f_top f_done f_open f_steps f_shownSteps f_fault f_in f_made f_old f_size f_heads f_fresh : Int32} {a_kind a_value a_all a_split a_toKind a_doneKind a_toValue a_doneValue a_begins a_lacks a_inKind a_leftKind a_madeKind a_oldKind a_resultKind a_inValue a_leftValue a_madeValue a_oldValue a_resultValue a_from a_to a_whole a_known a_bound a_whose a_rank a_one a_two a_oneOf a_twoOf a_headAt a_headOf a_headLeft a_pairs a_first : Nat → Int32}
theorem ye_end_l {post : Int32 → Prop} : ∀ (a r : List Int64) (m i n e q : Nat), e = i + a.length + r.length → q = i + a.length → tm_w a m → hd_y tk_kR tk_vR a_kind a_value i a → (∀ t, t ∈ a → tk_r t) → e ≤ 270 → a.length < n → post (nI q) → wY_endOf_5 post (nI e) f_place f_count f_top f_done f_open f_steps f_shownSteps f_fault f_in f_made f_old f_size f_heads f_fresh a_kind a_value a_all a_split a_toKind a_doneKind a_toValue a_doneValue a_begins a_lacks a_inKind a_leftKind a_madeKind a_oldKind a_resultKind a_inValue a_leftValue a_madeValue a_oldValue a_resultValue a_from a_to a_whole a_known a_bound a_whose a_rank a_one a_two a_oneOf a_twoOf a_headAt a_headOf a_headLeft a_pairs a_first n (nI m) (nI i)
  | [], r, m, i, n, e, q, he, hq, hw, hh, ht, hl, hn, hp => by
    obtain ⟨n, rfl⟩ : ∃ n', n = n' + 1 := ⟨n - 1, by omega⟩
    rw [tm_w_nil] at hw
    subst hw
    have hq' : q = i := hq
    subst hq'
    exact br_t (Int32.le_refl _) (br_t (Int32.le_refl _) hp)
  | t :: a, r, m, i, n, e, q, he, hq, hw, hh, ht, hl, hn, hp => by
    obtain ⟨n, rfl⟩ : ∃ n', n = n' + 1 := ⟨n - 1, by omega⟩
    have hlen : (t :: a).length = a.length + 1 := rfl
    rw [hlen] at he hq hn
    have hml := tm_w_len _ _ hw
    obtain ⟨k, rfl, h1⟩ := tm_w_ne hw
    rw [hlen] at hml
    have hin : vp_in (nI i) 270 := vp_in_nI (by omega) (by omega)
    refine pk_le (k + 1) 0 (fun z => absurd z (by omega)) (fun _ => ?_)
    refine pk_le e i (fun z => absurd z (by omega)) (fun _ => ⟨hin, hin, ?_⟩)
    rw [nI_clamp (by omega), hh.1.1, hh.1.2]
    refine tk_arR (ht t (List.mem_cons.mpr (Or.inl rfl))) (nm_r (ya_step k _) (nm_r (nI_1 i) ?_))
    exact ye_end_l a r _ (i + 1) n e q (by omega) (by omega) h1 hh.2 (fun x hx => ht x (List.mem_cons.mpr (Or.inr hx))) hl (by omega) hp
theorem ye_end {post : Int32 → Prop} {a : List Int64} (i e q : Nat) (hw : tm_w a 1) (hh : hd_y tk_kR tk_vR a_kind a_value i a) (ht : ∀ t, t ∈ a → tk_r t) (he : i + a.length ≤ e) (hq : q = i + a.length) (hl : e ≤ 270) (hp : post (nI q)) : wpY_endOf post (f_place, f_count, f_top, f_done, f_open, f_steps, f_shownSteps, f_fault, f_in, f_made, f_old, f_size, f_heads, f_fresh, a_kind, a_value, a_all, a_split, a_toKind, a_doneKind, a_toValue, a_doneValue, a_begins, a_lacks, a_inKind, a_leftKind, a_madeKind, a_oldKind, a_resultKind, a_inValue, a_leftValue, a_madeValue, a_oldValue, a_resultValue, a_from, a_to, a_whole, a_known, a_bound, a_whose, a_rank, a_one, a_two, a_oneOf, a_twoOf, a_headAt, a_headOf, a_headLeft, a_pairs, a_first) (nI i) (nI e) := by
  obtain ⟨r, hr⟩ : ∃ r : List Int64, r.length = e - (i + a.length) := ⟨List.replicate (e - (i + a.length)) 0, List.length_replicate⟩
  exact ⟨a.length + 1, ye_end_l a r 1 i _ e q (by omega) hq hw hh ht hl (by omega) hp⟩
theorem ye_done_l {post : Int32 → Prop} : ∀ (a : List Int64) (m i n q : Nat), q = i + a.length → tm_w a m → hd_y tk_kT tk_vT a_doneKind a_doneValue i a → (∀ t, t ∈ a → tk_t t) → q ≤ 2400 → a.length < n → post (nI q) → wY_doneEnd_4 post f_place f_count f_top f_done f_open f_steps f_shownSteps f_fault f_in f_made f_old f_size f_heads f_fresh a_kind a_value a_all a_split a_toKind a_doneKind a_toValue a_doneValue a_begins a_lacks a_inKind a_leftKind a_madeKind a_oldKind a_resultKind a_inValue a_leftValue a_madeValue a_oldValue a_resultValue a_from a_to a_whole a_known a_bound a_whose a_rank a_one a_two a_oneOf a_twoOf a_headAt a_headOf a_headLeft a_pairs a_first n (nI m) (nI i)
  | [], m, i, n, q, hq, hw, hh, ht, hl, hn, hp => by
    obtain ⟨n, rfl⟩ : ∃ n', n = n' + 1 := ⟨n - 1, by omega⟩
    rw [tm_w_nil] at hw
    subst hw
    have hq' : q = i := hq
    subst hq'
    exact br_t (Int32.le_refl _) hp
  | t :: a, m, i, n, q, hq, hw, hh, ht, hl, hn, hp => by
    obtain ⟨n, rfl⟩ : ∃ n', n = n' + 1 := ⟨n - 1, by omega⟩
    have hlen : (t :: a).length = a.length + 1 := rfl
    rw [hlen] at hq hn
    have hml := tm_w_len _ _ hw
    obtain ⟨k, rfl, h1⟩ := tm_w_ne hw
    rw [hlen] at hml
    have hin : vp_in (nI i) 2400 := vp_in_nI (by omega) (by omega)
    refine pk_le (k + 1) 0 (fun z => absurd z (by omega)) (fun _ => ⟨hin, hin, ?_⟩)
    rw [nI_clamp (by omega), hh.1.1, hh.1.2]
    refine tk_arT (ht t (List.mem_cons.mpr (Or.inl rfl))) (nm_r (ya_step k _) (nm_r (nI_1 i) ?_))
    exact ye_done_l a _ (i + 1) n q (by omega) h1 hh.2 (fun x hx => ht x (List.mem_cons.mpr (Or.inr hx))) hl (by omega) hp
theorem ye_done {post : Int32 → Prop} {a : List Int64} (i q : Nat) (hw : tm_w a 1) (hh : hd_y tk_kT tk_vT a_doneKind a_doneValue i a) (ht : ∀ t, t ∈ a → tk_t t) (hq : q = i + a.length) (hl : q ≤ 2400) (hp : post (nI q)) : wpY_doneEnd post (f_place, f_count, f_top, f_done, f_open, f_steps, f_shownSteps, f_fault, f_in, f_made, f_old, f_size, f_heads, f_fresh, a_kind, a_value, a_all, a_split, a_toKind, a_doneKind, a_toValue, a_doneValue, a_begins, a_lacks, a_inKind, a_leftKind, a_madeKind, a_oldKind, a_resultKind, a_inValue, a_leftValue, a_madeValue, a_oldValue, a_resultValue, a_from, a_to, a_whole, a_known, a_bound, a_whose, a_rank, a_one, a_two, a_oneOf, a_twoOf, a_headAt, a_headOf, a_headLeft, a_pairs, a_first) (nI i) :=
  ⟨a.length + 1, ye_done_l a 1 i _ q hq hw hh ht hl (by omega) hp⟩
theorem ye_left_l {post : Int32 → Prop} : ∀ (a : List Int64) (m i n q : Nat), q = i + a.length → tm_w a m → hd_y tk_kR tk_vR a_leftKind a_leftValue i a → (∀ t, t ∈ a → tk_r t) → q ≤ 32 → a.length < n → post (nI q) → wY_leftEnd_4 post f_place f_count f_top f_done f_open f_steps f_shownSteps f_fault f_in f_made f_old f_size f_heads f_fresh a_kind a_value a_all a_split a_toKind a_doneKind a_toValue a_doneValue a_begins a_lacks a_inKind a_leftKind a_madeKind a_oldKind a_resultKind a_inValue a_leftValue a_madeValue a_oldValue a_resultValue a_from a_to a_whole a_known a_bound a_whose a_rank a_one a_two a_oneOf a_twoOf a_headAt a_headOf a_headLeft a_pairs a_first n (nI m) (nI i)
  | [], m, i, n, q, hq, hw, hh, ht, hl, hn, hp => by
    obtain ⟨n, rfl⟩ : ∃ n', n = n' + 1 := ⟨n - 1, by omega⟩
    rw [tm_w_nil] at hw
    subst hw
    have hq' : q = i := hq
    subst hq'
    exact br_t (Int32.le_refl _) hp
  | t :: a, m, i, n, q, hq, hw, hh, ht, hl, hn, hp => by
    obtain ⟨n, rfl⟩ : ∃ n', n = n' + 1 := ⟨n - 1, by omega⟩
    have hlen : (t :: a).length = a.length + 1 := rfl
    rw [hlen] at hq hn
    have hml := tm_w_len _ _ hw
    obtain ⟨k, rfl, h1⟩ := tm_w_ne hw
    rw [hlen] at hml
    have hin : vp_in (nI i) 32 := vp_in_nI (by omega) (by omega)
    refine pk_le (k + 1) 0 (fun z => absurd z (by omega)) (fun _ => ⟨hin, hin, ?_⟩)
    rw [nI_clamp (by omega), hh.1.1, hh.1.2]
    refine tk_arR (ht t (List.mem_cons.mpr (Or.inl rfl))) (nm_r (ya_step k _) (nm_r (nI_1 i) ?_))
    exact ye_left_l a _ (i + 1) n q (by omega) h1 hh.2 (fun x hx => ht x (List.mem_cons.mpr (Or.inr hx))) hl (by omega) hp
theorem ye_left {post : Int32 → Prop} {a : List Int64} (i q : Nat) (hw : tm_w a 1) (hh : hd_y tk_kR tk_vR a_leftKind a_leftValue i a) (ht : ∀ t, t ∈ a → tk_r t) (hq : q = i + a.length) (hl : q ≤ 32) (hp : post (nI q)) : wpY_leftEnd post (f_place, f_count, f_top, f_done, f_open, f_steps, f_shownSteps, f_fault, f_in, f_made, f_old, f_size, f_heads, f_fresh, a_kind, a_value, a_all, a_split, a_toKind, a_doneKind, a_toValue, a_doneValue, a_begins, a_lacks, a_inKind, a_leftKind, a_madeKind, a_oldKind, a_resultKind, a_inValue, a_leftValue, a_madeValue, a_oldValue, a_resultValue, a_from, a_to, a_whole, a_known, a_bound, a_whose, a_rank, a_one, a_two, a_oneOf, a_twoOf, a_headAt, a_headOf, a_headLeft, a_pairs, a_first) (nI i) :=
  ⟨a.length + 1, ye_left_l a 1 i _ q hq hw hh ht hl (by omega) hp⟩
theorem yr_read {post : SY → Prop} {t : Int64} (k : Nat) (hk : k < 2400) (H : post (f_place, f_count, nI (k + 1), f_done, f_open, f_steps, f_shownSteps, f_fault, f_in, f_made, f_old, f_size, f_heads, f_fresh, a_kind, a_value, a_all, a_split, upd a_toKind k (tk_kT t), a_doneKind, upd a_toValue k (tk_vT t), a_doneValue, a_begins, a_lacks, a_inKind, a_leftKind, a_madeKind, a_oldKind, a_resultKind, a_inValue, a_leftValue, a_madeValue, a_oldValue, a_resultValue, a_from, a_to, a_whole, a_known, a_bound, a_whose, a_rank, a_one, a_two, a_oneOf, a_twoOf, a_headAt, a_headOf, a_headLeft, a_pairs, a_first)) : wpY_read post (f_place, f_count, nI k, f_done, f_open, f_steps, f_shownSteps, f_fault, f_in, f_made, f_old, f_size, f_heads, f_fresh, a_kind, a_value, a_all, a_split, a_toKind, a_doneKind, a_toValue, a_doneValue, a_begins, a_lacks, a_inKind, a_leftKind, a_madeKind, a_oldKind, a_resultKind, a_inValue, a_leftValue, a_madeValue, a_oldValue, a_resultValue, a_from, a_to, a_whole, a_known, a_bound, a_whose, a_rank, a_one, a_two, a_oneOf, a_twoOf, a_headAt, a_headOf, a_headLeft, a_pairs, a_first) (tk_kT t) (tk_vT t) := by
  have hin : vp_in (nI k) 2400 := vp_in_nI hk (by omega)
  have ek : (nI k).toNatClampNeg = k := nI_clamp (by omega)
  refine ⟨hin, nm_r (e' := upd a_toKind k (tk_kT t)) (by rw [ek, (tk_narT t).2]) (nm_r (nI_1 k) ⟨hin, nm_r (e' := upd a_toValue k (tk_vT t)) (by rw [ek]) H⟩)⟩
theorem yr_fin {post : SY → Prop} {t : Int64} (k : Nat) (hk : k < 2400) (H : post (f_place, f_count, f_top, nI (k + 1), f_open, f_steps, f_shownSteps, f_fault, f_in, f_made, f_old, f_size, f_heads, f_fresh, a_kind, a_value, a_all, a_split, a_toKind, upd a_doneKind k (tk_kT t), a_toValue, upd a_doneValue k (tk_vT t), a_begins, a_lacks, a_inKind, a_leftKind, a_madeKind, a_oldKind, a_resultKind, a_inValue, a_leftValue, a_madeValue, a_oldValue, a_resultValue, a_from, a_to, a_whole, a_known, a_bound, a_whose, a_rank, a_one, a_two, a_oneOf, a_twoOf, a_headAt, a_headOf, a_headLeft, a_pairs, a_first)) : wpY_finish post (f_place, f_count, f_top, nI k, f_open, f_steps, f_shownSteps, f_fault, f_in, f_made, f_old, f_size, f_heads, f_fresh, a_kind, a_value, a_all, a_split, a_toKind, a_doneKind, a_toValue, a_doneValue, a_begins, a_lacks, a_inKind, a_leftKind, a_madeKind, a_oldKind, a_resultKind, a_inValue, a_leftValue, a_madeValue, a_oldValue, a_resultValue, a_from, a_to, a_whole, a_known, a_bound, a_whose, a_rank, a_one, a_two, a_oneOf, a_twoOf, a_headAt, a_headOf, a_headLeft, a_pairs, a_first) (tk_kT t) (tk_vT t) := by
  have hin : vp_in (nI k) 2400 := vp_in_nI hk (by omega)
  have ek : (nI k).toNatClampNeg = k := nI_clamp (by omega)
  refine ⟨hin, nm_r (e' := upd a_doneKind k (tk_kT t)) (by rw [ek, (tk_narT t).2]) (nm_r (nI_1 k) ⟨hin, nm_r (e' := upd a_doneValue k (tk_vT t)) (by rw [ek]) H⟩)⟩
end
end
section
/-! the reference: rotations, the order of the arguments -/
/-- the same below i -/
def hy_o (f g : Nat → Int32) (i : Nat) : Prop := ∀ j, j < i → g j = f j
theorem hy_keep {dk dv : Int64 → Int32} {ka va ka' va' : Nat → Int32} {l : List Int64} {i k : Nat} (h : hd_y dk dv ka va k l) (h1 : hy_o ka ka' i) (h2 : hy_o va va' i) (hk : k + l.length ≤ i) : hd_y dk dv ka' va' k l :=
  hy_congr (fun j a b => ⟨h1 j (by omega), h2 j (by omega)⟩) h
section
variable {f_place f_count f_top f_done f_open f_steps f_shownSteps f_fault f_in f_made f_old f_size f_heads f_fresh : Int32} {a_kind a_value a_all a_split a_toKind a_doneKind a_toValue a_doneValue a_begins a_lacks a_inKind a_leftKind a_madeKind a_oldKind a_resultKind a_inValue a_leftValue a_madeValue a_oldValue a_resultValue a_from a_to a_whole a_known a_bound a_whose a_rank a_one a_two a_oneOf a_twoOf a_headAt a_headOf a_headLeft a_pairs a_first : Nat → Int32}
theorem yt_32 {post : SY → Prop} {J7 : Int32 → (Nat → Int32) → (Nat → Int32) → (Nat → Int32) → (Nat → Int32) → (Nat → Int32) → (Nat → Int32) → (Nat → Int32) → (Nat → Int32) → (Nat → Int32) → (Nat → Int32) → (Nat → Int32) → (Nat → Int32) → (Nat → Int32) → (Nat → Int32) → (Nat → Int32) → (Nat → Int32) → (Nat → Int32) → (Nat → Int32) → (Nat → Int32) → (Nat → Int32) → (Nat → Int32) → (Nat → Int32) → (Nat → Int32) → (Nat → Int32) → (Nat → Int32) → (Nat → Int32) → (Nat → Int32) → (Nat → Int32) → (Nat → Int32) → (Nat → Int32) → (Nat → Int32) → (Nat → Int32) → (Nat → Int32) → (Nat → Int32) → (Nat → Int32) → (Nat → Int32) → Prop} {x1 x3 x5 x6 : Int32} {x4 fr D : Nat} {x : Int64} {k0 v0 : Nat → Int32} (hD : D ≤ 2400) (h5 : x5 = tk_kT x) (h6 : x6 = tk_vT x) : ∀ (rest d : List Int64) (y : Int64) (ka va : Nat → Int32) (n i : Nat), i = fr + d.length → D = i + 1 + rest.length → hd_y tk_kT tk_vT ka va fr d → hd_y tk_kT tk_vT ka va i (y :: rest) → hy_o k0 ka fr → hy_o v0 va fr → rest.length < n → (∀ ka' va', hd_y tk_kT tk_vT ka' va' fr (d ++ (rest ++ [x])) → hy_o k0 ka' fr → hy_o v0 va' fr → J7 (nI (x4 + 1)) a_kind a_value a_all a_split a_toKind ka' a_toValue va' a_begins a_lacks a_inKind a_leftKind a_madeKind a_oldKind a_resultKind a_inValue a_leftValue a_madeValue a_oldValue a_resultValue a_from a_to a_whole a_known a_bound a_whose a_rank a_one a_two a_oneOf a_twoOf a_headAt a_headOf a_headLeft a_pairs a_first) → wY_turn_32 post J7 x1 x3 (nI x4) x5 x6 f_place f_count f_top (nI D) f_open f_steps f_shownSteps f_fault f_in f_made f_old f_size f_heads f_fresh n (nI i) a_kind a_value a_all a_split a_toKind ka a_toValue va a_begins a_lacks a_inKind a_leftKind a_madeKind a_oldKind a_resultKind a_inValue a_leftValue a_madeValue a_oldValue a_resultValue a_from a_to a_whole a_known a_bound a_whose a_rank a_one a_two a_oneOf a_twoOf a_headAt a_headOf a_headLeft a_pairs a_first
  | [], d, y, ka, va, n, i, hi, hDi, h1, h2, o1, o2, hn, H => by
    obtain ⟨n, rfl⟩ : ∃ n', n = n' + 1 := ⟨n - 1, by omega⟩
    rw [List.length_nil] at hDi
    have e : nI D - 1 = nI i := by rw [hDi]; exact nI_pred i
    have hin : vp_in (nI D - 1) 2400 := by rw [e]; exact vp_in_nI (by omega) (by omega)
    refine pk_le D (i + 1) (fun _ => ?_) (fun z => absurd z (by omega)) rfl (nI_1 i)
    refine ⟨hin, nm_r (e' := upd ka i (tk_kT x)) (by rw [e, nI_clamp (by omega), h5, (tk_narT x).1]) ⟨hin, nm_r (e' := upd va i (tk_vT x)) (by rw [e, nI_clamp (by omega), h6]) (nm_r (nI_1 x4) ?_)⟩⟩
    refine H _ _ (hy_snoc i hi h1) (fun j hj => ?_) (fun j hj => ?_)
    · rw [pk_un (by omega)]; exact o1 j hj
    · rw [pk_un (by omega)]; exact o2 j hj
  | z :: rest, d, y, ka, va, n, i, hi, hDi, h1, h2, o1, o2, hn, H => by
    obtain ⟨n, rfl⟩ : ∃ n', n = n' + 1 := ⟨n - 1, by omega⟩
    rw [List.length_cons] at hDi hn
    have e : nI i + 1 = nI (i + 1) := nI_1 i
    have hin1 : vp_in (nI i + 1) 2400 := by rw [e]; exact vp_in_nI (by omega) (by omega)
    have hin : vp_in (nI i) 2400 := vp_in_nI (by omega) (by omega)
    refine pk_le D (i + 1) (fun z => absurd z (by omega)) (fun _ => ?_) rfl e
    have hz := h2.2.1
    refine ⟨hin1, hin, nm_r (e' := upd ka i (tk_kT z)) (by rw [e, nI_clamp (by omega), nI_clamp (by omega), hz.1, (tk_narT z).1]) ⟨hin1, hin, nm_r (e' := upd va i (tk_vT z)) (by rw [e, nI_clamp (by omega), nI_clamp (by omega), hz.2]) (nm_r e ?_)⟩⟩
    refine yt_32 hD h5 h6 rest (d ++ [z]) z _ _ n (i + 1) (by rw [List.length_append, List.length_singleton]; omega) (by omega) (hy_snoc i hi h1) (hy_upd h2.2 (Or.inl (by omega))) (fun j hj => ?_) (fun j hj => ?_) (by omega) (fun ka' va' g1 g2 g3 => H ka' va' ?_ g2 g3)
    · rw [pk_un (by omega)]; exact o1 j hj
    · rw [pk_un (by omega)]; exact o2 j hj
    · rw [List.append_assoc] at g1; exact g1
theorem yt_7 {post : SY → Prop} {fr D N : Nat} {k0 v0 : Nat → Int32} (hD : D ≤ 2400) (hN : N < 2400) : ∀ (A C : List Int64) (ka va : Nat → Int32) (n k : Nat), k + A.length = N → D = fr + (A.length + C.length) → hd_y tk_kT tk_vT ka va fr (A ++ C) → hy_o k0 ka fr → hy_o v0 va fr → A.length < n → (∀ ka' va', hd_y tk_kT tk_vT ka' va' fr (C ++ A) → hy_o k0 ka' fr → hy_o v0 va' fr → post (f_place, f_count, f_top, nI D, f_open, f_steps, f_shownSteps, f_fault, f_in, f_made, f_old, f_size, f_heads, f_fresh, a_kind, a_value, a_all, a_split, a_toKind, ka', a_toValue, va', a_begins, a_lacks, a_inKind, a_leftKind, a_madeKind, a_oldKind, a_resultKind, a_inValue, a_leftValue, a_madeValue, a_oldValue, a_resultValue, a_from, a_to, a_whole, a_known, a_bound, a_whose, a_rank, a_one, a_two, a_oneOf, a_twoOf, a_headAt, a_headOf, a_headLeft, a_pairs, a_first)) → wY_turn_7 post (nI fr) (nI N) f_place f_count f_top (nI D) f_open f_steps f_shownSteps f_fault f_in f_made f_old f_size f_heads f_fresh n (nI k) a_kind a_value a_all a_split a_toKind ka a_toValue va a_begins a_lacks a_inKind a_leftKind a_madeKind a_oldKind a_resultKind a_inValue a_leftValue a_madeValue a_oldValue a_resultValue a_from a_to a_whole a_known a_bound a_whose a_rank a_one a_two a_oneOf a_twoOf a_headAt a_headOf a_headLeft a_pairs a_first
  | [], C, ka, va, n, k, hk, hDi, h1, o1, o2, hn, H => by
    obtain ⟨n, rfl⟩ : ∃ n', n = n' + 1 := ⟨n - 1, by omega⟩
    rw [List.length_nil] at hk
    rw [List.append_nil] at H
    exact pk_le N k (fun _ => H ka va h1 o1 o2) (fun z => absurd z (by omega))
  | x :: A, C, ka, va, n, k, hk, hDi, h1, o1, o2, hn, H => by
    obtain ⟨n, rfl⟩ : ∃ n', n = n' + 1 := ⟨n - 1, by omega⟩
    rw [List.length_cons] at hk hn hDi
    have hin : vp_in (nI fr) 2400 := vp_in_nI (by omega) (by omega)
    have ef : (nI fr).toNatClampNeg = fr := nI_clamp (by omega)
    refine pk_le N k (fun z => absurd z (by omega)) (fun _ => ⟨hin, nm_r (e' := tk_kT x) (by rw [ef]; exact h1.1.1) ⟨hin, nm_r (e' := tk_vT x) (by rw [ef]; exact h1.1.2) ⟨(A ++ C).length + 1, ?_⟩⟩⟩)
    refine yt_32 (x := x) (k0 := k0) (v0 := v0) hD rfl rfl (A ++ C) [] x ka va _ fr rfl (by rw [List.length_append]; omega) trivial h1 o1 o2 (by omega) (fun ka' va' g1 g2 g3 => ?_)
    rw [List.nil_append, List.append_assoc] at g1
    refine yt_7 hD hN A (C ++ [x]) ka' va' n (k + 1) (by omega) (by rw [List.length_append, List.length_singleton]; omega) g1 g2 g3 (by omega) (fun ka2 va2 e1 e2 e3 => H ka2 va2 ?_ e2 e3)
    rw [List.append_assoc] at e1
    exact e1
theorem yt_turn {post : SY → Prop} {A C : List Int64} (fr b D : Nat) (hb : b = fr + A.length) (hDe : D = fr + (A.length + C.length)) (hD : D < 2400) (hh : hd_y tk_kT tk_vT a_doneKind a_doneValue fr (A ++ C)) (H : ∀ ka' va', hd_y tk_kT tk_vT ka' va' fr (C ++ A) → hy_o a_doneKind ka' fr → hy_o a_doneValue va' fr → post (f_place, f_count, f_top, nI D, f_open, f_steps, f_shownSteps, f_fault, f_in, f_made, f_old, f_size, f_heads, f_fresh, a_kind, a_value, a_all, a_split, a_toKind, ka', a_toValue, va', a_begins, a_lacks, a_inKind, a_leftKind, a_madeKind, a_oldKind, a_resultKind, a_inValue, a_leftValue, a_madeValue, a_oldValue, a_resultValue, a_from, a_to, a_whole, a_known, a_bound, a_whose, a_rank, a_one, a_two, a_oneOf, a_twoOf, a_headAt, a_headOf, a_headLeft, a_pairs, a_first)) : wpY_turn post (f_place, f_count, f_top, nI D, f_open, f_steps, f_shownSteps, f_fault, f_in, f_made, f_old, f_size, f_heads, f_fresh, a_kind, a_value, a_all, a_split, a_toKind, a_doneKind, a_toValue, a_doneValue, a_begins, a_lacks, a_inKind, a_leftKind, a_madeKind, a_oldKind, a_resultKind, a_inValue, a_leftValue, a_madeValue, a_oldValue, a_resultValue, a_from, a_to, a_whole, a_known, a_bound, a_whose, a_rank, a_one, a_two, a_oneOf, a_twoOf, a_headAt, a_headOf, a_headLeft, a_pairs, a_first) (nI fr) (nI b) := by
  refine nm_r (e' := nI A.length) (by rw [hb, pk_sub (by omega), show fr + A.length - fr = A.length by omega]) ⟨A.length + 1, ?_⟩
  rw [← nI_0]
  exact yt_7 (k0 := a_doneKind) (v0 := a_doneValue) (by omega) (by omega) A C _ _ _ 0 (by omega) hDe hh (fun j _ => rfl) (fun j _ => rfl) (by omega) H
theorem yo_l {post : SY → Prop} {st b D : Nat} (hD : D < 2400) (hb : b ≤ D) : ∀ (la lb : List Int64) (m i n : Nat), tm_w la m → tm_w lb m → st + 1 + i + la.length = b → b + i + lb.length = D → hd_y tk_kT tk_vT a_doneKind a_doneValue (st + 1 + i) la → hd_y tk_kT tk_vT a_doneKind a_doneValue (b + i) lb → (∀ t, t ∈ la → tk_t t) → (∀ t, t ∈ lb → tk_t t) → la.length + 1 < n → (mc_cb lb la = true → wpY_turn (fun u => match u with | (f_place0, f_count0, f_top0, f_done0, f_open0, f_steps0, f_shownSteps0, f_fault0, f_in0, f_made0, f_old0, f_size0, f_heads0, f_fresh0, a_kind0, a_value0, a_all0, a_split0, a_toKind0, a_doneKind0, a_toValue0, a_doneValue0, a_begins0, a_lacks0, a_inKind0, a_leftKind0, a_madeKind0, a_oldKind0, a_resultKind0, a_inValue0, a_leftValue0, a_madeValue0, a_oldValue0, a_resultValue0, a_from0, a_to0, a_whole0, a_known0, a_bound0, a_whose0, a_rank0, a_one0, a_two0, a_oneOf0, a_twoOf0, a_headAt0, a_headOf0, a_headLeft0, a_pairs0, a_first0) => post (f_place0, f_count0, f_top0, f_done0, f_open0, f_steps0, f_shownSteps0, f_fault0, f_in0, f_made0, f_old0, f_size0, f_heads0, f_fresh0, a_kind0, a_value0, a_all0, a_split0, a_toKind0, a_doneKind0, a_toValue0, a_doneValue0, a_begins0, a_lacks0, a_inKind0, a_leftKind0, a_madeKind0, a_oldKind0, a_resultKind0, a_inValue0, a_leftValue0, a_madeValue0, a_oldValue0, a_resultValue0, a_from0, a_to0, a_whole0, a_known0, a_bound0, a_whose0, a_rank0, a_one0, a_two0, a_oneOf0, a_twoOf0, a_headAt0, a_headOf0, a_headLeft0, a_pairs0, a_first0)) (f_place, f_count, f_top, nI D, f_open, f_steps, f_shownSteps, f_fault, f_in, f_made, f_old, f_size, f_heads, f_fresh, a_kind, a_value, a_all, a_split, a_toKind, a_doneKind, a_toValue, a_doneValue, a_begins, a_lacks, a_inKind, a_leftKind, a_madeKind, a_oldKind, a_resultKind, a_inValue, a_leftValue, a_madeValue, a_oldValue, a_resultValue, a_from, a_to, a_whole, a_known, a_bound, a_whose, a_rank, a_one, a_two, a_oneOf, a_twoOf, a_headAt, a_headOf, a_headLeft, a_pairs, a_first) (nI st + 1) (nI b)) → (¬ mc_cb lb la = true → post (f_place, f_count, f_top, nI D, f_open, f_steps, f_shownSteps, f_fault, f_in, f_made, f_old, f_size, f_heads, f_fresh, a_kind, a_value, a_all, a_split, a_toKind, a_doneKind, a_toValue, a_doneValue, a_begins, a_lacks, a_inKind, a_leftKind, a_madeKind, a_oldKind, a_resultKind, a_inValue, a_leftValue, a_madeValue, a_oldValue, a_resultValue, a_from, a_to, a_whole, a_known, a_bound, a_whose, a_rank, a_one, a_two, a_oneOf, a_twoOf, a_headAt, a_headOf, a_headLeft, a_pairs, a_first)) → wY_sort_13 post (nI st) (nI b) f_place f_count f_top (nI D) f_open f_steps f_shownSteps f_fault f_in f_made f_old f_size f_heads f_fresh a_kind a_value a_all a_split a_toKind a_doneKind a_toValue a_doneValue a_begins a_lacks a_inKind a_leftKind a_madeKind a_oldKind a_resultKind a_inValue a_leftValue a_madeValue a_oldValue a_resultValue a_from a_to a_whole a_known a_bound a_whose a_rank a_one a_two a_oneOf a_twoOf a_headAt a_headOf a_headLeft a_pairs a_first n (nI i) 0
  | [], lb, m, i, n, ha, hbw, h1, h2, h3, h4, t1, t2, hn, Hy, Hz => by
    obtain ⟨n, rfl⟩ : ∃ n', n = n' + 1 := ⟨n - 1, by omega⟩
    rw [tm_w_nil] at ha
    subst ha
    have := tm_w_0 hbw
    subst this
    rw [List.length_nil] at h1 h2
    refine br_t rfl (pk_le D (b + i) (fun _ => br_t (Int32.le_refl _) (Hz (by simp [mc_cb]))) (fun z => absurd z (by omega)) rfl (nI_add _ _))
  | x :: la, [], m, i, n, ha, hbw, h1, h2, h3, h4, t1, t2, hn, Hy, Hz => by
    rw [tm_w_nil] at hbw
    subst hbw
    exact absurd ha.1 (by omega)
  | x :: la, y :: lb, m, i, n, ha, hbw, h1, h2, h3, h4, t1, t2, hn, Hy, Hz => by
    obtain ⟨n, rfl⟩ : ∃ n', n = n' + 1 := ⟨n - 1, by omega⟩
    rw [List.length_cons] at h1 h2 hn
    obtain ⟨k, rfl, hw1⟩ := tm_w_ne ha
    have hw2 := tm_w_cons.mp hbw
    have e1 : nI st + 1 + nI i = nI (st + 1 + i) := by rw [nI_1, nI_add]
    have e2 : nI b + nI i = nI (b + i) := nI_add _ _
    refine br_t rfl (pk_le D (b + i) (fun z => absurd z (by omega)) (fun _ => ?_) rfl e2)
    refine pk_le b (st + 1 + i) (fun z => absurd z (by omega)) (fun _ => ?_) rfl e1
    have i1 : vp_in (nI st + 1 + nI i) 2400 := by rw [e1]; exact vp_in_nI (by omega) (by omega)
    have i2 : vp_in (nI b + nI i) 2400 := by rw [e2]; exact vp_in_nI (by omega) (by omega)
    refine ⟨i1, i1, i2, i2, ?_⟩
    rw [e1, e2, nI_clamp (by omega), nI_clamp (by omega), h3.1.1, h3.1.2, h4.1.1, h4.1.2]
    refine tk_ord (t1 x (List.mem_cons.mpr (Or.inl rfl))) (t2 y (List.mem_cons.mpr (Or.inl rfl))) (fun e => ?_) (fun e hk => ?_) (fun e hk => ?_)
    · subst e
      rw [mc_cb_eq] at Hy Hz
      exact nm_r (nI_1 i) (yo_l hD hb la lb _ (i + 1) n hw1 hw2 (by omega) (by omega) h3.2 h4.2 (fun t ht => t1 t (List.mem_cons.mpr (Or.inr ht))) (fun t ht => t2 t (List.mem_cons.mpr (Or.inr ht))) (by omega) Hy Hz)
    · rw [mc_cb_ne (fun z => e z.symm)] at Hy
      refine nm_r (nI_1 i) ?_
      obtain ⟨n, rfl⟩ : ∃ n', n = n' + 1 := ⟨n - 1, by omega⟩
      exact br_f (by decide) (br_f (by decide) (Hy (decide_eq_true hk)))
    · rw [mc_cb_ne (fun z => e z.symm)] at Hz
      refine nm_r (nI_1 i) ?_
      obtain ⟨n, rfl⟩ : ∃ n', n = n' + 1 := ⟨n - 1, by omega⟩
      exact br_f (by decide) (br_t (by decide) (Hz (by simpa using Int64.not_lt.mp hk)))
theorem yo_sort {post : SY → Prop} {r : List Int64} (st D : Nat) (hs : tm_w (9 :: r) 1) (ht : ∀ t, t ∈ r → tk_t t) (hh : hd_y tk_kT tk_vT a_doneKind a_doneValue st (9 :: r)) (hDe : D = st + (r.length + 1)) (hD : D < 2400) (H : ∀ ka' va', hd_y tk_kT tk_vT ka' va' st (mc_or (9 :: r)) → hy_o a_doneKind ka' st → hy_o a_doneValue va' st → post (f_place, f_count, f_top, nI D, f_open, f_steps, f_shownSteps, f_fault, f_in, f_made, f_old, f_size, f_heads, f_fresh, a_kind, a_value, a_all, a_split, a_toKind, ka', a_toValue, va', a_begins, a_lacks, a_inKind, a_leftKind, a_madeKind, a_oldKind, a_resultKind, a_inValue, a_leftValue, a_madeValue, a_oldValue, a_resultValue, a_from, a_to, a_whole, a_known, a_bound, a_whose, a_rank, a_one, a_two, a_oneOf, a_twoOf, a_headAt, a_headOf, a_headLeft, a_pairs, a_first)) : wpY_sort post (f_place, f_count, f_top, nI D, f_open, f_steps, f_shownSteps, f_fault, f_in, f_made, f_old, f_size, f_heads, f_fresh, a_kind, a_value, a_all, a_split, a_toKind, a_doneKind, a_toValue, a_doneValue, a_begins, a_lacks, a_inKind, a_leftKind, a_madeKind, a_oldKind, a_resultKind, a_inValue, a_leftValue, a_madeValue, a_oldValue, a_resultValue, a_from, a_to, a_whole, a_known, a_bound, a_whose, a_rank, a_one, a_two, a_oneOf, a_twoOf, a_headAt, a_headOf, a_headLeft, a_pairs, a_first) (nI st) := by
  have hr := tm_w_cons.mp hs
  rw [ru_ar9] at hr
  obtain ⟨A, B, r', e, hA, hB, hr'⟩ := tm_2 (m := 0) hr
  have := tm_w_0 hr'
  subst this
  rw [List.append_nil] at e
  subst e
  rw [List.length_append] at hDe
  have hAt : ∀ t, t ∈ A → tk_t t := fun t h => ht t (List.mem_append.mpr (Or.inl h))
  have hBt : ∀ t, t ∈ B → tk_t t := fun t h => ht t (List.mem_append.mpr (Or.inr h))
  have hh2 := hh.2
  obtain ⟨hhA, hhB⟩ := hy_app.mp hh2
  rw [mc_or_AB hA hB] at H
  unfold wpY_sort
  dsimp only
  rw [nI_1]
  refine ye_done (st + 1) (st + 1 + A.length) hA hhA hAt rfl (by omega) ⟨A.length + 2, ?_⟩
  rw [← nI_0]
  refine yo_l (st := st) (b := st + 1 + A.length) (D := D) hD (by omega) A B 1 0 _ hA hB (by omega) (by omega) hhA hhB hAt hBt (by omega) (fun hc => ?_) (fun hc => ?_)
  · rw [if_pos hc] at H
    rw [nI_1]
    refine yt_turn (st + 1) (st + 1 + A.length) D rfl (by omega) hD hh2 (fun ka' va' g1 g2 g3 => H ka' va' ⟨⟨?_, ?_⟩, g1⟩ (fun j hj => g2 j (by omega)) (fun j hj => g3 j (by omega)))
    · rw [g2 st (by omega)]; exact hh.1.1
    · rw [g3 st (by omega)]; exact hh.1.2
  · rw [if_neg hc] at H
    exact H _ _ hh (fun j _ => rfl) (fun j _ => rfl)
end
end
section
/-! the reference: the ways of exchange -/
def hy_oo (f g : Nat → Int32) (i e : Nat) : Prop := ∀ j, (j < i ∨ e ≤ j) → g j = f j
theorem tk_9 {t : Int64} (h : tk_r t) : (tk_kR t = 0 ∧ tk_vR t = 9) ↔ t = 9 := by
  constructor
  · intro ⟨h1, h2⟩
    exact tk_R_inj h ⟨9, rfl, Or.inl (by omega)⟩ h1 h2
  · intro e; subst e; decide
theorem tm_w_suf : ∀ (a b : List Int64) (m : Nat), tm_w (a ++ b) m → ∃ k, tm_w b k
  | [], b, m, h => ⟨m, h⟩
  | t :: a, b, m, h => tm_w_suf a b _ h.2
theorem yw_bit {w k : Nat} (hw : w < 2 ^ 31) (hk : k < 32) : (nI w >>> (nI k &&& 31)) &&& 1 = nI (w / 2 ^ k % 2) := by
  rw [pk_shrN hw _ k (s_l k hk)]
  exact pk_andN (Nat.lt_of_le_of_lt (Nat.div_le_self _ _) (by omega)) 1 rfl
section
variable {f_place f_count f_top f_done f_open f_steps f_shownSteps f_fault f_in f_made f_old f_size f_heads f_fresh : Int32} {a_kind a_value a_all a_split a_toKind a_doneKind a_toValue a_doneValue a_begins a_lacks a_inKind a_leftKind a_madeKind a_oldKind a_resultKind a_inValue a_leftValue a_madeValue a_oldValue a_resultValue a_from a_to a_whole a_known a_bound a_whose a_rank a_one a_two a_oneOf a_twoOf a_headAt a_headOf a_headLeft a_pairs a_first : Nat → Int32}
theorem ys_51 {post : SY → Prop} {J20 : Int32 → (Nat → Int32) → (Nat → Int32) → (Nat → Int32) → (Nat → Int32) → (Nat → Int32) → (Nat → Int32) → (Nat → Int32) → (Nat → Int32) → (Nat → Int32) → (Nat → Int32) → (Nat → Int32) → (Nat → Int32) → (Nat → Int32) → (Nat → Int32) → (Nat → Int32) → (Nat → Int32) → (Nat → Int32) → (Nat → Int32) → (Nat → Int32) → (Nat → Int32) → (Nat → Int32) → (Nat → Int32) → (Nat → Int32) → (Nat → Int32) → (Nat → Int32) → (Nat → Int32) → (Nat → Int32) → (Nat → Int32) → (Nat → Int32) → (Nat → Int32) → (Nat → Int32) → (Nat → Int32) → (Nat → Int32) → (Nat → Int32) → (Nat → Int32) → (Nat → Int32) → Prop} {x1 x3 x6 x7 : Int32} {x5 fr E : Nat} {x : Int64} {k0 v0 : Nat → Int32} (hE : E ≤ 32) (h6 : x6 = tk_kR x) (h7 : x7 = tk_vR x) : ∀ (rest d : List Int64) (y : Int64) (ka va : Nat → Int32) (n i : Nat), i = fr + d.length → E = i + 1 + rest.length → hd_y tk_kR tk_vR ka va fr d → hd_y tk_kR tk_vR ka va i (y :: rest) → hy_oo k0 ka fr E → hy_oo v0 va fr E → rest.length < n → (∀ ka' va', hd_y tk_kR tk_vR ka' va' fr (d ++ (rest ++ [x])) → hy_oo k0 ka' fr E → hy_oo v0 va' fr E → J20 (nI (x5 + 1)) a_kind a_value a_all a_split a_toKind a_doneKind a_toValue a_doneValue a_begins a_lacks a_inKind ka' a_madeKind a_oldKind a_resultKind a_inValue va' a_madeValue a_oldValue a_resultValue a_from a_to a_whole a_known a_bound a_whose a_rank a_one a_two a_oneOf a_twoOf a_headAt a_headOf a_headLeft a_pairs a_first) → wY_swap_51 post J20 x1 x3 (nI E) (nI x5) x6 x7 f_place f_count f_top f_done f_open f_steps f_shownSteps f_fault f_in f_made f_old f_size f_heads f_fresh n (nI i) a_kind a_value a_all a_split a_toKind a_doneKind a_toValue a_doneValue a_begins a_lacks a_inKind ka a_madeKind a_oldKind a_resultKind a_inValue va a_madeValue a_oldValue a_resultValue a_from a_to a_whole a_known a_bound a_whose a_rank a_one a_two a_oneOf a_twoOf a_headAt a_headOf a_headLeft a_pairs a_first
  | [], d, y, ka, va, n, i, hi, hDi, h1, h2, o1, o2, hn, H => by
    obtain ⟨n, rfl⟩ : ∃ n', n = n' + 1 := ⟨n - 1, by omega⟩
    rw [List.length_nil] at hDi
    have e : nI E - 1 = nI i := by rw [hDi]; exact nI_pred i
    have hin : vp_in (nI E - 1) 32 := by rw [e]; exact vp_in_nI (by omega) (by omega)
    refine pk_le E (i + 1) (fun _ => ?_) (fun z => absurd z (by omega)) rfl (nI_1 i)
    refine ⟨hin, nm_r (e' := upd ka i (tk_kR x)) (by rw [e, nI_clamp (by omega), h6, (tk_narR x).1]) ⟨hin, nm_r (e' := upd va i (tk_vR x)) (by rw [e, nI_clamp (by omega), h7]) (nm_r (nI_1 x5) ?_)⟩⟩
    refine H _ _ (hy_snoc i hi h1) (fun j hj => ?_) (fun j hj => ?_)
    · rw [pk_un (by omega)]; exact o1 j hj
    · rw [pk_un (by omega)]; exact o2 j hj
  | z :: rest, d, y, ka, va, n, i, hi, hDi, h1, h2, o1, o2, hn, H => by
    obtain ⟨n, rfl⟩ : ∃ n', n = n' + 1 := ⟨n - 1, by omega⟩
    rw [List.length_cons] at hDi hn
    have e : nI i + 1 = nI (i + 1) := nI_1 i
    have hin1 : vp_in (nI i + 1) 32 := by rw [e]; exact vp_in_nI (by omega) (by omega)
    have hin : vp_in (nI i) 32 := vp_in_nI (by omega) (by omega)
    refine pk_le E (i + 1) (fun z => absurd z (by omega)) (fun _ => ?_) rfl e
    have hz := h2.2.1
    refine ⟨hin1, hin, nm_r (e' := upd ka i (tk_kR z)) (by rw [e, nI_clamp (by omega), nI_clamp (by omega), hz.1, (tk_narR z).1]) ⟨hin1, hin, nm_r (e' := upd va i (tk_vR z)) (by rw [e, nI_clamp (by omega), nI_clamp (by omega), hz.2]) (nm_r e ?_)⟩⟩
    refine ys_51 hE h6 h7 rest (d ++ [z]) z _ _ n (i + 1) (by rw [List.length_append, List.length_singleton]; omega) (by omega) (hy_snoc i hi h1) (hy_upd h2.2 (Or.inl (by omega))) (fun j hj => ?_) (fun j hj => ?_) (by omega) (fun ka' va' g1 g2 g3 => H ka' va' ?_ g2 g3)
    · rw [pk_un (by omega)]; exact o1 j hj
    · rw [pk_un (by omega)]; exact o2 j hj
    · rw [List.append_assoc] at g1; exact g1
theorem ys_20 {post : SY → Prop} {st b E : Nat} {k0 v0 : Nat → Int32} (hE : E ≤ 32) (hb : b ≤ E) : ∀ (A C : List Int64) (ka va : Nat → Int32) (n k : Nat), k + A.length = b → E = st + 1 + (A.length + C.length) → hd_y tk_kR tk_vR ka va (st + 1) (A ++ C) → hy_oo k0 ka (st + 1) E → hy_oo v0 va (st + 1) E → A.length < n → (∀ ka' va', hd_y tk_kR tk_vR ka' va' (st + 1) (C ++ A) → hy_oo k0 ka' (st + 1) E → hy_oo v0 va' (st + 1) E → post (f_place, f_count, f_top, f_done, f_open, f_steps, f_shownSteps, f_fault, f_in, f_made, f_old, f_size, f_heads, f_fresh, a_kind, a_value, a_all, a_split, a_toKind, a_doneKind, a_toValue, a_doneValue, a_begins, a_lacks, a_inKind, ka', a_madeKind, a_oldKind, a_resultKind, a_inValue, va', a_madeValue, a_oldValue, a_resultValue, a_from, a_to, a_whole, a_known, a_bound, a_whose, a_rank, a_one, a_two, a_oneOf, a_twoOf, a_headAt, a_headOf, a_headLeft, a_pairs, a_first)) → wY_swap_20 post (nI st) (nI b) (nI E) f_place f_count f_top f_done f_open f_steps f_shownSteps f_fault f_in f_made f_old f_size f_heads f_fresh n (nI k) a_kind a_value a_all a_split a_toKind a_doneKind a_toValue a_doneValue a_begins a_lacks a_inKind ka a_madeKind a_oldKind a_resultKind a_inValue va a_madeValue a_oldValue a_resultValue a_from a_to a_whole a_known a_bound a_whose a_rank a_one a_two a_oneOf a_twoOf a_headAt a_headOf a_headLeft a_pairs a_first
  | [], C, ka, va, n, k, hk, hDi, h1, o1, o2, hn, H => by
    obtain ⟨n, rfl⟩ : ∃ n', n = n' + 1 := ⟨n - 1, by omega⟩
    rw [List.length_nil] at hk
    rw [List.append_nil] at H
    exact pk_le b k (fun _ => H ka va h1 o1 o2) (fun z => absurd z (by omega))
  | x :: A, C, ka, va, n, k, hk, hDi, h1, o1, o2, hn, H => by
    obtain ⟨n, rfl⟩ : ∃ n', n = n' + 1 := ⟨n - 1, by omega⟩
    rw [List.length_cons] at hk hn hDi
    have e : nI st + 1 = nI (st + 1) := nI_1 st
    have hin : vp_in (nI st + 1) 32 := by rw [e]; exact vp_in_nI (by omega) (by omega)
    have ef : (nI st + 1).toNatClampNeg = st + 1 := by rw [e]; exact nI_clamp (by omega)
    refine pk_le b k (fun z => absurd z (by omega)) (fun _ => ⟨hin, nm_r (e' := tk_kR x) (by rw [ef]; exact h1.1.1) ⟨hin, nm_r (e' := tk_vR x) (by rw [ef]; exact h1.1.2) (nm_r e ⟨(A ++ C).length + 1, ?_⟩)⟩⟩)
    refine ys_51 (x := x) (fr := st + 1) (k0 := k0) (v0 := v0) hE rfl rfl (A ++ C) [] x ka va _ (st + 1) rfl (by rw [List.length_append]; omega) trivial h1 o1 o2 (by omega) (fun ka' va' g1 g2 g3 => ?_)
    rw [List.nil_append, List.append_assoc] at g1
    refine ys_20 hE hb A (C ++ [x]) ka' va' n (k + 1) (by omega) (by rw [List.length_append, List.length_singleton]; omega) g1 g2 g3 (by omega) (fun ka2 va2 e1 e2 e3 => H ka2 va2 ?_ e2 e3)
    rw [List.append_assoc] at e1
    exact e1
theorem ys_swap {post : SY → Prop} {A B r : List Int64} {x4 : Int32} (st : Nat) (hA : tm_w A 1) (hB : tm_w B 1) (hh : hd_y tk_kR tk_vR a_leftKind a_leftValue (st + 1) (A ++ (B ++ r))) (ht : ∀ t, t ∈ A ++ (B ++ r) → tk_r t) (hl : st + 1 + (A.length + (B.length + r.length)) ≤ 32) (H : ∀ ka' va', hd_y tk_kR tk_vR ka' va' (st + 1) (B ++ (A ++ r)) → (∀ j, j < st + 1 → ka' j = a_leftKind j ∧ va' j = a_leftValue j) → post (f_place, f_count, f_top, f_done, f_open, f_steps, f_shownSteps, f_fault, f_in, f_made, f_old, f_size, f_heads, f_fresh, a_kind, a_value, a_all, a_split, a_toKind, a_doneKind, a_toValue, a_doneValue, a_begins, a_lacks, a_inKind, ka', a_madeKind, a_oldKind, a_resultKind, a_inValue, va', a_madeValue, a_oldValue, a_resultValue, a_from, a_to, a_whole, a_known, a_bound, a_whose, a_rank, a_one, a_two, a_oneOf, a_twoOf, a_headAt, a_headOf, a_headLeft, a_pairs, a_first)) : wpY_swap post (f_place, f_count, f_top, f_done, f_open, f_steps, f_shownSteps, f_fault, f_in, f_made, f_old, f_size, f_heads, f_fresh, a_kind, a_value, a_all, a_split, a_toKind, a_doneKind, a_toValue, a_doneValue, a_begins, a_lacks, a_inKind, a_leftKind, a_madeKind, a_oldKind, a_resultKind, a_inValue, a_leftValue, a_madeValue, a_oldValue, a_resultValue, a_from, a_to, a_whole, a_known, a_bound, a_whose, a_rank, a_one, a_two, a_oneOf, a_twoOf, a_headAt, a_headOf, a_headLeft, a_pairs, a_first) (nI st) x4 := by
  have hAt : ∀ t, t ∈ A → tk_r t := fun t h => ht t (List.mem_append.mpr (Or.inl h))
  have hBt : ∀ t, t ∈ B → tk_r t := fun t h => ht t (List.mem_append.mpr (Or.inr (List.mem_append.mpr (Or.inl h))))
  obtain ⟨h1, h2⟩ := hy_app.mp hh
  obtain ⟨h3, h4⟩ := hy_app.mp h2
  unfold wpY_swap
  dsimp only
  rw [nI_1]
  refine ye_left (st + 1) (st + 1 + A.length) hA h1 hAt rfl (by omega) ?_
  refine ye_left (st + 1 + A.length) (st + 1 + A.length + B.length) hB h3 hBt rfl (by omega) ?_
  refine nm_e ⟨A.length + 1, ?_⟩
  refine ys_20 (k0 := a_leftKind) (v0 := a_leftValue) (st := st) (b := st + 1 + A.length) (E := st + 1 + A.length + B.length) (by omega) (by omega) A B _ _ _ (st + 1) rfl (by omega) (hy_app.mpr ⟨h1, h3⟩) (fun j _ => rfl) (fun j _ => rfl) (by omega) (fun ka' va' g1 g2 g3 => H ka' va' ?_ (fun j hj => ⟨g2 j (Or.inl hj), g3 j (Or.inl hj)⟩))
  rw [← List.append_assoc]
  refine hy_app.mpr ⟨g1, ?_⟩
  rw [List.length_append, show st + 1 + (B.length + A.length) = st + 1 + A.length + B.length by omega]
  exact hy_congr (fun j a b => ⟨g2 j (Or.inr a), g3 j (Or.inr a)⟩) h4
theorem yx_71 {post : SY → Prop} {o : List Int64} {r w : Nat} {x4 : Int32} (hr : r < 8) (hw : w < 65536) (ho : o.length ≤ 29) (hoc : ru_c9 o ≤ 30) (how : ∃ m, tm_w o m) (hot : ∀ t, t ∈ o → tk_r t) (hk : hd_y tk_kR tk_vR a_kind a_value (30 * r) o) (H : ∀ ka va, hd_y tk_kR tk_vR ka va 0 (ru_wy o w).1 → post (f_place, f_count, f_top, f_done, f_open, f_steps, f_shownSteps, f_fault, f_in, f_made, f_old, f_size, f_heads, f_fresh, a_kind, a_value, a_all, a_split, a_toKind, a_doneKind, a_toValue, a_doneValue, a_begins, a_lacks, a_inKind, ka, a_madeKind, a_oldKind, a_resultKind, a_inValue, va, a_madeValue, a_oldValue, a_resultValue, a_from, a_to, a_whole, a_known, a_bound, a_whose, a_rank, a_one, a_two, a_oneOf, a_twoOf, a_headAt, a_headOf, a_headLeft, a_pairs, a_first)) : ∀ (p l : List Int64) (ka va : Nat → Int32) (n : Nat) (x6 : Int32), o = p.reverse ++ l → x6 = nI p.length + (-1) → hd_y tk_kR tk_vR ka va 0 (p.reverse ++ (ru_wy l w).1) → p.length < n → wY_exchanged_71 post (nI r) (nI w) x4 n (nI (ru_c9 l)) x6 f_place f_count f_top f_done f_open f_steps f_shownSteps f_fault f_in f_made f_old f_size f_heads f_fresh a_kind a_value a_all a_split a_toKind a_doneKind a_toValue a_doneValue a_begins a_lacks a_inKind ka a_madeKind a_oldKind a_resultKind a_inValue va a_madeValue a_oldValue a_resultValue a_from a_to a_whole a_known a_bound a_whose a_rank a_one a_two a_oneOf a_twoOf a_headAt a_headOf a_headLeft a_pairs a_first
  | [], l, ka, va, n, x6, e, hx, hh, hn => by
    obtain ⟨n, rfl⟩ : ∃ n', n = n' + 1 := ⟨n - 1, by omega⟩
    subst hx
    rw [List.reverse_nil, List.nil_append] at e hh
    subst e
    exact br_t (by decide) (H ka va hh)
  | t :: p, l, ka, va, n, x6, e, hx, hh, hn => by
    obtain ⟨n, rfl⟩ : ∃ n', n = n' + 1 := ⟨n - 1, by omega⟩
    rw [List.length_cons] at hn hx
    rw [pk_m1] at hx
    subst hx
    rw [List.reverse_cons, List.append_assoc] at e hh
    have hlen : o.length = p.length + (l.length + 1) := by rw [e]; simp
    have htr : tk_r t := hot t (by rw [e]; simp)
    have h9 := tk_9 htr
    have hin : vp_in (nI p.length) 32 := vp_in_nI (by omega) (by omega)
    have eL : ka p.length = tk_kR t ∧ va p.length = tk_vR t := by
      have := (hy_app.mp hh).2.1
      rw [Nat.zero_add, List.length_reverse] at this
      exact this
    have ei : (30 : Int32) * nI r + nI p.length = nI (30 * r + p.length) := by rw [show (30 : Int32) = nI 30 from rfl, pk_mul, nI_add]
    have eK : a_kind (30 * r + p.length) = tk_kR t ∧ a_value (30 * r + p.length) = tk_vR t := by
      have hh2 := hk
      rw [e] at hh2
      have := (hy_app.mp hh2).2.1
      rw [List.length_reverse] at this
      exact this
    have hin2 : vp_in ((30 : Int32) * nI r + nI p.length) 270 := by rw [ei]; exact vp_in_nI (by omega) (by omega)
    have ec : (nI p.length).toNatClampNeg = p.length := nI_clamp (by omega)
    have ec2 : ((30 : Int32) * nI r + nI p.length).toNatClampNeg = 30 * r + p.length := by rw [ei]; exact nI_clamp (by omega)
    have next : ∀ (ka va : Nat → Int32) (c : Nat), c = ru_c9 (t :: l) → hd_y tk_kR tk_vR ka va 0 (p.reverse ++ (ru_wy (t :: l) w).1) → wY_exchanged_71 post (nI r) (nI w) x4 n (nI c) (nI p.length + (-1)) f_place f_count f_top f_done f_open f_steps f_shownSteps f_fault f_in f_made f_old f_size f_heads f_fresh a_kind a_value a_all a_split a_toKind a_doneKind a_toValue a_doneValue a_begins a_lacks a_inKind ka a_madeKind a_oldKind a_resultKind a_inValue va a_madeValue a_oldValue a_resultValue a_from a_to a_whole a_known a_bound a_whose a_rank a_one a_two a_oneOf a_twoOf a_headAt a_headOf a_headLeft a_pairs a_first := by
      intro ka va c hc hh'
      subst hc
      exact yx_71 hr hw ho hoc how hot hk H p (t :: l) ka va n _ e rfl hh' (by omega)
    refine br_f (nI_pos (by omega)) ⟨hin, ?_⟩
    rw [ec, eL.1]
    by_cases hk0 : tk_kR t = 0
    · refine br_t hk0 ⟨hin, ?_⟩
      rw [eL.2]
      by_cases hv9 : tk_vR t = 9
      · have e9 : t = 9 := h9.mp ⟨hk0, hv9⟩
        refine br_t hv9 ⟨hin2, ?_⟩
        rw [ec2, eK.1]
        refine br_t hk0 ⟨hin2, ?_⟩
        rw [eK.2]
        refine br_t hv9 ?_
        subst e9
        have hc9 : ru_c9 (9 :: l) = 1 + ru_c9 l := by show (if (9 : Int64) = 9 then 1 else 0) + _ = _; rw [if_pos rfl]
        have hcl : ru_c9 l + 1 ≤ 30 := by
          have := ru_c9_app p.reverse (9 :: l)
          have e' : o = p.reverse ++ 9 :: l := e
          rw [← e', hc9] at this
          omega
        rw [yw_bit (by omega) (by omega)]
        have hbits := ru_wy_bits l w
        refine pk_eq (w / 2 ^ ru_c9 l % 2) 0 (fun h0 => ?_) (fun h0 => ?_)
        · refine nm_r (e' := nI (ru_c9 (9 :: l))) (by rw [hc9, Nat.add_comm]; exact nI_1 _) (nm_e (next ka va _ rfl ?_))
          rw [ru_wy_9, if_neg (by rw [hbits]; omega)]
          exact hh
        · obtain ⟨m, hm⟩ := how
          rw [e] at hm
          obtain ⟨m', hm'⟩ := tm_w_suf _ _ _ hm
          obtain ⟨k, rfl, hm2⟩ := tm_w_ne (show tm_w (9 :: l) m' from hm')
          rw [ru_ar9] at hm2
          obtain ⟨A, B, q, e2, hA, hB, _⟩ := tm_2 (ru_wy_w l w _ hm2)
          have hsw : tm_sw (ru_wy l w).1 = B ++ (A ++ q) := by rw [e2]; exact tm_sw_eq hA hB
          have hlw := ru_wy_len l w
          rw [e2, List.length_append, List.length_append] at hlw
          have hh3 : hd_y tk_kR tk_vR ka va (p.length + 1) (A ++ (B ++ q)) := by
            have := (hy_app.mp hh).2.2
            rw [Nat.zero_add, List.length_reverse] at this
            show hd_y tk_kR tk_vR ka va (p.length + 1) (A ++ (B ++ q))
            rw [← e2]
            exact this
          refine ys_swap p.length hA hB hh3 (fun x hx => hot x ?_) (by omega) (fun ka' va' g1 g2 => ?_)
          · rw [← e2] at hx
            rw [e]
            exact List.mem_append.mpr (Or.inr (List.mem_append.mpr (Or.inr (ru_wy_mem _ _ _ hx))))
          · refine nm_r (e' := nI (ru_c9 (9 :: l))) (by rw [hc9, Nat.add_comm]; exact nI_1 _) (nm_e (next ka' va' _ rfl ?_))
            rw [ru_wy_9, if_pos (by rw [hbits]; omega), hsw]
            refine hy_app.mpr ⟨?_, ⟨?_, ?_⟩, ?_⟩
            · exact hy_congr (fun j a b => g2 j (by rw [List.length_reverse] at b; omega)) (hy_app.mp hh).1
            · rw [Nat.zero_add, List.length_reverse, (g2 p.length (by omega)).1]; exact eL.1
            · rw [Nat.zero_add, List.length_reverse, (g2 p.length (by omega)).2]; exact eL.2
            · rw [Nat.zero_add, List.length_reverse]; exact g1
      · refine br_f hv9 (nm_e (next ka va _ ?_ ?_))
        · show _ = (if t = 9 then 1 else 0) + _
          rw [if_neg (fun z => hv9 (h9.mpr z).2), Nat.zero_add]
        · rw [ru_wy_n (fun z => hv9 (h9.mpr z).2)]; exact hh
    · refine br_f hk0 (nm_e (next ka va _ ?_ ?_))
      · show _ = (if t = 9 then 1 else 0) + _
        rw [if_neg (fun z => hk0 (h9.mpr z).1), Nat.zero_add]
      · rw [ru_wy_n (fun z => hk0 (h9.mpr z).1)]; exact hh
theorem yx_11 {post : SY → Prop} {r N : Nat} {x2 : Int32} (hr : r < 8) (hN : N ≤ 30) : ∀ (l q : List Int64) (ka va : Nat → Int32) (n k : Nat), k = q.length → k + l.length = N → hd_y tk_kR tk_vR a_kind a_value (30 * r + k) l → hd_y tk_kR tk_vR ka va 0 q → l.length < n → (∀ ka' va', hd_y tk_kR tk_vR ka' va' 0 (q ++ l) → ∀ y, y = nI N - 1 → ∃ n71, wY_exchanged_71 post (nI r) x2 (nI N) n71 0 y f_place f_count f_top f_done f_open f_steps f_shownSteps f_fault f_in f_made f_old f_size f_heads f_fresh a_kind a_value a_all a_split a_toKind a_doneKind a_toValue a_doneValue a_begins a_lacks a_inKind ka' a_madeKind a_oldKind a_resultKind a_inValue va' a_madeValue a_oldValue a_resultValue a_from a_to a_whole a_known a_bound a_whose a_rank a_one a_two a_oneOf a_twoOf a_headAt a_headOf a_headLeft a_pairs a_first) → wY_exchanged_11 post (nI r) x2 (nI N) f_place f_count f_top f_done f_open f_steps f_shownSteps f_fault f_in f_made f_old f_size f_heads f_fresh n (nI k) a_kind a_value a_all a_split a_toKind a_doneKind a_toValue a_doneValue a_begins a_lacks a_inKind ka a_madeKind a_oldKind a_resultKind a_inValue va a_madeValue a_oldValue a_resultValue a_from a_to a_whole a_known a_bound a_whose a_rank a_one a_two a_oneOf a_twoOf a_headAt a_headOf a_headLeft a_pairs a_first
  | [], q, ka, va, n, k, hk, h1, h2, h3, hn, H => by
    obtain ⟨n, rfl⟩ : ∃ n', n = n' + 1 := ⟨n - 1, by omega⟩
    rw [List.length_nil] at h1
    rw [List.append_nil] at H
    exact pk_le N k (fun _ => H ka va h3) (fun z => absurd z (by omega))
  | t :: l, q, ka, va, n, k, hk, h1, h2, h3, hn, H => by
    obtain ⟨n, rfl⟩ : ∃ n', n = n' + 1 := ⟨n - 1, by omega⟩
    rw [List.length_cons] at h1 hn
    have ei : (30 : Int32) * nI r + nI k = nI (30 * r + k) := by rw [show (30 : Int32) = nI 30 from rfl, pk_mul, nI_add]
    have hin2 : vp_in ((30 : Int32) * nI r + nI k) 270 := by rw [ei]; exact vp_in_nI (by omega) (by omega)
    have hin : vp_in (nI k) 32 := vp_in_nI (by omega) (by omega)
    have ec : (nI k).toNatClampNeg = k := nI_clamp (by omega)
    have ec2 : ((30 : Int32) * nI r + nI k).toNatClampNeg = 30 * r + k := by rw [ei]; exact nI_clamp (by omega)
    refine pk_le N k (fun z => absurd z (by omega)) (fun _ => ⟨hin2, hin, nm_r (e' := upd ka k (tk_kR t)) (by rw [ec, ec2, h2.1.1, (tk_narR t).1]) ⟨hin2, hin, nm_r (e' := upd va k (tk_vR t)) (by rw [ec, ec2, h2.1.2]) (nm_r (nI_1 k) ?_)⟩⟩)
    have e3 : q ++ t :: l = (q ++ [t]) ++ l := by rw [List.append_assoc]; rfl
    rw [e3] at H
    exact yx_11 hr hN l (q ++ [t]) _ _ n (k + 1) (by simp; omega) (by omega) h2.2 (hy_snoc k (by omega) h3) (by omega) H
theorem yx_ex {post : SY → Prop} {o : List Int64} {x3 : Int32} (r w : Nat) (hr : r < 8) (hw : w < 65536) (ho : o.length ≤ 29) (hoc : ru_c9 o ≤ 4) (how : tm_w o 1) (hot : ∀ t, t ∈ o → tk_r t) (hs : a_split r = nI o.length) (hk : hd_y tk_kR tk_vR a_kind a_value (30 * r) o) (H : ∀ ka va, hd_y tk_kR tk_vR ka va 0 (ru_wy o w).1 → post (f_place, f_count, f_top, f_done, f_open, f_steps, f_shownSteps, f_fault, f_in, f_made, f_old, f_size, f_heads, f_fresh, a_kind, a_value, a_all, a_split, a_toKind, a_doneKind, a_toValue, a_doneValue, a_begins, a_lacks, a_inKind, ka, a_madeKind, a_oldKind, a_resultKind, a_inValue, va, a_madeValue, a_oldValue, a_resultValue, a_from, a_to, a_whole, a_known, a_bound, a_whose, a_rank, a_one, a_two, a_oneOf, a_twoOf, a_headAt, a_headOf, a_headLeft, a_pairs, a_first)) : wpY_exchanged post (f_place, f_count, f_top, f_done, f_open, f_steps, f_shownSteps, f_fault, f_in, f_made, f_old, f_size, f_heads, f_fresh, a_kind, a_value, a_all, a_split, a_toKind, a_doneKind, a_toValue, a_doneValue, a_begins, a_lacks, a_inKind, a_leftKind, a_madeKind, a_oldKind, a_resultKind, a_inValue, a_leftValue, a_madeValue, a_oldValue, a_resultValue, a_from, a_to, a_whole, a_known, a_bound, a_whose, a_rank, a_one, a_two, a_oneOf, a_twoOf, a_headAt, a_headOf, a_headLeft, a_pairs, a_first) (nI r) (nI w) x3 := by
  refine ⟨vp_in_nI hr (by omega), nm_r (e' := nI o.length) (by rw [nI_clamp (by omega), hs]) ⟨o.length + 1, ?_⟩⟩
  rw [← nI_0]
  refine yx_11 hr (by omega) o [] a_leftKind a_leftValue _ 0 rfl (by omega) hk trivial (by omega) (fun ka' va' g => nm_r (Int32.sub_eq_add_neg _ _) ⟨o.length + 1, ?_⟩)
  have hg : hd_y tk_kR tk_vR ka' va' 0 (o.reverse.reverse ++ (ru_wy [] w).1) := by rw [List.reverse_reverse]; rw [List.nil_append] at g; show hd_y _ _ _ _ _ (o ++ []); rw [List.append_nil]; exact g
  exact yx_71 hr hw ho (by omega) ⟨1, how⟩ hot hk H o.reverse [] ka' va' _ _ (by rw [List.reverse_reverse, List.append_nil]) (by rw [List.length_reverse]) hg (by rw [List.length_reverse]; omega)
end
end
section
/-! the reference: the match -/
def yf_b (dk dv fr to wh kn : Nat → Int32) (D : Nat) (β : Nat → List Int64) : Prop := (∀ k t, t ∈ β k → tk_t t) ∧ ∀ k, k < 4 → ((β k = [] → fr k = -1) ∧ (β k ≠ [] → tm_w (β k) 1 ∧ ∃ st, fr k = nI st ∧ to k = nI (st + (β k).length) ∧ st + (β k).length ≤ D ∧ hd_y tk_kT tk_vT dk dv st (β k))) ∧ ((β (4 + k) = [] → kn k = 0) ∧ (β (4 + k) ≠ [] → kn k = 1 ∧ ∃ c, β (4 + k) = [c] ∧ tk_N c ∧ wh k = tk_vT c))
theorem yf_nb1 : vp_nar .boolean 1 = 1 := by decide
theorem yf_nb0 : vp_nar .boolean 0 = 0 := by decide
theorem yf_nsm : vp_nar .short (-1) = -1 := by rw [vp_nar_short]; decide
theorem yf_new {dk dv fr to wh kn : Nat → Int32} {D : Nat} {β : Nat → List Int64} (h : yf_b dk dv fr to wh kn D β) {k i : Nat} {a : List Int64} (hk : k < 4) (ha : a ≠ []) (hat : ∀ t, t ∈ a → tk_t t) (haw : tm_w a 1) (hh : hd_y tk_kT tk_vT dk dv i a) (hB : i + a.length ≤ D) : yf_b dk dv (upd fr k (nI i)) (upd to k (nI (i + a.length))) wh kn D (fun j => if j = k then a else β j) := by
  refine ⟨fun j t ht => ?_, fun j hj => ?_⟩
  · dsimp only at ht
    by_cases e : j = k
    · rw [if_pos e] at ht; exact hat t ht
    · rw [if_neg e] at ht; exact h.1 j t ht
  · dsimp only
    refine ⟨?_, ?_⟩
    · by_cases e : j = k
      · subst e
        rw [if_pos rfl, pk_us, pk_us]
        exact ⟨fun z => absurd z ha, fun _ => ⟨haw, i, rfl, rfl, hB, hh⟩⟩
      · rw [if_neg e, pk_un e, pk_un e]
        exact (h.2 j hj).1
    · rw [if_neg (by omega)]
      exact (h.2 j hj).2
theorem yf_whole {dk dv fr to wh kn : Nat → Int32} {D : Nat} {β : Nat → List Int64} (h : yf_b dk dv fr to wh kn D β) {k : Nat} {c : Int64} (hk : k < 4) (hc : tk_t c) (hN : tk_N c) : yf_b dk dv fr to (upd wh k (tk_vT c)) (upd kn k 1) D (fun j => if j = 4 + k then [c] else β j) := by
  refine ⟨fun j t ht => ?_, fun j hj => ?_⟩
  · dsimp only at ht
    by_cases e : j = 4 + k
    · rw [if_pos e, List.mem_singleton] at ht; rw [ht]; exact hc
    · rw [if_neg e] at ht; exact h.1 j t ht
  · dsimp only
    refine ⟨?_, ?_⟩
    · rw [if_neg (by omega)]
      exact (h.2 j hj).1
    · by_cases e : j = k
      · subst e
        rw [if_pos rfl, pk_us, pk_us]
        exact ⟨fun z => absurd z (by simp), fun _ => ⟨rfl, c, rfl, hN, rfl⟩⟩
      · rw [if_neg (by omega), pk_un e, pk_un e]
        exact (h.2 j hj).2
section
variable {f_place f_count f_top f_done f_open f_steps f_shownSteps f_fault f_in f_made f_old f_size f_heads f_fresh : Int32} {a_kind a_value a_all a_split a_toKind a_doneKind a_toValue a_doneValue a_begins a_lacks a_inKind a_leftKind a_madeKind a_oldKind a_resultKind a_inValue a_leftValue a_madeValue a_oldValue a_resultValue a_from a_to a_whole a_known a_bound a_whose a_rank a_one a_two a_oneOf a_twoOf a_headAt a_headOf a_headLeft a_pairs a_first : Nat → Int32}
theorem yf_same {post : Int32 → Prop} {a b e : Nat} (he : e ≤ 2400) : ∀ (o w : List Int64) (m k n : Nat), tm_w o m → tm_w w m → b + k + w.length = e → a + k + o.length ≤ 2400 → hd_y tk_kT tk_vT a_doneKind a_doneValue (a + k) o → hd_y tk_kT tk_vT a_doneKind a_doneValue (b + k) w → (∀ t, t ∈ o → tk_t t) → (∀ t, t ∈ w → tk_t t) → w.length < n → (o = w → post 1) → (o ≠ w → post 0) → wY_sameDone_3 post (nI a) (nI b) (nI e) f_place f_count f_top f_done f_open f_steps f_shownSteps f_fault f_in f_made f_old f_size f_heads f_fresh a_kind a_value a_all a_split a_toKind a_doneKind a_toValue a_doneValue a_begins a_lacks a_inKind a_leftKind a_madeKind a_oldKind a_resultKind a_inValue a_leftValue a_madeValue a_oldValue a_resultValue a_from a_to a_whole a_known a_bound a_whose a_rank a_one a_two a_oneOf a_twoOf a_headAt a_headOf a_headLeft a_pairs a_first n (nI k)
  | [], w, m, k, n, h1, h2, h3, h4, h5, h6, t1, t2, hn, Hy, Hz => by
    obtain ⟨n, rfl⟩ : ∃ n', n = n' + 1 := ⟨n - 1, by omega⟩
    rw [tm_w_nil] at h1
    subst h1
    have := tm_w_0 h2
    subst this
    rw [List.length_nil] at h3
    exact pk_le e (b + k) (fun _ => Hy rfl) (fun z => absurd z (by omega)) rfl (nI_add _ _)
  | x :: o, [], m, k, n, h1, h2, h3, h4, h5, h6, t1, t2, hn, Hy, Hz => by
    rw [tm_w_nil] at h2
    subst h2
    exact absurd h1.1 (by omega)
  | x :: o, y :: w, m, k, n, h1, h2, h3, h4, h5, h6, t1, t2, hn, Hy, Hz => by
    obtain ⟨n, rfl⟩ : ∃ n', n = n' + 1 := ⟨n - 1, by omega⟩
    rw [List.length_cons] at h3 h4 hn
    obtain ⟨j, rfl, h1'⟩ := tm_w_ne h1
    have h2' := tm_w_cons.mp h2
    have i1 : vp_in (nI a + nI k) 2400 := by rw [nI_add]; exact vp_in_nI (by omega) (by omega)
    have i2 : vp_in (nI b + nI k) 2400 := by rw [nI_add]; exact vp_in_nI (by omega) (by omega)
    have c1 : (nI a + nI k).toNatClampNeg = a + k := by rw [nI_add]; exact nI_clamp (by omega)
    have c2 : (nI b + nI k).toNatClampNeg = b + k := by rw [nI_add]; exact nI_clamp (by omega)
    refine pk_le e (b + k) (fun z => absurd z (by omega)) (fun _ => ⟨i1, i2, ?_⟩) rfl (nI_add _ _)
    rw [c1, c2, h5.1.1, h6.1.1, h5.1.2, h6.1.2]
    have tx := t1 x (List.mem_cons.mpr (Or.inl rfl))
    have ty := t2 y (List.mem_cons.mpr (Or.inl rfl))
    by_cases hk : tk_kT x = tk_kT y
    · refine br_t hk ⟨i1, i2, ?_⟩
      by_cases hv : tk_vT x = tk_vT y
      · have exy := tk_T_inj tx ty hk hv
        subst exy
        exact br_t hv (nm_r (nI_1 k) (yf_same he o w _ (k + 1) n h1' h2' (by omega) (by omega) h5.2 h6.2 (fun t ht => t1 t (List.mem_cons.mpr (Or.inr ht))) (fun t ht => t2 t (List.mem_cons.mpr (Or.inr ht))) (by omega) (fun z => Hy (by rw [z])) (fun z => Hz (fun q => z (by injection q)))))
      · exact br_f hv (Hz (fun q => hv (by injection q with q1 _; rw [q1])))
    · exact br_f hk (Hz (fun q => hk (by injection q with q1 _; rw [q1])))
theorem yf_l {post : Int32 → SY → Prop} {N D : Nat} (hN : N ≤ 30) (hD : D ≤ 2000) : ∀ (ps s : List Int64) (m pos k n : Nat) (β : Nat → List Int64) (fr to wh kn : Nat → Int32), k + ps.length = N → pos + s.length = D → hd_y tk_kR tk_vR a_leftKind a_leftValue k ps → hd_y tk_kT tk_vT a_doneKind a_doneValue pos s → (∀ t, t ∈ ps → tk_r t) → (∀ t, t ∈ s → tk_t t) → tm_w s m → yf_b a_doneKind a_doneValue fr to wh kn D β → ps.length < n → (∀ β' fr to wh kn, ru_mt ps s β = some β' → yf_b a_doneKind a_doneValue fr to wh kn D β' → post 1 (f_place, f_count, f_top, f_done, f_open, f_steps, f_shownSteps, f_fault, f_in, f_made, f_old, f_size, f_heads, f_fresh, a_kind, a_value, a_all, a_split, a_toKind, a_doneKind, a_toValue, a_doneValue, a_begins, a_lacks, a_inKind, a_leftKind, a_madeKind, a_oldKind, a_resultKind, a_inValue, a_leftValue, a_madeValue, a_oldValue, a_resultValue, fr, to, wh, kn, a_bound, a_whose, a_rank, a_one, a_two, a_oneOf, a_twoOf, a_headAt, a_headOf, a_headLeft, a_pairs, a_first)) → (∀ fr to wh kn, ru_mt ps s β = none → post 0 (f_place, f_count, f_top, f_done, f_open, f_steps, f_shownSteps, f_fault, f_in, f_made, f_old, f_size, f_heads, f_fresh, a_kind, a_value, a_all, a_split, a_toKind, a_doneKind, a_toValue, a_doneValue, a_begins, a_lacks, a_inKind, a_leftKind, a_madeKind, a_oldKind, a_resultKind, a_inValue, a_leftValue, a_madeValue, a_oldValue, a_resultValue, fr, to, wh, kn, a_bound, a_whose, a_rank, a_one, a_two, a_oneOf, a_twoOf, a_headAt, a_headOf, a_headLeft, a_pairs, a_first)) → wY_fits_37 post (nI N) (nI D) f_place f_count f_top f_done f_open f_steps f_shownSteps f_fault f_in f_made f_old f_size f_heads f_fresh n (nI pos) (nI k) a_kind a_value a_all a_split a_toKind a_doneKind a_toValue a_doneValue a_begins a_lacks a_inKind a_leftKind a_madeKind a_oldKind a_resultKind a_inValue a_leftValue a_madeValue a_oldValue a_resultValue fr to wh kn a_bound a_whose a_rank a_one a_two a_oneOf a_twoOf a_headAt a_headOf a_headLeft a_pairs a_first
  | [], s, m, pos, k, n, β, fr, to, wh, kn, h1, h2, h3, h4, h5, h6, h7, h8, hn, Hy, Hz => by
    obtain ⟨n, rfl⟩ : ∃ n', n = n' + 1 := ⟨n - 1, by omega⟩
    rw [List.length_nil] at h1
    exact pk_le N k (fun _ => Hy β fr to wh kn (by rw [ru_mt]) h8) (fun z => absurd z (by omega))
  | p :: ps, [], m, pos, k, n, β, fr, to, wh, kn, h1, h2, h3, h4, h5, h6, h7, h8, hn, Hy, Hz => by
    obtain ⟨n, rfl⟩ : ∃ n', n = n' + 1 := ⟨n - 1, by omega⟩
    rw [List.length_cons] at h1
    rw [List.length_nil] at h2
    refine pk_le N k (fun z => absurd z (by omega)) (fun _ => ?_)
    exact pk_lt pos D (fun z => absurd z (by omega)) (fun _ => Hz fr to wh kn (by rw [ru_mt]))
  | p :: ps, c :: s, m, pos, k, n, β, fr, to, wh, kn, h1, h2, h3, h4, h5, h6, h7, h8, hn, Hy, Hz => by
    obtain ⟨n, rfl⟩ : ∃ n', n = n' + 1 := ⟨n - 1, by omega⟩
    rw [List.length_cons] at h1 hn h2
    have hink : vp_in (nI k) 32 := vp_in_nI (by omega) (by omega)
    have ek : (nI k).toNatClampNeg = k := nI_clamp (by omega)
    have ep : (nI pos).toNatClampNeg = pos := nI_clamp (by omega)
    have hinp : vp_in (nI pos) 2400 := vp_in_nI (by omega) (by omega)
    have hps : ∀ t, t ∈ ps → tk_r t := fun t ht => h5 t (List.mem_cons.mpr (Or.inr ht))
    have hs : ∀ t, t ∈ s → tk_t t := fun t ht => h6 t (List.mem_cons.mpr (Or.inr ht))
    have hpr := h5 p (List.mem_cons.mpr (Or.inl rfl))
    have hct := h6 c (List.mem_cons.mpr (Or.inl rfl))
    refine pk_le N k (fun z => absurd z (by omega)) (fun _ => ?_)
    refine pk_lt pos D (fun _ => ⟨hink, nm_r (e' := tk_vR p) (by rw [ek]; exact h3.1.2) ⟨hink, ?_⟩⟩) (fun z => absurd z (by omega))
    rw [ek, ep, h3.1.1, h4.1.1, h4.1.2]
    obtain ⟨j, rfl, hw⟩ := tm_w_ne h7
    by_cases hp : p < 8589934592
    · have hrt := tk_RT hpr hp hct
      have hk2 : ¬ tk_kR p = 2 := by unfold tk_kR; rw [if_pos hp]; split <;> decide
      have hk3 : ¬ tk_kR p = 3 := by unfold tk_kR; rw [if_pos hp]; split <;> decide
      refine br_f hk2 ⟨hink, br_f hk3 ⟨hink, hinp, ?_⟩⟩
      by_cases hc : c = p
      · subst hc
        obtain ⟨q1, q2⟩ := hrt.mpr rfl
        rw [ru_mt_sym hp rfl] at Hy Hz
        exact br_t q1 ⟨hinp, br_t q2 (nm_r (nI_1 pos) (nm_r (nI_1 k) (yf_l hN hD ps s _ (pos + 1) (k + 1) n β fr to wh kn (by omega) (by omega) h3.2 h4.2 hps hs hw h8 (by omega) Hy Hz)))⟩
      · have hz := Hz fr to wh kn (ru_mt_symn hp hc)
        refine br_c (fun q1 => ⟨hinp, br_c (fun q2 => ?_) (fun _ => hz)⟩) (fun _ => hz)
        exact absurd (hrt.mp ⟨q1, q2⟩).symm hc
    · obtain ⟨a, b, e, ha, hb2⟩ := tm_w_split (c :: s) 1 j (by rw [Nat.add_comm]; exact h7)
      obtain ⟨c', a', rfl, _⟩ := tm_w_pos ha
      rw [List.cons_append] at e
      injection e with e1 e2
      subst e1 e2
      rw [List.length_append] at h2
      have hb3 : ∀ t, t ∈ b → tk_t t := fun t ht => hs t (List.mem_append.mpr (Or.inr ht))
      have hat : ∀ t, t ∈ c :: a' → tk_t t := fun t ht => by
        rcases List.mem_cons.mp ht with z | z
        · rw [z]; exact hct
        · exact hs t (List.mem_append.mpr (Or.inl z))
      have h4' : hd_y tk_kT tk_vT a_doneKind a_doneValue pos ((c :: a') ++ b) := h4
      obtain ⟨h4a, h4b⟩ := hy_app.mp h4'
      have hla : (c :: a').length = a'.length + 1 := rfl
      rcases ru_names hpr hp with ⟨r, hr, er, kr, vr, sr, hl⟩ | ⟨r, hr, er, kr, vr, sr, hl⟩
      · rw [kr, vr]
        have hinr : vp_in (nI r) 4 := vp_in_nI hr (by omega)
        have err : (nI r).toNatClampNeg = r := nI_clamp (by omega)
        refine br_t rfl (ye_done pos (pos + (c :: a').length) ha h4a hat rfl (by omega) ⟨hinr, ?_⟩)
        have set : ∀ β', β' = (fun j => if j = r then c :: a' else β j) → (∀ β'' fr to wh kn, ru_mt ps b β' = some β'' → yf_b a_doneKind a_doneValue fr to wh kn D β'' → post 1 (f_place, f_count, f_top, f_done, f_open, f_steps, f_shownSteps, f_fault, f_in, f_made, f_old, f_size, f_heads, f_fresh, a_kind, a_value, a_all, a_split, a_toKind, a_doneKind, a_toValue, a_doneValue, a_begins, a_lacks, a_inKind, a_leftKind, a_madeKind, a_oldKind, a_resultKind, a_inValue, a_leftValue, a_madeValue, a_oldValue, a_resultValue, fr, to, wh, kn, a_bound, a_whose, a_rank, a_one, a_two, a_oneOf, a_twoOf, a_headAt, a_headOf, a_headLeft, a_pairs, a_first)) → (∀ fr to wh kn, ru_mt ps b β' = none → post 0 (f_place, f_count, f_top, f_done, f_open, f_steps, f_shownSteps, f_fault, f_in, f_made, f_old, f_size, f_heads, f_fresh, a_kind, a_value, a_all, a_split, a_toKind, a_doneKind, a_toValue, a_doneValue, a_begins, a_lacks, a_inKind, a_leftKind, a_madeKind, a_oldKind, a_resultKind, a_inValue, a_leftValue, a_madeValue, a_oldValue, a_resultValue, fr, to, wh, kn, a_bound, a_whose, a_rank, a_one, a_two, a_oneOf, a_twoOf, a_headAt, a_headOf, a_headLeft, a_pairs, a_first)) → wY_fits_109 post (wY_fits_37 post (nI N) (nI D) f_place f_count f_top f_done f_open f_steps f_shownSteps f_fault f_in f_made f_old f_size f_heads f_fresh n) (nI N) (nI D) (nI pos) (nI k) (nI r) (nI (pos + (c :: a').length)) f_place f_count f_top f_done f_open f_steps f_shownSteps f_fault f_in f_made f_old f_size f_heads f_fresh a_kind a_value a_all a_split a_toKind a_doneKind a_toValue a_doneValue a_begins a_lacks a_inKind a_leftKind a_madeKind a_oldKind a_resultKind a_inValue a_leftValue a_madeValue a_oldValue a_resultValue fr to wh kn a_bound a_whose a_rank a_one a_two a_oneOf a_twoOf a_headAt a_headOf a_headLeft a_pairs a_first := by
          intro β' eb Gy Gz
          subst eb
          refine ⟨hinr, nm_r (e' := upd fr r (nI pos)) (by rw [err, (tk_ns (by omega)).1]) ⟨hinr, nm_r (e' := upd to r (nI (pos + (c :: a').length))) (by rw [err, (tk_ns (by omega)).1]) (nm_r (nI_1 k) ?_)⟩⟩
          exact yf_l hN hD ps b j (pos + (c :: a').length) (k + 1) n _ _ _ _ _ (by omega) (by omega) h3.2 h4b hps hb3 hb2 (yf_new h8 hr (by simp) hat ha h4a (by omega)) (by omega) Gy Gz
        obtain ⟨b1, b2⟩ := (h8.2 r hr).1
        rw [err]
        by_cases h0 : β r = []
        · rw [b1 h0]
          refine br_t (by decide) (set _ rfl ?_ ?_)
          · rw [ru_mt_new hp (Or.inl hl) ha (by rw [sr]; exact h0), sr] at Hy
            exact Hy
          · rw [ru_mt_new hp (Or.inl hl) ha (by rw [sr]; exact h0), sr] at Hz
            exact Hz
        · obtain ⟨bw, st, s1, s2, s3, s4⟩ := b2 h0
          rw [s1]
          refine br_f (nI_pos (by omega)) ⟨hinr, ⟨(c :: a').length + 1, ?_⟩⟩
          rw [← nI_0]
          refine yf_same (by omega) (β r) (c :: a') 1 0 _ bw ha rfl (by omega) s4 h4a (fun t ht => h8.1 r t ht) hat (by omega) (fun eq => ?_) (fun ne => ?_)
          · have hb' : (fun j => if j = r then c :: a' else β j) = β := by
              funext q
              by_cases hq : q = r
              · rw [if_pos hq, hq, eq]
              · rw [if_neg hq]
            rw [ru_mt_old hp (Or.inl hl) ha (by rw [sr]; exact eq)] at Hy Hz
            exact br_f (by decide) (set β hb'.symm Hy Hz)
          · exact br_t rfl (Hz fr to wh kn (ru_mt_oldn hp (Or.inl hl) ha (by rw [sr]; exact h0) (by rw [sr]; exact ne)))
      · rw [kr, vr]
        have hinr : vp_in (nI r) 4 := vp_in_nI hr (by omega)
        have err : (nI r).toNatClampNeg = r := nI_clamp (by omega)
        refine br_f (by decide) ⟨hink, br_t rfl ⟨hinp, ?_⟩⟩
        have hNY := tk_N_Y hct
        by_cases hcN : tk_N c
        · refine br_t (hNY.mpr hcN) ⟨hinr, ?_⟩
          have hc0 : tm_ar c = 0 := tk_N_ar hct hcN
          have ea : a' = [] := by
            have := tm_w_cons.mp (show tm_w (c :: a') (0 + 1) from ha)
            rw [hc0] at this
            exact tm_w_0 this
          subst ea
          have set : ∀ β', β' = (fun j => if j = 4 + r then [c] else β j) → (∀ β'' fr to wh kn, ru_mt ps b β' = some β'' → yf_b a_doneKind a_doneValue fr to wh kn D β'' → post 1 (f_place, f_count, f_top, f_done, f_open, f_steps, f_shownSteps, f_fault, f_in, f_made, f_old, f_size, f_heads, f_fresh, a_kind, a_value, a_all, a_split, a_toKind, a_doneKind, a_toValue, a_doneValue, a_begins, a_lacks, a_inKind, a_leftKind, a_madeKind, a_oldKind, a_resultKind, a_inValue, a_leftValue, a_madeValue, a_oldValue, a_resultValue, fr, to, wh, kn, a_bound, a_whose, a_rank, a_one, a_two, a_oneOf, a_twoOf, a_headAt, a_headOf, a_headLeft, a_pairs, a_first)) → (∀ fr to wh kn, ru_mt ps b β' = none → post 0 (f_place, f_count, f_top, f_done, f_open, f_steps, f_shownSteps, f_fault, f_in, f_made, f_old, f_size, f_heads, f_fresh, a_kind, a_value, a_all, a_split, a_toKind, a_doneKind, a_toValue, a_doneValue, a_begins, a_lacks, a_inKind, a_leftKind, a_madeKind, a_oldKind, a_resultKind, a_inValue, a_leftValue, a_madeValue, a_oldValue, a_resultValue, fr, to, wh, kn, a_bound, a_whose, a_rank, a_one, a_two, a_oneOf, a_twoOf, a_headAt, a_headOf, a_headLeft, a_pairs, a_first)) → wY_fits_187 post (wY_fits_37 post (nI N) (nI D) f_place f_count f_top f_done f_open f_steps f_shownSteps f_fault f_in f_made f_old f_size f_heads f_fresh n) (nI N) (nI D) (nI pos) (nI k) (nI r) f_place f_count f_top f_done f_open f_steps f_shownSteps f_fault f_in f_made f_old f_size f_heads f_fresh a_kind a_value a_all a_split a_toKind a_doneKind a_toValue a_doneValue a_begins a_lacks a_inKind a_leftKind a_madeKind a_oldKind a_resultKind a_inValue a_leftValue a_madeValue a_oldValue a_resultValue fr to wh kn a_bound a_whose a_rank a_one a_two a_oneOf a_twoOf a_headAt a_headOf a_headLeft a_pairs a_first := by
            intro β' eb Gy Gz
            subst eb
            refine ⟨hinr, nm_r (e' := upd kn r 1) (by rw [err, yf_nb1]) (nm_r (nI_1 pos) ⟨hinp, hinr, nm_r (e' := upd wh r (tk_vT c)) (by rw [err, ep, h4.1.2]) (nm_r (nI_1 k) ?_)⟩)⟩
            exact yf_l hN hD ps b j (pos + 1) (k + 1) n _ _ _ _ _ (by omega) (by simp at h2; omega) h3.2 h4b hps hb3 hb2 (yf_whole h8 hr hct hcN) (by omega) Gy Gz
          obtain ⟨b1, b2⟩ := (h8.2 r hr).2
          rw [err]
          by_cases h0 : β (4 + r) = []
          · rw [b1 h0]
            refine br_t rfl (set _ rfl ?_ ?_)
            · rw [ru_mt_new hp (Or.inr hcN) ha (by rw [sr]; exact h0), sr] at Hy
              exact Hy
            · rw [ru_mt_new hp (Or.inr hcN) ha (by rw [sr]; exact h0), sr] at Hz
              exact Hz
          · obtain ⟨bk, c0, s1, s2, s3⟩ := b2 h0
            rw [bk]
            refine br_f (by decide) ⟨hinr, hinp, ?_⟩
            rw [s3]
            have hc0t : tk_t c0 := h8.1 (4 + r) c0 (by rw [s1]; simp)
            by_cases hv : tk_vT c0 = tk_vT c
            · have ecc : c0 = c := tk_T_inj hc0t hct (by rw [(tk_N_Y hc0t).mpr s2, (tk_N_Y hct).mpr hcN]) hv
              subst ecc
              have hb' : (fun j => if j = 4 + r then [c0] else β j) = β := by
                funext q
                by_cases hq : q = 4 + r
                · rw [if_pos hq, hq, s1]
                · rw [if_neg hq]
              rw [ru_mt_old hp (Or.inr hcN) ha (by rw [sr]; exact s1)] at Hy Hz
              exact br_t hv (set β hb'.symm Hy Hz)
            · refine br_f hv (Hz fr to wh kn (ru_mt_oldn hp (Or.inr hcN) ha (by rw [sr]; exact h0) ?_))
              rw [sr, s1]
              intro z
              injection z with z1 _
              exact hv (by rw [z1])
        · exact br_f (fun z => hcN (hNY.mp z)) (Hz fr to wh kn (ru_mt_w hp hl hcN))
end
end
section
/-! the reference: the first rule that matches, what RIGHT becomes -/
def yr_R (L R : Nat → List Int64) (kind value all split : Nat → Int32) : Prop := ∀ r, r < 8 → (L r = [] → all r = 0) ∧ (L r ≠ [] → all r = nI ((L r).length + (R r).length) ∧ split r = nI (L r).length ∧ hd_y tk_kR tk_vR kind value (30 * r) (L r ++ R r))
theorem yw_pow {c : Nat} (hc : c < 31) : (1 : Int32) <<< (nI c &&& 31) = nI (2 ^ c) := by
  have h : 1 * 2 ^ c < 2 ^ 32 := by rw [Nat.one_mul]; exact Nat.pow_lt_pow_right (by omega) (by omega)
  have := pk_shlN (n := 1) (nI c &&& 31) c (s_l c (by omega)) h
  rw [Nat.one_mul] at this
  exact this
section
variable {f_place f_count f_top f_done f_open f_steps f_shownSteps f_fault f_in f_made f_old f_size f_heads f_fresh : Int32} {a_kind a_value a_all a_split a_toKind a_doneKind a_toValue a_doneValue a_begins a_lacks a_inKind a_leftKind a_madeKind a_oldKind a_resultKind a_inValue a_leftValue a_madeValue a_oldValue a_resultValue a_from a_to a_whole a_known a_bound a_whose a_rank a_one a_two a_oneOf a_twoOf a_headAt a_headOf a_headLeft a_pairs a_first : Nat → Int32}
theorem yf_3 {post : Int32 → SY → Prop} {x1 x2 x3 : Int32} : ∀ (d k n : Nat) (fr kn : Nat → Int32), k + d = 4 → (∀ j, j < k → fr j = -1 ∧ kn j = 0) → d < n → (∀ fr' kn', (∀ j, j < 4 → fr' j = -1 ∧ kn' j = 0) → ∃ n37, wY_fits_37 post x1 x3 f_place f_count f_top f_done f_open f_steps f_shownSteps f_fault f_in f_made f_old f_size f_heads f_fresh n37 x2 0 a_kind a_value a_all a_split a_toKind a_doneKind a_toValue a_doneValue a_begins a_lacks a_inKind a_leftKind a_madeKind a_oldKind a_resultKind a_inValue a_leftValue a_madeValue a_oldValue a_resultValue fr' a_to a_whole kn' a_bound a_whose a_rank a_one a_two a_oneOf a_twoOf a_headAt a_headOf a_headLeft a_pairs a_first) → wY_fits_3 post x1 x2 x3 f_place f_count f_top f_done f_open f_steps f_shownSteps f_fault f_in f_made f_old f_size f_heads f_fresh n (nI k) a_kind a_value a_all a_split a_toKind a_doneKind a_toValue a_doneValue a_begins a_lacks a_inKind a_leftKind a_madeKind a_oldKind a_resultKind a_inValue a_leftValue a_madeValue a_oldValue a_resultValue fr a_to a_whole kn a_bound a_whose a_rank a_one a_two a_oneOf a_twoOf a_headAt a_headOf a_headLeft a_pairs a_first
  | 0, k, n, fr, kn, hk, hm, hn, H => by
    obtain ⟨n, rfl⟩ : ∃ n', n = n' + 1 := ⟨n - 1, by omega⟩
    exact pk_le 4 k (fun _ => H fr kn (fun j hj => hm j (by omega))) (fun z => absurd z (by omega))
  | d + 1, k, n, fr, kn, hk, hm, hn, H => by
    obtain ⟨n, rfl⟩ : ∃ n', n = n' + 1 := ⟨n - 1, by omega⟩
    have hin : vp_in (nI k) 4 := vp_in_nI (by omega) (by omega)
    have ek : (nI k).toNatClampNeg = k := nI_clamp (by omega)
    refine pk_le 4 k (fun z => absurd z (by omega)) (fun _ => ⟨hin, nm_r (e' := upd kn k 0) (by rw [ek, yf_nb0]) ⟨hin, nm_r (e' := upd fr k (-1)) (by rw [ek, yf_nsm]) (nm_r (nI_1 k) ?_)⟩⟩)
    refine yf_3 d (k + 1) n _ _ (by omega) (fun j hj => ?_) (by omega) H
    by_cases e : j = k
    · rw [e, pk_us, pk_us]; exact ⟨rfl, rfl⟩
    · rw [pk_un e, pk_un e]; exact hm j (by omega)
theorem yf_fits {post : Int32 → SY → Prop} {ps s : List Int64} {m : Nat} (N st D : Nat) (hN : N = ps.length) (hN30 : N ≤ 30) (hD : D ≤ 2000) (hs : st + s.length = D) (h3 : hd_y tk_kR tk_vR a_leftKind a_leftValue 0 ps) (h4 : hd_y tk_kT tk_vT a_doneKind a_doneValue st s) (h5 : ∀ t, t ∈ ps → tk_r t) (h6 : ∀ t, t ∈ s → tk_t t) (h7 : tm_w s m) (Hy : ∀ β' fr to wh kn, ru_mt ps s (fun _ => []) = some β' → yf_b a_doneKind a_doneValue fr to wh kn D β' → post 1 (f_place, f_count, f_top, f_done, f_open, f_steps, f_shownSteps, f_fault, f_in, f_made, f_old, f_size, f_heads, f_fresh, a_kind, a_value, a_all, a_split, a_toKind, a_doneKind, a_toValue, a_doneValue, a_begins, a_lacks, a_inKind, a_leftKind, a_madeKind, a_oldKind, a_resultKind, a_inValue, a_leftValue, a_madeValue, a_oldValue, a_resultValue, fr, to, wh, kn, a_bound, a_whose, a_rank, a_one, a_two, a_oneOf, a_twoOf, a_headAt, a_headOf, a_headLeft, a_pairs, a_first)) (Hz : ∀ fr to wh kn, ru_mt ps s (fun _ => []) = none → post 0 (f_place, f_count, f_top, f_done, f_open, f_steps, f_shownSteps, f_fault, f_in, f_made, f_old, f_size, f_heads, f_fresh, a_kind, a_value, a_all, a_split, a_toKind, a_doneKind, a_toValue, a_doneValue, a_begins, a_lacks, a_inKind, a_leftKind, a_madeKind, a_oldKind, a_resultKind, a_inValue, a_leftValue, a_madeValue, a_oldValue, a_resultValue, fr, to, wh, kn, a_bound, a_whose, a_rank, a_one, a_two, a_oneOf, a_twoOf, a_headAt, a_headOf, a_headLeft, a_pairs, a_first)) : wpY_fits post (f_place, f_count, f_top, f_done, f_open, f_steps, f_shownSteps, f_fault, f_in, f_made, f_old, f_size, f_heads, f_fresh, a_kind, a_value, a_all, a_split, a_toKind, a_doneKind, a_toValue, a_doneValue, a_begins, a_lacks, a_inKind, a_leftKind, a_madeKind, a_oldKind, a_resultKind, a_inValue, a_leftValue, a_madeValue, a_oldValue, a_resultValue, a_from, a_to, a_whole, a_known, a_bound, a_whose, a_rank, a_one, a_two, a_oneOf, a_twoOf, a_headAt, a_headOf, a_headLeft, a_pairs, a_first) (nI N) (nI st) (nI D) := by
  refine ⟨5, yf_3 4 0 5 a_from a_known rfl (fun j hj => absurd hj (by omega)) (by omega) (fun fr' kn' hm => ⟨ps.length + 1, ?_⟩)⟩
  refine yf_l hN30 hD ps s m st 0 _ (fun _ => []) fr' a_to a_whole kn' (by omega) hs h3 h4 h5 h6 h7 ⟨fun k t ht => absurd ht (by simp), fun j hj => ⟨⟨fun _ => (hm j hj).1, fun z => absurd rfl z⟩, ⟨fun _ => (hm j hj).2, fun z => absurd rfl z⟩⟩⟩ (by omega) Hy Hz
theorem yf_29 {post : Int32 → SY → Prop} (J2 : _) {x1 x2 : Int32} {r N : Nat} (hr : r < 8) (hN : N ≤ 30) (hs : a_split r = nI N) : ∀ (l : List Int64) (c k n : Nat), k + l.length = N → hd_y tk_kR tk_vR a_kind a_value (30 * r + k) l → (∀ t, t ∈ l → tk_r t) → l.length < n → (∃ n79, wY_found_79 post J2 x1 x2 (nI r) (nI (c + ru_c9 l)) n79 0 f_place f_count f_top f_done f_open f_steps f_shownSteps f_fault f_in f_made f_old f_size f_heads f_fresh a_kind a_value a_all a_split a_toKind a_doneKind a_toValue a_doneValue a_begins a_lacks a_inKind a_leftKind a_madeKind a_oldKind a_resultKind a_inValue a_leftValue a_madeValue a_oldValue a_resultValue a_from a_to a_whole a_known a_bound a_whose a_rank a_one a_two a_oneOf a_twoOf a_headAt a_headOf a_headLeft a_pairs a_first) → wY_found_29 post J2 x1 x2 (nI r) f_place f_count f_top f_done f_open f_steps f_shownSteps f_fault f_in f_made f_old f_size f_heads f_fresh a_kind a_value a_all a_split a_toKind a_doneKind a_toValue a_doneValue a_begins a_lacks a_inKind a_leftKind a_madeKind a_oldKind a_resultKind a_inValue a_leftValue a_madeValue a_oldValue a_resultValue a_from a_to a_whole a_known a_bound a_whose a_rank a_one a_two a_oneOf a_twoOf a_headAt a_headOf a_headLeft a_pairs a_first n (nI c) (nI (30 * r + k))
  | [], c, k, n, h1, h2, h3, hn, H => by
    obtain ⟨n, rfl⟩ : ∃ n', n = n' + 1 := ⟨n - 1, by omega⟩
    rw [List.length_nil] at h1
    refine ⟨vp_in_nI hr (by omega), ?_⟩
    rw [nI_clamp (by omega), hs]
    exact pk_le (30 * r + N) (30 * r + k) (fun _ => H) (fun z => absurd z (by omega)) (by rw [show (30 : Int32) = nI 30 from rfl, pk_mul, nI_add]) rfl
  | t :: l, c, k, n, h1, h2, h3, hn, H => by
    obtain ⟨n, rfl⟩ : ∃ n', n = n' + 1 := ⟨n - 1, by omega⟩
    rw [List.length_cons] at h1 hn
    have htr := h3 t (List.mem_cons.mpr (Or.inl rfl))
    have h9 := tk_9 htr
    have hin : vp_in (nI (30 * r + k)) 270 := vp_in_nI (by omega) (by omega)
    have htl : ∀ t, t ∈ l → tk_r t := fun x hx => h3 x (List.mem_cons.mpr (Or.inr hx))
    refine ⟨vp_in_nI hr (by omega), ?_⟩
    rw [nI_clamp (n := r) (by omega), hs]
    refine pk_le (30 * r + N) (30 * r + k) (fun z => absurd z (by omega)) (fun _ => ⟨hin, ?_⟩) (by rw [show (30 : Int32) = nI 30 from rfl, pk_mul, nI_add]) rfl
    rw [nI_clamp (by omega), h2.1.1, h2.1.2]
    have no : ¬ t = 9 → wY_found_29 post J2 x1 x2 (nI r) f_place f_count f_top f_done f_open f_steps f_shownSteps f_fault f_in f_made f_old f_size f_heads f_fresh a_kind a_value a_all a_split a_toKind a_doneKind a_toValue a_doneValue a_begins a_lacks a_inKind a_leftKind a_madeKind a_oldKind a_resultKind a_inValue a_leftValue a_madeValue a_oldValue a_resultValue a_from a_to a_whole a_known a_bound a_whose a_rank a_one a_two a_oneOf a_twoOf a_headAt a_headOf a_headLeft a_pairs a_first n (nI c) (nI (30 * r + k + 1)) := by
      intro hne
      refine yf_29 J2 hr hN hs l c (k + 1) n (by omega) h2.2 htl (by omega) ?_
      have e : c + ru_c9 (t :: l) = c + ru_c9 l := by
        show c + ((if t = 9 then 1 else 0) + ru_c9 l) = _
        rw [if_neg hne, Nat.zero_add]
      rw [e] at H
      exact H
    by_cases hk : tk_kR t = 0
    · refine br_t hk ⟨hin, ?_⟩
      by_cases hv : tk_vR t = 9
      · have et := h9.mp ⟨hk, hv⟩
        refine br_t hv (nm_r (nI_1 c) (nm_r (nI_1 _) (yf_29 J2 hr hN hs l (c + 1) (k + 1) n (by omega) h2.2 htl (by omega) ?_)))
        have e : c + ru_c9 (t :: l) = c + 1 + ru_c9 l := by
          show c + ((if t = 9 then 1 else 0) + ru_c9 l) = _
          rw [if_pos et]; omega
        rw [e] at H
        exact H
      · exact br_f hv (nm_r (nI_1 _) (no (fun z => hv (h9.mpr z).2)))
    · exact br_f hk (nm_r (nI_1 _) (no (fun z => hk (h9.mpr z).1)))
theorem yf_79 {post : Int32 → SY → Prop} {L R : Nat → List Int64} {s : List Int64} {st D r m : Nat} (J2 : _) (hG : mc_G L R) (hR : yr_R L R a_kind a_value a_all a_split) (hr : r < 8) (h0 : L r ≠ []) (hD : D ≤ 2000) (hs : st + s.length = D) (h4 : hd_y tk_kT tk_vT a_doneKind a_doneValue st s) (h6 : ∀ t, t ∈ s → tk_t t) (h7 : tm_w s m) : ∀ (k w n : Nat) (lk lv fr to wh kn : Nat → Int32), w + k = 2 ^ ru_c9 (L r) → k < n → (∀ β lk lv fr to wh kn, ru_fw (L r) s k w = some β → yf_b a_doneKind a_doneValue fr to wh kn D β → post (nI r) (f_place, f_count, f_top, f_done, f_open, f_steps, f_shownSteps, f_fault, f_in, f_made, f_old, f_size, f_heads, f_fresh, a_kind, a_value, a_all, a_split, a_toKind, a_doneKind, a_toValue, a_doneValue, a_begins, a_lacks, a_inKind, lk, a_madeKind, a_oldKind, a_resultKind, a_inValue, lv, a_madeValue, a_oldValue, a_resultValue, fr, to, wh, kn, a_bound, a_whose, a_rank, a_one, a_two, a_oneOf, a_twoOf, a_headAt, a_headOf, a_headLeft, a_pairs, a_first)) → (∀ lk lv fr to wh kn, ru_fw (L r) s k w = none → J2 (nI (r + 1)) f_place f_count f_top f_done f_open f_steps f_shownSteps f_fault f_in f_made f_old f_size f_heads f_fresh a_kind a_value a_all a_split a_toKind a_doneKind a_toValue a_doneValue a_begins a_lacks a_inKind lk a_madeKind a_oldKind a_resultKind a_inValue lv a_madeValue a_oldValue a_resultValue fr to wh kn a_bound a_whose a_rank a_one a_two a_oneOf a_twoOf a_headAt a_headOf a_headLeft a_pairs a_first) → wY_found_79 post J2 (nI st) (nI D) (nI r) (nI (ru_c9 (L r))) n (nI w) f_place f_count f_top f_done f_open f_steps f_shownSteps f_fault f_in f_made f_old f_size f_heads f_fresh a_kind a_value a_all a_split a_toKind a_doneKind a_toValue a_doneValue a_begins a_lacks a_inKind lk a_madeKind a_oldKind a_resultKind a_inValue lv a_madeValue a_oldValue a_resultValue fr to wh kn a_bound a_whose a_rank a_one a_two a_oneOf a_twoOf a_headAt a_headOf a_headLeft a_pairs a_first
  | 0, w, n, lk, lv, fr, to, wh, kn, hk, hn, Hy, Hn => by
    obtain ⟨n, rfl⟩ : ∃ n', n = n' + 1 := ⟨n - 1, by omega⟩
    rcases hG r with h | ⟨g1, g2, g3, g4, g5, g6, g7, g8⟩
    · exact absurd h h0
    have h16 : 2 ^ ru_c9 (L r) ≤ 16 := Nat.le_trans (Nat.pow_le_pow_right (by omega) g7) (by decide)
    exact pk_le (2 ^ ru_c9 (L r)) w (fun _ => nm_r (nI_1 r) (Hn lk lv fr to wh kn rfl)) (fun z => absurd z (by omega)) (yw_pow (by omega)) rfl
  | k + 1, w, n, lk, lv, fr, to, wh, kn, hk, hn, Hy, Hn => by
    obtain ⟨n, rfl⟩ : ∃ n', n = n' + 1 := ⟨n - 1, by omega⟩
    rcases hG r with h | ⟨g1, g2, g3, g4, g5, g6, g7, g8⟩
    · exact absurd h h0
    have h16 : 2 ^ ru_c9 (L r) ≤ 16 := Nat.le_trans (Nat.pow_le_pow_right (by omega) g7) (by decide)
    obtain ⟨r1, r2, r3⟩ := (hR r hr).2 h0
    have hRl : 1 ≤ (R r).length := tm_w_len _ _ g2
    refine pk_le (2 ^ ru_c9 (L r)) w (fun z => absurd z (by omega)) (fun _ => ?_) (yw_pow (by omega)) rfl
    refine yx_ex (o := L r) r w hr (by omega) (by omega) g7 g1 g4 r2 (hy_app.mp r3).1 (fun lk' lv' hl => ⟨vp_in_nI hr (by omega), ?_⟩)
    rw [nI_clamp (by omega), r2]
    refine yf_fits (ps := (ru_wy (L r) w).1) (L r).length st D (ru_wy_len _ _).symm (by omega) hD hs hl h4 (fun t ht => g4 t (ru_wy_mem _ _ _ ht)) h6 h7 (fun β fr' to' wh' kn' e hb => ?_) (fun fr' to' wh' kn' e => ?_)
    · exact br_f (by decide) (Hy β lk' lv' fr' to' wh' kn' (by rw [ru_fw, e]) hb)
    · rw [ru_fw, e] at Hy Hn
      exact br_t rfl (nm_r (nI_1 w) (yf_79 J2 hG hR hr h0 hD hs h4 h6 h7 k (w + 1) n _ _ _ _ _ _ (by omega) (by omega) Hy Hn))
theorem yf_2 {post : Int32 → SY → Prop} {L R : Nat → List Int64} {s : List Int64} {st D m : Nat} (hG : mc_G L R) (hR : yr_R L R a_kind a_value a_all a_split) (hD : D ≤ 2000) (hs : st + s.length = D) (h4 : hd_y tk_kT tk_vT a_doneKind a_doneValue st s) (h6 : ∀ t, t ∈ s → tk_t t) (h7 : tm_w s m) : ∀ (k r n : Nat) (lk lv fr to wh kn : Nat → Int32), r + k = 8 → k < n → (∀ r' β lk lv fr to wh kn, ru_fr L s k r = some (r', β) → yf_b a_doneKind a_doneValue fr to wh kn D β → post (nI r') (f_place, f_count, f_top, f_done, f_open, f_steps, f_shownSteps, f_fault, f_in, f_made, f_old, f_size, f_heads, f_fresh, a_kind, a_value, a_all, a_split, a_toKind, a_doneKind, a_toValue, a_doneValue, a_begins, a_lacks, a_inKind, lk, a_madeKind, a_oldKind, a_resultKind, a_inValue, lv, a_madeValue, a_oldValue, a_resultValue, fr, to, wh, kn, a_bound, a_whose, a_rank, a_one, a_two, a_oneOf, a_twoOf, a_headAt, a_headOf, a_headLeft, a_pairs, a_first)) → (∀ lk lv fr to wh kn, ru_fr L s k r = none → post (-1) (f_place, f_count, f_top, f_done, f_open, f_steps, f_shownSteps, f_fault, f_in, f_made, f_old, f_size, f_heads, f_fresh, a_kind, a_value, a_all, a_split, a_toKind, a_doneKind, a_toValue, a_doneValue, a_begins, a_lacks, a_inKind, lk, a_madeKind, a_oldKind, a_resultKind, a_inValue, lv, a_madeValue, a_oldValue, a_resultValue, fr, to, wh, kn, a_bound, a_whose, a_rank, a_one, a_two, a_oneOf, a_twoOf, a_headAt, a_headOf, a_headLeft, a_pairs, a_first)) → wY_found_2 post (nI st) (nI D) n (nI r) f_place f_count f_top f_done f_open f_steps f_shownSteps f_fault f_in f_made f_old f_size f_heads f_fresh a_kind a_value a_all a_split a_toKind a_doneKind a_toValue a_doneValue a_begins a_lacks a_inKind lk a_madeKind a_oldKind a_resultKind a_inValue lv a_madeValue a_oldValue a_resultValue fr to wh kn a_bound a_whose a_rank a_one a_two a_oneOf a_twoOf a_headAt a_headOf a_headLeft a_pairs a_first
  | 0, r, n, lk, lv, fr, to, wh, kn, hk, hn, Hy, Hn => by
    obtain ⟨n, rfl⟩ : ∃ n', n = n' + 1 := ⟨n - 1, by omega⟩
    exact pk_le 8 r (fun _ => Hn lk lv fr to wh kn rfl) (fun z => absurd z (by omega))
  | k + 1, r, n, lk, lv, fr, to, wh, kn, hk, hn, Hy, Hn => by
    obtain ⟨n, rfl⟩ : ∃ n', n = n' + 1 := ⟨n - 1, by omega⟩
    refine pk_le 8 r (fun z => absurd z (by omega)) (fun _ => ⟨vp_in_nI (by omega) (by omega), ?_⟩)
    rw [nI_clamp (by omega)]
    by_cases h0 : L r = []
    · rw [ru_fr, if_pos h0] at Hy Hn
      refine br_t ((hR r (by omega)).1 h0) (nm_r (nI_1 r) ?_)
      exact yf_2 hG hR hD hs h4 h6 h7 k (r + 1) n _ _ _ _ _ _ (by omega) (by omega) Hy Hn
    · rw [ru_fr, if_neg h0] at Hy Hn
      rcases hG r with h | ⟨g1, g2, g3, g4, g5, g6, g7, g8⟩
      · exact absurd h h0
      obtain ⟨r1, r2, r3⟩ := (hR r (by omega)).2 h0
      have hLl : 1 ≤ (L r).length := tm_w_len _ _ g1
      have h16 : 2 ^ ru_c9 (L r) ≤ 16 := Nat.le_trans (Nat.pow_le_pow_right (by omega) g7) (by decide)
      refine br_f (by rw [r1]; exact nI_ne0 (by omega) (by omega)) (nm_r (e' := nI (30 * r + 0)) (by rw [show (30 : Int32) = nI 30 from rfl, pk_mul, Nat.add_zero]) ⟨(L r).length + 1, ?_⟩)
      rw [← nI_0]
      refine yf_29 _ (by omega) (by omega) r2 (L r) 0 0 _ (by omega) (hy_app.mp r3).1 g4 (by omega) ⟨2 ^ ru_c9 (L r) + 1, ?_⟩
      rw [Nat.zero_add, ← nI_0]
      refine yf_79 _ hG hR (by omega) h0 hD hs h4 h6 h7 (2 ^ ru_c9 (L r)) 0 _ lk lv fr to wh kn (by omega) (by omega) (fun β lk' lv' fr' to' wh' kn' e hb => ?_) (fun lk' lv' fr' to' wh' kn' e => ?_)
      · exact Hy r β lk' lv' fr' to' wh' kn' (by rw [e]) hb
      · rw [e] at Hy Hn
        exact yf_2 hG hR hD hs h4 h6 h7 k (r + 1) n _ _ _ _ _ _ (by omega) (by omega) Hy Hn
theorem yf_found {post : Int32 → SY → Prop} {L R : Nat → List Int64} {s : List Int64} (st D m : Nat) (hG : mc_G L R) (hR : yr_R L R a_kind a_value a_all a_split) (hD : D ≤ 2000) (hs : st + s.length = D) (h4 : hd_y tk_kT tk_vT a_doneKind a_doneValue st s) (h6 : ∀ t, t ∈ s → tk_t t) (h7 : tm_w s m) (Hy : ∀ r' β lk lv fr to wh kn, ru_fr L s 8 0 = some (r', β) → yf_b a_doneKind a_doneValue fr to wh kn D β → post (nI r') (f_place, f_count, f_top, f_done, f_open, f_steps, f_shownSteps, f_fault, f_in, f_made, f_old, f_size, f_heads, f_fresh, a_kind, a_value, a_all, a_split, a_toKind, a_doneKind, a_toValue, a_doneValue, a_begins, a_lacks, a_inKind, lk, a_madeKind, a_oldKind, a_resultKind, a_inValue, lv, a_madeValue, a_oldValue, a_resultValue, fr, to, wh, kn, a_bound, a_whose, a_rank, a_one, a_two, a_oneOf, a_twoOf, a_headAt, a_headOf, a_headLeft, a_pairs, a_first)) (Hn : ∀ lk lv fr to wh kn, ru_fr L s 8 0 = none → post (-1) (f_place, f_count, f_top, f_done, f_open, f_steps, f_shownSteps, f_fault, f_in, f_made, f_old, f_size, f_heads, f_fresh, a_kind, a_value, a_all, a_split, a_toKind, a_doneKind, a_toValue, a_doneValue, a_begins, a_lacks, a_inKind, lk, a_madeKind, a_oldKind, a_resultKind, a_inValue, lv, a_madeValue, a_oldValue, a_resultValue, fr, to, wh, kn, a_bound, a_whose, a_rank, a_one, a_two, a_oneOf, a_twoOf, a_headAt, a_headOf, a_headLeft, a_pairs, a_first)) : wpY_found post (f_place, f_count, f_top, f_done, f_open, f_steps, f_shownSteps, f_fault, f_in, f_made, f_old, f_size, f_heads, f_fresh, a_kind, a_value, a_all, a_split, a_toKind, a_doneKind, a_toValue, a_doneValue, a_begins, a_lacks, a_inKind, a_leftKind, a_madeKind, a_oldKind, a_resultKind, a_inValue, a_leftValue, a_madeValue, a_oldValue, a_resultValue, a_from, a_to, a_whole, a_known, a_bound, a_whose, a_rank, a_one, a_two, a_oneOf, a_twoOf, a_headAt, a_headOf, a_headLeft, a_pairs, a_first) (nI st) (nI D) :=
  ⟨9, yf_2 hG hR hD hs h4 h6 h7 8 0 9 _ _ _ _ _ _ rfl (by omega) Hy Hn⟩
theorem ym_make {post : SY → Prop} {q : List Int64} {t : Int64} (c : Nat) (hc : c = q.length) (hc2 : c < 1000000) (hq : hd_y tk_kT tk_vT a_madeKind a_madeValue 0 (q.take 31)) (H : ∀ ka va, hd_y tk_kT tk_vT ka va 0 ((q ++ [t]).take 31) → post (f_place, f_count, f_top, f_done, f_open, f_steps, f_shownSteps, f_fault, f_in, nI (c + 1), f_old, f_size, f_heads, f_fresh, a_kind, a_value, a_all, a_split, a_toKind, a_doneKind, a_toValue, a_doneValue, a_begins, a_lacks, a_inKind, a_leftKind, ka, a_oldKind, a_resultKind, a_inValue, a_leftValue, va, a_oldValue, a_resultValue, a_from, a_to, a_whole, a_known, a_bound, a_whose, a_rank, a_one, a_two, a_oneOf, a_twoOf, a_headAt, a_headOf, a_headLeft, a_pairs, a_first)) : wpY_make post (f_place, f_count, f_top, f_done, f_open, f_steps, f_shownSteps, f_fault, f_in, nI c, f_old, f_size, f_heads, f_fresh, a_kind, a_value, a_all, a_split, a_toKind, a_doneKind, a_toValue, a_doneValue, a_begins, a_lacks, a_inKind, a_leftKind, a_madeKind, a_oldKind, a_resultKind, a_inValue, a_leftValue, a_madeValue, a_oldValue, a_resultValue, a_from, a_to, a_whole, a_known, a_bound, a_whose, a_rank, a_one, a_two, a_oneOf, a_twoOf, a_headAt, a_headOf, a_headLeft, a_pairs, a_first) (tk_kT t) (tk_vT t) := by
  have ec : (nI c).toNatClampNeg = c := nI_clamp (by omega)
  refine pk_le 31 c (fun h => nm_r (nI_1 c) (H _ _ ?_)) (fun h => ?_)
  · rw [xi_take' (by omega)]; exact hq
  · have hin : vp_in (nI c) 32 := vp_in_nI (by omega) (by omega)
    refine ⟨hin, nm_r (e' := upd a_madeKind c (tk_kT t)) (by rw [ec, (tk_narT t).2]) ⟨hin, nm_r (e' := upd a_madeValue c (tk_vT t)) (by rw [ec]) (nm_r (nI_1 c) (H _ _ ?_))⟩⟩
    rw [List.take_of_length_le (by omega)] at hq
    rw [xi_take (by omega)]
    exact hy_snoc c (by omega) hq
theorem ym_make1 {post : SY → Prop} {q : List Int64} {t : Int64} {x : Int32} (hx : x = tk_kT t) (c : Nat) (hc : c = q.length) (hc2 : c < 1000000) (hq : hd_y tk_kT tk_vT a_madeKind a_madeValue 0 (q.take 31)) (H : ∀ ka va, hd_y tk_kT tk_vT ka va 0 ((q ++ [t]).take 31) → post (f_place, f_count, f_top, f_done, f_open, f_steps, f_shownSteps, f_fault, f_in, nI (c + 1), f_old, f_size, f_heads, f_fresh, a_kind, a_value, a_all, a_split, a_toKind, a_doneKind, a_toValue, a_doneValue, a_begins, a_lacks, a_inKind, a_leftKind, ka, a_oldKind, a_resultKind, a_inValue, a_leftValue, va, a_oldValue, a_resultValue, a_from, a_to, a_whole, a_known, a_bound, a_whose, a_rank, a_one, a_two, a_oneOf, a_twoOf, a_headAt, a_headOf, a_headLeft, a_pairs, a_first)) : wpY_make post (f_place, f_count, f_top, f_done, f_open, f_steps, f_shownSteps, f_fault, f_in, nI c, f_old, f_size, f_heads, f_fresh, a_kind, a_value, a_all, a_split, a_toKind, a_doneKind, a_toValue, a_doneValue, a_begins, a_lacks, a_inKind, a_leftKind, a_madeKind, a_oldKind, a_resultKind, a_inValue, a_leftValue, a_madeValue, a_oldValue, a_resultValue, a_from, a_to, a_whole, a_known, a_bound, a_whose, a_rank, a_one, a_two, a_oneOf, a_twoOf, a_headAt, a_headOf, a_headLeft, a_pairs, a_first) x (tk_vT t) := by
  subst hx
  exact ym_make c hc hc2 hq H
theorem yi_95 {post : SY → Prop} (J17 : _) {x1 : Int32} {k v e : Nat} (hv : v < 4) (he : a_to v = nI e) (heD : e ≤ 2000) : ∀ (a q : List Int64) (b n c : Nat) (ka va : Nat → Int32), b + a.length = e → c = q.length → c + a.length < 1000000 → hd_y tk_kT tk_vT a_doneKind a_doneValue b a → hd_y tk_kT tk_vT ka va 0 (q.take 31) → a.length < n → (∀ ka va, hd_y tk_kT tk_vT ka va 0 ((q ++ a).take 31) → J17 (nI (k + 1)) f_place f_count f_top f_done f_open f_steps f_shownSteps f_fault f_in (nI (q ++ a).length) f_old f_size f_heads f_fresh a_kind a_value a_all a_split a_toKind a_doneKind a_toValue a_doneValue a_begins a_lacks a_inKind a_leftKind ka a_oldKind a_resultKind a_inValue a_leftValue va a_oldValue a_resultValue a_from a_to a_whole a_known a_bound a_whose a_rank a_one a_two a_oneOf a_twoOf a_headAt a_headOf a_headLeft a_pairs a_first) → wY_instance_95 post J17 x1 (nI k) (nI v) n (nI b) f_place f_count f_top f_done f_open f_steps f_shownSteps f_fault f_in (nI c) f_old f_size f_heads f_fresh a_kind a_value a_all a_split a_toKind a_doneKind a_toValue a_doneValue a_begins a_lacks a_inKind a_leftKind ka a_oldKind a_resultKind a_inValue a_leftValue va a_oldValue a_resultValue a_from a_to a_whole a_known a_bound a_whose a_rank a_one a_two a_oneOf a_twoOf a_headAt a_headOf a_headLeft a_pairs a_first
  | [], q, b, n, c, ka, va, h1, hc, hc2, h2, h3, hn, H => by
    obtain ⟨n, rfl⟩ : ∃ n', n = n' + 1 := ⟨n - 1, by omega⟩
    rw [List.length_nil] at h1
    rw [List.append_nil, ← hc] at H
    refine ⟨vp_in_nI hv (by omega), ?_⟩
    rw [nI_clamp (by omega), he]
    exact pk_le e b (fun _ => nm_r (nI_1 k) (H ka va h3)) (fun z => absurd z (by omega))
  | t :: a, q, b, n, c, ka, va, h1, hc, hc2, h2, h3, hn, H => by
    obtain ⟨n, rfl⟩ : ∃ n', n = n' + 1 := ⟨n - 1, by omega⟩
    rw [List.length_cons] at h1 hn hc2
    have hin : vp_in (nI b) 2400 := vp_in_nI (by omega) (by omega)
    refine ⟨vp_in_nI hv (by omega), ?_⟩
    rw [nI_clamp (n := v) (by omega), he]
    refine pk_le e b (fun z => absurd z (by omega)) (fun _ => ⟨hin, hin, ?_⟩)
    rw [nI_clamp (by omega), h2.1.1, h2.1.2]
    have e3 : q ++ t :: a = (q ++ [t]) ++ a := by rw [List.append_assoc]; rfl
    rw [e3] at H
    refine ym_make c hc (by omega) h3 (fun ka' va' hz => nm_r (nI_1 b) ?_)
    exact yi_95 J17 hv he heD a (q ++ [t]) (b + 1) n (c + 1) ka' va' (by omega) (by simp; omega) (by omega) h2.2 hz (by omega) H
theorem yi_17 {post : SY → Prop} {β : Nat → List Int64} {r e D : Nat} (hr : r < 8) (hall : a_all r = nI e) (he : e ≤ 30) (hD : D ≤ 2000) (hb : yf_b a_doneKind a_doneValue a_from a_to a_whole a_known D β) : ∀ (l q : List Int64) (k n c : Nat) (ka va : Nat → Int32), k + l.length = 30 * r + e → c = q.length → c + 2001 * l.length < 1000000 → hd_y tk_kR tk_vR a_kind a_value k l → (∀ t, t ∈ l → tk_r t) → (∀ t, t ∈ l → ¬ t < 8589934592 → β (ru_slot t) ≠ []) → hd_y tk_kT tk_vT ka va 0 (q.take 31) → l.length < n → (∀ ka va, hd_y tk_kT tk_vT ka va 0 ((q ++ ru_in β l).take 31) → post (f_place, f_count, f_top, f_done, f_open, f_steps, f_shownSteps, f_fault, f_in, nI (q ++ ru_in β l).length, f_old, f_size, f_heads, f_fresh, a_kind, a_value, a_all, a_split, a_toKind, a_doneKind, a_toValue, a_doneValue, a_begins, a_lacks, a_inKind, a_leftKind, ka, a_oldKind, a_resultKind, a_inValue, a_leftValue, va, a_oldValue, a_resultValue, a_from, a_to, a_whole, a_known, a_bound, a_whose, a_rank, a_one, a_two, a_oneOf, a_twoOf, a_headAt, a_headOf, a_headLeft, a_pairs, a_first)) → wY_instance_17 post (nI r) n (nI k) f_place f_count f_top f_done f_open f_steps f_shownSteps f_fault f_in (nI c) f_old f_size f_heads f_fresh a_kind a_value a_all a_split a_toKind a_doneKind a_toValue a_doneValue a_begins a_lacks a_inKind a_leftKind ka a_oldKind a_resultKind a_inValue a_leftValue va a_oldValue a_resultValue a_from a_to a_whole a_known a_bound a_whose a_rank a_one a_two a_oneOf a_twoOf a_headAt a_headOf a_headLeft a_pairs a_first
  | [], q, k, n, c, ka, va, h1, hc, hc2, h2, ht, hbb, h3, hn, H => by
    obtain ⟨n, rfl⟩ : ∃ n', n = n' + 1 := ⟨n - 1, by omega⟩
    rw [List.length_nil] at h1
    have e0 : q ++ ru_in β [] = q := List.append_nil q
    rw [e0, ← hc] at H
    refine ⟨vp_in_nI (by omega) (by omega), ?_⟩
    rw [nI_clamp (by omega), hall]
    exact pk_le (30 * r + e) k (fun _ => H ka va h3) (fun z => absurd z (by omega)) (by rw [show (30 : Int32) = nI 30 from rfl, pk_mul, nI_add]) rfl
  | t :: l, q, k, n, c, ka, va, h1, hc, hc2, h2, ht, hbb, h3, hn, H => by
    obtain ⟨n, rfl⟩ : ∃ n', n = n' + 1 := ⟨n - 1, by omega⟩
    rw [List.length_cons] at h1 hn hc2
    have hin : vp_in (nI k) 270 := vp_in_nI (by omega) (by omega)
    have ek : (nI k).toNatClampNeg = k := nI_clamp (by omega)
    refine ⟨vp_in_nI (by omega) (by omega), ?_⟩
    rw [nI_clamp (n := r) (by omega), hall]
    refine pk_le (30 * r + e) k (fun z => absurd z (by omega)) (fun _ => ⟨hin, nm_r (e' := tk_vR t) (by rw [ek]; exact h2.1.2) ⟨hin, ?_⟩⟩) (by rw [show (30 : Int32) = nI 30 from rfl, pk_mul, nI_add]) rfl
    rw [ek, h2.1.1]
    have e0 : ru_in β (t :: l) = (if t < 8589934592 then [t] else β (ru_slot t)) ++ ru_in β l := rfl
    have htl : ∀ t, t ∈ l → tk_r t := fun x hx => ht x (List.mem_cons.mpr (Or.inr hx))
    have hbl : ∀ t, t ∈ l → ¬ t < 8589934592 → β (ru_slot t) ≠ [] := fun x hx => hbb x (List.mem_cons.mpr (Or.inr hx))
    have htr := ht t (List.mem_cons.mpr (Or.inl rfl))
    rw [e0, ← List.append_assoc] at H
    by_cases hn' : t < 8589934592
    · rw [if_pos hn'] at H
      have hd : tk_d t := by
        obtain ⟨z, rfl, hz⟩ := htr
        rw [tk_lt 8589934592 (by omega)] at hn'
        exact ⟨z, rfl, by omega⟩
      obtain ⟨q1, q2⟩ := tk_dT hd
      have hk2 : ¬ tk_kR t = 2 := by unfold tk_kR; rw [if_pos hn']; split <;> decide
      have hk3 : ¬ tk_kR t = 3 := by unfold tk_kR; rw [if_pos hn']; split <;> decide
      refine br_f hk3 ⟨hin, br_f hk2 ⟨hin, ?_⟩⟩
      rw [q1, q2]
      refine ym_make c hc (by omega) h3 (fun ka' va' hz => nm_r (nI_1 k) ?_)
      exact yi_17 hr hall he hD hb l (q ++ [t]) (k + 1) n (c + 1) ka' va' (by omega) (by simp; omega) (by omega) h2.2 htl hbl hz (by omega) H
    · rw [if_neg hn'] at H
      have hne := hbb t (List.mem_cons.mpr (Or.inl rfl)) hn'
      rcases ru_names htr hn' with ⟨v, hv, er, kr, vr, sr, hl⟩ | ⟨v, hv, er, kr, vr, sr, hl⟩
      · rw [kr, vr]
        rw [sr] at hne H
        obtain ⟨bw, st, s1, s2, s3, s4⟩ := ((hb.2 v hv).1).2 hne
        have hinv : vp_in (nI v) 4 := vp_in_nI hv (by omega)
        refine br_f (by decide) ⟨hin, br_t rfl ⟨hinv, nm_r (e' := nI st) (by rw [nI_clamp (by omega), s1]) ⟨(β v).length + 1, ?_⟩⟩⟩
        refine yi_95 _ hv s2 (by omega) (β v) q st _ c ka va rfl hc (by omega) s4 h3 (by omega) (fun ka' va' hz => ?_)
        exact yi_17 hr hall he hD hb l (q ++ β v) (k + 1) n _ ka' va' (by omega) rfl (by rw [List.length_append]; omega) h2.2 htl hbl hz (by omega) H
      · rw [kr, vr]
        rw [sr] at hne H
        obtain ⟨bk, c0, s1, s2, s3⟩ := ((hb.2 v hv).2).2 hne
        have hinv : vp_in (nI v) 4 := vp_in_nI hv (by omega)
        have hc0t : tk_t c0 := hb.1 (4 + v) c0 (by rw [s1]; simp)
        refine br_t rfl ⟨hinv, ?_⟩
        rw [nI_clamp (by omega), s3]
        rw [s1] at H
        refine ym_make1 ((tk_N_Y hc0t).mpr s2).symm c hc (by omega) h3 (fun ka' va' hz => nm_r (nI_1 k) ?_)
        exact yi_17 hr hall he hD hb l (q ++ [c0]) (k + 1) n (c + 1) ka' va' (by omega) (by simp; omega) (by omega) h2.2 htl hbl hz (by omega) H
theorem yi_in {post : SY → Prop} {L R : Nat → List Int64} {β : Nat → List Int64} (r D : Nat) (hG : mc_G L R) (hR : yr_R L R a_kind a_value a_all a_split) (hr : r < 8) (h0 : L r ≠ []) (hD : D ≤ 2000) (hb : yf_b a_doneKind a_doneValue a_from a_to a_whole a_known D β) (hbb : ∀ t, t ∈ R r → ¬ t < 8589934592 → β (ru_slot t) ≠ []) (H : ∀ ka va, hd_y tk_kT tk_vT ka va 0 ((ru_in β (R r)).take 31) → post (f_place, f_count, f_top, f_done, f_open, f_steps, f_shownSteps, f_fault, f_in, nI (ru_in β (R r)).length, f_old, f_size, f_heads, f_fresh, a_kind, a_value, a_all, a_split, a_toKind, a_doneKind, a_toValue, a_doneValue, a_begins, a_lacks, a_inKind, a_leftKind, ka, a_oldKind, a_resultKind, a_inValue, a_leftValue, va, a_oldValue, a_resultValue, a_from, a_to, a_whole, a_known, a_bound, a_whose, a_rank, a_one, a_two, a_oneOf, a_twoOf, a_headAt, a_headOf, a_headLeft, a_pairs, a_first)) : wpY_instance post (f_place, f_count, f_top, f_done, f_open, f_steps, f_shownSteps, f_fault, f_in, f_made, f_old, f_size, f_heads, f_fresh, a_kind, a_value, a_all, a_split, a_toKind, a_doneKind, a_toValue, a_doneValue, a_begins, a_lacks, a_inKind, a_leftKind, a_madeKind, a_oldKind, a_resultKind, a_inValue, a_leftValue, a_madeValue, a_oldValue, a_resultValue, a_from, a_to, a_whole, a_known, a_bound, a_whose, a_rank, a_one, a_two, a_oneOf, a_twoOf, a_headAt, a_headOf, a_headLeft, a_pairs, a_first) (nI r) := by
  obtain ⟨r1, r2, r3⟩ := (hR r hr).2 h0
  rcases hG r with h | ⟨g1, g2, g3, g4, g5, g6, g7, g8⟩
  · exact absurd h h0
  · refine ⟨vp_in_nI hr (by omega), nm_r (e' := nI (30 * r + (L r).length)) (by rw [nI_clamp (by omega), r2, show (30 : Int32) = nI 30 from rfl, pk_mul, nI_add]) ⟨(R r).length + 1, ?_⟩⟩
    rw [← nI_0]
    exact yi_17 hr r1 g3 hD hb (R r) [] (30 * r + (L r).length) _ 0 _ _ (by omega) rfl (by omega) (hy_app.mp r3).2 g5 hbb trivial (by omega) H
end
end
section
/-! the reference: one term whose arguments are replaced -/
section
variable {f_place f_count f_top f_done f_open f_steps f_shownSteps f_fault f_in f_made f_old f_size f_heads f_fresh : Int32} {a_kind a_value a_all a_split a_toKind a_doneKind a_toValue a_doneValue a_begins a_lacks a_inKind a_leftKind a_madeKind a_oldKind a_resultKind a_inValue a_leftValue a_madeValue a_oldValue a_resultValue a_from a_to a_whole a_known a_bound a_whose a_rank a_one a_two a_oneOf a_twoOf a_headAt a_headOf a_headLeft a_pairs a_first : Nat → Int32}
variable {P : Int64 → Prop} {L R : Nat → List Int64}
theorem yl_read {post : Int32 → SY → Prop} {q W : List Int64} (hq : hd_y tk_kT tk_vT a_madeKind a_madeValue 0 q) (hq31 : q.length ≤ 31) (hl : q.length + W.length ≤ 2400) (H : ∀ tk tv, hd_y tk_kT tk_vT tk tv 0 (q ++ W).reverse → post 1 (f_place, f_count, nI (q ++ W).length, f_done, f_open, f_steps, f_shownSteps, 0, f_in, f_made, f_old, f_size, f_heads, f_fresh, a_kind, a_value, a_all, a_split, tk, a_doneKind, tv, a_doneValue, a_begins, a_lacks, a_inKind, a_leftKind, a_madeKind, a_oldKind, a_resultKind, a_inValue, a_leftValue, a_madeValue, a_oldValue, a_resultValue, a_from, a_to, a_whole, a_known, a_bound, a_whose, a_rank, a_one, a_two, a_oneOf, a_twoOf, a_headAt, a_headOf, a_headLeft, a_pairs, a_first)) : ∀ (p q2 : List Int64) (tk tv : Nat → Int32) (n w : Nat) (x4 : Int32), q = p.reverse ++ q2 → w = (q2 ++ W).length → x4 = nI p.length + (-1) → hd_y tk_kT tk_vT tk tv 0 (q2 ++ W).reverse → p.length < n → wY_replaced_186 post n x4 f_place f_count (nI w) f_done f_open f_steps f_shownSteps 0 f_in f_made f_old f_size f_heads f_fresh a_kind a_value a_all a_split tk a_doneKind tv a_doneValue a_begins a_lacks a_inKind a_leftKind a_madeKind a_oldKind a_resultKind a_inValue a_leftValue a_madeValue a_oldValue a_resultValue a_from a_to a_whole a_known a_bound a_whose a_rank a_one a_two a_oneOf a_twoOf a_headAt a_headOf a_headLeft a_pairs a_first
  | [], q2, tk, tv, n, w, x4, e, hw, hx, hz, hn => by
    obtain ⟨n, rfl⟩ : ∃ n', n = n' + 1 := ⟨n - 1, by omega⟩
    subst hx
    rw [List.reverse_nil, List.nil_append] at e
    subst e
    rw [hw]
    exact br_t (by decide) (H tk tv hz)
  | t :: p, q2, tk, tv, n, w, x4, e, hw, hx, hz, hn => by
    obtain ⟨n, rfl⟩ : ∃ n', n = n' + 1 := ⟨n - 1, by omega⟩
    rw [List.length_cons] at hn hx
    rw [pk_m1] at hx
    subst hx
    rw [List.reverse_cons, List.append_assoc] at e
    have hlen : q.length = p.length + (q2.length + 1) := by rw [e]; simp
    rw [List.length_append] at hw
    have hin : vp_in (nI p.length) 32 := vp_in_nI (by omega) (by omega)
    have et : a_madeKind p.length = tk_kT t ∧ a_madeValue p.length = tk_vT t := by
      have hh := hq
      rw [e] at hh
      have := (hy_app.mp hh).2.1
      rwa [Nat.zero_add, List.length_reverse] at this
    refine br_f (nI_pos (by omega)) (br_t rfl ⟨hin, hin, ?_⟩)
    rw [nI_clamp (by omega), et.1, et.2]
    refine yr_read w (by omega) (nm_e ?_)
    refine yl_read hq hq31 hl H p (t :: q2) _ _ n (w + 1) _ e (by simp; omega) rfl ?_ (by omega)
    rw [List.cons_append, List.reverse_cons]
    exact hy_snoc w (by simp; omega) hz
theorem yn_repl {post : Int32 → SY → Prop} (hPt : ∀ x, P x → tk_t x) (hG : mc_G L R) (hR : yr_R L R a_kind a_value a_all a_split) {W : List Int64} {F : List (List Int64 × Nat)} {t : Nat} {s : List Int64} (hI : mc_I P W F t (some s)) (st D T : Nat) (hst : st = (mc_fl F).length) (hD : D = st + s.length) (hT : T = W.length) (hnum : ∀ c r, s = c :: r → ¬ tk_kT c = 1) (hto : hd_y tk_kT tk_vT a_toKind a_toValue 0 W.reverse) (hdn : hd_y tk_kT tk_vT a_doneKind a_doneValue 0 (mc_fl F ++ s))
    (HF : ∀ c t', mc_st L R W F t (some s) = .inr (c, t', []) → c ≠ 0 → ∀ (tp dn sp fa md : Int32) (tk tv dk dv lk lv mdk mdv fr to wh kn : Nat → Int32), post 1 (f_place, f_count, tp, dn, f_open, nI t', f_shownSteps, nI c, f_in, md, f_old, f_size, f_heads, f_fresh, a_kind, a_value, a_all, a_split, tk, dk, tv, dv, a_begins, a_lacks, a_inKind, lk, mdk, a_oldKind, a_resultKind, a_inValue, lv, mdv, a_oldValue, a_resultValue, fr, to, wh, kn, a_bound, a_whose, a_rank, a_one, a_two, a_oneOf, a_twoOf, a_headAt, a_headOf, a_headLeft, a_pairs, a_first))
    (HR : ∀ W' t', mc_st L R W F t (some s) = .inl (W', F, t', none) → ∀ (dn md : Int32) (tk tv dk dv lk lv mdk mdv fr to wh kn : Nat → Int32), hd_y tk_kT tk_vT tk tv 0 W'.reverse → hd_y tk_kT tk_vT dk dv 0 (mc_fl F) → post 1 (f_place, f_count, nI W'.length, nI st, f_open, nI t', f_shownSteps, 0, f_in, md, f_old, f_size, f_heads, f_fresh, a_kind, a_value, a_all, a_split, tk, dk, tv, dv, a_begins, a_lacks, a_inKind, lk, mdk, a_oldKind, a_resultKind, a_inValue, lv, mdv, a_oldValue, a_resultValue, fr, to, wh, kn, a_bound, a_whose, a_rank, a_one, a_two, a_oneOf, a_twoOf, a_headAt, a_headOf, a_headLeft, a_pairs, a_first))
    (HN : ∀ s' t', mc_st L R W F t (some s) = mc_fin W F t' s' → ∀ (dn md : Int32) (dk dv lk lv mdk mdv fr to wh kn : Nat → Int32), hd_y tk_kT tk_vT dk dv 0 (mc_fl F ++ s') → post 0 (f_place, f_count, nI T, nI (st + s'.length), f_open, nI t', f_shownSteps, 0, f_in, md, f_old, f_size, f_heads, f_fresh, a_kind, a_value, a_all, a_split, a_toKind, dk, a_toValue, dv, a_begins, a_lacks, a_inKind, lk, mdk, a_oldKind, a_resultKind, a_inValue, lv, mdv, a_oldValue, a_resultValue, fr, to, wh, kn, a_bound, a_whose, a_rank, a_one, a_two, a_oneOf, a_twoOf, a_headAt, a_headOf, a_headLeft, a_pairs, a_first)) :
    wpY_replaced post (f_place, f_count, nI T, nI D, f_open, nI t, f_shownSteps, 0, f_in, f_made, f_old, f_size, f_heads, f_fresh, a_kind, a_value, a_all, a_split, a_toKind, a_doneKind, a_toValue, a_doneValue, a_begins, a_lacks, a_inKind, a_leftKind, a_madeKind, a_oldKind, a_resultKind, a_inValue, a_leftValue, a_madeValue, a_oldValue, a_resultValue, a_from, a_to, a_whole, a_known, a_bound, a_whose, a_rank, a_one, a_two, a_oneOf, a_twoOf, a_headAt, a_headOf, a_headLeft, a_pairs, a_first) (nI st) := by
  obtain ⟨ht, hW, hF, h1, h2, h3, h4⟩ := hI
  obtain ⟨o, r, rfl, hr⟩ := tm_w_pos h2
  have hot := hPt o (h3 o (List.mem_cons.mpr (Or.inl rfl)))
  have hk1 := hnum o r rfl
  rw [List.length_cons] at hD
  rw [List.length_cons] at h4
  subst hst
  obtain ⟨hd1, hd2⟩ := hy_app.mp hdn
  rw [Nat.zero_add] at hd2
  have hin : vp_in (nI (mc_fl F).length) 2400 := vp_in_nI (by omega) (by omega)
  have hst60 : ∀ x, (if 60 < t + 1 then Sum.inr (2, t + 1, []) else x) = mc_st L R W F t (some (o :: r)) ∨ True := fun _ => Or.inr trivial
  -- behind the sort
  have key : ∀ dk dv, hd_y tk_kT tk_vT dk dv (mc_fl F).length (mc_or (o :: r)) → hd_y tk_kT tk_vT dk dv 0 (mc_fl F) → wY_replaced_18 post (nI (mc_fl F).length) (tk_vT o) f_place f_count (nI T) (nI D) f_open (nI t) f_shownSteps 0 f_in f_made f_old f_size f_heads f_fresh a_kind a_value a_all a_split a_toKind dk a_toValue dv a_begins a_lacks a_inKind a_leftKind a_madeKind a_oldKind a_resultKind a_inValue a_leftValue a_madeValue a_oldValue a_resultValue a_from a_to a_whole a_known a_bound a_whose a_rank a_one a_two a_oneOf a_twoOf a_headAt a_headOf a_headLeft a_pairs a_first := by
    intro dk dv hh hh0
    have hol := mc_or_len (o :: r)
    rw [List.length_cons] at hol
    have how := mc_or_w h2
    have hoP : ∀ x, x ∈ mc_or (o :: r) → tk_t x := fun x hx => hPt x (h3 x (mc_or_mem hx))
    refine pk_le (r.length + 1) 30 (fun h30 => ?_) (fun h30 => ?_) (by rw [hD, pk_sub (by omega), show (mc_fl F).length + (r.length + 1) - (mc_fl F).length = r.length + 1 by omega]) rfl
    · have hstn : mc_ar (mc_or (o :: r)) = none → ∀ x, (match ru_fr L (mc_or (o :: r)) 8 0 with
          | none => mc_fin W F t (mc_or (o :: r))
          | some (r, β) => if 60 < t + 1 then .inr (2, t + 1, []) else if 30 < (ru_in β (R r)).length then .inr (3, t + 1, []) else .inl (ru_in β (R r) ++ W, F, t + 1, none)) = x → mc_st L R W F t (some (o :: r)) = x := by
        intro ha x hx
        rw [mc_st, if_neg (by rw [List.length_cons]; omega), ha]
        exact hx
      have rule : mc_ar (mc_or (o :: r)) = none → wY_replaced_129 post (nI (mc_fl F).length) f_place f_count (nI T) (nI D) f_open (nI t) f_shownSteps 0 f_in f_made f_old f_size f_heads f_fresh a_kind a_value a_all a_split a_toKind dk a_toValue dv a_begins a_lacks a_inKind a_leftKind a_madeKind a_oldKind a_resultKind a_inValue a_leftValue a_madeValue a_oldValue a_resultValue a_from a_to a_whole a_known a_bound a_whose a_rank a_one a_two a_oneOf a_twoOf a_headAt a_headOf a_headLeft a_pairs a_first := by
        intro ha
        have hst := hstn ha
        refine yf_found (mc_fl F).length D 1 hG hR (by omega) (by omega) hh hoP how (fun r' β lk lv fr to wh kn hf hb => ?_) (fun lk lv fr to wh kn hf => ?_)
        · rw [hf] at hst
          obtain ⟨_, hr8, hL0, w, hw, hm⟩ := mc_fr _ _ _ _ hf
          refine br_t (nI_pos' (by omega)) (nm_r (nI_1 t) ?_)
          refine pk_le (t + 1) 60 (fun h60 => ?_) (fun h60 => ?_)
          · refine pk_le (t + 1) 60 (fun _ => br_t rfl ?_) (fun z => absurd z (by omega))
            dsimp only at hst
            rw [if_neg (by omega)] at hst
            rcases hG r' with h | ⟨g1, g2, g3, g4, g5, g6, g7, g8⟩
            · exact absurd h hL0
            obtain ⟨b1, b2, b3⟩ := mc_mt (P := P) _ _ 1 _ _ hm how (fun x hx => h3 x (mc_or_mem hx)) (fun k => Or.inl rfl)
            refine yi_in r' D hG hR (by omega) hL0 (by omega) hb (fun q hq hq' => b3 q (mc_wy_mem' _ _ _ (g8 q hq hq')) hq') (fun mdk mdv hz => ?_)
            have hbl : (ru_in β (R r')).length < 100000 := by
              have hb9 : ∀ k, (β k).length ≤ 2000 := by
                intro k
                rcases b1 k with h | h
                · rw [h]; simp
                · by_cases hk8 : k < 4
                  · by_cases h0 : β k = []
                    · rw [h0]; simp
                    · obtain ⟨_, q, _, _, q3, _⟩ := ((hb.2 k hk8).1).2 h0
                      omega
                  · by_cases hk9 : k < 8
                    · by_cases h0 : β k = []
                      · rw [h0]; simp
                      · obtain ⟨j, rfl⟩ : ∃ j, k = 4 + j := ⟨k - 4, by omega⟩
                        obtain ⟨_, c, q, _⟩ := ((hb.2 j (by omega)).2).2 h0
                        rw [q]; simp
                    · exact mc_len_mt _ _ _ _ hm (by rw [hol]; omega) (fun _ => by simp) k
              have : ∀ l : List Int64, (ru_in β l).length ≤ 2000 * l.length := by
                intro l
                induction l with
                | nil => simp [ru_in]
                | cons x l ih =>
                  show ((if x < 8589934592 then [x] else β (ru_slot x)) ++ ru_in β l).length ≤ _
                  rw [List.length_append, List.length_cons]
                  have := hb9 (ru_slot x)
                  split
                  · simp; omega
                  · omega
              have := this (R r')
              omega
            refine pk_le (ru_in β (R r')).length 30 (fun hi30 => ?_) (fun hi30 => ?_)
            · rw [if_neg (by omega)] at hst
              have etk : (ru_in β (R r')).take 31 = ru_in β (R r') := List.take_of_length_le (by omega)
              rw [etk] at hz
              refine nm_r (Int32.sub_eq_add_neg _ _) ⟨(ru_in β (R r')).length + 1, ?_⟩
              refine yl_read (W := W) hz (by omega) (by omega) (fun tk tv hz2 => ?_) (ru_in β (R r')).reverse [] _ _ _ T _ (by rw [List.reverse_reverse, List.append_nil]) (by rw [List.nil_append, hT]) (by rw [List.length_reverse]) (by rw [List.nil_append]; exact hto) (by rw [List.length_reverse]; omega)
              exact HR _ _ (hst _ rfl) (nI 0) _ _ _ _ _ _ _ _ _ _ _ _ _ hz2 hh0
            · rw [if_pos (by omega)] at hst
              have hf3 := HF 3 (t + 1) (hst _ rfl) (by omega)
              have hmade : nI (ru_in β (R r')).length - 1 = nI ((ru_in β (R r')).length - 1) := by rw [show (1 : Int32) = nI 1 from rfl, pk_sub (by omega)]
              refine nm_r hmade ⟨1, br_f (nI_pos (by omega)) (br_f (by decide) ?_)⟩
              exact hf3 _ _ (nI 0) (nI 0) _ _ _ _ _ _ _ _ _ _ _ _ _
          · refine pk_le (t + 1) 60 (fun z => absurd z (by omega)) (fun _ => br_f (by decide) ?_)
            dsimp only at hst
            rw [if_pos (by omega)] at hst
            exact HF 2 (t + 1) (hst _ rfl) (by omega) _ _ (nI 0) (nI 0) _ _ _ _ _ _ _ _ _ _ _ _ _
        · rw [hf] at hst
          refine br_f (by decide) ?_
          have := HN (mc_or (o :: r)) t (hst _ rfl) (nI 0) f_made dk dv lk lv a_madeKind a_madeValue fr to wh kn (hy_app.mpr ⟨hh0, by rw [Nat.zero_add]; exact hh⟩)
          rw [hol, ← hD] at this
          exact this
      have har10 := tk_sym hot hk1 10 (by omega) (x := 10) (y := 10)
      have har11 := tk_sym hot hk1 11 (by omega) (x := 11) (y := 11)
      have arith : (o = 10 ∨ o = 11) → wY_replaced_48 post (nI (mc_fl F).length) (tk_vT o) f_place f_count (nI T) (nI D) f_open (nI t) f_shownSteps 0 f_in f_made f_old f_size f_heads f_fresh a_kind a_value a_all a_split a_toKind dk a_toValue dv a_begins a_lacks a_inKind a_leftKind a_madeKind a_oldKind a_resultKind a_inValue a_leftValue a_madeValue a_oldValue a_resultValue a_from a_to a_whole a_known a_bound a_whose a_rank a_one a_two a_oneOf a_twoOf a_headAt a_headOf a_headLeft a_pairs a_first := by
        intro ho
        have ho9 : ¬ o = 9 := by rcases ho with h | h <;> rw [h] <;> decide
        have hoar : tm_ar o = 2 := by rcases ho with h | h <;> rw [h] <;> decide
        have emo := mc_or_n (r := r) ho9
        rw [hoar] at hr
        obtain ⟨A, B, r0, e, hA, hB, hr0⟩ := tm_2 (m := 0) hr
        have := tm_w_0 hr0
        subst this
        rw [List.append_nil] at e
        obtain ⟨x, A', rfl, hA'⟩ := tm_w_pos hA
        obtain ⟨y, B', rfl, hB'⟩ := tm_w_pos hB
        have hlr : r.length = A'.length + 1 + (B'.length + 1) := by rw [e]; simp; omega
        rw [emo] at hh hoP
        have hxt : tk_t x := hoP x (by rw [e]; simp)
        have hx : dk ((mc_fl F).length + 1) = tk_kT x ∧ dv ((mc_fl F).length + 1) = tk_vT x := by
          have := hh.2
          rw [e] at this
          exact this.1
        have e1 : nI (mc_fl F).length + 1 = nI ((mc_fl F).length + 1) := nI_1 _
        have e2 : nI (mc_fl F).length + 2 = nI ((mc_fl F).length + 2) := nI_add _ 2
        have i1 : vp_in (nI (mc_fl F).length + 1) 2400 := by rw [e1]; exact vp_in_nI (by omega) (by omega)
        have i2 : vp_in (nI (mc_fl F).length + 2) 2400 := by rw [e2]; exact vp_in_nI (by omega) (by omega)
        have c1 : (nI (mc_fl F).length + 1).toNatClampNeg = (mc_fl F).length + 1 := by rw [e1]; exact nI_clamp (by omega)
        have c2 : (nI (mc_fl F).length + 2).toNatClampNeg = (mc_fl F).length + 2 := by rw [e2]; exact nI_clamp (by omega)
        refine ⟨i1, ?_⟩
        rw [c1, hx.1]
        have hNx := tk_N_Y hxt
        by_cases hxN : tk_N x
        · have ex0 : A' = [] := by rw [tk_N_ar hxt hxN] at hA'; exact tm_w_0 hA'
          subst ex0
          have hyt : tk_t y := hoP y (by rw [e]; simp)
          have hy : dk ((mc_fl F).length + 2) = tk_kT y ∧ dv ((mc_fl F).length + 2) = tk_vT y := by
            have := hh.2
            rw [e] at this
            exact this.2.1
          refine br_t (hNx.mpr hxN) ⟨i2, ?_⟩
          rw [c2, hy.1]
          have hNy := tk_N_Y hyt
          by_cases hyN : tk_N y
          · have ey0 : B' = [] := by rw [tk_N_ar hyt hyN] at hB'; exact tm_w_0 hB'
            subst ey0
            have er : r = [x, y] := e
            have hv : mc_ar (mc_or (o :: r)) = some (4294967296 + ((if o = 10 then x.toInt32 + y.toInt32 else x.toInt32 * y.toInt32).toInt64 &&& 4294967295)) := by
              rw [emo, er, mc_ar, if_pos ⟨ho, hxN, hyN⟩]
            have hst : ∀ z, (if 60 < t + 1 then Sum.inr (2, t + 1, []) else mc_fin W F (t + 1) [4294967296 + ((if o = 10 then x.toInt32 + y.toInt32 else x.toInt32 * y.toInt32).toInt64 &&& 4294967295)]) = z → mc_st L R W F t (some (o :: r)) = z := by
              intro z hz
              rw [mc_st, if_neg (by rw [List.length_cons]; omega), hv]
              exact hz
            refine br_t (hNy.mpr hyN) (nm_r (nI_1 t) ?_)
            refine pk_le (t + 1) 60 (fun h60 => ?_) (fun h60 => ?_)
            · refine pk_le (t + 1) 60 (fun _ => br_t rfl ?_) (fun z => absurd z (by omega))
              rw [if_neg (by omega)] at hst
              have fin : ∀ z : Int32, z = (if o = 10 then x.toInt32 + y.toInt32 else x.toInt32 * y.toInt32) → wY_replaced_124 post z 1 f_place f_count (nI T) (nI (mc_fl F).length) f_open (nI (t + 1)) f_shownSteps 0 f_in f_made f_old f_size f_heads f_fresh a_kind a_value a_all a_split a_toKind dk a_toValue dv a_begins a_lacks a_inKind a_leftKind a_madeKind a_oldKind a_resultKind a_inValue a_leftValue a_madeValue a_oldValue a_resultValue a_from a_to a_whole a_known a_bound a_whose a_rank a_one a_two a_oneOf a_twoOf a_headAt a_headOf a_headLeft a_pairs a_first := by
                intro z hz
                rw [← hz] at hst
                obtain ⟨_, q1, q2⟩ := tk_num z
                have := HN _ (t + 1) (hst _ rfl) (nI 0) f_made (upd dk (mc_fl F).length (tk_kT (4294967296 + (z.toInt64 &&& 4294967295)))) (upd dv (mc_fl F).length (tk_vT (4294967296 + (z.toInt64 &&& 4294967295)))) a_leftKind a_leftValue a_madeKind a_madeValue a_from a_to a_whole a_known (hy_snoc _ (by omega) hh0)
                have hfin := yr_fin (t := 4294967296 + (z.toInt64 &&& 4294967295)) (post := fun u => match u with | (f_place0, f_count0, f_top0, f_done0, f_open0, f_steps0, f_shownSteps0, f_fault0, f_in0, f_made0, f_old0, f_size0, f_heads0, f_fresh0, a_kind0, a_value0, a_all0, a_split0, a_toKind0, a_doneKind0, a_toValue0, a_doneValue0, a_begins0, a_lacks0, a_inKind0, a_leftKind0, a_madeKind0, a_oldKind0, a_resultKind0, a_inValue0, a_leftValue0, a_madeValue0, a_oldValue0, a_resultValue0, a_from0, a_to0, a_whole0, a_known0, a_bound0, a_whose0, a_rank0, a_one0, a_two0, a_oneOf0, a_twoOf0, a_headAt0, a_headOf0, a_headLeft0, a_pairs0, a_first0) => post 0 (f_place0, f_count0, f_top0, f_done0, f_open0, f_steps0, f_shownSteps0, f_fault0, f_in0, f_made0, f_old0, f_size0, f_heads0, f_fresh0, a_kind0, a_value0, a_all0, a_split0, a_toKind0, a_doneKind0, a_toValue0, a_doneValue0, a_begins0, a_lacks0, a_inKind0, a_leftKind0, a_madeKind0, a_oldKind0, a_resultKind0, a_inValue0, a_leftValue0, a_madeValue0, a_oldValue0, a_resultValue0, a_from0, a_to0, a_whole0, a_known0, a_bound0, a_whose0, a_rank0, a_one0, a_two0, a_oneOf0, a_twoOf0, a_headAt0, a_headOf0, a_headLeft0, a_pairs0, a_first0)) (f_place := f_place) (mc_fl F).length (by omega) this
                rw [q1, q2] at hfin
                exact hfin
              refine ⟨i1, nm_r (e' := x.toInt32) (by rw [hx.2, tk_vT_num hxN]) ⟨i2, nm_r (e' := y.toInt32) (by rw [hy.2, tk_vT_num hyN]) ?_⟩⟩
              by_cases h10 : o = 10
              · exact br_t (har10.mpr h10) (fin _ (by rw [if_pos h10]))
              · exact br_f (fun z => h10 (har10.mp z)) (fin _ (by rw [if_neg h10]))
            · refine pk_le (t + 1) 60 (fun z => absurd z (by omega)) (fun _ => br_f (by decide) ?_)
              rw [if_pos (by omega)] at hst
              exact HF 2 (t + 1) (hst _ rfl) (by omega) _ _ (nI 0) (nI 0) _ _ _ _ _ _ _ _ _ _ _ _ _
          · refine br_f (fun z => hyN (hNy.mp z)) (rule ?_)
            rw [emo, e]
            show mc_ar (o :: x :: y :: B') = none
            cases B' with
            | nil => rw [mc_ar, if_neg (fun z => hyN z.2.2)]
            | cons => rfl
        · refine br_f (fun z => hxN (hNx.mp z)) (rule ?_)
          rw [emo, e]
          unfold mc_ar
          split
          · rename_i o' x' y' eq
            injection eq with _ eq
            injection eq with eq _
            rw [if_neg (fun z => hxN (by rw [eq]; exact z.2.1))]
          · rfl
      by_cases h10 : o = 10
      · exact br_t (har10.mpr h10) (arith (Or.inl h10))
      · refine br_f (fun z => h10 (har10.mp z)) ?_
        by_cases h11 : o = 11
        · exact br_t (har11.mpr h11) (arith (Or.inr h11))
        · refine br_f (fun z => h11 (har11.mp z)) (rule ?_)
          obtain ⟨r', er'⟩ := mc_or_hd o r
          rw [er']
          unfold mc_ar
          split
          · rename_i o' x' y' eq
            injection eq with eq _
            rw [if_neg]
            rw [← eq]
            rintro ⟨z | z, _⟩
            · exact h10 z
            · exact h11 z
          · rfl
    · refine HF 3 t ?_ (by omega) _ _ (nI 0) (nI 0) _ _ _ _ _ _ _ _ _ _ _ _ _
      rw [mc_st, if_pos (by rw [List.length_cons]; omega)]
  refine ⟨hin, nm_r (e' := tk_vT o) (by rw [nI_clamp (by omega)]; exact hd2.1.2) ?_⟩
  have h9 := tk_sym hot hk1 9 (by omega) (x := 9) (y := 9)
  by_cases ho9 : o = 9
  · subst ho9
    refine br_t (h9.mpr rfl) ?_
    refine yo_sort (mc_fl F).length D h2 (fun x hx => hPt x (h3 x (List.mem_cons.mpr (Or.inr hx)))) hd2 hD (by omega) (fun dk dv g1 g2 g3 => key dk dv g1 (hy_keep hd1 g2 g3 (by omega)))
  · refine br_f (fun z => ho9 (h9.mp z)) (key _ _ ?_ hd1)
    rw [mc_or_n ho9]
    exact hd2
end
end
section
/-! the reference: the normal form follows the machine -/
section
variable {f_place f_count f_top f_done f_open f_steps f_shownSteps f_fault f_in f_made f_old f_size f_heads f_fresh : Int32} {a_kind a_value a_all a_split a_toKind a_doneKind a_toValue a_doneValue a_begins a_lacks a_inKind a_leftKind a_madeKind a_oldKind a_resultKind a_inValue a_leftValue a_madeValue a_oldValue a_resultValue a_from a_to a_whole a_known a_bound a_whose a_rank a_one a_two a_oneOf a_twoOf a_headAt a_headOf a_headLeft a_pairs a_first : Nat → Int32}
variable {P : Int64 → Prop} {L R : Nat → List Int64}
theorem yn_32 {post : SY → Prop} {J2 : Int32 → Int32 → Int32 → Int32 → Int32 → Int32 → Int32 → Int32 → Int32 → Int32 → Int32 → Int32 → Int32 → Int32 → Int32 → (Nat → Int32) → (Nat → Int32) → (Nat → Int32) → (Nat → Int32) → (Nat → Int32) → (Nat → Int32) → (Nat → Int32) → (Nat → Int32) → (Nat → Int32) → (Nat → Int32) → (Nat → Int32) → (Nat → Int32) → (Nat → Int32) → (Nat → Int32) → (Nat → Int32) → (Nat → Int32) → (Nat → Int32) → (Nat → Int32) → (Nat → Int32) → (Nat → Int32) → (Nat → Int32) → (Nat → Int32) → (Nat → Int32) → (Nat → Int32) → (Nat → Int32) → (Nat → Int32) → (Nat → Int32) → (Nat → Int32) → (Nat → Int32) → (Nat → Int32) → (Nat → Int32) → (Nat → Int32) → (Nat → Int32) → (Nat → Int32) → (Nat → Int32) → (Nat → Int32) → Prop} {tp dn sp fa md : Int32} {tk tv dk dv lk lv mdk mdv fr to wh kn bg lc : Nat → Int32} {W s : List Int64} {F : List (List Int64 × Nat)} (t : Nat) (hF : mc_fo P F) (hFl : F.length < 2300) (hu : xn_fs bg lc F) (op : Nat) (hop : op = F.length)
    (He : F = [] → mc_fin W F t s = .inr (0, t, s) → post (f_place, f_count, tp, dn, nI 0, sp, f_shownSteps, fa, f_in, md, f_old, f_size, f_heads, f_fresh, a_kind, a_value, a_all, a_split, tk, dk, tv, dv, bg, lc, a_inKind, lk, mdk, a_oldKind, a_resultKind, a_inValue, lv, mdv, a_oldValue, a_resultValue, fr, to, wh, kn, a_bound, a_whose, a_rank, a_one, a_two, a_oneOf, a_twoOf, a_headAt, a_headOf, a_headLeft, a_pairs, a_first))
    (Hr : ∀ F' lc', mc_fin W F t s = .inl (W, F', t, none) → xn_fs bg lc' F' → mc_fl F' = mc_fl F ++ s → post (f_place, f_count, tp, dn, nI F'.length, sp, f_shownSteps, fa, f_in, md, f_old, f_size, f_heads, f_fresh, a_kind, a_value, a_all, a_split, tk, dk, tv, dv, bg, lc', a_inKind, lk, mdk, a_oldKind, a_resultKind, a_inValue, lv, mdv, a_oldValue, a_resultValue, fr, to, wh, kn, a_bound, a_whose, a_rank, a_one, a_two, a_oneOf, a_twoOf, a_headAt, a_headOf, a_headLeft, a_pairs, a_first))
    (Hc : ∀ F' s' lc', mc_fin W F t s = .inl (W, F', t, some s') → xn_fs bg lc' F' → mc_fl F' ++ s' = mc_fl F ++ s → J2 (nI (mc_fl F').length) f_place f_count tp dn (nI F'.length) sp f_shownSteps fa f_in md f_old f_size f_heads f_fresh a_kind a_value a_all a_split tk dk tv dv bg lc' a_inKind lk mdk a_oldKind a_resultKind a_inValue lv mdv a_oldValue a_resultValue fr to wh kn a_bound a_whose a_rank a_one a_two a_oneOf a_twoOf a_headAt a_headOf a_headLeft a_pairs a_first) :
    wY_complete_32 post J2 f_place f_count tp dn (nI op) sp f_shownSteps fa f_in md f_old f_size f_heads f_fresh a_kind a_value a_all a_split tk dk tv dv bg lc a_inKind lk mdk a_oldKind a_resultKind a_inValue lv mdv a_oldValue a_resultValue fr to wh kn a_bound a_whose a_rank a_one a_two a_oneOf a_twoOf a_headAt a_headOf a_headLeft a_pairs a_first := by
  subst hop
  cases F with
  | nil => exact br_t rfl (He rfl rfl)
  | cons a F =>
    obtain ⟨p, k⟩ := a
    obtain ⟨h1, h2, h3, h4, h5⟩ := hF p k (List.mem_cons.mpr (Or.inl rfl))
    have hl : ((p, k) :: F).length = F.length + 1 := rfl
    rw [hl] at hFl ⊢
    have e : nI (F.length + 1) - 1 = nI F.length := nI_pred _
    have hin : vp_in (nI (F.length + 1) - 1) 2400 := by rw [e]; exact vp_in_nI (by omega) (by omega)
    have ec : (nI (F.length + 1) - 1).toNatClampNeg = F.length := by rw [e]; exact nI_clamp (by omega)
    have elc : lc F.length - 1 = nI (k - 1) := by
      rw [hu.2.1]
      obtain ⟨j, rfl⟩ : ∃ j, k = j + 1 := ⟨k - 1, by omega⟩
      exact nI_pred j
    have hfl : mc_fl F ++ (p ++ s) = mc_fl ((p, k) :: F) ++ s := (List.append_assoc _ _ _).symm
    refine pk_eq (F.length + 1) 0 (fun z => absurd z (by omega)) (fun _ => ⟨hin, hin, ?_⟩)
    rw [ec, elc, tk_b (by omega)]
    refine nm_r (e' := upd lc F.length (nI (k - 1))) (by rw [(tk_nb (by omega)).2]) ?_
    have hu' : xn_fs bg (upd lc F.length (nI (k - 1))) F := xn_fs_congr (fun j hj => ⟨rfl, pk_un (by omega)⟩) hu.2.2
    refine pk_le (k - 1) 0 (fun hk => ?_) (fun hk => ?_)
    · have hk1 : k = 1 := by omega
      refine nm_r e ⟨hin, nm_r (e' := nI (mc_fl F).length) hu.1 ?_⟩
      refine Hc F (p ++ s) _ ?_ hu' hfl
      show (if k ≤ 1 then _ else _) = _
      rw [if_pos (by omega)]
    · refine Hr ((p ++ s, k - 1) :: F) _ ?_ ⟨hu.1, pk_us, hu'⟩ hfl
      show (if k ≤ 1 then _ else _) = _
      rw [if_neg (by omega)]
theorem yn_comp {post : SY → Prop} (hPt : ∀ x, P x → tk_t x) (hd : ∀ x, tk_d x → P x) (hG : mc_G L R) (hR : yr_R L R a_kind a_value a_all a_split) : ∀ (f : Nat) (W : List Int64) (F : List (List Int64 × Nat)) (t : Nat) (s : List Int64) (n st D T : Nat) (md : Int32) (tk tv dk dv lk lv mdk mdv fr to wh kn bg lc : Nat → Int32), mc_I P W F t (some s) → mc_mu W F t (some s) < f → st = (mc_fl F).length → D = st + s.length → T = W.length → hd_y tk_kT tk_vT tk tv 0 W.reverse → hd_y tk_kT tk_vT dk dv 0 (mc_fl F ++ s) → xn_fs bg lc F → f < n →
    (∀ c t' s', mc_run L R f W F t (some s) = (c, t', s') → ∀ (tp dn sp fa md op : Int32) (tk tv dk dv lk lv mdk mdv fr to wh kn bg lc : Nat → Int32), (c = 0 → tp = nI 0 ∧ dn = nI s'.length ∧ hd_y tk_kT tk_vT dk dv 0 s') → post (f_place, f_count, tp, dn, op, nI t', f_shownSteps, nI c, f_in, md, f_old, f_size, f_heads, f_fresh, a_kind, a_value, a_all, a_split, tk, dk, tv, dv, bg, lc, a_inKind, lk, mdk, a_oldKind, a_resultKind, a_inValue, lv, mdv, a_oldValue, a_resultValue, fr, to, wh, kn, a_bound, a_whose, a_rank, a_one, a_two, a_oneOf, a_twoOf, a_headAt, a_headOf, a_headLeft, a_pairs, a_first)) →
    (∀ f' W' F' t', f' < f → mc_run L R f W F t (some s) = mc_run L R f' W' F' t' none → mc_I P W' F' t' none → mc_mu W' F' t' none < f' → ∀ (dn tp op : Nat) (md : Int32) (tk tv dk dv lk lv mdk mdv fr to wh kn bg lc : Nat → Int32), tp = W'.length → dn = (mc_fl F').length → op = F'.length → hd_y tk_kT tk_vT tk tv 0 W'.reverse → hd_y tk_kT tk_vT dk dv 0 (mc_fl F') → xn_fs bg lc F' → post (f_place, f_count, nI tp, nI dn, nI op, nI t', f_shownSteps, 0, f_in, md, f_old, f_size, f_heads, f_fresh, a_kind, a_value, a_all, a_split, tk, dk, tv, dv, bg, lc, a_inKind, lk, mdk, a_oldKind, a_resultKind, a_inValue, lv, mdv, a_oldValue, a_resultValue, fr, to, wh, kn, a_bound, a_whose, a_rank, a_one, a_two, a_oneOf, a_twoOf, a_headAt, a_headOf, a_headLeft, a_pairs, a_first)) →
    wY_complete_2 post n (nI st) f_place f_count (nI T) (nI D) (nI F.length) (nI t) f_shownSteps 0 f_in md f_old f_size f_heads f_fresh a_kind a_value a_all a_split tk dk tv dv bg lc a_inKind lk mdk a_oldKind a_resultKind a_inValue lv mdv a_oldValue a_resultValue fr to wh kn a_bound a_whose a_rank a_one a_two a_oneOf a_twoOf a_headAt a_headOf a_headLeft a_pairs a_first
  | 0, W, F, t, s, n, st, D, T, md, tk, tv, dk, dv, lk, lv, mdk, mdv, fr, to, wh, kn, bg, lc, hI, hmu, hst, hD, hT, hto, hdn, hu, hn, HE, HR => absurd hmu (by omega)
  | f + 1, W, F, t, s, n, st, D, T, md, tk, tv, dk, dv, lk, lv, mdk, mdv, fr, to, wh, kn, bg, lc, hI, hmu, hst, hD, hT, hto, hdn, hu, hn, HE, HR => by
    obtain ⟨n, rfl⟩ : ∃ n', n = n' + 1 := ⟨n - 1, by omega⟩
    have hlen := xn_st_len hI
    have hlF : (xn_F (some s) F).length = F.length + 1 := rfl
    have hlB : (mc_fl (xn_F (some s) F)).length = (mc_fl F).length + s.length := List.length_append
    rw [hlB, hlF] at hlen
    have hpres : ∀ W' F' t' m', mc_st L R W F t (some s) = .inl (W', F', t', m') → mc_I P W' F' t' m' ∧ mc_mu W' F' t' m' < f := by
      intro W' F' t' m' e
      rcases mc_pres hd hG hI with ⟨W1, F1, t1, m1, e1, e2, e3⟩ | ⟨c, t1, s1, e1, e2, e3, e4⟩
      · rw [e] at e1
        injection e1 with e1
        injection e1 with g1 e1
        injection e1 with g2 e1
        injection e1 with g3 g4
        subst g1 g2 g3 g4
        exact ⟨e2, by omega⟩
      · rw [e] at e1
        exact absurd e1 (by simp)
    have hfinish : ∀ (s' : List Int64) (t' : Nat) (dn : Nat) (md : Int32) (dk dv lk lv mdk mdv fr to wh kn : Nat → Int32), mc_st L R W F t (some s) = mc_fin W F t' s' → dn = st + s'.length → hd_y tk_kT tk_vT dk dv 0 (mc_fl F ++ s') → wY_complete_32 post (wY_complete_2 post n) f_place f_count (nI T) (nI dn) (nI F.length) (nI t') f_shownSteps 0 f_in md f_old f_size f_heads f_fresh a_kind a_value a_all a_split tk dk tv dv bg lc a_inKind lk mdk a_oldKind a_resultKind a_inValue lv mdv a_oldValue a_resultValue fr to wh kn a_bound a_whose a_rank a_one a_two a_oneOf a_twoOf a_headAt a_headOf a_headLeft a_pairs a_first := by
      intro s' t' dn md dk dv lk lv mdk mdv fr to wh kn est hdn' hh
      have hF := hI.2.2.1
      have hw := hI.2.2.2.1
      refine yn_32 (P := P) (W := W) (s := s') t' hF (by omega) hu F.length rfl (fun eF e0 => ?_) (fun F' lc' e0 g1 g2 => ?_) (fun F' s2 lc' e0 g1 g2 => ?_)
      · subst eF
        have eW : W = [] := tm_w_0 hw
        subst eW
        have hst0 : st = 0 := hst
        refine HE 0 t' s' (by rw [mc_run, est, e0]) _ _ (nI 0) (nI 0) md _ _ _ _ _ _ _ _ _ _ _ _ _ _ _ (fun _ => ⟨by rw [hT]; rfl, by rw [hdn', hst0, Nat.zero_add], hh⟩)
      · obtain ⟨p1, p2⟩ := hpres _ _ _ _ (est.trans e0)
        refine HR f W F' t' (by omega) (by rw [mc_run, est, e0]) p1 p2 dn T F'.length md _ _ _ _ _ _ _ _ _ _ _ _ _ _ hT ?_ rfl hto (by rw [g2]; exact hh) g1
        rw [g2, List.length_append, hdn', hst]
      · obtain ⟨p1, p2⟩ := hpres _ _ _ _ (est.trans e0)
        refine yn_comp hPt hd hG hR f W F' t' s2 n (mc_fl F').length dn T md _ _ _ _ _ _ _ _ _ _ _ _ _ _ p1 p2 rfl ?_ hT hto (by rw [g2]; exact hh) g1 (by omega) (fun c t2 s3 er => HE c t2 s3 ?_) (fun f' W' F2 t2 hf er => HR f' W' F2 t2 (by omega) ?_)
        · have := congrArg List.length g2
          rw [List.length_append, List.length_append] at this
          omega
        · rw [mc_run, est, e0]; exact er
        · rw [mc_run, est, e0]; exact er
    have hin : vp_in (nI st) 2400 := vp_in_nI (by omega) (by omega)
    refine br_f (nI_pos (by omega)) (br_t rfl ⟨hin, ?_⟩)
    have hs2 := hI.2.2.2.2.1
    obtain ⟨o, r, eo, hr⟩ := tm_w_pos hs2
    have hot := hPt o (hI.2.2.2.2.2.1 o (by rw [eo]; simp))
    have hdo : dk st = tk_kT o ∧ dv st = tk_vT o := by
      have := (hy_app.mp hdn).2
      rw [eo, Nat.zero_add, ← hst] at this
      exact this.1
    rw [nI_clamp (by omega), hdo.1]
    by_cases hk : tk_kT o = 1
    · refine br_t hk ?_
      have hN := (tk_N_Y hot).mp hk
      have hr0 : r = [] := by rw [tk_N_ar hot hN] at hr; exact tm_w_0 hr
      subst hr0
      have ho9 : ¬ o = 9 := by intro z; rw [z] at hN; exact absurd hN (by decide)
      have hLs : ∀ r, L r = [] ∨ ∃ t l, L r = t :: l ∧ t < 4294967296 := fun r => by
        rcases hG r with h | h
        · exact Or.inl h
        · exact Or.inr h.2.2.2.2.2.1
      refine hfinish s t D md dk dv lk lv mdk mdv fr to wh kn ?_ hD hdn
      have har : mc_ar [o] = none := rfl
      rw [eo, mc_st, if_neg (by simp), mc_or_n ho9, har, ru_fr_num hN hLs]
    · refine br_f hk ?_
      refine yn_repl hPt hG hR hI st D T hst hD hT (fun c r' e => ?_) hto hdn (fun c t' e hc tp dn sp fa md tk tv dk dv lk lv mdk mdv fr to wh kn => ?_) (fun W' t' e dn md tk tv dk dv lk lv mdk mdv fr to wh kn g1 g2 => ?_) (fun s' t' e dn md dk dv lk lv mdk mdv fr to wh kn g1 => ?_)
      · rw [eo] at e
        injection e with e _
        rw [← e]
        exact hk
      · refine br_f (by decide) ?_
        exact HE c t' [] (by rw [mc_run, e]) _ _ (nI 0) (nI 0) _ _ _ _ _ _ _ _ _ _ _ _ _ _ _ _ (fun z => absurd z hc)
      · refine br_f (by decide) ?_
        obtain ⟨p1, p2⟩ := hpres _ _ _ _ e
        exact HR f W' F t' (by omega) (by rw [mc_run, e]) p1 p2 st W'.length F.length md _ _ _ _ _ _ _ _ _ _ _ _ _ _ rfl hst rfl g1 g2 hu
      · exact br_t rfl (hfinish s' t' (st + s'.length) md dk dv lk lv mdk mdv fr to wh kn e rfl g1)
theorem yn_53 {post : Int32 → SY → Prop} (hPt : ∀ x, P x → tk_t x) (hd : ∀ x, tk_d x → P x) (hG : mc_G L R) (hR : yr_R L R a_kind a_value a_all a_split) : ∀ (f0 f : Nat) (W : List Int64) (F : List (List Int64 × Nat)) (t : Nat) (n dn tp op : Nat) (md : Int32) (tk tv dk dv lk lv mdk mdv fr to wh kn bg lc : Nat → Int32), f ≤ f0 → mc_I P W F t none → mc_mu W F t none < f → tp = W.length → dn = (mc_fl F).length → op = F.length → hd_y tk_kT tk_vT tk tv 0 W.reverse → hd_y tk_kT tk_vT dk dv 0 (mc_fl F) → xn_fs bg lc F → f + 1 < n →
    (∀ c t' s', mc_run L R f W F t none = (c, t', s') → ∀ (tp dn sp fa md op : Int32) (tk tv dk dv lk lv mdk mdv fr to wh kn bg lc : Nat → Int32), (c = 0 → dn = nI s'.length ∧ hd_y tk_kT tk_vT dk dv 0 s') → post (nI c) (f_place, f_count, tp, dn, op, nI t', f_shownSteps, nI c, f_in, md, f_old, f_size, f_heads, f_fresh, a_kind, a_value, a_all, a_split, tk, dk, tv, dv, bg, lc, a_inKind, lk, mdk, a_oldKind, a_resultKind, a_inValue, lv, mdv, a_oldValue, a_resultValue, fr, to, wh, kn, a_bound, a_whose, a_rank, a_one, a_two, a_oneOf, a_twoOf, a_headAt, a_headOf, a_headLeft, a_pairs, a_first)) →
    wY_normal_53 post n f_place f_count (nI tp) (nI dn) (nI op) (nI t) f_shownSteps 0 f_in md f_old f_size f_heads f_fresh a_kind a_value a_all a_split tk dk tv dv bg lc a_inKind lk mdk a_oldKind a_resultKind a_inValue lv mdv a_oldValue a_resultValue fr to wh kn a_bound a_whose a_rank a_one a_two a_oneOf a_twoOf a_headAt a_headOf a_headLeft a_pairs a_first
  | 0, f, W, F, t, n, dn, tp, op, md, tk, tv, dk, dv, lk, lv, mdk, mdv, fr, to, wh, kn, bg, lc, hf0, hI, hmu, htp, hdn', hop, hto, hdn, hu, hn, H => absurd hmu (by omega)
  | f0 + 1, f, W, F, t, n, dn, tp, op, md, tk, tv, dk, dv, lk, lv, mdk, mdv, fr, to, wh, kn, bg, lc, hf0, hI, hmu, htp, hdn', hop, hto, hdn, hu, hn, H => by
    obtain ⟨n, rfl⟩ : ∃ n', n = n' + 1 := ⟨n - 1, by omega⟩
    obtain ⟨f, rfl⟩ : ∃ f', f = f' + 1 := ⟨f - 1, by omega⟩
    have hlen := xn_st_len hI
    have hl1 : (mc_fl (xn_F none F)).length = (mc_fl F).length := rfl
    have hl2 : (xn_F none F).length = F.length := rfl
    rw [hl1, hl2] at hlen
    obtain ⟨ht, hW, hF, h1, h2⟩ := hI
    cases W with
    | nil => rw [tm_w_nil] at h1; omega
    | cons c W =>
      have hlW : (c :: W).length = W.length + 1 := rfl
      rw [hlW] at htp hlen
      subst htp hdn' hop
      have hct := hPt c (hW c (List.mem_cons.mpr (Or.inl rfl)))
      have ht1 : tk W.length = tk_kT c ∧ tv W.length = tk_vT c := by
        rw [List.reverse_cons] at hto
        have := (hy_app.mp hto).2.1
        rwa [Nat.zero_add, List.length_reverse] at this
      have hto' : hd_y tk_kT tk_vT tk tv 0 W.reverse := by
        rw [List.reverse_cons] at hto
        exact (hy_app.mp hto).1
      have hin : vp_in (nI W.length) 2400 := vp_in_nI (by omega) (by omega)
      have ec : (nI W.length).toNatClampNeg = W.length := nI_clamp (by omega)
      have hI0 : mc_I P (c :: W) F t none := ⟨ht, hW, hF, h1, h2⟩
      refine pk_le (W.length + 1) 0 (fun z => absurd z (by omega)) (fun _ => br_t rfl (nm_r (nI_pred _) ⟨hin, hin, ?_⟩))
      rw [ec, ht1.1, ht1.2]
      refine tk_arT hct ⟨hin, hin, yr_fin (mc_fl F).length (by omega) ?_⟩
      have hdn2 : hd_y tk_kT tk_vT (upd dk (mc_fl F).length (tk_kT c)) (upd dv (mc_fl F).length (tk_vT c)) 0 (mc_fl F ++ [c]) := hy_snoc _ (by omega) hdn
      have hpres : ∀ W' F' t' m', mc_st L R (c :: W) F t none = .inl (W', F', t', m') → mc_I P W' F' t' m' ∧ mc_mu W' F' t' m' < f := by
        intro W' F' t' m' e
        rcases mc_pres hd hG hI0 with ⟨W1, F1, t1, m1, e1, e2, e3⟩ | ⟨c, t1, s1, e1, e2, e3, e4⟩
        · rw [e] at e1
          injection e1 with e1
          injection e1 with g1 e1
          injection e1 with g2 e1
          injection e1 with g3 g4
          subst g1 g2 g3 g4
          exact ⟨e2, by omega⟩
        · rw [e] at e1
          exact absurd e1 (by simp)
      refine pk_le (tm_ar c) 0 (fun ha => ?_) (fun ha => ?_) rfl rfl (by have := tm_ar_le c; omega)
      · have ha0 : tm_ar c = 0 := by omega
        have est : mc_st L R (c :: W) F t none = .inl (W, F, t, some [c]) := if_pos ha0
        obtain ⟨p1, p2⟩ := hpres _ _ _ _ est
        refine ⟨f + 1, ?_⟩
        refine yn_comp hPt hd hG hR f W F t [c] (f + 1) (mc_fl F).length ((mc_fl F).length + 1) W.length md _ _ _ _ _ _ _ _ _ _ _ _ _ _ p1 p2 rfl rfl rfl hto' hdn2 hu (by omega) (fun c' t' s' er tp dn sp fa md op tk tv dk dv lk lv mdk mdv fr to wh kn bg lc hz => ?_) (fun f' W' F' t' hf er q1 q2 dn tp op md tk tv dk dv lk lv mdk mdv fr to wh kn bg lc a1 a2 a3 a4 a5 a6 => ?_)
        · obtain ⟨n, rfl⟩ : ∃ n', n = n' + 1 := ⟨n - 1, by omega⟩
          have hp := H c' t' s' (by rw [mc_run, est]; exact er) tp dn (nI 0) (nI 0) md op tk tv dk dv lk lv mdk mdv fr to wh kn bg lc (fun z => (hz z).2)
          refine br_c (fun _ => hp) (fun htp => br_c (fun hc0 => ?_) (fun _ => hp))
          exfalso
          have hc00 : c' = 0 := by
            obtain ⟨c1, t1, s1, e1, e2, e3, e4⟩ := mc_run_ok hd hG f W F t (some [c]) p1 p2
            rw [er] at e1
            injection e1 with e1 _
            subst e1
            have := tk_inj (hc0.trans nI_0.symm)
            omega
          rw [(hz hc00).1] at htp
          exact htp (by decide)
        · refine yn_53 hPt hd hG hR f0 f' W' F' t' n dn tp op md tk tv dk dv lk lv mdk mdv fr to wh kn bg lc (by omega) q1 q2 a1 a2 a3 a4 a5 a6 (by omega) (fun c2 t2 s2 er2 => H c2 t2 s2 ?_)
          rw [mc_run, est]
          exact er.trans er2
      · have hal := tm_ar_le c
        have est : mc_st L R (c :: W) F t none = .inl (W, ([c], tm_ar c) :: F, t, none) := if_neg (by omega)
        obtain ⟨p1, p2⟩ := hpres _ _ _ _ est
        have hino : vp_in (nI F.length) 2400 := vp_in_nI (by omega) (by omega)
        have eo : (nI F.length).toNatClampNeg = F.length := nI_clamp (by omega)
        refine ⟨hino, nm_r (e' := upd bg F.length (nI (mc_fl F).length)) (by rw [eo, (tk_ns (by omega)).1]) (nm_r (nI_1 _) ⟨hino, nm_r (e' := upd lc F.length (nI (tm_ar c))) (by rw [eo, (tk_nb (by omega)).1]) ?_⟩)⟩
        refine yn_53 hPt hd hG hR f0 f W (([c], tm_ar c) :: F) t n ((mc_fl F).length + 1) W.length (F.length + 1) md _ _ _ _ _ _ _ _ _ _ _ _ _ _ (by omega) p1 p2 rfl ?_ rfl hto' hdn2 ⟨pk_us, pk_us, xn_fs_congr (fun j hj => ⟨pk_un (by omega), pk_un (by omega)⟩) hu⟩ (by omega) (fun c2 t2 s2 er2 => H c2 t2 s2 ?_)
        · show _ = (mc_fl F ++ [c]).length
          rw [List.length_append]; rfl
        · rw [mc_run, est]; exact er2
theorem yn_27 {post : Int32 → SY → Prop} {q : List Int64} (hq : hd_y tk_kT tk_vT a_inKind a_inValue 0 q) (hq31 : q.length ≤ 31) (H : ∀ tk tv, hd_y tk_kT tk_vT tk tv 0 q.reverse → ∃ n53, wY_normal_53 post n53 f_place f_count (nI q.length) f_done f_open f_steps f_shownSteps f_fault f_in f_made f_old f_size f_heads f_fresh a_kind a_value a_all a_split tk a_doneKind tv a_doneValue a_begins a_lacks a_inKind a_leftKind a_madeKind a_oldKind a_resultKind a_inValue a_leftValue a_madeValue a_oldValue a_resultValue a_from a_to a_whole a_known a_bound a_whose a_rank a_one a_two a_oneOf a_twoOf a_headAt a_headOf a_headLeft a_pairs a_first) : ∀ (p q2 : List Int64) (tk tv : Nat → Int32) (n w : Nat) (x1 : Int32), q = p.reverse ++ q2 → w = q2.length → x1 = nI p.length + (-1) → hd_y tk_kT tk_vT tk tv 0 q2.reverse → p.length < n → wY_normal_27 post n x1 f_place f_count (nI w) f_done f_open f_steps f_shownSteps f_fault f_in f_made f_old f_size f_heads f_fresh a_kind a_value a_all a_split tk a_doneKind tv a_doneValue a_begins a_lacks a_inKind a_leftKind a_madeKind a_oldKind a_resultKind a_inValue a_leftValue a_madeValue a_oldValue a_resultValue a_from a_to a_whole a_known a_bound a_whose a_rank a_one a_two a_oneOf a_twoOf a_headAt a_headOf a_headLeft a_pairs a_first
  | [], q2, tk, tv, n, w, x4, e, hw, hx, hz, hn => by
    obtain ⟨n, rfl⟩ : ∃ n', n = n' + 1 := ⟨n - 1, by omega⟩
    subst hx
    rw [List.reverse_nil, List.nil_append] at e
    subst e
    rw [hw]
    exact br_t (by decide) (H tk tv hz)
  | t :: p, q2, tk, tv, n, w, x4, e, hw, hx, hz, hn => by
    obtain ⟨n, rfl⟩ : ∃ n', n = n' + 1 := ⟨n - 1, by omega⟩
    rw [List.length_cons] at hn hx
    rw [pk_m1] at hx
    subst hx
    rw [List.reverse_cons, List.append_assoc] at e
    have hlen : q.length = p.length + (q2.length + 1) := by rw [e]; simp
    have hin : vp_in (nI p.length) 32 := vp_in_nI (by omega) (by omega)
    have et : a_inKind p.length = tk_kT t ∧ a_inValue p.length = tk_vT t := by
      have hh := hq
      rw [e] at hh
      have := (hy_app.mp hh).2.1
      rwa [Nat.zero_add, List.length_reverse] at this
    refine br_f (nI_pos (by omega)) ⟨hin, hin, ?_⟩
    rw [nI_clamp (by omega), et.1, et.2]
    refine yr_read w (by omega) (nm_e ?_)
    refine yn_27 hq hq31 H p (t :: q2) _ _ n (w + 1) _ e (by simp; omega) rfl ?_ (by omega)
    rw [List.reverse_cons]
    exact hy_snoc w (by simp; omega) hz
theorem yn_nf {post : Int32 → SY → Prop} {q : List Int64} (k t0 : Nat) (hPt : ∀ x, P x → tk_t x) (hd : ∀ x, tk_d x → P x) (hG : mc_G L R) (hR : yr_R L R a_kind a_value a_all a_split) (hq : tm_w q 1) (h30 : q.length ≤ 30) (hP : ∀ x, x ∈ q → P x) (ht : t0 ≤ 60) (hk : k = q.length) (hs : hd_y tk_kT tk_vT a_inKind a_inValue 0 q)
    (H : ∀ c t' s', mc_run L R 4000 q [] t0 none = (c, t', s') → ∀ (tp dn sp fa md op : Int32) (tk tv dk dv lk lv mdk mdv fr to wh kn bg lc : Nat → Int32), (c = 0 → dn = nI s'.length ∧ hd_y tk_kT tk_vT dk dv 0 s') → post (nI c) (f_place, f_count, tp, dn, op, nI t', f_shownSteps, nI c, nI k, md, f_old, f_size, f_heads, f_fresh, a_kind, a_value, a_all, a_split, tk, dk, tv, dv, bg, lc, a_inKind, lk, mdk, a_oldKind, a_resultKind, a_inValue, lv, mdv, a_oldValue, a_resultValue, fr, to, wh, kn, a_bound, a_whose, a_rank, a_one, a_two, a_oneOf, a_twoOf, a_headAt, a_headOf, a_headLeft, a_pairs, a_first)) : wpY_normal post (f_place, f_count, f_top, f_done, f_open, nI t0, f_shownSteps, f_fault, nI k, f_made, f_old, f_size, f_heads, f_fresh, a_kind, a_value, a_all, a_split, a_toKind, a_doneKind, a_toValue, a_doneValue, a_begins, a_lacks, a_inKind, a_leftKind, a_madeKind, a_oldKind, a_resultKind, a_inValue, a_leftValue, a_madeValue, a_oldValue, a_resultValue, a_from, a_to, a_whole, a_known, a_bound, a_whose, a_rank, a_one, a_two, a_oneOf, a_twoOf, a_headAt, a_headOf, a_headLeft, a_pairs, a_first) := by
  obtain ⟨hI, hmu⟩ := mc_I0 hq h30 hP ht
  refine nm_r (Int32.sub_eq_add_neg _ _) ⟨q.length + 1, ?_⟩
  rw [← nI_0]
  refine yn_27 hs (by omega) (fun tk tv hz => ⟨4002, ?_⟩) q.reverse [] a_toKind a_toValue _ 0 _ (by rw [List.reverse_reverse, List.append_nil]) rfl (by rw [List.length_reverse, hk]) trivial (by rw [List.length_reverse]; omega)
  exact yn_53 hPt hd hG hR 4000 4000 q [] t0 4002 0 q.length 0 _ _ _ _ _ _ _ _ _ _ _ _ _ _ _ (by omega) hI hmu rfl rfl rfl hz trivial trivial (by omega) H
end
end
section
/-! the reference: what is begun, kept, compared, shown -/
section
variable {f_place f_count f_top f_done f_open f_steps f_shownSteps f_fault f_in f_made f_old f_size f_heads f_fresh : Int32} {a_kind a_value a_all a_split a_toKind a_doneKind a_toValue a_doneValue a_begins a_lacks a_inKind a_leftKind a_madeKind a_oldKind a_resultKind a_inValue a_leftValue a_madeValue a_oldValue a_resultValue a_from a_to a_whole a_known a_bound a_whose a_rank a_one a_two a_oneOf a_twoOf a_headAt a_headOf a_headLeft a_pairs a_first : Nat → Int32}
theorem yb_begin_l {post : SY → Prop} {fr N : Nat} (hN : N ≤ 32) (hfr : fr + N ≤ 270) : ∀ (l q : List Int64) (ka va : Nat → Int32) (n k : Nat), k = q.length → k + l.length = N → hd_y tk_kR tk_vR a_kind a_value (fr + k) l → hd_y tk_kR tk_vR ka va 0 q → l.length < n → (∀ ka' va', hd_y tk_kR tk_vR ka' va' 0 (q ++ l) → post (f_place, f_count, f_top, f_done, f_open, f_steps, f_shownSteps, f_fault, nI N, f_made, f_old, f_size, f_heads, f_fresh, a_kind, a_value, a_all, a_split, a_toKind, a_doneKind, a_toValue, a_doneValue, a_begins, a_lacks, ka', a_leftKind, a_madeKind, a_oldKind, a_resultKind, va', a_leftValue, a_madeValue, a_oldValue, a_resultValue, a_from, a_to, a_whole, a_known, a_bound, a_whose, a_rank, a_one, a_two, a_oneOf, a_twoOf, a_headAt, a_headOf, a_headLeft, a_pairs, a_first)) → wY_begin_2 post (nI fr) (nI N) f_place f_count f_top f_done f_open f_steps f_shownSteps f_fault f_in f_made f_old f_size f_heads f_fresh n (nI k) a_kind a_value a_all a_split a_toKind a_doneKind a_toValue a_doneValue a_begins a_lacks ka a_leftKind a_madeKind a_oldKind a_resultKind va a_leftValue a_madeValue a_oldValue a_resultValue a_from a_to a_whole a_known a_bound a_whose a_rank a_one a_two a_oneOf a_twoOf a_headAt a_headOf a_headLeft a_pairs a_first
  | [], q, ka, va, n, k, hk, h1, h2, h3, hn, H => by
    obtain ⟨n, rfl⟩ : ∃ n', n = n' + 1 := ⟨n - 1, by omega⟩
    rw [List.length_nil] at h1
    rw [List.append_nil] at H
    exact pk_le N k (fun _ => H ka va h3) (fun z => absurd z (by omega))
  | t :: l, q, ka, va, n, k, hk, h1, h2, h3, hn, H => by
    obtain ⟨n, rfl⟩ : ∃ n', n = n' + 1 := ⟨n - 1, by omega⟩
    rw [List.length_cons] at h1 hn
    have ei : nI fr + nI k = nI (fr + k) := nI_add _ _
    have hin2 : vp_in (nI fr + nI k) 270 := by rw [ei]; exact vp_in_nI (by omega) (by omega)
    have hin : vp_in (nI k) 32 := vp_in_nI (by omega) (by omega)
    have ec : (nI k).toNatClampNeg = k := nI_clamp (by omega)
    have ec2 : (nI fr + nI k).toNatClampNeg = fr + k := by rw [ei]; exact nI_clamp (by omega)
    refine pk_le N k (fun z => absurd z (by omega)) (fun _ => ⟨hin2, hin, nm_r (e' := upd ka k (tk_kR t)) (by rw [ec, ec2, h2.1.1, (tk_narR t).1]) ⟨hin2, hin, nm_r (e' := upd va k (tk_vR t)) (by rw [ec, ec2, h2.1.2]) (nm_r (nI_1 k) ?_)⟩⟩)
    have e3 : q ++ t :: l = (q ++ [t]) ++ l := by rw [List.append_assoc]; rfl
    rw [e3] at H
    exact yb_begin_l hN hfr l (q ++ [t]) _ _ n (k + 1) (by simp; omega) (by omega) h2.2 (hy_snoc k (by omega) h3) (by omega) H
theorem yb_begin {post : SY → Prop} {l : List Int64} (fr N : Nat) (hN : N = l.length) (hN32 : N ≤ 32) (hfr : fr + N ≤ 270) (hh : hd_y tk_kR tk_vR a_kind a_value fr l) (H : ∀ ka' va', hd_y tk_kR tk_vR ka' va' 0 l → post (f_place, f_count, f_top, f_done, f_open, f_steps, f_shownSteps, f_fault, nI N, f_made, f_old, f_size, f_heads, f_fresh, a_kind, a_value, a_all, a_split, a_toKind, a_doneKind, a_toValue, a_doneValue, a_begins, a_lacks, ka', a_leftKind, a_madeKind, a_oldKind, a_resultKind, va', a_leftValue, a_madeValue, a_oldValue, a_resultValue, a_from, a_to, a_whole, a_known, a_bound, a_whose, a_rank, a_one, a_two, a_oneOf, a_twoOf, a_headAt, a_headOf, a_headLeft, a_pairs, a_first)) : wpY_begin post (f_place, f_count, f_top, f_done, f_open, f_steps, f_shownSteps, f_fault, f_in, f_made, f_old, f_size, f_heads, f_fresh, a_kind, a_value, a_all, a_split, a_toKind, a_doneKind, a_toValue, a_doneValue, a_begins, a_lacks, a_inKind, a_leftKind, a_madeKind, a_oldKind, a_resultKind, a_inValue, a_leftValue, a_madeValue, a_oldValue, a_resultValue, a_from, a_to, a_whole, a_known, a_bound, a_whose, a_rank, a_one, a_two, a_oneOf, a_twoOf, a_headAt, a_headOf, a_headLeft, a_pairs, a_first) (nI fr) (nI N) :=
  ⟨l.length + 1, yb_begin_l hN32 hfr l [] a_inKind a_inValue _ 0 rfl (by omega) hh trivial (by omega) H⟩
theorem yb_keep_l {post : SY → Prop} {N : Nat} (hN : N ≤ 32) : ∀ (l q : List Int64) (ka va : Nat → Int32) (n k : Nat), k = q.length → k + l.length = N → hd_y tk_kT tk_vT a_doneKind a_doneValue k l → hd_y tk_kT tk_vT ka va 0 q → l.length < n → (∀ ka' va', hd_y tk_kT tk_vT ka' va' 0 (q ++ l) → post (f_place, f_count, f_top, f_done, f_open, f_steps, f_shownSteps, f_fault, f_in, f_made, nI N, f_size, f_heads, f_fresh, a_kind, a_value, a_all, a_split, a_toKind, a_doneKind, a_toValue, a_doneValue, a_begins, a_lacks, a_inKind, a_leftKind, a_madeKind, ka', a_resultKind, a_inValue, a_leftValue, a_madeValue, va', a_resultValue, a_from, a_to, a_whole, a_known, a_bound, a_whose, a_rank, a_one, a_two, a_oneOf, a_twoOf, a_headAt, a_headOf, a_headLeft, a_pairs, a_first)) → wY_keep_10 post f_place f_count f_top f_done f_open f_steps f_shownSteps f_fault f_in f_made (nI N) f_size f_heads f_fresh n (nI k) a_kind a_value a_all a_split a_toKind a_doneKind a_toValue a_doneValue a_begins a_lacks a_inKind a_leftKind a_madeKind ka a_resultKind a_inValue a_leftValue a_madeValue va a_resultValue a_from a_to a_whole a_known a_bound a_whose a_rank a_one a_two a_oneOf a_twoOf a_headAt a_headOf a_headLeft a_pairs a_first
  | [], q, ka, va, n, k, hk, h1, h2, h3, hn, H => by
    obtain ⟨n, rfl⟩ : ∃ n', n = n' + 1 := ⟨n - 1, by omega⟩
    rw [List.length_nil] at h1
    rw [List.append_nil] at H
    exact pk_le N k (fun _ => H ka va h3) (fun z => absurd z (by omega))
  | t :: l, q, ka, va, n, k, hk, h1, h2, h3, hn, H => by
    obtain ⟨n, rfl⟩ : ∃ n', n = n' + 1 := ⟨n - 1, by omega⟩
    rw [List.length_cons] at h1 hn
    have hin2 : vp_in (nI k) 2400 := vp_in_nI (by omega) (by omega)
    have hin : vp_in (nI k) 32 := vp_in_nI (by omega) (by omega)
    have ec : (nI k).toNatClampNeg = k := nI_clamp (by omega)
    refine pk_le N k (fun z => absurd z (by omega)) (fun _ => ⟨hin2, hin, nm_r (e' := upd ka k (tk_kT t)) (by rw [ec, h2.1.1, (tk_narT t).1]) ⟨hin2, hin, nm_r (e' := upd va k (tk_vT t)) (by rw [ec, h2.1.2]) (nm_r (nI_1 k) ?_)⟩⟩)
    have e3 : q ++ t :: l = (q ++ [t]) ++ l := by rw [List.append_assoc]; rfl
    rw [e3] at H
    exact yb_keep_l hN l (q ++ [t]) _ _ n (k + 1) (by simp; omega) (by omega) h2.2 (hy_snoc k (by omega) h3) (by omega) H
theorem yb_res_l {post : Int32 → SY → Prop} {N : Nat} (hN : N ≤ 32) : ∀ (l q : List Int64) (ka va : Nat → Int32) (n k : Nat), k = q.length → k + l.length = N → hd_y tk_kT tk_vT a_doneKind a_doneValue k l → hd_y tk_kT tk_vT ka va 0 q → l.length < n → (∀ ka' va', hd_y tk_kT tk_vT ka' va' 0 (q ++ l) → post 0 (f_place, f_count, f_top, f_done, f_open, f_steps, f_shownSteps, f_fault, f_in, f_made, f_old, nI N, f_heads, f_fresh, a_kind, a_value, a_all, a_split, a_toKind, a_doneKind, a_toValue, a_doneValue, a_begins, a_lacks, a_inKind, a_leftKind, a_madeKind, a_oldKind, ka', a_inValue, a_leftValue, a_madeValue, a_oldValue, va', a_from, a_to, a_whole, a_known, a_bound, a_whose, a_rank, a_one, a_two, a_oneOf, a_twoOf, a_headAt, a_headOf, a_headLeft, a_pairs, a_first)) → wY_reduce_70 post f_place f_count f_top f_done f_open f_steps f_shownSteps f_fault f_in f_made f_old (nI N) f_heads f_fresh n (nI k) a_kind a_value a_all a_split a_toKind a_doneKind a_toValue a_doneValue a_begins a_lacks a_inKind a_leftKind a_madeKind a_oldKind ka a_inValue a_leftValue a_madeValue a_oldValue va a_from a_to a_whole a_known a_bound a_whose a_rank a_one a_two a_oneOf a_twoOf a_headAt a_headOf a_headLeft a_pairs a_first
  | [], q, ka, va, n, k, hk, h1, h2, h3, hn, H => by
    obtain ⟨n, rfl⟩ : ∃ n', n = n' + 1 := ⟨n - 1, by omega⟩
    rw [List.length_nil] at h1
    rw [List.append_nil] at H
    exact pk_le N k (fun _ => H ka va h3) (fun z => absurd z (by omega))
  | t :: l, q, ka, va, n, k, hk, h1, h2, h3, hn, H => by
    obtain ⟨n, rfl⟩ : ∃ n', n = n' + 1 := ⟨n - 1, by omega⟩
    rw [List.length_cons] at h1 hn
    have hin2 : vp_in (nI k) 2400 := vp_in_nI (by omega) (by omega)
    have hin : vp_in (nI k) 32 := vp_in_nI (by omega) (by omega)
    have ec : (nI k).toNatClampNeg = k := nI_clamp (by omega)
    refine pk_le N k (fun z => absurd z (by omega)) (fun _ => ⟨hin2, hin, nm_r (e' := upd ka k (tk_kT t)) (by rw [ec, h2.1.1, (tk_narT t).1]) ⟨hin2, hin, nm_r (e' := upd va k (tk_vT t)) (by rw [ec, h2.1.2]) (nm_r (nI_1 k) ?_)⟩⟩)
    have e3 : q ++ t :: l = (q ++ [t]) ++ l := by rw [List.append_assoc]; rfl
    rw [e3] at H
    exact yb_res_l hN l (q ++ [t]) _ _ n (k + 1) (by simp; omega) (by omega) h2.2 (hy_snoc k (by omega) h3) (by omega) H
theorem yb_keep {post : SY → Prop} {l : List Int64} (N : Nat) (hN : N = l.length) (hN32 : N ≤ 32) (hh : hd_y tk_kT tk_vT a_doneKind a_doneValue 0 l) (H : ∀ ka' va', hd_y tk_kT tk_vT ka' va' 0 l → post (f_place, f_count, f_top, nI N, f_open, f_steps, f_shownSteps, f_fault, f_in, f_made, nI N, f_size, f_heads, f_fresh, a_kind, a_value, a_all, a_split, a_toKind, a_doneKind, a_toValue, a_doneValue, a_begins, a_lacks, a_inKind, a_leftKind, a_madeKind, ka', a_resultKind, a_inValue, a_leftValue, a_madeValue, va', a_resultValue, a_from, a_to, a_whole, a_known, a_bound, a_whose, a_rank, a_one, a_two, a_oneOf, a_twoOf, a_headAt, a_headOf, a_headLeft, a_pairs, a_first)) : wpY_keep post (f_place, f_count, f_top, nI N, f_open, f_steps, f_shownSteps, f_fault, f_in, f_made, f_old, f_size, f_heads, f_fresh, a_kind, a_value, a_all, a_split, a_toKind, a_doneKind, a_toValue, a_doneValue, a_begins, a_lacks, a_inKind, a_leftKind, a_madeKind, a_oldKind, a_resultKind, a_inValue, a_leftValue, a_madeValue, a_oldValue, a_resultValue, a_from, a_to, a_whole, a_known, a_bound, a_whose, a_rank, a_one, a_two, a_oneOf, a_twoOf, a_headAt, a_headOf, a_headLeft, a_pairs, a_first) :=
  ⟨l.length + 1, yb_keep_l hN32 l [] a_oldKind a_oldValue _ 0 rfl (by omega) hh trivial (by omega) H⟩
theorem yb_same_l {post : Int32 → Prop} {N : Nat} (hN : N ≤ 32) : ∀ (a b : List Int64) (k n : Nat), a.length = b.length → k + a.length = N → hd_y tk_kT tk_vT a_oldKind a_oldValue k a → hd_y tk_kT tk_vT a_doneKind a_doneValue k b → (∀ t, t ∈ a → tk_t t) → (∀ t, t ∈ b → tk_t t) → a.length < n → (a = b → post 1) → (a ≠ b → post 0) → wY_sameAsOld_2 post f_place f_count f_top (nI N) f_open f_steps f_shownSteps f_fault f_in f_made (nI N) f_size f_heads f_fresh a_kind a_value a_all a_split a_toKind a_doneKind a_toValue a_doneValue a_begins a_lacks a_inKind a_leftKind a_madeKind a_oldKind a_resultKind a_inValue a_leftValue a_madeValue a_oldValue a_resultValue a_from a_to a_whole a_known a_bound a_whose a_rank a_one a_two a_oneOf a_twoOf a_headAt a_headOf a_headLeft a_pairs a_first n (nI k)
  | [], [], k, n, he, h1, h2, h3, t1, t2, hn, Hy, Hz => by
    obtain ⟨n, rfl⟩ : ∃ n', n = n' + 1 := ⟨n - 1, by omega⟩
    rw [List.length_nil] at h1
    exact pk_le N k (fun _ => br_t rfl (Hy rfl)) (fun z => absurd z (by omega))
  | [], y :: b, k, n, he, h1, h2, h3, t1, t2, hn, Hy, Hz => by simp at he
  | x :: a, [], k, n, he, h1, h2, h3, t1, t2, hn, Hy, Hz => by simp at he
  | x :: a, y :: b, k, n, he, h1, h2, h3, t1, t2, hn, Hy, Hz => by
    obtain ⟨n, rfl⟩ : ∃ n', n = n' + 1 := ⟨n - 1, by omega⟩
    rw [List.length_cons] at h1 hn
    have i1 : vp_in (nI k) 32 := vp_in_nI (by omega) (by omega)
    have i2 : vp_in (nI k) 2400 := vp_in_nI (by omega) (by omega)
    have c1 : (nI k).toNatClampNeg = k := nI_clamp (by omega)
    refine pk_le N k (fun z => absurd z (by omega)) (fun _ => br_t rfl ⟨i1, i2, ?_⟩)
    rw [c1, h2.1.1, h3.1.1, h2.1.2, h3.1.2]
    have tx := t1 x (List.mem_cons.mpr (Or.inl rfl))
    have ty := t2 y (List.mem_cons.mpr (Or.inl rfl))
    by_cases hk : tk_kT x = tk_kT y
    · refine br_t hk ⟨i1, i2, ?_⟩
      by_cases hv : tk_vT x = tk_vT y
      · have exy := tk_T_inj tx ty hk hv
        subst exy
        exact br_t hv (nm_r (nI_1 k) (yb_same_l hN a b (k + 1) n (by simpa using he) (by omega) h2.2 h3.2 (fun t ht => t1 t (List.mem_cons.mpr (Or.inr ht))) (fun t ht => t2 t (List.mem_cons.mpr (Or.inr ht))) (by omega) (fun z => Hy (by rw [z])) (fun z => Hz (fun q => z (by injection q)))))
      · exact br_f hv (Hz (fun q => hv (by injection q with q1 _; rw [q1])))
    · exact br_f hk (Hz (fun q => hk (by injection q with q1 _; rw [q1])))
theorem yb_same {post : Int32 → Prop} {a b : List Int64} (O D : Nat) (hO : O = a.length) (hD : D = b.length) (hO32 : O ≤ 32) (hD32 : D ≤ 32) (h2 : hd_y tk_kT tk_vT a_oldKind a_oldValue 0 a) (h3 : hd_y tk_kT tk_vT a_doneKind a_doneValue 0 b) (t1 : ∀ t, t ∈ a → tk_t t) (t2 : ∀ t, t ∈ b → tk_t t) (Hy : a = b → post 1) (Hz : a ≠ b → post 0) : wpY_sameAsOld post (f_place, f_count, f_top, nI D, f_open, f_steps, f_shownSteps, f_fault, f_in, f_made, nI O, f_size, f_heads, f_fresh, a_kind, a_value, a_all, a_split, a_toKind, a_doneKind, a_toValue, a_doneValue, a_begins, a_lacks, a_inKind, a_leftKind, a_madeKind, a_oldKind, a_resultKind, a_inValue, a_leftValue, a_madeValue, a_oldValue, a_resultValue, a_from, a_to, a_whole, a_known, a_bound, a_whose, a_rank, a_one, a_two, a_oneOf, a_twoOf, a_headAt, a_headOf, a_headLeft, a_pairs, a_first) := by
  by_cases e : O = D
  · subst e
    refine ⟨a.length + 1, ?_⟩
    rw [← nI_0]
    exact yb_same_l hO32 a b 0 _ (by omega) (by omega) h2 h3 t1 t2 (by omega) Hy Hz
  · have hne : a ≠ b := fun z => e (by rw [hO, hD, z])
    have hDO : ¬ nI D = nI O := by rw [nI_eq (by omega) (by omega)]; omega
    refine ⟨1, ?_⟩
    have h59 : ∀ (P : Prop), P = P := fun _ => rfl
    exact br_c (fun _ => br_f hDO (Hz hne)) (fun _ => br_f hDO (br_f hDO (Hz hne)))
end
end
section
/-! where a draft fails: both sides go together -/
theorem fa_b1 : ∀ j, j < 32 → bt 1 j = decide (j = 0) := by decide +kernel
theorem fa_bit {n i : Nat} (hn : n < 32) (hi : i < 32) : bt ((1 : Int32) <<< (nI n &&& 31)) i = decide (i = n) := by
  rw [b_shl n hn 1 hi]
  by_cases h : n ≤ i
  · rw [fa_b1 (i - n) (by omega), decide_eq_true h, Bool.true_and]
    by_cases e : i = n
    · rw [decide_eq_true e, decide_eq_true (by omega)]
    · rw [decide_eq_false e, decide_eq_false (by omega)]
  · rw [decide_eq_false h, Bool.false_and, decide_eq_false (by omega)]
theorem fa_and0 {x : Int32} {n : Nat} (hn : n < 32) : (x &&& ((1 : Int32) <<< (nI n &&& 31))) = 0 ↔ bt x n = false := by
  constructor
  · intro h
    have := congrArg (fun y => bt y n) h
    rw [b_and, fa_bit hn hn, decide_eq_true rfl, Bool.and_true, b_0] at this
    exact this
  · intro h
    apply b_ext
    intro i hi
    rw [b_and, fa_bit hn hi, b_0]
    by_cases e : i = n
    · rw [e, h, Bool.false_and]
    · rw [decide_eq_false e, Bool.and_false]
theorem fa_and1 {x : Int32} {n : Nat} (hn : n < 32) : (x &&& ((1 : Int32) <<< (nI n &&& 31))) = (1 : Int32) <<< (nI n &&& 31) ↔ bt x n = true := by
  constructor
  · intro h
    have := congrArg (fun y => bt y n) h
    rw [b_and, fa_bit hn hn, decide_eq_true rfl, Bool.and_true] at this
    exact this
  · intro h
    apply b_ext
    intro i hi
    rw [b_and, fa_bit hn hi]
    by_cases e : i = n
    · rw [e, h, Bool.true_and]
    · rw [decide_eq_false e, Bool.and_false]
theorem fa_or {x : Int32} {n i : Nat} (hn : n < 32) (hi : i < 32) : bt (x ||| ((1 : Int32) <<< (nI n &&& 31))) i = (bt x i || decide (i = n)) := by
  rw [b_or, fa_bit hn hi]
theorem fa_kind {t : Int64} (h : tk_r t) : tk_kR t ≤ 1 ↔ t < 8589934592 := by
  rcases tk_R_cases h with ⟨n, h1, e1, k1, v1⟩ | ⟨n, h1, h1', e1, k1, v1⟩ | ⟨r, h1, e1, k1, v1⟩ | ⟨r, h1, e1, k1, v1⟩ <;> rw [k1, e1, tk_lt 8589934592 (by omega)]
  · exact ⟨fun _ => by omega, fun _ => by decide⟩
  · exact ⟨fun _ => by omega, fun _ => by decide⟩
  · exact ⟨fun z => absurd z (by decide), fun _ => by omega⟩
  · exact ⟨fun z => absurd z (by decide), fun _ => by omega⟩
theorem fa_d {t : Int64} (h : tk_r t) (hn : t < 8589934592) : tk_d t := by
  obtain ⟨z, rfl, hz⟩ := h
  rw [tk_lt 8589934592 (by omega)] at hn
  exact ⟨z, rfl, by omega⟩
section
variable {f_drafted f_faultPlace f_reportedSteps f_resultSize f_sheetSize f_waitingSize f_builtSize f_unfinished f_taken f_keptSize f_stacked f_ranked f_surveyed : Int32} {a_draft a_result a_lefts a_rights a_sheet a_waiting a_built a_kept a_joint : Nat → Int64} {a_leftSize a_ways a_rightSize a_unfinishedStart a_unfinishedLacks a_matchStart a_matchEnd a_unified a_oneStack a_otherStack a_nestedAt a_nestedEnd a_rank a_pairCount a_firstOpen : Nat → Int32}
variable {f_place' f_count' f_top' f_done' f_open' f_steps' f_shownSteps' f_fault' f_in' f_made' f_old' f_size' f_heads' f_fresh' : Int32} {a_kind' a_value' a_all' a_split' a_toKind' a_doneKind' a_toValue' a_doneValue' a_begins' a_lacks' a_inKind' a_leftKind' a_madeKind' a_oldKind' a_resultKind' a_inValue' a_leftValue' a_madeValue' a_oldValue' a_resultValue' a_from' a_to' a_whole' a_known' a_bound' a_whose' a_rank' a_one' a_two' a_oneOf' a_twoOf' a_headAt' a_headOf' a_headLeft' a_pairs' a_first' : Nat → Int32}
theorem fa_l {N T : Nat} (hN : N ≤ 30) (hT : 1 ≤ T) (hT2 : T ≤ 2) : ∀ (l : List Int64) (k c la mi : Nat), k + l.length = N → hd_h a_draft k l → hd_y tk_kR tk_vR a_kind' a_value' (240 + k) l → (∀ t, t ∈ l → tk_r t) → ((c < T ∧ 1 ≤ la ∧ la ≤ 60 ∧ mi + 1 + c = T + la) ∨ (c = T ∧ la = 1 ∧ mi = 0)) → la + l.length ≤ 60 →
    ∃ r : Int32, (∀ (post : Int32 → Prop) (n : Nat), l.length < n → post r → wX_faultOf_14 post (nI T) 0 (nI N) f_faultPlace f_reportedSteps f_resultSize f_sheetSize f_waitingSize f_builtSize f_unfinished f_taken f_keptSize f_stacked f_ranked f_surveyed a_draft a_result a_lefts a_leftSize a_ways a_rights a_rightSize a_sheet a_waiting a_built a_unfinishedStart a_unfinishedLacks a_kept a_matchStart a_matchEnd a_joint a_unified a_oneStack a_otherStack a_nestedAt a_nestedEnd a_rank a_pairCount a_firstOpen n (nI c) (nI la) 0 0 (nI k)) ∧ (∀ (post : Int32 → Prop) (n : Nat), l.length < n → post r → wY_unfit_13 post (nI N) f_place' f_count' f_top' f_done' f_open' f_steps' f_shownSteps' f_fault' f_in' f_made' f_old' f_size' f_heads' f_fresh' a_kind' a_value' a_all' a_split' a_toKind' a_doneKind' a_toValue' a_doneValue' a_begins' a_lacks' a_inKind' a_leftKind' a_madeKind' a_oldKind' a_resultKind' a_inValue' a_leftValue' a_madeValue' a_oldValue' a_resultValue' a_from' a_to' a_whole' a_known' a_bound' a_whose' a_rank' a_one' a_two' a_oneOf' a_twoOf' a_headAt' a_headOf' a_headLeft' a_pairs' a_first' n (nI mi) (nI k)) ∧ ((r = -1 ∧ tm_w l mi ∧ ∀ t, t ∈ l → tk_d t) ∨ ∃ q, q ≤ 30 ∧ r = nI q)
  | [], k, c, la, mi, h1, h2, h3, h4, h5, h6 => by
    rw [List.length_nil] at h1
    by_cases hm : mi = 0
    · have hc : c = T := by omega
      refine ⟨-1, fun post n hn hp => ?_, fun post n hn hp => ?_, Or.inl ⟨rfl, hm, fun t ht => absurd ht (by simp)⟩⟩
      · obtain ⟨n, rfl⟩ : ∃ n', n = n' + 1 := ⟨n - 1, by omega⟩
        exact pk_le N k (fun _ => pk_eq c T (fun _ => hp) (fun z => absurd hc z)) (fun z => absurd z (by omega))
      · obtain ⟨n, rfl⟩ : ∃ n', n = n' + 1 := ⟨n - 1, by omega⟩
        exact pk_le N k (fun _ => pk_le mi 0 (fun _ => hp) (fun z => absurd z (by omega))) (fun z => absurd z (by omega))
    · refine ⟨nI N, fun post n hn hp => ?_, fun post n hn hp => ?_, Or.inr ⟨N, hN, rfl⟩⟩
      · obtain ⟨n, rfl⟩ : ∃ n', n = n' + 1 := ⟨n - 1, by omega⟩
        exact pk_le N k (fun _ => pk_eq c T (fun z => absurd z (by omega)) (fun _ => hp)) (fun z => absurd z (by omega))
      · obtain ⟨n, rfl⟩ : ∃ n', n = n' + 1 := ⟨n - 1, by omega⟩
        exact pk_le N k (fun _ => pk_le mi 0 (fun z => absurd z (by omega)) (fun _ => hp)) (fun z => absurd z (by omega))
  | t :: l, k, c, la, mi, h1, h2, h3, h4, h5, h6 => by
    rw [List.length_cons] at h1 h6
    have htr := h4 t (List.mem_cons.mpr (Or.inl rfl))
    have hkd := fa_kind htr
    have ek : (nI k).toNatClampNeg = k := nI_clamp (by omega)
    have hin : vp_in (nI k) 30 := vp_in_nI (by omega) (by omega)
    have ei : (240 : Int32) + nI k = nI (240 + k) := nI_add 240 k
    have hin2 : vp_in ((240 : Int32) + nI k) 270 := by rw [ei]; exact vp_in_nI (by omega) (by omega)
    have ec2 : ((240 : Int32) + nI k).toNatClampNeg = 240 + k := by rw [ei]; exact nI_clamp (by omega)
    by_cases hm : mi = 0
    · have hc : c = T := by omega
      refine ⟨nI k, fun post n hn hp => ?_, fun post n hn hp => ?_, Or.inr ⟨k, by omega, rfl⟩⟩
      · obtain ⟨n, rfl⟩ : ∃ n', n = n' + 1 := ⟨n - 1, by omega⟩
        exact pk_le N k (fun z => absurd z (by omega)) (fun _ => ⟨hin, nm_e (br_t rfl (br_t (by rw [hc]) hp))⟩)
      · obtain ⟨n, rfl⟩ : ∃ n', n = n' + 1 := ⟨n - 1, by omega⟩
        exact pk_le N k (fun z => absurd z (by omega)) (fun _ => br_t (by rw [hm]; rfl) hp)
    · by_cases hn : t < 8589934592
      · have har := tm_ar_le t
        obtain ⟨m, rfl⟩ : ∃ m, mi = m + 1 := ⟨mi - 1, by omega⟩
        obtain ⟨a, rfl⟩ : ∃ a, la = a + 1 := ⟨la - 1, by omega⟩
        have hcT : c < T := by omega
        have next : ∃ c' la', ((c' < T ∧ 1 ≤ la' ∧ la' ≤ 60 ∧ (m + tm_ar t) + 1 + c' = T + la') ∨ (c' = T ∧ la' = 1 ∧ m + tm_ar t = 0)) ∧ la' + l.length ≤ 60 ∧ ((a + tm_ar t = 0 ∧ c' = c + 1 ∧ la' = 1) ∨ (a + tm_ar t ≠ 0 ∧ c' = c ∧ la' = a + tm_ar t)) := by
          by_cases h0 : a + tm_ar t = 0
          · refine ⟨c + 1, 1, ?_, by omega, Or.inl ⟨h0, rfl, rfl⟩⟩
            by_cases hcc : c + 1 < T
            · exact Or.inl ⟨hcc, by omega, by omega, by omega⟩
            · exact Or.inr ⟨by omega, rfl, by omega⟩
          · exact ⟨c, a + tm_ar t, Or.inl ⟨hcT, by omega, by omega, by omega⟩, by omega, Or.inr ⟨h0, rfl, rfl⟩⟩
        obtain ⟨c', la', n1, n2, n3⟩ := next
        obtain ⟨r, rX, rY, rG⟩ := fa_l hN hT hT2 l (k + 1) c' la' (m + tm_ar t) (by omega) h2.2 h3.2 (fun x hx => h4 x (List.mem_cons.mpr (Or.inr hx))) n1 n2
        refine ⟨r, fun post n hln hp => ?_, fun post n hln hp => ?_, ?_⟩
        · obtain ⟨n, rfl⟩ : ∃ n', n = n' + 1 := ⟨n - 1, by omega⟩
          rw [List.length_cons] at hln
          refine pk_le N k (fun z => absurd z (by omega)) (fun _ => ⟨hin, nm_r (e' := t) (by rw [ek]; exact h2.1) (br_t rfl ?_)⟩)
          refine pk_eq c T (fun z => absurd z (by omega)) (fun _ => br_t rfl (br_t hn (br_t rfl (nm_r (e' := 0) (by decide) (br_t (by decide) (tk_arX t ?_))))))
          refine nm_r (ya_step a _) ?_
          rcases n3 with ⟨q1, q2, q3⟩ | ⟨q1, q2, q3⟩
          · subst q2 q3
            refine pk_eq (a + tm_ar t) 0 (fun _ => nm_r (nI_1 c) (nm_r (nI_1 k) (rX post n (by omega) hp))) (fun z => absurd q1 z)
          · subst q2 q3
            exact pk_eq (a + tm_ar t) 0 (fun z => absurd z q1) (fun _ => nm_r (nI_1 k) (rX post n (by omega) hp))
        · obtain ⟨n, rfl⟩ : ∃ n', n = n' + 1 := ⟨n - 1, by omega⟩
          rw [List.length_cons] at hln
          refine pk_le N k (fun z => absurd z (by omega)) (fun _ => pk_eq (m + 1) 0 (fun z => absurd z (by omega)) (fun _ => ⟨hin2, ?_⟩))
          rw [ec2, h3.1.1, h3.1.2]
          exact br_t (hkd.mpr hn) ⟨hin2, hin2, tk_arR htr (nm_r (ya_step m _) (nm_r (nI_1 k) (rY post n (by omega) hp)))⟩
        · rcases rG with ⟨g1, g2, g3⟩ | g
          · refine Or.inl ⟨g1, tm_w_cons.mpr g2, fun x hx => ?_⟩
            rcases List.mem_cons.mp hx with e | e
            · rw [e]; exact fa_d htr hn
            · exact g3 x e
          · exact Or.inr g
      · refine ⟨nI k, fun post n hln hp => ?_, fun post n hln hp => ?_, Or.inr ⟨k, by omega, rfl⟩⟩
        · obtain ⟨n, rfl⟩ : ∃ n', n = n' + 1 := ⟨n - 1, by omega⟩
          refine pk_le N k (fun z => absurd z (by omega)) (fun _ => ⟨hin, nm_r (e' := t) (by rw [ek]; exact h2.1) (br_t rfl ?_)⟩)
          refine pk_eq c T (fun z => absurd z (by omega)) (fun _ => br_t rfl (br_f hn (ru_slotX htr hn ?_)))
          refine nm_e (br_t rfl (nm_r (e' := 0) (by decide) (br_t ?_ hp)))
          exact (fa_and0 (by have := ru_slot_lt htr hn; omega)).mpr (b_0 _)
        · obtain ⟨n, rfl⟩ : ∃ n', n = n' + 1 := ⟨n - 1, by omega⟩
          refine pk_le N k (fun z => absurd z (by omega)) (fun _ => pk_eq mi 0 (fun z => absurd z hm) (fun _ => ⟨hin2, ?_⟩))
          rw [ec2, h3.1.1]
          exact br_f (fun z => hn (hkd.mp z)) hp
theorem fa_12 {D : List Int64} (N T : Nat) (hN : N = D.length) (hN30 : N ≤ 30) (hT : 1 ≤ T) (hT2 : T ≤ 2) (h2 : hd_h a_draft 0 D) (h3 : hd_y tk_kR tk_vR a_kind' a_value' 240 D) (hall : a_all' 8 = nI N) (h4 : ∀ t, t ∈ D → tk_r t) :
    ∃ r : Int32, (∀ post : Int32 → Prop, post r → wpX_faultOf post (nI N, f_faultPlace, f_reportedSteps, f_resultSize, f_sheetSize, f_waitingSize, f_builtSize, f_unfinished, f_taken, f_keptSize, f_stacked, f_ranked, f_surveyed, a_draft, a_result, a_lefts, a_leftSize, a_ways, a_rights, a_rightSize, a_sheet, a_waiting, a_built, a_unfinishedStart, a_unfinishedLacks, a_kept, a_matchStart, a_matchEnd, a_joint, a_unified, a_oneStack, a_otherStack, a_nestedAt, a_nestedEnd, a_rank, a_pairCount, a_firstOpen) (nI T) 0) ∧ (∀ post : Int32 → Prop, post r → wpY_unfit post (f_place', f_count', f_top', f_done', f_open', f_steps', f_shownSteps', f_fault', f_in', f_made', f_old', f_size', f_heads', f_fresh', a_kind', a_value', a_all', a_split', a_toKind', a_doneKind', a_toValue', a_doneValue', a_begins', a_lacks', a_inKind', a_leftKind', a_madeKind', a_oldKind', a_resultKind', a_inValue', a_leftValue', a_madeValue', a_oldValue', a_resultValue', a_from', a_to', a_whole', a_known', a_bound', a_whose', a_rank', a_one', a_two', a_oneOf', a_twoOf', a_headAt', a_headOf', a_headLeft', a_pairs', a_first') (nI T)) ∧ ((r = -1 ∧ tm_w D T ∧ ∀ t, t ∈ D → tk_d t) ∨ ∃ q, q ≤ 30 ∧ r = nI q) := by
  obtain ⟨r, rX, rY, rG⟩ := fa_l (N := N) (T := T) hN30 hT hT2 D 0 0 1 T (by omega) h2 h3 h4 (Or.inl ⟨by omega, by omega, by omega, by omega⟩) (by omega)
  refine ⟨r, fun post hp => ⟨D.length + 1, rX post _ (by omega) hp⟩, fun post hp => nm_r (e' := nI N) hall ⟨D.length + 1, rY post _ (by omega) hp⟩, rG⟩
end
end
section
/-! where a rule's draft fails: both sides go together -/
theorem fb_idx {t : Int64} (h : tk_r t) (hn : ¬ t < 8589934592) : (4 : Int32) * tk_kR t + tk_vR t = nI (8 + ru_slot t) := by
  rcases ru_names h hn with ⟨r, h1, _, k1, v1, e, _⟩ | ⟨r, h1, _, k1, v1, e, _⟩
  · rw [k1, v1, e, show (4 : Int32) * 2 = nI 8 from rfl, nI_add]
  · rw [k1, v1, e, show (4 : Int32) * 3 = nI 12 from rfl, nI_add, show 12 + r = 8 + (4 + r) by omega]
theorem fb_or0 (x : Int32) : x ||| 0 = x := by simp
theorem fb_slot_inj {s t : Int64} (hs : tk_r s) (ht : tk_r t) (ns : ¬ s < 8589934592) (nt : ¬ t < 8589934592) (e : ru_slot s = ru_slot t) : s = t := by
  rcases ru_names hs ns with ⟨r, h1, e1, _, _, s1, _⟩ | ⟨r, h1, e1, _, _, s1, _⟩ <;> rcases ru_names ht nt with ⟨q, h2, e2, _, _, s2, _⟩ | ⟨q, h2, e2, _, _, s2, _⟩
  · rw [e1, e2, show r = q by omega]
  · omega
  · omega
  · rw [e1, e2, show r = q by omega]
section
variable {f_drafted f_faultPlace f_reportedSteps f_resultSize f_sheetSize f_waitingSize f_builtSize f_unfinished f_taken f_keptSize f_stacked f_ranked f_surveyed : Int32} {a_draft a_result a_lefts a_rights a_sheet a_waiting a_built a_kept a_joint : Nat → Int64} {a_leftSize a_ways a_rightSize a_unfinishedStart a_unfinishedLacks a_matchStart a_matchEnd a_unified a_oneStack a_otherStack a_nestedAt a_nestedEnd a_rank a_pairCount a_firstOpen : Nat → Int32}
variable {f_place' f_count' f_top' f_done' f_open' f_steps' f_shownSteps' f_fault' f_in' f_made' f_old' f_size' f_heads' f_fresh' : Int32} {a_kind' a_value' a_all' a_split' a_toKind' a_doneKind' a_toValue' a_doneValue' a_begins' a_lacks' a_inKind' a_leftKind' a_madeKind' a_oldKind' a_resultKind' a_inValue' a_leftValue' a_madeValue' a_oldValue' a_resultValue' a_from' a_to' a_whole' a_known' a_bound' a_whose' a_rank' a_one' a_two' a_oneOf' a_twoOf' a_headAt' a_headOf' a_headLeft' a_pairs' a_first' : Nat → Int32}
theorem fb_2 {N ni : Nat} {seen has ni' : Int32} (hN : N ≤ 30) (hni : ni ≤ 4) (hsh : ∀ i, i < 8 → bt seen i = bt has (8 + i)) : ∀ (l : List Int64) (k c la mi : Nat) (rt : Int32), k + l.length = N → hd_h a_draft k l → hd_y tk_kR tk_vR a_kind' a_value' (240 + k) l → (∀ t, t ∈ l → tk_r t) → ((c = 1 ∧ 1 ≤ la ∧ mi = la ∧ ∃ q, q < 100 ∧ rt = nI q) ∨ (c = 1 ∧ la = 1 ∧ mi = 0 ∧ rt = -1) ∨ (c = 2 ∧ la = 1 ∧ mi = 0 ∧ ∃ q, q < 100 ∧ rt = nI q)) → la + l.length ≤ 60 →
    ∃ r : Int32, (∀ (post : Int32 → Prop) (n : Nat), l.length < n → post r → wX_faultOf_14 post 2 1 (nI N) f_faultPlace f_reportedSteps f_resultSize f_sheetSize f_waitingSize f_builtSize f_unfinished f_taken f_keptSize f_stacked f_ranked f_surveyed a_draft a_result a_lefts a_leftSize a_ways a_rights a_rightSize a_sheet a_waiting a_built a_unfinishedStart a_unfinishedLacks a_kept a_matchStart a_matchEnd a_joint a_unified a_oneStack a_otherStack a_nestedAt a_nestedEnd a_rank a_pairCount a_firstOpen n (nI c) (nI la) (nI ni) seen (nI k)) ∧ (∀ (post : Int32 → Prop) (n : Nat), l.length < n → post r → wY_unfitRule_38 post (nI N) f_place' f_count' f_top' f_done' f_open' f_steps' f_shownSteps' f_fault' f_in' f_made' f_old' f_size' f_heads' f_fresh' a_kind' a_value' a_all' a_split' a_toKind' a_doneKind' a_toValue' a_doneValue' a_begins' a_lacks' a_inKind' a_leftKind' a_madeKind' a_oldKind' a_resultKind' a_inValue' a_leftValue' a_madeValue' a_oldValue' a_resultValue' a_from' a_to' a_whole' a_known' a_bound' a_whose' a_rank' a_one' a_two' a_oneOf' a_twoOf' a_headAt' a_headOf' a_headLeft' a_pairs' a_first' n (nI mi) rt ni' has (nI k)) ∧ ((r = -1 ∧ tm_w l (if c = 2 then 0 else la) ∧ ∀ t, t ∈ l → ¬ t < 8589934592 → bt seen (ru_slot t) = true) ∨ ∃ q, q ≤ 30 ∧ r = nI q)
  | [], k, c, la, mi, rt, h1, h2, h3, h4, h5, h6 => by
    rw [List.length_nil] at h1
    rcases h5 with ⟨q1, q2, q3, q, q4, q5⟩ | ⟨q1, q2, q3, q5⟩ | ⟨q1, q2, q3, q, q4, q5⟩
    · refine ⟨nI N, fun post n hn hp => ?_, fun post n hn hp => ?_, Or.inr ⟨N, hN, rfl⟩⟩
      · obtain ⟨n, rfl⟩ : ∃ n', n = n' + 1 := ⟨n - 1, by omega⟩
        exact pk_le N k (fun _ => pk_eq c 2 (fun z => absurd z (by omega)) (fun _ => hp)) (fun z => absurd z (by omega))
      · obtain ⟨n, rfl⟩ : ∃ n', n = n' + 1 := ⟨n - 1, by omega⟩
        exact pk_le N k (fun _ => pk_lt 0 mi (fun _ => hp) (fun z => absurd z (by omega))) (fun z => absurd z (by omega))
    · refine ⟨nI N, fun post n hn hp => ?_, fun post n hn hp => ?_, Or.inr ⟨N, hN, rfl⟩⟩
      · obtain ⟨n, rfl⟩ : ∃ n', n = n' + 1 := ⟨n - 1, by omega⟩
        exact pk_le N k (fun _ => pk_eq c 2 (fun z => absurd z (by omega)) (fun _ => hp)) (fun z => absurd z (by omega))
      · obtain ⟨n, rfl⟩ : ∃ n', n = n' + 1 := ⟨n - 1, by omega⟩
        exact pk_le N k (fun _ => pk_lt 0 mi (fun z => absurd z (by omega)) (fun _ => br_f (by rw [q5]; decide) hp)) (fun z => absurd z (by omega))
    · refine ⟨-1, fun post n hn hp => ?_, fun post n hn hp => ?_, Or.inl ⟨rfl, by rw [if_pos q1]; rfl, fun t ht => absurd ht (by simp)⟩⟩
      · obtain ⟨n, rfl⟩ : ∃ n', n = n' + 1 := ⟨n - 1, by omega⟩
        exact pk_le N k (fun _ => pk_eq c 2 (fun _ => hp) (fun z => absurd q1 z)) (fun z => absurd z (by omega))
      · obtain ⟨n, rfl⟩ : ∃ n', n = n' + 1 := ⟨n - 1, by omega⟩
        exact pk_le N k (fun _ => pk_lt 0 mi (fun z => absurd z (by omega)) (fun _ => br_t (by rw [q5]; exact nI_pos' (by omega)) hp)) (fun z => absurd z (by omega))
  | t :: l, k, c, la, mi, rt, h1, h2, h3, h4, h5, h6 => by
    rw [List.length_cons] at h1 h6
    have htr := h4 t (List.mem_cons.mpr (Or.inl rfl))
    have hkd := fa_kind htr
    have har := tm_ar_le t
    have ek : (nI k).toNatClampNeg = k := nI_clamp (by omega)
    have hin : vp_in (nI k) 30 := vp_in_nI (by omega) (by omega)
    have ei : (240 : Int32) + nI k = nI (240 + k) := nI_add 240 k
    have hin2 : vp_in ((240 : Int32) + nI k) 270 := by rw [ei]; exact vp_in_nI (by omega) (by omega)
    have ec2 : ((240 : Int32) + nI k).toNatClampNeg = 240 + k := by rw [ei]; exact nI_clamp (by omega)
    by_cases hc2 : c = 2
    · rcases h5 with ⟨q1, _⟩ | ⟨q1, _⟩ | ⟨q1, q2, q3, q, q4, q5⟩
      · omega
      · omega
      refine ⟨nI k, fun post n hn hp => ?_, fun post n hn hp => ?_, Or.inr ⟨k, by omega, rfl⟩⟩
      · obtain ⟨n, rfl⟩ : ∃ n', n = n' + 1 := ⟨n - 1, by omega⟩
        exact pk_le N k (fun z => absurd z (by omega)) (fun _ => ⟨hin, nm_e (br_f (by decide) (pk_eq c 0 (fun z => absurd z (by omega)) (fun _ => br_t (by rw [hc2]; rfl) hp)))⟩)
      · obtain ⟨n, rfl⟩ : ∃ n', n = n' + 1 := ⟨n - 1, by omega⟩
        exact pk_le N k (fun z => absurd z (by omega)) (fun _ => ⟨hin2, nm_e ⟨hin2, nm_e (pk_eq mi 0 (fun _ => br_f (by rw [q5]; exact nI_pos (by omega)) hp) (fun z => absurd q3 z))⟩⟩)
    · have hc1 : c = 1 := by omega
      subst hc1
      have hla : 1 ≤ la := by omega
      obtain ⟨a, rfl⟩ : ∃ a, la = a + 1 := ⟨la - 1, by omega⟩
      -- the reference's numbers behind its first test
      have hYs : ∃ q, q < 100 ∧ ∀ (post : Int32 → Prop) (J : Int32 → Int32 → Int32 → Int32 → Int32 → Prop), wY_unfitRule_90 post J (nI N) (nI (a + 1)) (nI q) ni' has (nI k) (tk_kR t) (tk_vR t) f_place' f_count' f_top' f_done' f_open' f_steps' f_shownSteps' f_fault' f_in' f_made' f_old' f_size' f_heads' f_fresh' a_kind' a_value' a_all' a_split' a_toKind' a_doneKind' a_toValue' a_doneValue' a_begins' a_lacks' a_inKind' a_leftKind' a_madeKind' a_oldKind' a_resultKind' a_inValue' a_leftValue' a_madeValue' a_oldValue' a_resultValue' a_from' a_to' a_whole' a_known' a_bound' a_whose' a_rank' a_one' a_two' a_oneOf' a_twoOf' a_headAt' a_headOf' a_headLeft' a_pairs' a_first' → ((nI mi = 0 → ((rt < 0 → wY_unfitRule_81 post J (nI N) (nI mi) rt ni' has (nI k) (tk_kR t) (tk_vR t) f_place' f_count' f_top' f_done' f_open' f_steps' f_shownSteps' f_fault' f_in' f_made' f_old' f_size' f_heads' f_fresh' a_kind' a_value' a_all' a_split' a_toKind' a_doneKind' a_toValue' a_doneValue' a_begins' a_lacks' a_inKind' a_leftKind' a_madeKind' a_oldKind' a_resultKind' a_inValue' a_leftValue' a_madeValue' a_oldValue' a_resultValue' a_from' a_to' a_whole' a_known' a_bound' a_whose' a_rank' a_one' a_two' a_oneOf' a_twoOf' a_headAt' a_headOf' a_headLeft' a_pairs' a_first') ∧ (¬ rt < 0 → post (nI k)))) ∧ (¬ nI mi = 0 → wY_unfitRule_81 post J (nI N) (nI mi) rt ni' has (nI k) (tk_kR t) (tk_vR t) f_place' f_count' f_top' f_done' f_open' f_steps' f_shownSteps' f_fault' f_in' f_made' f_old' f_size' f_heads' f_fresh' a_kind' a_value' a_all' a_split' a_toKind' a_doneKind' a_toValue' a_doneValue' a_begins' a_lacks' a_inKind' a_leftKind' a_madeKind' a_oldKind' a_resultKind' a_inValue' a_leftValue' a_madeValue' a_oldValue' a_resultValue' a_from' a_to' a_whole' a_known' a_bound' a_whose' a_rank' a_one' a_two' a_oneOf' a_twoOf' a_headAt' a_headOf' a_headLeft' a_pairs' a_first')) := by
        rcases h5 with ⟨q1, q2, q3, q, q4, q5⟩ | ⟨q1, q2, q3, q5⟩ | ⟨q1, q2, q3, q, q4, q5⟩
        · subst q3 q5
          exact ⟨q, q4, fun post J hJ => br_f (nI_ne0 (by omega) (by omega)) (br_f (nI_ne0 (by omega) (by omega)) hJ)⟩
        · subst q3 q5
          have : a = 0 := by omega
          subst this
          exact ⟨k, by omega, fun post J hJ => br_t rfl (br_t (by decide) (br_t rfl hJ))⟩
        · omega
      obtain ⟨q, hq, hYq⟩ := hYs
      by_cases hok : t < 8589934592 ∨ bt seen (ru_slot t) = true
      · have next : ∃ c' la' mi', ((c' = 1 ∧ 1 ≤ la' ∧ mi' = la' ∧ ∃ z, z < 100 ∧ nI q = nI z) ∨ (c' = 1 ∧ la' = 1 ∧ mi' = 0 ∧ nI q = -1) ∨ (c' = 2 ∧ la' = 1 ∧ mi' = 0 ∧ ∃ z, z < 100 ∧ nI q = nI z)) ∧ la' + l.length ≤ 60 ∧ mi' = a + tm_ar t ∧ (if c' = 2 then 0 else la') = a + tm_ar t ∧ ((a + tm_ar t = 0 ∧ c' = 2 ∧ la' = 1) ∨ (a + tm_ar t ≠ 0 ∧ c' = 1 ∧ la' = a + tm_ar t)) := by
          by_cases h0 : a + tm_ar t = 0
          · exact ⟨2, 1, 0, Or.inr (Or.inr ⟨rfl, rfl, rfl, q, hq, rfl⟩), by omega, h0.symm, by rw [if_pos rfl]; exact h0.symm, Or.inl ⟨h0, rfl, rfl⟩⟩
          · exact ⟨1, a + tm_ar t, a + tm_ar t, Or.inl ⟨rfl, by omega, rfl, q, hq, rfl⟩, by omega, rfl, by rw [if_neg (by omega)], Or.inr ⟨h0, rfl, rfl⟩⟩
        obtain ⟨c', la', mi', n1, n2, n3, n4, n5⟩ := next
        obtain ⟨r, rX, rY, rG⟩ := fb_2 hN hni hsh l (k + 1) c' la' mi' (nI q) (by omega) h2.2 h3.2 (fun x hx => h4 x (List.mem_cons.mpr (Or.inr hx))) n1 n2
        refine ⟨r, fun post n hln hp => ?_, fun post n hln hp => ?_, ?_⟩
        · obtain ⟨n, rfl⟩ : ∃ n', n = n' + 1 := ⟨n - 1, by omega⟩
          rw [List.length_cons] at hln
          have tail : wX_faultOf_119 post (wX_faultOf_14 post 2 1 (nI N) f_faultPlace f_reportedSteps f_resultSize f_sheetSize f_waitingSize f_builtSize f_unfinished f_taken f_keptSize f_stacked f_ranked f_surveyed a_draft a_result a_lefts a_leftSize a_ways a_rights a_rightSize a_sheet a_waiting a_built a_unfinishedStart a_unfinishedLacks a_kept a_matchStart a_matchEnd a_joint a_unified a_oneStack a_otherStack a_nestedAt a_nestedEnd a_rank a_pairCount a_firstOpen n) 2 1 (nI 1) (nI (a + 1)) (nI ni) seen (nI k) t 0 (nI N) f_faultPlace f_reportedSteps f_resultSize f_sheetSize f_waitingSize f_builtSize f_unfinished f_taken f_keptSize f_stacked f_ranked f_surveyed a_draft a_result a_lefts a_leftSize a_ways a_rights a_rightSize a_sheet a_waiting a_built a_unfinishedStart a_unfinishedLacks a_kept a_matchStart a_matchEnd a_joint a_unified a_oneStack a_otherStack a_nestedAt a_nestedEnd a_rank a_pairCount a_firstOpen := by
            refine br_t rfl (nm_r (e' := nI ni) (Int32.add_zero _) (pk_le ni 4 (fun _ => tk_arX t (nm_r (ya_step a _) ?_)) (fun z => absurd z (by omega))))
            rcases n5 with ⟨q1, q2, q3⟩ | ⟨q1, q2, q3⟩
            · subst q2 q3
              exact pk_eq (a + tm_ar t) 0 (fun _ => nm_r (nI_1 1) (nm_r (nI_1 k) (rX post n (by omega) hp))) (fun z => absurd q1 z)
            · subst q2 q3
              exact pk_eq (a + tm_ar t) 0 (fun z => absurd z q1) (fun _ => nm_r (nI_1 k) (rX post n (by omega) hp))
          refine pk_le N k (fun z => absurd z (by omega)) (fun _ => ⟨hin, nm_r (e' := t) (by rw [ek]; exact h2.1) (br_f (by decide) (br_f (by decide) (br_f (by decide) (br_t rfl ?_))))⟩)
          by_cases hn : t < 8589934592
          · exact br_t hn tail
          · refine br_f hn (ru_slotX htr hn (nm_e (br_t rfl (nm_r (fb_or0 seen) (br_f ?_ tail)))))
            rw [fa_and0 (by have := ru_slot_lt htr hn; omega)]
            rcases hok with h | h
            · exact absurd h hn
            · rw [h]; decide
        · obtain ⟨n, rfl⟩ : ∃ n', n = n' + 1 := ⟨n - 1, by omega⟩
          rw [List.length_cons] at hln
          refine pk_le N k (fun z => absurd z (by omega)) (fun _ => ⟨hin2, nm_r (e' := tk_kR t) (by rw [ec2]; exact h3.1.1) ⟨hin2, nm_r (e' := tk_vR t) (by rw [ec2]; exact h3.1.2) (hYq post _ ?_)⟩⟩)
          have tail : ∀ z0 : Int32, (has &&& z0) = z0 → wY_unfitRule_109 post (wY_unfitRule_38 post (nI N) f_place' f_count' f_top' f_done' f_open' f_steps' f_shownSteps' f_fault' f_in' f_made' f_old' f_size' f_heads' f_fresh' a_kind' a_value' a_all' a_split' a_toKind' a_doneKind' a_toValue' a_doneValue' a_begins' a_lacks' a_inKind' a_leftKind' a_madeKind' a_oldKind' a_resultKind' a_inValue' a_leftValue' a_madeValue' a_oldValue' a_resultValue' a_from' a_to' a_whole' a_known' a_bound' a_whose' a_rank' a_one' a_two' a_oneOf' a_twoOf' a_headAt' a_headOf' a_headLeft' a_pairs' a_first' n) (nI N) (nI (a + 1)) (nI q) ni' has (nI k) (tk_kR t) (tk_vR t) z0 f_place' f_count' f_top' f_done' f_open' f_steps' f_shownSteps' f_fault' f_in' f_made' f_old' f_size' f_heads' f_fresh' a_kind' a_value' a_all' a_split' a_toKind' a_doneKind' a_toValue' a_doneValue' a_begins' a_lacks' a_inKind' a_leftKind' a_madeKind' a_oldKind' a_resultKind' a_inValue' a_leftValue' a_madeValue' a_oldValue' a_resultValue' a_from' a_to' a_whole' a_known' a_bound' a_whose' a_rank' a_one' a_two' a_oneOf' a_twoOf' a_headAt' a_headOf' a_headLeft' a_pairs' a_first' := by
            intro z0 hz
            refine br_t (nI_pos' (by omega)) (br_t hz (br_t (nI_pos' (by omega)) (tk_arR htr (nm_r (ya_step a _) (nm_r (nI_1 k) ?_)))))
            rw [← n3]
            exact rY post n (by omega) hp
          by_cases hn : t < 8589934592
          · exact br_t (hkd.mpr hn) (tail 0 (by simp))
          · refine br_f (fun z => hn (hkd.mp z)) ?_
            have hsl := ru_slot_lt htr hn
            rw [fb_idx htr hn]
            refine tail _ ?_
            rw [fa_and1 (by omega), ← hsh _ hsl]
            rcases hok with h | h
            · exact absurd h hn
            · exact h
        · rcases rG with ⟨g1, g2, g3⟩ | g
          · rw [n4] at g2
            refine Or.inl ⟨g1, ?_, fun x hx hx' => ?_⟩
            · rw [if_neg (by omega)]
              exact tm_w_cons.mpr g2
            · rcases List.mem_cons.mp hx with e | e
              · rw [e] at hx' ⊢
                rcases hok with h | h
                · exact absurd h hx'
                · exact h
              · exact g3 x e hx'
          · exact Or.inr g
      · have hn : ¬ t < 8589934592 := fun z => hok (Or.inl z)
        have hb : bt seen (ru_slot t) = false := by
          cases h : bt seen (ru_slot t)
          · rfl
          · exact absurd (Or.inr h) hok
        have hsl := ru_slot_lt htr hn
        refine ⟨nI k, fun post n hln hp => ?_, fun post n hln hp => ?_, Or.inr ⟨k, by omega, rfl⟩⟩
        · obtain ⟨n, rfl⟩ : ∃ n', n = n' + 1 := ⟨n - 1, by omega⟩
          refine pk_le N k (fun z => absurd z (by omega)) (fun _ => ⟨hin, nm_r (e' := t) (by rw [ek]; exact h2.1) (br_f (by decide) (br_f (by decide) (br_f (by decide) (br_t rfl ?_))))⟩)
          exact br_f hn (ru_slotX htr hn (nm_e (br_t rfl (nm_r (fb_or0 seen) (br_t ((fa_and0 (by omega)).mpr hb) hp)))))
        · obtain ⟨n, rfl⟩ : ∃ n', n = n' + 1 := ⟨n - 1, by omega⟩
          refine pk_le N k (fun z => absurd z (by omega)) (fun _ => ⟨hin2, nm_r (e' := tk_kR t) (by rw [ec2]; exact h3.1.1) ⟨hin2, nm_r (e' := tk_vR t) (by rw [ec2]; exact h3.1.2) (hYq post _ ?_)⟩⟩)
          refine br_f (fun z => hn (hkd.mp z)) (br_t (nI_pos' (by omega)) ?_)
          rw [fb_idx htr hn]
          refine br_f ?_ hp
          rw [fa_and1 (by omega), ← hsh _ hsl, hb]
          decide
end
end
section
/-! where a rule's draft fails: LEFT -/
section
variable {f_drafted f_faultPlace f_reportedSteps f_resultSize f_sheetSize f_waitingSize f_builtSize f_unfinished f_taken f_keptSize f_stacked f_ranked f_surveyed : Int32} {a_draft a_result a_lefts a_rights a_sheet a_waiting a_built a_kept a_joint : Nat → Int64} {a_leftSize a_ways a_rightSize a_unfinishedStart a_unfinishedLacks a_matchStart a_matchEnd a_unified a_oneStack a_otherStack a_nestedAt a_nestedEnd a_rank a_pairCount a_firstOpen : Nat → Int32}
variable {f_place' f_count' f_top' f_done' f_open' f_steps' f_shownSteps' f_fault' f_in' f_made' f_old' f_size' f_heads' f_fresh' : Int32} {a_kind' a_value' a_all' a_split' a_toKind' a_doneKind' a_toValue' a_doneValue' a_begins' a_lacks' a_inKind' a_leftKind' a_madeKind' a_oldKind' a_resultKind' a_inValue' a_leftValue' a_madeValue' a_oldValue' a_resultValue' a_from' a_to' a_whole' a_known' a_bound' a_whose' a_rank' a_one' a_two' a_oneOf' a_twoOf' a_headAt' a_headOf' a_headLeft' a_pairs' a_first' : Nat → Int32}
theorem fb_1 {N : Nat} (hN : N ≤ 30) : ∀ (l : List Int64) (k la ni : Nat) (seen has : Int32), k + l.length = N → hd_h a_draft k l → hd_y tk_kR tk_vR a_kind' a_value' (240 + k) l → (∀ t, t ∈ l → tk_r t) → 1 ≤ la → la + l.length ≤ 60 → ni ≤ 4 → (∀ i, i < 8 → bt seen i = bt has (8 + i)) → (k = 0 → ∀ t r, l = t :: r → t < 4294967296) →
    ∃ r : Int32, (∀ (post : Int32 → Prop) (n : Nat), l.length < n → post r → wX_faultOf_14 post 2 1 (nI N) f_faultPlace f_reportedSteps f_resultSize f_sheetSize f_waitingSize f_builtSize f_unfinished f_taken f_keptSize f_stacked f_ranked f_surveyed a_draft a_result a_lefts a_leftSize a_ways a_rights a_rightSize a_sheet a_waiting a_built a_unfinishedStart a_unfinishedLacks a_kept a_matchStart a_matchEnd a_joint a_unified a_oneStack a_otherStack a_nestedAt a_nestedEnd a_rank a_pairCount a_firstOpen n 0 (nI la) (nI ni) seen (nI k)) ∧ (∀ (post : Int32 → Prop) (n : Nat), l.length < n → post r → wY_unfitRule_38 post (nI N) f_place' f_count' f_top' f_done' f_open' f_steps' f_shownSteps' f_fault' f_in' f_made' f_old' f_size' f_heads' f_fresh' a_kind' a_value' a_all' a_split' a_toKind' a_doneKind' a_toValue' a_doneValue' a_begins' a_lacks' a_inKind' a_leftKind' a_madeKind' a_oldKind' a_resultKind' a_inValue' a_leftValue' a_madeValue' a_oldValue' a_resultValue' a_from' a_to' a_whole' a_known' a_bound' a_whose' a_rank' a_one' a_two' a_oneOf' a_twoOf' a_headAt' a_headOf' a_headLeft' a_pairs' a_first' n (nI la) (-1) (nI ni) has (nI k)) ∧ ((r = -1 ∧ ∃ l1 l2, l = l1 ++ l2 ∧ tm_w l1 la ∧ tm_w l2 1 ∧ ni + ru_c9 l1 ≤ 4 ∧ ∀ t, t ∈ l2 → ¬ t < 8589934592 → (bt seen (ru_slot t) = true ∨ ∃ s, s ∈ l1 ∧ ¬ s < 8589934592 ∧ ru_slot s = ru_slot t)) ∨ ∃ q, q ≤ 30 ∧ r = nI q)
  | [], k, la, ni, seen, has, h1, h2, h3, h4, h5, h6, h7, h8, h9 => by
    rw [List.length_nil] at h1
    refine ⟨nI N, fun post n hn hp => ?_, fun post n hn hp => ?_, Or.inr ⟨N, hN, rfl⟩⟩
    · obtain ⟨n, rfl⟩ : ∃ n', n = n' + 1 := ⟨n - 1, by omega⟩
      exact pk_le N k (fun _ => br_f (by decide) hp) (fun z => absurd z (by omega))
    · obtain ⟨n, rfl⟩ : ∃ n', n = n' + 1 := ⟨n - 1, by omega⟩
      exact pk_le N k (fun _ => pk_lt 0 la (fun _ => hp) (fun z => absurd z (by simp at h6; omega)) rfl rfl (by omega) (by simp at h6; omega)) (fun z => absurd z (by omega))
  | t :: l, k, la, ni, seen, has, h1, h2, h3, h4, h5, h6, h7, h8, h9 => by
    rw [List.length_cons] at h1 h6
    have htr := h4 t (List.mem_cons.mpr (Or.inl rfl))
    have hkd := fa_kind htr
    have har := tm_ar_le t
    have h9t := tk_9 htr
    have ek : (nI k).toNatClampNeg = k := nI_clamp (by omega)
    have hin : vp_in (nI k) 30 := vp_in_nI (by omega) (by omega)
    have ei : (240 : Int32) + nI k = nI (240 + k) := nI_add 240 k
    have hin2 : vp_in ((240 : Int32) + nI k) 270 := by rw [ei]; exact vp_in_nI (by omega) (by omega)
    have ec2 : ((240 : Int32) + nI k).toNatClampNeg = 240 + k := by rw [ei]; exact nI_clamp (by omega)
    obtain ⟨a, rfl⟩ : ∃ a, la = a + 1 := ⟨la - 1, by omega⟩
    -- the component's and the reference's way to the count of the symbols 9
    have hs' : ∃ seen' has', (∀ i, i < 8 → bt seen' i = bt has' (8 + i)) ∧ (∀ i, i < 8 → (bt seen' i = true ↔ (bt seen i = true ∨ (¬ t < 8589934592 ∧ ru_slot t = i)))) ∧
        (∀ (post : Int32 → Prop) (J : Int32 → Int32 → Int32 → Int32 → Int32 → Prop), wX_faultOf_119 post J 2 1 0 (nI (a + 1)) (nI ni) seen' (nI k) t 1 (nI N) f_faultPlace f_reportedSteps f_resultSize f_sheetSize f_waitingSize f_builtSize f_unfinished f_taken f_keptSize f_stacked f_ranked f_surveyed a_draft a_result a_lefts a_leftSize a_ways a_rights a_rightSize a_sheet a_waiting a_built a_unfinishedStart a_unfinishedLacks a_kept a_matchStart a_matchEnd a_joint a_unified a_oneStack a_otherStack a_nestedAt a_nestedEnd a_rank a_pairCount a_firstOpen → wX_faultOf_45 post J 2 1 0 (nI (a + 1)) (nI ni) seen (nI k) t 1 (nI N) f_faultPlace f_reportedSteps f_resultSize f_sheetSize f_waitingSize f_builtSize f_unfinished f_taken f_keptSize f_stacked f_ranked f_surveyed a_draft a_result a_lefts a_leftSize a_ways a_rights a_rightSize a_sheet a_waiting a_built a_unfinishedStart a_unfinishedLacks a_kept a_matchStart a_matchEnd a_joint a_unified a_oneStack a_otherStack a_nestedAt a_nestedEnd a_rank a_pairCount a_firstOpen) ∧
        (∀ (post : Int32 → Prop) (J : Int32 → Int32 → Int32 → Int32 → Int32 → Prop), wY_unfitRule_138 post J (nI N) (nI (a + 1)) (-1) (nI ni) has' (nI k) (tk_kR t) (tk_vR t) f_place' f_count' f_top' f_done' f_open' f_steps' f_shownSteps' f_fault' f_in' f_made' f_old' f_size' f_heads' f_fresh' a_kind' a_value' a_all' a_split' a_toKind' a_doneKind' a_toValue' a_doneValue' a_begins' a_lacks' a_inKind' a_leftKind' a_madeKind' a_oldKind' a_resultKind' a_inValue' a_leftValue' a_madeValue' a_oldValue' a_resultValue' a_from' a_to' a_whole' a_known' a_bound' a_whose' a_rank' a_one' a_two' a_oneOf' a_twoOf' a_headAt' a_headOf' a_headLeft' a_pairs' a_first' → wY_unfitRule_90 post J (nI N) (nI (a + 1)) (-1) (nI ni) has (nI k) (tk_kR t) (tk_vR t) f_place' f_count' f_top' f_done' f_open' f_steps' f_shownSteps' f_fault' f_in' f_made' f_old' f_size' f_heads' f_fresh' a_kind' a_value' a_all' a_split' a_toKind' a_doneKind' a_toValue' a_doneValue' a_begins' a_lacks' a_inKind' a_leftKind' a_madeKind' a_oldKind' a_resultKind' a_inValue' a_leftValue' a_madeValue' a_oldValue' a_resultValue' a_from' a_to' a_whole' a_known' a_bound' a_whose' a_rank' a_one' a_two' a_oneOf' a_twoOf' a_headAt' a_headOf' a_headLeft' a_pairs' a_first') := by
      have pre : ∀ (post : Int32 → Prop) (J : Int32 → Int32 → Int32 → Int32 → Int32 → Prop), wX_faultOf_74 post J 2 1 0 (nI (a + 1)) (nI ni) seen (nI k) t 1 (nI N) f_faultPlace f_reportedSteps f_resultSize f_sheetSize f_waitingSize f_builtSize f_unfinished f_taken f_keptSize f_stacked f_ranked f_surveyed a_draft a_result a_lefts a_leftSize a_ways a_rights a_rightSize a_sheet a_waiting a_built a_unfinishedStart a_unfinishedLacks a_kept a_matchStart a_matchEnd a_joint a_unified a_oneStack a_otherStack a_nestedAt a_nestedEnd a_rank a_pairCount a_firstOpen → wX_faultOf_45 post J 2 1 0 (nI (a + 1)) (nI ni) seen (nI k) t 1 (nI N) f_faultPlace f_reportedSteps f_resultSize f_sheetSize f_waitingSize f_builtSize f_unfinished f_taken f_keptSize f_stacked f_ranked f_surveyed a_draft a_result a_lefts a_leftSize a_ways a_rights a_rightSize a_sheet a_waiting a_built a_unfinishedStart a_unfinishedLacks a_kept a_matchStart a_matchEnd a_joint a_unified a_oneStack a_otherStack a_nestedAt a_nestedEnd a_rank a_pairCount a_firstOpen := by
        intro post J hJ
        refine br_f (by decide) (br_f (by decide) (pk_eq k 0 (fun h0 => br_t (h9 h0 t l rfl) hJ) (fun _ => hJ)))
      by_cases hn : t < 8589934592
      · refine ⟨seen, has, h8, fun i hi => ⟨fun z => Or.inl z, fun z => ?_⟩, fun post J hJ => pre post J (br_t hn hJ), fun post J hJ => br_t (hkd.mpr hn) (br_f (by decide) (nm_r (fb_or0 has) hJ))⟩
        rcases z with z | z
        · exact z
        · exact absurd hn z.1
      · have hsl := ru_slot_lt htr hn
        refine ⟨seen ||| ((1 : Int32) <<< (nI (ru_slot t) &&& 31)), has ||| ((1 : Int32) <<< (nI (8 + ru_slot t) &&& 31)), fun i hi => ?_, fun i hi => ?_, fun post J hJ => pre post J (br_f hn (ru_slotX htr hn (nm_e (br_f (by decide) (nm_e (br_f ?_ hJ)))))), fun post J hJ => br_f (fun z => hn (hkd.mp z)) ?_⟩
        · rw [fa_or (by omega) (by omega), fa_or (by omega) (by omega), h8 i hi]
          congr 1
          by_cases e : i = ru_slot t
          · rw [decide_eq_true e, decide_eq_true (by omega)]
          · rw [decide_eq_false e, decide_eq_false (by omega)]
        · rw [fa_or (by omega) (by omega)]
          rw [Bool.or_eq_true, decide_eq_true_iff]
          exact ⟨fun z => by rcases z with z | z; exact Or.inl z; exact Or.inr ⟨hn, z.symm⟩, fun z => by rcases z with z | z; exact Or.inl z; exact Or.inr z.2.symm⟩
        · rw [fa_and0 (by omega), fa_or (by omega) (by omega), decide_eq_true rfl, Bool.or_true]
          decide
        · rw [fb_idx htr hn]
          exact br_f (by decide) (nm_e hJ)
    obtain ⟨seen', has', s1, s2, sX, sY⟩ := hs'
    by_cases h5n : t = 9 ∧ ni = 4
    · refine ⟨nI k, fun post n hln hp => ?_, fun post n hln hp => ?_, Or.inr ⟨k, by omega, rfl⟩⟩
      · obtain ⟨n, rfl⟩ : ∃ n', n = n' + 1 := ⟨n - 1, by omega⟩
        refine pk_le N k (fun z => absurd z (by omega)) (fun _ => ⟨hin, nm_r (e' := t) (by rw [ek]; exact h2.1) (br_f (by decide) (br_t rfl (sX post _ ?_)))⟩)
        refine br_f (by decide) (br_t h5n.1 (nm_r (nI_1 ni) (pk_le (ni + 1) 4 (fun z => absurd z (by omega)) (fun _ => hp))))
      · obtain ⟨n, rfl⟩ : ∃ n', n = n' + 1 := ⟨n - 1, by omega⟩
        refine pk_le N k (fun z => absurd z (by omega)) (fun _ => ⟨hin2, nm_r (e' := tk_kR t) (by rw [ec2]; exact h3.1.1) ⟨hin2, nm_r (e' := tk_vR t) (by rw [ec2]; exact h3.1.2) (br_f (nI_ne0 (by omega) (by omega)) (br_f (nI_ne0 (by omega) (by omega)) (sY post _ ?_)))⟩⟩)
        obtain ⟨q1, q2⟩ := h9t.mpr h5n.1
        exact br_f (by decide) (br_t q1 (br_t q2 (nm_r (nI_1 ni) (br_t (by rw [h5n.2]; rfl) hp))))
    · -- on to the next token
      have hni' : ∃ ni', ni' = ni + (if t = 9 then 1 else 0) ∧ ni' ≤ 4 := by
        refine ⟨_, rfl, ?_⟩
        by_cases e : t = 9
        · rw [if_pos e]
          have : ni ≠ 4 := fun z => h5n ⟨e, z⟩
          omega
        · rw [if_neg e]; omega
      obtain ⟨ni', en, hni4⟩ := hni'
      have stepX : ∀ (post : Int32 → Prop) (J : Int32 → Int32 → Int32 → Int32 → Int32 → Prop), ((a + tm_ar t = 0 → J (nI 1) (nI 1) (nI ni') seen' (nI (k + 1))) ∧ (a + tm_ar t ≠ 0 → J 0 (nI (a + tm_ar t)) (nI ni') seen' (nI (k + 1)))) → wX_faultOf_119 post J 2 1 0 (nI (a + 1)) (nI ni) seen' (nI k) t 1 (nI N) f_faultPlace f_reportedSteps f_resultSize f_sheetSize f_waitingSize f_builtSize f_unfinished f_taken f_keptSize f_stacked f_ranked f_surveyed a_draft a_result a_lefts a_leftSize a_ways a_rights a_rightSize a_sheet a_waiting a_built a_unfinishedStart a_unfinishedLacks a_kept a_matchStart a_matchEnd a_joint a_unified a_oneStack a_otherStack a_nestedAt a_nestedEnd a_rank a_pairCount a_firstOpen := by
        intro post J hJ
        have tail : wX_faultOf_140 post J 2 1 0 (nI (a + 1)) seen' (nI k) t (if t = 9 then 1 else 0) (nI ni) (nI N) f_faultPlace f_reportedSteps f_resultSize f_sheetSize f_waitingSize f_builtSize f_unfinished f_taken f_keptSize f_stacked f_ranked f_surveyed a_draft a_result a_lefts a_leftSize a_ways a_rights a_rightSize a_sheet a_waiting a_built a_unfinishedStart a_unfinishedLacks a_kept a_matchStart a_matchEnd a_joint a_unified a_oneStack a_otherStack a_nestedAt a_nestedEnd a_rank a_pairCount a_firstOpen := by
          refine nm_r (e' := nI ni') ?_ (pk_le ni' 4 (fun _ => tk_arX t (nm_r (ya_step a _) ?_)) (fun z => absurd z (by omega)))
          · rw [en]
            split
            · exact nI_1 ni
            · exact Int32.add_zero _
          · refine pk_eq (a + tm_ar t) 0 (fun z => nm_r (nI_1 0) (nm_r (nI_1 k) (hJ.1 z))) (fun z => nm_r (nI_1 k) (hJ.2 z))
        refine br_f (by decide) ?_
        by_cases e : t = 9
        · rw [if_pos e] at tail
          exact br_t e tail
        · rw [if_neg e] at tail
          exact br_f e tail
      have stepY : ∀ (post : Int32 → Prop) (J : Int32 → Int32 → Int32 → Int32 → Int32 → Prop), J (nI (a + tm_ar t)) (-1) (nI ni') has' (nI (k + 1)) → wY_unfitRule_138 post J (nI N) (nI (a + 1)) (-1) (nI ni) has' (nI k) (tk_kR t) (tk_vR t) f_place' f_count' f_top' f_done' f_open' f_steps' f_shownSteps' f_fault' f_in' f_made' f_old' f_size' f_heads' f_fresh' a_kind' a_value' a_all' a_split' a_toKind' a_doneKind' a_toValue' a_doneValue' a_begins' a_lacks' a_inKind' a_leftKind' a_madeKind' a_oldKind' a_resultKind' a_inValue' a_leftValue' a_madeValue' a_oldValue' a_resultValue' a_from' a_to' a_whole' a_known' a_bound' a_whose' a_rank' a_one' a_two' a_oneOf' a_twoOf' a_headAt' a_headOf' a_headLeft' a_pairs' a_first' := by
        intro post J hJ
        have tail : wY_unfitRule_166 post J (nI N) (nI (a + 1)) (-1) (nI ni') has' (nI k) (tk_kR t) (tk_vR t) f_place' f_count' f_top' f_done' f_open' f_steps' f_shownSteps' f_fault' f_in' f_made' f_old' f_size' f_heads' f_fresh' a_kind' a_value' a_all' a_split' a_toKind' a_doneKind' a_toValue' a_doneValue' a_begins' a_lacks' a_inKind' a_leftKind' a_madeKind' a_oldKind' a_resultKind' a_inValue' a_leftValue' a_madeValue' a_oldValue' a_resultValue' a_from' a_to' a_whole' a_known' a_bound' a_whose' a_rank' a_one' a_two' a_oneOf' a_twoOf' a_headAt' a_headOf' a_headLeft' a_pairs' a_first' := tk_arR htr (nm_r (ya_step a _) (nm_r (nI_1 k) hJ))
        refine br_f (by decide) ?_
        by_cases e : t = 9
        · obtain ⟨q1, q2⟩ := h9t.mpr e
          have hne : ni ≠ 4 := fun z => h5n ⟨e, z⟩
          rw [if_pos e] at en
          refine br_t q1 (br_t q2 (nm_r (nI_1 ni) (pk_eq (ni + 1) 5 (fun z => absurd z (by omega)) (fun _ => ?_))))
          rw [← en]
          exact tail
        · rw [if_neg e, Nat.add_zero] at en
          rw [en] at tail
          refine br_c (fun q1 => br_c (fun q2 => absurd (h9t.mp ⟨q1, q2⟩) e) (fun _ => tail)) (fun _ => tail)
      have hc9 : ∀ l1 : List Int64, ru_c9 (t :: l1) = (if t = 9 then 1 else 0) + ru_c9 l1 := fun _ => rfl
      by_cases h0 : a + tm_ar t = 0
      · obtain ⟨r, rX, rY, rG⟩ := fb_2 (ni' := nI ni') hN hni4 s1 l (k + 1) 1 1 0 (-1) (by omega) h2.2 h3.2 (fun x hx => h4 x (List.mem_cons.mpr (Or.inr hx))) (Or.inr (Or.inl ⟨rfl, rfl, rfl, rfl⟩)) (by omega)
        refine ⟨r, fun post n hln hp => ?_, fun post n hln hp => ?_, ?_⟩
        · obtain ⟨n, rfl⟩ : ∃ n', n = n' + 1 := ⟨n - 1, by omega⟩
          rw [List.length_cons] at hln
          exact pk_le N k (fun z => absurd z (by omega)) (fun _ => ⟨hin, nm_r (e' := t) (by rw [ek]; exact h2.1) (br_f (by decide) (br_t rfl (sX post _ (stepX post _ ⟨fun _ => rX post n (by omega) hp, fun z => absurd h0 z⟩))))⟩)
        · obtain ⟨n, rfl⟩ : ∃ n', n = n' + 1 := ⟨n - 1, by omega⟩
          rw [List.length_cons] at hln
          refine pk_le N k (fun z => absurd z (by omega)) (fun _ => ⟨hin2, nm_r (e' := tk_kR t) (by rw [ec2]; exact h3.1.1) ⟨hin2, nm_r (e' := tk_vR t) (by rw [ec2]; exact h3.1.2) (br_f (nI_ne0 (by omega) (by omega)) (br_f (nI_ne0 (by omega) (by omega)) (sY post _ (stepY post _ ?_))))⟩⟩)
          rw [h0]
          exact rY post n (by omega) hp
        · rcases rG with ⟨g1, g2, g3⟩ | g
          · refine Or.inl ⟨g1, [t], l, rfl, ?_, ?_, ?_, fun x hx hx' => ?_⟩
            · have : a = 0 ∧ tm_ar t = 0 := by omega
              rw [this.1]
              exact tm_w_1 this.2
            · rw [if_neg (by omega)] at g2; exact g2
            · rw [hc9]
              show ni + ((if t = 9 then 1 else 0) + 0) ≤ 4
              omega
            · have hsl := ru_slot_lt (h4 x (List.mem_cons.mpr (Or.inr hx))) hx'
              rcases (s2 _ hsl).mp (g3 x hx hx') with z | z
              · exact Or.inl z
              · exact Or.inr ⟨t, by simp, z.1, z.2⟩
          · exact Or.inr g
      · obtain ⟨r, rX, rY, rG⟩ := fb_1 hN l (k + 1) (a + tm_ar t) ni' seen' has' (by omega) h2.2 h3.2 (fun x hx => h4 x (List.mem_cons.mpr (Or.inr hx))) (by omega) (by omega) hni4 s1 (fun z => absurd z (by omega))
        refine ⟨r, fun post n hln hp => ?_, fun post n hln hp => ?_, ?_⟩
        · obtain ⟨n, rfl⟩ : ∃ n', n = n' + 1 := ⟨n - 1, by omega⟩
          rw [List.length_cons] at hln
          exact pk_le N k (fun z => absurd z (by omega)) (fun _ => ⟨hin, nm_r (e' := t) (by rw [ek]; exact h2.1) (br_f (by decide) (br_t rfl (sX post _ (stepX post _ ⟨fun z => absurd z h0, fun _ => rX post n (by omega) hp⟩))))⟩)
        · obtain ⟨n, rfl⟩ : ∃ n', n = n' + 1 := ⟨n - 1, by omega⟩
          rw [List.length_cons] at hln
          exact pk_le N k (fun z => absurd z (by omega)) (fun _ => ⟨hin2, nm_r (e' := tk_kR t) (by rw [ec2]; exact h3.1.1) ⟨hin2, nm_r (e' := tk_vR t) (by rw [ec2]; exact h3.1.2) (br_f (nI_ne0 (by omega) (by omega)) (br_f (nI_ne0 (by omega) (by omega)) (sY post _ (stepY post _ (rY post n (by omega) hp)))))⟩⟩)
        · rcases rG with ⟨g1, l1, l2, g2, g3, g4, g5, g6⟩ | g
          · refine Or.inl ⟨g1, t :: l1, l2, by rw [g2]; rfl, tm_w_cons.mpr g3, g4, ?_, fun x hx hx' => ?_⟩
            · rw [hc9]; omega
            · have hsl := ru_slot_lt (h4 x (List.mem_cons.mpr (Or.inr (by rw [g2]; exact List.mem_append.mpr (Or.inr hx))))) hx'
              rcases g6 x hx hx' with z | ⟨s, z1, z2, z3⟩
              · rcases (s2 _ hsl).mp z with z | z
                · exact Or.inl z
                · exact Or.inr ⟨t, by simp, z.1, z.2⟩
              · exact Or.inr ⟨s, by simp [z1], z2, z3⟩
          · exact Or.inr g
theorem fb_rule {D : List Int64} (N : Nat) (hN : N = D.length) (hN30 : N ≤ 30) (h2 : hd_h a_draft 0 D) (h3 : hd_y tk_kR tk_vR a_kind' a_value' 240 D) (hall : a_all' 8 = nI N) (h4 : ∀ t, t ∈ D → tk_r t) :
    ∃ r : Int32, (∀ post : Int32 → Prop, post r → wpX_faultOf post (nI N, f_faultPlace, f_reportedSteps, f_resultSize, f_sheetSize, f_waitingSize, f_builtSize, f_unfinished, f_taken, f_keptSize, f_stacked, f_ranked, f_surveyed, a_draft, a_result, a_lefts, a_leftSize, a_ways, a_rights, a_rightSize, a_sheet, a_waiting, a_built, a_unfinishedStart, a_unfinishedLacks, a_kept, a_matchStart, a_matchEnd, a_joint, a_unified, a_oneStack, a_otherStack, a_nestedAt, a_nestedEnd, a_rank, a_pairCount, a_firstOpen) 2 1) ∧ (∀ post : Int32 → Prop, post r → wpY_unfitRule post (f_place', f_count', f_top', f_done', f_open', f_steps', f_shownSteps', f_fault', f_in', f_made', f_old', f_size', f_heads', f_fresh', a_kind', a_value', a_all', a_split', a_toKind', a_doneKind', a_toValue', a_doneValue', a_begins', a_lacks', a_inKind', a_leftKind', a_madeKind', a_oldKind', a_resultKind', a_inValue', a_leftValue', a_madeValue', a_oldValue', a_resultValue', a_from', a_to', a_whole', a_known', a_bound', a_whose', a_rank', a_one', a_two', a_oneOf', a_twoOf', a_headAt', a_headOf', a_headLeft', a_pairs', a_first')) ∧ ((r = -1 ∧ ∃ A B, D = A ++ B ∧ tm_w A 1 ∧ tm_w B 1 ∧ ru_c9 A ≤ 4 ∧ (∃ t l, A = t :: l ∧ t < 4294967296) ∧ ∀ t, t ∈ B → ¬ t < 8589934592 → t ∈ A) ∨ ∃ q, q ≤ 30 ∧ r = nI q) := by
  by_cases h0 : ∀ t r, D = t :: r → t < 4294967296
  · obtain ⟨r, rX, rY, rG⟩ := fb_1 hN30 D 0 1 0 0 0 (by omega) h2 h3 h4 (by omega) (by omega) (by omega) (fun i hi => by rw [b_0, b_0]) (fun _ => h0)
    refine ⟨r, fun post hp => ⟨D.length + 1, rX post _ (by omega) hp⟩, fun post hp => nm_r (e' := nI N) hall ?_, ?_⟩
    · have body : wY_unfitRule_25 post (nI N) f_place' f_count' f_top' f_done' f_open' f_steps' f_shownSteps' f_fault' f_in' f_made' f_old' f_size' f_heads' f_fresh' a_kind' a_value' a_all' a_split' a_toKind' a_doneKind' a_toValue' a_doneValue' a_begins' a_lacks' a_inKind' a_leftKind' a_madeKind' a_oldKind' a_resultKind' a_inValue' a_leftValue' a_madeValue' a_oldValue' a_resultValue' a_from' a_to' a_whole' a_known' a_bound' a_whose' a_rank' a_one' a_two' a_oneOf' a_twoOf' a_headAt' a_headOf' a_headLeft' a_pairs' a_first' := ⟨D.length + 1, rY post _ (by omega) hp⟩
      refine br_c (fun _ => body) (fun hz => br_t ?_ body)
      cases D with
      | nil => exact absurd (by rw [hN]; exact Int32.le_refl _) hz
      | cons t l =>
        have ht := h0 t l rfl
        have : a_kind' 240 = tk_kR t := h3.1.1
        rw [this]
        unfold tk_kR
        rw [if_pos ht]
    · rcases rG with ⟨g1, l1, l2, g2, g3, g4, g5, g6⟩ | g
      · refine Or.inl ⟨g1, l1, l2, g2, g3, g4, by omega, ?_, fun t ht ht' => ?_⟩
        · obtain ⟨t, l, e, _⟩ := tm_w_pos g3
          exact ⟨t, l, e, h0 t (l ++ l2) (by rw [g2, e]; rfl)⟩
        · rcases g6 t ht ht' with z | ⟨s, z1, z2, z3⟩
          · rw [b_0] at z; exact absurd z (by decide)
          · have := fb_slot_inj (h4 s (by rw [g2]; exact List.mem_append.mpr (Or.inl z1))) (h4 t (by rw [g2]; exact List.mem_append.mpr (Or.inr ht))) z2 ht' z3
            rw [← this]; exact z1
      · exact Or.inr g
  · obtain ⟨t, l, e, hnt⟩ : ∃ t l, D = t :: l ∧ ¬ t < 4294967296 := by
      cases D with
      | nil => exact absurd (fun t r z => absurd z (by simp)) h0
      | cons t l => exact ⟨t, l, rfl, fun z => h0 (fun t' r' q => by injection q with q1 _; rw [← q1]; exact z)⟩
    subst e
    rw [List.length_cons] at hN
    refine ⟨nI 0, fun post hp => ⟨1, ?_⟩, fun post hp => nm_r (e' := nI N) hall ?_, Or.inr ⟨0, by omega, rfl⟩⟩
    · refine pk_le N 0 (fun z => absurd z (by omega)) (fun _ => ⟨vp_in_nI (n := 0) (by decide) (by decide), nm_r (e' := t) h2.1 (br_f (by decide) (br_t rfl (br_f (by decide) (br_f (by decide) (br_t rfl (br_f hnt hp))))))⟩)
    · refine pk_le N 0 (fun z => absurd z (by omega)) (fun _ => br_f ?_ hp)
      have : a_kind' 240 = tk_kR t := h3.1.1
      rw [this]
      unfold tk_kR
      rw [if_neg hnt]
      split
      · decide
      · split <;> decide
end
end
section
/-! the component: a rule is laid down, once for each way -/
section
variable {f_drafted f_faultPlace f_reportedSteps f_resultSize f_sheetSize f_waitingSize f_builtSize f_unfinished f_taken f_keptSize f_stacked f_ranked f_surveyed : Int32} {a_draft a_result a_lefts a_rights a_sheet a_waiting a_built a_kept a_joint : Nat → Int64} {a_leftSize a_ways a_rightSize a_unfinishedStart a_unfinishedLacks a_matchStart a_matchEnd a_unified a_oneStack a_otherStack a_nestedAt a_nestedEnd a_rank a_pairCount a_firstOpen : Nat → Int32}
theorem xs_51 {post : SX → Prop} {o : List Int64} {fr : Nat} {le0 : Nat → Int64} (ho : o.length ≤ 29) (how : ∃ m, tm_w o m) (hfr : fr + o.length ≤ 3840) (hD : hd_h a_draft 0 o) (w : Nat) (hw : w < 65536) (H : ∀ ss zs le, hd_h le fr (ru_wy o w).1 → hd_o le0 le fr o.length → post (f_drafted, f_faultPlace, f_reportedSteps, f_resultSize, ss, f_waitingSize, f_builtSize, f_unfinished, f_taken, f_keptSize, f_stacked, f_ranked, f_surveyed, a_draft, a_result, le, a_leftSize, a_ways, a_rights, a_rightSize, zs, a_waiting, a_built, a_unfinishedStart, a_unfinishedLacks, a_kept, a_matchStart, a_matchEnd, a_joint, a_unified, a_oneStack, a_otherStack, a_nestedAt, a_nestedEnd, a_rank, a_pairCount, a_firstOpen)) : ∀ (p l : List Int64) (le : Nat → Int64) (ss : Int32) (zs : Nat → Int64) (n b : Nat) (x6 : Int32), o = p.reverse ++ l → b = (ru_wy l w).2 → x6 = nI p.length + (-1) → hd_h le fr (p.reverse ++ (ru_wy l w).1) → hd_o le0 le fr o.length → p.length < n → wX_storeWay_51 post (nI o.length) (nI fr) n (nI b) x6 f_drafted f_faultPlace f_reportedSteps f_resultSize ss f_waitingSize f_builtSize f_unfinished f_taken f_keptSize f_stacked f_ranked f_surveyed a_draft a_result le a_leftSize a_ways a_rights a_rightSize zs a_waiting a_built a_unfinishedStart a_unfinishedLacks a_kept a_matchStart a_matchEnd a_joint a_unified a_oneStack a_otherStack a_nestedAt a_nestedEnd a_rank a_pairCount a_firstOpen
  | [], l, le, ss, zs, n, b, x6, e, hb, hx, hh, hoo, hn => by
    obtain ⟨n, rfl⟩ : ∃ n', n = n' + 1 := ⟨n - 1, by omega⟩
    subst hx
    rw [List.reverse_nil, List.nil_append] at e hh
    subst e
    exact br_t (by decide) (H ss zs le hh hoo)
  | t :: p, l, le, ss, zs, n, b, x6, e, hb, hx, hh, hoo, hn => by
    obtain ⟨n, rfl⟩ : ∃ n', n = n' + 1 := ⟨n - 1, by omega⟩
    rw [List.length_cons] at hn hx
    rw [pk_m1] at hx
    subst hx
    rw [List.reverse_cons, List.append_assoc] at e hh
    have hlen : o.length = p.length + (l.length + 1) := by rw [e]; simp
    have hin : vp_in (nI p.length) 30 := vp_in_nI (by omega) (by omega)
    have ed : a_draft (nI p.length).toNatClampNeg = t := by
      rw [nI_clamp (by omega)]
      have hh2 := hD
      rw [e] at hh2
      have := (hd_app.mp hh2).2.1
      rwa [Nat.zero_add, List.length_reverse] at this
    have hbb : b = w / 2 ^ ru_c9 l := by rw [hb, ru_wy_bits]
    have hb16 : b < 65536 := by rw [hbb]; exact Nat.lt_of_le_of_lt (Nat.div_le_self _ _) hw
    refine br_f (nI_pos (by omega)) ⟨hin, ?_⟩
    rw [ed]
    by_cases h9 : t = 9
    · subst h9
      refine br_t rfl ?_
      have eb1 : nI b &&& 1 = nI (b % 2) := pk_andN (n := b) (by omega) 1 rfl
      have esh : nI b >>> ((1 : Int32) &&& 31) = nI (b / 2) := pk_shrN (by omega) _ 1 (by decide)
      have hb2 : b / 2 = (ru_wy (9 :: l) w).2 := by rw [ru_wy_9, hb]
      refine pk_eq (b % 2) 1 (fun h1 => ?_) (fun h1 => ?_) eb1 rfl
      · have how2 := how
        obtain ⟨m, hm⟩ := how2
        rw [e] at hm
        obtain ⟨m', hm'⟩ := tm_w_suf _ _ _ hm
        obtain ⟨k, rfl, hm2⟩ := tm_w_ne (show tm_w (9 :: l) m' from hm')
        rw [ru_ar9] at hm2
        obtain ⟨A, B, q, e2, hA, hB, _⟩ := tm_2 (ru_wy_w l w _ hm2)
        have hsw : tm_sw (ru_wy l w).1 = B ++ (A ++ q) := by rw [e2]; exact tm_sw_eq hA hB
        have hlw := ru_wy_len l w
        rw [e2, List.length_append, List.length_append] at hlw
        have hh3 : hd_h le (fr + p.length + 1) (A ++ (B ++ q)) := by
          have := (hd_app.mp hh).2.2
          rw [List.length_reverse] at this
          rw [← e2]
          exact this
        rw [nI_add, nI_add]
        refine xx_lefts (r := q) (fr + p.length) (fr + o.length) hA hB hh3 (by omega) hfr (by omega) (fun zs' le' g1 g2 => ?_)
        refine nm_r esh (nm_e ?_)
        refine xs_51 ho how hfr hD w hw H p (9 :: l) le' _ zs' n (b / 2) _ e hb2 rfl ?_ ?_ (by omega)
        · rw [ru_wy_9, if_pos (by rw [← hb]; exact h1), hsw]
          refine hd_app.mpr ⟨hd_keepl g2 (hd_app.mp hh).1 (by rw [List.length_reverse]; omega), ?_, ?_⟩
          · rw [List.length_reverse, g2 (fr + p.length) (Or.inl (by omega))]
            have := (hd_app.mp hh).2.1
            rw [List.length_reverse] at this
            exact this
          · rw [List.length_reverse, ← List.append_assoc]
            refine hd_app.mpr ⟨g1, ?_⟩
            have h5 : hd_h le (fr + p.length + 1 + (B ++ A).length) q := by
              have := (hd_app.mp (hd_app.mp hh3).2).2
              rw [List.length_append, show fr + p.length + 1 + (B.length + A.length) = fr + p.length + 1 + A.length + B.length by omega]
              exact this
            exact hd_keepr g2 h5 (by omega)
        · intro j hj
          rw [g2 j (by rw [List.length_append]; omega)]
          exact hoo j hj
      · refine nm_r esh (nm_e ?_)
        refine xs_51 ho how hfr hD w hw H p (9 :: l) le ss zs n (b / 2) _ e hb2 rfl ?_ hoo (by omega)
        rw [ru_wy_9, if_neg (by rw [← hb]; exact h1)]
        exact hh
    · refine br_f h9 (nm_e ?_)
      have hwn := ru_wy_n (l := l) (b := w) h9
      refine xs_51 ho how hfr hD w hw H p (t :: l) le ss zs n b _ e (by rw [hwn]; exact hb) rfl ?_ hoo (by omega)
      rw [hwn]
      exact hh
theorem xs_14 {post : SX → Prop} {x2 : Int32} {N fr : Nat} {le0 : Nat → Int64} (hN : N ≤ 30) (hfr : fr + N ≤ 3840) : ∀ (l q : List Int64) (le : Nat → Int64) (n k : Nat), k = q.length → k + l.length = N → hd_h a_draft k l → hd_h le fr q → hd_o le0 le fr N → l.length < n → (∀ le', hd_h le' fr (q ++ l) → hd_o le0 le' fr N → ∀ y, y = nI N - 1 → ∃ n51, wX_storeWay_51 post (nI N) (nI fr) n51 x2 y f_drafted f_faultPlace f_reportedSteps f_resultSize f_sheetSize f_waitingSize f_builtSize f_unfinished f_taken f_keptSize f_stacked f_ranked f_surveyed a_draft a_result le' a_leftSize a_ways a_rights a_rightSize a_sheet a_waiting a_built a_unfinishedStart a_unfinishedLacks a_kept a_matchStart a_matchEnd a_joint a_unified a_oneStack a_otherStack a_nestedAt a_nestedEnd a_rank a_pairCount a_firstOpen) → wX_storeWay_14 post x2 (nI N) (nI fr) f_drafted f_faultPlace f_reportedSteps f_resultSize f_sheetSize f_waitingSize f_builtSize f_unfinished f_taken f_keptSize f_stacked f_ranked f_surveyed n (nI k) a_draft a_result le a_leftSize a_ways a_rights a_rightSize a_sheet a_waiting a_built a_unfinishedStart a_unfinishedLacks a_kept a_matchStart a_matchEnd a_joint a_unified a_oneStack a_otherStack a_nestedAt a_nestedEnd a_rank a_pairCount a_firstOpen
  | [], q, le, n, k, hk, h1, h2, h3, ho, hn, H => by
    obtain ⟨n, rfl⟩ : ∃ n', n = n' + 1 := ⟨n - 1, by omega⟩
    rw [List.length_nil] at h1
    rw [List.append_nil] at H
    exact pk_le N k (fun _ => H le h3 ho) (fun z => absurd z (by omega))
  | t :: l, q, le, n, k, hk, h1, h2, h3, ho, hn, H => by
    obtain ⟨n, rfl⟩ : ∃ n', n = n' + 1 := ⟨n - 1, by omega⟩
    rw [List.length_cons] at h1 hn
    have ei : nI fr + nI k = nI (fr + k) := nI_add _ _
    have hin2 : vp_in (nI fr + nI k) 3840 := by rw [ei]; exact vp_in_nI (by omega) (by omega)
    have hin : vp_in (nI k) 30 := vp_in_nI (by omega) (by omega)
    have e3 : q ++ t :: l = (q ++ [t]) ++ l := by rw [List.append_assoc]; rfl
    rw [e3] at H
    refine pk_le N k (fun z => absurd z (by omega)) (fun _ => ⟨hin, hin2, nm_r (e' := vp_updL le (fr + k) t) (by rw [ei, nI_clamp (by omega), nI_clamp (by omega), h2.1]) (nm_r (nI_1 k) ?_)⟩)
    refine xs_14 hN hfr l (q ++ [t]) _ n (k + 1) (by simp; omega) (by omega) h2.2 ?_ ?_ (by omega) H
    · rw [hk]; exact hd_snocL h3
    · intro j hj
      rw [pk_uLn (by omega)]
      exact ho j hj
theorem xs_way {post : SX → Prop} {o : List Int64} (r w N : Nat) (hr : r < 8) (hw : w < 16) (hN : N = o.length) (ho : o.length ≤ 29) (how : ∃ m, tm_w o m) (hD : hd_h a_draft 0 o) (H : ∀ ss zs le, hd_h le ((r * 16 + w) * 30) (ru_wy o w).1 → hd_o a_lefts le ((r * 16 + w) * 30) o.length → post (f_drafted, f_faultPlace, f_reportedSteps, f_resultSize, ss, f_waitingSize, f_builtSize, f_unfinished, f_taken, f_keptSize, f_stacked, f_ranked, f_surveyed, a_draft, a_result, le, a_leftSize, a_ways, a_rights, a_rightSize, zs, a_waiting, a_built, a_unfinishedStart, a_unfinishedLacks, a_kept, a_matchStart, a_matchEnd, a_joint, a_unified, a_oneStack, a_otherStack, a_nestedAt, a_nestedEnd, a_rank, a_pairCount, a_firstOpen)) : wpX_storeWay post (f_drafted, f_faultPlace, f_reportedSteps, f_resultSize, f_sheetSize, f_waitingSize, f_builtSize, f_unfinished, f_taken, f_keptSize, f_stacked, f_ranked, f_surveyed, a_draft, a_result, a_lefts, a_leftSize, a_ways, a_rights, a_rightSize, a_sheet, a_waiting, a_built, a_unfinishedStart, a_unfinishedLacks, a_kept, a_matchStart, a_matchEnd, a_joint, a_unified, a_oneStack, a_otherStack, a_nestedAt, a_nestedEnd, a_rank, a_pairCount, a_firstOpen) (nI r) (nI w) (nI N) := by
  subst hN
  refine nm_r (e' := nI ((r * 16 + w) * 30)) ?_ ⟨o.length + 1, ?_⟩
  · rw [show (16 : Int32) = nI 16 from rfl, show (30 : Int32) = nI 30 from rfl, pk_mul, nI_add, pk_mul]
  · rw [← nI_0]
    refine xs_14 (le0 := a_lefts) (by omega) (by omega) o [] a_lefts _ 0 rfl (by omega) hD trivial (fun j _ => rfl) (by omega) (fun le' g1 g2 => nm_r (Int32.sub_eq_add_neg _ _) ⟨o.length + 1, ?_⟩)
    rw [List.nil_append] at g1
    have hg : hd_h le' ((r * 16 + w) * 30) (o.reverse.reverse ++ (ru_wy [] w).1) := by rw [List.reverse_reverse]; show hd_h _ _ (o ++ []); rw [List.append_nil]; exact g1
    exact xs_51 ho how (by omega) hD w (by omega) H o.reverse [] le' _ _ _ w _ (by rw [List.reverse_reverse, List.append_nil]) rfl (by rw [List.length_reverse]) hg g2 (by rw [List.length_reverse]; omega)
theorem xs_61 {post : SX → Prop} {o : List Int64} {r N K : Nat} {le0 : Nat → Int64} (hr : r < 8) (hN : N = o.length) (ho : o.length ≤ 29) (how : ∃ m, tm_w o m) (hD : hd_h a_draft 0 o) (hK : K ≤ 16) (H : ∀ ss zs le, (∀ w, w < K → hd_h le ((r * 16 + w) * 30) (ru_wy o w).1) → (∀ j, (j < r * 480 ∨ r * 480 + 480 ≤ j) → le j = le0 j) → ∃ n84, wX_storeRule_84 post (nI r) (nI N) (nI K) f_drafted f_faultPlace f_reportedSteps f_resultSize ss f_waitingSize f_builtSize f_unfinished f_taken f_keptSize f_stacked f_ranked f_surveyed n84 (nI N) a_draft a_result le a_leftSize a_ways a_rights a_rightSize zs a_waiting a_built a_unfinishedStart a_unfinishedLacks a_kept a_matchStart a_matchEnd a_joint a_unified a_oneStack a_otherStack a_nestedAt a_nestedEnd a_rank a_pairCount a_firstOpen) : ∀ (d k n : Nat) (ss : Int32) (zs le : Nat → Int64), k + d = K → (∀ w, w < k → hd_h le ((r * 16 + w) * 30) (ru_wy o w).1) → (∀ j, (j < r * 480 ∨ r * 480 + 480 ≤ j) → le j = le0 j) → d < n → wX_storeRule_61 post (nI r) (nI N) (nI K) n (nI k) f_drafted f_faultPlace f_reportedSteps f_resultSize ss f_waitingSize f_builtSize f_unfinished f_taken f_keptSize f_stacked f_ranked f_surveyed a_draft a_result le a_leftSize a_ways a_rights a_rightSize zs a_waiting a_built a_unfinishedStart a_unfinishedLacks a_kept a_matchStart a_matchEnd a_joint a_unified a_oneStack a_otherStack a_nestedAt a_nestedEnd a_rank a_pairCount a_firstOpen
  | 0, k, n, ss, zs, le, hk, h1, h2, hn => by
    obtain ⟨n, rfl⟩ : ∃ n', n = n' + 1 := ⟨n - 1, by omega⟩
    exact pk_le K k (fun _ => H ss zs le (fun w hw => h1 w (by omega)) h2) (fun z => absurd z (by omega))
  | d + 1, k, n, ss, zs, le, hk, h1, h2, hn => by
    obtain ⟨n, rfl⟩ : ∃ n', n = n' + 1 := ⟨n - 1, by omega⟩
    refine pk_le K k (fun z => absurd z (by omega)) (fun _ => ?_)
    refine xs_way r k N hr (by omega) hN ho how hD (fun ss' zs' le' g1 g2 => nm_r (nI_1 k) ?_)
    refine xs_61 hr hN ho how hD hK H d (k + 1) n ss' zs' le' (by omega) (fun w hw => ?_) (fun j hj => ?_) (by omega)
    · by_cases e : w = k
      · subst e; exact g1
      · have hl := ru_wy_len o w
        exact hd_keepl g2 (h1 w (by omega)) (by rw [hl]; omega)
    · rw [g2 j (by omega)]
      exact h2 j hj
theorem xs_84l {post : SX → Prop} {r N K Dn : Nat} {ri0 : Nat → Int64} {B : List Int64} (hr : r < 8) (hDn : Dn ≤ 30) (hB : N + B.length = Dn) (H : ∀ ri, hd_h ri (r * 30) B → hd_o ri0 ri (r * 30) B.length → post (nI Dn, f_faultPlace, f_reportedSteps, f_resultSize, f_sheetSize, f_waitingSize, f_builtSize, f_unfinished, f_taken, f_keptSize, f_stacked, f_ranked, f_surveyed, a_draft, a_result, a_lefts, upd a_leftSize r (nI N), upd a_ways r (nI K), ri, upd a_rightSize r (nI B.length), a_sheet, a_waiting, a_built, a_unfinishedStart, a_unfinishedLacks, a_kept, a_matchStart, a_matchEnd, a_joint, a_unified, a_oneStack, a_otherStack, a_nestedAt, a_nestedEnd, a_rank, a_pairCount, a_firstOpen)) : ∀ (l q : List Int64) (ri : Nat → Int64) (n k : Nat), B = q ++ l → k = N + q.length → hd_h a_draft k l → hd_h ri (r * 30) q → hd_o ri0 ri (r * 30) B.length → l.length < n → wX_storeRule_84 post (nI r) (nI N) (nI K) (nI Dn) f_faultPlace f_reportedSteps f_resultSize f_sheetSize f_waitingSize f_builtSize f_unfinished f_taken f_keptSize f_stacked f_ranked f_surveyed n (nI k) a_draft a_result a_lefts a_leftSize a_ways ri a_rightSize a_sheet a_waiting a_built a_unfinishedStart a_unfinishedLacks a_kept a_matchStart a_matchEnd a_joint a_unified a_oneStack a_otherStack a_nestedAt a_nestedEnd a_rank a_pairCount a_firstOpen
  | [], q, ri, n, k, e, hk, h2, h3, ho, hn => by
    obtain ⟨n, rfl⟩ : ∃ n', n = n' + 1 := ⟨n - 1, by omega⟩
    rw [List.append_nil] at e
    subst e
    have hin : vp_in (nI r) 8 := vp_in_nI hr (by omega)
    have er : (nI r).toNatClampNeg = r := nI_clamp (by omega)
    refine pk_le Dn k (fun _ => ?_) (fun z => absurd z (by omega))
    refine ⟨hin, nm_r (e' := upd a_leftSize r (nI N)) (by rw [er]) ⟨hin, nm_r (e' := upd a_rightSize r (nI B.length)) ?_ ⟨hin, nm_r (e' := upd a_ways r (nI K)) (by rw [er]) (H ri h3 ho)⟩⟩⟩
    rw [er, pk_sub (by omega), show Dn - N = B.length by omega]
  | t :: l, q, ri, n, k, e, hk, h2, h3, ho, hn => by
    obtain ⟨n, rfl⟩ : ∃ n', n = n' + 1 := ⟨n - 1, by omega⟩
    rw [List.length_cons] at hn
    have hlen : B.length = q.length + (l.length + 1) := by rw [e, List.length_append]; rfl
    have ei : nI r * 30 + nI k - nI N = nI (r * 30 + q.length) := by
      rw [show (30 : Int32) = nI 30 from rfl, pk_mul, nI_add, pk_sub (by omega), show r * 30 + k - N = r * 30 + q.length by omega]
    have hin2 : vp_in (nI r * 30 + nI k - nI N) 240 := by rw [ei]; exact vp_in_nI (by omega) (by omega)
    refine pk_le Dn k (fun z => absurd z (by omega)) (fun _ => ⟨vp_in_nI (by omega) (by omega), hin2, nm_r (e' := vp_updL ri (r * 30 + q.length) t) (by rw [ei, nI_clamp (by omega), nI_clamp (by omega), h2.1]) (nm_r (nI_1 k) ?_)⟩)
    refine xs_84l hr hDn hB H l (q ++ [t]) _ n (k + 1) (by rw [e, List.append_assoc]; rfl) (by simp; omega) h2.2 (hd_snocL h3) ?_ (by omega)
    intro j hj
    rw [pk_uLn (by omega)]
    exact ho j hj
theorem xs_18 {post : SX → Prop} {x1 : Int32} {N : Nat} (hN : N ≤ 30) : ∀ (l : List Int64) (k c n : Nat), k + l.length = N → hd_h a_draft k l → c + ru_c9 l ≤ 4 → l.length < n → (∃ n61, wX_storeRule_61 post x1 (nI N) (nI (2 ^ (c + ru_c9 l))) n61 0 f_drafted f_faultPlace f_reportedSteps f_resultSize f_sheetSize f_waitingSize f_builtSize f_unfinished f_taken f_keptSize f_stacked f_ranked f_surveyed a_draft a_result a_lefts a_leftSize a_ways a_rights a_rightSize a_sheet a_waiting a_built a_unfinishedStart a_unfinishedLacks a_kept a_matchStart a_matchEnd a_joint a_unified a_oneStack a_otherStack a_nestedAt a_nestedEnd a_rank a_pairCount a_firstOpen) → wX_storeRule_18 post x1 (nI N) f_drafted f_faultPlace f_reportedSteps f_resultSize f_sheetSize f_waitingSize f_builtSize f_unfinished f_taken f_keptSize f_stacked f_ranked f_surveyed a_draft a_result a_lefts a_leftSize a_ways a_rights a_rightSize a_sheet a_waiting a_built a_unfinishedStart a_unfinishedLacks a_kept a_matchStart a_matchEnd a_joint a_unified a_oneStack a_otherStack a_nestedAt a_nestedEnd a_rank a_pairCount a_firstOpen n (nI (2 ^ c)) (nI k)
  | [], k, c, n, h1, h2, h3, hn, H => by
    obtain ⟨n, rfl⟩ : ∃ n', n = n' + 1 := ⟨n - 1, by omega⟩
    rw [List.length_nil] at h1
    exact pk_le N k (fun _ => H) (fun z => absurd z (by omega))
  | t :: l, k, c, n, h1, h2, h3, hn, H => by
    obtain ⟨n, rfl⟩ : ∃ n', n = n' + 1 := ⟨n - 1, by omega⟩
    rw [List.length_cons] at h1 hn
    have hc : ru_c9 (t :: l) = (if t = 9 then 1 else 0) + ru_c9 l := rfl
    rw [hc] at h3 H
    refine pk_le N k (fun z => absurd z (by omega)) (fun _ => ⟨vp_in_nI (by omega) (by omega), ?_⟩)
    rw [nI_clamp (by omega), h2.1]
    by_cases h9 : t = 9
    · rw [if_pos h9] at h3 H
      have hp : 2 ^ c ≤ 8 := Nat.le_trans (Nat.pow_le_pow_right (by omega) (show c ≤ 3 by omega)) (by decide)
      refine br_t h9 (pk_le 16 (2 ^ c) (fun z => absurd z (by omega)) (fun _ => nm_r (e' := nI (2 ^ (c + 1))) (by rw [show (2 : Int32) = nI 2 from rfl, pk_mul, Nat.pow_succ]) (nm_r (nI_1 k) ?_)))
      rw [← Nat.add_assoc] at H
      exact xs_18 hN l (k + 1) (c + 1) n (by omega) h2.2 (by omega) (by omega) H
    · rw [if_neg h9, Nat.zero_add] at h3 H
      exact br_f h9 (nm_r (nI_1 k) (xs_18 hN l (k + 1) c n (by omega) h2.2 h3 (by omega) H))
theorem xs_rule {post : SX → Prop} {A B : List Int64} (r Dn : Nat) (hr : r < 8) (hDn : Dn = A.length + B.length) (hDn30 : Dn ≤ 30) (hA : tm_w A 1) (hB : tm_w B 1) (hc : ru_c9 A ≤ 4) (hD : hd_h a_draft 0 (A ++ B)) (H : ∀ ss zs le ri, (∀ w, w < 2 ^ ru_c9 A → hd_h le ((r * 16 + w) * 30) (ru_wy A w).1) → (∀ j, (j < r * 480 ∨ r * 480 + 480 ≤ j) → le j = a_lefts j) → hd_h ri (r * 30) B → hd_o a_rights ri (r * 30) B.length → post (nI Dn, f_faultPlace, f_reportedSteps, f_resultSize, ss, f_waitingSize, f_builtSize, f_unfinished, f_taken, f_keptSize, f_stacked, f_ranked, f_surveyed, a_draft, a_result, le, upd a_leftSize r (nI A.length), upd a_ways r (nI (2 ^ ru_c9 A)), ri, upd a_rightSize r (nI B.length), zs, a_waiting, a_built, a_unfinishedStart, a_unfinishedLacks, a_kept, a_matchStart, a_matchEnd, a_joint, a_unified, a_oneStack, a_otherStack, a_nestedAt, a_nestedEnd, a_rank, a_pairCount, a_firstOpen)) : wpX_storeRule post (nI Dn, f_faultPlace, f_reportedSteps, f_resultSize, f_sheetSize, f_waitingSize, f_builtSize, f_unfinished, f_taken, f_keptSize, f_stacked, f_ranked, f_surveyed, a_draft, a_result, a_lefts, a_leftSize, a_ways, a_rights, a_rightSize, a_sheet, a_waiting, a_built, a_unfinishedStart, a_unfinishedLacks, a_kept, a_matchStart, a_matchEnd, a_joint, a_unified, a_oneStack, a_otherStack, a_nestedAt, a_nestedEnd, a_rank, a_pairCount, a_firstOpen) (nI r) := by
  have hBl := tm_w_len _ _ hB
  obtain ⟨hD1, hD2⟩ := hd_app.mp hD
  rw [Nat.zero_add] at hD2
  unfold wpX_storeRule
  dsimp only
  rw [← nI_0]
  refine xe_draft (a := A) (r := B) 0 Dn A.length hA hD (by omega) (by omega) hDn30 ⟨A.length + 1, ?_⟩
  have h16 : 2 ^ ru_c9 A ≤ 16 := Nat.le_trans (Nat.pow_le_pow_right (by omega) hc) (by decide)
  refine xs_18 (N := A.length) (by omega) A 0 0 _ (by omega) hD1 (by omega) (by omega) ⟨2 ^ ru_c9 A + 1, ?_⟩
  rw [Nat.zero_add, ← nI_0]
  refine xs_61 (le0 := a_lefts) hr rfl (by omega) ⟨1, hA⟩ hD1 h16 (fun ss zs le g1 g2 => ⟨B.length + 1, ?_⟩) (2 ^ ru_c9 A) 0 _ _ _ _ (by omega) (fun w hw => absurd hw (by omega)) (fun j _ => rfl) (by omega)
  exact xs_84l (ri0 := a_rights) hr hDn30 (by omega) (fun ri q1 q2 => H ss zs le ri g1 g2 q1 q2) B [] a_rights _ A.length rfl rfl hD2 trivial (fun j _ => rfl) (by omega)
end
end
section
/-! the relation, and the calls that need little -/
def ir_PX (D Q : List Int64) (L R : Nat → List Int64) (pl st : Int32) (fr : Bool) (pc fo : Nat → Int32) (f_drafted f_faultPlace f_reportedSteps f_resultSize f_surveyed : Int32) (a_draft a_result a_lefts : Nat → Int64) (a_leftSize a_ways : Nat → Int32) (a_rights : Nat → Int64) (a_rightSize a_pairCount a_firstOpen : Nat → Int32) : Prop :=
  f_drafted = nI D.length ∧ hd_h a_draft 0 D ∧ f_faultPlace = pl ∧ f_reportedSteps = st ∧ f_resultSize = nI Q.length ∧ hd_h a_result 0 Q ∧ xr_R L R a_lefts a_leftSize a_ways a_rights a_rightSize ∧ f_surveyed = (if fr = true then 1 else 0) ∧ (fr = true → (∀ k, k < 4 → a_pairCount k = pc k) ∧ ∀ k, k < 3 → a_firstOpen k = fo k)
def ir_PY (D Q : List Int64) (L R : Nat → List Int64) (pl st : Int32) (fr : Bool) (pc fo : Nat → Int32) (f_place f_shownSteps f_size f_fresh : Int32) (a_kind a_value a_all a_split a_resultKind a_resultValue a_pairs a_first : Nat → Int32) : Prop :=
  a_all 8 = nI D.length ∧ hd_y tk_kR tk_vR a_kind a_value 240 D ∧ f_place = pl ∧ f_shownSteps = st ∧ f_size = nI Q.length ∧ hd_y tk_kT tk_vT a_resultKind a_resultValue 0 Q ∧ yr_R L R a_kind a_value a_all a_split ∧ f_fresh = (if fr = true then 1 else 0) ∧ (fr = true → (∀ k, k < 4 → a_pairs k = pc k) ∧ ∀ k, k < 3 → a_first k = fo k)
def ir_G (D Q : List Int64) (L R : Nat → List Int64) : Prop := D.length ≤ 30 ∧ (∀ t, t ∈ D → tk_r t) ∧ Q.length ≤ 30 ∧ (∀ t, t ∈ Q → tk_d t) ∧ mc_G L R
def i_Rel (_ : Nat) (u : SX) (v : SY) : Prop := match u, v with
  | (f_drafted, f_faultPlace, f_reportedSteps, f_resultSize, f_sheetSize, f_waitingSize, f_builtSize, f_unfinished, f_taken, f_keptSize, f_stacked, f_ranked, f_surveyed, a_draft, a_result, a_lefts, a_leftSize, a_ways, a_rights, a_rightSize, a_sheet, a_waiting, a_built, a_unfinishedStart, a_unfinishedLacks, a_kept, a_matchStart, a_matchEnd, a_joint, a_unified, a_oneStack, a_otherStack, a_nestedAt, a_nestedEnd, a_rank, a_pairCount, a_firstOpen), (f_place', f_count', f_top', f_done', f_open', f_steps', f_shownSteps', f_fault', f_in', f_made', f_old', f_size', f_heads', f_fresh', a_kind', a_value', a_all', a_split', a_toKind', a_doneKind', a_toValue', a_doneValue', a_begins', a_lacks', a_inKind', a_leftKind', a_madeKind', a_oldKind', a_resultKind', a_inValue', a_leftValue', a_madeValue', a_oldValue', a_resultValue', a_from', a_to', a_whole', a_known', a_bound', a_whose', a_rank', a_one', a_two', a_oneOf', a_twoOf', a_headAt', a_headOf', a_headLeft', a_pairs', a_first') => ∃ D Q L R pl st fr pc fo, ir_G D Q L R ∧ ir_PX D Q L R pl st fr pc fo f_drafted f_faultPlace f_reportedSteps f_resultSize f_surveyed a_draft a_result a_lefts a_leftSize a_ways a_rights a_rightSize a_pairCount a_firstOpen ∧ ir_PY D Q L R pl st fr pc fo f_place' f_shownSteps' f_size' f_fresh' a_kind' a_value' a_all' a_split' a_resultKind' a_resultValue' a_pairs' a_first'
theorem i_up {k : Nat} {u : SX} {v : SY} (h : i_Rel k u v) : i_Rel (k + 3) u v := h
theorem i_vc0 : wpX_init (fun u => wpY_init (fun v => i_Rel 0 u v)) := by
  refine ⟨[], [], fun _ => [], fun _ => [], -1, 0, false, fun _ => 0, fun _ => 0, ⟨by simp, by simp, by simp, by simp, fun r => Or.inl rfl⟩, ⟨rfl, trivial, rfl, rfl, rfl, trivial, fun r hr => ⟨⟨0, 0, rfl, rfl, by omega, by omega⟩, fun _ => rfl, fun z => absurd rfl z⟩, rfl, fun z => absurd z (by decide)⟩, ⟨rfl, trivial, rfl, rfl, rfl, trivial, fun r hr => ⟨fun _ => rfl, fun z => absurd rfl z⟩, rfl, fun z => absurd z (by decide)⟩⟩
theorem tk_tok {j : Nat} (hj : j ≤ 3) (p : Int32) (h0 : j = 0 → p.toBitVec.toNat < 12) (h2 : 2 ≤ j → p.toBitVec.toNat < 4) : tk_r ((nI j).toInt64 * 4294967296 + (p.toInt64 &&& 4294967295)) ∧ tk_kR ((nI j).toInt64 * 4294967296 + (p.toInt64 &&& 4294967295)) = nI j ∧ tk_vR ((nI j).toInt64 * 4294967296 + (p.toInt64 &&& 4294967295)) = p := by
  have hp := p.toBitVec.isLt
  have e : (nI j).toInt64 * 4294967296 + (p.toInt64 &&& 4294967295) = lN (j * 4294967296 + p.toBitVec.toNat) := by
    rw [tk_low, nI_l (by omega), show (4294967296 : Int64) = lN 4294967296 from rfl, lN_mul, lN_add]
  rw [e]
  have hv : tk_vR (lN (j * 4294967296 + p.toBitVec.toNat)) = p := by
    unfold tk_vR
    rw [lN_i, show j * 4294967296 + p.toBitVec.toNat = p.toBitVec.toNat + 4294967296 * j by omega, tk_wrap, tk_nn]
  refine ⟨?_, ?_, hv⟩
  · refine ⟨_, rfl, ?_⟩
    by_cases e0 : j = 0
    · have := h0 e0; omega
    · by_cases e1 : j = 1
      · omega
      · have := h2 (by omega); omega
  · unfold tk_kR
    have l1 : lN (j * 4294967296 + p.toBitVec.toNat) < 4294967296 ↔ j * 4294967296 + p.toBitVec.toNat < 4294967296 := tk_lt 4294967296 (by omega)
    have l2 : lN (j * 4294967296 + p.toBitVec.toNat) < 8589934592 ↔ j * 4294967296 + p.toBitVec.toNat < 8589934592 := tk_lt 8589934592 (by omega)
    have l3 : lN (j * 4294967296 + p.toBitVec.toNat) < 12884901888 ↔ j * 4294967296 + p.toBitVec.toNat < 12884901888 := tk_lt 12884901888 (by omega)
    by_cases e0 : j = 0
    · rw [if_pos (l1.mpr (by omega)), e0]; rfl
    · rw [if_neg (by rw [l1]; omega)]
      by_cases e1 : j = 1
      · rw [if_pos (l2.mpr (by omega)), e1]; rfl
      · rw [if_neg (by rw [l2]; omega)]
        by_cases e2 : j = 2
        · rw [if_pos (l3.mpr (by omega)), e2]; rfl
        · rw [if_neg (by rw [l3]; omega), show j = 3 by omega]; rfl
theorem i_vc_wipe {k : Nat} {u : SX} {v : SY} (I : i_Rel k u v) (hk : k + 3 ≤ 1536) : wpX_wipe (fun r u' => wpY_wipe (fun r' v' => r' = r ∧ i_Rel (k + 3) u' v') v) u := by
  obtain ⟨f_drafted, f_faultPlace, f_reportedSteps, f_resultSize, f_sheetSize, f_waitingSize, f_builtSize, f_unfinished, f_taken, f_keptSize, f_stacked, f_ranked, f_surveyed, a_draft, a_result, a_lefts, a_leftSize, a_ways, a_rights, a_rightSize, a_sheet, a_waiting, a_built, a_unfinishedStart, a_unfinishedLacks, a_kept, a_matchStart, a_matchEnd, a_joint, a_unified, a_oneStack, a_otherStack, a_nestedAt, a_nestedEnd, a_rank, a_pairCount, a_firstOpen⟩ := u
  obtain ⟨f_place', f_count', f_top', f_done', f_open', f_steps', f_shownSteps', f_fault', f_in', f_made', f_old', f_size', f_heads', f_fresh', a_kind', a_value', a_all', a_split', a_toKind', a_doneKind', a_toValue', a_doneValue', a_begins', a_lacks', a_inKind', a_leftKind', a_madeKind', a_oldKind', a_resultKind', a_inValue', a_leftValue', a_madeValue', a_oldValue', a_resultValue', a_from', a_to', a_whole', a_known', a_bound', a_whose', a_rank', a_one', a_two', a_oneOf', a_twoOf', a_headAt', a_headOf', a_headLeft', a_pairs', a_first'⟩ := v
  obtain ⟨D, Q, L, R, pl, st, fr, pc, fo, hG, ⟨x1, x2, x3, x4, x5, x6, x7, x8, x9⟩, ⟨y1, y2, y3, y4, y5, y6, y7, y8, y9⟩⟩ := I
  refine nm_e (nm_r (e' := upd a_all' 8 0) (by rw [vp_nar_byte]; rfl) ⟨y1.trans x1.symm, ?_⟩)
  refine ⟨[], Q, L, R, pl, st, fr, pc, fo, ⟨by simp, by simp, hG.2.2.1, hG.2.2.2.1, hG.2.2.2.2⟩, ⟨rfl, trivial, x3, x4, x5, x6, x7, x8, x9⟩, ⟨pk_us, trivial, y3, y4, y5, y6, fun r hr => ?_, y8, y9⟩⟩
  obtain ⟨q1, q2⟩ := y7 r hr
  rw [pk_un (by omega)]
  exact ⟨q1, q2⟩
theorem i_vc_place {k : Nat} {u : SX} {v : SY} (I : i_Rel k u v) (hk : k + 3 ≤ 1536) : wpX_place (fun r => wpY_place (fun r' => r' = r ∧ i_Rel (k + 3) u v) v) u := by
  obtain ⟨f_drafted, f_faultPlace, f_reportedSteps, f_resultSize, f_sheetSize, f_waitingSize, f_builtSize, f_unfinished, f_taken, f_keptSize, f_stacked, f_ranked, f_surveyed, a_draft, a_result, a_lefts, a_leftSize, a_ways, a_rights, a_rightSize, a_sheet, a_waiting, a_built, a_unfinishedStart, a_unfinishedLacks, a_kept, a_matchStart, a_matchEnd, a_joint, a_unified, a_oneStack, a_otherStack, a_nestedAt, a_nestedEnd, a_rank, a_pairCount, a_firstOpen⟩ := u
  obtain ⟨f_place', f_count', f_top', f_done', f_open', f_steps', f_shownSteps', f_fault', f_in', f_made', f_old', f_size', f_heads', f_fresh', a_kind', a_value', a_all', a_split', a_toKind', a_doneKind', a_toValue', a_doneValue', a_begins', a_lacks', a_inKind', a_leftKind', a_madeKind', a_oldKind', a_resultKind', a_inValue', a_leftValue', a_madeValue', a_oldValue', a_resultValue', a_from', a_to', a_whole', a_known', a_bound', a_whose', a_rank', a_one', a_two', a_oneOf', a_twoOf', a_headAt', a_headOf', a_headLeft', a_pairs', a_first'⟩ := v
  have J := I
  obtain ⟨D, Q, L, R, pl, st, fr, pc, fo, hG, ⟨x1, x2, x3, x4, x5, x6, x7, x8, x9⟩, ⟨y1, y2, y3, y4, y5, y6, y7, y8, y9⟩⟩ := I
  exact ⟨y3.trans x3.symm, J⟩
theorem i_vc_steps {k : Nat} {u : SX} {v : SY} (I : i_Rel k u v) (hk : k + 3 ≤ 1536) : wpX_steps (fun r => wpY_steps (fun r' => r' = r ∧ i_Rel (k + 3) u v) v) u := by
  obtain ⟨f_drafted, f_faultPlace, f_reportedSteps, f_resultSize, f_sheetSize, f_waitingSize, f_builtSize, f_unfinished, f_taken, f_keptSize, f_stacked, f_ranked, f_surveyed, a_draft, a_result, a_lefts, a_leftSize, a_ways, a_rights, a_rightSize, a_sheet, a_waiting, a_built, a_unfinishedStart, a_unfinishedLacks, a_kept, a_matchStart, a_matchEnd, a_joint, a_unified, a_oneStack, a_otherStack, a_nestedAt, a_nestedEnd, a_rank, a_pairCount, a_firstOpen⟩ := u
  obtain ⟨f_place', f_count', f_top', f_done', f_open', f_steps', f_shownSteps', f_fault', f_in', f_made', f_old', f_size', f_heads', f_fresh', a_kind', a_value', a_all', a_split', a_toKind', a_doneKind', a_toValue', a_doneValue', a_begins', a_lacks', a_inKind', a_leftKind', a_madeKind', a_oldKind', a_resultKind', a_inValue', a_leftValue', a_madeValue', a_oldValue', a_resultValue', a_from', a_to', a_whole', a_known', a_bound', a_whose', a_rank', a_one', a_two', a_oneOf', a_twoOf', a_headAt', a_headOf', a_headLeft', a_pairs', a_first'⟩ := v
  have J := I
  obtain ⟨D, Q, L, R, pl, st, fr, pc, fo, hG, ⟨x1, x2, x3, x4, x5, x6, x7, x8, x9⟩, ⟨y1, y2, y3, y4, y5, y6, y7, y8, y9⟩⟩ := I
  exact ⟨y4.trans x4.symm, J⟩
theorem i_vc_size {k : Nat} {u : SX} {v : SY} (I : i_Rel k u v) (hk : k + 3 ≤ 1536) : wpX_size (fun r => wpY_size (fun r' => r' = r ∧ i_Rel (k + 3) u v) v) u := by
  obtain ⟨f_drafted, f_faultPlace, f_reportedSteps, f_resultSize, f_sheetSize, f_waitingSize, f_builtSize, f_unfinished, f_taken, f_keptSize, f_stacked, f_ranked, f_surveyed, a_draft, a_result, a_lefts, a_leftSize, a_ways, a_rights, a_rightSize, a_sheet, a_waiting, a_built, a_unfinishedStart, a_unfinishedLacks, a_kept, a_matchStart, a_matchEnd, a_joint, a_unified, a_oneStack, a_otherStack, a_nestedAt, a_nestedEnd, a_rank, a_pairCount, a_firstOpen⟩ := u
  obtain ⟨f_place', f_count', f_top', f_done', f_open', f_steps', f_shownSteps', f_fault', f_in', f_made', f_old', f_size', f_heads', f_fresh', a_kind', a_value', a_all', a_split', a_toKind', a_doneKind', a_toValue', a_doneValue', a_begins', a_lacks', a_inKind', a_leftKind', a_madeKind', a_oldKind', a_resultKind', a_inValue', a_leftValue', a_madeValue', a_oldValue', a_resultValue', a_from', a_to', a_whole', a_known', a_bound', a_whose', a_rank', a_one', a_two', a_oneOf', a_twoOf', a_headAt', a_headOf', a_headLeft', a_pairs', a_first'⟩ := v
  have J := I
  obtain ⟨D, Q, L, R, pl, st, fr, pc, fo, hG, ⟨x1, x2, x3, x4, x5, x6, x7, x8, x9⟩, ⟨y1, y2, y3, y4, y5, y6, y7, y8, y9⟩⟩ := I
  exact ⟨y5.trans x5.symm, J⟩
theorem tk_show {t : Int64} (h : tk_d t) : ((tk_kT t).toInt64 <<< ((32 : Int32).toInt64 &&& 63)) + ((tk_vT t).toInt64 &&& 4294967295) = t := by
  obtain ⟨n, rfl, hn⟩ := h
  rw [tk_low]
  by_cases h12 : n < 12
  · obtain ⟨h1, h2⟩ := tk_T_sym h12
    rw [h1, h2, pk_tn (by omega)]
    have : (0 : Int32).toInt64 <<< ((32 : Int32).toInt64 &&& 63) = lN 0 := by decide
    rw [this, lN_add, Nat.zero_add]
  · obtain ⟨h1, h2⟩ := tk_T_num (n := n) (by omega) (by omega)
    rw [h1, h2]
    have : (1 : Int32).toInt64 <<< ((32 : Int32).toInt64 &&& 63) = lN 4294967296 := by decide
    have e : (nI n).toBitVec.toNat = n % 4294967296 := rfl
    rw [this, e, lN_add]
    congr 1
    omega
theorem i_vc_at {k : Nat} {u : SX} {v : SY} (I : i_Rel k u v) (hk : k + 3 ≤ 1536) (v1 : Int32) : wpX_at (fun r => wpY_at (fun r' => r' = r ∧ i_Rel (k + 3) u v) v v1) u v1 := by
  obtain ⟨f_drafted, f_faultPlace, f_reportedSteps, f_resultSize, f_sheetSize, f_waitingSize, f_builtSize, f_unfinished, f_taken, f_keptSize, f_stacked, f_ranked, f_surveyed, a_draft, a_result, a_lefts, a_leftSize, a_ways, a_rights, a_rightSize, a_sheet, a_waiting, a_built, a_unfinishedStart, a_unfinishedLacks, a_kept, a_matchStart, a_matchEnd, a_joint, a_unified, a_oneStack, a_otherStack, a_nestedAt, a_nestedEnd, a_rank, a_pairCount, a_firstOpen⟩ := u
  obtain ⟨f_place', f_count', f_top', f_done', f_open', f_steps', f_shownSteps', f_fault', f_in', f_made', f_old', f_size', f_heads', f_fresh', a_kind', a_value', a_all', a_split', a_toKind', a_doneKind', a_toValue', a_doneValue', a_begins', a_lacks', a_inKind', a_leftKind', a_madeKind', a_oldKind', a_resultKind', a_inValue', a_leftValue', a_madeValue', a_oldValue', a_resultValue', a_from', a_to', a_whole', a_known', a_bound', a_whose', a_rank', a_one', a_two', a_oneOf', a_twoOf', a_headAt', a_headOf', a_headLeft', a_pairs', a_first'⟩ := v
  have J := I
  obtain ⟨D, Q, L, R, pl, st, fr, pc, fo, hG, ⟨x1, x2, x3, x4, x5, x6, x7, x8, x9⟩, ⟨y1, y2, y3, y4, y5, y6, y7, y8, y9⟩⟩ := I
  subst x5 y5
  have hQ := hG.2.2.1
  by_cases h0 : v1 < 0
  · exact br_t h0 (br_t h0 ⟨rfl, J⟩)
  · obtain ⟨j, hj, rfl⟩ := nI_of h0
    refine br_f h0 (pk_le Q.length j (fun hq => br_f h0 (pk_lt j Q.length (fun z => absurd z (by omega)) (fun _ => ⟨rfl, J⟩))) (fun hq => ?_))
    refine pk_lt j 30 (fun h30 => ⟨vp_in_nI h30 (by omega), ?_⟩) (fun z => absurd z (by omega))
    have hin : vp_in (nI j) 32 := vp_in_nI (by omega) (by omega)
    refine br_f h0 (pk_lt j Q.length (fun _ => ⟨hin, hin, ?_, J⟩) (fun z => absurd z (by omega)))
    rw [nI_clamp (by omega)]
    have e1 := hd_get x6 hq
    have e2 := hy_get y6 hq
    rw [Nat.zero_add] at e1 e2
    rw [e1, e2.1, e2.2]
    exact tk_show (hG.2.2.2.1 _ (List.getElem_mem hq))
theorem i_vc_token {k : Nat} {u : SX} {v : SY} (I : i_Rel k u v) (hk : k + 3 ≤ 1536) (v1 : Int32) (v2 : Int32) : wpX_token (fun r u' => wpY_token (fun r' v' => r' = r ∧ i_Rel (k + 3) u' v') v v1 v2) u v1 v2 := by
  obtain ⟨f_drafted, f_faultPlace, f_reportedSteps, f_resultSize, f_sheetSize, f_waitingSize, f_builtSize, f_unfinished, f_taken, f_keptSize, f_stacked, f_ranked, f_surveyed, a_draft, a_result, a_lefts, a_leftSize, a_ways, a_rights, a_rightSize, a_sheet, a_waiting, a_built, a_unfinishedStart, a_unfinishedLacks, a_kept, a_matchStart, a_matchEnd, a_joint, a_unified, a_oneStack, a_otherStack, a_nestedAt, a_nestedEnd, a_rank, a_pairCount, a_firstOpen⟩ := u
  obtain ⟨f_place', f_count', f_top', f_done', f_open', f_steps', f_shownSteps', f_fault', f_in', f_made', f_old', f_size', f_heads', f_fresh', a_kind', a_value', a_all', a_split', a_toKind', a_doneKind', a_toValue', a_doneValue', a_begins', a_lacks', a_inKind', a_leftKind', a_madeKind', a_oldKind', a_resultKind', a_inValue', a_leftValue', a_madeValue', a_oldValue', a_resultValue', a_from', a_to', a_whole', a_known', a_bound', a_whose', a_rank', a_one', a_two', a_oneOf', a_twoOf', a_headAt', a_headOf', a_headLeft', a_pairs', a_first'⟩ := v
  have J := I
  obtain ⟨D, Q, L, R, pl, st, fr, pc, fo, hG, ⟨x1, x2, x3, x4, x5, x6, x7, x8, x9⟩, ⟨y1, y2, y3, y4, y5, y6, y7, y8, y9⟩⟩ := I
  subst x1
  have hD := hG.1
  by_cases h0 : v1 < 0
  · exact br_t h0 (br_t h0 ⟨rfl, J⟩)
  · by_cases h3 : 3 < v1
    · exact br_f h0 (br_t h3 (br_f h0 (br_t h3 ⟨rfl, J⟩)))
    · obtain ⟨j, hj, rfl⟩ := nI_of2 (n := 3) (by decide) h0 (Int32.not_lt.mp h3)
      refine br_f h0 (br_f h3 (pk_lt D.length 30 (fun h30 => ?_) (fun h30 => ?_)))
      · have hY30 : ¬ a_all' 8 = 30 := by rw [y1, show (30 : Int32) = nI 30 from rfl, nI_eq (by omega) (by omega)]; omega
        -- the token is taken
        have take : (j = 0 → v2.toBitVec.toNat < 12) → (2 ≤ j → v2.toBitVec.toNat < 4) → (wY_token_53 (fun r' v' => r' = 1 ∧ i_Rel (k + 3) (nI (D.length + 1), f_faultPlace, f_reportedSteps, f_resultSize, f_sheetSize, f_waitingSize, f_builtSize, f_unfinished, f_taken, f_keptSize, f_stacked, f_ranked, f_surveyed, vp_updL a_draft D.length ((nI j).toInt64 * 4294967296 + (v2.toInt64 &&& 4294967295)), a_result, a_lefts, a_leftSize, a_ways, a_rights, a_rightSize, a_sheet, a_waiting, a_built, a_unfinishedStart, a_unfinishedLacks, a_kept, a_matchStart, a_matchEnd, a_joint, a_unified, a_oneStack, a_otherStack, a_nestedAt, a_nestedEnd, a_rank, a_pairCount, a_firstOpen) v') (nI j) v2 f_place' f_count' f_top' f_done' f_open' f_steps' f_shownSteps' f_fault' f_in' f_made' f_old' f_size' f_heads' f_fresh' a_kind' a_value' a_all' a_split' a_toKind' a_doneKind' a_toValue' a_doneValue' a_begins' a_lacks' a_inKind' a_leftKind' a_madeKind' a_oldKind' a_resultKind' a_inValue' a_leftValue' a_madeValue' a_oldValue' a_resultValue' a_from' a_to' a_whole' a_known' a_bound' a_whose' a_rank' a_one' a_two' a_oneOf' a_twoOf' a_headAt' a_headOf' a_headLeft' a_pairs' a_first' → wX_token_52 (fun r u' => wpY_token (fun r' v' => r' = r ∧ i_Rel (k + 3) u' v') (f_place', f_count', f_top', f_done', f_open', f_steps', f_shownSteps', f_fault', f_in', f_made', f_old', f_size', f_heads', f_fresh', a_kind', a_value', a_all', a_split', a_toKind', a_doneKind', a_toValue', a_doneValue', a_begins', a_lacks', a_inKind', a_leftKind', a_madeKind', a_oldKind', a_resultKind', a_inValue', a_leftValue', a_madeValue', a_oldValue', a_resultValue', a_from', a_to', a_whole', a_known', a_bound', a_whose', a_rank', a_one', a_two', a_oneOf', a_twoOf', a_headAt', a_headOf', a_headLeft', a_pairs', a_first') (nI j) v2) (nI j) v2 (nI D.length) f_faultPlace f_reportedSteps f_resultSize f_sheetSize f_waitingSize f_builtSize f_unfinished f_taken f_keptSize f_stacked f_ranked f_surveyed a_draft a_result a_lefts a_leftSize a_ways a_rights a_rightSize a_sheet a_waiting a_built a_unfinishedStart a_unfinishedLacks a_kept a_matchStart a_matchEnd a_joint a_unified a_oneStack a_otherStack a_nestedAt a_nestedEnd a_rank a_pairCount a_firstOpen) → wX_token_52 (fun r u' => wpY_token (fun r' v' => r' = r ∧ i_Rel (k + 3) u' v') (f_place', f_count', f_top', f_done', f_open', f_steps', f_shownSteps', f_fault', f_in', f_made', f_old', f_size', f_heads', f_fresh', a_kind', a_value', a_all', a_split', a_toKind', a_doneKind', a_toValue', a_doneValue', a_begins', a_lacks', a_inKind', a_leftKind', a_madeKind', a_oldKind', a_resultKind', a_inValue', a_leftValue', a_madeValue', a_oldValue', a_resultValue', a_from', a_to', a_whole', a_known', a_bound', a_whose', a_rank', a_one', a_two', a_oneOf', a_twoOf', a_headAt', a_headOf', a_headLeft', a_pairs', a_first') (nI j) v2) (nI j) v2 (nI D.length) f_faultPlace f_reportedSteps f_resultSize f_sheetSize f_waitingSize f_builtSize f_unfinished f_taken f_keptSize f_stacked f_ranked f_surveyed a_draft a_result a_lefts a_leftSize a_ways a_rights a_rightSize a_sheet a_waiting a_built a_unfinishedStart a_unfinishedLacks a_kept a_matchStart a_matchEnd a_joint a_unified a_oneStack a_otherStack a_nestedAt a_nestedEnd a_rank a_pairCount a_firstOpen := by
          intro c0 c2 hw
          refine hw ?_
          obtain ⟨t1, t2, t3⟩ := tk_tok hj v2 c0 c2
          have ei : (240 : Int32) + a_all' 8 = nI (240 + D.length) := by rw [y1]; exact nI_add 240 _
          refine nm_r (e' := upd a_all' 8 (nI (D.length + 1))) (by rw [y1, nI_1, (tk_nb (by omega)).1]) (nm_r ei ?_)
          have hin : vp_in (nI (240 + D.length)) 270 := vp_in_nI (by omega) (by omega)
          refine ⟨hin, nm_r (e' := upd a_kind' (240 + D.length) (tk_kR ((nI j).toInt64 * 4294967296 + (v2.toInt64 &&& 4294967295)))) (by rw [nI_clamp (by omega), (tk_nb (by omega)).1, t2]) ⟨hin, nm_r (e' := upd a_value' (240 + D.length) (tk_vR ((nI j).toInt64 * 4294967296 + (v2.toInt64 &&& 4294967295)))) (by rw [nI_clamp (by omega), t3]) ⟨rfl, ?_⟩⟩⟩
          have hsx := hd_snocL (x := (nI j).toInt64 * 4294967296 + (v2.toInt64 &&& 4294967295)) x2
          rw [Nat.zero_add] at hsx
          refine ⟨D ++ [(nI j).toInt64 * 4294967296 + (v2.toInt64 &&& 4294967295)], Q, L, R, pl, st, fr, pc, fo, ⟨by simp; omega, fun t ht => ?_, hG.2.2.1, hG.2.2.2.1, hG.2.2.2.2⟩, ⟨by simp, hsx, x3, x4, x5, x6, x7, x8, x9⟩, ⟨by rw [pk_us]; simp, hy_snoc (240 + D.length) rfl y2, y3, y4, y5, y6, fun r hr => ?_, y8, y9⟩⟩
          · rcases List.mem_append.mp ht with h | h
            · exact hG.2.1 t h
            · rw [List.mem_singleton] at h; rw [h]; exact t1
          · obtain ⟨q1, q2⟩ := y7 r hr
            rw [pk_un (by omega)]
            refine ⟨q1, fun h => ?_⟩
            obtain ⟨p1, p2, p3⟩ := q2 h
            rcases hG.2.2.2.2 r with g | g
            · exact absurd g h
            · exact ⟨p1, p2, hy_upd p3 (Or.inr (by rw [List.length_append]; have := g.2.2.1; omega))⟩
        have store : ∀ (P : Int32 → SX → Prop), P 1 (nI (D.length + 1), f_faultPlace, f_reportedSteps, f_resultSize, f_sheetSize, f_waitingSize, f_builtSize, f_unfinished, f_taken, f_keptSize, f_stacked, f_ranked, f_surveyed, vp_updL a_draft D.length ((nI j).toInt64 * 4294967296 + (v2.toInt64 &&& 4294967295)), a_result, a_lefts, a_leftSize, a_ways, a_rights, a_rightSize, a_sheet, a_waiting, a_built, a_unfinishedStart, a_unfinishedLacks, a_kept, a_matchStart, a_matchEnd, a_joint, a_unified, a_oneStack, a_otherStack, a_nestedAt, a_nestedEnd, a_rank, a_pairCount, a_firstOpen) → wX_token_52 P (nI j) v2 (nI D.length) f_faultPlace f_reportedSteps f_resultSize f_sheetSize f_waitingSize f_builtSize f_unfinished f_taken f_keptSize f_stacked f_ranked f_surveyed a_draft a_result a_lefts a_leftSize a_ways a_rights a_rightSize a_sheet a_waiting a_built a_unfinishedStart a_unfinishedLacks a_kept a_matchStart a_matchEnd a_joint a_unified a_oneStack a_otherStack a_nestedAt a_nestedEnd a_rank a_pairCount a_firstOpen := by
          intro P hp
          refine ⟨vp_in_nI h30 (by omega), nm_r (e' := vp_updL a_draft D.length ((nI j).toInt64 * 4294967296 + (v2.toInt64 &&& 4294967295))) (by rw [nI_clamp (by omega)]) (nm_r (nI_1 _) hp)⟩
        by_cases hv0 : v2 < 0
        · refine pk_eq j 0 (fun e0 => br_t hv0 (br_f h0 (br_f h3 (br_f hY30 (pk_eq j 0 (fun _ => br_t hv0 ⟨rfl, J⟩) (fun z => absurd e0 z)))))) (fun e0 => ?_)
          refine pk_lt j 2 (fun e2 => ?_) (fun e2 => ?_)
          · refine take (fun z => absurd z e0) (fun z => absurd z (by omega)) (fun hY => store _ (br_f h0 (br_f h3 (br_f hY30 (pk_eq j 0 (fun z => absurd z e0) (fun _ => pk_le j 1 (fun _ => hY) (fun z => absurd z (by omega))))))))
          · refine br_t hv0 (br_f h0 (br_f h3 (br_f hY30 (pk_eq j 0 (fun z => absurd z e0) (fun _ => pk_le j 1 (fun z => absurd z (by omega)) (fun _ => br_t hv0 ⟨rfl, J⟩))))))
        · obtain ⟨n, hn, rfl⟩ := nI_of hv0
          have hnn : (nI n).toBitVec.toNat = n := pk_tn (by omega)
          rw [hnn] at take
          refine pk_eq j 0 (fun e0 => br_f hv0 (pk_lt n 12 (fun h12 => ?_) (fun h12 => ?_))) (fun e0 => ?_)
          · refine pk_lt j 2 (fun _ => ?_) (fun z => absurd z (by omega))
            refine take (fun _ => h12) (fun z => absurd z (by omega)) (fun hY => store _ (br_f h0 (br_f h3 (br_f hY30 (pk_eq j 0 (fun _ => br_f hv0 (pk_lt 11 n (fun z => absurd z (by omega)) (fun _ => pk_le j 1 (fun _ => hY) (fun z => absurd z (by omega))))) (fun z => absurd e0 z))))))
          · exact br_f h0 (br_f h3 (br_f hY30 (pk_eq j 0 (fun _ => br_f hv0 (pk_lt 11 n (fun _ => ⟨rfl, J⟩) (fun z => absurd z (by omega)))) (fun z => absurd e0 z))))
          · refine pk_lt j 2 (fun e2 => ?_) (fun e2 => br_f hv0 (pk_lt n 4 (fun h4 => ?_) (fun h4 => ?_)))
            · refine take (fun z => absurd z e0) (fun z => absurd z (by omega)) (fun hY => store _ (br_f h0 (br_f h3 (br_f hY30 (pk_eq j 0 (fun z => absurd z e0) (fun _ => pk_le j 1 (fun _ => hY) (fun z => absurd z (by omega))))))))
            · refine take (fun z => absurd z e0) (fun _ => h4) (fun hY => store _ (br_f h0 (br_f h3 (br_f hY30 (pk_eq j 0 (fun z => absurd z e0) (fun _ => pk_le j 1 (fun z => absurd z (by omega)) (fun _ => br_f hv0 (pk_le n 3 (fun _ => hY) (fun z => absurd z (by omega))))))))))
            · exact br_f h0 (br_f h3 (br_f hY30 (pk_eq j 0 (fun z => absurd z e0) (fun _ => pk_le j 1 (fun z => absurd z (by omega)) (fun _ => br_f hv0 (pk_le n 3 (fun z => absurd z (by omega)) (fun _ => ⟨rfl, J⟩)))))))
      · have hY30 : a_all' 8 = 30 := by rw [y1, show D.length = 30 by omega]; rfl
        exact br_f h0 (br_f h3 (br_t hY30 ⟨rfl, J⟩))
theorem i_vc_drop {k : Nat} {u : SX} {v : SY} (I : i_Rel k u v) (hk : k + 3 ≤ 1536) (v1 : Int32) : wpX_drop (fun r u' => wpY_drop (fun r' v' => r' = r ∧ i_Rel (k + 3) u' v') v v1) u v1 := by
  obtain ⟨f_drafted, f_faultPlace, f_reportedSteps, f_resultSize, f_sheetSize, f_waitingSize, f_builtSize, f_unfinished, f_taken, f_keptSize, f_stacked, f_ranked, f_surveyed, a_draft, a_result, a_lefts, a_leftSize, a_ways, a_rights, a_rightSize, a_sheet, a_waiting, a_built, a_unfinishedStart, a_unfinishedLacks, a_kept, a_matchStart, a_matchEnd, a_joint, a_unified, a_oneStack, a_otherStack, a_nestedAt, a_nestedEnd, a_rank, a_pairCount, a_firstOpen⟩ := u
  obtain ⟨f_place', f_count', f_top', f_done', f_open', f_steps', f_shownSteps', f_fault', f_in', f_made', f_old', f_size', f_heads', f_fresh', a_kind', a_value', a_all', a_split', a_toKind', a_doneKind', a_toValue', a_doneValue', a_begins', a_lacks', a_inKind', a_leftKind', a_madeKind', a_oldKind', a_resultKind', a_inValue', a_leftValue', a_madeValue', a_oldValue', a_resultValue', a_from', a_to', a_whole', a_known', a_bound', a_whose', a_rank', a_one', a_two', a_oneOf', a_twoOf', a_headAt', a_headOf', a_headLeft', a_pairs', a_first'⟩ := v
  have J := I
  obtain ⟨D, Q, L, R, pl, st, fr, pc, fo, hG, ⟨x1, x2, x3, x4, x5, x6, x7, x8, x9⟩, ⟨y1, y2, y3, y4, y5, y6, y7, y8, y9⟩⟩ := I
  by_cases h0 : v1 < 0
  · exact br_t h0 (br_t h0 ⟨rfl, J⟩)
  · obtain ⟨j, hj, rfl⟩ := nI_of h0
    refine br_f h0 (pk_le 8 j (fun h8 => br_f h0 (pk_lt 7 j (fun _ => ⟨rfl, J⟩) (fun z => absurd z (by omega)))) (fun h8 => ?_))
    have hinX : vp_in (nI j) 8 := vp_in_nI h8 (by omega)
    have hinY : vp_in (nI j) 9 := vp_in_nI (by omega) (by omega)
    have ej : (nI j).toNatClampNeg = j := nI_clamp (by omega)
    obtain ⟨q0, q1, q2⟩ := x7 j h8
    obtain ⟨p1, p2⟩ := y7 j h8
    refine ⟨hinX, ?_⟩
    rw [ej]
    by_cases hL : L j = []
    · refine br_t (q1 hL) (br_f h0 (pk_lt 7 j (fun z => absurd z (by omega)) (fun _ => ⟨hinY, ?_⟩)))
      rw [ej]
      exact br_t (p1 hL) ⟨rfl, J⟩
    · rcases hG.2.2.2.2 j with g | g
      · exact absurd g hL
      have h16 : 2 ^ ru_c9 (L j) ≤ 16 := Nat.le_trans (Nat.pow_le_pow_right (by omega) g.2.2.2.2.2.2.1) (by decide)
      have hpos : 0 < 2 ^ ru_c9 (L j) := Nat.two_pow_pos _
      have hlL := tm_w_len _ _ g.1
      refine br_f (by rw [(q2 hL).1]; exact nI_ne0 hpos (by omega)) ⟨hinX, nm_r (e' := upd a_ways j 0) rfl (br_f h0 (pk_lt 7 j (fun z => absurd z (by omega)) (fun _ => ⟨hinY, ?_⟩)))⟩
      rw [ej]
      refine br_f (by rw [(p2 hL).1]; exact nI_ne0 (by omega) (by have := g.2.2.1; omega)) ⟨hinY, nm_r (e' := upd a_all' j 0) (by rw [vp_nar_byte]; rfl) ⟨rfl, ?_⟩⟩
      refine ⟨D, Q, (fun r => if r = j then [] else L r), R, pl, st, false, pc, fo, ⟨hG.1, hG.2.1, hG.2.2.1, hG.2.2.2.1, fun r => ?_⟩, ⟨x1, x2, x3, x4, x5, x6, fun r hr => ?_, rfl, fun z => absurd z (by decide)⟩, ⟨by rw [pk_un (by omega)]; exact y1, y2, y3, y4, y5, y6, fun r hr => ?_, rfl, fun z => absurd z (by decide)⟩⟩
      · dsimp only
        by_cases e : r = j
        · rw [if_pos e]; exact Or.inl rfl
        · rw [if_neg e]; exact hG.2.2.2.2 r
      · dsimp only
        by_cases e : r = j
        · rw [if_pos e, e]
          exact ⟨q0, fun _ => pk_us, fun z => absurd rfl z⟩
        · rw [if_neg e, pk_un e]; exact x7 r hr
      · dsimp only
        by_cases e : r = j
        · rw [if_pos e, e]
          exact ⟨fun _ => pk_us, fun z => absurd rfl z⟩
        · rw [if_neg e, pk_un e]; exact y7 r hr
end
section
/-! reduce, equal, matching -/
section
variable {f_drafted f_faultPlace f_reportedSteps f_resultSize f_sheetSize f_waitingSize f_builtSize f_unfinished f_taken f_keptSize f_stacked f_ranked f_surveyed : Int32} {a_draft a_result a_lefts a_rights a_sheet a_waiting a_built a_kept a_joint : Nat → Int64} {a_leftSize a_ways a_rightSize a_unfinishedStart a_unfinishedLacks a_matchStart a_matchEnd a_unified a_oneStack a_otherStack a_nestedAt a_nestedEnd a_rank a_pairCount a_firstOpen : Nat → Int32}
theorem xr_60 {post : Int32 → SX → Prop} {x2 : Int32} {B : Nat} (hB : B ≤ 30) : ∀ (l q : List Int64) (k n : Nat) (zr : Nat → Int64), q.length = k → k + l.length = B → hd_h a_built k l → hd_h zr 0 q → l.length < n → (∀ z, hd_h z 0 (q ++ l) → post x2 (f_drafted, f_faultPlace, f_reportedSteps, nI B, f_sheetSize, f_waitingSize, nI B, f_unfinished, f_taken, f_keptSize, f_stacked, f_ranked, f_surveyed, a_draft, z, a_lefts, a_leftSize, a_ways, a_rights, a_rightSize, a_sheet, a_waiting, a_built, a_unfinishedStart, a_unfinishedLacks, a_kept, a_matchStart, a_matchEnd, a_joint, a_unified, a_oneStack, a_otherStack, a_nestedAt, a_nestedEnd, a_rank, a_pairCount, a_firstOpen)) → wX_reduce_60 post x2 f_drafted f_faultPlace f_reportedSteps f_resultSize f_sheetSize f_waitingSize (nI B) f_unfinished f_taken f_keptSize f_stacked f_ranked f_surveyed n (nI k) a_draft zr a_lefts a_leftSize a_ways a_rights a_rightSize a_sheet a_waiting a_built a_unfinishedStart a_unfinishedLacks a_kept a_matchStart a_matchEnd a_joint a_unified a_oneStack a_otherStack a_nestedAt a_nestedEnd a_rank a_pairCount a_firstOpen
  | [], q, k, n, zr, h0, h1, h2, h3, hn, H => by
    obtain ⟨n, rfl⟩ : ∃ n', n = n' + 1 := ⟨n - 1, by omega⟩
    rw [List.length_nil] at h1
    rw [List.append_nil] at H
    exact pk_le B k (fun _ => H zr h3) (fun z => absurd z (by omega))
  | t :: l, q, k, n, zr, h0, h1, h2, h3, hn, H => by
    obtain ⟨n, rfl⟩ : ∃ n', n = n' + 1 := ⟨n - 1, by omega⟩
    rw [List.length_cons] at h1 hn
    refine pk_le B k (fun z => absurd z (by omega)) (fun _ => ?_)
    refine pk_le 30 k (fun z => absurd z (by omega)) (fun _ => ⟨vp_in_nI (by omega) (by omega), vp_in_nI (by omega) (by omega), ?_⟩)
    have e3 : q ++ t :: l = (q ++ [t]) ++ l := by rw [List.append_assoc]; rfl
    rw [e3] at H
    refine nm_r (e' := vp_updL zr k t) (by rw [nI_clamp (by omega), h2.1]) (nm_r (nI_1 k) ?_)
    refine xr_60 hB l (q ++ [t]) (k + 1) n _ (by simp; omega) (by omega) h2.2 ?_ (by omega) H
    have := hd_snocL (x := t) h3
    rwa [Nat.zero_add, h0] at this
theorem xr_15 {post : Int32 → SX → Prop} {N : Nat} (hN : N ≤ 30) : ∀ (l q : List Int64) (k n : Nat) (zb : Nat → Int64), q.length = k → k + l.length = N → hd_h a_draft k l → hd_h zb 0 q → l.length < n → (∀ z, hd_h z 0 (q ++ l) → wpX_ruleFor (fun r u => match u with | (f_drafted0, f_faultPlace0, f_reportedSteps0, f_resultSize0, f_sheetSize0, f_waitingSize0, f_builtSize0, f_unfinished0, f_taken0, f_keptSize0, f_stacked0, f_ranked0, f_surveyed0, a_draft0, a_result0, a_lefts0, a_leftSize0, a_ways0, a_rights0, a_rightSize0, a_sheet0, a_waiting0, a_built0, a_unfinishedStart0, a_unfinishedLacks0, a_kept0, a_matchStart0, a_matchEnd0, a_joint0, a_unified0, a_oneStack0, a_otherStack0, a_nestedAt0, a_nestedEnd0, a_rank0, a_pairCount0, a_firstOpen0) => post r (f_drafted0, f_faultPlace0, f_reportedSteps0, f_resultSize0, f_sheetSize0, f_waitingSize0, f_builtSize0, f_unfinished0, f_taken0, f_keptSize0, f_stacked0, f_ranked0, f_surveyed0, a_draft0, a_result0, a_lefts0, a_leftSize0, a_ways0, a_rights0, a_rightSize0, a_sheet0, a_waiting0, a_built0, a_unfinishedStart0, a_unfinishedLacks0, a_kept0, a_matchStart0, a_matchEnd0, a_joint0, a_unified0, a_oneStack0, a_otherStack0, a_nestedAt0, a_nestedEnd0, a_rank0, a_pairCount0, a_firstOpen0)) (nI N, f_faultPlace, f_reportedSteps, f_resultSize, f_sheetSize, f_waitingSize, nI N, f_unfinished, f_taken, f_keptSize, f_stacked, f_ranked, f_surveyed, a_draft, a_result, a_lefts, a_leftSize, a_ways, a_rights, a_rightSize, a_sheet, a_waiting, z, a_unfinishedStart, a_unfinishedLacks, a_kept, a_matchStart, a_matchEnd, a_joint, a_unified, a_oneStack, a_otherStack, a_nestedAt, a_nestedEnd, a_rank, a_pairCount, a_firstOpen) 0) → wX_matching_15 post (nI N) f_faultPlace f_reportedSteps f_resultSize f_sheetSize f_waitingSize f_builtSize f_unfinished f_taken f_keptSize f_stacked f_ranked f_surveyed n (nI k) a_draft a_result a_lefts a_leftSize a_ways a_rights a_rightSize a_sheet a_waiting zb a_unfinishedStart a_unfinishedLacks a_kept a_matchStart a_matchEnd a_joint a_unified a_oneStack a_otherStack a_nestedAt a_nestedEnd a_rank a_pairCount a_firstOpen
  | [], q, k, n, zb, h0, h1, h2, h3, hn, H => by
    obtain ⟨n, rfl⟩ : ∃ n', n = n' + 1 := ⟨n - 1, by omega⟩
    rw [List.length_nil] at h1
    rw [List.append_nil] at H
    exact pk_le N k (fun _ => H zb h3) (fun z => absurd z (by omega))
  | t :: l, q, k, n, zb, h0, h1, h2, h3, hn, H => by
    obtain ⟨n, rfl⟩ : ∃ n', n = n' + 1 := ⟨n - 1, by omega⟩
    rw [List.length_cons] at h1 hn
    have e3 : q ++ t :: l = (q ++ [t]) ++ l := by rw [List.append_assoc]; rfl
    rw [e3] at H
    refine pk_le N k (fun z => absurd z (by omega)) (fun _ => ⟨vp_in_nI (by omega) (by omega), vp_in_nI (by omega) (by omega), ?_⟩)
    refine nm_r (e' := vp_updL zb k t) (by rw [nI_clamp (by omega), h2.1]) (nm_r (nI_1 k) ?_)
    refine xr_15 hN l (q ++ [t]) (k + 1) n _ (by simp; omega) (by omega) h2.2 ?_ (by omega) H
    have := hd_snocL (x := t) h3
    rwa [Nat.zero_add, h0] at this
end
section
variable {f_place f_count f_top f_done f_open f_steps f_shownSteps f_fault f_in f_made f_old f_size f_heads f_fresh : Int32} {a_kind a_value a_all a_split a_toKind a_doneKind a_toValue a_doneValue a_begins a_lacks a_inKind a_leftKind a_madeKind a_oldKind a_resultKind a_inValue a_leftValue a_madeValue a_oldValue a_resultValue a_from a_to a_whole a_known a_bound a_whose a_rank a_one a_two a_oneOf a_twoOf a_headAt a_headOf a_headLeft a_pairs a_first : Nat → Int32}
theorem yr_17 {post : Int32 → SY → Prop} {N : Nat} (hN : N ≤ 30) (hall : a_all 8 = nI N) : ∀ (l q : List Int64) (k n dn : Nat) (dk dv : Nat → Int32), q.length = k → dn = k → k + l.length = N → hd_y tk_kT tk_vT a_kind a_value (240 + k) l → hd_y tk_kT tk_vT dk dv 0 q → l.length < n → (∀ dk dv, hd_y tk_kT tk_vT dk dv 0 (q ++ l) → ((dk 0 = 1 → wY_matching_81 post (-1) f_place f_count f_top (nI N) f_open f_steps f_shownSteps f_fault f_in f_made f_old f_size f_heads f_fresh a_kind a_value a_all a_split a_toKind dk a_toValue dv a_begins a_lacks a_inKind a_leftKind a_madeKind a_oldKind a_resultKind a_inValue a_leftValue a_madeValue a_oldValue a_resultValue a_from a_to a_whole a_known a_bound a_whose a_rank a_one a_two a_oneOf a_twoOf a_headAt a_headOf a_headLeft a_pairs a_first) ∧ (¬ dk 0 = 1 → wpY_found (fun r u => match u with | (f_place0, f_count0, f_top0, f_done0, f_open0, f_steps0, f_shownSteps0, f_fault0, f_in0, f_made0, f_old0, f_size0, f_heads0, f_fresh0, a_kind0, a_value0, a_all0, a_split0, a_toKind0, a_doneKind0, a_toValue0, a_doneValue0, a_begins0, a_lacks0, a_inKind0, a_leftKind0, a_madeKind0, a_oldKind0, a_resultKind0, a_inValue0, a_leftValue0, a_madeValue0, a_oldValue0, a_resultValue0, a_from0, a_to0, a_whole0, a_known0, a_bound0, a_whose0, a_rank0, a_one0, a_two0, a_oneOf0, a_twoOf0, a_headAt0, a_headOf0, a_headLeft0, a_pairs0, a_first0) => wY_matching_81 post r f_place0 f_count0 f_top0 f_done0 f_open0 f_steps0 f_shownSteps0 f_fault0 f_in0 f_made0 f_old0 f_size0 f_heads0 f_fresh0 a_kind0 a_value0 a_all0 a_split0 a_toKind0 a_doneKind0 a_toValue0 a_doneValue0 a_begins0 a_lacks0 a_inKind0 a_leftKind0 a_madeKind0 a_oldKind0 a_resultKind0 a_inValue0 a_leftValue0 a_madeValue0 a_oldValue0 a_resultValue0 a_from0 a_to0 a_whole0 a_known0 a_bound0 a_whose0 a_rank0 a_one0 a_two0 a_oneOf0 a_twoOf0 a_headAt0 a_headOf0 a_headLeft0 a_pairs0 a_first0) (f_place, f_count, f_top, nI N, f_open, f_steps, f_shownSteps, f_fault, f_in, f_made, f_old, f_size, f_heads, f_fresh, a_kind, a_value, a_all, a_split, a_toKind, dk, a_toValue, dv, a_begins, a_lacks, a_inKind, a_leftKind, a_madeKind, a_oldKind, a_resultKind, a_inValue, a_leftValue, a_madeValue, a_oldValue, a_resultValue, a_from, a_to, a_whole, a_known, a_bound, a_whose, a_rank, a_one, a_two, a_oneOf, a_twoOf, a_headAt, a_headOf, a_headLeft, a_pairs, a_first) 0 (nI N)))) → wY_matching_17 post n (nI k) f_place f_count f_top (nI dn) f_open f_steps f_shownSteps f_fault f_in f_made f_old f_size f_heads f_fresh a_kind a_value a_all a_split a_toKind dk a_toValue dv a_begins a_lacks a_inKind a_leftKind a_madeKind a_oldKind a_resultKind a_inValue a_leftValue a_madeValue a_oldValue a_resultValue a_from a_to a_whole a_known a_bound a_whose a_rank a_one a_two a_oneOf a_twoOf a_headAt a_headOf a_headLeft a_pairs a_first
  | [], q, k, n, dn, dk, dv, h0, hd, h1, h2, h3, hn, H => by
    obtain ⟨n, rfl⟩ : ∃ n', n = n' + 1 := ⟨n - 1, by omega⟩
    rw [List.length_nil] at h1
    rw [List.append_nil] at H
    have e : dn = N := by omega
    subst e
    refine pk_le dn k (fun _ => H dk dv h3) (fun z => absurd z (by omega)) hall rfl
  | t :: l, q, k, n, dn, dk, dv, h0, hd, h1, h2, h3, hn, H => by
    obtain ⟨n, rfl⟩ : ∃ n', n = n' + 1 := ⟨n - 1, by omega⟩
    rw [List.length_cons] at h1 hn
    have e3 : q ++ t :: l = (q ++ [t]) ++ l := by rw [List.append_assoc]; rfl
    rw [e3] at H
    have ei : (240 : Int32) + nI k = nI (240 + k) := nI_add 240 k
    have hin2 : vp_in ((240 : Int32) + nI k) 270 := by rw [ei]; exact vp_in_nI (by omega) (by omega)
    have ec2 : ((240 : Int32) + nI k).toNatClampNeg = 240 + k := by rw [ei]; exact nI_clamp (by omega)
    refine pk_le N k (fun z => absurd z (by omega)) (fun _ => ⟨hin2, hin2, ?_⟩) hall rfl
    rw [ec2, h2.1.1, h2.1.2]
    refine yr_fin dn (by omega) (nm_r (nI_1 k) ?_)
    exact yr_17 hN hall l (q ++ [t]) (k + 1) n (dn + 1) _ _ (by simp; omega) (by omega) (by omega) h2.2 (hy_snoc dn (by omega) h3) (by omega) H
end
theorem i_vc_reduce {k : Nat} {u : SX} {v : SY} (I : i_Rel k u v) (hk : k + 3 ≤ 1536) : wpX_reduce (fun r u' => wpY_reduce (fun r' v' => r' = r ∧ i_Rel (k + 3) u' v') v) u := by
  obtain ⟨f_drafted, f_faultPlace, f_reportedSteps, f_resultSize, f_sheetSize, f_waitingSize, f_builtSize, f_unfinished, f_taken, f_keptSize, f_stacked, f_ranked, f_surveyed, a_draft, a_result, a_lefts, a_leftSize, a_ways, a_rights, a_rightSize, a_sheet, a_waiting, a_built, a_unfinishedStart, a_unfinishedLacks, a_kept, a_matchStart, a_matchEnd, a_joint, a_unified, a_oneStack, a_otherStack, a_nestedAt, a_nestedEnd, a_rank, a_pairCount, a_firstOpen⟩ := u
  obtain ⟨f_place', f_count', f_top', f_done', f_open', f_steps', f_shownSteps', f_fault', f_in', f_made', f_old', f_size', f_heads', f_fresh', a_kind', a_value', a_all', a_split', a_toKind', a_doneKind', a_toValue', a_doneValue', a_begins', a_lacks', a_inKind', a_leftKind', a_madeKind', a_oldKind', a_resultKind', a_inValue', a_leftValue', a_madeValue', a_oldValue', a_resultValue', a_from', a_to', a_whole', a_known', a_bound', a_whose', a_rank', a_one', a_two', a_oneOf', a_twoOf', a_headAt', a_headOf', a_headLeft', a_pairs', a_first'⟩ := v
  obtain ⟨D, Q, L, R, pl, st, fr, pc, fo, hG, ⟨x1, x2, x3, x4, x5, x6, x7, x8, x9⟩, ⟨y1, y2, y3, y4, y5, y6, y7, y8, y9⟩⟩ := I
  subst x1
  obtain ⟨hD, hDr, hQ, hQd, hGG⟩ := hG
  obtain ⟨r, rX, rY, rG⟩ := fa_12 (D := D) D.length 1 rfl hD (by omega) (by omega) x2 y2 y1 hDr
  unfold wpX_reduce
  dsimp only
  refine rX _ ?_
  rcases rG with ⟨e, hw, htd⟩ | ⟨q, hq, e⟩
  · subst e
    refine br_t (by decide) ?_
    refine xn_take (l := D) 0 D.length (by omega) hD x2 (fun zs hz => ?_)
    refine xn_nf (P := tk_d) (q := D) D.length 0 (fun x => tk_d_t) (fun x h => h) hGG x7 hw hD htd (by omega) rfl hz (fun c t' s' hrun ss ws bs uf zs' zw zb us ul ms me hc => ?_)
    obtain ⟨c1, t1, s1, o1, o2, o3, o4⟩ := mc_run_ok (P := tk_d) (fun x h => h) hGG 4000 D [] 0 none (mc_I0 hw hD htd (by omega)).1 (mc_I0 (P := tk_d) hw hD htd (by omega)).2
    rw [hrun] at o1
    injection o1 with o1 o1'
    injection o1' with o1' o1''
    subst o1 o1' o1''
    -- the reference's side, to its normal form
    have refSide : ∀ (PP : Int32 → SY → Prop), (∀ (tp dn sp fa md op : Int32) (tk tv dk dv lk lv mdk mdv fr to wh kn bg lc ik iv : Nat → Int32), (c = 0 → dn = nI s'.length ∧ hd_y tk_kT tk_vT dk dv 0 s') → ((nI c = 0 → ∃ n70, wY_reduce_70 PP f_place' f_count' tp dn op (nI t') (nI t') (nI c) (nI D.length) md f_old' dn f_heads' f_fresh' n70 0 a_kind' a_value' a_all' a_split' tk dk tv dv bg lc ik lk mdk a_oldKind' a_resultKind' iv lv mdv a_oldValue' a_resultValue' fr to wh kn a_bound' a_whose' a_rank' a_one' a_two' a_oneOf' a_twoOf' a_headAt' a_headOf' a_headLeft' a_pairs' a_first') ∧ (¬ nI c = 0 → PP (nI c) (f_place', f_count', tp, dn, op, nI t', nI t', nI c, nI D.length, md, f_old', 0, f_heads', f_fresh', a_kind', a_value', a_all', a_split', tk, dk, tv, dv, bg, lc, ik, lk, mdk, a_oldKind', a_resultKind', iv, lv, mdv, a_oldValue', a_resultValue', fr, to, wh, kn, a_bound', a_whose', a_rank', a_one', a_two', a_oneOf', a_twoOf', a_headAt', a_headOf', a_headLeft', a_pairs', a_first')))) → wpY_reduce PP (f_place', f_count', f_top', f_done', f_open', f_steps', f_shownSteps', f_fault', f_in', f_made', f_old', f_size', f_heads', f_fresh', a_kind', a_value', a_all', a_split', a_toKind', a_doneKind', a_toValue', a_doneValue', a_begins', a_lacks', a_inKind', a_leftKind', a_madeKind', a_oldKind', a_resultKind', a_inValue', a_leftValue', a_madeValue', a_oldValue', a_resultValue', a_from', a_to', a_whole', a_known', a_bound', a_whose', a_rank', a_one', a_two', a_oneOf', a_twoOf', a_headAt', a_headOf', a_headLeft', a_pairs', a_first') := by
      intro PP HH
      unfold wpY_reduce
      dsimp only
      refine rY _ (br_t (by decide) ?_)
      rw [y1]
      refine yb_begin (l := D) 240 D.length rfl (by omega) (by omega) y2 (fun ik iv hz => ?_)
      refine yn_nf (P := tk_d) (q := D) D.length 0 (fun x => tk_d_t) (fun x h => h) hGG y7 hw hD htd (by omega) rfl (hy_dT htd hz) (fun c2 t2 s2 hrun2 tp dn sp fa md op tk tv dk dv lk lv mdk mdv fr to wh kn bg lc hc2 => ?_)
      rw [hrun] at hrun2
      injection hrun2 with e1 e2
      injection e2 with e2 e3
      subst e1 e2 e3
      exact HH tp dn sp fa md op tk tv dk dv lk lv mdk mdv fr to wh kn bg lc ik iv hc2
    by_cases h0 : c = 0
    · subst h0
      obtain ⟨b1, b2⟩ := hc rfl
      obtain ⟨w1, w2, w3, w4⟩ := o4 rfl
      subst b1
      refine br_t rfl ⟨s'.length + 1, ?_⟩
      rw [← nI_0]
      refine xr_60 (B := s'.length) w3 s' [] 0 _ a_result rfl (by omega) b2 trivial (by omega) (fun z hzr => ?_)
      refine refSide _ (fun tp dn sp fa md op tk tv dk dv lk lv mdk mdv fr' to wh kn bg lc ik iv hc2 => ?_)
      obtain ⟨d1, d2⟩ := hc2 rfl
      subst d1
      refine br_t rfl ⟨s'.length + 1, ?_⟩
      rw [← nI_0]
      refine yb_res_l (N := s'.length) (by omega) s' [] _ _ _ 0 rfl (by omega) d2 trivial (by omega) (fun ka va hkv => ⟨rfl, ?_⟩)
      exact ⟨D, s', L, R, pl, nI t', fr, pc, fo, ⟨hD, hDr, w3, w4, hGG⟩, ⟨rfl, x2, x3, rfl, rfl, hzr, x7, x8, x9⟩, ⟨y1, y2, y3, rfl, rfl, hkv, y7, y8, y9⟩⟩
    · have hcn : ¬ nI c = 0 := by rw [← nI_0, nI_eq (by omega) (by omega)]; exact h0
      refine br_f hcn (refSide _ (fun tp dn sp fa md op tk tv dk dv lk lv mdk mdv fr' to wh kn bg lc ik iv hc2 => br_f hcn ⟨rfl, ?_⟩))
      exact ⟨D, [], L, R, pl, nI t', fr, pc, fo, ⟨hD, hDr, by simp, by simp, hGG⟩, ⟨rfl, x2, x3, rfl, rfl, trivial, x7, x8, x9⟩, ⟨y1, y2, y3, rfl, rfl, trivial, y7, y8, y9⟩⟩
  · have hneg : ¬ r < 0 := by rw [e]; exact nI_pos (by omega)
    refine br_f hneg ?_
    unfold wpY_reduce
    dsimp only
    refine rY _ (br_f hneg ⟨rfl, ?_⟩)
    exact ⟨D, [], L, R, r, st, fr, pc, fo, ⟨hD, hDr, by simp, by simp, hGG⟩, ⟨rfl, x2, rfl, x4, rfl, trivial, x7, x8, x9⟩, ⟨y1, y2, rfl, y4, rfl, trivial, y7, y8, y9⟩⟩
theorem i_vc_matching {k : Nat} {u : SX} {v : SY} (I : i_Rel k u v) (hk : k + 3 ≤ 1536) : wpX_matching (fun r u' => wpY_matching (fun r' v' => r' = r ∧ i_Rel (k + 3) u' v') v) u := by
  obtain ⟨f_drafted, f_faultPlace, f_reportedSteps, f_resultSize, f_sheetSize, f_waitingSize, f_builtSize, f_unfinished, f_taken, f_keptSize, f_stacked, f_ranked, f_surveyed, a_draft, a_result, a_lefts, a_leftSize, a_ways, a_rights, a_rightSize, a_sheet, a_waiting, a_built, a_unfinishedStart, a_unfinishedLacks, a_kept, a_matchStart, a_matchEnd, a_joint, a_unified, a_oneStack, a_otherStack, a_nestedAt, a_nestedEnd, a_rank, a_pairCount, a_firstOpen⟩ := u
  obtain ⟨f_place', f_count', f_top', f_done', f_open', f_steps', f_shownSteps', f_fault', f_in', f_made', f_old', f_size', f_heads', f_fresh', a_kind', a_value', a_all', a_split', a_toKind', a_doneKind', a_toValue', a_doneValue', a_begins', a_lacks', a_inKind', a_leftKind', a_madeKind', a_oldKind', a_resultKind', a_inValue', a_leftValue', a_madeValue', a_oldValue', a_resultValue', a_from', a_to', a_whole', a_known', a_bound', a_whose', a_rank', a_one', a_two', a_oneOf', a_twoOf', a_headAt', a_headOf', a_headLeft', a_pairs', a_first'⟩ := v
  have J := I
  obtain ⟨D, Q, L, R, pl, st, fr, pc, fo, hG, ⟨x1, x2, x3, x4, x5, x6, x7, x8, x9⟩, ⟨y1, y2, y3, y4, y5, y6, y7, y8, y9⟩⟩ := I
  subst x1
  have hG0 := hG
  obtain ⟨hD, hDr, hQ, hQd, hGG⟩ := hG
  obtain ⟨r, rX, rY, rG⟩ := fa_12 (D := D) D.length 1 rfl hD (by omega) (by omega) x2 y2 y1 hDr
  unfold wpX_matching
  dsimp only
  refine rX _ ?_
  rcases rG with ⟨e, hw, htd⟩ | ⟨q, hq, e⟩
  · subst e
    have htt : ∀ t, t ∈ D → tk_t t := fun t ht => tk_d_t (htd t ht)
    have hLs : ∀ r, L r = [] ∨ ∃ t l, L r = t :: l ∧ t < 4294967296 := fun r => by
      rcases hGG r with h | h
      · exact Or.inl h
      · exact Or.inr h.2.2.2.2.2.1
    have refSide : ∀ (PP : Int32 → SY → Prop), (∀ r' β, ru_fr L D 8 0 = some (r', β) → ∀ (dn : Int32) (dk dv lk lv fr to wh kn : Nat → Int32), PP (nI r') (f_place', f_count', f_top', dn, f_open', f_steps', f_shownSteps', f_fault', f_in', f_made', f_old', f_size', f_heads', f_fresh', a_kind', a_value', a_all', a_split', a_toKind', dk, a_toValue', dv, a_begins', a_lacks', a_inKind', lk, a_madeKind', a_oldKind', a_resultKind', a_inValue', lv, a_madeValue', a_oldValue', a_resultValue', fr, to, wh, kn, a_bound', a_whose', a_rank', a_one', a_two', a_oneOf', a_twoOf', a_headAt', a_headOf', a_headLeft', a_pairs', a_first')) → (ru_fr L D 8 0 = none → ∀ (dn : Int32) (dk dv lk lv fr to wh kn : Nat → Int32), PP (-2) (f_place', f_count', f_top', dn, f_open', f_steps', f_shownSteps', f_fault', f_in', f_made', f_old', f_size', f_heads', f_fresh', a_kind', a_value', a_all', a_split', a_toKind', dk, a_toValue', dv, a_begins', a_lacks', a_inKind', lk, a_madeKind', a_oldKind', a_resultKind', a_inValue', lv, a_madeValue', a_oldValue', a_resultValue', fr, to, wh, kn, a_bound', a_whose', a_rank', a_one', a_two', a_oneOf', a_twoOf', a_headAt', a_headOf', a_headLeft', a_pairs', a_first')) → wpY_matching PP (f_place', f_count', f_top', f_done', f_open', f_steps', f_shownSteps', f_fault', f_in', f_made', f_old', f_size', f_heads', f_fresh', a_kind', a_value', a_all', a_split', a_toKind', a_doneKind', a_toValue', a_doneValue', a_begins', a_lacks', a_inKind', a_leftKind', a_madeKind', a_oldKind', a_resultKind', a_inValue', a_leftValue', a_madeValue', a_oldValue', a_resultValue', a_from', a_to', a_whole', a_known', a_bound', a_whose', a_rank', a_one', a_two', a_oneOf', a_twoOf', a_headAt', a_headOf', a_headLeft', a_pairs', a_first') := by
      intro PP Hy Hn
      unfold wpY_matching
      dsimp only
      refine rY _ (br_t (by decide) ⟨D.length + 1, ?_⟩)
      rw [← nI_0]
      refine yr_17 (N := D.length) hD y1 D [] 0 _ 0 _ _ rfl rfl (by omega) (hy_dT htd y2) trivial (by omega) (fun dk dv hz => ?_)
      rw [List.nil_append] at hz
      obtain ⟨o, l, eo, hl⟩ := tm_w_pos hw
      have hdo : dk 0 = tk_kT o := by rw [eo] at hz; exact hz.1.1
      have hot := htt o (by rw [eo]; simp)
      rw [hdo]
      by_cases hk1 : tk_kT o = 1
      · refine br_t hk1 (br_f (by decide) (Hn ?_ _ _ _ _ _ _ _ _ _))
        rw [eo]
        exact ru_fr_num ((tk_N_Y hot).mp hk1) hLs 8 0
      · refine br_f hk1 ?_
        rw [← nI_0]
        refine yf_found (s := D) 0 D.length 1 hGG y7 (by omega) (by omega) hz htt hw (fun r' β lk lv fr to wh kn hf hb => ?_) (fun lk lv fr to wh kn hf => ?_)
        · obtain ⟨_, hr8, _⟩ := mc_fr _ _ _ _ hf
          exact br_t (nI_pos' (by omega)) (Hy r' β hf _ _ _ _ _ _ _ _ _)
        · exact br_f (by decide) (Hn hf _ _ _ _ _ _ _ _ _)
    refine br_t (by decide) ⟨D.length + 1, ?_⟩
    rw [← nI_0]
    refine xr_15 (N := D.length) hD D [] 0 _ a_built rfl (by omega) x2 trivial (by omega) (fun zb hz => ?_)
    rw [List.nil_append] at hz
    rw [← nI_0]
    refine xm_ruleFor (s := D) 0 D.length 1 hGG x7 (by omega) (by omega) hz htt hw (fun r' β ms me hf hb => ?_) (fun ms me hf => ?_)
    · refine refSide _ (fun r2 β2 hf2 dn dk dv lk lv fr' to wh kn => ⟨?_, ?_⟩) (fun hf2 => by rw [hf] at hf2; exact absurd hf2 (by simp))
      · rw [hf] at hf2
        injection hf2 with hf2
        injection hf2 with hf2 _
        rw [hf2]
      · exact ⟨D, Q, L, R, pl, st, fr, pc, fo, hG0, ⟨rfl, x2, x3, x4, x5, x6, x7, x8, x9⟩, ⟨y1, y2, y3, y4, y5, y6, y7, y8, y9⟩⟩
    · refine refSide _ (fun r2 β2 hf2 => by rw [hf] at hf2; exact absurd hf2 (by simp)) (fun hf2 dn dk dv lk lv fr' to wh kn => ⟨rfl, ?_⟩)
      exact ⟨D, Q, L, R, pl, st, fr, pc, fo, hG0, ⟨rfl, x2, x3, x4, x5, x6, x7, x8, x9⟩, ⟨y1, y2, y3, y4, y5, y6, y7, y8, y9⟩⟩
  · have hneg : ¬ r < 0 := by rw [e]; exact nI_pos (by omega)
    refine br_f hneg ?_
    unfold wpY_matching
    dsimp only
    exact rY _ (br_f hneg ⟨rfl, J⟩)
end
section
/-! rule -/
section
variable {f_place f_count f_top f_done f_open f_steps f_shownSteps f_fault f_in f_made f_old f_size f_heads f_fresh : Int32} {a_kind a_value a_all a_split a_toKind a_doneKind a_toValue a_doneValue a_begins a_lacks a_inKind a_leftKind a_madeKind a_oldKind a_resultKind a_inValue a_leftValue a_madeValue a_oldValue a_resultValue a_from a_to a_whole a_known a_bound a_whose a_rank a_one a_two a_oneOf a_twoOf a_headAt a_headOf a_headLeft a_pairs a_first : Nat → Int32}
theorem yu_36 {post : Int32 → SY → Prop} {A B : List Int64} {r N : Nat} {k0 v0 : Nat → Int32} (hr : r < 8) (hN : N = A.length + B.length) (hN30 : N ≤ 30) (hA : tm_w A 1) (hAt : ∀ t, t ∈ A → tk_r t) (H : ∀ ka va, hd_y tk_kR tk_vR ka va (30 * r) (A ++ B) → (∀ j, (j < 30 * r ∨ 30 * r + 30 ≤ j) → ka j = k0 j ∧ va j = v0 j) → post 0 (f_place, f_count, f_top, f_done, f_open, f_steps, f_shownSteps, f_fault, f_in, f_made, f_old, f_size, f_heads, 0, ka, va, upd a_all r (nI N), upd a_split r (nI A.length), a_toKind, a_doneKind, a_toValue, a_doneValue, a_begins, a_lacks, a_inKind, a_leftKind, a_madeKind, a_oldKind, a_resultKind, a_inValue, a_leftValue, a_madeValue, a_oldValue, a_resultValue, a_from, a_to, a_whole, a_known, a_bound, a_whose, a_rank, a_one, a_two, a_oneOf, a_twoOf, a_headAt, a_headOf, a_headLeft, a_pairs, a_first)) : ∀ (l q : List Int64) (ka va : Nat → Int32) (n k : Nat), A ++ B = q ++ l → k = q.length → hd_y tk_kR tk_vR ka va (240 + k) l → hd_y tk_kR tk_vR ka va (30 * r) q → (∀ j, (j < 30 * r ∨ 30 * r + 30 ≤ j) → ka j = k0 j ∧ va j = v0 j) → l.length < n → wY_rule_36 post (nI r) (nI N) f_place f_count f_top f_done f_open f_steps f_shownSteps f_fault f_in f_made f_old f_size f_heads f_fresh n (nI k) ka va a_all a_split a_toKind a_doneKind a_toValue a_doneValue a_begins a_lacks a_inKind a_leftKind a_madeKind a_oldKind a_resultKind a_inValue a_leftValue a_madeValue a_oldValue a_resultValue a_from a_to a_whole a_known a_bound a_whose a_rank a_one a_two a_oneOf a_twoOf a_headAt a_headOf a_headLeft a_pairs a_first
  | [], q, ka, va, n, k, e, hk, h2, h3, ho, hn => by
    obtain ⟨n, rfl⟩ : ∃ n', n = n' + 1 := ⟨n - 1, by omega⟩
    rw [List.append_nil] at e
    have hkN : k = N := by rw [hk, ← e, List.length_append, hN]
    subst e
    have er : (nI r).toNatClampNeg = r := nI_clamp (by omega)
    refine pk_le N k (fun _ => ?_) (fun z => absurd z (by omega))
    refine ⟨vp_in_nI (by omega) (by omega), nm_r (e' := upd a_all r (nI N)) (by rw [er, (tk_nb (by omega)).1]) ?_⟩
    have e1 : (30 : Int32) * nI r = nI (30 * r) := by rw [show (30 : Int32) = nI 30 from rfl, pk_mul]
    rw [e1, nI_add]
    refine ye_end (a := A) (30 * r) (30 * r + N) (30 * r + A.length) hA (hy_app.mp h3).1 hAt (by omega) rfl (by omega) ?_
    refine ⟨vp_in_nI hr (by omega), nm_r (e' := upd a_split r (nI A.length)) ?_ (H ka va h3 ho)⟩
    rw [er, pk_sub (by omega), show 30 * r + A.length - 30 * r = A.length by omega, (tk_nb (by omega)).1]
  | t :: l, q, ka, va, n, k, e, hk, h2, h3, ho, hn => by
    obtain ⟨n, rfl⟩ : ∃ n', n = n' + 1 := ⟨n - 1, by omega⟩
    rw [List.length_cons] at hn
    have hlen : A.length + B.length = q.length + (l.length + 1) := by rw [← List.length_append, e, List.length_append]; rfl
    have e1 : (30 : Int32) * nI r + nI k = nI (30 * r + k) := by rw [show (30 : Int32) = nI 30 from rfl, pk_mul, nI_add]
    have e2 : (240 : Int32) + nI k = nI (240 + k) := nI_add 240 k
    have i1 : vp_in ((30 : Int32) * nI r + nI k) 270 := by rw [e1]; exact vp_in_nI (by omega) (by omega)
    have i2 : vp_in ((240 : Int32) + nI k) 270 := by rw [e2]; exact vp_in_nI (by omega) (by omega)
    have c1 : ((30 : Int32) * nI r + nI k).toNatClampNeg = 30 * r + k := by rw [e1]; exact nI_clamp (by omega)
    have c2 : ((240 : Int32) + nI k).toNatClampNeg = 240 + k := by rw [e2]; exact nI_clamp (by omega)
    refine pk_le N k (fun z => absurd z (by omega)) (fun _ => ⟨i2, i1, nm_r (e' := upd ka (30 * r + k) (tk_kR t)) (by rw [c1, c2, h2.1.1, (tk_narR t).1]) ⟨i2, i1, nm_r (e' := upd va (30 * r + k) (tk_vR t)) (by rw [c1, c2, h2.1.2]) (nm_r (nI_1 k) ?_)⟩⟩)
    refine yu_36 hr hN hN30 hA hAt H l (q ++ [t]) _ _ n (k + 1) (by rw [e, List.append_assoc]; rfl) (by simp; omega) (hy_upd h2.2 (Or.inl (by omega))) (hy_snoc _ (by omega) h3) (fun j hj => ?_) (by omega)
    rw [pk_un (by omega), pk_un (by omega)]
    exact ho j hj
end
theorem i_vc_rule {k : Nat} {u : SX} {v : SY} (I : i_Rel k u v) (hk : k + 3 ≤ 1536) (v1 : Int32) : wpX_rule (fun r u' => wpY_rule (fun r' v' => r' = r ∧ i_Rel (k + 3) u' v') v v1) u v1 := by
  obtain ⟨f_drafted, f_faultPlace, f_reportedSteps, f_resultSize, f_sheetSize, f_waitingSize, f_builtSize, f_unfinished, f_taken, f_keptSize, f_stacked, f_ranked, f_surveyed, a_draft, a_result, a_lefts, a_leftSize, a_ways, a_rights, a_rightSize, a_sheet, a_waiting, a_built, a_unfinishedStart, a_unfinishedLacks, a_kept, a_matchStart, a_matchEnd, a_joint, a_unified, a_oneStack, a_otherStack, a_nestedAt, a_nestedEnd, a_rank, a_pairCount, a_firstOpen⟩ := u
  obtain ⟨f_place', f_count', f_top', f_done', f_open', f_steps', f_shownSteps', f_fault', f_in', f_made', f_old', f_size', f_heads', f_fresh', a_kind', a_value', a_all', a_split', a_toKind', a_doneKind', a_toValue', a_doneValue', a_begins', a_lacks', a_inKind', a_leftKind', a_madeKind', a_oldKind', a_resultKind', a_inValue', a_leftValue', a_madeValue', a_oldValue', a_resultValue', a_from', a_to', a_whole', a_known', a_bound', a_whose', a_rank', a_one', a_two', a_oneOf', a_twoOf', a_headAt', a_headOf', a_headLeft', a_pairs', a_first'⟩ := v
  have J := I
  obtain ⟨D, Q, L, R, pl, st, fr, pc, fo, hG, ⟨x1, x2, x3, x4, x5, x6, x7, x8, x9⟩, ⟨y1, y2, y3, y4, y5, y6, y7, y8, y9⟩⟩ := I
  subst x1
  obtain ⟨hD, hDr, hQ, hQd, hGG⟩ := hG
  by_cases h0 : v1 < 0
  · exact br_t h0 (br_t h0 ⟨rfl, J⟩)
  · obtain ⟨j, hj, rfl⟩ := nI_of h0
    refine br_f h0 (pk_lt j 8 (fun h8 => ?_) (fun h8 => br_f h0 (pk_le j 7 (fun z => absurd z (by omega)) (fun _ => ⟨rfl, J⟩))))
    obtain ⟨r, rX, rY, rG⟩ := fb_rule (D := D) D.length rfl hD x2 y2 y1 hDr
    refine rX _ ?_
    have refSide : ∀ (PP : Int32 → SY → Prop), ((r < 0 → (∃ n36 : Nat, wY_rule_36 PP (nI j) (nI D.length) f_place' f_count' f_top' f_done' f_open' f_steps' f_shownSteps' f_fault' f_in' f_made' f_old' f_size' f_heads' f_fresh' n36 0 a_kind' a_value' (upd a_all' 8 0) a_split' a_toKind' a_doneKind' a_toValue' a_doneValue' a_begins' a_lacks' a_inKind' a_leftKind' a_madeKind' a_oldKind' a_resultKind' a_inValue' a_leftValue' a_madeValue' a_oldValue' a_resultValue' a_from' a_to' a_whole' a_known' a_bound' a_whose' a_rank' a_one' a_two' a_oneOf' a_twoOf' a_headAt' a_headOf' a_headLeft' a_pairs' a_first')) ∧ (¬ r < 0 → PP 1 (r, f_count', f_top', f_done', f_open', f_steps', f_shownSteps', f_fault', f_in', f_made', f_old', f_size', f_heads', f_fresh', a_kind', a_value', upd a_all' 8 0, a_split', a_toKind', a_doneKind', a_toValue', a_doneValue', a_begins', a_lacks', a_inKind', a_leftKind', a_madeKind', a_oldKind', a_resultKind', a_inValue', a_leftValue', a_madeValue', a_oldValue', a_resultValue', a_from', a_to', a_whole', a_known', a_bound', a_whose', a_rank', a_one', a_two', a_oneOf', a_twoOf', a_headAt', a_headOf', a_headLeft', a_pairs', a_first'))) → wpY_rule PP (f_place', f_count', f_top', f_done', f_open', f_steps', f_shownSteps', f_fault', f_in', f_made', f_old', f_size', f_heads', f_fresh', a_kind', a_value', a_all', a_split', a_toKind', a_doneKind', a_toValue', a_doneValue', a_begins', a_lacks', a_inKind', a_leftKind', a_madeKind', a_oldKind', a_resultKind', a_inValue', a_leftValue', a_madeValue', a_oldValue', a_resultValue', a_from', a_to', a_whole', a_known', a_bound', a_whose', a_rank', a_one', a_two', a_oneOf', a_twoOf', a_headAt', a_headOf', a_headLeft', a_pairs', a_first') (nI j) := by
      intro PP H
      refine br_f h0 (pk_le j 7 (fun _ => rY _ ?_) (fun z => absurd z (by omega)))
      refine nm_e (nm_r (e' := upd a_all' 8 0) (by rw [vp_nar_byte]; rfl) ?_)
      rw [y1]
      exact H
    rcases rG with ⟨e, A, B, eD, hA, hB, hc9, hhd, hnm⟩ | ⟨q, hq, e⟩
    · subst e
      have hlen : D.length = A.length + B.length := by rw [eD, List.length_append]
      have hAt : ∀ t, t ∈ A → tk_r t := fun t ht => hDr t (by rw [eD]; exact List.mem_append.mpr (Or.inl ht))
      have hBt : ∀ t, t ∈ B → tk_r t := fun t ht => hDr t (by rw [eD]; exact List.mem_append.mpr (Or.inr ht))
      have hA0 : A ≠ [] := by obtain ⟨t, l, e, _⟩ := hhd; rw [e]; exact List.cons_ne_nil _ _
      have hAl := tm_w_len _ _ hA
      have hBl := tm_w_len _ _ hB
      refine br_f (by decide) ?_
      rw [eD] at x2 y2
      refine xs_rule (A := A) (B := B) j D.length h8 hlen hD hA hB hc9 x2 (fun ss zs le ri g1 g2 g3 g4 => ?_)
      refine br_f (by decide) (refSide _ (br_t (by decide) ⟨D.length + 1, ?_⟩))
      refine yu_36 (A := A) (B := B) (k0 := a_kind') (v0 := a_value') h8 hlen hD hA hAt (fun ka va q1 q2 => ⟨rfl, ?_⟩) (A ++ B) [] a_kind' a_value' _ 0 rfl rfl y2 trivial (fun j _ => ⟨rfl, rfl⟩) (by rw [← eD]; omega)
      refine ⟨[], Q, (fun i => if i = j then A else L i), (fun i => if i = j then B else R i), pl, st, false, pc, fo, ⟨by simp, by simp, hQ, hQd, fun i => ?_⟩, ⟨rfl, trivial, x3, x4, x5, x6, fun i hi => ?_, rfl, fun z => absurd z (by decide)⟩, ⟨by rw [pk_un (by omega)]; exact pk_us, trivial, y3, y4, y5, y6, fun i hi => ?_, rfl, fun z => absurd z (by decide)⟩⟩
      · dsimp only
        by_cases ei : i = j
        · rw [if_pos ei, if_pos ei]
          exact Or.inr ⟨hA, hB, by omega, hAt, hBt, hhd, hc9, hnm⟩
        · rw [if_neg ei, if_neg ei]
          exact hGG i
      · dsimp only
        by_cases ei : i = j
        · subst ei
          rw [if_pos rfl, if_pos rfl, pk_us, pk_us, pk_us]
          exact ⟨⟨A.length, B.length, rfl, rfl, by omega, by omega⟩, fun z => absurd z hA0, fun _ => ⟨rfl, rfl, rfl, g3, g1⟩⟩
        · rw [if_neg ei, if_neg ei, pk_un ei, pk_un ei, pk_un ei]
          obtain ⟨z1, z2, z3⟩ := x7 i hi
          refine ⟨z1, z2, fun hL => ?_⟩
          obtain ⟨w1, w2, w3, w4, w5⟩ := z3 hL
          rcases hGG i with g | g
          · exact absurd g hL
          have gl := g.2.2.1
          have h16 : 2 ^ ru_c9 (L i) ≤ 16 := Nat.le_trans (Nat.pow_le_pow_right (by omega) g.2.2.2.2.2.2.1) (by decide)
          refine ⟨w1, w2, w3, ?_, fun w hw => ?_⟩
          · refine hd_congr (fun p a b => g4 p ?_) w4
            omega
          · have hl := ru_wy_len (L i) w
            refine hd_congr (fun p a b => g2 p ?_) (w5 w hw)
            rw [hl] at b
            omega
      · dsimp only
        by_cases ei : i = j
        · subst ei
          rw [if_pos rfl, if_pos rfl, pk_us, pk_us, ← hlen]
          exact ⟨fun z => absurd z hA0, fun _ => ⟨rfl, rfl, q1⟩⟩
        · rw [if_neg ei, if_neg ei, pk_un ei, pk_un ei, pk_un (by omega)]
          obtain ⟨z1, z2⟩ := y7 i hi
          refine ⟨z1, fun hL => ?_⟩
          obtain ⟨w1, w2, w3⟩ := z2 hL
          rcases hGG i with g | g
          · exact absurd g hL
          have gl := g.2.2.1
          refine ⟨w1, w2, hy_congr (fun p a b => q2 p ?_) w3⟩
          rw [List.length_append] at b
          omega
    · have hneg : ¬ r < 0 := by rw [e]; exact nI_pos (by omega)
      have hpos : 0 ≤ r := by rw [e]; exact nI_pos' (by omega)
      refine br_t hpos (br_t hpos (refSide _ (br_f hneg ⟨rfl, ?_⟩)))
      refine ⟨[], Q, L, R, r, st, fr, pc, fo, ⟨by simp, by simp, hQ, hQd, hGG⟩, ⟨rfl, trivial, rfl, x4, x5, x6, x7, x8, x9⟩, ⟨pk_us, trivial, rfl, y4, y5, y6, fun i hi => ?_, y8, y9⟩⟩
      rw [pk_un (by omega)]
      exact y7 i hi
end
section
/-! equal: each side by itself -/
section
variable {f_drafted f_faultPlace f_reportedSteps f_resultSize f_sheetSize f_waitingSize f_builtSize f_unfinished f_taken f_keptSize f_stacked f_ranked f_surveyed : Int32} {a_draft a_result a_lefts a_rights a_sheet a_waiting a_built a_kept a_joint : Nat → Int64} {a_leftSize a_ways a_rightSize a_unfinishedStart a_unfinishedLacks a_matchStart a_matchEnd a_unified a_oneStack a_otherStack a_nestedAt a_nestedEnd a_rank a_pairCount a_firstOpen : Nat → Int32}
theorem xq_equal {post : Int32 → SX → Prop} {L R : Nat → List Int64} {D A B : List Int64} {c1 t1 c2 t2 : Nat} {s1 s2 : List Int64} (N : Nat) (hN : N = D.length) (hGG : mc_G L R) (hR : xr_R L R a_lefts a_leftSize a_ways a_rights a_rightSize) (eD : D = A ++ B) (hA : tm_w A 1) (hB : tm_w B 1) (hD : D.length ≤ 30) (htd : ∀ t, t ∈ D → tk_d t) (x2 : hd_h a_draft 0 D) (hf : ∀ post : Int32 → Prop, post (-1) → wpX_faultOf post (nI N, f_faultPlace, f_reportedSteps, 0, f_sheetSize, f_waitingSize, f_builtSize, f_unfinished, f_taken, f_keptSize, f_stacked, f_ranked, f_surveyed, a_draft, a_result, a_lefts, a_leftSize, a_ways, a_rights, a_rightSize, a_sheet, a_waiting, a_built, a_unfinishedStart, a_unfinishedLacks, a_kept, a_matchStart, a_matchEnd, a_joint, a_unified, a_oneStack, a_otherStack, a_nestedAt, a_nestedEnd, a_rank, a_pairCount, a_firstOpen) 2 0)
    (run1 : mc_run L R 4000 A [] 0 none = (c1, t1, s1)) (ok1 : c1 ≤ 3 ∧ (c1 = 0 → t1 ≤ 60 ∧ s1.length ≤ 30)) (run2 : c1 = 0 → mc_run L R 4000 B [] t1 none = (c2, t2, s2)) (ok2 : c2 ≤ 3 ∧ (c2 = 0 → s2.length ≤ 30))
    (H1 : c1 ≠ 0 → ∀ (ss ws bs uf tk ks : Int32) (zs zw zb zk : Nat → Int64) (us ul ms me : Nat → Int32), post (-(nI c1)) (nI N, f_faultPlace, nI t1, 0, ss, ws, bs, uf, tk, ks, f_stacked, f_ranked, f_surveyed, a_draft, a_result, a_lefts, a_leftSize, a_ways, a_rights, a_rightSize, zs, zw, zb, us, ul, zk, ms, me, a_joint, a_unified, a_oneStack, a_otherStack, a_nestedAt, a_nestedEnd, a_rank, a_pairCount, a_firstOpen))
    (H2 : c1 = 0 → c2 ≠ 0 → ∀ (ss ws bs uf tk ks : Int32) (zs zw zb zk : Nat → Int64) (us ul ms me : Nat → Int32), post (-(nI c2)) (nI N, f_faultPlace, nI t2, 0, ss, ws, bs, uf, tk, ks, f_stacked, f_ranked, f_surveyed, a_draft, a_result, a_lefts, a_leftSize, a_ways, a_rights, a_rightSize, zs, zw, zb, us, ul, zk, ms, me, a_joint, a_unified, a_oneStack, a_otherStack, a_nestedAt, a_nestedEnd, a_rank, a_pairCount, a_firstOpen))
    (H3 : c1 = 0 → c2 = 0 → ∀ (ss ws bs uf tk ks : Int32) (zs zw zb zk : Nat → Int64) (us ul ms me : Nat → Int32), post (if s1 = s2 then 1 else 0) (nI N, f_faultPlace, nI t2, 0, ss, ws, bs, uf, tk, ks, f_stacked, f_ranked, f_surveyed, a_draft, a_result, a_lefts, a_leftSize, a_ways, a_rights, a_rightSize, zs, zw, zb, us, ul, zk, ms, me, a_joint, a_unified, a_oneStack, a_otherStack, a_nestedAt, a_nestedEnd, a_rank, a_pairCount, a_firstOpen)) :
    wpX_equal post (nI N, f_faultPlace, f_reportedSteps, f_resultSize, f_sheetSize, f_waitingSize, f_builtSize, f_unfinished, f_taken, f_keptSize, f_stacked, f_ranked, f_surveyed, a_draft, a_result, a_lefts, a_leftSize, a_ways, a_rights, a_rightSize, a_sheet, a_waiting, a_built, a_unfinishedStart, a_unfinishedLacks, a_kept, a_matchStart, a_matchEnd, a_joint, a_unified, a_oneStack, a_otherStack, a_nestedAt, a_nestedEnd, a_rank, a_pairCount, a_firstOpen) := by
  have tkt : ∀ x, tk_d x → tk_t x := fun x => tk_d_t
  have tkd : ∀ x, tk_d x → tk_d x := fun x h => h
  have hlen : D.length = A.length + B.length := by rw [eD, List.length_append]
  have hAl := tm_w_len _ _ hA
  have hBl := tm_w_len _ _ hB
  have hAd : ∀ t, t ∈ A → tk_d t := fun t ht => htd t (by rw [eD]; exact List.mem_append.mpr (Or.inl ht))
  have hBd : ∀ t, t ∈ B → tk_d t := fun t ht => htd t (by rw [eD]; exact List.mem_append.mpr (Or.inr ht))
  have hx2 : hd_h a_draft 0 (A ++ B) := by rw [← eD]; exact x2
  obtain ⟨hxA, hxB⟩ := hd_app.mp hx2
  rw [Nat.zero_add] at hxB
  unfold wpX_equal
  dsimp only
  refine hf _ (br_t (by decide) ?_)
  refine xe_draft (a := A) (r := B) 0 N A.length hA hx2 (by omega) (by omega) (by omega) ?_
  refine xn_take (l := A) 0 A.length (by omega) (by omega) hxA (fun zs hz => ?_)
  refine xn_nf (P := tk_d) (q := A) A.length 0 tkt tkd hGG hR hA (by omega) hAd (by omega) rfl hz (fun c t' s' hrun ss ws bs uf zs' zw zb us ul ms me hc => ?_)
  rw [run1] at hrun
  injection hrun with e1 e2
  injection e2 with e2 e3
  subst e1 e2 e3
  by_cases h0 : c1 = 0
  · subst h0
    obtain ⟨b1, b2⟩ := hc rfl
    obtain ⟨w1, w3⟩ := ok1.2 rfl
    have run2 := run2 rfl
    subst b1
    refine br_t rfl ?_
    refine xn_keep (l := s1) s1.length rfl w3 b2 (fun zk hzk => ?_)
    refine xn_take (l := B) A.length N (by omega) (by omega) hxB (fun zs2 hz2 => ?_)
    refine xn_nf (P := tk_d) (q := B) B.length t1 tkt tkd hGG hR hB (by omega) hBd w1 rfl hz2 (fun c t' s' hrun ss2 ws2 bs2 uf2 zs2' zw2 zb2 us2 ul2 ms2 me2 hc2 => ?_)
    rw [run2] at hrun
    injection hrun with e1 e2
    injection e2 with e2 e3
    subst e1 e2 e3
    by_cases h2 : c2 = 0
    · have b3 := (hc2 h2).1
      have b4 := (hc2 h2).2
      have v3 := ok2.2 h2
      subst b3
      have H3 := H3 rfl h2
      refine br_t (by rw [h2]; rfl) ?_
      refine xn_same (a := s1) (b := s2) s1.length s2.length rfl rfl w3 v3 hzk b4 (fun hab => ?_) (fun hab => ?_)
      · rw [if_pos hab] at H3
        exact br_f (by decide) (H3 _ _ _ _ _ _ _ _ _ _ _ _ _ _)
      · rw [if_neg hab] at H3
        exact br_t rfl (H3 _ _ _ _ _ _ _ _ _ _ _ _ _ _)
    · have hcn : ¬ nI c2 = 0 := by rw [← nI_0, nI_eq (by omega) (by omega)]; exact h2
      exact br_f hcn (H2 rfl h2 _ _ _ _ _ _ _ _ _ _ _ _ _ _)
  · have hcn : ¬ nI c1 = 0 := by rw [← nI_0, nI_eq (by omega) (by omega)]; exact h0
    exact br_f hcn (br_f hcn (H1 h0 _ _ _ _ _ _ _ _ _ _ _ _ _ _))
end
end
section
/-! equal: the reference, and both -/
section
variable {f_place f_count f_top f_done f_open f_steps f_shownSteps f_fault f_in f_made f_old f_size f_heads f_fresh : Int32} {a_kind a_value a_all a_split a_toKind a_doneKind a_toValue a_doneValue a_begins a_lacks a_inKind a_leftKind a_madeKind a_oldKind a_resultKind a_inValue a_leftValue a_madeValue a_oldValue a_resultValue a_from a_to a_whole a_known a_bound a_whose a_rank a_one a_two a_oneOf a_twoOf a_headAt a_headOf a_headLeft a_pairs a_first : Nat → Int32}
theorem yb_begin2 {post : SY → Prop} {l : List Int64} {x y : Int32} (fr N : Nat) (hx : x = nI fr) (hy : y = nI N) (hN : N = l.length) (hN32 : N ≤ 32) (hfr : fr + N ≤ 270) (hh : hd_y tk_kR tk_vR a_kind a_value fr l) (H : ∀ ka' va', hd_y tk_kR tk_vR ka' va' 0 l → post (f_place, f_count, f_top, f_done, f_open, f_steps, f_shownSteps, f_fault, nI N, f_made, f_old, f_size, f_heads, f_fresh, a_kind, a_value, a_all, a_split, a_toKind, a_doneKind, a_toValue, a_doneValue, a_begins, a_lacks, ka', a_leftKind, a_madeKind, a_oldKind, a_resultKind, va', a_leftValue, a_madeValue, a_oldValue, a_resultValue, a_from, a_to, a_whole, a_known, a_bound, a_whose, a_rank, a_one, a_two, a_oneOf, a_twoOf, a_headAt, a_headOf, a_headLeft, a_pairs, a_first)) : wpY_begin post (f_place, f_count, f_top, f_done, f_open, f_steps, f_shownSteps, f_fault, f_in, f_made, f_old, f_size, f_heads, f_fresh, a_kind, a_value, a_all, a_split, a_toKind, a_doneKind, a_toValue, a_doneValue, a_begins, a_lacks, a_inKind, a_leftKind, a_madeKind, a_oldKind, a_resultKind, a_inValue, a_leftValue, a_madeValue, a_oldValue, a_resultValue, a_from, a_to, a_whole, a_known, a_bound, a_whose, a_rank, a_one, a_two, a_oneOf, a_twoOf, a_headAt, a_headOf, a_headLeft, a_pairs, a_first) x y := by
  subst hx hy
  exact yb_begin fr N hN hN32 hfr hh H
theorem ye_end2 {post : Int32 → Prop} {a : List Int64} {x y : Int32} (i e q : Nat) (hx : x = nI i) (hy : y = nI e) (hw : tm_w a 1) (hh : hd_y tk_kR tk_vR a_kind a_value i a) (ht : ∀ t, t ∈ a → tk_r t) (he : i + a.length ≤ e) (hq : q = i + a.length) (hl : e ≤ 270) (hp : post (nI q)) : wpY_endOf post (f_place, f_count, f_top, f_done, f_open, f_steps, f_shownSteps, f_fault, f_in, f_made, f_old, f_size, f_heads, f_fresh, a_kind, a_value, a_all, a_split, a_toKind, a_doneKind, a_toValue, a_doneValue, a_begins, a_lacks, a_inKind, a_leftKind, a_madeKind, a_oldKind, a_resultKind, a_inValue, a_leftValue, a_madeValue, a_oldValue, a_resultValue, a_from, a_to, a_whole, a_known, a_bound, a_whose, a_rank, a_one, a_two, a_oneOf, a_twoOf, a_headAt, a_headOf, a_headLeft, a_pairs, a_first) x y := by
  subst hx hy
  exact ye_end i e q hw hh ht he hq hl hp
theorem yq_equal {post : Int32 → SY → Prop} {L R : Nat → List Int64} {D A B : List Int64} {c1 t1 c2 t2 : Nat} {s1 s2 : List Int64} (hGG : mc_G L R) (hR : yr_R L R a_kind a_value a_all a_split) (eD : D = A ++ B) (hA : tm_w A 1) (hB : tm_w B 1) (hD : D.length ≤ 30) (htd : ∀ t, t ∈ D → tk_d t) (y1 : a_all 8 = nI D.length) (y2 : hd_y tk_kR tk_vR a_kind a_value 240 D) (hf : ∀ post : Int32 → Prop, post (-1) → wpY_unfit post (f_place, f_count, f_top, f_done, f_open, f_steps, f_shownSteps, f_fault, f_in, f_made, f_old, 0, f_heads, f_fresh, a_kind, a_value, a_all, a_split, a_toKind, a_doneKind, a_toValue, a_doneValue, a_begins, a_lacks, a_inKind, a_leftKind, a_madeKind, a_oldKind, a_resultKind, a_inValue, a_leftValue, a_madeValue, a_oldValue, a_resultValue, a_from, a_to, a_whole, a_known, a_bound, a_whose, a_rank, a_one, a_two, a_oneOf, a_twoOf, a_headAt, a_headOf, a_headLeft, a_pairs, a_first) 2)
    (run1 : mc_run L R 4000 A [] 0 none = (c1, t1, s1)) (ok1 : c1 ≤ 3 ∧ (c1 = 0 → t1 ≤ 60 ∧ s1.length ≤ 30 ∧ ∀ t, t ∈ s1 → tk_d t)) (run2 : c1 = 0 → mc_run L R 4000 B [] t1 none = (c2, t2, s2)) (ok2 : c2 ≤ 3 ∧ (c2 = 0 → s2.length ≤ 30 ∧ ∀ t, t ∈ s2 → tk_d t))
    (H1 : c1 ≠ 0 → ∀ (tp dn sp fa md op inn od : Int32) (tk tv dk dv lk lv mdk mdv fr to wh kn bg lc ik iv ok ov : Nat → Int32), post (-(nI c1)) (f_place, f_count, tp, dn, op, sp, nI t1, fa, inn, md, od, 0, f_heads, f_fresh, a_kind, a_value, a_all, a_split, tk, dk, tv, dv, bg, lc, ik, lk, mdk, ok, a_resultKind, iv, lv, mdv, ov, a_resultValue, fr, to, wh, kn, a_bound, a_whose, a_rank, a_one, a_two, a_oneOf, a_twoOf, a_headAt, a_headOf, a_headLeft, a_pairs, a_first))
    (H2 : c1 = 0 → c2 ≠ 0 → ∀ (tp dn sp fa md op inn od : Int32) (tk tv dk dv lk lv mdk mdv fr to wh kn bg lc ik iv ok ov : Nat → Int32), post (-(nI c2)) (f_place, f_count, tp, dn, op, sp, nI t2, fa, inn, md, od, 0, f_heads, f_fresh, a_kind, a_value, a_all, a_split, tk, dk, tv, dv, bg, lc, ik, lk, mdk, ok, a_resultKind, iv, lv, mdv, ov, a_resultValue, fr, to, wh, kn, a_bound, a_whose, a_rank, a_one, a_two, a_oneOf, a_twoOf, a_headAt, a_headOf, a_headLeft, a_pairs, a_first))
    (H3 : c1 = 0 → c2 = 0 → ∀ (tp dn sp fa md op inn od : Int32) (tk tv dk dv lk lv mdk mdv fr to wh kn bg lc ik iv ok ov : Nat → Int32), post (if s1 = s2 then 1 else 0) (f_place, f_count, tp, dn, op, sp, nI t2, fa, inn, md, od, 0, f_heads, f_fresh, a_kind, a_value, a_all, a_split, tk, dk, tv, dv, bg, lc, ik, lk, mdk, ok, a_resultKind, iv, lv, mdv, ov, a_resultValue, fr, to, wh, kn, a_bound, a_whose, a_rank, a_one, a_two, a_oneOf, a_twoOf, a_headAt, a_headOf, a_headLeft, a_pairs, a_first)) :
    wpY_equal post (f_place, f_count, f_top, f_done, f_open, f_steps, f_shownSteps, f_fault, f_in, f_made, f_old, f_size, f_heads, f_fresh, a_kind, a_value, a_all, a_split, a_toKind, a_doneKind, a_toValue, a_doneValue, a_begins, a_lacks, a_inKind, a_leftKind, a_madeKind, a_oldKind, a_resultKind, a_inValue, a_leftValue, a_madeValue, a_oldValue, a_resultValue, a_from, a_to, a_whole, a_known, a_bound, a_whose, a_rank, a_one, a_two, a_oneOf, a_twoOf, a_headAt, a_headOf, a_headLeft, a_pairs, a_first) := by
  have tkt : ∀ x, tk_d x → tk_t x := fun x => tk_d_t
  have tkd : ∀ x, tk_d x → tk_d x := fun x h => h
  have hlen : D.length = A.length + B.length := by rw [eD, List.length_append]
  have hAl := tm_w_len _ _ hA
  have hBl := tm_w_len _ _ hB
  have hAd : ∀ t, t ∈ A → tk_d t := fun t ht => htd t (by rw [eD]; exact List.mem_append.mpr (Or.inl ht))
  have hBd : ∀ t, t ∈ B → tk_d t := fun t ht => htd t (by rw [eD]; exact List.mem_append.mpr (Or.inr ht))
  have hy2 : hd_y tk_kR tk_vR a_kind a_value 240 (A ++ B) := by rw [← eD]; exact y2
  have hyA := (hy_app.mp hy2).1
  have hyB := (hy_app.mp hy2).2
  unfold wpY_equal
  refine hf _ (br_t (by decide) ?_)
  refine ye_end2 (a := A) 240 (240 + D.length) (240 + A.length) rfl (by rw [y1]; exact nI_add 240 _) hA hyA (fun t ht => tk_d_r (hAd t ht)) (by omega) rfl (by omega) ?_
  refine nm_r (e' := nI A.length) (by rw [show (240 : Int32) = nI 240 from rfl, pk_sub (by omega), show 240 + A.length - 240 = A.length by omega]) ?_
  refine yb_begin (l := A) 240 A.length rfl (by omega) (by omega) hyA (fun ik iv hz => ?_)
  refine yn_nf (P := tk_d) (q := A) A.length 0 tkt tkd hGG hR hA (by omega) hAd (by omega) rfl (hy_dT hAd hz) (fun c t' s' hrun tp dn sp fa md op tk tv dk dv lk lv mdk mdv fr to wh kn bg lc hc => ?_)
  have er := run1.symm.trans hrun
  injection er with e1 e2
  injection e2 with e2 e3
  subst e1 e2 e3
  by_cases h0 : c1 = 0
  · have b1 := (hc h0).1
    have b2 := (hc h0).2
    have w1 := (ok1.2 h0).1
    have w3 := (ok1.2 h0).2.1
    have w4 := (ok1.2 h0).2.2
    have run2 := run2 h0
    subst b1
    refine br_t (by rw [h0]; rfl) ?_
    refine yb_keep (l := s1) s1.length rfl (by omega) b2 (fun ok ov hov => ?_)
    refine yb_begin2 (l := B) (240 + A.length) B.length (nI_add 240 _) (by rw [y1, pk_sub (by omega), show D.length - A.length = B.length by omega]) rfl (by omega) (by omega) hyB (fun ik2 iv2 hz3 => ?_)
    refine yn_nf (P := tk_d) (q := B) B.length t1 tkt tkd hGG hR hB (by omega) hBd w1 rfl (hy_dT hBd hz3) (fun c3 t3 s3 hrun3 tp dn sp fa md op tk tv dk dv lk lv mdk mdv fr to wh kn bg lc hc3 => ?_)
    have er := run2.symm.trans hrun3
    injection er with e1 e2
    injection e2 with e2 e3
    subst e1 e2 e3
    by_cases h2 : c2 = 0
    · have b3 := (hc3 h2).1
      have b4 := (hc3 h2).2
      have v3 := (ok2.2 h2).1
      have v4 := (ok2.2 h2).2
      subst b3
      have H3 := H3 h0 h2
      refine br_t (by rw [h2]; rfl) ?_
      refine yb_same (a := s1) (b := s2) s1.length s2.length rfl rfl (by omega) (by omega) hov b4 (fun t ht => tkt t (w4 t ht)) (fun t ht => tkt t (v4 t ht)) (fun hab => ?_) (fun hab => ?_)
      · rw [if_pos hab] at H3
        exact br_f (by decide) (H3 _ _ _ _ _ _ _ _ _ _ _ _ _ _ _ _ _ _ _ _ _ _ _ _ _ _)
      · rw [if_neg hab] at H3
        exact br_t rfl (H3 _ _ _ _ _ _ _ _ _ _ _ _ _ _ _ _ _ _ _ _ _ _ _ _ _ _)
    · have hcn : ¬ nI c2 = 0 := by rw [← nI_0, nI_eq (by omega) (by omega)]; exact h2
      exact br_f hcn (H2 h0 h2 _ _ _ _ _ _ _ _ _ _ _ _ _ _ _ _ _ _ _ _ _ _ _ _ _ _)
  · have hcn : ¬ nI c1 = 0 := by rw [← nI_0, nI_eq (by omega) (by omega)]; exact h0
    exact br_f hcn (br_f hcn (H1 h0 _ _ _ _ _ _ _ _ _ _ _ _ _ _ _ _ _ _ _ _ _ _ _ _ _ _))
end
theorem i_vc_equal {k : Nat} {u : SX} {v : SY} (I : i_Rel k u v) (hk : k + 3 ≤ 1536) : wpX_equal (fun r u' => wpY_equal (fun r' v' => r' = r ∧ i_Rel (k + 3) u' v') v) u := by
  obtain ⟨f_drafted, f_faultPlace, f_reportedSteps, f_resultSize, f_sheetSize, f_waitingSize, f_builtSize, f_unfinished, f_taken, f_keptSize, f_stacked, f_ranked, f_surveyed, a_draft, a_result, a_lefts, a_leftSize, a_ways, a_rights, a_rightSize, a_sheet, a_waiting, a_built, a_unfinishedStart, a_unfinishedLacks, a_kept, a_matchStart, a_matchEnd, a_joint, a_unified, a_oneStack, a_otherStack, a_nestedAt, a_nestedEnd, a_rank, a_pairCount, a_firstOpen⟩ := u
  obtain ⟨f_place', f_count', f_top', f_done', f_open', f_steps', f_shownSteps', f_fault', f_in', f_made', f_old', f_size', f_heads', f_fresh', a_kind', a_value', a_all', a_split', a_toKind', a_doneKind', a_toValue', a_doneValue', a_begins', a_lacks', a_inKind', a_leftKind', a_madeKind', a_oldKind', a_resultKind', a_inValue', a_leftValue', a_madeValue', a_oldValue', a_resultValue', a_from', a_to', a_whole', a_known', a_bound', a_whose', a_rank', a_one', a_two', a_oneOf', a_twoOf', a_headAt', a_headOf', a_headLeft', a_pairs', a_first'⟩ := v
  obtain ⟨D, Q, L, R, pl, st, fr, pc, fo, hG, ⟨x1, x2, x3, x4, x5, x6, x7, x8, x9⟩, ⟨y1, y2, y3, y4, y5, y6, y7, y8, y9⟩⟩ := I
  subst x1
  obtain ⟨hD, hDr, hQ, hQd, hGG⟩ := hG
  obtain ⟨r, rX, rY, rG⟩ := fa_12 (D := D) D.length 2 rfl hD (by omega) (by omega) x2 y2 y1 hDr
  have tkd : ∀ x, tk_d x → tk_d x := fun x h => h
  rcases rG with ⟨e, hw, htd⟩ | ⟨q, hq, e⟩
  · subst e
    obtain ⟨A, B, eD, hA, hB⟩ := tm_w_split D 1 1 hw
    have hlen : D.length = A.length + B.length := by rw [eD, List.length_append]
    have hAl := tm_w_len _ _ hA
    have hBl := tm_w_len _ _ hB
    have hAd : ∀ t, t ∈ A → tk_d t := fun t ht => htd t (by rw [eD]; exact List.mem_append.mpr (Or.inl ht))
    have hBd : ∀ t, t ∈ B → tk_d t := fun t ht => htd t (by rw [eD]; exact List.mem_append.mpr (Or.inr ht))
    obtain ⟨c1, t1, s1, run1, o2, o3, o4⟩ := mc_run_ok (P := tk_d) tkd hGG 4000 A [] 0 none (mc_I0 hA (by omega) hAd (by omega)).1 (mc_I0 (P := tk_d) hA (by omega) hAd (by omega)).2
    have second : ∃ c2 t2 s2, (c1 = 0 → mc_run L R 4000 B [] t1 none = (c2, t2, s2)) ∧ c2 ≤ 3 ∧ (c2 = 0 → s2.length ≤ 30 ∧ ∀ t, t ∈ s2 → tk_d t) := by
      by_cases h0 : c1 = 0
      · obtain ⟨c2, t2, s2, run2, p2, p3, p4⟩ := mc_run_ok (P := tk_d) tkd hGG 4000 B [] t1 none (mc_I0 hB (by omega) hBd (o4 h0).1).1 (mc_I0 (P := tk_d) hB (by omega) hBd (o4 h0).1).2
        exact ⟨c2, t2, s2, fun _ => run2, p3, fun z => ⟨(p4 z).2.2.1, (p4 z).2.2.2⟩⟩
      · exact ⟨0, 0, [], fun z => absurd z h0, by omega, fun _ => ⟨by simp, by simp⟩⟩
    obtain ⟨c2, t2, s2, run2, p3, p4⟩ := second
    have rel : ∀ (tt : Int32) (ss ws bs uf tk ks : Int32) (zs zw zb zk : Nat → Int64) (us ul ms me : Nat → Int32) (tp dn sp fa md op inn od : Int32) (tk' tv dk dv lk lv mdk mdv fr' to wh kn bg lc ik iv ok ov : Nat → Int32), i_Rel (k + 3) (nI D.length, f_faultPlace, tt, 0, ss, ws, bs, uf, tk, ks, f_stacked, f_ranked, f_surveyed, a_draft, a_result, a_lefts, a_leftSize, a_ways, a_rights, a_rightSize, zs, zw, zb, us, ul, zk, ms, me, a_joint, a_unified, a_oneStack, a_otherStack, a_nestedAt, a_nestedEnd, a_rank, a_pairCount, a_firstOpen) (f_place', f_count', tp, dn, op, sp, tt, fa, inn, md, od, 0, f_heads', f_fresh', a_kind', a_value', a_all', a_split', tk', dk, tv, dv, bg, lc, ik, lk, mdk, ok, a_resultKind', iv, lv, mdv, ov, a_resultValue', fr', to, wh, kn, a_bound', a_whose', a_rank', a_one', a_two', a_oneOf', a_twoOf', a_headAt', a_headOf', a_headLeft', a_pairs', a_first') := by
      intros
      exact ⟨D, [], L, R, pl, _, fr, pc, fo, ⟨hD, hDr, by simp, by simp, hGG⟩, ⟨rfl, x2, x3, rfl, rfl, trivial, x7, x8, x9⟩, ⟨y1, y2, y3, rfl, rfl, trivial, y7, y8, y9⟩⟩
    refine xq_equal (D := D) (A := A) (B := B) (s1 := s1) (s2 := s2) D.length rfl hGG x7 eD hA hB hD htd x2 rX run1 ⟨o3, fun z => ⟨(o4 z).1, (o4 z).2.2.1⟩⟩ run2 ⟨p3, fun z => (p4 z).1⟩ (fun h1 ss ws bs uf tk ks zs zw zb zk us ul ms me => ?_) (fun h1 h2 ss ws bs uf tk ks zs zw zb zk us ul ms me => ?_) (fun h1 h2 ss ws bs uf tk ks zs zw zb zk us ul ms me => ?_)
    · exact yq_equal (D := D) (A := A) (B := B) (s1 := s1) (s2 := s2) hGG y7 eD hA hB hD htd y1 y2 rY run1 ⟨o3, fun z => ⟨(o4 z).1, (o4 z).2.2.1, (o4 z).2.2.2⟩⟩ run2 ⟨p3, p4⟩ (fun _ tp dn sp fa md op inn od tk' tv dk dv lk lv mdk mdv fr' to wh kn bg lc ik iv ok ov => ⟨rfl, rel _ _ _ _ _ _ _ _ _ _ _ _ _ _ _ _ _ _ _ _ _ _ _ _ _ _ _ _ _ _ _ _ _ _ _ _ _ _ _ _ _⟩) (fun z => absurd z h1) (fun z => absurd z h1)
    · exact yq_equal (D := D) (A := A) (B := B) (s1 := s1) (s2 := s2) hGG y7 eD hA hB hD htd y1 y2 rY run1 ⟨o3, fun z => ⟨(o4 z).1, (o4 z).2.2.1, (o4 z).2.2.2⟩⟩ run2 ⟨p3, p4⟩ (fun z => absurd h1 z) (fun _ _ tp dn sp fa md op inn od tk' tv dk dv lk lv mdk mdv fr' to wh kn bg lc ik iv ok ov => ⟨rfl, rel _ _ _ _ _ _ _ _ _ _ _ _ _ _ _ _ _ _ _ _ _ _ _ _ _ _ _ _ _ _ _ _ _ _ _ _ _ _ _ _ _⟩) (fun _ z => absurd z h2)
    · exact yq_equal (D := D) (A := A) (B := B) (s1 := s1) (s2 := s2) hGG y7 eD hA hB hD htd y1 y2 rY run1 ⟨o3, fun z => ⟨(o4 z).1, (o4 z).2.2.1, (o4 z).2.2.2⟩⟩ run2 ⟨p3, p4⟩ (fun z => absurd h1 z) (fun _ z => absurd h2 z) (fun _ _ tp dn sp fa md op inn od tk' tv dk dv lk lv mdk mdv fr' to wh kn bg lc ik iv ok ov => ⟨rfl, rel _ _ _ _ _ _ _ _ _ _ _ _ _ _ _ _ _ _ _ _ _ _ _ _ _ _ _ _ _ _ _ _ _ _ _ _ _ _ _ _ _⟩)
  · have hneg : ¬ r < 0 := by rw [e]; exact nI_pos (by omega)
    unfold wpX_equal
    dsimp only
    refine rX _ (br_f hneg ?_)
    unfold wpY_equal
    dsimp only
    refine rY _ (br_f hneg ⟨rfl, ?_⟩)
    exact ⟨D, [], L, R, r, st, fr, pc, fo, ⟨hD, hDr, by simp, by simp, hGG⟩, ⟨rfl, x2, rfl, x4, rfl, trivial, x7, x8, x9⟩, ⟨y1, y2, rfl, y4, rfl, trivial, y7, y8, y9⟩⟩
end
section
/-! two plain rules side by side: places, terms, variables -/
def jn_n (t : Int64) : Nat := (t.toInt - 8589934592).toNat
def jn_k (t : Int64) : Prop := ∃ n, t = lN n ∧ (n < 9 ∨ (8589934592 ≤ n ∧ n < 8589934600))
def jn_s (A B : List Int64) (p : Nat) : List Int64 := if p < 30 then A.drop p else B.drop (p - 30)
def jn_t (A B : List Int64) (p : Nat) : List Int64 := (jn_s A B p).take (tm_n (jn_s A B p) 1)
def jn_v (A B : List Int64) (p : Nat) : Prop := p < A.length ∨ (30 ≤ p ∧ p < 30 + B.length)
def jn_H (J : Nat → Int64) (A B : List Int64) : Prop := tm_w A 1 ∧ tm_w B 1 ∧ A.length ≤ 29 ∧ B.length ≤ 29 ∧ hd_h J 0 A ∧ hd_h J 30 B ∧ (∀ t, t ∈ A → jn_k t) ∧ ∀ t, t ∈ B → jn_k t
theorem jn_cases {t : Int64} (h : jn_k t) : (∃ n, n < 9 ∧ t = lN n ∧ t < 8589934592) ∨ (∃ v, v < 8 ∧ t = lN (8589934592 + v) ∧ ¬ t < 8589934592 ∧ jn_n t = v ∧ tm_ar t = 0) := by
  obtain ⟨n, rfl, h⟩ := h
  by_cases h9 : n < 9
  · exact Or.inl ⟨n, h9, rfl, (tk_lt 8589934592 (by omega)).mpr (by omega)⟩
  · obtain ⟨v, rfl⟩ : ∃ v, n = 8589934592 + v := ⟨n - 8589934592, by omega⟩
    refine Or.inr ⟨v, by omega, rfl, by rw [tk_lt 8589934592 (by omega)]; omega, ?_, ?_⟩
    · unfold jn_n
      rw [pk_lT (by omega)]; omega
    · rw [tk_ar_n (by omega), if_neg (by omega), if_neg (by omega)]
theorem jn_nv {v : Nat} (hv : v < 8) : jn_n (lN (8589934592 + v)) = v := by
  unfold jn_n
  rw [pk_lT (by omega)]; omega
theorem jn_var {t : Int64} (h : jn_k t) (hn : ¬ t < 8589934592) : jn_n t < 8 ∧ t = lN (8589934592 + jn_n t) ∧ tm_ar t = 0 := by
  rcases jn_cases h with ⟨n, h1, e, h2⟩ | ⟨v, h1, e, h2, h3, h4⟩
  · exact absurd h2 hn
  · exact ⟨by omega, by rw [h3]; exact e, h4⟩
theorem jn_and7 {t : Int64} (h : jn_k t) (hn : ¬ t < 8589934592) : (t &&& 7).toInt32 = nI (jn_n t) := by
  obtain ⟨h1, h2, _⟩ := jn_var h hn
  rw [h2, ru_and7 (by omega), jn_nv h1]
  congr 1
  omega
theorem hd_ex {α : Type} (f : Nat → α) : ∀ (n i : Nat), ∃ r : List α, r.length = n ∧ hd_h f i r
  | 0, i => ⟨[], rfl, trivial⟩
  | n + 1, i => by
    obtain ⟨r, h1, h2⟩ := hd_ex f n (i + 1)
    exact ⟨f i :: r, by simp [h1], rfl, h2⟩
section
variable {J : Nat → Int64} {A B : List Int64}
theorem jn_suf (H : jn_H J A B) {p : Nat} (hp : jn_v A B p) : ∃ l k, jn_s A B p = J p :: l ∧ tm_w (J p :: l) (k + 1) ∧ hd_h J p (J p :: l) ∧ (∀ t, t ∈ J p :: l → jn_k t) ∧ (p < 30 → p + (l.length + 1) = A.length) ∧ (¬ p < 30 → p + (l.length + 1) = 30 + B.length) := by
  obtain ⟨h1, h2, h3, h4, h5, h6, h7, h8⟩ := H
  have go : ∀ (C : List Int64) (b q : Nat), tm_w C 1 → hd_h J b C → (∀ t, t ∈ C → jn_k t) → q < C.length → p = b + q → ∃ l k, C.drop q = J p :: l ∧ tm_w (J p :: l) (k + 1) ∧ hd_h J p (J p :: l) ∧ (∀ t, t ∈ J p :: l → jn_k t) ∧ q + (l.length + 1) = C.length := by
    intro C b q hC hJ hk hq e
    have hs : C = C.take q ++ C.drop q := (List.take_append_drop q C).symm
    have hd := hJ
    rw [hs] at hd
    have hd2 := (hd_app.mp hd).2
    rw [List.length_take, Nat.min_eq_left (by omega), ← e] at hd2
    have hw := hC
    rw [hs] at hw
    obtain ⟨k, hk2⟩ := tm_w_suf _ _ _ hw
    have hl : (C.drop q).length = C.length - q := List.length_drop
    cases hcd : C.drop q with
    | nil => rw [hcd] at hl; simp at hl; omega
    | cons x l =>
      rw [hcd] at hd2 hk2 hl
      have ex : J p = x := hd2.1
      rw [ex]
      obtain ⟨k', rfl, _⟩ := tm_w_ne hk2
      refine ⟨l, k', rfl, hk2, by rw [← ex] at hd2 ⊢; exact hd2, fun t ht => hk t ?_, ?_⟩
      · rw [← hcd] at ht
        exact List.mem_of_mem_drop ht
      · rw [List.length_cons] at hl; omega
  unfold jn_s
  by_cases h30 : p < 30
  · have hpA : p < A.length := by rcases hp with h | h; exact h; omega
    rw [if_pos h30]
    obtain ⟨l, k, q1, q2, q3, q4, q5⟩ := go A 0 p h1 h5 h7 hpA (by omega)
    exact ⟨l, k, q1, q2, q3, q4, fun _ => by omega, fun z => absurd h30 z⟩
  · have hpB : p - 30 < B.length := by rcases hp with h | h <;> omega
    rw [if_neg h30]
    obtain ⟨l, k, q1, q2, q3, q4, q5⟩ := go B 30 (p - 30) h2 h6 h8 hpB (by omega)
    exact ⟨l, k, q1, q2, q3, q4, fun z => absurd z h30, fun _ => by omega⟩
theorem jn_tm (H : jn_H J A B) {p : Nat} (hp : jn_v A B p) : ∃ l r k, jn_t A B p = J p :: l ∧ tm_w l (tm_ar (J p)) ∧ tm_w (jn_t A B p) 1 ∧ jn_s A B p = jn_t A B p ++ r ∧ tm_w r k ∧ hd_h J p (jn_t A B p) ∧ (∀ t, t ∈ jn_t A B p → jn_k t) ∧ (p < 30 → p + ((jn_t A B p).length + r.length) = A.length) ∧ (¬ p < 30 → p + ((jn_t A B p).length + r.length) = 30 + B.length) := by
  obtain ⟨l, k, q1, q2, q3, q4, q5, q6⟩ := jn_suf H hp
  obtain ⟨a, r, e, ha, hr⟩ := tm_w_split (J p :: l) 1 k (by rw [Nat.add_comm]; exact q2)
  have et : jn_t A B p = a := by
    unfold jn_t
    rw [q1, e, tm_n_app a r 1 ha, List.take_left]
  obtain ⟨x, a', ea, ha'⟩ := tm_w_pos ha
  have ex : x = J p := by rw [ea] at e; injection e with e1 _; exact e1.symm
  subst ex
  rw [et]
  rw [e] at q3 q4
  have hlen : l.length + 1 = a.length + r.length := by
    have := congrArg List.length e
    rw [List.length_cons, List.length_append] at this
    exact this
  refine ⟨a', r, k, ea, ha', ha, by rw [q1, e], hr, (hd_app.mp q3).1, fun t ht => q4 t (List.mem_append.mpr (Or.inl ht)), fun z => ?_, fun z => ?_⟩
  · have := q5 z; omega
  · have := q6 z; omega
theorem jn_J (H : jn_H J A B) {p : Nat} (hp : jn_v A B p) : jn_k (J p) := by
  obtain ⟨l, r, k, q1, _, _, _, _, _, q, _⟩ := jn_tm H hp
  exact q (J p) (by rw [q1]; simp)
theorem jn_lt (H : jn_H J A B) {p : Nat} (hp : jn_v A B p) : p + (jn_t A B p).length ≤ 59 ∧ p < 60 ∧ 1 ≤ (jn_t A B p).length ∧ (jn_t A B p).length ≤ 29 := by
  obtain ⟨l, r, k, q1, _, _, _, _, _, _, q8, q9⟩ := jn_tm H hp
  obtain ⟨_, _, h3, h4, _⟩ := H
  have hl : (jn_t A B p).length = l.length + 1 := by rw [q1]; rfl
  by_cases h30 : p < 30
  · have := q8 h30; omega
  · have := q9 h30; omega
theorem jn_leaf (H : jn_H J A B) {p : Nat} (hp : jn_v A B p) (h0 : tm_ar (J p) = 0) : jn_t A B p = [J p] := by
  obtain ⟨l, r, k, q1, q2, _⟩ := jn_tm H hp
  rw [h0] at q2
  rw [q1, tm_w_0 q2]
/-- the place behind p, in the same rule -/
theorem jn_next (H : jn_H J A B) {p : Nat} (hp : jn_v A B p) {l : List Int64} (hs : jn_s A B p = J p :: l) : jn_s A B (p + 1) = l ∧ (l ≠ [] → jn_v A B (p + 1)) := by
  obtain ⟨l', k, q1, q2, q3, q4, q5, q6⟩ := jn_suf H hp
  have el : l' = l := by rw [q1] at hs; injection hs
  subst el
  obtain ⟨_, _, h3, h4, _⟩ := H
  unfold jn_s at q1 ⊢
  by_cases h30 : p < 30
  · rw [if_pos h30] at q1
    have := q5 h30
    refine ⟨?_, fun hne => ?_⟩
    · rw [if_pos (by omega), ← List.drop_drop, q1]; rfl
    · have : 0 < l'.length := List.length_pos_iff.mpr hne
      exact Or.inl (by omega)
  · rw [if_neg h30] at q1
    have := q6 h30
    refine ⟨?_, fun hne => ?_⟩
    · rw [if_neg (by omega), show p + 1 - 30 = (p - 30) + 1 by omega, ← List.drop_drop, q1]; rfl
    · have : 0 < l'.length := List.length_pos_iff.mpr hne
      exact Or.inr (by omega)
/-- n places on, in the same rule -/
theorem jn_skip (H : jn_H J A B) : ∀ (a r : List Int64) (p : Nat), jn_v A B p → jn_s A B p = a ++ r → r ≠ [] → jn_s A B (p + a.length) = r ∧ jn_v A B (p + a.length)
  | [], r, p, hp, hs, hr => ⟨hs, hp⟩
  | x :: a, r, p, hp, hs, hr => by
    obtain ⟨l, k, q1, _⟩ := jn_suf H hp
    have e : J p = x ∧ l = a ++ r := by
      rw [q1, List.cons_append] at hs
      injection hs with e1 e2
      exact ⟨e1, e2⟩
    obtain ⟨n1, n2⟩ := jn_next H hp q1
    have hl : l ≠ [] := by rw [e.2]; simp [hr]
    have := jn_skip H a r (p + 1) (n2 hl) (by rw [n1]; exact e.2) hr
    rw [List.length_cons, show p + (a.length + 1) = p + 1 + a.length by omega]
    exact this
theorem jn_args (H : jn_H J A B) {p : Nat} (hp : jn_v A B p) {m : Nat} (hm : tm_ar (J p) = m + 1) : jn_v A B (p + 1) ∧ ∃ l, jn_t A B p = J p :: (jn_t A B (p + 1) ++ l) ∧ tm_w l m ∧ (l ≠ [] → jn_v A B (p + 1 + (jn_t A B (p + 1)).length)) ∧ (m = 1 → l = jn_t A B (p + 1 + (jn_t A B (p + 1)).length)) := by
  obtain ⟨l, r, k, q1, q2, q3, q4, q5, q6, q7, q8, q9⟩ := jn_tm H hp
  rw [hm] at q2
  obtain ⟨a, b, e, ha, hb⟩ := tm_w_split l 1 m (by rw [Nat.add_comm]; exact q2)
  have hs : jn_s A B p = J p :: (a ++ (b ++ r)) := by rw [q4, q1, e, List.cons_append, List.append_assoc]
  obtain ⟨n1, n2⟩ := jn_next H hp hs
  have hane : a ≠ [] := by obtain ⟨x, a', ea, _⟩ := tm_w_pos ha; rw [ea]; exact List.cons_ne_nil _ _
  have hv1 : jn_v A B (p + 1) := n2 (by simp [hane])
  have et1 : jn_t A B (p + 1) = a := by
    unfold jn_t
    rw [n1, tm_n_app a _ 1 ha, List.take_left]
  refine ⟨hv1, b, by rw [q1, e, et1], hb, fun hbne => ?_, fun h1 => ?_⟩
  · rw [et1]
    exact (jn_skip H a (b ++ r) (p + 1) hv1 n1 (by simp [hbne])).2
  · subst h1
    obtain ⟨x, b', eb, _⟩ := tm_w_pos hb
    have hbne : b ++ r ≠ [] := by rw [eb]; simp
    rw [et1]
    have := (jn_skip H a (b ++ r) (p + 1) hv1 n1 hbne).1
    unfold jn_t
    rw [this, tm_n_app b _ 1 hb, List.take_left]
end
end
section
/-! substitutions: what stands for a variable, ranks, weights, expansions -/
def us_1 (J : Nat → Int64) (σ : Nat → Option Nat) (p : Nat) : Nat := if J p < 8589934592 then p else match σ (jn_n (J p)) with
  | some q => q
  | none => p
def us_f (J : Nat → Int64) (σ : Nat → Option Nat) : Nat → Nat → Nat
  | 0, p => p
  | k + 1, p => us_f J σ k (us_1 J σ p)
def us_R (A B : List Int64) (σ : Nat → Option Nat) (rk : Nat → Nat) : Prop := (∀ v, rk v < 8) ∧ ∀ v q, σ v = some q → v < 8 ∧ jn_v A B q ∧ ∀ t, t ∈ jn_t A B q → ¬ t < 8589934592 → rk (jn_n t) < rk v
theorem us_1_sym {J : Nat → Int64} {σ : Nat → Option Nat} {p : Nat} (h : J p < 8589934592) : us_1 J σ p = p := if_pos h
theorem us_1_some {J : Nat → Int64} {σ : Nat → Option Nat} {p q : Nat} (h : ¬ J p < 8589934592) (hq : σ (jn_n (J p)) = some q) : us_1 J σ p = q := by
  unfold us_1
  rw [if_neg h, hq]
theorem us_1_none {J : Nat → Int64} {σ : Nat → Option Nat} {p : Nat} (h : ¬ J p < 8589934592) (hq : σ (jn_n (J p)) = none) : us_1 J σ p = p := by
  unfold us_1
  rw [if_neg h, hq]
theorem us_fixp {J : Nat → Int64} {σ : Nat → Option Nat} {p : Nat} (h : us_1 J σ p = p) : ∀ k, us_f J σ k p = p
  | 0 => rfl
  | k + 1 => by rw [us_f, h]; exact us_fixp h k
def us_W (ρ : Nat → Nat) : List Int64 → Nat
  | [] => 0
  | t :: l => (if t < 8589934592 then 1 else ρ (jn_n t)) + us_W ρ l
theorem us_W_app (ρ : Nat → Nat) : ∀ (a b : List Int64), us_W ρ (a ++ b) = us_W ρ a + us_W ρ b
  | [], b => by simp [us_W]
  | t :: a, b => by
    show (if t < 8589934592 then 1 else ρ (jn_n t)) + us_W ρ (a ++ b) = _
    rw [us_W_app ρ a b, us_W]; omega
def us_b : List Int64 → Nat
  | [] => 0
  | t :: l => (if tm_ar t = 2 then 1 else 0) + us_b l
theorem us_b_app : ∀ (a b : List Int64), us_b (a ++ b) = us_b a + us_b b
  | [], b => by simp [us_b]
  | t :: a, b => by
    show (if tm_ar t = 2 then 1 else 0) + us_b (a ++ b) = _
    rw [us_b_app a b, us_b]; omega
def us_m (ρ : Nat → Nat) : List Int64 → Nat
  | [] => 0
  | t :: l => max (if t < 8589934592 then 0 else ρ (jn_n t)) (us_m ρ l)
theorem us_m_app (ρ : Nat → Nat) : ∀ (a b : List Int64), us_m ρ (a ++ b) = max (us_m ρ a) (us_m ρ b)
  | [], b => by simp [us_m]
  | t :: a, b => by
    show max _ (us_m ρ (a ++ b)) = _
    rw [us_m_app ρ a b, us_m]; omega
def us_E (ρ : Nat → List Int64) (l : List Int64) : List Int64 := l.flatMap (fun t => if t < 8589934592 then [t] else ρ (jn_n t))
theorem us_E_app (ρ : Nat → List Int64) (a b : List Int64) : us_E ρ (a ++ b) = us_E ρ a ++ us_E ρ b := by
  unfold us_E
  rw [List.flatMap_append]
theorem us_E_sym {ρ : Nat → List Int64} {t : Int64} {l : List Int64} (h : t < 8589934592) : us_E ρ (t :: l) = t :: us_E ρ l := by
  unfold us_E
  rw [List.flatMap_cons, if_pos h]; rfl
theorem us_E_var {ρ : Nat → List Int64} {t : Int64} {l : List Int64} (h : ¬ t < 8589934592) : us_E ρ (t :: l) = ρ (jn_n t) ++ us_E ρ l := by
  unfold us_E
  rw [List.flatMap_cons, if_neg h]
theorem us_E_congr {ρ ρ' : Nat → List Int64} : ∀ {l : List Int64}, (∀ t, t ∈ l → ¬ t < 8589934592 → ρ (jn_n t) = ρ' (jn_n t)) → us_E ρ l = us_E ρ' l
  | [], _ => rfl
  | t :: l, h => by
    have ih := us_E_congr (l := l) (fun x hx => h x (List.mem_cons.mpr (Or.inr hx)))
    by_cases ht : t < 8589934592
    · rw [us_E_sym ht, us_E_sym ht, ih]
    · rw [us_E_var ht, us_E_var ht, ih, h t (List.mem_cons.mpr (Or.inl rfl)) ht]
theorem us_E_mem {ρ : Nat → List Int64} {l : List Int64} {t z : Int64} (ht : t ∈ l) (hn : ¬ t < 8589934592) (hz : z ∈ ρ (jn_n t)) : z ∈ us_E ρ l := by
  unfold us_E
  rw [List.mem_flatMap]
  exact ⟨t, ht, by rw [if_neg hn]; exact hz⟩
/-- the expansion of a variable, so many bindings deep -/
def us_h (A B : List Int64) (σ : Nat → Option Nat) : Nat → Nat → List Int64
  | 0, v => [lN (8589934592 + v)]
  | d + 1, v => match σ v with
    | none => [lN (8589934592 + v)]
    | some q => us_E (us_h A B σ d) (jn_t A B q)
theorem us_h_none {A B : List Int64} {σ : Nat → Option Nat} {v : Nat} (h : σ v = none) : ∀ d, us_h A B σ d v = [lN (8589934592 + v)]
  | 0 => rfl
  | d + 1 => by rw [us_h, h]
theorem us_h_some {A B : List Int64} {σ : Nat → Option Nat} {v q : Nat} (h : σ v = some q) (d : Nat) : us_h A B σ (d + 1) v = us_E (us_h A B σ d) (jn_t A B q) := by rw [us_h, h]
def us_Es (A B : List Int64) (σ : Nat → Option Nat) (ρ : Nat → List Int64) : Prop := ∀ v q, σ v = some q → ρ v = us_E ρ (jn_t A B q)
def us_Ws (A B : List Int64) (σ : Nat → Option Nat) (ρ : Nat → Nat) : Prop := (∀ v, 1 ≤ ρ v) ∧ ∀ v q, σ v = some q → us_W ρ (jn_t A B q) ≤ ρ v
def us_Bs (A B : List Int64) (σ : Nat → Option Nat) (ρ : Nat → Nat) : Prop := ∀ v q, σ v = some q → us_b (jn_t A B q) + us_m ρ (jn_t A B q) ≤ ρ v
theorem us_h_st {A B : List Int64} {σ : Nat → Option Nat} {rk : Nat → Nat} (hR : us_R A B σ rk) : ∀ (d v : Nat), rk v < d → us_h A B σ d v = us_h A B σ (d + 1) v
  | 0, v, h => absurd h (by omega)
  | d + 1, v, h => by
    cases e : σ v with
    | none => rw [us_h_none e, us_h_none e]
    | some q =>
      rw [us_h_some e, us_h_some e]
      refine us_E_congr (fun t ht hn => us_h_st hR d _ ?_)
      have := (hR.2 v q e).2.2 t ht hn
      omega
theorem us_h_sol {A B : List Int64} {σ : Nat → Option Nat} {rk : Nat → Nat} (hR : us_R A B σ rk) : us_Es A B σ (us_h A B σ 8) := by
  intro v q e
  rw [us_h_some e 7]
  refine us_E_congr (fun t ht hn => us_h_st hR 7 _ ?_)
  have h1 := (hR.2 v q e).2.2 t ht hn
  have h2 := hR.1 v
  omega
section
variable {J : Nat → Int64} {A B : List Int64} {σ : Nat → Option Nat} {rk : Nat → Nat}
theorem us_fol (H : jn_H J A B) (hR : us_R A B σ rk) : ∀ (k p : Nat), jn_v A B p → (¬ J p < 8589934592 → rk (jn_n (J p)) < k) → jn_v A B (us_f J σ k p) ∧ (¬ J (us_f J σ k p) < 8589934592 → σ (jn_n (J (us_f J σ k p))) = none)
  | 0, p, hp, hk => ⟨hp, fun z => absurd (hk z) (by omega)⟩
  | k + 1, p, hp, hk => by
    by_cases hs : J p < 8589934592
    · rw [us_fixp (us_1_sym hs)]
      exact ⟨hp, fun z => absurd hs z⟩
    · cases e : σ (jn_n (J p)) with
      | none =>
        rw [us_fixp (us_1_none hs e)]
        exact ⟨hp, fun _ => e⟩
      | some q =>
        rw [us_f, us_1_some hs e]
        obtain ⟨_, hq, hu⟩ := hR.2 _ q e
        refine us_fol H hR k q hq (fun hn => ?_)
        obtain ⟨l, _, _, q1, _⟩ := jn_tm H hq
        have := hu (J q) (by rw [q1]; simp) hn
        have := hk hs
        omega
theorem us_fol8 (H : jn_H J A B) (hR : us_R A B σ rk) {p : Nat} (hp : jn_v A B p) : jn_v A B (us_f J σ 8 p) ∧ (¬ J (us_f J σ 8 p) < 8589934592 → σ (jn_n (J (us_f J σ 8 p))) = none) :=
  us_fol H hR 8 p hp (fun _ => hR.1 _)
/-- following keeps the expansion, and makes weights no greater -/
theorem us_1_E (H : jn_H J A B) {ρ : Nat → List Int64} (hρ : us_Es A B σ ρ) {p : Nat} (hp : jn_v A B p) : us_E ρ (jn_t A B (us_1 J σ p)) = us_E ρ (jn_t A B p) := by
  by_cases hs : J p < 8589934592
  · rw [us_1_sym hs]
  · cases e : σ (jn_n (J p)) with
    | none => rw [us_1_none hs e]
    | some q =>
      rw [us_1_some hs e, jn_leaf H hp (jn_var (jn_J H hp) hs).2.2, us_E_var hs, ← hρ _ q e]
      exact (List.append_nil _).symm
theorem us_1_W (H : jn_H J A B) {ρ : Nat → Nat} (hρ : us_Ws A B σ ρ) {p : Nat} (hp : jn_v A B p) : us_W ρ (jn_t A B (us_1 J σ p)) ≤ us_W ρ (jn_t A B p) := by
  by_cases hs : J p < 8589934592
  · rw [us_1_sym hs]; exact Nat.le_refl _
  · cases e : σ (jn_n (J p)) with
    | none => rw [us_1_none hs e]; exact Nat.le_refl _
    | some q =>
      have := hρ.2 _ q e
      rw [us_1_some hs e, jn_leaf H hp (jn_var (jn_J H hp) hs).2.2]
      show _ ≤ (if J p < 8589934592 then 1 else ρ (jn_n (J p))) + 0
      rw [if_neg hs]
      omega
theorem us_1_B (H : jn_H J A B) {ρ : Nat → Nat} (hρ : us_Bs A B σ ρ) {p : Nat} (hp : jn_v A B p) : us_b (jn_t A B (us_1 J σ p)) + us_m ρ (jn_t A B (us_1 J σ p)) ≤ us_b (jn_t A B p) + us_m ρ (jn_t A B p) := by
  by_cases hs : J p < 8589934592
  · rw [us_1_sym hs]; exact Nat.le_refl _
  · cases e : σ (jn_n (J p)) with
    | none => rw [us_1_none hs e]; exact Nat.le_refl _
    | some q =>
      have := hρ _ q e
      have har := (jn_var (jn_J H hp) hs).2.2
      rw [us_1_some hs e, jn_leaf H hp har]
      show _ ≤ ((if tm_ar (J p) = 2 then 1 else 0) + 0) + max (if J p < 8589934592 then 0 else ρ (jn_n (J p))) 0
      rw [if_neg hs, if_neg (by omega)]
      omega
theorem us_1_v (hR : us_R A B σ rk) {p : Nat} (hp : jn_v A B p) : jn_v A B (us_1 J σ p) := by
  by_cases hs : J p < 8589934592
  · rw [us_1_sym hs]; exact hp
  · cases e : σ (jn_n (J p)) with
    | none => rw [us_1_none hs e]; exact hp
    | some q => rw [us_1_some hs e]; exact (hR.2 _ q e).2.1
theorem us_f_E (H : jn_H J A B) (hR : us_R A B σ rk) {ρ : Nat → List Int64} (hρ : us_Es A B σ ρ) : ∀ (k p : Nat), jn_v A B p → us_E ρ (jn_t A B (us_f J σ k p)) = us_E ρ (jn_t A B p)
  | 0, p, hp => rfl
  | k + 1, p, hp => by rw [us_f, us_f_E H hR hρ k _ (us_1_v hR hp), us_1_E H hρ hp]
theorem us_f_W (H : jn_H J A B) (hR : us_R A B σ rk) {ρ : Nat → Nat} (hρ : us_Ws A B σ ρ) : ∀ (k p : Nat), jn_v A B p → us_W ρ (jn_t A B (us_f J σ k p)) ≤ us_W ρ (jn_t A B p)
  | 0, p, hp => Nat.le_refl _
  | k + 1, p, hp => Nat.le_trans (us_f_W H hR hρ k _ (us_1_v hR hp)) (us_1_W H hρ hp)
theorem us_f_B (H : jn_H J A B) (hR : us_R A B σ rk) {ρ : Nat → Nat} (hρ : us_Bs A B σ ρ) : ∀ (k p : Nat), jn_v A B p → us_b (jn_t A B (us_f J σ k p)) + us_m ρ (jn_t A B (us_f J σ k p)) ≤ us_b (jn_t A B p) + us_m ρ (jn_t A B p)
  | 0, p, hp => Nat.le_refl _
  | k + 1, p, hp => Nat.le_trans (us_f_B H hR hρ k _ (us_1_v hR hp)) (us_1_B H hρ hp)
theorem us_W_pos (H : jn_H J A B) {ρ : Nat → Nat} (hρ : us_Ws A B σ ρ) {p : Nat} (hp : jn_v A B p) : 1 ≤ us_W ρ (jn_t A B p) := by
  obtain ⟨l, _, _, q1, _⟩ := jn_tm H hp
  rw [q1]
  show 1 ≤ (if J p < 8589934592 then 1 else ρ (jn_n (J p))) + us_W ρ l
  have := hρ.1 (jn_n (J p))
  split <;> omega
end
/-- ranks below 8: how many variables rank lower -/
def us_c (f : Nat → Nat) (x : Nat) : Nat → Nat
  | 0 => 0
  | k + 1 => us_c f x k + (if f k < x then 1 else 0)
theorem us_c_le (f : Nat → Nat) {x y : Nat} (h : x ≤ y) : ∀ n, us_c f x n ≤ us_c f y n
  | 0 => Nat.le_refl _
  | n + 1 => by
    have := us_c_le f h n
    show us_c f x n + (if f n < x then 1 else 0) ≤ us_c f y n + (if f n < y then 1 else 0)
    split
    · rw [if_pos (by omega)]; omega
    · split <;> omega
theorem us_c_lt (f : Nat → Nat) {u y : Nat} (h : f u < y) : ∀ n, u < n → us_c f (f u) n < us_c f y n
  | 0, hn => absurd hn (by omega)
  | n + 1, hn => by
    show us_c f (f u) n + (if f n < f u then 1 else 0) < us_c f y n + (if f n < y then 1 else 0)
    by_cases e : u = n
    · subst e
      have := us_c_le f (Nat.le_of_lt h) u
      rw [if_neg (by omega), if_pos h]; omega
    · have := us_c_lt f h n (by omega)
      split
      · rw [if_pos (by omega)]; omega
      · split <;> omega
theorem us_c_n (f : Nat → Nat) (x : Nat) : ∀ n, us_c f x n ≤ n
  | 0 => Nat.le_refl _
  | n + 1 => by
    have := us_c_n f x n
    show us_c f x n + (if f n < x then 1 else 0) ≤ n + 1
    split <;> omega
theorem us_c_self (f : Nat → Nat) {u : Nat} : ∀ n, u < n → us_c f (f u) n < n
  | 0, hn => absurd hn (by omega)
  | n + 1, hn => by
    show us_c f (f u) n + (if f n < f u then 1 else 0) < n + 1
    by_cases e : u = n
    · subst e
      have := us_c_n f (f u) u
      rw [if_neg (by omega)]; omega
    · have := us_c_self f n (u := u) (by omega)
      split <;> omega
theorem us_norm {A B : List Int64} {σ : Nat → Option Nat} {f : Nat → Nat} (hk : ∀ v q, σ v = some q → ∀ t, t ∈ jn_t A B q → jn_k t) (h : ∀ v q, σ v = some q → v < 8 ∧ jn_v A B q ∧ ∀ t, t ∈ jn_t A B q → ¬ t < 8589934592 → f (jn_n t) < f v) : us_R A B σ (fun v => if v < 8 then us_c f (f v) 8 else 0) := by
  refine ⟨fun v => ?_, fun v q e => ?_⟩
  · dsimp only
    split
    · rename_i hv
      exact us_c_self f 8 hv
    · omega
  · obtain ⟨h1, h2, h3⟩ := h v q e
    refine ⟨h1, h2, fun t ht hn => ?_⟩
    have hv := (jn_var (hk v q e t ht) hn).1
    dsimp only
    rw [if_pos hv, if_pos h1]
    exact us_c_lt f (h3 t ht hn) 8 hv
/-- v is put for by the term at q, in which it does not occur -/
def us_put (σ : Nat → Option Nat) (v q : Nat) : Nat → Option Nat := fun w => if w = v then some q else σ w
theorem us_put_R {J : Nat → Int64} {A B : List Int64} {σ : Nat → Option Nat} {rk : Nat → Nat} (H : jn_H J A B) (hR : us_R A B σ rk) {v q : Nat} (hv : v < 8) (hq : jn_v A B q) (h0 : σ v = none) (hno : ¬ lN (8589934592 + v) ∈ us_E (us_h A B σ 8) (jn_t A B q)) : ∃ rk', us_R A B (us_put σ v q) rk' := by
  have hkk : ∀ p, jn_v A B p → ∀ t, t ∈ jn_t A B p → jn_k t := fun p hp => by
    obtain ⟨_, _, _, _, _, _, _, _, _, z, _⟩ := jn_tm H hp
    exact z
  refine ⟨_, us_norm (f := fun u => if lN (8589934592 + v) ∈ us_h A B σ 8 u then rk u + 8 else rk u) (fun w r e => ?_) (fun w r e => ?_)⟩
  · unfold us_put at e
    split at e
    · cases e; exact hkk q hq
    · exact hkk r (hR.2 w r e).2.1
  · have hvv : lN (8589934592 + v) ∈ us_h A B σ 8 v := by rw [us_h_none h0]; simp
    unfold us_put at e
    split at e
    · rename_i ew
      cases e
      subst ew
      refine ⟨hv, hq, fun t ht hn => ?_⟩
      have hnot : ¬ lN (8589934592 + w) ∈ us_h A B σ 8 (jn_n t) := fun z => hno (us_E_mem ht hn z)
      rw [if_neg hnot, if_pos hvv]
      have := hR.1 (jn_n t)
      omega
    · obtain ⟨h1, h2, h3⟩ := hR.2 w r e
      refine ⟨h1, h2, fun t ht hn => ?_⟩
      have h4 := h3 t ht hn
      by_cases hz : lN (8589934592 + v) ∈ us_h A B σ 8 (jn_n t)
      · have hw : lN (8589934592 + v) ∈ us_h A B σ 8 w := by
          rw [us_h_sol hR w r e]
          exact us_E_mem ht hn hz
        rw [if_pos hz, if_pos hw]; omega
      · rw [if_neg hz]
        split <;> omega
end
section
/-! the unification's turns, over places; what holds through them -/
def us_SW (A B : List Int64) (ρ : Nat → Nat) : List (Nat × Nat) → Nat
  | [] => 0
  | (a, _) :: S => us_W ρ (jn_t A B a) + us_SW A B ρ S
def us_SB (A B : List Int64) (ρ : Nat → Nat) (M : Nat) : List (Nat × Nat) → Prop
  | [] => True
  | (a, _) :: S => S.length + (us_b (jn_t A B a) + us_m ρ (jn_t A B a)) ≤ M ∧ us_SB A B ρ M S
def us_I (A B : List Int64) (p0 q0 n : Nat) (S : List (Nat × Nat)) (σ : Nat → Option Nat) : Prop :=
  (∃ rk, us_R A B σ rk) ∧ (∀ a b, (a, b) ∈ S → jn_v A B a ∧ jn_v A B b) ∧
  (∀ ρ, us_Ws A B σ ρ → n + us_SW A B ρ S ≤ us_W ρ (jn_t A B p0)) ∧
  (∀ ρ, us_Bs A B σ ρ → us_SB A B ρ (us_b (jn_t A B p0) + us_m ρ (jn_t A B p0)) S) ∧
  (∀ ρ, us_Es A B σ ρ → (∀ a b, (a, b) ∈ S → us_E ρ (jn_t A B a) = us_E ρ (jn_t A B b)) → us_E ρ (jn_t A B p0) = us_E ρ (jn_t A B q0))
def us_ag (J : Nat → Int64) (A B : List Int64) (p q : Nat) (S : List (Nat × Nat)) : List (Nat × Nat) :=
  if p = q ∨ tm_ar (J p) = 0 then S else if tm_ar (J p) = 2 then (p + 1, q + 1) :: (p + 1 + (jn_t A B (p + 1)).length, q + 1 + (jn_t A B (q + 1)).length) :: S else (p + 1, q + 1) :: S
/-- a turn, from two places that were followed -/
def us_st (J : Nat → Int64) (A B : List Int64) (σ : Nat → Option Nat) (p q : Nat) (S : List (Nat × Nat)) : Option (List (Nat × Nat) × (Nat → Option Nat)) :=
  if J p = J q then some (us_ag J A B p q S, σ)
  else if ¬ J p < 8589934592 then (if lN (8589934592 + jn_n (J p)) ∈ us_E (us_h A B σ 8) (jn_t A B q) then none else some (S, us_put σ (jn_n (J p)) q))
  else if J q < 8589934592 then none
  else (if lN (8589934592 + jn_n (J q)) ∈ us_E (us_h A B σ 8) (jn_t A B p) then none else some (S, us_put σ (jn_n (J q)) p))
def us_un (J : Nat → Int64) (A B : List Int64) : Nat → List (Nat × Nat) → (Nat → Option Nat) → Option (Nat → Option Nat)
  | _, [], σ => some σ
  | 0, _ :: _, _ => none
  | f + 1, (p, q) :: S, σ => match us_st J A B σ (us_f J σ 8 p) (us_f J σ 8 q) S with
    | none => none
    | some (S', σ') => us_un J A B f S' σ'
section
variable {J : Nat → Int64} {A B : List Int64} {σ : Nat → Option Nat}
theorem us_put_E {ρ : Nat → List Int64} {v q : Nat} (h0 : σ v = none) (h : us_Es A B (us_put σ v q) ρ) : us_Es A B σ ρ := by
  intro w r e
  refine h w r ?_
  unfold us_put
  rw [if_neg (by intro z; rw [z, h0] at e; exact absurd e (by simp))]
  exact e
theorem us_put_W {ρ : Nat → Nat} {v q : Nat} (h0 : σ v = none) (h : us_Ws A B (us_put σ v q) ρ) : us_Ws A B σ ρ := by
  refine ⟨h.1, fun w r e => h.2 w r ?_⟩
  unfold us_put
  rw [if_neg (by intro z; rw [z, h0] at e; exact absurd e (by simp))]
  exact e
theorem us_put_B {ρ : Nat → Nat} {v q : Nat} (h0 : σ v = none) (h : us_Bs A B (us_put σ v q) ρ) : us_Bs A B σ ρ := by
  intro w r e
  refine h w r ?_
  unfold us_put
  rw [if_neg (by intro z; rw [z, h0] at e; exact absurd e (by simp))]
  exact e
/-- the argument places of two equal symbols -/
theorem us_ag_ok (H : jn_H J A B) {p q : Nat} {S : List (Nat × Nat)} (hp : jn_v A B p) (hq : jn_v A B q) (e : J p = J q) (hS : ∀ a b, (a, b) ∈ S → jn_v A B a ∧ jn_v A B b) :
    (∀ a b, (a, b) ∈ us_ag J A B p q S → jn_v A B a ∧ jn_v A B b) ∧
    (∀ ρ, us_Ws A B σ ρ → 1 + us_SW A B ρ (us_ag J A B p q S) ≤ us_W ρ (jn_t A B p) + us_SW A B ρ S) ∧
    (∀ ρ M, S.length + (us_b (jn_t A B p) + us_m ρ (jn_t A B p)) ≤ M → us_SB A B ρ M S → us_SB A B ρ M (us_ag J A B p q S)) ∧
    (∀ ρ : Nat → List Int64, (∀ a b, (a, b) ∈ us_ag J A B p q S → us_E ρ (jn_t A B a) = us_E ρ (jn_t A B b)) → (∀ a b, (a, b) ∈ S → us_E ρ (jn_t A B a) = us_E ρ (jn_t A B b)) ∧ us_E ρ (jn_t A B p) = us_E ρ (jn_t A B q)) := by
  unfold us_ag
  by_cases h0 : p = q ∨ tm_ar (J p) = 0
  · rw [if_pos h0]
    refine ⟨hS, fun ρ hρ => ?_, fun ρ M _ hM => hM, fun ρ hE => ⟨hE, ?_⟩⟩
    · have := us_W_pos H hρ hp
      omega
    · rcases h0 with h | h
      · rw [h]
      · rw [jn_leaf H hp h, jn_leaf H hq (by rw [← e]; exact h), e]
  · rw [if_neg h0]
    have ha0 : ¬ tm_ar (J p) = 0 := fun z => h0 (Or.inr z)
    have ha2 := tm_ar_le (J p)
    have hsym : J p < 8589934592 := by
      apply Classical.byContradiction
      intro z
      exact ha0 (jn_var (jn_J H hp) z).2.2
    by_cases h2 : tm_ar (J p) = 2
    · rw [if_pos h2]
      obtain ⟨p1, l, pt, pl, pv, pe⟩ := jn_args H hp (m := 1) h2
      obtain ⟨q1, l', qt, ql, qv, qe⟩ := jn_args H hq (m := 1) (by rw [← e]; exact h2)
      have hl : l ≠ [] := by intro z; rw [z, tm_w_nil] at pl; omega
      have hl' : l' ≠ [] := by intro z; rw [z, tm_w_nil] at ql; omega
      have pv := pv hl
      have qv := qv hl'
      have pe := pe rfl
      have qe := qe rfl
      rw [pe] at pt
      rw [qe] at qt
      refine ⟨fun a b hm => ?_, fun ρ hρ => ?_, fun ρ M h1 hM => ?_, fun ρ hE => ?_⟩
      · rcases List.mem_cons.mp hm with z | z
        · cases z; exact ⟨p1, q1⟩
        · rcases List.mem_cons.mp z with z | z
          · cases z; exact ⟨pv, qv⟩
          · exact hS a b z
      · rw [pt]
        show 1 + (us_W ρ (jn_t A B (p + 1)) + (us_W ρ _ + us_SW A B ρ S)) ≤ ((if J p < 8589934592 then 1 else ρ (jn_n (J p))) + us_W ρ _) + us_SW A B ρ S
        rw [us_W_app, if_pos hsym]
        omega
      · rw [pt] at h1
        have hb : us_b (J p :: (jn_t A B (p + 1) ++ jn_t A B (p + 1 + (jn_t A B (p + 1)).length))) = 1 + (us_b (jn_t A B (p + 1)) + us_b (jn_t A B (p + 1 + (jn_t A B (p + 1)).length))) := by
          show (if tm_ar (J p) = 2 then 1 else 0) + us_b _ = _
          rw [if_pos h2, us_b_app]
        have hm : us_m ρ (J p :: (jn_t A B (p + 1) ++ jn_t A B (p + 1 + (jn_t A B (p + 1)).length))) = max (us_m ρ (jn_t A B (p + 1))) (us_m ρ (jn_t A B (p + 1 + (jn_t A B (p + 1)).length))) := by
          show max (if J p < 8589934592 then 0 else ρ (jn_n (J p))) (us_m ρ _) = _
          rw [if_pos hsym, us_m_app]; omega
        rw [hb, hm] at h1
        refine ⟨?_, ?_, hM⟩
        · rw [List.length_cons]; omega
        · omega
      · have e1 := hE _ _ (List.mem_cons.mpr (Or.inl rfl))
        have e2 := hE _ _ (List.mem_cons.mpr (Or.inr (List.mem_cons.mpr (Or.inl rfl))))
        refine ⟨fun a b z => hE a b (List.mem_cons.mpr (Or.inr (List.mem_cons.mpr (Or.inr z)))), ?_⟩
        rw [pt, qt, ← e, us_E_sym hsym, us_E_sym hsym, us_E_app, us_E_app, e1, e2]
    · rw [if_neg h2]
      have h1 : tm_ar (J p) = 0 + 1 := by omega
      obtain ⟨p1, l, pt, pl, pv, _⟩ := jn_args H hp h1
      obtain ⟨q1, l', qt, ql, qv, _⟩ := jn_args H hq (m := 0) (by rw [← e]; exact h1)
      rw [tm_w_0 pl, List.append_nil] at pt
      rw [tm_w_0 ql, List.append_nil] at qt
      refine ⟨fun a b hm => ?_, fun ρ hρ => ?_, fun ρ M h1 hM => ?_, fun ρ hE => ?_⟩
      · rcases List.mem_cons.mp hm with z | z
        · cases z; exact ⟨p1, q1⟩
        · exact hS a b z
      · rw [pt]
        show 1 + (us_W ρ (jn_t A B (p + 1)) + us_SW A B ρ S) ≤ ((if J p < 8589934592 then 1 else ρ (jn_n (J p))) + us_W ρ (jn_t A B (p + 1))) + us_SW A B ρ S
        rw [if_pos hsym]
        omega
      · rw [pt] at h1
        refine ⟨Nat.le_trans ?_ h1, hM⟩
        show _ ≤ S.length + (((if tm_ar (J p) = 2 then 1 else 0) + us_b _) + max (if J p < 8589934592 then 0 else ρ (jn_n (J p))) (us_m ρ _))
        omega
      · have e1 := hE _ _ (List.mem_cons.mpr (Or.inl rfl))
        refine ⟨fun a b z => hE a b (List.mem_cons.mpr (Or.inr z)), ?_⟩
        rw [pt, qt, ← e, us_E_sym hsym, us_E_sym hsym, e1]
theorem us_pres (H : jn_H J A B) {p0 q0 n p q : Nat} {S : List (Nat × Nat)} (hI : us_I A B p0 q0 n ((p, q) :: S) σ) {S' : List (Nat × Nat)} {σ' : Nat → Option Nat} (hst : us_st J A B σ (us_f J σ 8 p) (us_f J σ 8 q) S = some (S', σ')) : us_I A B p0 q0 (n + 1) S' σ' := by
  obtain ⟨⟨rk, hR⟩, hv, hW, hB, hE⟩ := hI
  obtain ⟨hp, hq⟩ := hv p q (List.mem_cons.mpr (Or.inl rfl))
  have hS : ∀ a b, (a, b) ∈ S → jn_v A B a ∧ jn_v A B b := fun a b z => hv a b (List.mem_cons.mpr (Or.inr z))
  obtain ⟨hp', hpn⟩ := us_fol8 H hR hp
  obtain ⟨hq', hqn⟩ := us_fol8 H hR hq
  unfold us_st at hst
  by_cases e : J (us_f J σ 8 p) = J (us_f J σ 8 q)
  · rw [if_pos e] at hst
    injection hst with hst
    injection hst with e1 e2
    subst e1 e2
    obtain ⟨a1, a2, a3, a4⟩ := us_ag_ok (σ := σ) H hp' hq' e hS
    refine ⟨⟨rk, hR⟩, a1, fun ρ hρ => ?_, fun ρ hρ => ?_, fun ρ hρ hall => ?_⟩
    · have h1 := hW ρ hρ
      have h2 := a2 ρ hρ
      have h3 := us_f_W H hR hρ 8 p hp
      have h4 : us_SW A B ρ ((p, q) :: S) = us_W ρ (jn_t A B p) + us_SW A B ρ S := rfl
      omega
    · have h1 := hB ρ hρ
      have h3 := us_f_B H hR hρ 8 p hp
      have h4 := h1.1
      exact a3 ρ _ (by omega) h1.2
    · obtain ⟨b1, b2⟩ := a4 ρ hall
      refine hE ρ hρ (fun a b hm => ?_)
      rcases List.mem_cons.mp hm with z | z
      · cases z
        rw [← us_f_E H hR hρ 8 p hp, ← us_f_E H hR hρ 8 q hq]
        exact b2
      · exact b1 a b z
  · rw [if_neg e] at hst
    have bind : ∀ (v r : Nat), v < 8 → jn_v A B r → σ v = none → ¬ lN (8589934592 + v) ∈ us_E (us_h A B σ 8) (jn_t A B r) → (∀ ρ : Nat → List Int64, us_Es A B (us_put σ v r) ρ → us_E ρ (jn_t A B (us_f J σ 8 p)) = us_E ρ (jn_t A B (us_f J σ 8 q))) → us_I A B p0 q0 (n + 1) S (us_put σ v r) := by
      intro v r hv8 hr h0 hno heq
      refine ⟨us_put_R H hR hv8 hr h0 hno, hS, fun ρ hρ => ?_, fun ρ hρ => ?_, fun ρ hρ hall => ?_⟩
      · have hρ' := us_put_W h0 hρ
        have h1 := hW ρ hρ'
        have h3 := us_W_pos H hρ' hp
        have h4 : us_SW A B ρ ((p, q) :: S) = us_W ρ (jn_t A B p) + us_SW A B ρ S := rfl
        omega
      · exact (hB ρ (us_put_B h0 hρ)).2
      · have hρ' := us_put_E h0 hρ
        refine hE ρ hρ' (fun a b hm => ?_)
        rcases List.mem_cons.mp hm with z | z
        · cases z
          rw [← us_f_E H hR hρ' 8 p hp, ← us_f_E H hR hρ' 8 q hq]
          exact heq ρ hρ
        · exact hall a b z
    by_cases hpv : ¬ J (us_f J σ 8 p) < 8589934592
    · rw [if_pos hpv] at hst
      obtain ⟨v8, ve, va⟩ := jn_var (jn_J H hp') hpv
      split at hst
      · exact absurd hst (by simp)
      · rename_i hno
        injection hst with hst
        injection hst with e1 e2
        subst e1 e2
        refine bind _ _ v8 hq' (hpn hpv) hno (fun ρ hρ => ?_)
        rw [jn_leaf H hp' va, us_E_var hpv]
        have := hρ (jn_n (J (us_f J σ 8 p))) (us_f J σ 8 q) (by unfold us_put; rw [if_pos rfl])
        rw [this]
        exact List.append_nil _
    · rw [if_neg hpv] at hst
      by_cases hqs : J (us_f J σ 8 q) < 8589934592
      · rw [if_pos hqs] at hst
        exact absurd hst (by simp)
      · rw [if_neg hqs] at hst
        obtain ⟨v8, ve, va⟩ := jn_var (jn_J H hq') hqs
        split at hst
        · exact absurd hst (by simp)
        · rename_i hno
          injection hst with hst
          injection hst with e1 e2
          subst e1 e2
          refine bind _ _ v8 hp' (hqn hqs) hno (fun ρ hρ => ?_)
          rw [jn_leaf H hq' va, us_E_var hqs]
          have := hρ (jn_n (J (us_f J σ 8 q))) (us_f J σ 8 p) (by unfold us_put; rw [if_pos rfl])
          rw [this]
          exact (List.append_nil _).symm
end
end
section
/-! the turns are few enough, the stack is low enough -/
def us_n0 : List Int64 → Nat
  | [] => 0
  | t :: l => (if tm_ar t = 0 then 1 else 0) + us_n0 l
theorem us_n0_w : ∀ (l : List Int64) (m : Nat), tm_w l m → us_n0 l = m + us_b l
  | [], m, h => by rw [tm_w_nil] at h; subst h; rfl
  | t :: l, m, h => by
    obtain ⟨k, rfl, h1⟩ := tm_w_ne h
    have ih := us_n0_w l _ h1
    have := tm_ar_le t
    show (if tm_ar t = 0 then 1 else 0) + us_n0 l = k + 1 + ((if tm_ar t = 2 then 1 else 0) + us_b l)
    by_cases h0 : tm_ar t = 0
    · rw [if_pos h0, if_neg (by omega)]; omega
    · rw [if_neg h0]
      by_cases h2 : tm_ar t = 2
      · rw [if_pos h2]; omega
      · rw [if_neg h2]; omega
theorem us_n0_len : ∀ (l : List Int64), us_n0 l + us_b l ≤ l.length
  | [] => by simp [us_n0, us_b]
  | t :: l => by
    have ih := us_n0_len l
    show (if tm_ar t = 0 then 1 else 0) + us_n0 l + ((if tm_ar t = 2 then 1 else 0) + us_b l) ≤ l.length + 1
    by_cases h0 : tm_ar t = 0
    · rw [if_pos h0, if_neg (by omega)]; omega
    · rw [if_neg h0]; split <;> omega
def us_q (rk : Nat → Nat) (k : Nat) : List Int64 → Nat
  | [] => 0
  | t :: l => (if ¬ t < 8589934592 ∧ rk (jn_n t) = k then 1 else 0) + us_q rk k l
theorem us_q_app (rk : Nat → Nat) (k : Nat) : ∀ (a b : List Int64), us_q rk k (a ++ b) = us_q rk k a + us_q rk k b
  | [], b => by simp [us_q]
  | t :: a, b => by
    show _ + us_q rk k (a ++ b) = _
    rw [us_q_app rk k a b, us_q]; omega
def us_sm (f : Nat → Nat) : Nat → Nat
  | 0 => 0
  | k + 1 => us_sm f k + f k
theorem us_sm_le {f g : Nat → Nat} (h : ∀ k, f k ≤ g k) : ∀ K, us_sm f K ≤ us_sm g K
  | 0 => Nat.le_refl _
  | K + 1 => by
    have := us_sm_le h K
    have := h K
    show us_sm f K + f K ≤ us_sm g K + g K
    omega
theorem us_sm_eq {f g : Nat → Nat} (h : ∀ k, f k = g k) (K : Nat) : us_sm f K = us_sm g K := by
  rw [show f = g from funext h]
theorem us_sm_add (f : Nat → Nat) (j x : Nat) : ∀ K, j < K → us_sm (fun k => (if j = k then x else 0) + f k) K = x + us_sm f K
  | 0, h => absurd h (by omega)
  | K + 1, h => by
    show us_sm (fun k => (if j = k then x else 0) + f k) K + ((if j = K then x else 0) + f K) = x + (us_sm f K + f K)
    by_cases e : j = K
    · have : ∀ K', K' ≤ j → us_sm (fun k => (if j = k then x else 0) + f k) K' = us_sm f K' := by
        intro K'
        induction K' with
        | zero => intro _; rfl
        | succ K' ih =>
          intro hK
          show us_sm _ K' + ((if j = K' then x else 0) + f K') = us_sm f K' + f K'
          rw [ih (by omega), if_neg (by omega)]; omega
      rw [if_pos e, this K (by omega)]; omega
    · rw [us_sm_add f j x K (by omega), if_neg e]; omega
def us_A (O : Nat → Nat) : Nat → Nat
  | 0 => 29
  | k + 1 => us_A O k + O k * us_A O k
theorem us_A_sum (O : Nat → Nat) : ∀ K, 29 + us_sm (fun k => O k * us_A O k) K = us_A O K
  | 0 => rfl
  | K + 1 => by
    have := us_A_sum O K
    show 29 + (us_sm (fun k => O k * us_A O k) K + O K * us_A O K) = us_A O K + O K * us_A O K
    omega
theorem us_A_ge (O : Nat → Nat) (K : Nat) : 29 ≤ us_A O K := by
  have := us_A_sum O K; omega
theorem us_W_le (O rk : Nat → Nat) (K : Nat) : ∀ (l : List Int64), (∀ t, t ∈ l → ¬ t < 8589934592 → rk (jn_n t) < K) → us_W (fun v => us_A O (rk v)) l ≤ l.length + us_sm (fun k => us_q rk k l * us_A O k) K
  | [], _ => by simp [us_W]
  | t :: l, h => by
    have ih := us_W_le O rk K l (fun x hx => h x (List.mem_cons.mpr (Or.inr hx)))
    show (if t < 8589934592 then 1 else us_A O (rk (jn_n t))) + us_W _ l ≤ l.length + 1 + us_sm (fun k => ((if ¬ t < 8589934592 ∧ rk (jn_n t) = k then 1 else 0) + us_q rk k l) * us_A O k) K
    by_cases ht : t < 8589934592
    · rw [if_pos ht, us_sm_eq (g := fun k => us_q rk k l * us_A O k) (fun k => by rw [if_neg (fun z => z.1 ht), Nat.zero_add])]
      omega
    · rw [if_neg ht, us_sm_eq (g := fun k => (if rk (jn_n t) = k then us_A O (rk (jn_n t)) else 0) + us_q rk k l * us_A O k) (fun k => by
        by_cases e : rk (jn_n t) = k
        · rw [if_pos ⟨ht, e⟩, if_pos e, Nat.add_mul, Nat.one_mul, e]
        · rw [if_neg (fun z => e z.2), if_neg e, Nat.zero_add, Nat.zero_add]), us_sm_add (fun k => us_q rk k l * us_A O k) (rk (jn_n t)) _ K (h t (List.mem_cons.mpr (Or.inl rfl)) ht)]
      omega
theorem us_q_sum (rk : Nat → Nat) (hrk : ∀ v, rk v < 8) : ∀ (l : List Int64), (∀ t, t ∈ l → jn_k t) → us_sm (fun k => us_q rk k l) 8 ≤ us_n0 l
  | [], _ => Nat.le_refl 0
  | t :: l, h => by
    have ih := us_q_sum rk hrk l (fun x hx => h x (List.mem_cons.mpr (Or.inr hx)))
    show us_sm (fun k => (if ¬ t < 8589934592 ∧ rk (jn_n t) = k then 1 else 0) + us_q rk k l) 8 ≤ (if tm_ar t = 0 then 1 else 0) + us_n0 l
    by_cases ht : t < 8589934592
    · rw [us_sm_eq (g := fun k => us_q rk k l) (fun k => by rw [if_neg (fun z => z.1 ht), Nat.zero_add])]
      omega
    · rw [us_sm_eq (g := fun k => (if rk (jn_n t) = k then 1 else 0) + us_q rk k l) (fun k => by
        by_cases e : rk (jn_n t) = k
        · rw [if_pos ⟨ht, e⟩, if_pos e]
        · rw [if_neg (fun z => e z.2), if_neg e]), us_sm_add (fun k => us_q rk k l) (rk (jn_n t)) 1 8 (hrk _), if_pos (jn_var (h t (List.mem_cons.mpr (Or.inl rfl))) ht).2.2]
      omega
theorem us_am (x y : Nat) : 4 * (x * y) ≤ (x + y) * (x + y) := by
  have h : ∀ a b : Nat, a ≤ b → 4 * (a * b) ≤ (a + b) * (a + b) := by
    intro a b hab
    obtain ⟨d, rfl⟩ : ∃ d, b = a + d := ⟨b - a, by omega⟩
    have e : (a + (a + d)) * (a + (a + d)) = 4 * (a * (a + d)) + d * d := by grind
    omega
  rcases Nat.le_total x y with hxy | hxy
  · exact h x y hxy
  · have := h y x hxy
    rw [Nat.mul_comm y x, Nat.add_comm y x] at this
    exact this
theorem us_am4 (a b c d : Nat) : 256 * ((a * b) * (c * d)) ≤ (a + b + c + d) ^ 4 := by
  have h1 := us_am a b
  have h2 := us_am c d
  have h3 := us_am (a + b) (c + d)
  have h4 : (4 * (a * b)) * (4 * (c * d)) ≤ ((a + b) * (a + b)) * ((c + d) * (c + d)) := Nat.mul_le_mul h1 h2
  have h5 : (4 * ((a + b) * (c + d))) * (4 * ((a + b) * (c + d))) ≤ ((a + b + (c + d)) * (a + b + (c + d))) * ((a + b + (c + d)) * (a + b + (c + d))) := Nat.mul_le_mul h3 h3
  have e1 : (4 * (a * b)) * (4 * (c * d)) = 16 * ((a * b) * (c * d)) := by grind
  have e2 : (4 * ((a + b) * (c + d))) * (4 * ((a + b) * (c + d))) = 16 * (((a + b) * (a + b)) * ((c + d) * (c + d))) := by grind
  have e3 : ((a + b + (c + d)) * (a + b + (c + d))) * ((a + b + (c + d)) * (a + b + (c + d))) = (a + b + c + d) ^ 4 := by grind
  omega
theorem us_am8 (a b c d e f g h : Nat) (hs : a + b + c + d + (e + f + g + h) ≤ 38) : ((a * b) * (c * d)) * ((e * f) * (g * h)) ≤ 259148 := by
  have h1 := us_am4 a b c d
  have h2 := us_am4 e f g h
  have h3 := us_am (a + b + c + d) (e + f + g + h)
  have h4 : (a + b + c + d + (e + f + g + h)) * (a + b + c + d + (e + f + g + h)) ≤ 38 * 38 := Nat.mul_le_mul hs hs
  have h5 : (a + b + c + d) * (e + f + g + h) ≤ 361 := by omega
  have h6 : ((a + b + c + d) * (e + f + g + h)) ^ 4 ≤ 361 ^ 4 := Nat.pow_le_pow_left h5 4
  rw [Nat.mul_pow] at h6
  have h7 : (256 * ((a * b) * (c * d))) * (256 * ((e * f) * (g * h))) ≤ (a + b + c + d) ^ 4 * (e + f + g + h) ^ 4 := Nat.mul_le_mul h1 h2
  have e1 : (256 * ((a * b) * (c * d))) * (256 * ((e * f) * (g * h))) = 65536 * (((a * b) * (c * d)) * ((e * f) * (g * h))) := by grind
  have e2 : (361 : Nat) ^ 4 = 16983563041 := by decide
  omega
theorem us_A_8 (O : Nat → Nat) (h : us_sm O 8 ≤ 30) : us_A O 8 < 10000000 := by
  have e : us_A O 8 = 29 * ((((1 + O 0) * (1 + O 1)) * ((1 + O 2) * (1 + O 3))) * (((1 + O 4) * (1 + O 5)) * ((1 + O 6) * (1 + O 7)))) := by
    simp only [us_A]
    grind
  have hs : us_sm O 8 = 0 + O 0 + O 1 + O 2 + O 3 + O 4 + O 5 + O 6 + O 7 := rfl
  have := us_am8 (1 + O 0) (1 + O 1) (1 + O 2) (1 + O 3) (1 + O 4) (1 + O 5) (1 + O 6) (1 + O 7) (by omega)
  omega
section
variable {J : Nat → Int64} {A B : List Int64} {σ : Nat → Option Nat}
theorem us_q_t (H : jn_H J A B) (rk : Nat → Nat) (k : Nat) {p : Nat} (hp : jn_v A B p) : us_q rk k (jn_t A B p) ≤ us_q rk k A + us_q rk k B := by
  obtain ⟨l, r, m, q1, q2, q3, q4, q5, _⟩ := jn_tm H hp
  unfold jn_s at q4
  have hd : ∀ (C : List Int64) (n : Nat), us_q rk k (C.drop n) ≤ us_q rk k C := by
    intro C n
    have := us_q_app rk k (C.take n) (C.drop n)
    rw [List.take_append_drop] at this
    omega
  have h1 := us_q_app rk k (jn_t A B p) r
  by_cases h30 : p < 30
  · rw [if_pos h30] at q4
    rw [← q4] at h1
    have := hd A p
    omega
  · rw [if_neg h30] at q4
    rw [← q4] at h1
    have := hd B (p - 30)
    omega
theorem us_turns (H : jn_H J A B) {p0 q0 n p q : Nat} {S : List (Nat × Nat)} (h0 : jn_v A B p0) (hI : us_I A B p0 q0 n ((p, q) :: S) σ) : n < 10000000 ∧ S.length ≤ 126 := by
  obtain ⟨⟨rk, hR⟩, hv, hW, hB, _⟩ := hI
  have hp := (hv p q (List.mem_cons.mpr (Or.inl rfl))).1
  have hkk : ∀ p, jn_v A B p → ∀ t, t ∈ jn_t A B p → jn_k t := fun p hp => by
    obtain ⟨_, _, _, _, _, _, _, _, _, z, _⟩ := jn_tm H hp
    exact z
  have hsmall : ∀ p, jn_v A B p → us_b (jn_t A B p) ≤ 14 := fun p hp => by
    obtain ⟨_, _, _, _, _, z, _⟩ := jn_tm H hp
    have := us_n0_w _ _ z
    have := us_n0_len (jn_t A B p)
    have := (jn_lt H hp).2.2.2
    omega
  constructor
  · have hO : us_sm (fun k => us_q rk k A + us_q rk k B) 8 ≤ 30 := by
      obtain ⟨a1, b1, a2, b2, _, _, a3, b3⟩ := H
      have s1 := us_q_sum rk hR.1 A a3
      have s2 := us_q_sum rk hR.1 B b3
      have := us_n0_w _ _ a1
      have := us_n0_len A
      have := us_n0_w _ _ b1
      have := us_n0_len B
      have e : ∀ K, us_sm (fun k => us_q rk k A + us_q rk k B) K = us_sm (fun k => us_q rk k A) K + us_sm (fun k => us_q rk k B) K := by
        intro K
        induction K with
        | zero => rfl
        | succ K ih =>
          show us_sm _ K + (us_q rk K A + us_q rk K B) = (us_sm _ K + us_q rk K A) + (us_sm _ K + us_q rk K B)
          rw [ih]; omega
      rw [e]
      omega
    have hle : ∀ (r K : Nat), jn_v A B r → (∀ t, t ∈ jn_t A B r → ¬ t < 8589934592 → rk (jn_n t) < K) → us_W (fun v => us_A (fun k => us_q rk k A + us_q rk k B) (rk v)) (jn_t A B r) ≤ us_A (fun k => us_q rk k A + us_q rk k B) K := by
      intro r K hr hK
      have h1 := us_W_le (fun k => us_q rk k A + us_q rk k B) rk K (jn_t A B r) hK
      have h2 := (jn_lt H hr).2.2.2
      have h3 := us_A_sum (fun k => us_q rk k A + us_q rk k B) K
      have h4 : us_sm (fun k => us_q rk k (jn_t A B r) * us_A (fun k => us_q rk k A + us_q rk k B) k) K ≤ us_sm (fun k => (us_q rk k A + us_q rk k B) * us_A (fun k => us_q rk k A + us_q rk k B) k) K := us_sm_le (fun k => Nat.mul_le_mul_right _ (us_q_t H rk k hr)) K
      omega
    have hsup : us_Ws A B σ (fun v => us_A (fun k => us_q rk k A + us_q rk k B) (rk v)) := by
      refine ⟨fun v => ?_, fun v r e => ?_⟩
      · have := us_A_ge (fun k => us_q rk k A + us_q rk k B) (rk v)
        dsimp only
        omega
      · obtain ⟨_, hr, hrk⟩ := hR.2 v r e
        exact hle r (rk v) hr hrk
    have h1 := hW _ hsup
    have h2 := us_W_pos H hsup hp
    have h3 := hle p0 8 h0 (fun t _ _ => hR.1 _)
    have h4 := us_A_8 _ hO
    have h5 : us_SW A B (fun v => us_A (fun k => us_q rk k A + us_q rk k B) (rk v)) ((p, q) :: S) = us_W (fun v => us_A (fun k => us_q rk k A + us_q rk k B) (rk v)) (jn_t A B p) + us_SW A B (fun v => us_A (fun k => us_q rk k A + us_q rk k B) (rk v)) S := rfl
    omega
  · have hm : ∀ (l : List Int64) (K : Nat), (∀ t, t ∈ l → ¬ t < 8589934592 → rk (jn_n t) < K) → us_m (fun v => 14 * (rk v + 1)) l ≤ 14 * K := by
      intro l
      induction l with
      | nil => intro K _; simp [us_m]
      | cons t l ih =>
        intro K hK
        have h1 := ih K (fun x hx => hK x (List.mem_cons.mpr (Or.inr hx)))
        show max (if t < 8589934592 then 0 else 14 * (rk (jn_n t) + 1)) (us_m _ l) ≤ 14 * K
        by_cases ht : t < 8589934592
        · rw [if_pos ht]; omega
        · rw [if_neg ht]
          have := hK t (List.mem_cons.mpr (Or.inl rfl)) ht
          omega
    have hsup : us_Bs A B σ (fun v => 14 * (rk v + 1)) := by
      intro v r e
      obtain ⟨_, hr, hrk⟩ := hR.2 v r e
      have h1 := hsmall r hr
      have h2 := hm (jn_t A B r) (rk v) hrk
      dsimp only
      omega
    have h1 := (hB _ hsup).1
    have h2 := hsmall p0 h0
    have h3 := hm (jn_t A B p0) 8 (fun t _ _ => hR.1 _)
    omega
end
end
section
/-! the component: unification -/
def us_rs (A B : List Int64) (σ : Nat → Option Nat) (p : Nat) : Nat → Nat → Prop
  | 0, u => ∃ t, t ∈ jn_t A B p ∧ ¬ t < 8589934592 ∧ jn_n t = u
  | n + 1, u => us_rs A B σ p n u ∨ ∃ w q, us_rs A B σ p n w ∧ σ w = some q ∧ ∃ t, t ∈ jn_t A B q ∧ ¬ t < 8589934592 ∧ jn_n t = u
theorem us_rs_mono {A B : List Int64} {σ : Nat → Option Nat} {p : Nat} : ∀ (d n u : Nat), us_rs A B σ p n u → us_rs A B σ p (n + d) u
  | 0, n, u, h => h
  | d + 1, n, u, h => Or.inl (us_rs_mono d n u h)
theorem us_rs_h {A B : List Int64} {σ : Nat → Option Nat} {p v : Nat} (hv : v < 8) (hk : ∀ w q, σ w = some q → ∀ t, t ∈ jn_t A B q → jn_k t) : ∀ (d n u : Nat), u < 8 → us_rs A B σ p n u → lN (8589934592 + v) ∈ us_h A B σ d u → us_rs A B σ p (n + d) v := by
  have one : ∀ u, u < 8 → lN (8589934592 + v) ∈ [lN (8589934592 + u)] → v = u := by
    intro u hu h
    rw [List.mem_singleton] at h
    have := (pk_lEQ (a := 8589934592 + v) (b := 8589934592 + u) (by omega) (by omega)).mp h
    omega
  intro d
  induction d with
  | zero =>
    intro n u hu h1 h2
    have := one u hu h2
    subst this
    exact h1
  | succ d ih =>
    intro n u hu h1 h2
    cases e : σ u with
    | none =>
      rw [us_h_none e] at h2
      have := one u hu h2
      subst this
      exact us_rs_mono (d + 1) n v h1
    | some q =>
      rw [us_h_some e] at h2
      unfold us_E at h2
      obtain ⟨t, ht, hz⟩ := List.mem_flatMap.mp h2
      by_cases hs : t < 8589934592
      · rw [if_pos hs, List.mem_singleton] at hz
        rw [← hz, tk_lt 8589934592 (by omega)] at hs
        omega
      · rw [if_neg hs] at hz
        have := ih (n + 1) (jn_n t) (jn_var (hk u q e t ht) hs).1 (Or.inr ⟨u, q, h1, e, t, ht, hs, rfl⟩) hz
        rw [show n + 1 + d = n + (d + 1) by omega] at this
        exact this
theorem us_rs_E {A B : List Int64} {σ : Nat → Option Nat} {p : Nat} {ρ : Nat → List Int64} (hρ : us_Es A B σ ρ) : ∀ (n u : Nat), us_rs A B σ p n u → ∀ z, z ∈ ρ u → z ∈ us_E ρ (jn_t A B p)
  | 0, u, h, z, hz => by
    obtain ⟨t, ht, hn, e⟩ := h
    subst e
    exact us_E_mem ht hn hz
  | n + 1, u, h, z, hz => by
    rcases h with h | ⟨w, q, hw, e, t, ht, hn, e2⟩
    · exact us_rs_E hρ n u h z hz
    · subst e2
      refine us_rs_E hρ n w hw z ?_
      rw [hρ w q e]
      exact us_E_mem ht hn hz
def xs_S (one two : Nat → Int32) : List (Nat × Nat) → Prop
  | [] => True
  | (a, b) :: S => one S.length = nI a ∧ two S.length = nI b ∧ xs_S one two S
def xu_s (un : Nat → Int32) (σ : Nat → Option Nat) : Prop := ∀ v, v < 8 → un v = match σ v with
  | none => -1
  | some q => nI q
theorem xs_S_congr {one two one' two' : Nat → Int32} : ∀ {S : List (Nat × Nat)}, (∀ j, j < S.length → one' j = one j ∧ two' j = two j) → xs_S one two S → xs_S one' two' S
  | [], _, _ => trivial
  | (a, b) :: S, h, hh => by
    have h1 := h S.length (by simp)
    refine ⟨h1.1.trans hh.1, h1.2.trans hh.2.1, xs_S_congr (fun j hj => h j ?_) hh.2.2⟩
    rw [List.length_cons]; omega
theorem xs_S_push {one two : Nat → Int32} {S : List (Nat × Nat)} {a b : Nat} (h : xs_S one two S) : xs_S (upd one S.length (nI a)) (upd two S.length (nI b)) ((a, b) :: S) :=
  ⟨pk_us, pk_us, xs_S_congr (fun j hj => ⟨pk_un (by omega), pk_un (by omega)⟩) h⟩
theorem xu_none {un : Nat → Int32} {σ : Nat → Option Nat} (h : xu_s un σ) {v : Nat} (hv : v < 8) (e : σ v = none) : un v = -1 := by
  have := h v hv
  rw [e] at this
  exact this
theorem xu_some {un : Nat → Int32} {σ : Nat → Option Nat} (h : xu_s un σ) {v q : Nat} (hv : v < 8) (e : σ v = some q) : un v = nI q := by
  have := h v hv
  rw [e] at this
  exact this
section
variable {f_drafted f_faultPlace f_reportedSteps f_resultSize f_sheetSize f_waitingSize f_builtSize f_unfinished f_taken f_keptSize f_stacked f_ranked f_surveyed : Int32} {a_draft a_result a_lefts a_rights a_sheet a_waiting a_built a_kept a_joint : Nat → Int64} {a_leftSize a_ways a_rightSize a_unfinishedStart a_unfinishedLacks a_matchStart a_matchEnd a_unified a_oneStack a_otherStack a_nestedAt a_nestedEnd a_rank a_pairCount a_firstOpen : Nat → Int32}
variable {A B : List Int64} {σ : Nat → Option Nat} {rk : Nat → Nat}
theorem xf_l {post : Int32 → Prop} (H : jn_H a_joint A B) (hR : us_R A B σ rk) (hu : xu_s a_unified σ) : ∀ (d k p n : Nat), k + d = 8 → jn_v A B p → d < n → post (nI (us_f a_joint σ d p)) → wX_followed_4 post f_drafted f_faultPlace f_reportedSteps f_resultSize f_sheetSize f_waitingSize f_builtSize f_unfinished f_taken f_keptSize f_stacked f_ranked f_surveyed a_draft a_result a_lefts a_leftSize a_ways a_rights a_rightSize a_sheet a_waiting a_built a_unfinishedStart a_unfinishedLacks a_kept a_matchStart a_matchEnd a_joint a_unified a_oneStack a_otherStack a_nestedAt a_nestedEnd a_rank a_pairCount a_firstOpen n (nI p) (nI k)
  | 0, k, p, n, hk, hp, hn, h => by
    obtain ⟨n, rfl⟩ : ∃ n', n = n' + 1 := ⟨n - 1, by omega⟩
    exact pk_le 8 k (fun _ => h) (fun z => absurd z (by omega))
  | d + 1, k, p, n, hk, hp, hn, h => by
    obtain ⟨n, rfl⟩ : ∃ n', n = n' + 1 := ⟨n - 1, by omega⟩
    have hl := jn_lt H hp
    have hin : vp_in (nI p) 60 := vp_in_nI (by omega) (by omega)
    have hkJ := jn_J H hp
    refine pk_le 8 k (fun z => absurd z (by omega)) (fun _ => ⟨hin, ?_⟩)
    rw [nI_clamp (by omega)]
    by_cases hs : a_joint p < 8589934592
    · rw [us_fixp (us_1_sym hs)] at h
      exact br_t hs h
    · obtain ⟨hv, _, _⟩ := jn_var hkJ hs
      refine br_f hs ⟨hin, ?_⟩
      rw [jn_and7 hkJ hs]
      refine ⟨vp_in_nI hv (by omega), nm_r (e' := a_unified (jn_n (a_joint p))) (by rw [nI_clamp (by omega)]) ?_⟩
      cases e : σ (jn_n (a_joint p)) with
      | none =>
        rw [us_f, us_1_none hs e] at h
        rw [xu_none hu hv e]
        exact br_f (by decide) (nm_r (nI_1 k) (xf_l H hR hu d (k + 1) p n (by omega) hp (by omega) h))
      | some q =>
        rw [us_f, us_1_some hs e] at h
        obtain ⟨_, hq, _⟩ := hR.2 _ q e
        have := jn_lt H hq
        rw [xu_some hu hv e]
        exact br_t (nI_pos' (by omega)) (nm_r (nI_1 k) (xf_l H hR hu d (k + 1) q n (by omega) hq (by omega) h))
theorem xf_fol {post : Int32 → Prop} (H : jn_H a_joint A B) (hR : us_R A B σ rk) (hu : xu_s a_unified σ) {p : Nat} {x : Int32} (hx : x = nI p) (hp : jn_v A B p) (h : post (nI (us_f a_joint σ 8 p))) : wpX_followed post (f_drafted, f_faultPlace, f_reportedSteps, f_resultSize, f_sheetSize, f_waitingSize, f_builtSize, f_unfinished, f_taken, f_keptSize, f_stacked, f_ranked, f_surveyed, a_draft, a_result, a_lefts, a_leftSize, a_ways, a_rights, a_rightSize, a_sheet, a_waiting, a_built, a_unfinishedStart, a_unfinishedLacks, a_kept, a_matchStart, a_matchEnd, a_joint, a_unified, a_oneStack, a_otherStack, a_nestedAt, a_nestedEnd, a_rank, a_pairCount, a_firstOpen) x := by
  subst hx
  exact ⟨9, xf_l H hR hu 8 0 p 9 rfl hp (by omega) h⟩
theorem xj_end {post : Int32 → Prop} (H : jn_H a_joint A B) {p : Nat} {x : Int32} (hx : x = nI p) (hp : jn_v A B p) (h : post (nI (p + (jn_t A B p).length))) : wpX_endOf__joint post (f_drafted, f_faultPlace, f_reportedSteps, f_resultSize, f_sheetSize, f_waitingSize, f_builtSize, f_unfinished, f_taken, f_keptSize, f_stacked, f_ranked, f_surveyed, a_draft, a_result, a_lefts, a_leftSize, a_ways, a_rights, a_rightSize, a_sheet, a_waiting, a_built, a_unfinishedStart, a_unfinishedLacks, a_kept, a_matchStart, a_matchEnd, a_joint, a_unified, a_oneStack, a_otherStack, a_nestedAt, a_nestedEnd, a_rank, a_pairCount, a_firstOpen) x 60 := by
  subst hx
  obtain ⟨l, r, k, q1, q2, q3, q4, q5, q6, q7, _⟩ := jn_tm H hp
  have hl := jn_lt H hp
  obtain ⟨s, s1, s2⟩ := hd_ex a_joint (60 - (p + (jn_t A B p).length)) (p + (jn_t A B p).length)
  exact xe_joint (a := jn_t A B p) (r := s) p 60 (p + (jn_t A B p).length) q3 (hd_app.mpr ⟨q6, s2⟩) (by omega) rfl (by omega) h
theorem xw_stack {post : SX → Prop} {k : Nat} {a b : Int32} (hk : k < 128) (h : post (f_drafted, f_faultPlace, f_reportedSteps, f_resultSize, f_sheetSize, f_waitingSize, f_builtSize, f_unfinished, f_taken, f_keptSize, nI (k + 1), f_ranked, f_surveyed, a_draft, a_result, a_lefts, a_leftSize, a_ways, a_rights, a_rightSize, a_sheet, a_waiting, a_built, a_unfinishedStart, a_unfinishedLacks, a_kept, a_matchStart, a_matchEnd, a_joint, a_unified, upd a_oneStack k a, upd a_otherStack k b, a_nestedAt, a_nestedEnd, a_rank, a_pairCount, a_firstOpen)) : wpX_stack post (f_drafted, f_faultPlace, f_reportedSteps, f_resultSize, f_sheetSize, f_waitingSize, f_builtSize, f_unfinished, f_taken, f_keptSize, nI k, f_ranked, f_surveyed, a_draft, a_result, a_lefts, a_leftSize, a_ways, a_rights, a_rightSize, a_sheet, a_waiting, a_built, a_unfinishedStart, a_unfinishedLacks, a_kept, a_matchStart, a_matchEnd, a_joint, a_unified, a_oneStack, a_otherStack, a_nestedAt, a_nestedEnd, a_rank, a_pairCount, a_firstOpen) a b := by
  have hin : vp_in (nI k) 128 := vp_in_nI hk (by omega)
  have ek : (nI k).toNatClampNeg = k := nI_clamp (by omega)
  refine pk_le 128 k (fun z => absurd z (by omega)) (fun _ => ⟨hin, nm_r (e' := upd a_oneStack k a) (by rw [ek]) ⟨hin, nm_r (e' := upd a_otherStack k b) (by rw [ek]) (nm_r (nI_1 k) h)⟩⟩)
theorem xw_stack2 {post : SX → Prop} {k a' b' : Nat} {a b : Int32} (ha : a = nI a') (hb : b = nI b') (hk : k < 128) (h : post (f_drafted, f_faultPlace, f_reportedSteps, f_resultSize, f_sheetSize, f_waitingSize, f_builtSize, f_unfinished, f_taken, f_keptSize, nI (k + 1), f_ranked, f_surveyed, a_draft, a_result, a_lefts, a_leftSize, a_ways, a_rights, a_rightSize, a_sheet, a_waiting, a_built, a_unfinishedStart, a_unfinishedLacks, a_kept, a_matchStart, a_matchEnd, a_joint, a_unified, upd a_oneStack k (nI a'), upd a_otherStack k (nI b'), a_nestedAt, a_nestedEnd, a_rank, a_pairCount, a_firstOpen)) : wpX_stack post (f_drafted, f_faultPlace, f_reportedSteps, f_resultSize, f_sheetSize, f_waitingSize, f_builtSize, f_unfinished, f_taken, f_keptSize, nI k, f_ranked, f_surveyed, a_draft, a_result, a_lefts, a_leftSize, a_ways, a_rights, a_rightSize, a_sheet, a_waiting, a_built, a_unfinishedStart, a_unfinishedLacks, a_kept, a_matchStart, a_matchEnd, a_joint, a_unified, a_oneStack, a_otherStack, a_nestedAt, a_nestedEnd, a_rank, a_pairCount, a_firstOpen) a b := by
  subst ha hb
  exact xw_stack hk h
theorem xw_args {post : SX → Prop} (H : jn_H a_joint A B) {p q : Nat} {S : List (Nat × Nat)} (hp : jn_v A B p) (hq : jn_v A B q) (e : a_joint p = a_joint q) (hS : xs_S a_oneStack a_otherStack S) (hb : (us_ag a_joint A B p q S).length ≤ 128) (Hp : ∀ st one two, st = nI (us_ag a_joint A B p q S).length → xs_S one two (us_ag a_joint A B p q S) → post (f_drafted, f_faultPlace, f_reportedSteps, f_resultSize, f_sheetSize, f_waitingSize, f_builtSize, f_unfinished, f_taken, f_keptSize, st, f_ranked, f_surveyed, a_draft, a_result, a_lefts, a_leftSize, a_ways, a_rights, a_rightSize, a_sheet, a_waiting, a_built, a_unfinishedStart, a_unfinishedLacks, a_kept, a_matchStart, a_matchEnd, a_joint, a_unified, one, two, a_nestedAt, a_nestedEnd, a_rank, a_pairCount, a_firstOpen)) : wpX_stackArguments post (f_drafted, f_faultPlace, f_reportedSteps, f_resultSize, f_sheetSize, f_waitingSize, f_builtSize, f_unfinished, f_taken, f_keptSize, nI S.length, f_ranked, f_surveyed, a_draft, a_result, a_lefts, a_leftSize, a_ways, a_rights, a_rightSize, a_sheet, a_waiting, a_built, a_unfinishedStart, a_unfinishedLacks, a_kept, a_matchStart, a_matchEnd, a_joint, a_unified, a_oneStack, a_otherStack, a_nestedAt, a_nestedEnd, a_rank, a_pairCount, a_firstOpen) (nI p) (nI q) := by
  have hlp := jn_lt H hp
  have hlq := jn_lt H hq
  refine ⟨vp_in_nI (by omega) (by omega), ?_⟩
  rw [nI_clamp (by omega)]
  refine tk_arX _ ?_
  unfold us_ag at hb Hp
  by_cases hpq : p = q
  · rw [if_pos (Or.inl hpq)] at Hp
    exact br_t (by rw [hpq]) (Hp _ _ _ rfl hS)
  · have hne : ¬ nI p = nI q := by rw [nI_eq (by omega) (by omega)]; exact hpq
    have har := tm_ar_le (a_joint p)
    refine br_f hne (pk_eq (tm_ar (a_joint p)) 0 (fun h0 => ?_) (fun h0 => ?_))
    · rw [if_pos (Or.inr h0)] at Hp
      exact Hp _ _ _ rfl hS
    · rw [if_neg (by rintro (z | z); exact hpq z; exact h0 z)] at Hp hb
      refine pk_eq (tm_ar (a_joint p)) 2 (fun h2 => ?_) (fun h2 => ?_)
      · rw [if_pos h2] at Hp hb
        rw [List.length_cons, List.length_cons] at hb
        obtain ⟨p1, l, pt, pl, pv, pe⟩ := jn_args H hp (m := 1) h2
        obtain ⟨q1, l', qt, ql, qv, qe⟩ := jn_args H hq (m := 1) (by rw [← e]; exact h2)
        refine xj_end H (nI_1 p) p1 ?_
        refine xj_end H (nI_1 q) q1 ?_
        refine xw_stack (by omega) ?_
        refine xw_stack2 (nI_1 p) (nI_1 q) (by omega) (Hp _ _ _ rfl ?_)
        exact xs_S_push (S := (_, _) :: S) (xs_S_push hS)
      · rw [if_neg h2] at Hp hb
        rw [List.length_cons] at hb
        exact xw_stack2 (nI_1 p) (nI_1 q) (by omega) (Hp _ _ _ rfl (xs_S_push hS))
theorem xv_l {post : Int32 → Prop} {e : Nat} (he : e ≤ 60) : ∀ (l : List Int64) (p n : Nat) (x3 : Int32), p + l.length = e → hd_h a_joint p l → (∀ t, t ∈ l → jn_k t) → l.length < n → (∀ y : Int32, (∀ i, i < 8 → (bt y i = true ↔ (bt x3 i = true ∨ ∃ t, t ∈ l ∧ ¬ t < 8589934592 ∧ jn_n t = i))) → post y) → wX_variablesIn_16 post (nI e) f_drafted f_faultPlace f_reportedSteps f_resultSize f_sheetSize f_waitingSize f_builtSize f_unfinished f_taken f_keptSize f_stacked f_ranked f_surveyed a_draft a_result a_lefts a_leftSize a_ways a_rights a_rightSize a_sheet a_waiting a_built a_unfinishedStart a_unfinishedLacks a_kept a_matchStart a_matchEnd a_joint a_unified a_oneStack a_otherStack a_nestedAt a_nestedEnd a_rank a_pairCount a_firstOpen n x3 (nI p)
  | [], p, n, x3, h1, h2, h3, hn, h => by
    obtain ⟨n, rfl⟩ : ∃ n', n = n' + 1 := ⟨n - 1, by omega⟩
    rw [List.length_nil] at h1
    refine pk_le e p (fun _ => h x3 (fun i hi => ⟨fun z => Or.inl z, fun z => ?_⟩)) (fun z => absurd z (by omega))
    rcases z with z | ⟨t, ht, _⟩
    · exact z
    · exact absurd ht (by simp)
  | t :: l, p, n, x3, h1, h2, h3, hn, h => by
    obtain ⟨n, rfl⟩ : ∃ n', n = n' + 1 := ⟨n - 1, by omega⟩
    rw [List.length_cons] at h1 hn
    have hin : vp_in (nI p) 60 := vp_in_nI (by omega) (by omega)
    have hk := h3 t (List.mem_cons.mpr (Or.inl rfl))
    refine pk_le e p (fun z => absurd z (by omega)) (fun _ => ⟨hin, ?_⟩)
    rw [nI_clamp (by omega), h2.1]
    by_cases hs : t < 8589934592
    · refine br_f (Int64.not_le.mpr hs) (nm_r (fb_or0 x3) (nm_r (nI_1 p) (xv_l he l (p + 1) n x3 (by omega) h2.2 (fun x hx => h3 x (List.mem_cons.mpr (Or.inr hx))) (by omega) (fun y hy => h y (fun i hi => ?_)))))
      rw [hy i hi]
      constructor
      · rintro (z | ⟨s, z1, z2, z3⟩)
        · exact Or.inl z
        · exact Or.inr ⟨s, List.mem_cons.mpr (Or.inr z1), z2, z3⟩
      · rintro (z | ⟨s, z1, z2, z3⟩)
        · exact Or.inl z
        · rcases List.mem_cons.mp z1 with e2 | e2
          · rw [e2] at z2; exact absurd hs z2
          · exact Or.inr ⟨s, e2, z2, z3⟩
    · obtain ⟨hv, _, _⟩ := jn_var hk hs
      refine br_t (Int64.not_lt.mp hs) ⟨hin, nm_r (e' := x3 ||| ((1 : Int32) <<< (nI (jn_n t) &&& 31))) (by rw [jn_and7 hk hs]) (nm_r (nI_1 p) (xv_l he l (p + 1) n _ (by omega) h2.2 (fun x hx => h3 x (List.mem_cons.mpr (Or.inr hx))) (by omega) (fun y hy => h y (fun i hi => ?_))))⟩
      rw [hy i hi, fa_or (by omega) (by omega), Bool.or_eq_true, decide_eq_true_iff]
      constructor
      · rintro ((z | z) | ⟨s, z1, z2, z3⟩)
        · exact Or.inl z
        · exact Or.inr ⟨t, by simp, hs, z.symm⟩
        · exact Or.inr ⟨s, List.mem_cons.mpr (Or.inr z1), z2, z3⟩
      · rintro (z | ⟨s, z1, z2, z3⟩)
        · exact Or.inl (Or.inl z)
        · rcases List.mem_cons.mp z1 with e2 | e2
          · rw [e2] at z3; exact Or.inl (Or.inr z3.symm)
          · exact Or.inr ⟨s, e2, z2, z3⟩
theorem xv_in {post : Int32 → Prop} (H : jn_H a_joint A B) {p : Nat} {x : Int32} (hx : x = nI p) (hp : jn_v A B p) (h : ∀ y : Int32, (∀ i, i < 8 → (bt y i = true ↔ ∃ t, t ∈ jn_t A B p ∧ ¬ t < 8589934592 ∧ jn_n t = i)) → post y) : wpX_variablesIn post (f_drafted, f_faultPlace, f_reportedSteps, f_resultSize, f_sheetSize, f_waitingSize, f_builtSize, f_unfinished, f_taken, f_keptSize, f_stacked, f_ranked, f_surveyed, a_draft, a_result, a_lefts, a_leftSize, a_ways, a_rights, a_rightSize, a_sheet, a_waiting, a_built, a_unfinishedStart, a_unfinishedLacks, a_kept, a_matchStart, a_matchEnd, a_joint, a_unified, a_oneStack, a_otherStack, a_nestedAt, a_nestedEnd, a_rank, a_pairCount, a_firstOpen) x := by
  subst hx
  obtain ⟨l, r, k, q1, q2, q3, q4, q5, q6, q7, _⟩ := jn_tm H hp
  have hl := jn_lt H hp
  refine xj_end H rfl hp ⟨(jn_t A B p).length + 1, ?_⟩
  refine xv_l (by omega) (jn_t A B p) p _ 0 rfl q6 q7 (by omega) (fun y hy => h y (fun i hi => ?_))
  rw [hy i hi, b_0]
  simp
theorem xp_bit {x : Int32} {w : Nat} (hw : w < 8) : ((x >>> (nI w &&& 31)) &&& 1) = 1 ↔ bt x w = true := by
  have key : ∀ i, i < 32 → bt ((x >>> (nI w &&& 31)) &&& 1) i = (bt x w && decide (i = 0)) := by
    intro i hi
    rw [b_and, fa_b1 i hi]
    by_cases e : i = 0
    · subst e
      rw [b_sshr w (by omega) x (by omega), if_pos (by omega), Nat.add_zero]
    · rw [decide_eq_false e, Bool.and_false, Bool.and_false]
  constructor
  · intro h
    have := key 0 (by omega)
    rw [h, fa_b1 0 (by omega), decide_eq_true rfl, Bool.and_true] at this
    exact this.symm
  · intro h
    apply b_ext
    intro i hi
    rw [key i hi, fa_b1 i hi, h, Bool.true_and]
theorem xp_bit0 {x : Int32} {w : Nat} (hw : w < 8) : ((x >>> (nI w &&& 31)) &&& 1) = 0 ↔ bt x w = false := by
  have key : ∀ i, i < 32 → bt ((x >>> (nI w &&& 31)) &&& 1) i = (bt x w && decide (i = 0)) := by
    intro i hi
    rw [b_and, fa_b1 i hi]
    by_cases e : i = 0
    · subst e
      rw [b_sshr w (by omega) x (by omega), if_pos (by omega), Nat.add_zero]
    · rw [decide_eq_false e, Bool.and_false, Bool.and_false]
  constructor
  · intro h
    have := key 0 (by omega)
    rw [h, b_0, decide_eq_true rfl, Bool.and_true] at this
    exact this.symm
  · intro h
    apply b_ext
    intro i hi
    rw [key i hi, b_0, h, Bool.false_and]
theorem xp_28 {post : Int32 → SX → Prop} (J18 : Int32 → Int32 → Prop) {x3 x4 : Int32} {k p m : Nat} (H : jn_H a_joint A B) (hR : us_R A B σ rk) (hu : xu_s a_unified σ) (hJ : ∀ y : Int32, (∀ i, i < 8 → us_rs A B σ p (m + 1) i → bt y i = true) → (∀ i, i < 8 → bt y i = true → ∃ n, us_rs A B σ p n i) → J18 y (nI (k + 1))) : ∀ (d w n : Nat) (x5 : Int32), w + d = 8 → (∀ i, i < 8 → us_rs A B σ p m i → bt x5 i = true) → (∀ i, i < 8 → bt x5 i = true → ∃ n, us_rs A B σ p n i) → (∀ u q i, u < w → us_rs A B σ p m u → σ u = some q → i < 8 → (∃ t, t ∈ jn_t A B q ∧ ¬ t < 8589934592 ∧ jn_n t = i) → bt x5 i = true) → d < n → wX_put_28 post J18 x3 x4 (nI k) f_drafted f_faultPlace f_reportedSteps f_resultSize f_sheetSize f_waitingSize f_builtSize f_unfinished f_taken f_keptSize f_stacked f_ranked f_surveyed a_draft a_result a_lefts a_leftSize a_ways a_rights a_rightSize a_sheet a_waiting a_built a_unfinishedStart a_unfinishedLacks a_kept a_matchStart a_matchEnd a_joint a_unified a_oneStack a_otherStack a_nestedAt a_nestedEnd a_rank a_pairCount a_firstOpen n x5 (nI w)
  | 0, w, n, x5, hw, h1, h2, h3, hn => by
    obtain ⟨n, rfl⟩ : ∃ n', n = n' + 1 := ⟨n - 1, by omega⟩
    refine pk_le 8 w (fun _ => nm_r (nI_1 k) (hJ x5 (fun i hi z => ?_) h2)) (fun z => absurd z (by omega))
    rcases z with z | ⟨u, q, z1, z2, z3⟩
    · exact h1 i hi z
    · exact h3 u q i (by have := (hR.2 u q z2).1; omega) z1 z2 hi z3
  | d + 1, w, n, x5, hw, h1, h2, h3, hn => by
    obtain ⟨n, rfl⟩ : ∃ n', n = n' + 1 := ⟨n - 1, by omega⟩
    have ew : (nI w).toNatClampNeg = w := nI_clamp (by omega)
    have hin : vp_in (nI w) 8 := vp_in_nI (by omega) (by omega)
    refine pk_le 8 w (fun z => absurd z (by omega)) (fun _ => ?_)
    have go : ∀ (y : Int32), (∀ i, i < 8 → bt x5 i = true → bt y i = true) → (∀ i, i < 8 → bt y i = true → ∃ n, us_rs A B σ p n i) → (us_rs A B σ p m w → ∀ q i, σ w = some q → i < 8 → (∃ t, t ∈ jn_t A B q ∧ ¬ t < 8589934592 ∧ jn_n t = i) → bt y i = true) → wX_put_28 post J18 x3 x4 (nI k) f_drafted f_faultPlace f_reportedSteps f_resultSize f_sheetSize f_waitingSize f_builtSize f_unfinished f_taken f_keptSize f_stacked f_ranked f_surveyed a_draft a_result a_lefts a_leftSize a_ways a_rights a_rightSize a_sheet a_waiting a_built a_unfinishedStart a_unfinishedLacks a_kept a_matchStart a_matchEnd a_joint a_unified a_oneStack a_otherStack a_nestedAt a_nestedEnd a_rank a_pairCount a_firstOpen n y (nI (w + 1)) := by
      intro y g1 g2 g3
      refine xp_28 J18 H hR hu hJ d (w + 1) n y (by omega) (fun i hi z => g1 i hi (h1 i hi z)) g2 (fun u q i hu' z1 z2 hi z3 => ?_) (by omega)
      by_cases e : u = w
      · subst e; exact g3 z1 q i z2 hi z3
      · exact g1 i hi (h3 u q i (by omega) z1 z2 hi z3)
    by_cases hb : bt x5 w = true
    · refine br_t ((xp_bit (by omega)).mpr hb) ⟨hin, ?_⟩
      rw [ew]
      cases e : σ w with
      | none =>
        rw [xu_none hu (by omega) e]
        exact br_t (by decide) (nm_r (nI_1 w) (go x5 (fun i hi z => z) h2 (fun _ q i z => absurd z (by rw [e]; simp))))
      | some q =>
        obtain ⟨_, hq, _⟩ := hR.2 w q e
        have hlq := jn_lt H hq
        rw [xu_some hu (by omega) e]
        refine br_f (nI_pos (by omega)) ⟨hin, xv_in H rfl hq (fun y hy => nm_e (nm_r (nI_1 w) (go _ (fun i hi z => ?_) (fun i hi z => ?_) (fun _ q' i z hi z2 => ?_))))⟩
        · rw [b_or, z, Bool.true_or]
        · rw [b_or, Bool.or_eq_true] at z
          rcases z with z | z
          · exact h2 i hi z
          · obtain ⟨m', hm'⟩ := h2 w (by omega) hb
            exact ⟨m' + 1, Or.inr ⟨w, q, hm', e, (hy i hi).mp z⟩⟩
        · rw [e] at z
          injection z with z
          subst z
          rw [b_or, (hy i hi).mpr z2, Bool.or_true]
    · refine br_f (fun z => hb ((xp_bit (by omega)).mp z)) (nm_r (nI_1 w) (go x5 (fun i hi z => z) h2 (fun z => absurd (h1 w (by omega) z) hb)))
theorem xp_18 {post : Int32 → SX → Prop} {p v : Nat} (H : jn_H a_joint A B) (hR : us_R A B σ rk) (hu : xu_s a_unified σ) (hv : v < 8) (Hp : ∀ y : Int32, (us_rs A B σ p 8 v → bt y v = true) → (bt y v = true → ∃ n, us_rs A B σ p n v) → (bt y v = false → post 1 (f_drafted, f_faultPlace, f_reportedSteps, f_resultSize, f_sheetSize, f_waitingSize, f_builtSize, f_unfinished, f_taken, f_keptSize, f_stacked, f_ranked, f_surveyed, a_draft, a_result, a_lefts, a_leftSize, a_ways, a_rights, a_rightSize, a_sheet, a_waiting, a_built, a_unfinishedStart, a_unfinishedLacks, a_kept, a_matchStart, a_matchEnd, a_joint, upd a_unified v (nI p), a_oneStack, a_otherStack, a_nestedAt, a_nestedEnd, a_rank, a_pairCount, a_firstOpen)) ∧ (bt y v = true → post 0 (f_drafted, f_faultPlace, f_reportedSteps, f_resultSize, f_sheetSize, f_waitingSize, f_builtSize, f_unfinished, f_taken, f_keptSize, f_stacked, f_ranked, f_surveyed, a_draft, a_result, a_lefts, a_leftSize, a_ways, a_rights, a_rightSize, a_sheet, a_waiting, a_built, a_unfinishedStart, a_unfinishedLacks, a_kept, a_matchStart, a_matchEnd, a_joint, upd a_unified v (nI p), a_oneStack, a_otherStack, a_nestedAt, a_nestedEnd, a_rank, a_pairCount, a_firstOpen)) → True) (Hy : (¬ ∃ n, us_rs A B σ p n v) → post 1 (f_drafted, f_faultPlace, f_reportedSteps, f_resultSize, f_sheetSize, f_waitingSize, f_builtSize, f_unfinished, f_taken, f_keptSize, f_stacked, f_ranked, f_surveyed, a_draft, a_result, a_lefts, a_leftSize, a_ways, a_rights, a_rightSize, a_sheet, a_waiting, a_built, a_unfinishedStart, a_unfinishedLacks, a_kept, a_matchStart, a_matchEnd, a_joint, upd a_unified v (nI p), a_oneStack, a_otherStack, a_nestedAt, a_nestedEnd, a_rank, a_pairCount, a_firstOpen)) (Hn : (us_rs A B σ p 8 v ∨ ∃ n, us_rs A B σ p n v) → post 0 (f_drafted, f_faultPlace, f_reportedSteps, f_resultSize, f_sheetSize, f_waitingSize, f_builtSize, f_unfinished, f_taken, f_keptSize, f_stacked, f_ranked, f_surveyed, a_draft, a_result, a_lefts, a_leftSize, a_ways, a_rights, a_rightSize, a_sheet, a_waiting, a_built, a_unfinishedStart, a_unfinishedLacks, a_kept, a_matchStart, a_matchEnd, a_joint, upd a_unified v (nI p), a_oneStack, a_otherStack, a_nestedAt, a_nestedEnd, a_rank, a_pairCount, a_firstOpen)) (hdec : (∃ n, us_rs A B σ p n v) → us_rs A B σ p 8 v) : ∀ (d k n : Nat) (x5 : Int32), k + d = 8 → (∀ i, i < 8 → us_rs A B σ p k i → bt x5 i = true) → (∀ i, i < 8 → bt x5 i = true → ∃ n, us_rs A B σ p n i) → d < n → wX_put_18 post (nI p) (nI v) f_drafted f_faultPlace f_reportedSteps f_resultSize f_sheetSize f_waitingSize f_builtSize f_unfinished f_taken f_keptSize f_stacked f_ranked f_surveyed a_draft a_result a_lefts a_leftSize a_ways a_rights a_rightSize a_sheet a_waiting a_built a_unfinishedStart a_unfinishedLacks a_kept a_matchStart a_matchEnd a_joint a_unified a_oneStack a_otherStack a_nestedAt a_nestedEnd a_rank a_pairCount a_firstOpen n x5 (nI k)
  | 0, k, n, x5, hk, h1, h2, hn => by
    obtain ⟨n, rfl⟩ : ∃ n', n = n' + 1 := ⟨n - 1, by omega⟩
    have ek : k = 8 := by omega
    subst ek
    refine pk_le 8 8 (fun _ => ⟨vp_in_nI hv (by omega), nm_r (e' := upd a_unified v (nI p)) (by rw [nI_clamp (by omega)]) ?_⟩) (fun z => absurd z (by omega))
    by_cases hb : bt x5 v = true
    · refine br_f (fun z => ?_) (Hn (Or.inr (h2 v hv hb)))
      rw [xp_bit0 hv, hb] at z
      exact absurd z (by decide)
    · refine br_t ((xp_bit0 hv).mpr (by simpa using hb)) (Hy (fun z => hb (h1 v hv (hdec z))))
  | d + 1, k, n, x5, hk, h1, h2, hn => by
    obtain ⟨n, rfl⟩ : ∃ n', n = n' + 1 := ⟨n - 1, by omega⟩
    refine pk_le 8 k (fun z => absurd z (by omega)) (fun _ => ⟨9, ?_⟩)
    exact xp_28 (m := k) (p := p) _ H hR hu (fun y g1 g2 => xp_18 H hR hu hv Hp Hy Hn hdec d (k + 1) n y (by omega) g1 g2 (by omega)) 8 0 9 x5 rfl h1 h2 (fun u q i z => absurd z (by omega)) (by omega)
theorem xp_put {post : Int32 → SX → Prop} (H : jn_H a_joint A B) (hR : us_R A B σ rk) (hu : xu_s a_unified σ) {t : Int64} {p : Nat} (ht : jn_k t) (htn : ¬ t < 8589934592) (h0 : σ (jn_n t) = none) (hp : jn_v A B p) (Hy : ¬ lN (8589934592 + jn_n t) ∈ us_E (us_h A B σ 8) (jn_t A B p) → post 1 (f_drafted, f_faultPlace, f_reportedSteps, f_resultSize, f_sheetSize, f_waitingSize, f_builtSize, f_unfinished, f_taken, f_keptSize, f_stacked, f_ranked, f_surveyed, a_draft, a_result, a_lefts, a_leftSize, a_ways, a_rights, a_rightSize, a_sheet, a_waiting, a_built, a_unfinishedStart, a_unfinishedLacks, a_kept, a_matchStart, a_matchEnd, a_joint, upd a_unified (jn_n t) (nI p), a_oneStack, a_otherStack, a_nestedAt, a_nestedEnd, a_rank, a_pairCount, a_firstOpen)) (Hn : lN (8589934592 + jn_n t) ∈ us_E (us_h A B σ 8) (jn_t A B p) → post 0 (f_drafted, f_faultPlace, f_reportedSteps, f_resultSize, f_sheetSize, f_waitingSize, f_builtSize, f_unfinished, f_taken, f_keptSize, f_stacked, f_ranked, f_surveyed, a_draft, a_result, a_lefts, a_leftSize, a_ways, a_rights, a_rightSize, a_sheet, a_waiting, a_built, a_unfinishedStart, a_unfinishedLacks, a_kept, a_matchStart, a_matchEnd, a_joint, upd a_unified (jn_n t) (nI p), a_oneStack, a_otherStack, a_nestedAt, a_nestedEnd, a_rank, a_pairCount, a_firstOpen)) : wpX_put post (f_drafted, f_faultPlace, f_reportedSteps, f_resultSize, f_sheetSize, f_waitingSize, f_builtSize, f_unfinished, f_taken, f_keptSize, f_stacked, f_ranked, f_surveyed, a_draft, a_result, a_lefts, a_leftSize, a_ways, a_rights, a_rightSize, a_sheet, a_waiting, a_built, a_unfinishedStart, a_unfinishedLacks, a_kept, a_matchStart, a_matchEnd, a_joint, a_unified, a_oneStack, a_otherStack, a_nestedAt, a_nestedEnd, a_rank, a_pairCount, a_firstOpen) t (nI p) := by
  obtain ⟨hv, _, _⟩ := jn_var ht htn
  have hkk : ∀ w q, σ w = some q → ∀ t, t ∈ jn_t A B q → jn_k t := fun w q e => by
    obtain ⟨_, _, _, _, _, _, _, _, _, z, _⟩ := jn_tm H (hR.2 w q e).2.1
    exact z
  have hkp : ∀ t, t ∈ jn_t A B p → jn_k t := by
    obtain ⟨_, _, _, _, _, _, _, _, _, z, _⟩ := jn_tm H hp
    exact z
  have s1 : (∃ n, us_rs A B σ p n (jn_n t)) → lN (8589934592 + jn_n t) ∈ us_E (us_h A B σ 8) (jn_t A B p) := by
    rintro ⟨n, hn⟩
    refine us_rs_E (us_h_sol hR) n _ hn _ ?_
    rw [us_h_none h0]; simp
  have s2 : lN (8589934592 + jn_n t) ∈ us_E (us_h A B σ 8) (jn_t A B p) → us_rs A B σ p 8 (jn_n t) := by
    intro hz
    unfold us_E at hz
    obtain ⟨s, hs, hz⟩ := List.mem_flatMap.mp hz
    by_cases hss : s < 8589934592
    · rw [if_pos hss, List.mem_singleton] at hz
      rw [← hz, tk_lt 8589934592 (by omega)] at hss
      omega
    · rw [if_neg hss] at hz
      have := us_rs_h (p := p) hv hkk 8 0 (jn_n s) (jn_var (hkp s hs) hss).1 ⟨s, hs, hss, rfl⟩ hz
      rwa [Nat.zero_add] at this
  refine nm_r (e' := nI (jn_n t)) (jn_and7 ht htn) (xv_in H rfl hp (fun y hy => ⟨9, ?_⟩))
  exact xp_18 H hR hu hv (fun _ _ _ _ => trivial) (fun z => Hy (fun q => z ⟨8, s2 q⟩)) (fun z => Hn (by rcases z with z | z; exact s1 ⟨8, z⟩; exact s1 z)) (fun z => s2 (s1 z)) 8 0 9 y rfl (fun i hi z => (hy i hi).mpr z) (fun i hi z => ⟨0, (hy i hi).mp z⟩) (by omega)
end
end
section
/-! the component: unification, its loop -/
theorem us_un_nil {J : Nat → Int64} {A B : List Int64} {σ : Nat → Option Nat} (f : Nat) : us_un J A B f [] σ = some σ := by cases f <;> rfl
theorem us_un_cons {J : Nat → Int64} {A B : List Int64} {σ : Nat → Option Nat} {p q : Nat} {S : List (Nat × Nat)} (f : Nat) : us_un J A B (f + 1) ((p, q) :: S) σ = match us_st J A B σ (us_f J σ 8 p) (us_f J σ 8 q) S with
    | none => none
    | some (S', σ') => us_un J A B f S' σ' := by
  rw [us_un]
  generalize us_st J A B σ (us_f J σ 8 p) (us_f J σ 8 q) S = o
  cases o with
  | none => rfl
  | some x => obtain ⟨S', σ'⟩ := x; rfl
theorem us_I0 {A B : List Int64} {p0 q0 : Nat} (hp : jn_v A B p0) (hq : jn_v A B q0) : us_I A B p0 q0 0 [(p0, q0)] (fun _ => none) := by
  refine ⟨⟨fun _ => 0, fun _ => Nat.zero_lt_succ 7, fun v q e => absurd e (by simp)⟩, fun a b h => ?_, fun ρ _ => ?_, fun ρ _ => ⟨?_, trivial⟩, fun ρ _ h => h p0 q0 (by simp)⟩
  · rw [List.mem_singleton] at h
    cases h
    exact ⟨hp, hq⟩
  · show 0 + (us_W ρ (jn_t A B p0) + 0) ≤ _
    omega
  · show 0 + _ ≤ _
    omega
theorem xu_put {un : Nat → Int32} {σ : Nat → Option Nat} (h : xu_s un σ) {v q : Nat} : xu_s (upd un v (nI q)) (us_put σ v q) := by
  intro w hw
  unfold us_put
  by_cases e : w = v
  · subst e
    rw [if_pos rfl, pk_us]
  · rw [if_neg e, pk_un e]
    exact h w hw
section
variable {f_drafted f_faultPlace f_reportedSteps f_resultSize f_sheetSize f_waitingSize f_builtSize f_unfinished f_taken f_keptSize f_stacked f_ranked f_surveyed : Int32} {a_draft a_result a_lefts a_rights a_sheet a_waiting a_built a_kept a_joint : Nat → Int64} {a_leftSize a_ways a_rightSize a_unfinishedStart a_unfinishedLacks a_matchStart a_matchEnd a_unified a_oneStack a_otherStack a_nestedAt a_nestedEnd a_rank a_pairCount a_firstOpen : Nat → Int32}
variable {A B : List Int64}
theorem xu_34 {post : Int32 → SX → Prop} {p0 q0 : Nat} (H : jn_H a_joint A B) (h0 : jn_v A B p0) : ∀ (f n : Nat) (S : List (Nat × Nat)) (σ : Nat → Option Nat) (fu : Nat) (one two un : Nat → Int32), us_I A B p0 q0 n S σ → n + f = 10000000 → xs_S one two S → xu_s un σ → f < fu → (∀ σ' un st one two, us_un a_joint A B f S σ = some σ' → (∃ rk, us_R A B σ' rk) → (∀ ρ, us_Es A B σ' ρ → us_E ρ (jn_t A B p0) = us_E ρ (jn_t A B q0)) → xu_s un σ' → post 1 (f_drafted, f_faultPlace, f_reportedSteps, f_resultSize, f_sheetSize, f_waitingSize, f_builtSize, f_unfinished, f_taken, f_keptSize, st, f_ranked, f_surveyed, a_draft, a_result, a_lefts, a_leftSize, a_ways, a_rights, a_rightSize, a_sheet, a_waiting, a_built, a_unfinishedStart, a_unfinishedLacks, a_kept, a_matchStart, a_matchEnd, a_joint, un, one, two, a_nestedAt, a_nestedEnd, a_rank, a_pairCount, a_firstOpen)) → (∀ un st one two, us_un a_joint A B f S σ = none → post 0 (f_drafted, f_faultPlace, f_reportedSteps, f_resultSize, f_sheetSize, f_waitingSize, f_builtSize, f_unfinished, f_taken, f_keptSize, st, f_ranked, f_surveyed, a_draft, a_result, a_lefts, a_leftSize, a_ways, a_rights, a_rightSize, a_sheet, a_waiting, a_built, a_unfinishedStart, a_unfinishedLacks, a_kept, a_matchStart, a_matchEnd, a_joint, un, one, two, a_nestedAt, a_nestedEnd, a_rank, a_pairCount, a_firstOpen)) → wX_unify_34 post fu (nI n) f_drafted f_faultPlace f_reportedSteps f_resultSize f_sheetSize f_waitingSize f_builtSize f_unfinished f_taken f_keptSize (nI S.length) f_ranked f_surveyed a_draft a_result a_lefts a_leftSize a_ways a_rights a_rightSize a_sheet a_waiting a_built a_unfinishedStart a_unfinishedLacks a_kept a_matchStart a_matchEnd a_joint un one two a_nestedAt a_nestedEnd a_rank a_pairCount a_firstOpen := by
  intro f
  induction f with
  | zero =>
    intro n S σ fu one two un hI hn hS hu hf Hy Hn
    obtain ⟨fu, rfl⟩ : ∃ n', fu = n' + 1 := ⟨fu - 1, by omega⟩
    cases S with
    | nil =>
      refine pk_le 10000000 n (fun _ => ?_) (fun z => absurd z (by omega))
      exact Hy σ un _ one two (us_un_nil 0) hI.1 (fun ρ hρ => hI.2.2.2.2 ρ hρ (fun a b h => absurd h (by simp))) hu
    | cons a S =>
      obtain ⟨p, q⟩ := a
      have := (us_turns H h0 hI).1
      omega
  | succ f ih =>
    intro n S σ fu one two un hI hn hS hu hf Hy Hn
    obtain ⟨fu, rfl⟩ : ∃ n', fu = n' + 1 := ⟨fu - 1, by omega⟩
    cases S with
    | nil =>
      have hp := Hy σ un (nI 0) one two (us_un_nil _) hI.1 (fun ρ hρ => hI.2.2.2.2 ρ hρ (fun a b h => absurd h (by simp))) hu
      exact pk_le 10000000 n (fun _ => hp) (fun _ => br_t (by decide) hp)
    | cons a S =>
      obtain ⟨p, q⟩ := a
      have hlim := (us_turns H h0 hI).2
      rw [us_un_cons] at Hy Hn
      have hI0 := hI
      obtain ⟨⟨rk, hR⟩, hv, _⟩ := hI0
      obtain ⟨hp, hq⟩ := hv p q (List.mem_cons.mpr (Or.inl rfl))
      obtain ⟨hp', hpn⟩ := us_fol8 H hR hp
      obtain ⟨hq', hqn⟩ := us_fol8 H hR hq
      have hpl := jn_lt H hp'
      have hql := jn_lt H hq'
      have hin : vp_in (nI S.length) 128 := vp_in_nI (by omega) (by omega)
      have es : (nI S.length).toNatClampNeg = S.length := nI_clamp (by omega)
      refine pk_le 10000000 n (fun z => absurd z (by omega)) (fun _ => pk_le ((p, q) :: S).length 0 (fun z => absurd z (by simp)) (fun _ => ?_) rfl rfl (by rw [List.length_cons]; omega))
      refine nm_r (e' := nI S.length) (nI_pred S.length) ⟨hin, ?_⟩
      refine xf_fol H hR hu (p := p) (by rw [es]; exact hS.1) hp ⟨hin, ?_⟩
      refine xf_fol H hR hu (p := q) (by rw [es]; exact hS.2.1) hq ?_
      refine ⟨vp_in_nI (by omega) (by omega), nm_r (e' := a_joint (us_f a_joint σ 8 p)) (by rw [nI_clamp (by omega)]) ⟨vp_in_nI (by omega) (by omega), nm_r (e' := a_joint (us_f a_joint σ 8 q)) (by rw [nI_clamp (by omega)]) ?_⟩⟩
      have go : ∀ S' σ', us_st a_joint A B σ (us_f a_joint σ 8 p) (us_f a_joint σ 8 q) S = some (S', σ') → ∀ (un' one' two' : Nat → Int32) (st : Int32), st = nI S'.length → xs_S one' two' S' → xu_s un' σ' → wX_unify_34 post fu (nI (n + 1)) f_drafted f_faultPlace f_reportedSteps f_resultSize f_sheetSize f_waitingSize f_builtSize f_unfinished f_taken f_keptSize st f_ranked f_surveyed a_draft a_result a_lefts a_leftSize a_ways a_rights a_rightSize a_sheet a_waiting a_built a_unfinishedStart a_unfinishedLacks a_kept a_matchStart a_matchEnd a_joint un' one' two' a_nestedAt a_nestedEnd a_rank a_pairCount a_firstOpen := by
        intro S' σ' e un' one' two' st est g1 g2
        subst est
        have hI' := us_pres H hI e
        rw [e] at Hy Hn
        exact ih (n + 1) S' σ' fu one' two' un' hI' (by omega) g1 g2 (by omega) Hy Hn
      by_cases hJ : a_joint (us_f a_joint σ 8 p) = a_joint (us_f a_joint σ 8 q)
      · have est : us_st a_joint A B σ (us_f a_joint σ 8 p) (us_f a_joint σ 8 q) S = some (us_ag a_joint A B (us_f a_joint σ 8 p) (us_f a_joint σ 8 q) S, σ) := by
          unfold us_st
          rw [if_pos hJ]
        refine br_t hJ (xw_args H hp' hq' hJ hS.2.2 ?_ (fun st one' two' e1 e2 => nm_r (nI_1 n) (go _ _ est un one' two' st e1 e2 hu)))
        have hI' := us_pres H hI est
        generalize hag : us_ag a_joint A B (us_f a_joint σ 8 p) (us_f a_joint σ 8 q) S = S' at hI'
        cases S' with
        | nil => simp
        | cons a S' =>
          obtain ⟨p2, q2⟩ := a
          have := (us_turns H h0 hI').2
          rw [List.length_cons]; omega
      · refine br_f hJ ?_
        by_cases hps : a_joint (us_f a_joint σ 8 p) < 8589934592
        · refine br_t hps ?_
          by_cases hqs : a_joint (us_f a_joint σ 8 q) < 8589934592
          · refine br_t hqs (Hn _ _ _ _ ?_)
            unfold us_st
            rw [if_neg hJ, if_neg (fun z => z hps), if_pos hqs]
          · refine br_f hqs (xp_put H hR hu (jn_J H hq') hqs (hqn hqs) hp' (fun hno => ?_) (fun hoc => ?_))
            · refine br_f (by decide) (nm_r (nI_1 n) (go S _ ?_ _ _ _ _ rfl hS.2.2 (xu_put hu)))
              unfold us_st
              rw [if_neg hJ, if_neg (fun z => z hps), if_neg hqs, if_neg hno]
            · refine br_t rfl (Hn _ _ _ _ ?_)
              unfold us_st
              rw [if_neg hJ, if_neg (fun z => z hps), if_neg hqs, if_pos hoc]
        · refine br_f hps (xp_put H hR hu (jn_J H hp') hps (hpn hps) hq' (fun hno => ?_) (fun hoc => ?_))
          · refine br_f (by decide) (nm_r (nI_1 n) (go S _ ?_ _ _ _ _ rfl hS.2.2 (xu_put hu)))
            unfold us_st
            rw [if_neg hJ, if_pos hps, if_neg hno]
          · refine br_t rfl (Hn _ _ _ _ ?_)
            unfold us_st
            rw [if_neg hJ, if_pos hps, if_pos hoc]
theorem xu_2 {post : Int32 → SX → Prop} {x1 x2 : Int32} : ∀ (d k n : Nat) (un : Nat → Int32), k + d = 8 → (∀ j, j < k → un j = -1) → d < n → (∀ un' : Nat → Int32, (∀ j, j < 8 → un' j = -1) → wpX_stack (fun u => match u with | (f_drafted0, f_faultPlace0, f_reportedSteps0, f_resultSize0, f_sheetSize0, f_waitingSize0, f_builtSize0, f_unfinished0, f_taken0, f_keptSize0, f_stacked0, f_ranked0, f_surveyed0, a_draft0, a_result0, a_lefts0, a_leftSize0, a_ways0, a_rights0, a_rightSize0, a_sheet0, a_waiting0, a_built0, a_unfinishedStart0, a_unfinishedLacks0, a_kept0, a_matchStart0, a_matchEnd0, a_joint0, a_unified0, a_oneStack0, a_otherStack0, a_nestedAt0, a_nestedEnd0, a_rank0, a_pairCount0, a_firstOpen0) => ∃ n34, wX_unify_34 post n34 0 f_drafted0 f_faultPlace0 f_reportedSteps0 f_resultSize0 f_sheetSize0 f_waitingSize0 f_builtSize0 f_unfinished0 f_taken0 f_keptSize0 f_stacked0 f_ranked0 f_surveyed0 a_draft0 a_result0 a_lefts0 a_leftSize0 a_ways0 a_rights0 a_rightSize0 a_sheet0 a_waiting0 a_built0 a_unfinishedStart0 a_unfinishedLacks0 a_kept0 a_matchStart0 a_matchEnd0 a_joint0 a_unified0 a_oneStack0 a_otherStack0 a_nestedAt0 a_nestedEnd0 a_rank0 a_pairCount0 a_firstOpen0) (f_drafted, f_faultPlace, f_reportedSteps, f_resultSize, f_sheetSize, f_waitingSize, f_builtSize, f_unfinished, f_taken, f_keptSize, 0, f_ranked, f_surveyed, a_draft, a_result, a_lefts, a_leftSize, a_ways, a_rights, a_rightSize, a_sheet, a_waiting, a_built, a_unfinishedStart, a_unfinishedLacks, a_kept, a_matchStart, a_matchEnd, a_joint, un', a_oneStack, a_otherStack, a_nestedAt, a_nestedEnd, a_rank, a_pairCount, a_firstOpen) x1 x2) → wX_unify_2 post x1 x2 f_drafted f_faultPlace f_reportedSteps f_resultSize f_sheetSize f_waitingSize f_builtSize f_unfinished f_taken f_keptSize f_stacked f_ranked f_surveyed n (nI k) a_draft a_result a_lefts a_leftSize a_ways a_rights a_rightSize a_sheet a_waiting a_built a_unfinishedStart a_unfinishedLacks a_kept a_matchStart a_matchEnd a_joint un a_oneStack a_otherStack a_nestedAt a_nestedEnd a_rank a_pairCount a_firstOpen
  | 0, k, n, un, hk, hm, hn, H => by
    obtain ⟨n, rfl⟩ : ∃ n', n = n' + 1 := ⟨n - 1, by omega⟩
    exact pk_le 8 k (fun _ => H un (fun j hj => hm j (by omega))) (fun z => absurd z (by omega))
  | d + 1, k, n, un, hk, hm, hn, H => by
    obtain ⟨n, rfl⟩ : ∃ n', n = n' + 1 := ⟨n - 1, by omega⟩
    refine pk_le 8 k (fun z => absurd z (by omega)) (fun _ => ⟨vp_in_nI (by omega) (by omega), nm_r (e' := upd un k (-1)) (by rw [nI_clamp (by omega)]) (nm_r (nI_1 k) ?_)⟩)
    refine xu_2 d (k + 1) n _ (by omega) (fun j hj => ?_) (by omega) H
    by_cases e : j = k
    · rw [e, pk_us]
    · rw [pk_un e]; exact hm j (by omega)
theorem xu_unify {post : Int32 → SX → Prop} {p0 q0 f : Nat} {x y : Int32} (hf : f = 10000000) (hx : x = nI p0) (hy : y = nI q0) (H : jn_H a_joint A B) (h0 : jn_v A B p0) (h1 : jn_v A B q0) (Hy : ∀ σ' un st one two, us_un a_joint A B f [(p0, q0)] (fun _ => none) = some σ' → (∃ rk, us_R A B σ' rk) → (∀ ρ, us_Es A B σ' ρ → us_E ρ (jn_t A B p0) = us_E ρ (jn_t A B q0)) → xu_s un σ' → post 1 (f_drafted, f_faultPlace, f_reportedSteps, f_resultSize, f_sheetSize, f_waitingSize, f_builtSize, f_unfinished, f_taken, f_keptSize, st, f_ranked, f_surveyed, a_draft, a_result, a_lefts, a_leftSize, a_ways, a_rights, a_rightSize, a_sheet, a_waiting, a_built, a_unfinishedStart, a_unfinishedLacks, a_kept, a_matchStart, a_matchEnd, a_joint, un, one, two, a_nestedAt, a_nestedEnd, a_rank, a_pairCount, a_firstOpen)) (Hn : ∀ un st one two, us_un a_joint A B f [(p0, q0)] (fun _ => none) = none → post 0 (f_drafted, f_faultPlace, f_reportedSteps, f_resultSize, f_sheetSize, f_waitingSize, f_builtSize, f_unfinished, f_taken, f_keptSize, st, f_ranked, f_surveyed, a_draft, a_result, a_lefts, a_leftSize, a_ways, a_rights, a_rightSize, a_sheet, a_waiting, a_built, a_unfinishedStart, a_unfinishedLacks, a_kept, a_matchStart, a_matchEnd, a_joint, un, one, two, a_nestedAt, a_nestedEnd, a_rank, a_pairCount, a_firstOpen)) : wpX_unify post (f_drafted, f_faultPlace, f_reportedSteps, f_resultSize, f_sheetSize, f_waitingSize, f_builtSize, f_unfinished, f_taken, f_keptSize, f_stacked, f_ranked, f_surveyed, a_draft, a_result, a_lefts, a_leftSize, a_ways, a_rights, a_rightSize, a_sheet, a_waiting, a_built, a_unfinishedStart, a_unfinishedLacks, a_kept, a_matchStart, a_matchEnd, a_joint, a_unified, a_oneStack, a_otherStack, a_nestedAt, a_nestedEnd, a_rank, a_pairCount, a_firstOpen) x y := by
  subst hx hy
  refine ⟨9, xu_2 8 0 9 a_unified rfl (fun j hj => absurd hj (by omega)) (by omega) (fun un' hun => ?_)⟩
  refine xw_stack (k := 0) (by omega) ⟨f + 1, ?_⟩
  exact xu_34 H h0 f 0 [(p0, q0)] (fun _ => none) (f + 1) _ _ un' (us_I0 h0 h1) (by omega) ⟨pk_us, pk_us, trivial⟩ (fun v hv => hun v hv) (by omega) Hy Hn
end
end
section
/-! the reference: the same places in its own rows; the walk of an expansion -/
def jy_t (k v : Int32) (o : Nat) (t : Int64) : Prop := (∃ n, n < 9 ∧ t = lN n ∧ k = 0 ∧ v = nI n) ∨ (∃ r, r < 4 ∧ t = lN (8589934592 + (r + 4 * o)) ∧ k = 2 ∧ v = nI r)
def jy_h (ka va : Nat → Int32) (o : Nat) : Nat → List Int64 → Prop
  | _, [] => True
  | i, t :: l => jy_t (ka i) (va i) o t ∧ jy_h ka va o (i + 1) l
theorem jy_app {ka va : Nat → Int32} {o : Nat} : ∀ {a b : List Int64} {i : Nat}, jy_h ka va o i (a ++ b) ↔ jy_h ka va o i a ∧ jy_h ka va o (i + a.length) b
  | [], b, i => by
    show jy_h ka va o i b ↔ True ∧ jy_h ka va o (i + 0) b
    rw [Nat.add_zero, true_and]
  | t :: a, b, i => by
    show (_ ∧ jy_h ka va o (i + 1) (a ++ b)) ↔ (_ ∧ jy_h ka va o (i + 1) a) ∧ jy_h ka va o (i + (a.length + 1)) b
    rw [jy_app, show i + 1 + a.length = i + (a.length + 1) by omega]
    exact and_assoc.symm
theorem jy_ar {k v : Int32} {o : Nat} {t : Int64} (ho : o ≤ 1) (h : jy_t k v o t) {post : Int32 → Prop} (hp : post (nI (tm_ar t))) : wpY_arity post k v := by
  rcases h with ⟨n, h1, e, e1, e2⟩ | ⟨r, h1, e, e1, e2⟩
  · rw [e1, e2]
    rw [e, tk_ar_n (by omega)] at hp
    exact tk_ar0 (Or.inl (by omega)) hp
  · rw [e1]
    rw [e, tk_ar_n (by omega), if_neg (by omega), if_neg (by omega)] at hp
    exact br_f (by decide) hp
/-- the places: 0 .. 29 the first rule, 30 .. 60 the second, from 61 on the first again (its RIGHT may end where the row ends) -/
def jy_p (i j p : Nat) : Nat := if p < 30 then 30 * i + p else if p < 61 then 30 * j + (p - 30) else 30 * i + (p - 61)
def jy_o (p : Nat) : Nat := if p < 30 then 0 else if p < 61 then 1 else 0
theorem jy_o1 (p : Nat) : jy_o p ≤ 1 := by
  unfold jy_o
  split
  · omega
  · split <;> omega
theorem jy_plt {i j p : Nat} (hi : i < 8) (hj : j < 8) (hp : p < 60) : jy_p i j p < 240 := by
  unfold jy_p
  split
  · omega
  · split <;> omega
theorem jy_plt2 {i j p : Nat} (hi : i < 8) (hj : j < 8) (hp : p < 60 ∨ (61 ≤ p ∧ p < 91)) : jy_p i j p < 240 := by
  unfold jy_p
  split
  · omega
  · split <;> omega
theorem jy_plt3 {i j p : Nat} (hi : i < 8) (hj : j < 8) (hp : p ≤ 91) : jy_p i j p < 1000 := by
  unfold jy_p
  split
  · omega
  · split <;> omega
theorem jy_ps {i j p : Nat} (h : p ≠ 29) (h2 : p ≠ 60) : jy_p i j (p + 1) = jy_p i j p + 1 ∧ jy_o (p + 1) = jy_o p := by
  unfold jy_p jy_o
  by_cases h30 : p < 30
  · rw [if_pos h30, if_pos (by omega), if_pos h30, if_pos (by omega)]; omega
  · by_cases h61 : p < 61
    · exact ⟨by simp only [if_neg h30, if_neg (show ¬ p + 1 < 30 by omega), if_pos h61, if_pos (show p + 1 < 61 by omega)]; omega, by simp only [if_neg h30, if_neg (show ¬ p + 1 < 30 by omega), if_pos h61, if_pos (show p + 1 < 61 by omega)]⟩
    · exact ⟨by simp only [if_neg h30, if_neg (show ¬ p + 1 < 30 by omega), if_neg h61, if_neg (show ¬ p + 1 < 61 by omega)]; omega, by simp only [if_neg h30, if_neg (show ¬ p + 1 < 30 by omega), if_neg h61, if_neg (show ¬ p + 1 < 61 by omega)]⟩
theorem jy_pa {i j p : Nat} (n : Nat) (h : p + n < 30 ∨ 30 ≤ p) (h2 : p + n ≤ 60) : jy_p i j (p + n) = jy_p i j p + n ∧ jy_o (p + n) = jy_o p := by
  unfold jy_p jy_o
  by_cases h30 : p < 30
  · rw [if_pos h30, if_pos (by omega), if_pos h30, if_pos (by omega)]; omega
  · exact ⟨by simp only [if_neg h30, if_neg (show ¬ p + n < 30 by omega), if_pos (show p < 61 by omega), if_pos (show p + n < 61 by omega)]; omega, by simp only [if_neg h30, if_neg (show ¬ p + n < 30 by omega), if_pos (show p < 61 by omega), if_pos (show p + n < 61 by omega)]⟩
/-- the reference's rows hold both rules -/
def jy_H (ka va : Nat → Int32) (i j : Nat) (A B : List Int64) : Prop := i < 8 ∧ j < 8 ∧ jy_h ka va 0 (30 * i) A ∧ jy_h ka va 1 (30 * j) B
theorem jy_term {J : Nat → Int64} {A B : List Int64} {ka va : Nat → Int32} {i j p : Nat} (H : jn_H J A B) (hY : jy_H ka va i j A B) (hp : jn_v A B p) : jy_h ka va (jy_o p) (jy_p i j p) (jn_t A B p) ∧ jy_t (ka (jy_p i j p)) (va (jy_p i j p)) (jy_o p) (J p) ∧ jy_p i j p + (jn_t A B p).length ≤ 240 := by
  obtain ⟨l, r, k, q1, q2, q3, q4, q5, q6, q7, q8, q9⟩ := jn_tm H hp
  obtain ⟨hi, hj, hA, hB⟩ := hY
  obtain ⟨_, _, h3, h4, _⟩ := H
  have key : jy_h ka va (jy_o p) (jy_p i j p) (jn_t A B p) ∧ jy_p i j p + (jn_t A B p).length ≤ 240 := by
    unfold jn_s at q4
    unfold jy_o jy_p
    by_cases h30 : p < 30
    · rw [if_pos h30] at q4
      rw [if_pos h30, if_pos h30]
      have e := q8 h30
      have hs : A = A.take p ++ (jn_t A B p ++ r) := by rw [← q4]; exact (List.take_append_drop p A).symm
      rw [hs] at hA
      have := (jy_app.mp hA).2
      rw [List.length_take, Nat.min_eq_left (by omega)] at this
      exact ⟨(jy_app.mp this).1, by omega⟩
    · rw [if_neg h30] at q4
      have e := q9 h30
      rw [if_neg h30, if_neg h30, if_pos (by omega), if_pos (by omega)]
      have hs : B = B.take (p - 30) ++ (jn_t A B p ++ r) := by rw [← q4]; exact (List.take_append_drop (p - 30) B).symm
      rw [hs] at hB
      have := (jy_app.mp hB).2
      rw [List.length_take, Nat.min_eq_left (by omega)] at this
      exact ⟨(jy_app.mp this).1, by omega⟩
  refine ⟨key.1, ?_, key.2⟩
  have := key.1
  rw [q1] at this
  exact this.1
/-- a walk: places, the bound of the ranks, what is left of each list; the innermost first -/
def wk_c (rk : Nat → Nat) (M : Nat) : List (Nat × Nat × List Int64) → Prop
  | [] => True
  | (_, b, l) :: F => F.length + b ≤ M ∧ (∀ t, t ∈ l → jn_k t) ∧ (∀ t, t ∈ l → ¬ t < 8589934592 → rk (jn_n t) < b) ∧ wk_c rk M F
def wk_e (ρ : Nat → List Int64) : List (Nat × Nat × List Int64) → List Int64
  | [] => []
  | (_, _, l) :: F => us_E ρ l ++ wk_e ρ F
def wk_w (ω : Nat → Nat) : List (Nat × Nat × List Int64) → Nat
  | [] => 0
  | (_, _, l) :: F => us_W ω l + 1 + wk_w ω F
def yk_F (ka va : Nat → Int32) (i j : Nat) (ha ho hl : Nat → Int32) : List (Nat × Nat × List Int64) → Prop
  | [] => True
  | (p, _, l) :: F => (ha F.length = nI (jy_p i j p) ∧ ho F.length = nI (jy_o p) ∧ (∃ m, m ≤ 31 ∧ hl F.length = nI m ∧ tm_w l m) ∧ jy_h ka va (jy_o p) (jy_p i j p) l ∧ (p + l.length < 30 ∨ 30 ≤ p) ∧ (p + l.length ≤ 60 ∨ (61 ≤ p ∧ p + l.length ≤ 91))) ∧ yk_F ka va i j ha ho hl F
theorem yk_congr {ka va : Nat → Int32} {i j : Nat} {ha ho hl ha' ho' hl' : Nat → Int32} : ∀ {F : List (Nat × Nat × List Int64)}, (∀ k, k < F.length → ha' k = ha k ∧ ho' k = ho k ∧ hl' k = hl k) → yk_F ka va i j ha ho hl F → yk_F ka va i j ha' ho' hl' F
  | [], _, _ => trivial
  | (p, b, l) :: F, h, hh => by
    obtain ⟨e1, e2, e3⟩ := h F.length (by simp)
    obtain ⟨⟨q1, q2, ⟨m, m1, m2, m3⟩, q4⟩, q5⟩ := hh
    refine ⟨⟨e1.trans q1, e2.trans q2, ⟨m, m1, e3.trans m2, m3⟩, q4⟩, yk_congr (fun k hk => h k ?_) q5⟩
    rw [List.length_cons]; omega
/-- the code that the reference's walk answers for a token -/
def yk_code (t : Int64) : Int32 := if t < 8589934592 then nI t.toInt.toNat else nI (12 + jn_n t)
def yu_s (bd wo : Nat → Int32) (i j : Nat) (σ : Nat → Option Nat) : Prop := ∀ v, v < 8 → (σ v = none → bd v = -1) ∧ ∀ q, σ v = some q → bd v = nI (jy_p i j q) ∧ wo v = nI (jy_o q)
section
variable {f_place f_count f_top f_done f_open f_steps f_shownSteps f_fault f_in f_made f_old f_size f_heads f_fresh : Int32} {a_kind a_value a_all a_split a_toKind a_doneKind a_toValue a_doneValue a_begins a_lacks a_inKind a_leftKind a_madeKind a_oldKind a_resultKind a_inValue a_leftValue a_madeValue a_oldValue a_resultValue a_from a_to a_whole a_known a_bound a_whose a_rank a_one a_two a_oneOf a_twoOf a_headAt a_headOf a_headLeft a_pairs a_first : Nat → Int32}
variable {J : Nat → Int64} {A B : List Int64} {σ : Nat → Option Nat} {rk : Nat → Nat} {i j : Nat}
theorem yk_head {post : SY → Prop} {k p : Nat} {x y : Int32} (hk : k < 64) (hp : p < 60 ∨ (61 ≤ p ∧ p < 91)) (hi : i < 8) (hj : j < 8) (hx : x = nI (jy_p i j p)) (hy : y = nI (jy_o p)) (h : post (f_place, f_count, f_top, f_done, f_open, f_steps, f_shownSteps, f_fault, f_in, f_made, f_old, f_size, nI (k + 1), f_fresh, a_kind, a_value, a_all, a_split, a_toKind, a_doneKind, a_toValue, a_doneValue, a_begins, a_lacks, a_inKind, a_leftKind, a_madeKind, a_oldKind, a_resultKind, a_inValue, a_leftValue, a_madeValue, a_oldValue, a_resultValue, a_from, a_to, a_whole, a_known, a_bound, a_whose, a_rank, a_one, a_two, a_oneOf, a_twoOf, upd a_headAt k (nI (jy_p i j p)), upd a_headOf k (nI (jy_o p)), upd a_headLeft k (nI 1), a_pairs, a_first)) : wpY_head post (f_place, f_count, f_top, f_done, f_open, f_steps, f_shownSteps, f_fault, f_in, f_made, f_old, f_size, nI k, f_fresh, a_kind, a_value, a_all, a_split, a_toKind, a_doneKind, a_toValue, a_doneValue, a_begins, a_lacks, a_inKind, a_leftKind, a_madeKind, a_oldKind, a_resultKind, a_inValue, a_leftValue, a_madeValue, a_oldValue, a_resultValue, a_from, a_to, a_whole, a_known, a_bound, a_whose, a_rank, a_one, a_two, a_oneOf, a_twoOf, a_headAt, a_headOf, a_headLeft, a_pairs, a_first) x y := by
  subst hx hy
  have hin : vp_in (nI k) 64 := vp_in_nI hk (by omega)
  have ek : (nI k).toNatClampNeg = k := nI_clamp (by omega)
  have h1 := jy_plt2 hi hj hp
  have h2 := jy_o1 p
  refine ⟨hin, nm_r (e' := upd a_headAt k (nI (jy_p i j p))) (by rw [ek, (tk_ns (by omega)).1]) ⟨hin, nm_r (e' := upd a_headOf k (nI (jy_o p))) (by rw [ek, (tk_nb (by omega)).1]) (nm_r (nI_1 k) ⟨hin, nm_r (e' := upd a_headLeft k (nI 1)) (by rw [ek]; exact congrArg (upd a_headLeft k) ((tk_nb (n := 1) (by omega)).2)) h⟩)⟩⟩
theorem yk_next {post : Int32 → SY → Prop} {ω : Nat → Nat} {ρ : Nat → List Int64} {M : Nat} (H : jn_H J A B) (hR : us_R A B σ rk) (hY : jy_H a_kind a_value i j A B) (hu : yu_s a_bound a_whose i j σ) (hω1 : ∀ v, 1 ≤ ω v) (hω : ∀ v q, σ v = some q → us_W ω (jn_t A B q) + 2 ≤ ω v) (hρ : us_Es A B σ ρ) (hρ0 : ∀ v, σ v = none → ρ v = [lN (8589934592 + v)]) (hM : M ≤ 9) (Jv Kv : List (Nat × Nat × List Int64) → Prop) (k1 : ∀ p b F, Jv ((p, b, []) :: F) → Jv F) (k2 : ∀ p b t l F, Jv ((p, b, t :: l) :: F) → Kv ((p + 1, b, l) :: F)) (k3 : ∀ p b t l F q, Jv ((p, b, t :: l) :: F) → ¬ t < 8589934592 → σ (jn_n t) = some q → Jv ((q, rk (jn_n t), jn_t A B q) :: (p + 1, b, l) :: F)) : ∀ (w : Nat) (F : List (Nat × Nat × List Int64)) (hs : Nat) (ha ho hl : Nat → Int32), Jv F → wk_w ω F < w → wk_c rk M F → hs = F.length → yk_F a_kind a_value i j ha ho hl F →
    (wk_e ρ F = [] → ∀ hs ha ho hl, post (-1) (f_place, f_count, f_top, f_done, f_open, f_steps, f_shownSteps, f_fault, f_in, f_made, f_old, f_size, hs, f_fresh, a_kind, a_value, a_all, a_split, a_toKind, a_doneKind, a_toValue, a_doneValue, a_begins, a_lacks, a_inKind, a_leftKind, a_madeKind, a_oldKind, a_resultKind, a_inValue, a_leftValue, a_madeValue, a_oldValue, a_resultValue, a_from, a_to, a_whole, a_known, a_bound, a_whose, a_rank, a_one, a_two, a_oneOf, a_twoOf, ha, ho, hl, a_pairs, a_first)) →
    (∀ c X F' ha ho hl, wk_e ρ F = c :: X → wk_e ρ F' = X → wk_c rk M F' → wk_w ω F' < wk_w ω F → yk_F a_kind a_value i j ha ho hl F' → jn_k c → Kv F' → post (yk_code c) (f_place, f_count, f_top, f_done, f_open, f_steps, f_shownSteps, f_fault, f_in, f_made, f_old, f_size, nI F'.length, f_fresh, a_kind, a_value, a_all, a_split, a_toKind, a_doneKind, a_toValue, a_doneValue, a_begins, a_lacks, a_inKind, a_leftKind, a_madeKind, a_oldKind, a_resultKind, a_inValue, a_leftValue, a_madeValue, a_oldValue, a_resultValue, a_from, a_to, a_whole, a_known, a_bound, a_whose, a_rank, a_one, a_two, a_oneOf, a_twoOf, ha, ho, hl, a_pairs, a_first)) →
    ∃ n, wY_next_0 post n f_place f_count f_top f_done f_open f_steps f_shownSteps f_fault f_in f_made f_old f_size (nI hs) f_fresh a_kind a_value a_all a_split a_toKind a_doneKind a_toValue a_doneValue a_begins a_lacks a_inKind a_leftKind a_madeKind a_oldKind a_resultKind a_inValue a_leftValue a_madeValue a_oldValue a_resultValue a_from a_to a_whole a_known a_bound a_whose a_rank a_one a_two a_oneOf a_twoOf ha ho hl a_pairs a_first
  | 0, F, hs, ha, ho, hl, hv, hw, hc, hhs, hF, He, Hc => absurd hw (by omega)
  | w + 1, [], hs, ha, ho, hl, hv, hw, hc, hhs, hF, He, Hc => by
    subst hhs
    exact ⟨1, br_t (by decide) (He rfl _ _ _ _)⟩
  | w + 1, (p, b, l) :: F, hs, ha, ho, hl, hv, hw, hc, hhs, hF, He, Hc => by
    subst hhs
    obtain ⟨c1, c2, c3, c4⟩ := hc
    obtain ⟨⟨q1, q2, ⟨m, m1, m2, m3⟩, q4, q5, q6⟩, q7⟩ := hF
    have hlen : ((p, b, l) :: F).length = F.length + 1 := rfl
    have hFM : F.length ≤ 9 := by omega
    rw [hlen]
    have hin : vp_in (nI F.length) 64 := vp_in_nI (by omega) (by omega)
    have ef : (nI F.length).toNatClampNeg = F.length := nI_clamp (by omega)
    have hi := hY.1
    have hj := hY.2.1
    have ho1 := jy_o1 p
    cases l with
    | nil =>
      rw [tm_w_nil] at m3
      subst m3
      have hww : wk_w ω ((p, b, []) :: F) = 0 + 1 + wk_w ω F := rfl
      obtain ⟨n, hn⟩ := yk_next H hR hY hu hω1 hω hρ hρ0 hM Jv Kv k1 k2 k3 w F F.length ha ho hl (k1 _ _ _ hv) (by omega) c4 rfl q7 (fun e => He e) (fun c X F' ha ho hl e1 e2 e3 e4 => Hc c X F' ha ho hl e1 e2 e3 (by omega))
      refine ⟨n + 1, pk_le (F.length + 1) 0 (fun z => absurd z (by omega)) (fun _ => nm_r (nI_pred _) ⟨hin, br_t (by rw [ef]; exact m2) (nm_r (nI_pred _) hn)⟩)⟩
    | cons t l =>
      obtain ⟨k, rfl, m4⟩ := tm_w_ne m3
      have htk := c2 t (List.mem_cons.mpr (Or.inl rfl))
      rw [List.length_cons] at q5 q6
      have hpl := jy_plt2 (i := i) (j := j) (p := p) hi hj (by omega)
      obtain ⟨ep1, ep2⟩ := jy_ps (i := i) (j := j) (p := p) (by omega) (by omega)
      have hinp : vp_in (nI (jy_p i j p)) 270 := vp_in_nI (by omega) (by omega)
      have epp : (nI (jy_p i j p)).toNatClampNeg = jy_p i j p := nI_clamp (by omega)
      have hml := tm_w_len _ _ m4
      have hne : ¬ hl F.length = 0 := by rw [m2]; exact nI_ne0 (by omega) (by omega)
      have hjt := q4.1
      have hc2 : ∀ t, t ∈ l → jn_k t := fun x hx => c2 x (List.mem_cons.mpr (Or.inr hx))
      have hc3 : ∀ t, t ∈ l → ¬ t < 8589934592 → rk (jn_n t) < b := fun x hx => c3 x (List.mem_cons.mpr (Or.inr hx))
      have hat : vp_nar .short ((ha F.length + 1).toInt16.toInt32) = nI (jy_p i j (p + 1)) := by rw [q1, nI_1, ep1, (tk_ns (by omega)).1]
      have hww : wk_w ω ((p, b, t :: l) :: F) = (if t < 8589934592 then 1 else ω (jn_n t)) + us_W ω l + 1 + wk_w ω F := rfl
      -- the frame behind this token
      have frame : ∀ (m' : Nat), m' ≤ 31 → tm_w l m' → yk_F a_kind a_value i j (upd ha F.length (nI (jy_p i j (p + 1)))) ho (upd hl F.length (nI m')) ((p + 1, b, l) :: F) := by
        intro m' hm1 hm2
        refine ⟨⟨pk_us, by rw [ep2]; exact q2, ⟨m', hm1, pk_us, hm2⟩, by rw [ep1, ep2]; exact q4.2, by omega, by omega⟩, yk_congr (fun k hk => ⟨pk_un (by omega), rfl, pk_un (by omega)⟩) q7⟩
      have cond : wk_c rk M ((p + 1, b, l) :: F) := ⟨c1, hc2, hc3, c4⟩
      rcases jn_cases htk with ⟨n, hn9, en, hs⟩ | ⟨v, hv8, ev, hs, env, har0⟩
      · -- a symbol
        have hk0 : a_kind (jy_p i j p) = 0 ∧ a_value (jy_p i j p) = nI n := by
          rcases hjt with ⟨n', h1, e1, e2, e3⟩ | ⟨r, h1, e1, e2, e3⟩
          · rw [en, pk_lEQ (by omega) (by omega)] at e1
            subst e1
            exact ⟨e2, e3⟩
          · rw [en, pk_lEQ (by omega) (by omega)] at e1
            omega
        have har := tm_ar_le t
        have eE : wk_e ρ ((p, b, t :: l) :: F) = t :: (us_E ρ l ++ wk_e ρ F) := by
          show us_E ρ (t :: l) ++ wk_e ρ F = _
          rw [us_E_sym hs]; rfl
        refine ⟨1, pk_le (F.length + 1) 0 (fun z => absurd z (by omega)) (fun _ => nm_r (nI_pred _) ⟨hin, br_f (by rw [ef]; exact hne) ⟨hin, hin, nm_r (e' := upd ha F.length (nI (jy_p i j (p + 1)))) (by rw [ef, hat]) (nm_r (e' := nI (jy_p i j p)) (by rw [ef]; exact q1) ⟨hinp, br_t (by rw [epp]; exact hk0.1) ⟨hin, hinp, ?_⟩⟩)⟩⟩)⟩
        rw [epp, hk0.2]
        refine tk_ar0 (Or.inl (by omega)) ⟨hin, nm_r (e' := upd hl F.length (nI (k + tm_ar t))) ?_ ⟨hinp, ?_⟩⟩
        · rw [ef, m2]
          have ea : tm_ar t = if n < 4 then 0 else if n < 12 then (if 7 ≤ n then 2 else 1) else 0 := by rw [en, tk_ar_n (by omega)]
          rw [← ea, ya_step, (tk_nb (by omega)).1]
        · have hp := Hc t (us_E ρ l ++ wk_e ρ F) ((p + 1, b, l) :: F) _ _ _ eE rfl cond (by
            have : wk_w ω ((p + 1, b, l) :: F) = us_W ω l + 1 + wk_w ω F := rfl
            rw [hww, if_pos hs]; omega) (frame (k + tm_ar t) (by omega) m4) htk (k2 _ _ _ _ _ hv)
          have ecode : yk_code t = nI n := by
            unfold yk_code
            rw [if_pos hs, en, pk_lT (by omega)]
            rfl
          rw [ecode] at hp
          exact hp
      · -- a variable
        obtain ⟨r, hr4, er, ek2, ev2⟩ : ∃ r, r < 4 ∧ t = lN (8589934592 + (r + 4 * jy_o p)) ∧ a_kind (jy_p i j p) = 2 ∧ a_value (jy_p i j p) = nI r := by
          rcases hjt with ⟨n', h1, e1, e2, e3⟩ | ⟨r, h1, e1, e2, e3⟩
          · rw [ev, pk_lEQ (by omega) (by omega)] at e1
            omega
          · exact ⟨r, h1, e1, e2, e3⟩
        have evr : v = r + 4 * jy_o p := by
          rw [ev, pk_lEQ (by omega) (by omega)] at er
          omega
        rw [har0, Nat.add_zero] at m4
        have hrk : rk v < b := by have := c3 t (List.mem_cons.mpr (Or.inl rfl)) hs; rwa [env] at this
        have hinv : vp_in (nI v) 8 := vp_in_nI hv8 (by omega)
        have evv : (nI v).toNatClampNeg = v := nI_clamp (by omega)
        have common : ∀ (n : Nat) (X : Prop), (((0 ≤ a_bound v → (vp_in (nI v) 8 ∧ (vp_in (nI v) 8 ∧ (wpY_head (fun u => match u with | (f_place0, f_count0, f_top0, f_done0, f_open0, f_steps0, f_shownSteps0, f_fault0, f_in0, f_made0, f_old0, f_size0, f_heads0, f_fresh0, a_kind0, a_value0, a_all0, a_split0, a_toKind0, a_doneKind0, a_toValue0, a_doneValue0, a_begins0, a_lacks0, a_inKind0, a_leftKind0, a_madeKind0, a_oldKind0, a_resultKind0, a_inValue0, a_leftValue0, a_madeValue0, a_oldValue0, a_resultValue0, a_from0, a_to0, a_whole0, a_known0, a_bound0, a_whose0, a_rank0, a_one0, a_two0, a_oneOf0, a_twoOf0, a_headAt0, a_headOf0, a_headLeft0, a_pairs0, a_first0) => wY_next_0 post n f_place0 f_count0 f_top0 f_done0 f_open0 f_steps0 f_shownSteps0 f_fault0 f_in0 f_made0 f_old0 f_size0 f_heads0 f_fresh0 a_kind0 a_value0 a_all0 a_split0 a_toKind0 a_doneKind0 a_toValue0 a_doneValue0 a_begins0 a_lacks0 a_inKind0 a_leftKind0 a_madeKind0 a_oldKind0 a_resultKind0 a_inValue0 a_leftValue0 a_madeValue0 a_oldValue0 a_resultValue0 a_from0 a_to0 a_whole0 a_known0 a_bound0 a_whose0 a_rank0 a_one0 a_two0 a_oneOf0 a_twoOf0 a_headAt0 a_headOf0 a_headLeft0 a_pairs0 a_first0) (f_place, f_count, f_top, f_done, f_open, f_steps, f_shownSteps, f_fault, f_in, f_made, f_old, f_size, nI (F.length + 1), f_fresh, a_kind, a_value, a_all, a_split, a_toKind, a_doneKind, a_toValue, a_doneValue, a_begins, a_lacks, a_inKind, a_leftKind, a_madeKind, a_oldKind, a_resultKind, a_inValue, a_leftValue, a_madeValue, a_oldValue, a_resultValue, a_from, a_to, a_whole, a_known, a_bound, a_whose, a_rank, a_one, a_two, a_oneOf, a_twoOf, upd ha F.length (nI (jy_p i j (p + 1))), ho, upd hl F.length (nI k), a_pairs, a_first) (a_bound v) (a_whose v))))) ∧ (¬ 0 ≤ a_bound v → (post (12 + nI v) (f_place, f_count, f_top, f_done, f_open, f_steps, f_shownSteps, f_fault, f_in, f_made, f_old, f_size, nI (F.length + 1), f_fresh, a_kind, a_value, a_all, a_split, a_toKind, a_doneKind, a_toValue, a_doneValue, a_begins, a_lacks, a_inKind, a_leftKind, a_madeKind, a_oldKind, a_resultKind, a_inValue, a_leftValue, a_madeValue, a_oldValue, a_resultValue, a_from, a_to, a_whole, a_known, a_bound, a_whose, a_rank, a_one, a_two, a_oneOf, a_twoOf, upd ha F.length (nI (jy_p i j (p + 1))), ho, upd hl F.length (nI k), a_pairs, a_first))))) → wY_next_0 post (n + 1) f_place f_count f_top f_done f_open f_steps f_shownSteps f_fault f_in f_made f_old f_size (nI (F.length + 1)) f_fresh a_kind a_value a_all a_split a_toKind a_doneKind a_toValue a_doneValue a_begins a_lacks a_inKind a_leftKind a_madeKind a_oldKind a_resultKind a_inValue a_leftValue a_madeValue a_oldValue a_resultValue a_from a_to a_whole a_known a_bound a_whose a_rank a_one a_two a_oneOf a_twoOf ha ho hl a_pairs a_first := by
          intro n X hbody
          refine pk_le (F.length + 1) 0 (fun z => absurd z (by omega)) (fun _ => nm_r (nI_pred _) ⟨hin, br_f (by rw [ef]; exact hne) ⟨hin, hin, nm_r (e' := upd ha F.length (nI (jy_p i j (p + 1)))) (by rw [ef, hat]) (nm_r (e' := nI (jy_p i j p)) (by rw [ef]; exact q1) ⟨hinp, br_f (by rw [epp, ek2]; decide) ⟨hin, hin, nm_r (e' := upd hl F.length (nI k)) ?_ ⟨hinp, hin, nm_r (e' := nI v) ?_ ⟨hinv, ?_⟩⟩⟩⟩)⟩⟩)
          · rw [ef, m2, nI_pred, (tk_nb (by omega)).1]
          · rw [epp, ef, ev2, q2, show (4 : Int32) = nI 4 from rfl, pk_mul, nI_add, evr]
          · rw [evv]
            exact hbody
        obtain ⟨un, us⟩ := hu v hv8
        cases e : σ v with
        | none =>
          have eE : wk_e ρ ((p, b, t :: l) :: F) = t :: (us_E ρ l ++ wk_e ρ F) := by
            show us_E ρ (t :: l) ++ wk_e ρ F = _
            rw [us_E_var hs, env, hρ0 v e, ← ev]; rfl
          refine ⟨0 + 1, common 0 True (br_f (by rw [un e]; decide) ?_)⟩
          have hp := Hc t (us_E ρ l ++ wk_e ρ F) ((p + 1, b, l) :: F) _ _ _ eE rfl cond (by
            have h1 : wk_w ω ((p + 1, b, l) :: F) = us_W ω l + 1 + wk_w ω F := rfl
            have h2 := hω1 (jn_n t)
            rw [hww, if_neg hs]; omega) (frame k (by omega) m4) htk (k2 _ _ _ _ _ hv)
          have ecode : yk_code t = 12 + nI v := by
            unfold yk_code
            rw [if_neg hs, env, ← nI_add]; rfl
          rw [ecode] at hp
          exact hp
        | some q =>
          obtain ⟨ub, uw⟩ := us q e
          obtain ⟨_, hq, hqr⟩ := hR.2 v q e
          have hql := jn_lt H hq
          obtain ⟨jt1, jt2, jt3⟩ := jy_term H hY hq
          obtain ⟨_, _, _, _, _, tw, _, _, _, tk, _, _⟩ := jn_tm H hq
          have hωv := hω v q e
          have eE : wk_e ρ ((q, rk v, jn_t A B q) :: (p + 1, b, l) :: F) = wk_e ρ ((p, b, t :: l) :: F) := by
            show us_E ρ (jn_t A B q) ++ (us_E ρ l ++ wk_e ρ F) = us_E ρ (t :: l) ++ wk_e ρ F
            rw [us_E_var hs, env, hρ v q e, List.append_assoc]
          have hlt : wk_w ω ((q, rk v, jn_t A B q) :: (p + 1, b, l) :: F) < wk_w ω ((p, b, t :: l) :: F) := by
            show us_W ω (jn_t A B q) + 1 + (us_W ω l + 1 + wk_w ω F) < _
            rw [hww, if_neg hs, env]; omega
          have hreg : q + (jn_t A B q).length < 30 ∨ 30 ≤ q := by
            by_cases h30 : q < 30
            · obtain ⟨_, _, _, _, _, _, _, _, _, _, z8, _⟩ := jn_tm H hq
              have := z8 h30
              obtain ⟨_, _, h3, _⟩ := H
              omega
            · omega
          obtain ⟨n, hn⟩ := yk_next H hR hY hu hω1 hω hρ hρ0 hM Jv Kv k1 k2 k3 w ((q, rk v, jn_t A B q) :: (p + 1, b, l) :: F) (F.length + 2) (upd (upd ha F.length (nI (jy_p i j (p + 1)))) (F.length + 1) (nI (jy_p i j q))) (upd ho (F.length + 1) (nI (jy_o q))) (upd (upd hl F.length (nI k)) (F.length + 1) (nI 1)) (by have := k3 _ _ _ _ _ q hv hs (by rw [env]; exact e); rw [env] at this; exact this) (by omega) ⟨by rw [List.length_cons]; omega, tk, hqr, cond⟩ rfl ⟨⟨pk_us, pk_us, ⟨1, by omega, pk_us, tw⟩, jt1, hreg, by omega⟩, yk_congr (fun z hz => ⟨pk_un (by rw [List.length_cons] at hz; omega), pk_un (by rw [List.length_cons] at hz; omega), pk_un (by rw [List.length_cons] at hz; omega)⟩) (frame k (by omega) m4)⟩ (fun e2 => He (by rw [← eE]; exact e2)) (fun c X F' ha ho hl e1 e2 e3 e4 => Hc c X F' ha ho hl (by rw [← eE]; exact e1) e2 e3 (by omega))
          refine ⟨n + 1, common n True (br_t (by rw [ub]; exact nI_pos' (by have := jy_plt (i := i) (j := j) hi hj hql.2.1; omega)) ⟨hinv, hinv, ?_⟩)⟩
          exact yk_head (p := q) (i := i) (j := j) (by omega) (Or.inl hql.2.1) hi hj ub uw hn
end
end
section
/-! the reference: unification -/
theorem wk_om {A B : List Int64} {J : Nat → Int64} {σ : Nat → Option Nat} {rk : Nat → Nat} (H : jn_H J A B) (hR : us_R A B σ rk) : (∀ v, 1 ≤ 100 ^ (rk v + 1)) ∧ ∀ v q, σ v = some q → us_W (fun v => 100 ^ (rk v + 1)) (jn_t A B q) + 2 ≤ 100 ^ (rk v + 1) := by
  have hpos : ∀ k : Nat, 1 ≤ 100 ^ k := fun k => Nat.le_trans Nat.one_le_two_pow (Nat.pow_le_pow_left (by omega) k)
  refine ⟨fun v => hpos _, fun v q e => ?_⟩
  have hle : ∀ (l : List Int64) (K : Nat), (∀ t, t ∈ l → ¬ t < 8589934592 → rk (jn_n t) < K) → us_W (fun v => 100 ^ (rk v + 1)) l ≤ l.length * 100 ^ K := by
    intro l K
    induction l with
    | nil => intro _; simp [us_W]
    | cons t l ih =>
      intro hK
      have h1 := ih (fun x hx => hK x (List.mem_cons.mpr (Or.inr hx)))
      show (if t < 8589934592 then 1 else 100 ^ (rk (jn_n t) + 1)) + us_W _ l ≤ (l.length + 1) * 100 ^ K
      rw [Nat.add_mul, Nat.one_mul]
      have h2 : (if t < 8589934592 then 1 else 100 ^ (rk (jn_n t) + 1)) ≤ 100 ^ K := by
        by_cases ht : t < 8589934592
        · rw [if_pos ht]; exact hpos K
        · rw [if_neg ht]
          exact Nat.pow_le_pow_right (by omega) (hK t (List.mem_cons.mpr (Or.inl rfl)) ht)
      omega
  obtain ⟨_, hq, hrk⟩ := hR.2 v q e
  have h1 := hle (jn_t A B q) (rk v) hrk
  have h2 := (jn_lt H hq).2.2.2
  have h3 : (jn_t A B q).length * 100 ^ rk v ≤ 29 * 100 ^ rk v := Nat.mul_le_mul_right _ h2
  have h4 := hpos (rk v)
  rw [Nat.pow_succ]
  omega
def yu_S (i j : Nat) (o1 w1 o2 w2 : Nat → Int32) : List (Nat × Nat) → Prop
  | [] => True
  | (a, b) :: S => (o1 S.length = nI (jy_p i j a) ∧ w1 S.length = nI (jy_o a) ∧ o2 S.length = nI (jy_p i j b) ∧ w2 S.length = nI (jy_o b)) ∧ yu_S i j o1 w1 o2 w2 S
theorem yu_S_congr {i j : Nat} {o1 w1 o2 w2 o1' w1' o2' w2' : Nat → Int32} : ∀ {S : List (Nat × Nat)}, (∀ k, k < S.length → o1' k = o1 k ∧ w1' k = w1 k ∧ o2' k = o2 k ∧ w2' k = w2 k) → yu_S i j o1 w1 o2 w2 S → yu_S i j o1' w1' o2' w2' S
  | [], _, _ => trivial
  | (a, b) :: S, h, hh => by
    obtain ⟨e1, e2, e3, e4⟩ := h S.length (by simp)
    refine ⟨⟨e1.trans hh.1.1, e2.trans hh.1.2.1, e3.trans hh.1.2.2.1, e4.trans hh.1.2.2.2⟩, yu_S_congr (fun k hk => h k ?_) hh.2⟩
    rw [List.length_cons]; omega
def yu_Q (post : Int32 → SY → Prop) (f_place f_count f_top f_done f_open f_steps f_shownSteps f_fault f_in f_made f_old f_size f_heads f_fresh : Int32) (a_kind a_value a_all a_split a_toKind a_doneKind a_toValue a_doneValue a_begins a_lacks a_inKind a_leftKind a_madeKind a_oldKind a_resultKind a_inValue a_leftValue a_madeValue a_oldValue a_resultValue a_from a_to a_whole a_known a_bound a_whose a_rank a_one a_two a_oneOf a_twoOf a_headAt a_headOf a_headLeft a_pairs a_first : Nat → Int32) (i j : Nat) (S : List (Nat × Nat)) (σ : Nat → Option Nat) : Prop :=
  ∃ N, ∀ n, N ≤ n → ∀ (ct hs : Int32) (o1 w1 o2 w2 bd wo ha ho hl : Nat → Int32), ct = nI S.length → yu_S i j o1 w1 o2 w2 S → yu_s bd wo i j σ → wY_unify_34 post n f_place ct f_top f_done f_open f_steps f_shownSteps f_fault f_in f_made f_old f_size hs f_fresh a_kind a_value a_all a_split a_toKind a_doneKind a_toValue a_doneValue a_begins a_lacks a_inKind a_leftKind a_madeKind a_oldKind a_resultKind a_inValue a_leftValue a_madeValue a_oldValue a_resultValue a_from a_to a_whole a_known bd wo a_rank o1 o2 w1 w2 ha ho hl a_pairs a_first
def yu_v (t : Int64) : Int32 := if t < 8589934592 then -1 else nI (jn_n t)
theorem yo_code {c : Int64} {u : Nat} (hu8 : u < 8) (hck : jn_k c) : ¬ yk_code c < 0 ∧ (yk_code c = 12 + nI u ↔ c = lN (8589934592 + u)) := by
  unfold yk_code
  rcases jn_cases hck with ⟨n', h1, en, hs⟩ | ⟨v, h1, ev, hs, env, _⟩
  · rw [if_pos hs, en, pk_lT (by omega), show ((n' : Int)).toNat = n' from rfl, show (12 : Int32) = nI 12 from rfl, nI_add, nI_eq (by omega) (by omega), pk_lEQ (by omega) (by omega)]
    exact ⟨nI_pos (by omega), by omega⟩
  · rw [if_neg hs, env, ev, show (12 : Int32) = nI 12 from rfl, nI_add, nI_eq (by omega) (by omega), pk_lEQ (by omega) (by omega)]
    exact ⟨nI_pos (by omega), by omega⟩
section
variable {f_place f_count f_top f_done f_open f_steps f_shownSteps f_fault f_in f_made f_old f_size f_heads f_fresh : Int32} {a_kind a_value a_all a_split a_toKind a_doneKind a_toValue a_doneValue a_begins a_lacks a_inKind a_leftKind a_madeKind a_oldKind a_resultKind a_inValue a_leftValue a_madeValue a_oldValue a_resultValue a_from a_to a_whole a_known a_bound a_whose a_rank a_one a_two a_oneOf a_twoOf a_headAt a_headOf a_headLeft a_pairs a_first : Nat → Int32}
variable {J : Nat → Int64} {A B : List Int64} {σ : Nat → Option Nat} {rk : Nat → Nat} {i j : Nat}
theorem yc_l {post : Int32 → SY → Prop} {ω : Nat → Nat} {ρ : Nat → List Int64} {M u : Nat} (hu8 : u < 8) (H : jn_H J A B) (hR : us_R A B σ rk) (hY : jy_H a_kind a_value i j A B) (hu : yu_s a_bound a_whose i j σ) (hω1 : ∀ v, 1 ≤ ω v) (hω : ∀ v q, σ v = some q → us_W ω (jn_t A B q) + 2 ≤ ω v) (hρ : us_Es A B σ ρ) (hρ0 : ∀ v, σ v = none → ρ v = [lN (8589934592 + v)]) (hM : M ≤ 9) : ∀ (X : List Int64) (F : List (Nat × Nat × List Int64)) (ha ho hl : Nat → Int32) (n : Nat), wk_e ρ F = X → X.length < n → wk_c rk M F → yk_F a_kind a_value i j ha ho hl F → (lN (8589934592 + u) ∈ X → ∀ hs ha ho hl, post 1 (f_place, f_count, f_top, f_done, f_open, f_steps, f_shownSteps, f_fault, f_in, f_made, f_old, f_size, hs, f_fresh, a_kind, a_value, a_all, a_split, a_toKind, a_doneKind, a_toValue, a_doneValue, a_begins, a_lacks, a_inKind, a_leftKind, a_madeKind, a_oldKind, a_resultKind, a_inValue, a_leftValue, a_madeValue, a_oldValue, a_resultValue, a_from, a_to, a_whole, a_known, a_bound, a_whose, a_rank, a_one, a_two, a_oneOf, a_twoOf, ha, ho, hl, a_pairs, a_first)) → (¬ lN (8589934592 + u) ∈ X → ∀ hs ha ho hl, post 0 (f_place, f_count, f_top, f_done, f_open, f_steps, f_shownSteps, f_fault, f_in, f_made, f_old, f_size, hs, f_fresh, a_kind, a_value, a_all, a_split, a_toKind, a_doneKind, a_toValue, a_doneValue, a_begins, a_lacks, a_inKind, a_leftKind, a_madeKind, a_oldKind, a_resultKind, a_inValue, a_leftValue, a_madeValue, a_oldValue, a_resultValue, a_from, a_to, a_whole, a_known, a_bound, a_whose, a_rank, a_one, a_two, a_oneOf, a_twoOf, ha, ho, hl, a_pairs, a_first)) → wpY_next (fun r s => match s with | (f_place0, f_count0, f_top0, f_done0, f_open0, f_steps0, f_shownSteps0, f_fault0, f_in0, f_made0, f_old0, f_size0, f_heads0, f_fresh0, a_kind0, a_value0, a_all0, a_split0, a_toKind0, a_doneKind0, a_toValue0, a_doneValue0, a_begins0, a_lacks0, a_inKind0, a_leftKind0, a_madeKind0, a_oldKind0, a_resultKind0, a_inValue0, a_leftValue0, a_madeValue0, a_oldValue0, a_resultValue0, a_from0, a_to0, a_whole0, a_known0, a_bound0, a_whose0, a_rank0, a_one0, a_two0, a_oneOf0, a_twoOf0, a_headAt0, a_headOf0, a_headLeft0, a_pairs0, a_first0) => wY_occurs_17 post (nI u) n r f_place0 f_count0 f_top0 f_done0 f_open0 f_steps0 f_shownSteps0 f_fault0 f_in0 f_made0 f_old0 f_size0 f_heads0 f_fresh0 a_kind0 a_value0 a_all0 a_split0 a_toKind0 a_doneKind0 a_toValue0 a_doneValue0 a_begins0 a_lacks0 a_inKind0 a_leftKind0 a_madeKind0 a_oldKind0 a_resultKind0 a_inValue0 a_leftValue0 a_madeValue0 a_oldValue0 a_resultValue0 a_from0 a_to0 a_whole0 a_known0 a_bound0 a_whose0 a_rank0 a_one0 a_two0 a_oneOf0 a_twoOf0 a_headAt0 a_headOf0 a_headLeft0 a_pairs0 a_first0) (f_place, f_count, f_top, f_done, f_open, f_steps, f_shownSteps, f_fault, f_in, f_made, f_old, f_size, nI F.length, f_fresh, a_kind, a_value, a_all, a_split, a_toKind, a_doneKind, a_toValue, a_doneValue, a_begins, a_lacks, a_inKind, a_leftKind, a_madeKind, a_oldKind, a_resultKind, a_inValue, a_leftValue, a_madeValue, a_oldValue, a_resultValue, a_from, a_to, a_whole, a_known, a_bound, a_whose, a_rank, a_one, a_two, a_oneOf, a_twoOf, ha, ho, hl, a_pairs, a_first) := by
  intro X
  induction X with
  | nil =>
    intro F ha ho hl n hX hn hc hF Hy Hn
    obtain ⟨n, rfl⟩ : ∃ n', n = n' + 1 := ⟨n - 1, by omega⟩
    refine yk_next H hR hY hu hω1 hω hρ hρ0 hM (fun _ => True) (fun _ => True) (fun _ _ _ _ => trivial) (fun _ _ _ _ _ _ => trivial) (fun _ _ _ _ _ _ _ _ _ => trivial) (wk_w ω F + 1) F F.length ha ho hl trivial (by omega) hc rfl hF (fun _ hs ha ho hl => ?_) (fun c X' F' ha ho hl e1 => ?_)
    · exact br_t (by decide) (br_t (by decide) (Hn (by simp) hs ha ho hl))
    · rw [hX] at e1
      exact absurd e1 (by simp)
  | cons c X ih =>
    intro F ha ho hl n hX hn hc hF Hy Hn
    obtain ⟨n, rfl⟩ : ∃ n', n = n' + 1 := ⟨n - 1, by omega⟩
    refine yk_next H hR hY hu hω1 hω hρ hρ0 hM (fun _ => True) (fun _ => True) (fun _ _ _ _ => trivial) (fun _ _ _ _ _ _ => trivial) (fun _ _ _ _ _ _ _ _ _ => trivial) (wk_w ω F + 1) F F.length ha ho hl trivial (by omega) hc rfl hF (fun e => by rw [hX] at e; exact absurd e (by simp)) (fun c' X' F' ha ho hl e1 e2 e3 e4 e5 hck _ => ?_)
    rw [hX] at e1
    injection e1 with e1 e1'
    subst e1 e1'
    have hcode := yo_code hu8 hck
    refine br_f hcode.1 ?_
    by_cases hcu : c = lN (8589934592 + u)
    · exact br_t (hcode.2.mpr hcu) (br_f hcode.1 (Hy (by rw [hcu]; simp) _ _ _ _))
    · refine br_f (fun z => hcu (hcode.2.mp z)) ?_
      rw [List.length_cons] at hn
      refine ih F' ha ho hl n e2 (by omega) e3 e5 (fun z => Hy (List.mem_cons.mpr (Or.inr z))) (fun z => Hn (fun z2 => ?_))
      rcases List.mem_cons.mp z2 with z3 | z3
      · exact hcu z3.symm
      · exact z z3
theorem yo_occurs {post : Int32 → SY → Prop} {u q : Nat} {x y z : Int32} (hu8 : u < 8) (H : jn_H J A B) (hR : us_R A B σ rk) (hY : jy_H a_kind a_value i j A B) (hu : yu_s a_bound a_whose i j σ) (hq : jn_v A B q) (hz : z = nI u) (hx : x = nI (jy_p i j q)) (hy : y = nI (jy_o q)) (Hy : lN (8589934592 + u) ∈ us_E (us_h A B σ 8) (jn_t A B q) → ∀ hs ha ho hl, post 1 (f_place, f_count, f_top, f_done, f_open, f_steps, f_shownSteps, f_fault, f_in, f_made, f_old, f_size, hs, f_fresh, a_kind, a_value, a_all, a_split, a_toKind, a_doneKind, a_toValue, a_doneValue, a_begins, a_lacks, a_inKind, a_leftKind, a_madeKind, a_oldKind, a_resultKind, a_inValue, a_leftValue, a_madeValue, a_oldValue, a_resultValue, a_from, a_to, a_whole, a_known, a_bound, a_whose, a_rank, a_one, a_two, a_oneOf, a_twoOf, ha, ho, hl, a_pairs, a_first)) (Hn : ¬ lN (8589934592 + u) ∈ us_E (us_h A B σ 8) (jn_t A B q) → ∀ hs ha ho hl, post 0 (f_place, f_count, f_top, f_done, f_open, f_steps, f_shownSteps, f_fault, f_in, f_made, f_old, f_size, hs, f_fresh, a_kind, a_value, a_all, a_split, a_toKind, a_doneKind, a_toValue, a_doneValue, a_begins, a_lacks, a_inKind, a_leftKind, a_madeKind, a_oldKind, a_resultKind, a_inValue, a_leftValue, a_madeValue, a_oldValue, a_resultValue, a_from, a_to, a_whole, a_known, a_bound, a_whose, a_rank, a_one, a_two, a_oneOf, a_twoOf, ha, ho, hl, a_pairs, a_first)) : wpY_occurs post (f_place, f_count, f_top, f_done, f_open, f_steps, f_shownSteps, f_fault, f_in, f_made, f_old, f_size, f_heads, f_fresh, a_kind, a_value, a_all, a_split, a_toKind, a_doneKind, a_toValue, a_doneValue, a_begins, a_lacks, a_inKind, a_leftKind, a_madeKind, a_oldKind, a_resultKind, a_inValue, a_leftValue, a_madeValue, a_oldValue, a_resultValue, a_from, a_to, a_whole, a_known, a_bound, a_whose, a_rank, a_one, a_two, a_oneOf, a_twoOf, a_headAt, a_headOf, a_headLeft, a_pairs, a_first) z x y := by
  subst hz
  have hql := jn_lt H hq
  obtain ⟨jt1, jt2, jt3⟩ := jy_term H hY hq
  obtain ⟨_, _, _, _, _, tw, _, _, _, tk, _, _⟩ := jn_tm H hq
  have hreg : q + (jn_t A B q).length < 30 ∨ 30 ≤ q := by
    by_cases h30 : q < 30
    · obtain ⟨_, _, _, _, _, _, _, _, _, _, z8, _⟩ := jn_tm H hq
      have := z8 h30
      obtain ⟨_, _, h3, _⟩ := H
      omega
    · omega
  obtain ⟨om1, om2⟩ := wk_om H hR
  have eX : wk_e (us_h A B σ 8) [(q, 8, jn_t A B q)] = us_E (us_h A B σ 8) (jn_t A B q) := List.append_nil _
  unfold wpY_occurs
  refine yk_head (k := 0) (p := q) (i := i) (j := j) (by omega) (Or.inl hql.2.1) hY.1 hY.2.1 hx hy ?_
  refine yk_next H hR hY hu om1 om2 (us_h_sol hR) (fun v e => us_h_none e 8) (M := 8) (by omega) (fun _ => True) (fun _ => True) (fun _ _ _ _ => trivial) (fun _ _ _ _ _ _ => trivial) (fun _ _ _ _ _ _ _ _ _ => trivial) (wk_w (fun v => 100 ^ (rk v + 1)) [(q, 8, jn_t A B q)] + 1) [(q, 8, jn_t A B q)] 1 _ _ _ trivial (by omega) ⟨by simp, tk, fun t _ _ => hR.1 _, trivial⟩ rfl ⟨⟨pk_us, pk_us, ⟨1, by omega, pk_us, tw⟩, jt1, hreg, by omega⟩, trivial⟩ (fun e hs ha ho hl => ⟨1, ?_⟩) (fun c X' F' ha ho hl e1 e2 e3 e4 e5 hck _ => ⟨X'.length + 2, ?_⟩)
  · rw [eX] at e
    exact br_t (by decide) (br_t (by decide) (Hn (by rw [e]; simp) hs ha ho hl))
  · rw [eX] at e1
    rw [e1] at Hy Hn
    have hcode := yo_code hu8 hck
    refine br_f hcode.1 ?_
    by_cases hcu : c = lN (8589934592 + u)
    · exact br_t (hcode.2.mpr hcu) (br_f hcode.1 (Hy (by rw [hcu]; simp) _ _ _ _))
    · refine br_f (fun z => hcu (hcode.2.mp z)) ?_
      refine yc_l hu8 H hR hY hu om1 om2 (us_h_sol hR) (fun v e => us_h_none e 8) (M := 8) (by omega) X' F' ha ho hl _ e2 (by omega) e3 e5 (fun z => Hy (List.mem_cons.mpr (Or.inr z))) (fun z => Hn (fun z2 => ?_))
      rcases List.mem_cons.mp z2 with z3 | z3
      · exact hcu z3.symm
      · exact z z3
end
end
section
/-! the reference: unification, its turns -/
section
variable {f_place f_count f_top f_done f_open f_steps f_shownSteps f_fault f_in f_made f_old f_size f_heads f_fresh : Int32} {a_kind a_value a_all a_split a_toKind a_doneKind a_toValue a_doneValue a_begins a_lacks a_inKind a_leftKind a_madeKind a_oldKind a_resultKind a_inValue a_leftValue a_madeValue a_oldValue a_resultValue a_from a_to a_whole a_known a_bound a_whose a_rank a_one a_two a_oneOf a_twoOf a_headAt a_headOf a_headLeft a_pairs a_first : Nat → Int32}
variable {J : Nat → Int64} {A B : List Int64} {σ : Nat → Option Nat} {rk : Nat → Nat} {i j : Nat}
theorem yu_pend {post : SY → Prop} {k a b : Nat} {x y z w : Int32} (hk : k < 400) (ha : a < 60) (hb : b < 60) (hi : i < 8) (hj : j < 8) (hx : x = nI (jy_p i j a)) (hy : y = nI (jy_o a)) (hz : z = nI (jy_p i j b)) (hw : w = nI (jy_o b)) (h : post (f_place, nI (k + 1), f_top, f_done, f_open, f_steps, f_shownSteps, f_fault, f_in, f_made, f_old, f_size, f_heads, f_fresh, a_kind, a_value, a_all, a_split, a_toKind, a_doneKind, a_toValue, a_doneValue, a_begins, a_lacks, a_inKind, a_leftKind, a_madeKind, a_oldKind, a_resultKind, a_inValue, a_leftValue, a_madeValue, a_oldValue, a_resultValue, a_from, a_to, a_whole, a_known, a_bound, a_whose, a_rank, upd a_one k (nI (jy_p i j a)), upd a_two k (nI (jy_p i j b)), upd a_oneOf k (nI (jy_o a)), upd a_twoOf k (nI (jy_o b)), a_headAt, a_headOf, a_headLeft, a_pairs, a_first)) : wpY_pend post (f_place, nI k, f_top, f_done, f_open, f_steps, f_shownSteps, f_fault, f_in, f_made, f_old, f_size, f_heads, f_fresh, a_kind, a_value, a_all, a_split, a_toKind, a_doneKind, a_toValue, a_doneValue, a_begins, a_lacks, a_inKind, a_leftKind, a_madeKind, a_oldKind, a_resultKind, a_inValue, a_leftValue, a_madeValue, a_oldValue, a_resultValue, a_from, a_to, a_whole, a_known, a_bound, a_whose, a_rank, a_one, a_two, a_oneOf, a_twoOf, a_headAt, a_headOf, a_headLeft, a_pairs, a_first) x y z w := by
  subst hx hy hz hw
  have hin : vp_in (nI k) 400 := vp_in_nI hk (by omega)
  have ek : (nI k).toNatClampNeg = k := nI_clamp (by omega)
  have h1 := jy_plt (i := i) (j := j) hi hj ha
  have h2 := jy_plt (i := i) (j := j) hi hj hb
  have h3 := jy_o1 a
  have h4 := jy_o1 b
  refine ⟨hin, nm_r (e' := upd a_one k (nI (jy_p i j a))) (by rw [ek, (tk_ns (by omega)).1]) ⟨hin, nm_r (e' := upd a_oneOf k (nI (jy_o a))) (by rw [ek, (tk_nb (by omega)).1]) ⟨hin, nm_r (e' := upd a_two k (nI (jy_p i j b))) (by rw [ek, (tk_ns (by omega)).1]) (nm_r (nI_1 k) ⟨hin, nm_r (e' := upd a_twoOf k (nI (jy_o b))) (by rw [ek, (tk_nb (by omega)).1]) h⟩)⟩⟩⟩
theorem yu_push {a b : Nat} {S : List (Nat × Nat)} {o1 w1 o2 w2 : Nat → Int32} (h : yu_S i j o1 w1 o2 w2 S) : yu_S i j (upd o1 S.length (nI (jy_p i j a))) (upd w1 S.length (nI (jy_o a))) (upd o2 S.length (nI (jy_p i j b))) (upd w2 S.length (nI (jy_o b))) ((a, b) :: S) :=
  ⟨⟨pk_us, pk_us, pk_us, pk_us⟩, yu_S_congr (fun k hk => ⟨pk_un (by omega), pk_un (by omega), pk_un (by omega), pk_un (by omega)⟩) h⟩
/-- what a turn finds at a place -/
theorem yu_at (H : jn_H J A B) (hY : jy_H a_kind a_value i j A B) {p : Nat} (hp : jn_v A B p) : (a_kind (jy_p i j p) = 2 ↔ ¬ J p < 8589934592) ∧ (¬ J p < 8589934592 → a_value (jy_p i j p) + 4 * nI (jy_o p) = nI (jn_n (J p))) ∧ (J p < 8589934592 → ∃ n, n < 9 ∧ J p = lN n ∧ a_value (jy_p i j p) = nI n) := by
  obtain ⟨_, jt, _⟩ := jy_term H hY hp
  have ho := jy_o1 p
  rcases jt with ⟨n, h1, e, e1, e2⟩ | ⟨r, h1, e, e1, e2⟩
  · have hs : J p < 8589934592 := by rw [e, tk_lt 8589934592 (by omega)]; omega
    exact ⟨⟨fun z => by rw [e1] at z; exact absurd z (by decide), fun z => absurd hs z⟩, fun z => absurd hs z, fun _ => ⟨n, h1, e, e2⟩⟩
  · have hs : ¬ J p < 8589934592 := by rw [e, tk_lt 8589934592 (by omega)]; omega
    refine ⟨⟨fun _ => hs, fun _ => e1⟩, fun _ => ?_, fun z => absurd z hs⟩
    rw [e2, e, jn_nv (by omega), show (4 : Int32) = nI 4 from rfl, pk_mul, nI_add]
/-- the head of a turn -/
theorem yu_pre {post : Int32 → SY → Prop} (H : jn_H J A B) (hY : jy_H a_kind a_value i j A B) {a b : Nat} {S : List (Nat × Nat)} (ha : jn_v A B a) (hb : jn_v A B b) (hS : S.length < 399)
    (h : ∃ N, ∀ n, N ≤ n → ∀ (hs : Int32) (o1 w1 o2 w2 bd wo ha ho hl : Nat → Int32), yu_S i j o1 w1 o2 w2 S → yu_s bd wo i j σ → wY_unify_148 post (wY_unify_34 post n) (nI (jy_p i j a)) (nI (jy_o a)) (nI (jy_p i j b)) (nI (jy_o b)) (yu_v (J a)) (yu_v (J b)) f_place (nI S.length) f_top f_done f_open f_steps f_shownSteps f_fault f_in f_made f_old f_size hs f_fresh a_kind a_value a_all a_split a_toKind a_doneKind a_toValue a_doneValue a_begins a_lacks a_inKind a_leftKind a_madeKind a_oldKind a_resultKind a_inValue a_leftValue a_madeValue a_oldValue a_resultValue a_from a_to a_whole a_known bd wo a_rank o1 o2 w1 w2 ha ho hl a_pairs a_first) : yu_Q post f_place f_count f_top f_done f_open f_steps f_shownSteps f_fault f_in f_made f_old f_size f_heads f_fresh a_kind a_value a_all a_split a_toKind a_doneKind a_toValue a_doneValue a_begins a_lacks a_inKind a_leftKind a_madeKind a_oldKind a_resultKind a_inValue a_leftValue a_madeValue a_oldValue a_resultValue a_from a_to a_whole a_known a_bound a_whose a_rank a_one a_two a_oneOf a_twoOf a_headAt a_headOf a_headLeft a_pairs a_first i j ((a, b) :: S) σ := by
  obtain ⟨N, hN⟩ := h
  refine ⟨N + 1, fun n hn ct hs o1 w1 o2 w2 bd wo ha' ho hl hct hyS hys => ?_⟩
  obtain ⟨n, rfl⟩ : ∃ n', n = n' + 1 := ⟨n - 1, by omega⟩
  subst hct
  have hn := hN n (by omega) hs o1 w1 o2 w2 bd wo ha' ho hl hyS.2 hys
  obtain ⟨⟨e1, e2, e3, e4⟩, _⟩ := hyS
  have hal := jn_lt H ha
  have hbl := jn_lt H hb
  have h1 := jy_plt (i := i) (j := j) hY.1 hY.2.1 hal.2.1
  have h2 := jy_plt (i := i) (j := j) hY.1 hY.2.1 hbl.2.1
  obtain ⟨va1, va2, va3⟩ := yu_at H hY ha
  obtain ⟨vb1, vb2, vb3⟩ := yu_at H hY hb
  have hin : vp_in (nI S.length) 400 := vp_in_nI (by omega) (by omega)
  have es : (nI S.length).toNatClampNeg = S.length := nI_clamp (by omega)
  have hina : vp_in (nI (jy_p i j a)) 270 := vp_in_nI (by omega) (by omega)
  have hinb : vp_in (nI (jy_p i j b)) 270 := vp_in_nI (by omega) (by omega)
  have ea : (nI (jy_p i j a)).toNatClampNeg = jy_p i j a := nI_clamp (by omega)
  have eb : (nI (jy_p i j b)).toNatClampNeg = jy_p i j b := nI_clamp (by omega)
  refine pk_le ((a, b) :: S).length 0 (fun z => absurd z (by simp)) (fun _ => ?_) rfl rfl (by rw [List.length_cons]; omega)
  refine nm_r (e' := nI S.length) (nI_pred S.length) ⟨hin, nm_r (e' := nI (jy_p i j a)) (by rw [es]; exact e1) ⟨hin, nm_r (e' := nI (jy_o a)) (by rw [es]; exact e2) ⟨hin, nm_r (e' := nI (jy_p i j b)) (by rw [es]; exact e3) ⟨hin, nm_r (e' := nI (jy_o b)) (by rw [es]; exact e4) ⟨hina, ?_⟩⟩⟩⟩⟩
  rw [ea]
  have tail : ∀ x, x = yu_v (J a) → wY_unify_119 post (wY_unify_34 post n) (nI (jy_p i j a)) (nI (jy_o a)) (nI (jy_p i j b)) (nI (jy_o b)) x f_place (nI S.length) f_top f_done f_open f_steps f_shownSteps f_fault f_in f_made f_old f_size hs f_fresh a_kind a_value a_all a_split a_toKind a_doneKind a_toValue a_doneValue a_begins a_lacks a_inKind a_leftKind a_madeKind a_oldKind a_resultKind a_inValue a_leftValue a_madeValue a_oldValue a_resultValue a_from a_to a_whole a_known bd wo a_rank o1 o2 w1 w2 ha' ho hl a_pairs a_first := by
    intro x hx
    subst hx
    refine ⟨hinb, ?_⟩
    rw [eb]
    by_cases hbs : J b < 8589934592
    · have e : yu_v (J b) = -1 := if_pos hbs
      rw [e] at hn
      exact br_f (fun z => vb1.mp z hbs) hn
    · have e : yu_v (J b) = nI (jn_n (J b)) := if_neg hbs
      refine br_t (vb1.mpr hbs) ⟨hinb, ?_⟩
      rw [vb2 hbs, ← e]
      exact hn
  by_cases has : J a < 8589934592
  · refine br_f (fun z => va1.mp z has) (tail _ (if_pos has).symm)
  · refine br_t (va1.mpr has) ⟨hina, tail _ ?_⟩
    rw [va2 has]
    exact (if_neg has).symm
theorem yu_neg {t : Int64} (h : t < 8589934592) : yu_v t = -1 := if_pos h
theorem yu_pos {t : Int64} (h : ¬ t < 8589934592) : yu_v t = nI (jn_n t) := if_neg h
/-- the same variable on both sides -/
theorem yu_s1 {post : Int32 → SY → Prop} (H : jn_H J A B) (hY : jy_H a_kind a_value i j A B) {a b : Nat} {S : List (Nat × Nat)} (ha : jn_v A B a) (hb : jn_v A B b) (hS : S.length < 399) (hav : ¬ J a < 8589934592) (hJ : J a = J b) (hQ : yu_Q post f_place f_count f_top f_done f_open f_steps f_shownSteps f_fault f_in f_made f_old f_size f_heads f_fresh a_kind a_value a_all a_split a_toKind a_doneKind a_toValue a_doneValue a_begins a_lacks a_inKind a_leftKind a_madeKind a_oldKind a_resultKind a_inValue a_leftValue a_madeValue a_oldValue a_resultValue a_from a_to a_whole a_known a_bound a_whose a_rank a_one a_two a_oneOf a_twoOf a_headAt a_headOf a_headLeft a_pairs a_first i j S σ) : yu_Q post f_place f_count f_top f_done f_open f_steps f_shownSteps f_fault f_in f_made f_old f_size f_heads f_fresh a_kind a_value a_all a_split a_toKind a_doneKind a_toValue a_doneValue a_begins a_lacks a_inKind a_leftKind a_madeKind a_oldKind a_resultKind a_inValue a_leftValue a_madeValue a_oldValue a_resultValue a_from a_to a_whole a_known a_bound a_whose a_rank a_one a_two a_oneOf a_twoOf a_headAt a_headOf a_headLeft a_pairs a_first i j ((a, b) :: S) σ := by
  have hv := (jn_var (jn_J H ha) hav).1
  obtain ⟨N, hN⟩ := hQ
  refine yu_pre H hY ha hb hS ⟨N, fun n hn hs o1 w1 o2 w2 bd wo hda ho hl g1 g2 => ?_⟩
  have hn := hN n hn (nI S.length) hs o1 w1 o2 w2 bd wo hda ho hl rfl g1 g2
  rw [← hJ, yu_pos hav]
  exact br_f (nI_pos (by omega)) (br_t rfl hn)
/-- a bound variable on the one side -/
theorem yu_s2 {post : Int32 → SY → Prop} (H : jn_H J A B) (hR : us_R A B σ rk) (hY : jy_H a_kind a_value i j A B) {a b r : Nat} {S : List (Nat × Nat)} (ha : jn_v A B a) (hb : jn_v A B b) (hS : S.length < 399) (hav : ¬ J a < 8589934592) (hne : J a ≠ J b) (hr : σ (jn_n (J a)) = some r) (hQ : yu_Q post f_place f_count f_top f_done f_open f_steps f_shownSteps f_fault f_in f_made f_old f_size f_heads f_fresh a_kind a_value a_all a_split a_toKind a_doneKind a_toValue a_doneValue a_begins a_lacks a_inKind a_leftKind a_madeKind a_oldKind a_resultKind a_inValue a_leftValue a_madeValue a_oldValue a_resultValue a_from a_to a_whole a_known a_bound a_whose a_rank a_one a_two a_oneOf a_twoOf a_headAt a_headOf a_headLeft a_pairs a_first i j ((r, b) :: S) σ) : yu_Q post f_place f_count f_top f_done f_open f_steps f_shownSteps f_fault f_in f_made f_old f_size f_heads f_fresh a_kind a_value a_all a_split a_toKind a_doneKind a_toValue a_doneValue a_begins a_lacks a_inKind a_leftKind a_madeKind a_oldKind a_resultKind a_inValue a_leftValue a_madeValue a_oldValue a_resultValue a_from a_to a_whole a_known a_bound a_whose a_rank a_one a_two a_oneOf a_twoOf a_headAt a_headOf a_headLeft a_pairs a_first i j ((a, b) :: S) σ := by
  obtain ⟨N, hN⟩ := hQ
  refine yu_pre H hY ha hb hS ⟨N, fun n hnN hs o1 w1 o2 w2 bd wo hda ho hl g1 g2 => ?_⟩
  obtain ⟨hv, ev, _⟩ := jn_var (jn_J H ha) hav
  obtain ⟨_, hrv, _⟩ := hR.2 _ r hr
  have hrl := jn_lt H hrv
  have hbl := jn_lt H hb
  have hrp := jy_plt (i := i) (j := j) hY.1 hY.2.1 hrl.2.1
  obtain ⟨ub, uw⟩ := (g2 _ hv).2 r hr
  have hn := hN n hnN (nI (S.length + 1)) hs _ _ _ _ bd wo hda ho hl rfl (yu_push (a := r) (b := b) g1) g2
  have hin : vp_in (nI (jn_n (J a))) 8 := vp_in_nI hv (by omega)
  have ec : (nI (jn_n (J a))).toNatClampNeg = jn_n (J a) := nI_clamp (by omega)
  have hnv : ¬ nI (jn_n (J a)) = yu_v (J b) := by
    by_cases hbs : J b < 8589934592
    · rw [yu_neg hbs]
      intro z
      have := nI_pos (n := jn_n (J a)) (by omega)
      rw [z] at this
      exact this (by decide)
    · obtain ⟨hw, ew, _⟩ := jn_var (jn_J H hb) hbs
      rw [yu_pos hbs, nI_eq (by omega) (by omega)]
      intro z
      exact hne (by rw [ev, ew, z])
  rw [yu_pos hav]
  refine br_f (nI_pos (by omega)) (br_f hnv (br_f (nI_pos (by omega)) ⟨hin, ?_⟩))
  rw [ec]
  refine br_f (by rw [ub]; exact nI_pos (by omega)) ⟨hin, hin, ?_⟩
  exact yu_pend (a := r) (b := b) (i := i) (j := j) (by omega) hrl.2.1 hbl.2.1 hY.1 hY.2.1 ub uw rfl rfl hn
/-- the way past the one side, whose variable, if it is one, stands for itself -/
theorem yu_165 {post : Int32 → SY → Prop} {J34 : Int32 → Int32 → Int32 → Int32 → Int32 → Int32 → Int32 → Int32 → Int32 → Int32 → Int32 → Int32 → Int32 → Int32 → (Nat → Int32) → (Nat → Int32) → (Nat → Int32) → (Nat → Int32) → (Nat → Int32) → (Nat → Int32) → (Nat → Int32) → (Nat → Int32) → (Nat → Int32) → (Nat → Int32) → (Nat → Int32) → (Nat → Int32) → (Nat → Int32) → (Nat → Int32) → (Nat → Int32) → (Nat → Int32) → (Nat → Int32) → (Nat → Int32) → (Nat → Int32) → (Nat → Int32) → (Nat → Int32) → (Nat → Int32) → (Nat → Int32) → (Nat → Int32) → (Nat → Int32) → (Nat → Int32) → (Nat → Int32) → (Nat → Int32) → (Nat → Int32) → (Nat → Int32) → (Nat → Int32) → (Nat → Int32) → (Nat → Int32) → (Nat → Int32) → (Nat → Int32) → (Nat → Int32) → Prop} (H : jn_H J A B) {a b : Nat} {x3 x4 x5 x6 : Int32} (ha : jn_v A B a) (hb : jn_v A B b) (hne : J a ≠ J b ∨ J a < 8589934592) (hun : ¬ J a < 8589934592 → σ (jn_n (J a)) = none) (hu : yu_s a_bound a_whose i j σ) (h : wY_unify_205 post J34 x3 x4 x5 x6 (yu_v (J a)) (yu_v (J b)) f_place f_count f_top f_done f_open f_steps f_shownSteps f_fault f_in f_made f_old f_size f_heads f_fresh a_kind a_value a_all a_split a_toKind a_doneKind a_toValue a_doneValue a_begins a_lacks a_inKind a_leftKind a_madeKind a_oldKind a_resultKind a_inValue a_leftValue a_madeValue a_oldValue a_resultValue a_from a_to a_whole a_known a_bound a_whose a_rank a_one a_two a_oneOf a_twoOf a_headAt a_headOf a_headLeft a_pairs a_first) : wY_unify_148 post J34 x3 x4 x5 x6 (yu_v (J a)) (yu_v (J b)) f_place f_count f_top f_done f_open f_steps f_shownSteps f_fault f_in f_made f_old f_size f_heads f_fresh a_kind a_value a_all a_split a_toKind a_doneKind a_toValue a_doneValue a_begins a_lacks a_inKind a_leftKind a_madeKind a_oldKind a_resultKind a_inValue a_leftValue a_madeValue a_oldValue a_resultValue a_from a_to a_whole a_known a_bound a_whose a_rank a_one a_two a_oneOf a_twoOf a_headAt a_headOf a_headLeft a_pairs a_first := by
  by_cases has : J a < 8589934592
  · have e := yu_neg has
    rw [e] at h ⊢
    exact br_t (by decide) (br_t (by decide) h)
  · obtain ⟨hv, ev, _⟩ := jn_var (jn_J H ha) has
    have e := yu_pos has
    have hnv : ¬ nI (jn_n (J a)) = yu_v (J b) := by
      by_cases hbs : J b < 8589934592
      · rw [yu_neg hbs]
        intro z
        have := nI_pos (n := jn_n (J a)) (by omega)
        rw [z] at this
        exact this (by decide)
      · obtain ⟨hw, ew, _⟩ := jn_var (jn_J H hb) hbs
        rw [yu_pos hbs, nI_eq (by omega) (by omega)]
        intro z
        rcases hne with hne | hne
        · exact hne (by rw [ev, ew, z])
        · exact has hne
    rw [e] at h ⊢
    refine br_f (nI_pos (by omega)) (br_f hnv (br_f (nI_pos (by omega)) ⟨vp_in_nI hv (by omega), br_t ?_ h⟩))
    rw [nI_clamp (by omega), (hu _ hv).1 (hun has)]
    decide
theorem yu_s3 {post : Int32 → SY → Prop} (H : jn_H J A B) (hR : us_R A B σ rk) (hY : jy_H a_kind a_value i j A B) {a b r : Nat} {S : List (Nat × Nat)} (ha : jn_v A B a) (hb : jn_v A B b) (hS : S.length < 399) (hun : ¬ J a < 8589934592 → σ (jn_n (J a)) = none) (hbv : ¬ J b < 8589934592) (hne : J a ≠ J b) (hr : σ (jn_n (J b)) = some r) (hQ : yu_Q post f_place f_count f_top f_done f_open f_steps f_shownSteps f_fault f_in f_made f_old f_size f_heads f_fresh a_kind a_value a_all a_split a_toKind a_doneKind a_toValue a_doneValue a_begins a_lacks a_inKind a_leftKind a_madeKind a_oldKind a_resultKind a_inValue a_leftValue a_madeValue a_oldValue a_resultValue a_from a_to a_whole a_known a_bound a_whose a_rank a_one a_two a_oneOf a_twoOf a_headAt a_headOf a_headLeft a_pairs a_first i j ((a, r) :: S) σ) : yu_Q post f_place f_count f_top f_done f_open f_steps f_shownSteps f_fault f_in f_made f_old f_size f_heads f_fresh a_kind a_value a_all a_split a_toKind a_doneKind a_toValue a_doneValue a_begins a_lacks a_inKind a_leftKind a_madeKind a_oldKind a_resultKind a_inValue a_leftValue a_madeValue a_oldValue a_resultValue a_from a_to a_whole a_known a_bound a_whose a_rank a_one a_two a_oneOf a_twoOf a_headAt a_headOf a_headLeft a_pairs a_first i j ((a, b) :: S) σ := by
  obtain ⟨N, hN⟩ := hQ
  refine yu_pre H hY ha hb hS ⟨N, fun n hnN hs o1 w1 o2 w2 bd wo hda ho hl g1 g2 => ?_⟩
  obtain ⟨hv, ev, _⟩ := jn_var (jn_J H hb) hbv
  obtain ⟨_, hrv, _⟩ := hR.2 _ r hr
  have hrl := jn_lt H hrv
  have hal := jn_lt H ha
  have hrp := jy_plt (i := i) (j := j) hY.1 hY.2.1 hrl.2.1
  obtain ⟨ub, uw⟩ := (g2 _ hv).2 r hr
  have hn := hN n hnN (nI (S.length + 1)) hs _ _ _ _ bd wo hda ho hl rfl (yu_push (a := a) (b := r) g1) g2
  have hin : vp_in (nI (jn_n (J b))) 8 := vp_in_nI hv (by omega)
  have ec : (nI (jn_n (J b))).toNatClampNeg = jn_n (J b) := nI_clamp (by omega)
  refine yu_165 H ha hb (Or.inl hne) hun g2 ?_
  rw [yu_pos hbv]
  refine br_f (nI_pos (by omega)) ⟨hin, ?_⟩
  rw [ec]
  refine br_f (by rw [ub]; exact nI_pos (by omega)) ⟨hin, hin, ?_⟩
  exact yu_pend (a := a) (b := r) (i := i) (j := j) (by omega) hal.2.1 hrl.2.1 hY.1 hY.2.1 rfl rfl ub uw hn
theorem yu_205 {post : Int32 → SY → Prop} {J34 : Int32 → Int32 → Int32 → Int32 → Int32 → Int32 → Int32 → Int32 → Int32 → Int32 → Int32 → Int32 → Int32 → Int32 → (Nat → Int32) → (Nat → Int32) → (Nat → Int32) → (Nat → Int32) → (Nat → Int32) → (Nat → Int32) → (Nat → Int32) → (Nat → Int32) → (Nat → Int32) → (Nat → Int32) → (Nat → Int32) → (Nat → Int32) → (Nat → Int32) → (Nat → Int32) → (Nat → Int32) → (Nat → Int32) → (Nat → Int32) → (Nat → Int32) → (Nat → Int32) → (Nat → Int32) → (Nat → Int32) → (Nat → Int32) → (Nat → Int32) → (Nat → Int32) → (Nat → Int32) → (Nat → Int32) → (Nat → Int32) → (Nat → Int32) → (Nat → Int32) → (Nat → Int32) → (Nat → Int32) → (Nat → Int32) → (Nat → Int32) → (Nat → Int32) → (Nat → Int32) → (Nat → Int32) → Prop} (H : jn_H J A B) {b : Nat} {x3 x4 x5 x6 x7 : Int32} (hb : jn_v A B b) (hun : ¬ J b < 8589934592 → σ (jn_n (J b)) = none) (hu : yu_s a_bound a_whose i j σ) (h : wY_unify_244 post J34 x3 x4 x5 x6 x7 (yu_v (J b)) f_place f_count f_top f_done f_open f_steps f_shownSteps f_fault f_in f_made f_old f_size f_heads f_fresh a_kind a_value a_all a_split a_toKind a_doneKind a_toValue a_doneValue a_begins a_lacks a_inKind a_leftKind a_madeKind a_oldKind a_resultKind a_inValue a_leftValue a_madeValue a_oldValue a_resultValue a_from a_to a_whole a_known a_bound a_whose a_rank a_one a_two a_oneOf a_twoOf a_headAt a_headOf a_headLeft a_pairs a_first) : wY_unify_205 post J34 x3 x4 x5 x6 x7 (yu_v (J b)) f_place f_count f_top f_done f_open f_steps f_shownSteps f_fault f_in f_made f_old f_size f_heads f_fresh a_kind a_value a_all a_split a_toKind a_doneKind a_toValue a_doneValue a_begins a_lacks a_inKind a_leftKind a_madeKind a_oldKind a_resultKind a_inValue a_leftValue a_madeValue a_oldValue a_resultValue a_from a_to a_whole a_known a_bound a_whose a_rank a_one a_two a_oneOf a_twoOf a_headAt a_headOf a_headLeft a_pairs a_first := by
  by_cases hbs : J b < 8589934592
  · have e := yu_neg hbs
    rw [e] at h ⊢
    exact br_t (by decide) h
  · obtain ⟨hv, ev, _⟩ := jn_var (jn_J H hb) hbs
    have e := yu_pos hbs
    rw [e] at h ⊢
    refine br_f (nI_pos (by omega)) ⟨vp_in_nI hv (by omega), br_t ?_ h⟩
    rw [nI_clamp (by omega), (hu _ hv).1 (hun hbs)]
    decide
theorem yu_sput {bd wo : Nat → Int32} (h : yu_s bd wo i j σ) {v q : Nat} : yu_s (upd bd v (nI (jy_p i j q))) (upd wo v (nI (jy_o q))) i j (us_put σ v q) := by
  intro w hw
  unfold us_put
  by_cases e : w = v
  · subst e
    rw [if_pos rfl, pk_us, pk_us]
    exact ⟨fun z => absurd z (by simp), fun q' z => by injection z with z; subst z; exact ⟨rfl, rfl⟩⟩
  · rw [if_neg e, pk_un e, pk_un e]
    exact h w hw
theorem yu_s4 {post : Int32 → SY → Prop} (H : jn_H J A B) (hR : us_R A B σ rk) (hY : jy_H a_kind a_value i j A B) {a b : Nat} {S : List (Nat × Nat)} (ha : jn_v A B a) (hb : jn_v A B b) (hS : S.length < 399) (hav : ¬ J a < 8589934592) (hun : σ (jn_n (J a)) = none) (hbun : ¬ J b < 8589934592 → σ (jn_n (J b)) = none) (hne : J a ≠ J b) (hF : lN (8589934592 + jn_n (J a)) ∈ us_E (us_h A B σ 8) (jn_t A B b) → ∀ (ct hs : Int32) (o1 w1 o2 w2 bd wo ha ho hl : Nat → Int32), post 0 (f_place, ct, f_top, f_done, f_open, f_steps, f_shownSteps, f_fault, f_in, f_made, f_old, f_size, hs, f_fresh, a_kind, a_value, a_all, a_split, a_toKind, a_doneKind, a_toValue, a_doneValue, a_begins, a_lacks, a_inKind, a_leftKind, a_madeKind, a_oldKind, a_resultKind, a_inValue, a_leftValue, a_madeValue, a_oldValue, a_resultValue, a_from, a_to, a_whole, a_known, bd, wo, a_rank, o1, o2, w1, w2, ha, ho, hl, a_pairs, a_first)) (hQ : ¬ lN (8589934592 + jn_n (J a)) ∈ us_E (us_h A B σ 8) (jn_t A B b) → yu_Q post f_place f_count f_top f_done f_open f_steps f_shownSteps f_fault f_in f_made f_old f_size f_heads f_fresh a_kind a_value a_all a_split a_toKind a_doneKind a_toValue a_doneValue a_begins a_lacks a_inKind a_leftKind a_madeKind a_oldKind a_resultKind a_inValue a_leftValue a_madeValue a_oldValue a_resultValue a_from a_to a_whole a_known a_bound a_whose a_rank a_one a_two a_oneOf a_twoOf a_headAt a_headOf a_headLeft a_pairs a_first i j S (us_put σ (jn_n (J a)) b)) : yu_Q post f_place f_count f_top f_done f_open f_steps f_shownSteps f_fault f_in f_made f_old f_size f_heads f_fresh a_kind a_value a_all a_split a_toKind a_doneKind a_toValue a_doneValue a_begins a_lacks a_inKind a_leftKind a_madeKind a_oldKind a_resultKind a_inValue a_leftValue a_madeValue a_oldValue a_resultValue a_from a_to a_whole a_known a_bound a_whose a_rank a_one a_two a_oneOf a_twoOf a_headAt a_headOf a_headLeft a_pairs a_first i j ((a, b) :: S) σ := by
  obtain ⟨hv, ev, _⟩ := jn_var (jn_J H ha) hav
  have hbl := jn_lt H hb
  have hbp := jy_plt (i := i) (j := j) hY.1 hY.2.1 hbl.2.1
  have hbo := jy_o1 b
  have h0 : ¬ nI (jn_n (J a)) < 0 := nI_pos (by omega)
  have h0' : 0 ≤ nI (jn_n (J a)) := nI_pos' (by omega)
  have hin : vp_in (nI (jn_n (J a))) 8 := vp_in_nI hv (by omega)
  have ec : (nI (jn_n (J a))).toNatClampNeg = jn_n (J a) := nI_clamp (by omega)
  by_cases hoc : lN (8589934592 + jn_n (J a)) ∈ us_E (us_h A B σ 8) (jn_t A B b)
  · refine yu_pre H hY ha hb hS ⟨0, fun n hnN hs o1 w1 o2 w2 bd wo hda ho hl g1 g2 => ?_⟩
    refine yu_165 H ha hb (Or.inl hne) (fun _ => hun) g2 (yu_205 H hb hbun g2 ?_)
    rw [yu_pos hav]
    refine br_t h0' (br_f h0 (br_f h0 (br_f h0 ?_)))
    exact yo_occurs hv H hR hY g2 hb rfl rfl rfl (fun _ hs ha ho hl => br_f (by decide) (hF hoc _ _ _ _ _ _ _ _ _ _ _)) (fun z => absurd hoc z)
  · obtain ⟨N, hN⟩ := hQ hoc
    refine yu_pre H hY ha hb hS ⟨N, fun n hnN hs o1 w1 o2 w2 bd wo hda ho hl g1 g2 => ?_⟩
    refine yu_165 H ha hb (Or.inl hne) (fun _ => hun) g2 (yu_205 H hb hbun g2 ?_)
    rw [yu_pos hav]
    refine br_t h0' (br_f h0 (br_f h0 (br_f h0 ?_)))
    refine yo_occurs hv H hR hY g2 hb rfl rfl rfl (fun z => absurd z hoc) (fun _ hs ha ho hl => br_t rfl (br_f h0 ?_))
    refine ⟨hin, nm_r (e' := upd bd (jn_n (J a)) (nI (jy_p i j b))) (by rw [ec, (tk_ns (by omega)).1]) (br_f h0 ⟨hin, nm_r (e' := upd wo (jn_n (J a)) (nI (jy_o b))) (by rw [ec, (tk_nb (by omega)).1]) ?_⟩)⟩
    exact hN n hnN _ _ _ _ _ _ _ _ _ _ _ rfl g1 (yu_sput g2)
theorem yu_s5 {post : Int32 → SY → Prop} (H : jn_H J A B) (hR : us_R A B σ rk) (hY : jy_H a_kind a_value i j A B) {a b : Nat} {S : List (Nat × Nat)} (ha : jn_v A B a) (hb : jn_v A B b) (hS : S.length < 399) (has : J a < 8589934592) (hbv : ¬ J b < 8589934592) (hun : σ (jn_n (J b)) = none) (hF : lN (8589934592 + jn_n (J b)) ∈ us_E (us_h A B σ 8) (jn_t A B a) → ∀ (ct hs : Int32) (o1 w1 o2 w2 bd wo ha ho hl : Nat → Int32), post 0 (f_place, ct, f_top, f_done, f_open, f_steps, f_shownSteps, f_fault, f_in, f_made, f_old, f_size, hs, f_fresh, a_kind, a_value, a_all, a_split, a_toKind, a_doneKind, a_toValue, a_doneValue, a_begins, a_lacks, a_inKind, a_leftKind, a_madeKind, a_oldKind, a_resultKind, a_inValue, a_leftValue, a_madeValue, a_oldValue, a_resultValue, a_from, a_to, a_whole, a_known, bd, wo, a_rank, o1, o2, w1, w2, ha, ho, hl, a_pairs, a_first)) (hQ : ¬ lN (8589934592 + jn_n (J b)) ∈ us_E (us_h A B σ 8) (jn_t A B a) → yu_Q post f_place f_count f_top f_done f_open f_steps f_shownSteps f_fault f_in f_made f_old f_size f_heads f_fresh a_kind a_value a_all a_split a_toKind a_doneKind a_toValue a_doneValue a_begins a_lacks a_inKind a_leftKind a_madeKind a_oldKind a_resultKind a_inValue a_leftValue a_madeValue a_oldValue a_resultValue a_from a_to a_whole a_known a_bound a_whose a_rank a_one a_two a_oneOf a_twoOf a_headAt a_headOf a_headLeft a_pairs a_first i j S (us_put σ (jn_n (J b)) a)) : yu_Q post f_place f_count f_top f_done f_open f_steps f_shownSteps f_fault f_in f_made f_old f_size f_heads f_fresh a_kind a_value a_all a_split a_toKind a_doneKind a_toValue a_doneValue a_begins a_lacks a_inKind a_leftKind a_madeKind a_oldKind a_resultKind a_inValue a_leftValue a_madeValue a_oldValue a_resultValue a_from a_to a_whole a_known a_bound a_whose a_rank a_one a_two a_oneOf a_twoOf a_headAt a_headOf a_headLeft a_pairs a_first i j ((a, b) :: S) σ := by
  obtain ⟨hv, ev, _⟩ := jn_var (jn_J H hb) hbv
  have hal := jn_lt H ha
  have hap := jy_plt (i := i) (j := j) hY.1 hY.2.1 hal.2.1
  have hao := jy_o1 a
  have h0 : ¬ nI (jn_n (J b)) < 0 := nI_pos (by omega)
  have hin : vp_in (nI (jn_n (J b))) 8 := vp_in_nI hv (by omega)
  have ec : (nI (jn_n (J b))).toNatClampNeg = jn_n (J b) := nI_clamp (by omega)
  have hm : (-1 : Int32) < 0 := by decide
  by_cases hoc : lN (8589934592 + jn_n (J b)) ∈ us_E (us_h A B σ 8) (jn_t A B a)
  · refine yu_pre H hY ha hb hS ⟨0, fun n hnN hs o1 w1 o2 w2 bd wo hda ho hl g1 g2 => ?_⟩
    refine yu_165 H ha hb (Or.inr has) (fun z => absurd has z) g2 (yu_205 H hb (fun _ => hun) g2 ?_)
    rw [yu_neg has, yu_pos hbv]
    refine br_f (by decide) (br_f h0 (br_t hm (br_t hm (br_t hm ?_))))
    exact yo_occurs hv H hR hY g2 ha rfl rfl rfl (fun _ hs ha ho hl => br_f (by decide) (hF hoc _ _ _ _ _ _ _ _ _ _ _)) (fun z => absurd hoc z)
  · obtain ⟨N, hN⟩ := hQ hoc
    refine yu_pre H hY ha hb hS ⟨N, fun n hnN hs o1 w1 o2 w2 bd wo hda ho hl g1 g2 => ?_⟩
    refine yu_165 H ha hb (Or.inr has) (fun z => absurd has z) g2 (yu_205 H hb (fun _ => hun) g2 ?_)
    rw [yu_neg has, yu_pos hbv]
    refine br_f (by decide) (br_f h0 (br_t hm (br_t hm (br_t hm ?_))))
    refine yo_occurs hv H hR hY g2 ha rfl rfl rfl (fun z => absurd z hoc) (fun _ hs ha ho hl => br_t rfl (br_t hm ?_))
    refine ⟨hin, nm_r (e' := upd bd (jn_n (J b)) (nI (jy_p i j a))) (by rw [ec, (tk_ns (by omega)).1]) (br_t hm ⟨hin, nm_r (e' := upd wo (jn_n (J b)) (nI (jy_o a))) (by rw [ec, (tk_nb (by omega)).1]) ?_⟩)⟩
    exact hN n hnN _ _ _ _ _ _ _ _ _ _ _ rfl g1 (yu_sput g2)
/-- two symbols -/
theorem yu_s6 {post : Int32 → SY → Prop} (H : jn_H J A B) (hY : jy_H a_kind a_value i j A B) {a b : Nat} {S : List (Nat × Nat)} (ha : jn_v A B a) (hb : jn_v A B b) (hS : S.length < 399) (has : J a < 8589934592) (hbs : J b < 8589934592) (hne : J a ≠ J b) (hF : ∀ (ct hs : Int32) (o1 w1 o2 w2 bd wo ha ho hl : Nat → Int32), post 0 (f_place, ct, f_top, f_done, f_open, f_steps, f_shownSteps, f_fault, f_in, f_made, f_old, f_size, hs, f_fresh, a_kind, a_value, a_all, a_split, a_toKind, a_doneKind, a_toValue, a_doneValue, a_begins, a_lacks, a_inKind, a_leftKind, a_madeKind, a_oldKind, a_resultKind, a_inValue, a_leftValue, a_madeValue, a_oldValue, a_resultValue, a_from, a_to, a_whole, a_known, bd, wo, a_rank, o1, o2, w1, w2, ha, ho, hl, a_pairs, a_first)) : yu_Q post f_place f_count f_top f_done f_open f_steps f_shownSteps f_fault f_in f_made f_old f_size f_heads f_fresh a_kind a_value a_all a_split a_toKind a_doneKind a_toValue a_doneValue a_begins a_lacks a_inKind a_leftKind a_madeKind a_oldKind a_resultKind a_inValue a_leftValue a_madeValue a_oldValue a_resultValue a_from a_to a_whole a_known a_bound a_whose a_rank a_one a_two a_oneOf a_twoOf a_headAt a_headOf a_headLeft a_pairs a_first i j ((a, b) :: S) σ := by
  have hal := jn_lt H ha
  have hap := jy_plt (i := i) (j := j) hY.1 hY.2.1 hal.2.1
  have hbl := jn_lt H hb
  have hbp := jy_plt (i := i) (j := j) hY.1 hY.2.1 hbl.2.1
  refine yu_pre H hY ha hb hS ⟨0, fun n hnN hs o1 w1 o2 w2 bd wo hda ho hl g1 g2 => ?_⟩
  refine yu_165 H ha hb (Or.inr has) (fun z => absurd has z) g2 (yu_205 H hb (fun z => absurd hbs z) g2 ?_)
  rw [yu_neg has, yu_neg hbs]
  obtain ⟨na, h1, e1, v1⟩ := (yu_at H hY ha).2.2 has
  obtain ⟨nb, h2, e2, v2⟩ := (yu_at H hY hb).2.2 hbs
  refine br_f (by decide) (br_t (by decide) ⟨vp_in_nI (by omega) (by omega), vp_in_nI (by omega) (by omega), br_f ?_ (hF _ _ _ _ _ _ _ _ _ _ _)⟩)
  rw [nI_clamp (by omega), nI_clamp (by omega), v1, v2, nI_eq (by omega) (by omega)]
  intro z
  exact hne (by rw [e1, e2, z])
def yu_ag (J : Nat → Int64) (A B : List Int64) (p q : Nat) (S : List (Nat × Nat)) : List (Nat × Nat) :=
  if tm_ar (J p) = 0 then S else if tm_ar (J p) = 2 then (p + 1, q + 1) :: (p + 1 + (jn_t A B (p + 1)).length, q + 1 + (jn_t A B (q + 1)).length) :: S else (p + 1, q + 1) :: S
theorem yj_end {post : Int32 → Prop} (H : jn_H J A B) (hY : jy_H a_kind a_value i j A B) {p : Nat} {x : Int32} (hx : x = nI (jy_p i j p)) (hp : jn_v A B p) (h : post (nI (jy_p i j p + (jn_t A B p).length))) : wpY_endOf post (f_place, f_count, f_top, f_done, f_open, f_steps, f_shownSteps, f_fault, f_in, f_made, f_old, f_size, f_heads, f_fresh, a_kind, a_value, a_all, a_split, a_toKind, a_doneKind, a_toValue, a_doneValue, a_begins, a_lacks, a_inKind, a_leftKind, a_madeKind, a_oldKind, a_resultKind, a_inValue, a_leftValue, a_madeValue, a_oldValue, a_resultValue, a_from, a_to, a_whole, a_known, a_bound, a_whose, a_rank, a_one, a_two, a_oneOf, a_twoOf, a_headAt, a_headOf, a_headLeft, a_pairs, a_first) x 270 := by
  subst hx
  obtain ⟨jt1, jt2, jt3⟩ := jy_term H hY hp
  obtain ⟨_, _, _, _, _, tw, _, _, _, tk, _, _⟩ := jn_tm H hp
  have ho := jy_o1 p
  have key : ∀ (a : List Int64) (m k n q : Nat), q = k + a.length → tm_w a m → jy_h a_kind a_value (jy_o p) k a → q ≤ 240 → a.length < n → post (nI q) → wY_endOf_5 post 270 f_place f_count f_top f_done f_open f_steps f_shownSteps f_fault f_in f_made f_old f_size f_heads f_fresh a_kind a_value a_all a_split a_toKind a_doneKind a_toValue a_doneValue a_begins a_lacks a_inKind a_leftKind a_madeKind a_oldKind a_resultKind a_inValue a_leftValue a_madeValue a_oldValue a_resultValue a_from a_to a_whole a_known a_bound a_whose a_rank a_one a_two a_oneOf a_twoOf a_headAt a_headOf a_headLeft a_pairs a_first n (nI m) (nI k) := by
    intro a
    induction a with
    | nil =>
      intro m k n q hq hw hh hl hn hp
      obtain ⟨n, rfl⟩ : ∃ n', n = n' + 1 := ⟨n - 1, by omega⟩
      rw [tm_w_nil] at hw
      subst hw
      have hq' : q = k := hq
      subst hq'
      exact br_t (Int32.le_refl _) (br_t (Int32.le_refl _) hp)
    | cons t a ih =>
      intro m k n q hq hw hh hl hn hp
      obtain ⟨n, rfl⟩ : ∃ n', n = n' + 1 := ⟨n - 1, by omega⟩
      rw [List.length_cons] at hq hn
      have hml := tm_w_len _ _ hw
      rw [List.length_cons] at hml
      obtain ⟨c, rfl, h1⟩ := tm_w_ne hw
      have hin : vp_in (nI k) 270 := vp_in_nI (by omega) (by omega)
      refine pk_le (c + 1) 0 (fun z => absurd z (by omega)) (fun _ => pk_le 270 k (fun z => absurd z (by omega)) (fun _ => ⟨hin, hin, ?_⟩))
      rw [nI_clamp (by omega)]
      refine jy_ar ho hh.1 (nm_r (ya_step c _) (nm_r (nI_1 k) (ih _ (k + 1) n q (by omega) h1 hh.2 hl (by omega) hp)))
  exact ⟨(jn_t A B p).length + 1, key (jn_t A B p) 1 _ _ _ rfl tw jt1 jt3 (by omega) h⟩
theorem jn_reg (H : jn_H J A B) {p : Nat} (hp : jn_v A B p) : p + (jn_t A B p).length < 30 ∨ 30 ≤ p := by
  by_cases h30 : p < 30
  · obtain ⟨_, _, _, _, _, _, _, _, _, _, z8, _⟩ := jn_tm H hp
    have := z8 h30
    obtain ⟨_, _, h3, _⟩ := H
    omega
  · omega
theorem jn_v29 (H : jn_H J A B) {p : Nat} (hp : jn_v A B p) : p ≠ 29 := by
  obtain ⟨_, _, h3, _⟩ := H
  rcases hp with h | h <;> omega
theorem yu_s7 {post : Int32 → SY → Prop} (H : jn_H J A B) (hY : jy_H a_kind a_value i j A B) {a b : Nat} {S : List (Nat × Nat)} (ha : jn_v A B a) (hb : jn_v A B b) (hS : S.length < 398) (has : J a < 8589934592) (he : J a = J b) (hQ : yu_Q post f_place f_count f_top f_done f_open f_steps f_shownSteps f_fault f_in f_made f_old f_size f_heads f_fresh a_kind a_value a_all a_split a_toKind a_doneKind a_toValue a_doneValue a_begins a_lacks a_inKind a_leftKind a_madeKind a_oldKind a_resultKind a_inValue a_leftValue a_madeValue a_oldValue a_resultValue a_from a_to a_whole a_known a_bound a_whose a_rank a_one a_two a_oneOf a_twoOf a_headAt a_headOf a_headLeft a_pairs a_first i j (yu_ag J A B a b S) σ) : yu_Q post f_place f_count f_top f_done f_open f_steps f_shownSteps f_fault f_in f_made f_old f_size f_heads f_fresh a_kind a_value a_all a_split a_toKind a_doneKind a_toValue a_doneValue a_begins a_lacks a_inKind a_leftKind a_madeKind a_oldKind a_resultKind a_inValue a_leftValue a_madeValue a_oldValue a_resultValue a_from a_to a_whole a_known a_bound a_whose a_rank a_one a_two a_oneOf a_twoOf a_headAt a_headOf a_headLeft a_pairs a_first i j ((a, b) :: S) σ := by
  have hal := jn_lt H ha
  have hap := jy_plt (i := i) (j := j) hY.1 hY.2.1 hal.2.1
  have hbl := jn_lt H hb
  have hbp := jy_plt (i := i) (j := j) hY.1 hY.2.1 hbl.2.1
  obtain ⟨N, hN⟩ := hQ
  refine yu_pre H hY ha hb (by omega) ⟨N, fun n hnN hs o1 w1 o2 w2 bd wo hda ho hl g1 g2 => ?_⟩
  refine yu_165 H ha hb (Or.inr has) (fun z => absurd has z) g2 (yu_205 H hb (fun z => absurd (by rw [← he]; exact has) z) g2 ?_)
  have hbs : J b < 8589934592 := by rw [← he]; exact has
  rw [yu_neg has, yu_neg hbs]
  obtain ⟨na, h1, e1, v1⟩ := (yu_at H hY ha).2.2 has
  obtain ⟨nb, h2, e2, v2⟩ := (yu_at H hY hb).2.2 hbs
  have enb : na = nb := by rw [he, e2, pk_lEQ (by omega) (by omega)] at e1; exact e1.symm
  have hina : vp_in (nI (jy_p i j a)) 270 := vp_in_nI (by omega) (by omega)
  have hinb : vp_in (nI (jy_p i j b)) 270 := vp_in_nI (by omega) (by omega)
  have ea : (nI (jy_p i j a)).toNatClampNeg = jy_p i j a := nI_clamp (by omega)
  have eb : (nI (jy_p i j b)).toNatClampNeg = jy_p i j b := nI_clamp (by omega)
  have har := tm_ar_le (J a)
  refine br_f (by decide) (br_t (by decide) ⟨hina, hinb, br_t (by rw [ea, eb, v1, v2, enb]) ⟨hina, ?_⟩⟩)
  rw [ea, v1]
  refine tk_ar0 (Or.inl (by omega)) ?_
  have eA : (if na < 4 then 0 else if na < 12 then (if 7 ≤ na then 2 else 1) else 0) = tm_ar (J a) := by rw [e1, tk_ar_n (by omega)]
  rw [eA]
  unfold yu_ag at hN
  by_cases h0 : tm_ar (J a) = 0
  · rw [if_pos h0] at hN
    refine pk_eq (tm_ar (J a)) 2 (fun z => absurd z (by omega)) (fun _ => pk_le (tm_ar (J a)) 0 (fun _ => ?_) (fun z => absurd z (by omega)))
    exact hN n hnN _ _ _ _ _ _ _ _ _ _ _ rfl g1 g2
  · rw [if_neg h0] at hN
    obtain ⟨pa1, pa2⟩ := jy_ps (i := i) (j := j) (jn_v29 H ha) (by omega)
    obtain ⟨pb1, pb2⟩ := jy_ps (i := i) (j := j) (jn_v29 H hb) (by omega)
    by_cases h2 : tm_ar (J a) = 2
    · rw [if_pos h2] at hN
      obtain ⟨p1, l, pt, pl, pv, pe⟩ := jn_args H ha (m := 1) h2
      obtain ⟨q1, l', qt, ql, qv, qe⟩ := jn_args H hb (m := 1) (by rw [← he]; exact h2)
      have hl0 : l ≠ [] := by intro z; rw [z, tm_w_nil] at pl; omega
      have hl0' : l' ≠ [] := by intro z; rw [z, tm_w_nil] at ql; omega
      have pv := pv hl0
      have qv := qv hl0'
      have hp1 := jn_lt H p1
      have hq1 := jn_lt H q1
      have hp2 := jn_lt H pv
      have hq2 := jn_lt H qv
      obtain ⟨ra1, ra2⟩ := jy_pa (i := i) (j := j) (p := a + 1) (jn_t A B (a + 1)).length (jn_reg H p1) (by omega)
      obtain ⟨rb1, rb2⟩ := jy_pa (i := i) (j := j) (p := b + 1) (jn_t A B (b + 1)).length (jn_reg H q1) (by omega)
      refine pk_eq (tm_ar (J a)) 2 (fun _ => ?_) (fun z => absurd h2 z)
      refine yj_end H hY (p := a + 1) (by rw [nI_1, pa1]) p1 ?_
      refine yj_end H hY (p := b + 1) (by rw [nI_1, pb1]) q1 ?_
      refine yu_pend (a := a + 1 + (jn_t A B (a + 1)).length) (b := b + 1 + (jn_t A B (b + 1)).length) (i := i) (j := j) (by omega) hp2.2.1 hq2.2.1 hY.1 hY.2.1 (by rw [ra1]) (by rw [ra2, pa2]) (by rw [rb1]) (by rw [rb2, pb2]) ?_
      refine pk_le (tm_ar (J a)) 0 (fun z => absurd z (by omega)) (fun _ => ?_)
      exact yu_pend (a := a + 1) (b := b + 1) (i := i) (j := j) (by omega) hp1.2.1 hq1.2.1 hY.1 hY.2.1 (by rw [nI_1, pa1]) (by rw [pa2]) (by rw [nI_1, pb1]) (by rw [pb2]) (hN n hnN _ _ _ _ _ _ _ _ _ _ _ rfl (yu_push (S := (_, _) :: S) (yu_push g1)) g2)
    · rw [if_neg h2] at hN
      obtain ⟨p1, l, pt, pl, pv, _⟩ := jn_args H ha (m := 0) (by omega)
      obtain ⟨q1, l', qt, ql, qv, _⟩ := jn_args H hb (m := 0) (by rw [← he]; omega)
      have hp1 := jn_lt H p1
      have hq1 := jn_lt H q1
      refine pk_eq (tm_ar (J a)) 2 (fun z => absurd z h2) (fun _ => pk_le (tm_ar (J a)) 0 (fun z => absurd z (by omega)) (fun _ => ?_))
      exact yu_pend (a := a + 1) (b := b + 1) (i := i) (j := j) (by omega) hp1.2.1 hq1.2.1 hY.1 hY.2.1 (by rw [nI_1, pa1]) (by rw [pa2]) (by rw [nI_1, pb1]) (by rw [pb2]) (hN n hnN _ _ _ _ _ _ _ _ _ _ _ rfl (yu_push g1) g2)
end
end
section
/-! the reference: unification, the whole of it -/
theorem us_f_succ {J : Nat → Int64} {σ : Nat → Option Nat} : ∀ (k p : Nat), us_f J σ (k + 1) p = us_1 J σ (us_f J σ k p)
  | 0, p => rfl
  | k + 1, p => by
    rw [us_f, us_f_succ k (us_1 J σ p)]
    rfl
section
variable {J : Nat → Int64} {A B : List Int64} {σ : Nat → Option Nat} {rk : Nat → Nat}
/-- one link on, the same end -/
theorem us_f_link (H : jn_H J A B) (hR : us_R A B σ rk) {a r : Nat} (hav : ¬ J a < 8589934592) (hr : σ (jn_n (J a)) = some r) : us_f J σ 8 r = us_f J σ 8 a := by
  obtain ⟨_, hrv, hrk⟩ := hR.2 _ r hr
  have h7 := us_fol H hR 7 r hrv (fun hn => by
    obtain ⟨l, _, _, q1, _⟩ := jn_tm H hrv
    have h1 := hrk (J r) (by rw [q1]; simp) hn
    have h2 := hR.1 (jn_n (J a))
    omega)
  have e1 : us_f J σ 8 a = us_f J σ 7 r := by
    show us_f J σ 7 (us_1 J σ a) = _
    rw [us_1_some hav hr]
  rw [e1, us_f_succ 7 r]
  by_cases hs : J (us_f J σ 7 r) < 8589934592
  · exact us_1_sym hs
  · exact us_1_none hs (h7.2 hs)
def us_mu (J : Nat → Int64) (σ : Nat → Option Nat) (rk : Nat → Nat) (p : Nat) : Nat := if ¬ J p < 8589934592 ∧ (σ (jn_n (J p))).isSome = true then rk (jn_n (J p)) + 1 else 0
theorem us_mu_r (H : jn_H J A B) (hR : us_R A B σ rk) {a r : Nat} (hav : ¬ J a < 8589934592) (hr : σ (jn_n (J a)) = some r) : us_mu J σ rk r < us_mu J σ rk a := by
  obtain ⟨_, hrv, hrk⟩ := hR.2 _ r hr
  have ea : us_mu J σ rk a = rk (jn_n (J a)) + 1 := by
    unfold us_mu
    rw [if_pos ⟨hav, by rw [hr]; rfl⟩]
  rw [ea]
  unfold us_mu
  split
  · rename_i hc
    obtain ⟨l, _, _, q1, _⟩ := jn_tm H hrv
    have := hrk (J r) (by rw [q1]; simp) hc.1
    omega
  · omega
end
section
variable {f_place f_count f_top f_done f_open f_steps f_shownSteps f_fault f_in f_made f_old f_size f_heads f_fresh : Int32} {a_kind a_value a_all a_split a_toKind a_doneKind a_toValue a_doneValue a_begins a_lacks a_inKind a_leftKind a_madeKind a_oldKind a_resultKind a_inValue a_leftValue a_madeValue a_oldValue a_resultValue a_from a_to a_whole a_known a_bound a_whose a_rank a_one a_two a_oneOf a_twoOf a_headAt a_headOf a_headLeft a_pairs a_first : Nat → Int32}
variable {J : Nat → Int64} {A B : List Int64} {σ : Nat → Option Nat} {rk : Nat → Nat} {i j : Nat}
theorem yu_ll {post : Int32 → SY → Prop} (H : jn_H J A B) (hY : jy_H a_kind a_value i j A B) : ∀ (k p : Nat) (S : List (Nat × Nat)), jn_v A B p → (jn_t A B p).length ≤ k → S.length + k ≤ 390 → yu_Q post f_place f_count f_top f_done f_open f_steps f_shownSteps f_fault f_in f_made f_old f_size f_heads f_fresh a_kind a_value a_all a_split a_toKind a_doneKind a_toValue a_doneValue a_begins a_lacks a_inKind a_leftKind a_madeKind a_oldKind a_resultKind a_inValue a_leftValue a_madeValue a_oldValue a_resultValue a_from a_to a_whole a_known a_bound a_whose a_rank a_one a_two a_oneOf a_twoOf a_headAt a_headOf a_headLeft a_pairs a_first i j S σ → yu_Q post f_place f_count f_top f_done f_open f_steps f_shownSteps f_fault f_in f_made f_old f_size f_heads f_fresh a_kind a_value a_all a_split a_toKind a_doneKind a_toValue a_doneValue a_begins a_lacks a_inKind a_leftKind a_madeKind a_oldKind a_resultKind a_inValue a_leftValue a_madeValue a_oldValue a_resultValue a_from a_to a_whole a_known a_bound a_whose a_rank a_one a_two a_oneOf a_twoOf a_headAt a_headOf a_headLeft a_pairs a_first i j ((p, p) :: S) σ := by
  intro k
  induction k with
  | zero =>
    intro p S hp hk hS hQ
    have := (jn_lt H hp).2.2.1
    omega
  | succ k ih =>
    intro p S hp hk hS hQ
    by_cases hs : J p < 8589934592
    · refine yu_s7 H hY hp hp (by omega) hs rfl ?_
      have har := tm_ar_le (J p)
      unfold yu_ag
      by_cases h0 : tm_ar (J p) = 0
      · rw [if_pos h0]; exact hQ
      · rw [if_neg h0]
        by_cases h2 : tm_ar (J p) = 2
        · rw [if_pos h2]
          obtain ⟨p1, l, pt, pl, pv, pe⟩ := jn_args H hp (m := 1) h2
          have hl0 : l ≠ [] := by intro z; rw [z, tm_w_nil] at pl; omega
          have pv := pv hl0
          have pe := pe rfl
          have hlen : (jn_t A B p).length = 1 + ((jn_t A B (p + 1)).length + l.length) := by rw [pt]; simp; omega
          rw [pe] at hlen
          have hp1 := jn_lt H p1
          have hp2 := jn_lt H pv
          refine ih (p + 1) _ p1 (by omega) (by rw [List.length_cons]; omega) ?_
          exact ih _ S pv (by omega) (by omega) hQ
        · rw [if_neg h2]
          obtain ⟨p1, l, pt, pl, pv, _⟩ := jn_args H hp (m := 0) (by omega)
          have hlen : (jn_t A B p).length = 1 + ((jn_t A B (p + 1)).length + l.length) := by rw [pt]; simp; omega
          exact ih (p + 1) S p1 (by omega) (by omega) hQ
    · exact yu_s1 H hY hp hp (by omega) hs rfl hQ
/-- both places stand for themselves -/
theorem yu_end {post : Int32 → SY → Prop} {S : List (Nat × Nat)} (H : jn_H J A B) (hR : us_R A B σ rk) (hY : jy_H a_kind a_value i j A B) (hS : S.length ≤ 126) {a b : Nat} (ha : jn_v A B a) (hb : jn_v A B b) (ma : us_mu J σ rk a = 0) (mb : us_mu J σ rk b = 0) (hF : us_st J A B σ (us_f J σ 8 a) (us_f J σ 8 b) S = none → ∀ (ct hs : Int32) (o1 w1 o2 w2 bd wo ha ho hl : Nat → Int32), post 0 (f_place, ct, f_top, f_done, f_open, f_steps, f_shownSteps, f_fault, f_in, f_made, f_old, f_size, hs, f_fresh, a_kind, a_value, a_all, a_split, a_toKind, a_doneKind, a_toValue, a_doneValue, a_begins, a_lacks, a_inKind, a_leftKind, a_madeKind, a_oldKind, a_resultKind, a_inValue, a_leftValue, a_madeValue, a_oldValue, a_resultValue, a_from, a_to, a_whole, a_known, bd, wo, a_rank, o1, o2, w1, w2, ha, ho, hl, a_pairs, a_first)) (hQ : ∀ S' σ', us_st J A B σ (us_f J σ 8 a) (us_f J σ 8 b) S = some (S', σ') → yu_Q post f_place f_count f_top f_done f_open f_steps f_shownSteps f_fault f_in f_made f_old f_size f_heads f_fresh a_kind a_value a_all a_split a_toKind a_doneKind a_toValue a_doneValue a_begins a_lacks a_inKind a_leftKind a_madeKind a_oldKind a_resultKind a_inValue a_leftValue a_madeValue a_oldValue a_resultValue a_from a_to a_whole a_known a_bound a_whose a_rank a_one a_two a_oneOf a_twoOf a_headAt a_headOf a_headLeft a_pairs a_first i j S' σ') : yu_Q post f_place f_count f_top f_done f_open f_steps f_shownSteps f_fault f_in f_made f_old f_size f_heads f_fresh a_kind a_value a_all a_split a_toKind a_doneKind a_toValue a_doneValue a_begins a_lacks a_inKind a_leftKind a_madeKind a_oldKind a_resultKind a_inValue a_leftValue a_madeValue a_oldValue a_resultValue a_from a_to a_whole a_known a_bound a_whose a_rank a_one a_two a_oneOf a_twoOf a_headAt a_headOf a_headLeft a_pairs a_first i j ((a, b) :: S) σ := by
  have un : ∀ p, us_mu J σ rk p = 0 → ¬ J p < 8589934592 → σ (jn_n (J p)) = none := by
    intro p hp hn
    cases e : σ (jn_n (J p)) with
    | none => rfl
    | some r =>
      unfold us_mu at hp
      rw [if_pos ⟨hn, by rw [e]; rfl⟩] at hp
      omega
  have fx : ∀ p, us_mu J σ rk p = 0 → us_f J σ 8 p = p := by
    intro p hp
    by_cases hs : J p < 8589934592
    · exact us_fixp (us_1_sym hs) 8
    · exact us_fixp (us_1_none hs (un p hp hs)) 8
  rw [fx a ma, fx b mb] at hF hQ
  unfold us_st at hF hQ
  by_cases hJ : J a = J b
  · rw [if_pos hJ] at hQ
    have hQ := hQ _ _ rfl
    by_cases hs : J a < 8589934592
    · by_cases hab : a = b
      · subst hab
        unfold us_ag at hQ
        rw [if_pos (Or.inl rfl)] at hQ
        have hl := (jn_lt H ha).2.2.2
        exact yu_ll H hY 30 a S ha (by omega) (by omega) hQ
      · refine yu_s7 H hY ha hb (by omega) hs hJ ?_
        have e : us_ag J A B a b S = yu_ag J A B a b S := by
          unfold us_ag yu_ag
          by_cases h0 : tm_ar (J a) = 0
          · rw [if_pos (Or.inr h0), if_pos h0]
          · rw [if_neg (by rintro (z | z); exact hab z; exact h0 z), if_neg h0]
        rw [← e]
        exact hQ
    · refine yu_s1 H hY ha hb (by omega) hs hJ ?_
      unfold us_ag at hQ
      rw [if_pos (Or.inr (jn_var (jn_J H ha) hs).2.2)] at hQ
      exact hQ
  · rw [if_neg hJ] at hF hQ
    by_cases hs : J a < 8589934592
    · rw [if_neg (fun z => z hs)] at hF hQ
      by_cases hbs : J b < 8589934592
      · rw [if_pos hbs] at hF
        exact yu_s6 H hY ha hb (by omega) hs hbs hJ (hF rfl)
      · rw [if_neg hbs] at hF hQ
        refine yu_s5 H hR hY ha hb (by omega) hs hbs (un b mb hbs) (fun hoc => ?_) (fun hno => ?_)
        · rw [if_pos hoc] at hF
          exact hF rfl
        · rw [if_neg hno] at hQ
          exact hQ _ _ rfl
    · rw [if_pos hs] at hF hQ
      refine yu_s4 H hR hY ha hb (by omega) hs (un a ma hs) (un b mb) hJ (fun hoc => ?_) (fun hno => ?_)
      · rw [if_pos hoc] at hF
        exact hF rfl
      · rw [if_neg hno] at hQ
        exact hQ _ _ rfl
theorem yu_turn {post : Int32 → SY → Prop} {S : List (Nat × Nat)} (H : jn_H J A B) (hR : us_R A B σ rk) (hY : jy_H a_kind a_value i j A B) (hS : S.length ≤ 126) : ∀ (m a b : Nat), jn_v A B a → jn_v A B b → us_mu J σ rk a + us_mu J σ rk b ≤ m → (us_st J A B σ (us_f J σ 8 a) (us_f J σ 8 b) S = none → ∀ (ct hs : Int32) (o1 w1 o2 w2 bd wo ha ho hl : Nat → Int32), post 0 (f_place, ct, f_top, f_done, f_open, f_steps, f_shownSteps, f_fault, f_in, f_made, f_old, f_size, hs, f_fresh, a_kind, a_value, a_all, a_split, a_toKind, a_doneKind, a_toValue, a_doneValue, a_begins, a_lacks, a_inKind, a_leftKind, a_madeKind, a_oldKind, a_resultKind, a_inValue, a_leftValue, a_madeValue, a_oldValue, a_resultValue, a_from, a_to, a_whole, a_known, bd, wo, a_rank, o1, o2, w1, w2, ha, ho, hl, a_pairs, a_first)) → (∀ S' σ', us_st J A B σ (us_f J σ 8 a) (us_f J σ 8 b) S = some (S', σ') → yu_Q post f_place f_count f_top f_done f_open f_steps f_shownSteps f_fault f_in f_made f_old f_size f_heads f_fresh a_kind a_value a_all a_split a_toKind a_doneKind a_toValue a_doneValue a_begins a_lacks a_inKind a_leftKind a_madeKind a_oldKind a_resultKind a_inValue a_leftValue a_madeValue a_oldValue a_resultValue a_from a_to a_whole a_known a_bound a_whose a_rank a_one a_two a_oneOf a_twoOf a_headAt a_headOf a_headLeft a_pairs a_first i j S' σ') → yu_Q post f_place f_count f_top f_done f_open f_steps f_shownSteps f_fault f_in f_made f_old f_size f_heads f_fresh a_kind a_value a_all a_split a_toKind a_doneKind a_toValue a_doneValue a_begins a_lacks a_inKind a_leftKind a_madeKind a_oldKind a_resultKind a_inValue a_leftValue a_madeValue a_oldValue a_resultValue a_from a_to a_whole a_known a_bound a_whose a_rank a_one a_two a_oneOf a_twoOf a_headAt a_headOf a_headLeft a_pairs a_first i j ((a, b) :: S) σ := by
  intro m
  induction m with
  | zero =>
    intro a b ha hb hm hF hQ
    exact yu_end H hR hY hS ha hb (by omega) (by omega) hF hQ
  | succ m ih =>
    intro a b ha hb hm hF hQ
    by_cases h0 : us_mu J σ rk a = 0 ∧ us_mu J σ rk b = 0
    · exact yu_end H hR hY hS ha hb h0.1 h0.2 hF hQ
    · by_cases hav : ¬ J a < 8589934592 ∧ (σ (jn_n (J a))).isSome = true
      · obtain ⟨r, hr⟩ := Option.isSome_iff_exists.mp hav.2
        by_cases hJ : J a = J b
        · refine yu_s1 H hY ha hb (by omega) hav.1 hJ (hQ S σ ?_)
          have e1 := us_f_link H hR hav.1 hr
          have e2 := us_f_link H hR (a := b) (by rw [← hJ]; exact hav.1) (by rw [← hJ]; exact hr)
          rw [← e1, ← e2]
          unfold us_st us_ag
          rw [if_pos rfl, if_pos (Or.inl rfl)]
        · refine yu_s2 H hR hY ha hb (by omega) hav.1 hJ hr ?_
          obtain ⟨_, hrv, _⟩ := hR.2 _ r hr
          have hlt := us_mu_r H hR hav.1 hr
          have e1 := us_f_link H hR hav.1 hr
          exact ih r b hrv hb (by omega) (by rw [e1]; exact hF) (by rw [e1]; exact hQ)
      · have hun : ¬ J a < 8589934592 → σ (jn_n (J a)) = none := fun hn => by
          cases e : σ (jn_n (J a)) with
          | none => rfl
          | some r => exact absurd ⟨hn, by rw [e]; rfl⟩ hav
        have ma0 : us_mu J σ rk a = 0 := by unfold us_mu; rw [if_neg hav]
        have hbv : ¬ J b < 8589934592 ∧ (σ (jn_n (J b))).isSome = true := by
          apply Classical.byContradiction
          intro z
          exact h0 ⟨ma0, by unfold us_mu; rw [if_neg z]⟩
        obtain ⟨r, hr⟩ := Option.isSome_iff_exists.mp hbv.2
        have hJ : J a ≠ J b := by
          intro z
          have := hun (by rw [z]; exact hbv.1)
          rw [z, hr] at this
          exact absurd this (by simp)
        refine yu_s3 H hR hY ha hb (by omega) hun hbv.1 hJ hr ?_
        obtain ⟨_, hrv, _⟩ := hR.2 _ r hr
        have hlt := us_mu_r H hR hbv.1 hr
        have e1 := us_f_link H hR hbv.1 hr
        exact ih a r ha hrv (by omega) (by rw [e1]; exact hF) (by rw [e1]; exact hQ)
theorem yu_run {post : Int32 → SY → Prop} {p0 q0 : Nat} (H : jn_H J A B) (hY : jy_H a_kind a_value i j A B) (h0 : jn_v A B p0) : ∀ (f n : Nat) (S : List (Nat × Nat)) (σ : Nat → Option Nat), us_I A B p0 q0 n S σ → n + f = 10000000 → (∀ σ', us_un J A B f S σ = some σ' → ∀ (ct hs : Int32) (o1 w1 o2 w2 bd wo ha ho hl : Nat → Int32), yu_s bd wo i j σ' → post 1 (f_place, ct, f_top, f_done, f_open, f_steps, f_shownSteps, f_fault, f_in, f_made, f_old, f_size, hs, f_fresh, a_kind, a_value, a_all, a_split, a_toKind, a_doneKind, a_toValue, a_doneValue, a_begins, a_lacks, a_inKind, a_leftKind, a_madeKind, a_oldKind, a_resultKind, a_inValue, a_leftValue, a_madeValue, a_oldValue, a_resultValue, a_from, a_to, a_whole, a_known, bd, wo, a_rank, o1, o2, w1, w2, ha, ho, hl, a_pairs, a_first)) → (us_un J A B f S σ = none → ∀ (ct hs : Int32) (o1 w1 o2 w2 bd wo ha ho hl : Nat → Int32), post 0 (f_place, ct, f_top, f_done, f_open, f_steps, f_shownSteps, f_fault, f_in, f_made, f_old, f_size, hs, f_fresh, a_kind, a_value, a_all, a_split, a_toKind, a_doneKind, a_toValue, a_doneValue, a_begins, a_lacks, a_inKind, a_leftKind, a_madeKind, a_oldKind, a_resultKind, a_inValue, a_leftValue, a_madeValue, a_oldValue, a_resultValue, a_from, a_to, a_whole, a_known, bd, wo, a_rank, o1, o2, w1, w2, ha, ho, hl, a_pairs, a_first)) → yu_Q post f_place f_count f_top f_done f_open f_steps f_shownSteps f_fault f_in f_made f_old f_size f_heads f_fresh a_kind a_value a_all a_split a_toKind a_doneKind a_toValue a_doneValue a_begins a_lacks a_inKind a_leftKind a_madeKind a_oldKind a_resultKind a_inValue a_leftValue a_madeValue a_oldValue a_resultValue a_from a_to a_whole a_known a_bound a_whose a_rank a_one a_two a_oneOf a_twoOf a_headAt a_headOf a_headLeft a_pairs a_first i j S σ := by
  intro f
  induction f with
  | zero =>
    intro n S σ hI hn Hy Hn
    cases S with
    | nil =>
      refine ⟨1, fun n hn ct hs o1 w1 o2 w2 bd wo ha ho hl hct _ hys => ?_⟩
      obtain ⟨n, rfl⟩ : ∃ n', n = n' + 1 := ⟨n - 1, by omega⟩
      subst hct
      exact br_t (by decide) (Hy σ (us_un_nil 0) _ _ _ _ _ _ _ _ _ _ _ hys)
    | cons a S =>
      obtain ⟨p, q⟩ := a
      have := (us_turns H h0 hI).1
      omega
  | succ f ih =>
    intro n S σ hI hn Hy Hn
    cases S with
    | nil =>
      refine ⟨1, fun n hn ct hs o1 w1 o2 w2 bd wo ha ho hl hct _ hys => ?_⟩
      obtain ⟨n, rfl⟩ : ∃ n', n = n' + 1 := ⟨n - 1, by omega⟩
      subst hct
      exact br_t (by decide) (Hy σ (us_un_nil _) _ _ _ _ _ _ _ _ _ _ _ hys)
    | cons a S =>
      obtain ⟨p, q⟩ := a
      have hlim := (us_turns H h0 hI).2
      rw [us_un_cons] at Hy Hn
      have hI0 := hI
      obtain ⟨⟨rk, hR⟩, hv, _⟩ := hI0
      obtain ⟨hp, hq⟩ := hv p q (List.mem_cons.mpr (Or.inl rfl))
      refine yu_turn H hR hY hlim _ p q hp hq (Nat.le_refl _) (fun e => ?_) (fun S' σ' e => ?_)
      · rw [e] at Hn
        exact Hn rfl
      · have hI' := us_pres H hI e
        rw [e] at Hy Hn
        exact ih (n + 1) S' σ' hI' (by omega) Hy Hn
theorem yu_2 {post : Int32 → SY → Prop} {x1 x2 : Int32} : ∀ (d k n : Nat) (bd : Nat → Int32), k + d = 8 → (∀ v, v < k → bd v = -1) → d < n → (∀ bd' : Nat → Int32, (∀ v, v < 8 → bd' v = -1) → wpY_pend (fun u => match u with | (f_place0, f_count0, f_top0, f_done0, f_open0, f_steps0, f_shownSteps0, f_fault0, f_in0, f_made0, f_old0, f_size0, f_heads0, f_fresh0, a_kind0, a_value0, a_all0, a_split0, a_toKind0, a_doneKind0, a_toValue0, a_doneValue0, a_begins0, a_lacks0, a_inKind0, a_leftKind0, a_madeKind0, a_oldKind0, a_resultKind0, a_inValue0, a_leftValue0, a_madeValue0, a_oldValue0, a_resultValue0, a_from0, a_to0, a_whole0, a_known0, a_bound0, a_whose0, a_rank0, a_one0, a_two0, a_oneOf0, a_twoOf0, a_headAt0, a_headOf0, a_headLeft0, a_pairs0, a_first0) => ∃ n34, wY_unify_34 post n34 f_place0 f_count0 f_top0 f_done0 f_open0 f_steps0 f_shownSteps0 f_fault0 f_in0 f_made0 f_old0 f_size0 f_heads0 f_fresh0 a_kind0 a_value0 a_all0 a_split0 a_toKind0 a_doneKind0 a_toValue0 a_doneValue0 a_begins0 a_lacks0 a_inKind0 a_leftKind0 a_madeKind0 a_oldKind0 a_resultKind0 a_inValue0 a_leftValue0 a_madeValue0 a_oldValue0 a_resultValue0 a_from0 a_to0 a_whole0 a_known0 a_bound0 a_whose0 a_rank0 a_one0 a_two0 a_oneOf0 a_twoOf0 a_headAt0 a_headOf0 a_headLeft0 a_pairs0 a_first0) (f_place, 0, f_top, f_done, f_open, f_steps, f_shownSteps, f_fault, f_in, f_made, f_old, f_size, f_heads, f_fresh, a_kind, a_value, a_all, a_split, a_toKind, a_doneKind, a_toValue, a_doneValue, a_begins, a_lacks, a_inKind, a_leftKind, a_madeKind, a_oldKind, a_resultKind, a_inValue, a_leftValue, a_madeValue, a_oldValue, a_resultValue, a_from, a_to, a_whole, a_known, bd', a_whose, a_rank, a_one, a_two, a_oneOf, a_twoOf, a_headAt, a_headOf, a_headLeft, a_pairs, a_first) x1 0 x2 1) → wY_unify_2 post x1 x2 f_place f_count f_top f_done f_open f_steps f_shownSteps f_fault f_in f_made f_old f_size f_heads f_fresh n (nI k) a_kind a_value a_all a_split a_toKind a_doneKind a_toValue a_doneValue a_begins a_lacks a_inKind a_leftKind a_madeKind a_oldKind a_resultKind a_inValue a_leftValue a_madeValue a_oldValue a_resultValue a_from a_to a_whole a_known bd a_whose a_rank a_one a_two a_oneOf a_twoOf a_headAt a_headOf a_headLeft a_pairs a_first
  | 0, k, n, bd, hk, hm, hn, H => by
    obtain ⟨n, rfl⟩ : ∃ n', n = n' + 1 := ⟨n - 1, by omega⟩
    exact pk_le 8 k (fun _ => H bd (fun v hv => hm v (by omega))) (fun z => absurd z (by omega))
  | d + 1, k, n, bd, hk, hm, hn, H => by
    obtain ⟨n, rfl⟩ : ∃ n', n = n' + 1 := ⟨n - 1, by omega⟩
    refine pk_le 8 k (fun z => absurd z (by omega)) (fun _ => ⟨vp_in_nI (by omega) (by omega), nm_r (e' := upd bd k (-1)) (by rw [nI_clamp (by omega), yf_nsm]) (nm_r (nI_1 k) ?_)⟩)
    refine yu_2 d (k + 1) n _ (by omega) (fun v hv => ?_) (by omega) H
    by_cases e : v = k
    · rw [e, pk_us]
    · rw [pk_un e]; exact hm v (by omega)
theorem yu_unify {post : Int32 → SY → Prop} {p0 f : Nat} {x y : Int32} (hf : f = 10000000) (hp : p0 < 30) (hx : x = nI (30 * i + p0)) (hy : y = nI (30 * j)) (H : jn_H J A B) (hY : jy_H a_kind a_value i j A B) (h0 : jn_v A B p0) (h1 : jn_v A B 30) (Hy : ∀ σ', us_un J A B f [(p0, 30)] (fun _ => none) = some σ' → ∀ (ct hs : Int32) (o1 w1 o2 w2 bd wo ha ho hl : Nat → Int32), yu_s bd wo i j σ' → post 1 (f_place, ct, f_top, f_done, f_open, f_steps, f_shownSteps, f_fault, f_in, f_made, f_old, f_size, hs, f_fresh, a_kind, a_value, a_all, a_split, a_toKind, a_doneKind, a_toValue, a_doneValue, a_begins, a_lacks, a_inKind, a_leftKind, a_madeKind, a_oldKind, a_resultKind, a_inValue, a_leftValue, a_madeValue, a_oldValue, a_resultValue, a_from, a_to, a_whole, a_known, bd, wo, a_rank, o1, o2, w1, w2, ha, ho, hl, a_pairs, a_first)) (Hn : us_un J A B f [(p0, 30)] (fun _ => none) = none → ∀ (ct hs : Int32) (o1 w1 o2 w2 bd wo ha ho hl : Nat → Int32), post 0 (f_place, ct, f_top, f_done, f_open, f_steps, f_shownSteps, f_fault, f_in, f_made, f_old, f_size, hs, f_fresh, a_kind, a_value, a_all, a_split, a_toKind, a_doneKind, a_toValue, a_doneValue, a_begins, a_lacks, a_inKind, a_leftKind, a_madeKind, a_oldKind, a_resultKind, a_inValue, a_leftValue, a_madeValue, a_oldValue, a_resultValue, a_from, a_to, a_whole, a_known, bd, wo, a_rank, o1, o2, w1, w2, ha, ho, hl, a_pairs, a_first)) : wpY_unify post (f_place, f_count, f_top, f_done, f_open, f_steps, f_shownSteps, f_fault, f_in, f_made, f_old, f_size, f_heads, f_fresh, a_kind, a_value, a_all, a_split, a_toKind, a_doneKind, a_toValue, a_doneValue, a_begins, a_lacks, a_inKind, a_leftKind, a_madeKind, a_oldKind, a_resultKind, a_inValue, a_leftValue, a_madeValue, a_oldValue, a_resultValue, a_from, a_to, a_whole, a_known, a_bound, a_whose, a_rank, a_one, a_two, a_oneOf, a_twoOf, a_headAt, a_headOf, a_headLeft, a_pairs, a_first) x y := by
  have hrun : yu_Q post f_place f_count f_top f_done f_open f_steps f_shownSteps f_fault f_in f_made f_old f_size f_heads f_fresh a_kind a_value a_all a_split a_toKind a_doneKind a_toValue a_doneValue a_begins a_lacks a_inKind a_leftKind a_madeKind a_oldKind a_resultKind a_inValue a_leftValue a_madeValue a_oldValue a_resultValue a_from a_to a_whole a_known a_bound a_whose a_rank a_one a_two a_oneOf a_twoOf a_headAt a_headOf a_headLeft a_pairs a_first i j [(p0, 30)] (fun _ => none) := yu_run H hY h0 f 0 [(p0, 30)] (fun _ => none) (us_I0 h0 h1) (by omega) Hy Hn
  obtain ⟨N, hN⟩ := hrun
  refine ⟨9, yu_2 8 0 9 a_bound rfl (fun v hv => absurd hv (by omega)) (by omega) (fun bd hbd => ?_)⟩
  have e1 : jy_p i j p0 = 30 * i + p0 := if_pos hp
  have e2 : jy_o p0 = 0 := if_pos hp
  have e3 : jy_p i j 30 = 30 * j := rfl
  have e4 : jy_o 30 = 1 := rfl
  refine yu_pend (a := p0) (b := 30) (k := 0) (i := i) (j := j) (by omega) (by omega) (by omega) hY.1 hY.2.1 (by rw [e1]; exact hx) (by rw [e2]; rfl) (by rw [e3]; exact hy) (by rw [e4]; rfl) ⟨N, ?_⟩
  exact hN N (Nat.le_refl _) _ _ _ _ _ _ _ _ _ _ _ rfl (yu_push (S := []) trivial) (fun v hv => ⟨fun _ => hbd v hv, fun q e => absurd e (by simp)⟩)
end
end
section
/-! names by rank; the component writes an expansion -/
def rn_s (ra : Nat → Int32) (c : Nat) (t : Int64) : (Nat → Int32) × Nat := if t < 8589934592 then (ra, c) else if 0 ≤ ra (jn_n t) then (ra, c) else (upd ra (jn_n t) (nI c), c + 1)
def rn_n (ra : Nat → Int32) (t : Int64) : Int64 := if t < 8589934592 then t else 8589934592 + (ra (jn_n t)).toInt64
def rn_l : List Int64 → (Nat → Int32) → Nat → List Int64
  | [], _, _ => []
  | t :: l, ra, c => rn_n (rn_s ra c t).1 t :: rn_l l (rn_s ra c t).1 (rn_s ra c t).2
def rn_f : List Int64 → (Nat → Int32) → Nat → (Nat → Int32) × Nat
  | [], ra, c => (ra, c)
  | t :: l, ra, c => rn_f l (rn_s ra c t).1 (rn_s ra c t).2
theorem rn_l_len : ∀ (l : List Int64) (ra : Nat → Int32) (c : Nat), (rn_l l ra c).length = l.length
  | [], _, _ => rfl
  | t :: l, ra, c => by
    show (rn_l l _ _).length + 1 = l.length + 1
    rw [rn_l_len l]
def xk_F (J : Nat → Int64) (na ne : Nat → Int32) : List (Nat × Nat × List Int64) → Prop
  | [] => True
  | (p, _, l) :: F => (na F.length = nI p ∧ ne F.length = nI (p + l.length) ∧ hd_h J p l ∧ p + l.length ≤ 60) ∧ xk_F J na ne F
theorem xk_congr {J : Nat → Int64} {na ne na' ne' : Nat → Int32} : ∀ {F : List (Nat × Nat × List Int64)}, (∀ k, k < F.length → na' k = na k ∧ ne' k = ne k) → xk_F J na ne F → xk_F J na' ne' F
  | [], _, _ => trivial
  | (p, b, l) :: F, h, hh => by
    obtain ⟨e1, e2⟩ := h F.length (by simp)
    refine ⟨⟨e1.trans hh.1.1, e2.trans hh.1.2.1, hh.1.2.2⟩, xk_congr (fun k hk => h k ?_) hh.2⟩
    rw [List.length_cons]; omega
section
variable {f_drafted f_faultPlace f_reportedSteps f_resultSize f_sheetSize f_waitingSize f_builtSize f_unfinished f_taken f_keptSize f_stacked f_ranked f_surveyed : Int32} {a_draft a_result a_lefts a_rights a_sheet a_waiting a_built a_kept a_joint : Nat → Int64} {a_leftSize a_ways a_rightSize a_unfinishedStart a_unfinishedLacks a_matchStart a_matchEnd a_unified a_oneStack a_otherStack a_nestedAt a_nestedEnd a_rank a_pairCount a_firstOpen : Nat → Int32}
variable {A B : List Int64} {σ : Nat → Option Nat} {rk : Nat → Nat}
theorem xk_name {post : Int64 → SX → Prop} {t : Int64} {c : Nat} (ht : jn_k t) (hn : ¬ t < 8589934592) (h : post (rn_n (rn_s a_rank c t).1 t) (f_drafted, f_faultPlace, f_reportedSteps, f_resultSize, f_sheetSize, f_waitingSize, f_builtSize, f_unfinished, f_taken, f_keptSize, f_stacked, nI (rn_s a_rank c t).2, f_surveyed, a_draft, a_result, a_lefts, a_leftSize, a_ways, a_rights, a_rightSize, a_sheet, a_waiting, a_built, a_unfinishedStart, a_unfinishedLacks, a_kept, a_matchStart, a_matchEnd, a_joint, a_unified, a_oneStack, a_otherStack, a_nestedAt, a_nestedEnd, (rn_s a_rank c t).1, a_pairCount, a_firstOpen)) : wpX_nameInPeak post (f_drafted, f_faultPlace, f_reportedSteps, f_resultSize, f_sheetSize, f_waitingSize, f_builtSize, f_unfinished, f_taken, f_keptSize, f_stacked, nI c, f_surveyed, a_draft, a_result, a_lefts, a_leftSize, a_ways, a_rights, a_rightSize, a_sheet, a_waiting, a_built, a_unfinishedStart, a_unfinishedLacks, a_kept, a_matchStart, a_matchEnd, a_joint, a_unified, a_oneStack, a_otherStack, a_nestedAt, a_nestedEnd, a_rank, a_pairCount, a_firstOpen) t := by
  obtain ⟨hv, _, _⟩ := jn_var ht hn
  have hin : vp_in (nI (jn_n t)) 8 := vp_in_nI hv (by omega)
  have ec : (nI (jn_n t)).toNatClampNeg = jn_n t := nI_clamp (by omega)
  refine nm_r (e' := nI (jn_n t)) (jn_and7 ht hn) ⟨hin, ?_⟩
  rw [ec]
  unfold rn_s rn_n at h
  rw [if_neg hn, if_neg hn] at h
  by_cases h0 : 0 ≤ a_rank (jn_n t)
  · rw [if_pos h0] at h
    refine br_t h0 ⟨hin, ?_⟩
    rw [ec]
    exact h
  · rw [if_neg h0] at h
    refine br_f h0 ⟨hin, nm_r (e' := upd a_rank (jn_n t) (nI c)) rfl (nm_r (nI_1 c) ⟨hin, ?_⟩)⟩
    rw [ec]
    exact h
theorem xk_l {post : SX → Prop} {ρ : Nat → List Int64} (H : jn_H a_joint A B) (hR : us_R A B σ rk) (hu : xu_s a_unified σ) (hρ : us_Es A B σ ρ) (hρ0 : ∀ v, σ v = none → ρ v = [lN (8589934592 + v)]) : ∀ (k : Nat) (F : List (Nat × Nat × List Int64)) (n fu z : Nat) (q : List Int64) (ra na ne : Nat → Int32) (c : Nat) (zs : Nat → Int64), 30 * (31 - q.length) + 2 * z + (11 - F.length) ≤ k → n + k ≤ 10000000 → k < fu → q.length ≤ 31 → z ≤ F.length → (z = F.length ∨ ∀ p b l F', F = (p, b, l) :: F' → l ≠ []) → wk_c rk 8 F → xk_F a_joint na ne F → hd_h zs 0 q →
    (∀ (ss rc : Int32) (zs : Nat → Int64) (ra' na ne : Nat → Int32), ss = nI ((q ++ rn_l (wk_e ρ F) ra c).take 31).length → hd_h zs 0 ((q ++ rn_l (wk_e ρ F) ra c).take 31) → (q.length + (wk_e ρ F).length ≤ 30 → ra' = (rn_f (wk_e ρ F) ra c).1 ∧ rc = nI (rn_f (wk_e ρ F) ra c).2) → post (f_drafted, f_faultPlace, f_reportedSteps, f_resultSize, ss, f_waitingSize, f_builtSize, f_unfinished, f_taken, f_keptSize, f_stacked, rc, f_surveyed, a_draft, a_result, a_lefts, a_leftSize, a_ways, a_rights, a_rightSize, zs, a_waiting, a_built, a_unfinishedStart, a_unfinishedLacks, a_kept, a_matchStart, a_matchEnd, a_joint, a_unified, a_oneStack, a_otherStack, na, ne, ra', a_pairCount, a_firstOpen)) →
    wX_expand_19 post fu (nI F.length) (nI n) f_drafted f_faultPlace f_reportedSteps f_resultSize (nI q.length) f_waitingSize f_builtSize f_unfinished f_taken f_keptSize f_stacked (nI c) f_surveyed a_draft a_result a_lefts a_leftSize a_ways a_rights a_rightSize zs a_waiting a_built a_unfinishedStart a_unfinishedLacks a_kept a_matchStart a_matchEnd a_joint a_unified a_oneStack a_otherStack na ne ra a_pairCount a_firstOpen := by
  intro k
  induction k with
  | zero =>
    intro F n fu z q ra na ne c zs hk hn hfu hq hz hz2 hc hF hs Hp
    have : F.length ≤ 9 := by
      cases F with
      | nil => simp
      | cons a F => obtain ⟨p, b, l⟩ := a; have := hc.1; rw [List.length_cons]; omega
    omega
  | succ k ih =>
    intro F n fu z q ra na ne c zs hk hn hfu hq hz hz2 hc hF hs Hp
    obtain ⟨fu, rfl⟩ : ∃ n', fu = n' + 1 := ⟨fu - 1, by omega⟩
    refine pk_le 10000000 n (fun z => absurd z (by omega)) (fun _ => ?_)
    cases F with
    | nil =>
      refine br_t (by decide) (Hp _ _ _ _ _ _ ?_ ?_ (fun _ => ⟨rfl, rfl⟩))
      · show nI q.length = nI ((q ++ []).take 31).length
        rw [List.append_nil, List.take_of_length_le hq]
      · show hd_h zs 0 ((q ++ []).take 31)
        rw [List.append_nil, List.take_of_length_le hq]
        exact hs
    | cons a F =>
      obtain ⟨p, b, l⟩ := a
      have hlen : ((p, b, l) :: F).length = F.length + 1 := rfl
      rw [hlen] at hk hz hz2 ⊢
      obtain ⟨c1, c2, c3, c4⟩ := hc
      obtain ⟨⟨f1, f2, f3, f4⟩, f5⟩ := hF
      refine pk_le (F.length + 1) 0 (fun z => absurd z (by omega)) (fun _ => ?_)
      refine pk_le 31 q.length (fun h31 => ?_) (fun h31 => ?_)
      · refine Hp _ _ _ _ _ _ ?_ ?_ (fun z => absurd z (by omega))
        · rw [xi_take' h31, List.take_of_length_le hq]
        · rw [xi_take' h31, List.take_of_length_le hq]; exact hs
      · have e1 : nI (F.length + 1) - 1 = nI F.length := nI_pred _
        have hin : vp_in (nI (F.length + 1) - 1) 9 := by rw [e1]; exact vp_in_nI (by omega) (by omega)
        have ec : (nI (F.length + 1) - 1).toNatClampNeg = F.length := by rw [e1]; exact nI_clamp (by omega)
        refine ⟨hin, nm_r (e' := nI p) (by rw [ec]; exact f1) ⟨hin, ?_⟩⟩
        rw [ec, f2]
        cases l with
        | nil =>
          refine pk_le (p + ([] : List Int64).length) p (fun _ => ?_) (fun z => absurd z (by simp)) rfl rfl (by simp at f4 ⊢; omega) (by simp at f4; omega)
          refine nm_r (e' := nI F.length) (pk_m1 _) (nm_r (nI_1 n) ?_)
          have hz3 : z = F.length + 1 := by
            rcases hz2 with h | h
            · exact h
            · exact absurd rfl (h p b [] F rfl)
          exact ih F (n + 1) fu (z - 1) q ra na ne c zs (by omega) (by omega) (by omega) hq (by omega) (Or.inl (by omega)) c4 f5 hs Hp
        | cons t l =>
          rw [List.length_cons] at f2 f4
          have htk := c2 t (List.mem_cons.mpr (Or.inl rfl))
          have hc2 : ∀ t, t ∈ l → jn_k t := fun x hx => c2 x (List.mem_cons.mpr (Or.inr hx))
          have hc3 : ∀ t, t ∈ l → ¬ t < 8589934592 → rk (jn_n t) < b := fun x hx => c3 x (List.mem_cons.mpr (Or.inr hx))
          refine pk_le (p + (t :: l).length) p (fun z => absurd z (by simp)) (fun _ => ?_) rfl rfl (by rw [List.length_cons]; omega) (by omega)
          refine pk_lt p 60 (fun _ => ?_) (fun z => absurd z (by omega))
          refine ⟨hin, hin, nm_r (e' := upd na F.length (nI (p + 1))) (by rw [f1, nI_1]) ⟨vp_in_nI (by omega) (by omega), nm_r (e' := t) (by rw [nI_clamp (by omega)]; exact f3.1) ?_⟩⟩
          have frame : xk_F a_joint (upd na F.length (nI (p + 1))) ne ((p + 1, b, l) :: F) := by
            refine ⟨⟨pk_us, ?_, f3.2, by omega⟩, xk_congr (fun k hk => ⟨pk_un (by omega), rfl⟩) f5⟩
            rw [f2, show p + (l.length + 1) = p + 1 + l.length by omega]
          have cond : wk_c rk 8 ((p + 1, b, l) :: F) := ⟨c1, hc2, hc3, c4⟩
          -- a token is written
          have wr : ∀ (t' : Int64) (ra1 : Nat → Int32) (c1' : Nat) (X : List Int64), wk_e ρ ((p, b, t :: l) :: F) = t :: X → X = us_E ρ l ++ wk_e ρ F → (rn_s ra c t) = (ra1, c1') → t' = rn_n ra1 t → wX_expand_185 post (wX_expand_19 post fu) (nI (F.length + 1)) (nI n) t' f_drafted f_faultPlace f_reportedSteps f_resultSize (nI q.length) f_waitingSize f_builtSize f_unfinished f_taken f_keptSize f_stacked (nI c1') f_surveyed a_draft a_result a_lefts a_leftSize a_ways a_rights a_rightSize zs a_waiting a_built a_unfinishedStart a_unfinishedLacks a_kept a_matchStart a_matchEnd a_joint a_unified a_oneStack a_otherStack (upd na F.length (nI (p + 1))) ne ra1 a_pairCount a_firstOpen := by
            intro t' ra1 c1' X eX eX2 ers et'
            refine xw_put h31 (nm_r (nI_1 n) ?_)
            have hs' : hd_h (vp_updL zs q.length t') 0 (q ++ [t']) := by
              have := hd_snocL (x := t') hs
              rwa [Nat.zero_add] at this
            have el : q.length + 1 = (q ++ [t']).length := by simp
            rw [el]
            refine ih ((p + 1, b, l) :: F) (n + 1) fu (F.length + 1) (q ++ [t']) ra1 _ ne c1' _ ?_ (by omega) (by omega) (by simp; omega) (by simp) (Or.inl (by simp)) cond frame hs' (fun ss rc zs ra' na ne h1 h2 h3 => Hp ss rc zs ra' na ne ?_ ?_ (fun hle => ?_))
            · rw [List.length_append, List.length_singleton, List.length_cons]
              have : F.length ≤ 8 := by omega
              omega
            · have e3 : q ++ rn_l (t :: X) ra c = (q ++ [t']) ++ rn_l (us_E ρ l ++ wk_e ρ F) ra1 c1' := by
                rw [rn_l, ers, ← et', eX2, List.append_assoc]; rfl
              rw [eX, e3]; exact h1
            · have e3 : q ++ rn_l (t :: X) ra c = (q ++ [t']) ++ rn_l (us_E ρ l ++ wk_e ρ F) ra1 c1' := by
                rw [rn_l, ers, ← et', eX2, List.append_assoc]; rfl
              rw [eX, e3]; exact h2
            · rw [eX, List.length_cons, eX2] at hle
              have := h3 (by
                rw [List.length_append, List.length_singleton]
                show q.length + 1 + (us_E ρ l ++ wk_e ρ F).length ≤ 30
                omega)
              rw [eX, rn_f, ers, eX2]
              exact this
          by_cases hs2 : t < 8589934592
          · refine br_f (Int64.not_le.mpr hs2) (br_t (by decide) (br_f (Int64.not_le.mpr hs2) ?_))
            refine wr t ra c (us_E ρ l ++ wk_e ρ F) ?_ rfl (by unfold rn_s; rw [if_pos hs2]) (by unfold rn_n; rw [if_pos hs2])
            show us_E ρ (t :: l) ++ wk_e ρ F = _
            rw [us_E_sym hs2]; rfl
          · obtain ⟨hv, ev, _⟩ := jn_var htk hs2
            have hb := c3 t (List.mem_cons.mpr (Or.inl rfl)) hs2
            refine br_t (Int64.not_lt.mp hs2) ?_
            rw [jn_and7 htk hs2]
            refine ⟨vp_in_nI hv (by omega), ?_⟩
            rw [nI_clamp (by omega)]
            cases e : σ (jn_n t) with
            | none =>
              rw [xu_none hu hv e]
              refine br_t (by decide) (br_t (Int64.not_lt.mp hs2) (xk_name htk hs2 ?_))
              refine wr _ _ _ (us_E ρ l ++ wk_e ρ F) ?_ rfl rfl rfl
              show us_E ρ (t :: l) ++ wk_e ρ F = _
              rw [us_E_var hs2, hρ0 _ e, ← ev]; rfl
            | some r =>
              obtain ⟨_, hr, hrk⟩ := hR.2 _ r e
              have hrl := jn_lt H hr
              obtain ⟨_, _, _, q1, _, tw, _, _, q6, tkk, _, _⟩ := jn_tm H hr
              rw [xu_some hu hv e]
              refine br_f (nI_pos (by omega)) (pk_le 9 (F.length + 1) (fun z => absurd z (by omega)) (fun _ => ?_))
              have hin9 : vp_in (nI (F.length + 1)) 9 := vp_in_nI (by omega) (by omega)
              have e9 : (nI (F.length + 1)).toNatClampNeg = F.length + 1 := nI_clamp (by omega)
              refine ⟨hin9, nm_r (e' := upd (upd na F.length (nI (p + 1))) (F.length + 1) (nI r)) (by rw [e9]) (xj_end H rfl hr ⟨hin9, nm_r (e' := upd ne (F.length + 1) (nI (r + (jn_t A B r).length))) (by rw [e9]) (nm_r (nI_1 _) (nm_r (nI_1 n) ?_))⟩)⟩
              have eE : wk_e ρ ((r, rk (jn_n t), jn_t A B r) :: (p + 1, b, l) :: F) = wk_e ρ ((p, b, t :: l) :: F) := by
                show us_E ρ (jn_t A B r) ++ (us_E ρ l ++ wk_e ρ F) = us_E ρ (t :: l) ++ wk_e ρ F
                rw [us_E_var hs2, hρ _ r e, List.append_assoc]
              rw [← eE] at Hp
              exact ih ((r, rk (jn_n t), jn_t A B r) :: (p + 1, b, l) :: F) (n + 1) fu z q ra _ _ c zs (by rw [List.length_cons, List.length_cons]; omega) (by omega) (by omega) hq (by rw [List.length_cons, List.length_cons]; omega) (Or.inr (fun p' b' l' F' e' => by injection e' with e' _; injection e' with _ e'; injection e' with _ e'; rw [← e', q1]; exact List.cons_ne_nil _ _)) ⟨by rw [List.length_cons]; omega, tkk, hrk, cond⟩ ⟨⟨pk_us, pk_us, q6, by omega⟩, xk_congr (fun k hk => ⟨pk_un (by rw [List.length_cons] at hk; omega), pk_un (by rw [List.length_cons] at hk; omega)⟩) frame⟩ hs Hp
theorem xk_expand {post : SX → Prop} {ρ : Nat → List Int64} {l q : List Int64} {x y : Int32} (p c k : Nat) (hk : k = q.length) (hx : x = nI p) (hy : y = nI (p + l.length)) (H : jn_H a_joint A B) (hR : us_R A B σ rk) (hu : xu_s a_unified σ) (hρ : us_Es A B σ ρ) (hρ0 : ∀ v, σ v = none → ρ v = [lN (8589934592 + v)]) (hl : hd_h a_joint p l) (hlk : ∀ t, t ∈ l → jn_k t) (hpl : p + l.length ≤ 60) (hq : q.length ≤ 31) (hs : hd_h a_sheet 0 q)
    (Hp : ∀ (ss rc : Int32) (zs : Nat → Int64) (ra' na ne : Nat → Int32), ss = nI ((q ++ rn_l (us_E ρ l) a_rank c).take 31).length → hd_h zs 0 ((q ++ rn_l (us_E ρ l) a_rank c).take 31) → (q.length + (us_E ρ l).length ≤ 30 → ra' = (rn_f (us_E ρ l) a_rank c).1 ∧ rc = nI (rn_f (us_E ρ l) a_rank c).2) → post (f_drafted, f_faultPlace, f_reportedSteps, f_resultSize, ss, f_waitingSize, f_builtSize, f_unfinished, f_taken, f_keptSize, f_stacked, rc, f_surveyed, a_draft, a_result, a_lefts, a_leftSize, a_ways, a_rights, a_rightSize, zs, a_waiting, a_built, a_unfinishedStart, a_unfinishedLacks, a_kept, a_matchStart, a_matchEnd, a_joint, a_unified, a_oneStack, a_otherStack, na, ne, ra', a_pairCount, a_firstOpen)) : wpX_expand post (f_drafted, f_faultPlace, f_reportedSteps, f_resultSize, nI k, f_waitingSize, f_builtSize, f_unfinished, f_taken, f_keptSize, f_stacked, nI c, f_surveyed, a_draft, a_result, a_lefts, a_leftSize, a_ways, a_rights, a_rightSize, a_sheet, a_waiting, a_built, a_unfinishedStart, a_unfinishedLacks, a_kept, a_matchStart, a_matchEnd, a_joint, a_unified, a_oneStack, a_otherStack, a_nestedAt, a_nestedEnd, a_rank, a_pairCount, a_firstOpen) x y := by
  subst hk hx hy
  have eX : wk_e ρ [(p, 8, l)] = us_E ρ l := List.append_nil _
  refine nm_e (nm_e ⟨1002, ?_⟩)
  rw [← eX] at Hp
  exact xk_l H hR hu hρ hρ0 1001 [(p, 8, l)] 0 1002 1 q a_rank _ _ c a_sheet (by simp; omega) (by omega) (by omega) hq (by simp) (Or.inl rfl) ⟨by simp, hlk, fun t _ _ => hR.1 _, trivial⟩ ⟨⟨pk_us, pk_us, hl, hpl⟩, trivial⟩ hs Hp
end
end
section
/-! the reference writes an expansion -/
def yw_v (ra : Nat → Int32) (t : Int64) : Int32 := if t < 8589934592 then nI t.toInt.toNat else 100 + ra (jn_n t)
def yw_nc (i j : Nat) (x1 : Int32) : List (Nat × Nat × List Int64) → Prop
  | [] => True
  | [(p, _, l)] => ∀ p', p ≤ p' → p' ≤ p + l.length → nI (jy_p i j p') ≠ x1
  | _ :: f :: F => yw_nc i j x1 (f :: F)
theorem yw_k1 {i j : Nat} {x1 : Int32} : ∀ p b F, yw_nc i j x1 ((p, b, []) :: F) → yw_nc i j x1 F
  | p, b, [], _ => trivial
  | p, b, f :: F, h => h
theorem yw_k2 {i j : Nat} {x1 : Int32} : ∀ p b t l F, yw_nc i j x1 ((p, b, t :: l) :: F) → yw_nc i j x1 ((p + 1, b, l) :: F)
  | p, b, t, l, [], h => fun p' h1 h2 => h p' (by omega) (by rw [List.length_cons]; omega)
  | p, b, t, l, f :: F, h => h
theorem us_h_ne {A B : List Int64} {J : Nat → Int64} {σ : Nat → Option Nat} {rk : Nat → Nat} (H : jn_H J A B) (hR : us_R A B σ rk) : ∀ (d v : Nat), us_h A B σ d v ≠ []
  | 0, v => by rw [us_h]; simp
  | d + 1, v => by
    cases e : σ v with
    | none => rw [us_h_none e]; simp
    | some q =>
      rw [us_h_some e]
      obtain ⟨l, _, _, q1, _⟩ := jn_tm H (hR.2 v q e).2.1
      rw [q1]
      by_cases hs : J q < 8589934592
      · rw [us_E_sym hs]; simp
      · rw [us_E_var hs]
        have := us_h_ne H hR d (jn_n (J q))
        simp [this]
theorem us_E_ne {ρ : Nat → List Int64} (hρ : ∀ v, ρ v ≠ []) {t : Int64} {l : List Int64} : us_E ρ (t :: l) ≠ [] := by
  by_cases hs : t < 8589934592
  · rw [us_E_sym hs]; simp
  · rw [us_E_var hs]
    have := hρ (jn_n t)
    simp [this]
theorem us_E_len {ρ : Nat → List Int64} (hρ : ∀ v, ρ v ≠ []) : ∀ (l : List Int64), l.length ≤ (us_E ρ l).length
  | [] => by simp
  | t :: l => by
    have ih := us_E_len hρ l
    by_cases hs : t < 8589934592
    · rw [us_E_sym hs, List.length_cons, List.length_cons]; omega
    · rw [us_E_var hs, List.length_append, List.length_cons]
      have : 0 < (ρ (jn_n t)).length := List.length_pos_iff.mpr (hρ _)
      omega
section
variable {f_place f_count f_top f_done f_open f_steps f_shownSteps f_fault f_in f_made f_old f_size f_heads f_fresh : Int32} {a_kind a_value a_all a_split a_toKind a_doneKind a_toValue a_doneValue a_begins a_lacks a_inKind a_leftKind a_madeKind a_oldKind a_resultKind a_inValue a_leftValue a_madeValue a_oldValue a_resultValue a_from a_to a_whole a_known a_bound a_whose a_rank a_one a_two a_oneOf a_twoOf a_headAt a_headOf a_headLeft a_pairs a_first : Nat → Int32}
variable {J : Nat → Int64} {A B : List Int64} {σ : Nat → Option Nat} {rk : Nat → Nat} {i j : Nat} {ω : Nat → Nat} {ρ : Nat → List Int64} {M : Nat}
/-- one token more -/
theorem yw_109 {post : Int32 → SY → Prop} {J8 : Int32 → Int32 → Int32 → Int32 → Int32 → Int32 → Int32 → Int32 → Int32 → Int32 → Int32 → Int32 → Int32 → Int32 → Int32 → (Nat → Int32) → (Nat → Int32) → (Nat → Int32) → (Nat → Int32) → (Nat → Int32) → (Nat → Int32) → (Nat → Int32) → (Nat → Int32) → (Nat → Int32) → (Nat → Int32) → (Nat → Int32) → (Nat → Int32) → (Nat → Int32) → (Nat → Int32) → (Nat → Int32) → (Nat → Int32) → (Nat → Int32) → (Nat → Int32) → (Nat → Int32) → (Nat → Int32) → (Nat → Int32) → (Nat → Int32) → (Nat → Int32) → (Nat → Int32) → (Nat → Int32) → (Nat → Int32) → (Nat → Int32) → (Nat → Int32) → (Nat → Int32) → (Nat → Int32) → (Nat → Int32) → (Nat → Int32) → (Nat → Int32) → (Nat → Int32) → (Nat → Int32) → (Nat → Int32) → Prop} {x1 x2 x3 : Int32} {q : List Int64} (H : jn_H J A B) (hR : us_R A B σ rk) (hY : jy_H a_kind a_value i j A B) (hu : yu_s a_bound a_whose i j σ) (hω1 : ∀ v, 1 ≤ ω v) (hω : ∀ v q, σ v = some q → us_W ω (jn_t A B q) + 2 ≤ ω v) (hρ : us_Es A B σ ρ) (hρ0 : ∀ v, σ v = none → ρ v = [lN (8589934592 + v)]) (hM : M ≤ 9) (Jv Kv : List (Nat × Nat × List Int64) → Prop) (k1 : ∀ p b F, Jv ((p, b, []) :: F) → Jv F) (k2 : ∀ p b t l F, Jv ((p, b, t :: l) :: F) → Kv ((p + 1, b, l) :: F)) (k3 : ∀ p b t l F q, Jv ((p, b, t :: l) :: F) → ¬ t < 8589934592 → σ (jn_n t) = some q → Jv ((q, rk (jn_n t), jn_t A B q) :: (p + 1, b, l) :: F)) {F : List (Nat × Nat × List Int64)} {hs : Nat} (hJ : Jv F) (hc : wk_c rk M F) (hhs : hs = F.length) (hF : yk_F a_kind a_value i j a_headAt a_headOf a_headLeft F) (hq : q.length < 31) (hik : hd_y (fun _ => 0) (yw_v a_rank) a_inKind a_inValue 0 q)
    (He : wk_e ρ F = [] → ∀ hs ha ho hl, J8 0 f_place f_count f_top f_done f_open f_steps f_shownSteps f_fault (nI q.length) f_made f_old f_size hs f_fresh a_kind a_value a_all a_split a_toKind a_doneKind a_toValue a_doneValue a_begins a_lacks a_inKind a_leftKind a_madeKind a_oldKind a_resultKind a_inValue a_leftValue a_madeValue a_oldValue a_resultValue a_from a_to a_whole a_known a_bound a_whose a_rank a_one a_two a_oneOf a_twoOf ha ho hl a_pairs a_first)
    (Hc : ∀ c X F' ha ho hl ik iv, wk_e ρ F = c :: X → wk_e ρ F' = X → wk_c rk M F' → yk_F a_kind a_value i j ha ho hl F' → Kv F' → hd_y (fun _ => 0) (yw_v a_rank) ik iv 0 (q ++ [c]) → J8 1 f_place f_count f_top f_done f_open f_steps f_shownSteps f_fault (nI (q ++ [c]).length) f_made f_old f_size (nI F'.length) f_fresh a_kind a_value a_all a_split a_toKind a_doneKind a_toValue a_doneValue a_begins a_lacks ik a_leftKind a_madeKind a_oldKind a_resultKind iv a_leftValue a_madeValue a_oldValue a_resultValue a_from a_to a_whole a_known a_bound a_whose a_rank a_one a_two a_oneOf a_twoOf ha ho hl a_pairs a_first) :
    wY_write_109 post J8 x1 x2 x3 f_place f_count f_top f_done f_open f_steps f_shownSteps f_fault (nI q.length) f_made f_old f_size (nI hs) f_fresh a_kind a_value a_all a_split a_toKind a_doneKind a_toValue a_doneValue a_begins a_lacks a_inKind a_leftKind a_madeKind a_oldKind a_resultKind a_inValue a_leftValue a_madeValue a_oldValue a_resultValue a_from a_to a_whole a_known a_bound a_whose a_rank a_one a_two a_oneOf a_twoOf a_headAt a_headOf a_headLeft a_pairs a_first := by
  subst hhs
  have hin : vp_in (nI q.length) 32 := vp_in_nI (by omega) (by omega)
  have ec : (nI q.length).toNatClampNeg = q.length := nI_clamp (by omega)
  refine yk_next H hR hY hu hω1 hω hρ hρ0 hM Jv Kv k1 k2 k3 (wk_w ω F + 1) F F.length _ _ _ hJ (by omega) hc rfl hF (fun e hs ha ho hl => ?_) (fun c X F' ha ho hl e1 e2 e3 e4 e5 hck hK => ?_)
  · exact br_t (by decide) (br_t rfl (br_t rfl (He e hs ha ho hl)))
  · have el : (q ++ [c]).length = q.length + 1 := by simp
    rcases jn_cases hck with ⟨n, h1, en, hs⟩ | ⟨v, h1, ev, hs, env, _⟩
    · have ecode : yk_code c = nI n := by unfold yk_code; rw [if_pos hs, en, pk_lT (by omega)]; rfl
      have eval : yw_v a_rank c = nI n := by unfold yw_v; rw [if_pos hs, en, pk_lT (by omega)]; rfl
      have hp := Hc c X F' ha ho hl (upd a_inKind q.length 0) (upd a_inValue q.length (nI n)) e1 e2 e3 e5 hK (by
        have := hy_snoc (dk := fun _ => 0) (dv := yw_v a_rank) (t := c) q.length (by omega) hik
        rw [eval] at this
        exact this)
      rw [el] at hp
      show ((yk_code c < 0 → _) ∧ (¬ yk_code c < 0 → _))
      rw [ecode]
      refine br_f (nI_pos (by omega)) (br_f (by decide) ⟨hin, nm_r (e' := upd a_inKind q.length 0) (by rw [ec, (tk_nar (Or.inl rfl)).1]) (br_f (by decide) (nm_r (nI_1 _) (pk_le 12 n (fun z => absurd z (by omega)) (fun _ => ⟨hin, nm_r (e' := upd a_inValue q.length (nI n)) (by rw [ec]) hp⟩))))⟩)
    · have ecode : yk_code c = nI (12 + v) := by unfold yk_code; rw [if_neg hs, env]
      have eval : yw_v a_rank c = 100 + a_rank v := by unfold yw_v; rw [if_neg hs, env]
      have hp := Hc c X F' ha ho hl (upd a_inKind q.length 0) (upd a_inValue q.length (100 + a_rank v)) e1 e2 e3 e5 hK (by
        have := hy_snoc (dk := fun _ => 0) (dv := yw_v a_rank) (t := c) q.length (by omega) hik
        rw [eval] at this
        exact this)
      rw [el] at hp
      have e12 : nI (12 + v) - 12 = nI v := by rw [show (12 : Int32) = nI 12 from rfl, pk_sub (by omega), show 12 + v - 12 = v by omega]
      show ((yk_code c < 0 → _) ∧ (¬ yk_code c < 0 → _))
      rw [ecode]
      refine br_f (nI_pos (by omega)) (br_f (by decide) ⟨hin, nm_r (e' := upd a_inKind q.length 0) (by rw [ec, (tk_nar (Or.inl rfl)).1]) (br_f (by decide) (nm_r (nI_1 _) (pk_le 12 (12 + v) (fun _ => ⟨?_, hin, nm_r (e' := upd a_inValue q.length (100 + a_rank v)) ?_ hp⟩) (fun z => absurd z (by omega)))))⟩)
      · rw [e12]; exact vp_in_nI h1 (by omega)
      · rw [ec, e12, nI_clamp (by omega)]
/-- empty lists above the lowest are left -/
theorem yw_22 {post : Int32 → SY → Prop} {J8 : Int32 → Int32 → Int32 → Int32 → Int32 → Int32 → Int32 → Int32 → Int32 → Int32 → Int32 → Int32 → Int32 → Int32 → Int32 → (Nat → Int32) → (Nat → Int32) → (Nat → Int32) → (Nat → Int32) → (Nat → Int32) → (Nat → Int32) → (Nat → Int32) → (Nat → Int32) → (Nat → Int32) → (Nat → Int32) → (Nat → Int32) → (Nat → Int32) → (Nat → Int32) → (Nat → Int32) → (Nat → Int32) → (Nat → Int32) → (Nat → Int32) → (Nat → Int32) → (Nat → Int32) → (Nat → Int32) → (Nat → Int32) → (Nat → Int32) → (Nat → Int32) → (Nat → Int32) → (Nat → Int32) → (Nat → Int32) → (Nat → Int32) → (Nat → Int32) → (Nat → Int32) → (Nat → Int32) → (Nat → Int32) → (Nat → Int32) → (Nat → Int32) → (Nat → Int32) → (Nat → Int32) → (Nat → Int32) → Prop} {x1 x2 x3 : Int32} (P : List (Nat × Nat × List Int64) → Prop) (hpop : ∀ p b f F, P ((p, b, []) :: f :: F) → P (f :: F)) : ∀ (F : List (Nat × Nat × List Int64)) (hs : Nat), hs = F.length → F.length ≤ 10 → P F → wk_c rk M F → yk_F a_kind a_value i j a_headAt a_headOf a_headLeft F → (∀ F', P F' → wk_e ρ F' = wk_e ρ F → wk_c rk M F' → yk_F a_kind a_value i j a_headAt a_headOf a_headLeft F' → (F'.length ≤ 1 ∨ ∃ p b t l f F2, F' = (p, b, t :: l) :: f :: F2) → wY_write_57 post J8 x1 x2 x3 f_place f_count f_top f_done f_open f_steps f_shownSteps f_fault f_in f_made f_old f_size (nI F'.length) f_fresh a_kind a_value a_all a_split a_toKind a_doneKind a_toValue a_doneValue a_begins a_lacks a_inKind a_leftKind a_madeKind a_oldKind a_resultKind a_inValue a_leftValue a_madeValue a_oldValue a_resultValue a_from a_to a_whole a_known a_bound a_whose a_rank a_one a_two a_oneOf a_twoOf a_headAt a_headOf a_headLeft a_pairs a_first) → ∃ n, wY_write_22 post J8 x1 x2 x3 f_place f_count f_top f_done f_open f_steps f_shownSteps f_fault f_in f_made f_old f_size f_fresh a_kind a_value a_all a_split a_toKind a_doneKind a_toValue a_doneValue a_begins a_lacks a_inKind a_leftKind a_madeKind a_oldKind a_resultKind a_inValue a_leftValue a_madeValue a_oldValue a_resultValue a_from a_to a_whole a_known a_bound a_whose a_rank a_one a_two a_oneOf a_twoOf a_headAt a_headOf a_headLeft a_pairs a_first n (nI hs)
  | [], hs, e, hl, hP, hc, hF, h => by
    subst e
    exact ⟨1, br_t (by decide) (h [] hP rfl hc hF (Or.inl (by simp)))⟩
  | [f], hs, e, hl, hP, hc, hF, h => by
    subst e
    exact ⟨1, br_t (show nI 1 ≤ 1 by decide) (h [f] hP rfl hc hF (Or.inl (by simp)))⟩
  | (p, b, l) :: f :: F, hs, e, hl, hP, hc, hF, h => by
    subst e
    have hlen : ((p, b, l) :: f :: F).length = F.length + 2 := rfl
    rw [hlen] at hl ⊢
    obtain ⟨⟨q1, q2, ⟨m, m1, m2, m3⟩, q4⟩, q5⟩ := hF
    have e1 : nI (F.length + 2) - 1 = nI (F.length + 1) := nI_pred _
    have hin : vp_in (nI (F.length + 2) - 1) 64 := by rw [e1]; exact vp_in_nI (by omega) (by omega)
    have ec : (nI (F.length + 2) - 1).toNatClampNeg = F.length + 1 := by rw [e1]; exact nI_clamp (by omega)
    have m2' : a_headLeft (F.length + 1) = nI m := m2
    cases l with
    | nil =>
      rw [tm_w_nil] at m3
      subst m3
      obtain ⟨n, hn⟩ := yw_22 P hpop (f :: F) (F.length + 1) rfl (by simp; omega) (hpop _ _ _ _ hP) hc.2.2.2 q5 (fun F' a1 a2 a3 a4 a5 => h F' a1 a2 a3 a4 a5)
      refine ⟨n + 1, pk_le (F.length + 2) 1 (fun z => absurd z (by omega)) (fun _ => ⟨hin, br_t (by rw [ec]; exact m2') (nm_r e1 hn)⟩)⟩
    | cons t l =>
      obtain ⟨k, rfl, _⟩ := tm_w_ne m3
      refine ⟨1, pk_le (F.length + 2) 1 (fun z => absurd z (by omega)) (fun _ => ⟨hin, br_f (by rw [ec, m2']; exact nI_ne0 (by omega) (by omega)) ?_⟩)⟩
      exact h _ hP rfl hc ⟨⟨q1, q2, ⟨k + 1, m1, m2, m3⟩, q4⟩, q5⟩ (Or.inr ⟨p, b, t, l, f, F, rfl⟩)
theorem yw_191 {post : Int32 → SY → Prop} {q : List Int64} (hq : q.length ≤ 31) (h : post (if q.length ≤ 30 then 1 else 0) (f_place, f_count, f_top, f_done, f_open, f_steps, f_shownSteps, f_fault, nI q.length, f_made, f_old, f_size, f_heads, f_fresh, a_kind, a_value, a_all, a_split, a_toKind, a_doneKind, a_toValue, a_doneValue, a_begins, a_lacks, a_inKind, a_leftKind, a_madeKind, a_oldKind, a_resultKind, a_inValue, a_leftValue, a_madeValue, a_oldValue, a_resultValue, a_from, a_to, a_whole, a_known, a_bound, a_whose, a_rank, a_one, a_two, a_oneOf, a_twoOf, a_headAt, a_headOf, a_headLeft, a_pairs, a_first)) : wY_write_191 post f_place f_count f_top f_done f_open f_steps f_shownSteps f_fault (nI q.length) f_made f_old f_size f_heads f_fresh a_kind a_value a_all a_split a_toKind a_doneKind a_toValue a_doneValue a_begins a_lacks a_inKind a_leftKind a_madeKind a_oldKind a_resultKind a_inValue a_leftValue a_madeValue a_oldValue a_resultValue a_from a_to a_whole a_known a_bound a_whose a_rank a_one a_two a_oneOf a_twoOf a_headAt a_headOf a_headLeft a_pairs a_first := by
  refine pk_le 31 q.length (fun h31 => ?_) (fun h31 => ?_)
  · rw [if_neg (by omega)] at h; exact h
  · rw [if_pos (by omega)] at h; exact h
/-- with no cut to come -/
theorem yw_N {post : Int32 → SY → Prop} {x1 x2 x3 : Int32} (H : jn_H J A B) (hR : us_R A B σ rk) (hY : jy_H a_kind a_value i j A B) (hu : yu_s a_bound a_whose i j σ) (hω1 : ∀ v, 1 ≤ ω v) (hω : ∀ v q, σ v = some q → us_W ω (jn_t A B q) + 2 ≤ ω v) (hρ : us_Es A B σ ρ) (hρ0 : ∀ v, σ v = none → ρ v = [lN (8589934592 + v)]) (hM : M ≤ 9) : ∀ (d : Nat) (F : List (Nat × Nat × List Int64)) (q : List Int64) (n : Nat) (mo : Int32) (ik iv ha ho hl : Nat → Int32), q.length + d = 31 → d + 1 < n → yw_nc i j x1 F → (mo = 1 ∨ (mo = 0 ∧ wk_e ρ F = [])) → wk_c rk M F → yk_F a_kind a_value i j ha ho hl F → hd_y (fun _ => 0) (yw_v a_rank) ik iv 0 q → (∀ hs ha ho hl ik iv nin, nin = nI ((q ++ wk_e ρ F).take 31).length → hd_y (fun _ => 0) (yw_v a_rank) ik iv 0 ((q ++ wk_e ρ F).take 31) → post (if (q ++ wk_e ρ F).length ≤ 30 then 1 else 0) (f_place, f_count, f_top, f_done, f_open, f_steps, f_shownSteps, f_fault, nin, f_made, f_old, f_size, hs, f_fresh, a_kind, a_value, a_all, a_split, a_toKind, a_doneKind, a_toValue, a_doneValue, a_begins, a_lacks, ik, a_leftKind, a_madeKind, a_oldKind, a_resultKind, iv, a_leftValue, a_madeValue, a_oldValue, a_resultValue, a_from, a_to, a_whole, a_known, a_bound, a_whose, a_rank, a_one, a_two, a_oneOf, a_twoOf, ha, ho, hl, a_pairs, a_first)) → wY_write_8 post x1 x2 x3 n mo f_place f_count f_top f_done f_open f_steps f_shownSteps f_fault (nI q.length) f_made f_old f_size (nI F.length) f_fresh a_kind a_value a_all a_split a_toKind a_doneKind a_toValue a_doneValue a_begins a_lacks ik a_leftKind a_madeKind a_oldKind a_resultKind iv a_leftValue a_madeValue a_oldValue a_resultValue a_from a_to a_whole a_known a_bound a_whose a_rank a_one a_two a_oneOf a_twoOf ha ho hl a_pairs a_first := by
  intro d
  induction d with
  | zero =>
    intro F q n mo ik iv ha ho hl hd hn hnc hmo hc hF hik Hp
    obtain ⟨n, rfl⟩ : ∃ n', n = n' + 1 := ⟨n - 1, by omega⟩
    have et : (q ++ wk_e ρ F).take 31 = q := by rw [xi_take' (by omega), List.take_of_length_le (by omega)]
    have fin : wY_write_191 post f_place f_count f_top f_done f_open f_steps f_shownSteps f_fault (nI q.length) f_made f_old f_size (nI F.length) f_fresh a_kind a_value a_all a_split a_toKind a_doneKind a_toValue a_doneValue a_begins a_lacks ik a_leftKind a_madeKind a_oldKind a_resultKind iv a_leftValue a_madeValue a_oldValue a_resultValue a_from a_to a_whole a_known a_bound a_whose a_rank a_one a_two a_oneOf a_twoOf ha ho hl a_pairs a_first := by
      refine yw_191 (by omega) ?_
      have := Hp (nI F.length) ha ho hl ik iv (nI q.length) (by rw [et]) (by rw [et]; exact hik)
      rw [if_neg (by rw [List.length_append]; omega)] at this
      rw [if_neg (by omega)]
      exact this
    exact br_c (fun _ => fin) (fun _ => pk_le 31 q.length (fun _ => fin) (fun z => absurd z (by omega)))
  | succ d ih =>
    intro F q n mo ik iv ha ho hl hd hn hnc hmo hc hF hik Hp
    obtain ⟨n, rfl⟩ : ∃ n', n = n' + 1 := ⟨n - 1, by omega⟩
    rcases hmo with hmo | ⟨hmo, hX⟩
    · subst hmo
      refine br_f (by decide) (pk_le 31 q.length (fun z => absurd z (by omega)) (fun _ => ?_))
      have hFl : F.length ≤ 10 := by
        cases F with
        | nil => simp
        | cons a F => obtain ⟨p, b, l⟩ := a; have := hc.1; rw [List.length_cons]; omega
      refine yw_22 (M := M) (ρ := ρ) (rk := rk) (i := i) (j := j) (yw_nc i j x1) (fun p b f F h => h) F F.length rfl hFl hnc hc hF (fun F' g1 g2 g3 g4 g5 => ?_)
      have go : wY_write_109 post (wY_write_8 post x1 x2 x3 n) x1 x2 x3 f_place f_count f_top f_done f_open f_steps f_shownSteps f_fault (nI q.length) f_made f_old f_size (nI F'.length) f_fresh a_kind a_value a_all a_split a_toKind a_doneKind a_toValue a_doneValue a_begins a_lacks ik a_leftKind a_madeKind a_oldKind a_resultKind iv a_leftValue a_madeValue a_oldValue a_resultValue a_from a_to a_whole a_known a_bound a_whose a_rank a_one a_two a_oneOf a_twoOf ha ho hl a_pairs a_first := by
        refine yw_109 H hR hY hu hω1 hω hρ hρ0 hM (yw_nc i j x1) (yw_nc i j x1) yw_k1 yw_k2 (fun p b t l F q h _ _ => yw_k2 p b t l F h) g1 g3 rfl g4 (by omega) hik (fun e hs ha ho hl => ?_) (fun c X F2 ha ho hl ik iv e1 e2 e3 e4 e5 e6 => ?_)
        · obtain ⟨n, rfl⟩ : ∃ n', n = n' + 1 := ⟨n - 1, by omega⟩
          refine br_t rfl (yw_191 (by omega) ?_)
          rw [g2] at e
          have := Hp hs ha ho hl ik iv (nI q.length) (by rw [e, List.append_nil, List.take_of_length_le (by omega)]) (by rw [e, List.append_nil, List.take_of_length_le (by omega)]; exact hik)
          rw [e, List.append_nil] at this
          exact this
        · rw [g2] at e1
          have es : q ++ wk_e ρ F = (q ++ [c]) ++ wk_e ρ F2 := by rw [e1, e2, List.append_assoc]; rfl
          rw [es] at Hp
          exact ih F2 (q ++ [c]) n 1 ik iv ha ho hl (by simp; omega) (by omega) e5 (Or.inl rfl) e3 e4 e6 Hp
      have hle : F'.length ≤ 10 := by
        cases F' with
        | nil => simp
        | cons a F' => obtain ⟨p, b, l⟩ := a; have := g3.1; rw [List.length_cons]; omega
      refine pk_eq F'.length 1 (fun h1 => ?_) (fun _ => go)
      match F', h1, g1, g4, go with
      | [(p, b, l)], _, g1, g4, go =>
        refine br_f ?_ go
        have : ha 0 = nI (jy_p i j p) := g4.1.1
        rw [this]
        exact g1 p (Nat.le_refl _) (by omega)
    · subst hmo
      refine br_t rfl (yw_191 (by omega) ?_)
      have := Hp (nI F.length) ha ho hl ik iv (nI q.length) (by rw [hX, List.append_nil, List.take_of_length_le (by omega)]) (by rw [hX, List.append_nil, List.take_of_length_le (by omega)]; exact hik)
      rw [hX, List.append_nil] at this
      exact this
end
end
section
/-! the reference writes an expansion with a part cut out; it ranks the variables -/
section
variable {f_place f_count f_top f_done f_open f_steps f_shownSteps f_fault f_in f_made f_old f_size f_heads f_fresh : Int32} {a_kind a_value a_all a_split a_toKind a_doneKind a_toValue a_doneValue a_begins a_lacks a_inKind a_leftKind a_madeKind a_oldKind a_resultKind a_inValue a_leftValue a_madeValue a_oldValue a_resultValue a_from a_to a_whole a_known a_bound a_whose a_rank a_one a_two a_oneOf a_twoOf a_headAt a_headOf a_headLeft a_pairs a_first : Nat → Int32}
variable {J : Nat → Int64} {A B : List Int64} {σ : Nat → Option Nat} {rk : Nat → Nat} {i j : Nat} {ω : Nat → Nat} {ρ : Nat → List Int64}
theorem wk_e_app {ρ : Nat → List Int64} : ∀ (G F : List (Nat × Nat × List Int64)), wk_e ρ (G ++ F) = wk_e ρ G ++ wk_e ρ F
  | [], F => rfl
  | (p, b, l) :: G, F => by
    show us_E ρ l ++ wk_e ρ (G ++ F) = us_E ρ l ++ wk_e ρ G ++ wk_e ρ F
    rw [wk_e_app G F, List.append_assoc]
def yw_J (ρ : Nat → List Int64) (A : List Int64) (p0 : Nat) (F : List (Nat × Nat × List Int64)) : Prop := ∃ G p b, F = G ++ [(p, b, A.drop p)] ∧ (p < p0 ∨ (p = p0 ∧ wk_e ρ G ≠ []))
def yw_K (A : List Int64) (p0 : Nat) (F : List (Nat × Nat × List Int64)) : Prop := ∃ G p b, F = G ++ [(p, b, A.drop p)] ∧ p ≤ p0
theorem yw_c1 {p0 : Nat} (hA : p0 < A.length) : ∀ p b F, yw_J ρ A p0 ((p, b, []) :: F) → yw_J ρ A p0 F := by
  rintro p b F ⟨G, p', b', e, h⟩
  cases G with
  | nil =>
    rw [List.nil_append] at e
    injection e with e1 e2
    injection e1 with e1 e3
    injection e3 with e3 e4
    have := congrArg List.length e4
    rw [List.length_drop] at this
    simp at this
    omega
  | cons g G =>
    rw [List.cons_append] at e
    injection e with e1 e2
    subst e1
    exact ⟨G, p', b', e2, h⟩
theorem yw_c2 {p0 : Nat} : ∀ p b t l F, yw_J ρ A p0 ((p, b, t :: l) :: F) → yw_K A p0 ((p + 1, b, l) :: F) := by
  rintro p b t l F ⟨G, p', b', e, h⟩
  cases G with
  | nil =>
    rw [List.nil_append] at e
    injection e with e1 e2
    injection e1 with e1 e3
    injection e3 with e3 e4
    subst e1 e3 e2
    have hd : A.drop (p + 1) = l := by rw [← List.drop_drop, ← e4]; rfl
    rcases h with h | h
    · exact ⟨[], p + 1, b, by rw [hd]; rfl, by omega⟩
    · exact absurd rfl h.2
  | cons g G =>
    rw [List.cons_append] at e
    injection e with e1 e2
    exact ⟨(p + 1, b, l) :: G, p', b', by rw [e2]; rfl, by omega⟩
theorem yw_c3 {p0 : Nat} (H : jn_H J A B) (hR : us_R A B σ rk) (hne : ∀ v, ρ v ≠ []) : ∀ p b t l F q, yw_J ρ A p0 ((p, b, t :: l) :: F) → ¬ t < 8589934592 → σ (jn_n t) = some q → yw_J ρ A p0 ((q, rk (jn_n t), jn_t A B q) :: (p + 1, b, l) :: F) := by
  rintro p b t l F q ⟨G, p', b', e, h⟩ hn hq
  have hE : us_E ρ (jn_t A B q) ≠ [] := by
    obtain ⟨l, _, _, q1, _⟩ := jn_tm H (hR.2 _ q hq).2.1
    rw [q1]
    exact us_E_ne hne
  cases G with
  | nil =>
    rw [List.nil_append] at e
    injection e with e1 e2
    injection e1 with e1 e3
    injection e3 with e3 e4
    subst e1 e3 e2
    have hd : A.drop (p + 1) = l := by rw [← List.drop_drop, ← e4]; rfl
    rcases h with h | h
    · refine ⟨[(q, rk (jn_n t), jn_t A B q)], p + 1, b, by rw [hd]; rfl, ?_⟩
      by_cases h2 : p + 1 < p0
      · exact Or.inl h2
      · refine Or.inr ⟨by omega, ?_⟩
        show us_E ρ (jn_t A B q) ++ [] ≠ []
        rw [List.append_nil]; exact hE
    · exact absurd rfl h.2
  | cons g G =>
    rw [List.cons_append] at e
    injection e with e1 e2
    refine ⟨(q, rk (jn_n t), jn_t A B q) :: (p + 1, b, l) :: G, p', b', by rw [e2]; rfl, ?_⟩
    have hX : wk_e ρ ((q, rk (jn_n t), jn_t A B q) :: (p + 1, b, l) :: G) ≠ [] := by
      show us_E ρ (jn_t A B q) ++ _ ≠ []
      simp [hE]
    rcases h with h | h
    · exact Or.inl h
    · exact Or.inr ⟨h.1, hX⟩
/-- what comes ahead of the cut -/
def yw_p (ρ : Nat → List Int64) (A : List Int64) (p0 : Nat) (F : List (Nat × Nat × List Int64)) (X : List Int64) : Prop := ∃ G p b, F = G ++ [(p, b, A.drop p)] ∧ p ≤ p0 ∧ X = wk_e ρ G ++ us_E ρ ((A.drop p).take (p0 - p))
theorem yw_p_e {p0 : Nat} {F : List (Nat × Nat × List Int64)} {X : List Int64} (h : yw_p ρ A p0 F X) : wk_e ρ F = X ++ us_E ρ (A.drop p0) := by
  obtain ⟨G, p, b, e, hp, eX⟩ := h
  subst e eX
  rw [wk_e_app, List.append_assoc, ← us_E_app]
  congr 1
  show us_E ρ (A.drop p) ++ [] = _
  rw [List.append_nil]
  congr 1
  have := (List.take_append_drop (p0 - p) (A.drop p)).symm
  rw [List.drop_drop, show p + (p0 - p) = p0 by omega] at this
  exact this
theorem yw_C {post : Int32 → SY → Prop} {p0 pr : Nat} {RB Z : List Int64} {x1 x2 x3 : Int32} (H : jn_H J A B) (hR : us_R A B σ rk) (hY : jy_H a_kind a_value i j A B) (hu : yu_s a_bound a_whose i j σ) (hω1 : ∀ v, 1 ≤ ω v) (hω : ∀ v q, σ v = some q → us_W ω (jn_t A B q) + 2 ≤ ω v) (hρ : us_Es A B σ ρ) (hρ0 : ∀ v, σ v = none → ρ v = [lN (8589934592 + v)]) (hne : ∀ v, ρ v ≠ []) (hp0 : p0 < A.length) (hx1 : x1 = nI (30 * i + p0)) (hx2 : x2 = nI (30 * i + (p0 + (jn_t A B p0).length))) (hpr : 30 ≤ pr) (hpr2 : pr + RB.length ≤ 60) (hx3 : x3 = nI (jy_p i j pr)) (hRB : tm_w RB 1) (hRk : ∀ t, t ∈ RB → jn_k t) (hRy : jy_h a_kind a_value 1 (jy_p i j pr) RB) (hZ : Z = us_E ρ RB ++ us_E ρ (A.drop (p0 + (jn_t A B p0).length))) : ∀ (d : Nat) (F : List (Nat × Nat × List Int64)) (q X : List Int64) (n : Nat) (ik iv ha ho hl : Nat → Int32), q.length + d = 31 → d + 1 < n → yw_p ρ A p0 F X → wk_c rk 9 F → yk_F a_kind a_value i j ha ho hl F → hd_y (fun _ => 0) (yw_v a_rank) ik iv 0 q → (∀ hs ha ho hl ik iv nin, nin = nI ((q ++ (X ++ Z)).take 31).length → hd_y (fun _ => 0) (yw_v a_rank) ik iv 0 ((q ++ (X ++ Z)).take 31) → post (if (q ++ (X ++ Z)).length ≤ 30 then 1 else 0) (f_place, f_count, f_top, f_done, f_open, f_steps, f_shownSteps, f_fault, nin, f_made, f_old, f_size, hs, f_fresh, a_kind, a_value, a_all, a_split, a_toKind, a_doneKind, a_toValue, a_doneValue, a_begins, a_lacks, ik, a_leftKind, a_madeKind, a_oldKind, a_resultKind, iv, a_leftValue, a_madeValue, a_oldValue, a_resultValue, a_from, a_to, a_whole, a_known, a_bound, a_whose, a_rank, a_one, a_two, a_oneOf, a_twoOf, ha, ho, hl, a_pairs, a_first)) → wY_write_8 post x1 x2 x3 n 1 f_place f_count f_top f_done f_open f_steps f_shownSteps f_fault (nI q.length) f_made f_old f_size (nI F.length) f_fresh a_kind a_value a_all a_split a_toKind a_doneKind a_toValue a_doneValue a_begins a_lacks ik a_leftKind a_madeKind a_oldKind a_resultKind iv a_leftValue a_madeValue a_oldValue a_resultValue a_from a_to a_whole a_known a_bound a_whose a_rank a_one a_two a_oneOf a_twoOf ha ho hl a_pairs a_first := by
  have hAl : A.length ≤ 29 := H.2.2.1
  have hv0 : jn_v A B p0 := Or.inl hp0
  intro d
  induction d with
  | zero =>
    intro F q X n ik iv ha ho hl hd hn hX hc hF hik Hp
    obtain ⟨n, rfl⟩ : ∃ n', n = n' + 1 := ⟨n - 1, by omega⟩
    have et : (q ++ (X ++ Z)).take 31 = q := by rw [xi_take' (by omega), List.take_of_length_le (by omega)]
    refine br_f (by decide) (pk_le 31 q.length (fun _ => yw_191 (by omega) ?_) (fun z => absurd z (by omega)))
    have := Hp (nI F.length) ha ho hl ik iv (nI q.length) (by rw [et]) (by rw [et]; exact hik)
    rw [if_neg (by rw [List.length_append]; omega)] at this
    rw [if_neg (by omega)]
    exact this
  | succ d ih =>
    intro F q X n ik iv ha ho hl hd hn hX hc hF hik Hp
    obtain ⟨n, rfl⟩ : ∃ n', n = n' + 1 := ⟨n - 1, by omega⟩
    refine br_f (by decide) (pk_le 31 q.length (fun z => absurd z (by omega)) (fun _ => ?_))
    have hlim : ∀ F : List (Nat × Nat × List Int64), wk_c rk 9 F → F.length ≤ 10 := by
      intro F hc
      cases F with
      | nil => simp
      | cons a F => obtain ⟨p, b, l⟩ := a; have := hc.1; rw [List.length_cons]; omega
    refine yw_22 (M := 9) (ρ := ρ) (rk := rk) (i := i) (j := j) (fun F => yw_p ρ A p0 F X) (fun p b f F h => ?_) F F.length rfl (hlim F hc) hX hc hF (fun F' g1 g2 g3 g4 g5 => ?_)
    · obtain ⟨G, p', b', e, hp, eX⟩ := h
      cases G with
      | nil => simp at e
      | cons g G =>
        rw [List.cons_append] at e
        injection e with e1 e2
        subst e1
        exact ⟨G, p', b', e2, hp, eX⟩
    · have he := yw_p_e g1
      -- a token ahead of the cut
      have go : yw_J ρ A p0 F' → wY_write_109 post (wY_write_8 post x1 x2 x3 n) x1 x2 x3 f_place f_count f_top f_done f_open f_steps f_shownSteps f_fault (nI q.length) f_made f_old f_size (nI F'.length) f_fresh a_kind a_value a_all a_split a_toKind a_doneKind a_toValue a_doneValue a_begins a_lacks ik a_leftKind a_madeKind a_oldKind a_resultKind iv a_leftValue a_madeValue a_oldValue a_resultValue a_from a_to a_whole a_known a_bound a_whose a_rank a_one a_two a_oneOf a_twoOf ha ho hl a_pairs a_first := by
        intro hJ
        refine yw_109 H hR hY hu hω1 hω hρ hρ0 (M := 9) (by omega) (yw_J ρ A p0) (yw_K A p0) (yw_c1 hp0) yw_c2 (yw_c3 H hR hne) hJ g3 rfl g4 (by omega) hik (fun e => ?_) (fun c X1 F2 ha ho hl ik iv e1 e2 e3 e4 e5 e6 => ?_)
        · rw [he] at e
          have hdr : A.drop p0 ≠ [] := by
            intro z
            have := congrArg List.length z
            rw [List.length_drop] at this
            simp at this
            omega
          cases hdd : A.drop p0 with
          | nil => exact absurd hdd hdr
          | cons t l =>
            rw [hdd] at e
            have := us_E_ne hne (t := t) (l := l)
            simp [this] at e
        · obtain ⟨G2, p2, b2, eF, hp2⟩ := e5
          have hX2 : yw_p ρ A p0 F2 (wk_e ρ G2 ++ us_E ρ ((A.drop p2).take (p0 - p2))) := ⟨G2, p2, b2, eF, hp2, rfl⟩
          have he2 := yw_p_e hX2
          rw [he] at e1
          rw [he2] at e2
          have hXc : X = c :: (wk_e ρ G2 ++ us_E ρ ((A.drop p2).take (p0 - p2))) := by
            rw [← e2, ← List.cons_append] at e1
            exact List.append_cancel_right e1
          have es : q ++ (X ++ Z) = (q ++ [c]) ++ ((wk_e ρ G2 ++ us_E ρ ((A.drop p2).take (p0 - p2))) ++ Z) := by rw [hXc, List.append_assoc]; rfl
          rw [es] at Hp
          exact ih F2 (q ++ [c]) _ n ik iv ha ho hl (by simp; omega) (by omega) hX2 e3 e4 e6 Hp
      obtain ⟨G, p, b, eF, hp, eX⟩ := g1
      cases G with
      | nil =>
        rw [List.nil_append] at eF
        subst eF
        have hh0 := g4.1
        have hat : ha 0 = nI (jy_p i j p) := hh0.1
        have hjp : jy_p i j p = 30 * i + p := if_pos (by omega)
        have hi := hY.1
        refine br_t rfl ?_
        by_cases hpp : p = p0
        · subst hpp
          obtain ⟨m, m1, m2, m3⟩ := hh0.2.2.1
          have m2' : hl 0 = nI m := m2
          obtain ⟨l, r, k, q1, q2, q3, q4, q5, q6, q7, q8, q9⟩ := jn_tm H hv0
          have hsuf : A.drop p = jn_t A B p ++ r := by
            unfold jn_s at q4
            rw [if_pos (by omega)] at q4
            exact q4
          have hrd : A.drop (p + (jn_t A B p).length) = r := by rw [← List.drop_drop, hsuf, List.drop_left]
          have hl8 := q8 (by omega)
          have hmk : m = 1 + k := tm_w_inj _ _ _ m3 (by rw [hsuf]; exact tm_w_app _ _ _ _ q3 q5)
          subst hmk
          have hn0 : ¬ nI (1 + k) ≤ 0 := nI_nle (by omega) (by omega)
          have hprj := jy_plt (i := i) (j := j) hi hY.2.1 (show pr < 60 by
            have := tm_w_len _ _ hRB
            omega)
          have hyp2 : jy_p i j (p + (jn_t A B p).length) = 30 * i + (p + (jn_t A B p).length) := if_pos (by omega)
          refine br_t (by show ha 0 = x1; rw [hat, hx1, hjp]) (br_f (by show ¬ hl 0 ≤ 0; rw [m2']; exact hn0) ?_)
          refine nm_r (e' := upd ha 0 (nI (jy_p i j (p + (jn_t A B p).length)))) (by rw [hx2, ← hyp2, (tk_ns (by rw [hyp2]; omega)).1]) (nm_r (e' := upd hl 0 (nI k)) (by rw [m2', show nI (1 + k) - 1 = nI k from by rw [Nat.add_comm]; exact nI_pred k, (tk_nb (by omega)).1]) ?_)
          refine yk_head (k := 1) (p := pr) (i := i) (j := j) (by omega) (by have := tm_w_len _ _ hRB; omega) hi hY.2.1 hx3 (by unfold jy_o; rw [if_neg (by omega), if_pos (by have := tm_w_len _ _ hRB; omega)]; rfl) ?_
          have hop : jy_o p = 0 := if_pos (by omega)
          have hopr : jy_o pr = 1 := (if_neg (by omega)).trans (if_pos (by have := tm_w_len _ _ hRB; omega))
          have hop2 : jy_o (p + (jn_t A B p).length) = 0 := if_pos (by omega)
          have hjy := hh0.2.2.2.1
          rw [hop, hjp, hsuf] at hjy
          have hjy2 := (jy_app.mp hjy).2
          have hnc : yw_nc i j x1 [(pr, 8, RB), (p + (jn_t A B p).length, 8, r)] := by
            intro p' h1 h2
            have e1 : jy_p i j p' = 30 * i + p' := if_pos (by omega)
            rw [e1, hx1]
            intro z
            have := (nI_eq (by omega) (by omega)).mp z
            have := q3
            have hl1 := tm_w_len _ _ q3
            omega
          have hrk8 : ∀ t : Int64, rk (jn_n t) < 8 := fun t => hR.1 _
          have hrk : ∀ t, t ∈ r → jn_k t := fun t ht => H.2.2.2.2.2.2.1 t (by
            have : t ∈ A.drop p := by rw [hsuf]; exact List.mem_append.mpr (Or.inr ht)
            exact List.mem_of_mem_drop this)
          have hwc : wk_c rk 9 [(pr, 8, RB), (p + (jn_t A B p).length, 8, r)] := ⟨by simp, hRk, fun t _ _ => hrk8 t, by simp, hrk, fun t _ _ => hrk8 t, trivial⟩
          have hyk : yk_F a_kind a_value i j (upd (upd ha 0 (nI (jy_p i j (p + (jn_t A B p).length)))) 1 (nI (jy_p i j pr))) (upd ho 1 (nI (jy_o pr))) (upd (upd hl 0 (nI k)) 1 (nI 1)) [(pr, 8, RB), (p + (jn_t A B p).length, 8, r)] := by
            refine ⟨⟨pk_us, pk_us, ⟨1, by omega, pk_us, hRB⟩, by rw [hopr]; exact hRy, Or.inr hpr, Or.inl hpr2⟩, ⟨?_, ?_, ⟨k, by omega, ?_, q5⟩, ?_, Or.inl (by omega), by omega⟩, trivial⟩
            · show upd (upd ha 0 _) 1 _ 0 = _
              rw [pk_un (by omega)]; exact pk_us
            · show upd ho 1 _ 0 = _
              rw [pk_un (by omega), hop2]
              have : ho 0 = nI (jy_o p) := hh0.2.1
              rw [this, hop]
            · show upd (upd hl 0 _) 1 _ 0 = _
              rw [pk_un (by omega)]; exact pk_us
            · rw [hop2, hyp2, show 30 * i + (p + (jn_t A B p).length) = 30 * i + p + (jn_t A B p).length by omega]
              exact hjy2
          have eX0 : X = [] := by
            rw [eX, show p - p = 0 by omega]
            rfl
          have eZ : wk_e ρ [(pr, 8, RB), (p + (jn_t A B p).length, 8, r)] = X ++ Z := by
            rw [eX0, hZ, hrd]
            show us_E ρ RB ++ (us_E ρ r ++ []) = _
            rw [List.append_nil]; rfl
          rw [← eZ] at Hp
          refine yw_109 H hR hY hu hω1 hω hρ hρ0 (M := 9) (by omega) (yw_nc i j x1) (yw_nc i j x1) yw_k1 yw_k2 (fun p b t l F q h _ _ => yw_k2 p b t l F h) hnc hwc rfl hyk (by omega) hik (fun e hs ha ho hl => ?_) (fun c X1 F2 ha ho hl ik iv e1 e2 e3 e4 e5 e6 => ?_)
          · obtain ⟨n, rfl⟩ : ∃ n', n = n' + 1 := ⟨n - 1, by omega⟩
            refine br_t rfl (yw_191 (by omega) ?_)
            have := Hp hs ha ho hl ik iv (nI q.length) (by rw [e, List.append_nil, List.take_of_length_le (by omega)]) (by rw [e, List.append_nil, List.take_of_length_le (by omega)]; exact hik)
            rw [e, List.append_nil] at this
            exact this
          · have es : q ++ wk_e ρ [(pr, 8, RB), (p + (jn_t A B p).length, 8, r)] = (q ++ [c]) ++ wk_e ρ F2 := by rw [e1, e2, List.append_assoc]; rfl
            rw [es] at Hp
            exact yw_N H hR hY hu hω1 hω hρ hρ0 (M := 9) (by omega) d F2 (q ++ [c]) n 1 ik iv ha ho hl (by simp; omega) (by omega) e5 (Or.inl rfl) e3 e4 e6 Hp
        · refine br_f ?_ (go ⟨[], p, b, rfl, Or.inl (by omega)⟩)
          show ¬ ha 0 = x1
          rw [hat, hx1, hjp]
          intro z
          have := (nI_eq (by omega) (by omega)).mp z
          omega
      | cons g G =>
        have hgl : F'.length = G.length + 2 := by rw [eF]; simp
        have hl10 := hlim F' g3
        refine pk_eq F'.length 1 (fun z => absurd z (by omega)) (fun _ => go ⟨g :: G, p, b, eF, ?_⟩)
        by_cases hpp : p < p0
        · exact Or.inl hpp
        · refine Or.inr ⟨by omega, ?_⟩
          rcases g5 with h | ⟨p3, b3, t3, l3, f3, F3, e3⟩
          · omega
          · rw [e3, List.cons_append] at eF
            injection eF with e4 e5
            rw [← e4]
            show us_E ρ (t3 :: l3) ++ wk_e ρ G ≠ []
            have := us_E_ne hne (t := t3) (l := l3)
            simp [this]
end
end
section
/-! ranks; the reference's first and last steps of a writing -/
def rn_c (ra : Nat → Int32) : Nat → Nat
  | 0 => 0
  | k + 1 => rn_c ra k + (if 0 ≤ ra k then 1 else 0)
def rn_ok (ra : Nat → Int32) (c : Nat) : Prop := (∀ v, v < 8 → ra v = -1 ∨ ∃ r, r < c ∧ ra v = nI r) ∧ c = rn_c ra 8
theorem rn_c_le (ra : Nat → Int32) : ∀ k, rn_c ra k ≤ k
  | 0 => Nat.le_refl _
  | k + 1 => by
    have := rn_c_le ra k
    show rn_c ra k + (if 0 ≤ ra k then 1 else 0) ≤ k + 1
    split <;> omega
theorem rn_c_upd {ra : Nat → Int32} {v : Nat} {x : Int32} (h : ¬ 0 ≤ ra v) (hx : 0 ≤ x) : ∀ k, rn_c (upd ra v x) k = rn_c ra k + (if v < k then 1 else 0)
  | 0 => by simp [rn_c]
  | k + 1 => by
    have ih := rn_c_upd h hx k
    show rn_c (upd ra v x) k + (if 0 ≤ upd ra v x k then 1 else 0) = rn_c ra k + (if 0 ≤ ra k then 1 else 0) + (if v < k + 1 then 1 else 0)
    rw [ih]
    by_cases e : k = v
    · subst e
      rw [pk_us, if_pos hx, if_neg h, if_neg (by omega), if_pos (by omega)]
    · rw [pk_un e]
      by_cases h2 : v < k
      · rw [if_pos h2, if_pos (show v < k + 1 by omega)]; omega
      · rw [if_neg h2, if_neg (show ¬ v < k + 1 by omega)]; omega
theorem rn_ok_s {ra : Nat → Int32} {c : Nat} {t : Int64} (h : rn_ok ra c) (ht : jn_k t) : rn_ok (rn_s ra c t).1 (rn_s ra c t).2 := by
  unfold rn_s
  by_cases hs : t < 8589934592
  · rw [if_pos hs]; exact h
  · rw [if_neg hs]
    by_cases h0 : 0 ≤ ra (jn_n t)
    · rw [if_pos h0]; exact h
    · rw [if_neg h0]
      have hv := (jn_var ht hs).1
      have hc8 := rn_c_le ra 8
      have hc := h.2
      refine ⟨fun v hv8 => ?_, ?_⟩
      · show upd ra (jn_n t) (nI c) v = -1 ∨ ∃ r, r < c + 1 ∧ upd ra (jn_n t) (nI c) v = nI r
        by_cases e : v = jn_n t
        · rw [e, pk_us]; exact Or.inr ⟨c, by omega, rfl⟩
        · rw [pk_un e]
          rcases h.1 v hv8 with z | ⟨r, z1, z2⟩
          · exact Or.inl z
          · exact Or.inr ⟨r, by omega, z2⟩
      · show c + 1 = rn_c (upd ra (jn_n t) (nI c)) 8
        rw [rn_c_upd h0 (nI_pos' (by omega)) 8, if_pos hv]; omega
theorem rn_ok_f : ∀ (l : List Int64) (ra : Nat → Int32) (c : Nat), rn_ok ra c → (∀ t, t ∈ l → jn_k t) → rn_ok (rn_f l ra c).1 (rn_f l ra c).2
  | [], ra, c, h, _ => h
  | t :: l, ra, c, h, hk => rn_ok_f l _ _ (rn_ok_s h (hk t (List.mem_cons.mpr (Or.inl rfl)))) (fun x hx => hk x (List.mem_cons.mpr (Or.inr hx)))
theorem rn_ok0 {ra : Nat → Int32} (h : ∀ v, v < 8 → ra v = -1) : rn_ok ra 0 := by
  refine ⟨fun v hv => Or.inl (h v hv), ?_⟩
  have : ∀ k, k ≤ 8 → rn_c ra k = 0 := by
    intro k
    induction k with
    | zero => intro _; rfl
    | succ k ih =>
      intro hk
      show rn_c ra k + (if 0 ≤ ra k then 1 else 0) = 0
      rw [ih (by omega), h k (by omega)]
      decide
  exact (this 8 (by omega)).symm
/-- a rank stays -/
theorem rn_s_stay {ra : Nat → Int32} {c : Nat} {t : Int64} {v : Nat} (h : 0 ≤ ra v) : (rn_s ra c t).1 v = ra v := by
  unfold rn_s
  by_cases hs : t < 8589934592
  · rw [if_pos hs]
  · rw [if_neg hs]
    by_cases h0 : 0 ≤ ra (jn_n t)
    · rw [if_pos h0]
    · rw [if_neg h0]
      show upd ra (jn_n t) (nI c) v = ra v
      rw [pk_un (by intro z; rw [z] at h; exact h0 h)]
theorem rn_f_stay : ∀ (l : List Int64) (ra : Nat → Int32) (c v : Nat), 0 ≤ ra v → (rn_f l ra c).1 v = ra v
  | [], ra, c, v, h => rfl
  | t :: l, ra, c, v, h => by
    have e := rn_s_stay (c := c) (t := t) h
    rw [rn_f, rn_f_stay l _ _ v (by rw [e]; exact h), e]
/-- every variable that came has a rank -/
theorem rn_f_has : ∀ (l : List Int64) (ra : Nat → Int32) (c : Nat), rn_ok ra c → (∀ t, t ∈ l → jn_k t) → ∀ t, t ∈ l → ¬ t < 8589934592 → 0 ≤ (rn_f l ra c).1 (jn_n t)
  | [], ra, c, h, hk, t, ht, hn => absurd ht (by simp)
  | s :: l, ra, c, h, hk, t, ht, hn => by
    have hks := hk s (List.mem_cons.mpr (Or.inl rfl))
    have hc8 := rn_c_le ra 8
    have hcc := h.2
    rcases List.mem_cons.mp ht with e | e
    · subst e
      have h1 : 0 ≤ (rn_s ra c t).1 (jn_n t) := by
        unfold rn_s
        rw [if_neg hn]
        by_cases h0 : 0 ≤ ra (jn_n t)
        · rw [if_pos h0]; exact h0
        · rw [if_neg h0]
          show 0 ≤ upd ra (jn_n t) (nI c) (jn_n t)
          rw [pk_us]; exact nI_pos' (by omega)
      rw [rn_f, rn_f_stay l _ _ _ h1]; exact h1
    · rw [rn_f]
      exact rn_f_has l _ _ (rn_ok_s h hks) (fun x hx => hk x (List.mem_cons.mpr (Or.inr hx))) t e hn
/-- with every variable ranked the names are a map -/
theorem rn_l_map : ∀ (l : List Int64) (ra : Nat → Int32) (c : Nat), (∀ t, t ∈ l → ¬ t < 8589934592 → 0 ≤ ra (jn_n t)) → rn_l l ra c = l.map (rn_n ra) ∧ rn_f l ra c = (ra, c)
  | [], ra, c, _ => ⟨rfl, rfl⟩
  | t :: l, ra, c, h => by
    have e : rn_s ra c t = (ra, c) := by
      unfold rn_s
      by_cases hs : t < 8589934592
      · rw [if_pos hs]
      · rw [if_neg hs, if_pos (h t (List.mem_cons.mpr (Or.inl rfl)) hs)]
    obtain ⟨i1, i2⟩ := rn_l_map l ra c (fun x hx => h x (List.mem_cons.mpr (Or.inr hx)))
    rw [rn_l, rn_f, e]
    exact ⟨by rw [List.map_cons, i1], i2⟩
theorem rn_s_congr {ra ra' : Nat → Int32} {c : Nat} {t : Int64} (ht : jn_k t) (h : ∀ v, v < 8 → ra v = ra' v) : (rn_s ra c t).2 = (rn_s ra' c t).2 ∧ ∀ v, v < 8 → (rn_s ra c t).1 v = (rn_s ra' c t).1 v := by
  unfold rn_s
  by_cases hs : t < 8589934592
  · rw [if_pos hs, if_pos hs]; exact ⟨rfl, h⟩
  · have hv := (jn_var ht hs).1
    rw [if_neg hs, if_neg hs, h _ hv]
    by_cases h0 : 0 ≤ ra' (jn_n t)
    · rw [if_pos h0, if_pos h0]; exact ⟨rfl, h⟩
    · rw [if_neg h0, if_neg h0]
      refine ⟨rfl, fun v hv8 => ?_⟩
      show upd ra (jn_n t) (nI c) v = upd ra' (jn_n t) (nI c) v
      by_cases e : v = jn_n t
      · rw [e, pk_us, pk_us]
      · rw [pk_un e, pk_un e]; exact h v hv8
theorem rn_f_congr : ∀ (l : List Int64) (ra ra' : Nat → Int32) (c : Nat), (∀ t, t ∈ l → jn_k t) → (∀ v, v < 8 → ra v = ra' v) → (rn_f l ra c).2 = (rn_f l ra' c).2 ∧ ∀ v, v < 8 → (rn_f l ra c).1 v = (rn_f l ra' c).1 v
  | [], ra, ra', c, _, h => ⟨rfl, h⟩
  | t :: l, ra, ra', c, hk, h => by
    obtain ⟨e1, e2⟩ := rn_s_congr (c := c) (hk t (List.mem_cons.mpr (Or.inl rfl))) h
    rw [rn_f, rn_f, e1]
    exact rn_f_congr l _ _ _ (fun x hx => hk x (List.mem_cons.mpr (Or.inr hx))) e2
section
variable {f_place f_count f_top f_done f_open f_steps f_shownSteps f_fault f_in f_made f_old f_size f_heads f_fresh : Int32} {a_kind a_value a_all a_split a_toKind a_doneKind a_toValue a_doneValue a_begins a_lacks a_inKind a_leftKind a_madeKind a_oldKind a_resultKind a_inValue a_leftValue a_madeValue a_oldValue a_resultValue a_from a_to a_whole a_known a_bound a_whose a_rank a_one a_two a_oneOf a_twoOf a_headAt a_headOf a_headLeft a_pairs a_first : Nat → Int32}
variable {J : Nat → Int64} {A B : List Int64} {σ : Nat → Option Nat} {rk : Nat → Nat} {i j : Nat} {ω : Nat → Nat} {ρ : Nat → List Int64}
theorem yr_28 {post : SY → Prop} {x : Int32} (H : jn_H J A B) (hR : us_R A B σ rk) (hY : jy_H a_kind a_value i j A B) (hu : yu_s a_bound a_whose i j σ) (hω1 : ∀ v, 1 ≤ ω v) (hω : ∀ v q, σ v = some q → us_W ω (jn_t A B q) + 2 ≤ ω v) (hρ : us_Es A B σ ρ) (hρ0 : ∀ v, σ v = none → ρ v = [lN (8589934592 + v)]) : ∀ (X : List Int64) (F : List (Nat × Nat × List Int64)) (c n : Nat) (ra ha ho hl : Nat → Int32), wk_e ρ F = X → X.length < n → wk_c rk 8 F → yk_F a_kind a_value i j ha ho hl F → rn_ok ra c → (∀ hs ha ho hl, post (f_place, f_count, f_top, f_done, f_open, f_steps, f_shownSteps, f_fault, f_in, f_made, f_old, f_size, hs, f_fresh, a_kind, a_value, a_all, a_split, a_toKind, a_doneKind, a_toValue, a_doneValue, a_begins, a_lacks, a_inKind, a_leftKind, a_madeKind, a_oldKind, a_resultKind, a_inValue, a_leftValue, a_madeValue, a_oldValue, a_resultValue, a_from, a_to, a_whole, a_known, a_bound, a_whose, (rn_f X ra c).1, a_one, a_two, a_oneOf, a_twoOf, ha, ho, hl, a_pairs, a_first)) → wY_rankAll_64 post (wY_rankAll_28 post n) (nI c) f_place f_count f_top f_done f_open f_steps f_shownSteps f_fault f_in f_made f_old f_size (nI F.length) f_fresh a_kind a_value a_all a_split a_toKind a_doneKind a_toValue a_doneValue a_begins a_lacks a_inKind a_leftKind a_madeKind a_oldKind a_resultKind a_inValue a_leftValue a_madeValue a_oldValue a_resultValue a_from a_to a_whole a_known a_bound a_whose ra a_one a_two a_oneOf a_twoOf ha ho hl a_pairs a_first := by
  intro X
  induction X with
  | nil =>
    intro F c n ra ha ho hl hX hn hc hF hra Hp
    obtain ⟨n, rfl⟩ : ∃ n', n = n' + 1 := ⟨n - 1, by omega⟩
    refine yk_next H hR hY hu hω1 hω hρ hρ0 (M := 8) (by omega) (fun _ => True) (fun _ => True) (fun _ _ _ _ => trivial) (fun _ _ _ _ _ _ => trivial) (fun _ _ _ _ _ _ _ _ _ => trivial) (wk_w ω F + 1) F F.length ha ho hl trivial (by omega) hc rfl hF (fun _ hs ha ho hl => br_t (by decide) (Hp hs ha ho hl)) (fun c X' F' ha ho hl e1 => ?_)
    rw [hX] at e1
    exact absurd e1 (by simp)
  | cons t X ih =>
    intro F c n ra ha ho hl hX hn hc hF hra Hp
    obtain ⟨n, rfl⟩ : ∃ n', n = n' + 1 := ⟨n - 1, by omega⟩
    rw [List.length_cons] at hn
    refine yk_next H hR hY hu hω1 hω hρ hρ0 (M := 8) (by omega) (fun _ => True) (fun _ => True) (fun _ _ _ _ => trivial) (fun _ _ _ _ _ _ => trivial) (fun _ _ _ _ _ _ _ _ _ => trivial) (wk_w ω F + 1) F F.length ha ho hl trivial (by omega) hc rfl hF (fun e => by rw [hX] at e; exact absurd e (by simp)) (fun c' X' F' ha ho hl e1 e2 e3 e4 e5 hck _ => ?_)
    rw [hX] at e1
    injection e1 with e1 e1'
    subst e1 e1'
    have hra' := rn_ok_s (c := c) hra hck
    have hc8 := rn_c_le ra 8
    have hcc := hra.2
    rw [rn_f] at Hp
    rcases jn_cases hck with ⟨n', h1, en, hs⟩ | ⟨v, h1, ev, hs, env, _⟩
    · have ecode : yk_code t = nI n' := by unfold yk_code; rw [if_pos hs, en, pk_lT (by omega)]; rfl
      have ers : rn_s ra c t = (ra, c) := by unfold rn_s; rw [if_pos hs]
      rw [ers] at Hp hra'
      rw [ecode]
      refine br_f (nI_pos (by omega)) (pk_le n' 11 (fun _ => ?_) (fun z => absurd z (by omega)))
      exact ih F' c n ra ha ho hl e2 (by omega) e3 e5 hra' Hp
    · have ecode : yk_code t = nI (12 + v) := by unfold yk_code; rw [if_neg hs, env]
      have e12 : nI (12 + v) - 12 = nI v := by rw [show (12 : Int32) = nI 12 from rfl, pk_sub (by omega), show 12 + v - 12 = v by omega]
      have hin : vp_in (nI (12 + v) - 12) 8 := by rw [e12]; exact vp_in_nI h1 (by omega)
      have ec : (nI (12 + v) - 12).toNatClampNeg = v := by rw [e12]; exact nI_clamp (by omega)
      rw [ecode]
      refine br_f (nI_pos (by omega)) (pk_le (12 + v) 11 (fun z => absurd z (by omega)) (fun _ => ⟨hin, ?_⟩))
      rw [ec]
      by_cases h0 : 0 ≤ ra v
      · have ers : rn_s ra c t = (ra, c) := by unfold rn_s; rw [if_neg hs, env, if_pos h0]
        rw [ers] at Hp hra'
        exact br_t h0 (ih F' c n ra ha ho hl e2 (by omega) e3 e5 hra' Hp)
      · have ers : rn_s ra c t = (upd ra v (nI c), c + 1) := by unfold rn_s; rw [if_neg hs, env, if_neg h0]
        rw [ers] at Hp hra'
        refine br_f h0 (nm_r (nI_1 c) ⟨hin, nm_r (e' := upd ra v (nI c)) (by rw [(tk_nb (by omega)).1]) ?_⟩)
        exact ih F' (c + 1) n (upd ra v (nI c)) ha ho hl e2 (by omega) e3 e5 hra' Hp
theorem yr_4 {post : SY → Prop} {x1 : Int32} : ∀ (d k n : Nat) (ra : Nat → Int32), k + d = 8 → (∀ v, v < k → ra v = -1) → d < n → (∀ ra' : Nat → Int32, (∀ v, v < 8 → ra' v = -1) → wpY_next (fun r u => match u with | (f_place0, f_count0, f_top0, f_done0, f_open0, f_steps0, f_shownSteps0, f_fault0, f_in0, f_made0, f_old0, f_size0, f_heads0, f_fresh0, a_kind0, a_value0, a_all0, a_split0, a_toKind0, a_doneKind0, a_toValue0, a_doneValue0, a_begins0, a_lacks0, a_inKind0, a_leftKind0, a_madeKind0, a_oldKind0, a_resultKind0, a_inValue0, a_leftValue0, a_madeValue0, a_oldValue0, a_resultValue0, a_from0, a_to0, a_whole0, a_known0, a_bound0, a_whose0, a_rank0, a_one0, a_two0, a_oneOf0, a_twoOf0, a_headAt0, a_headOf0, a_headLeft0, a_pairs0, a_first0) => ∃ n28, wY_rankAll_28 post n28 x1 r f_place0 f_count0 f_top0 f_done0 f_open0 f_steps0 f_shownSteps0 f_fault0 f_in0 f_made0 f_old0 f_size0 f_heads0 f_fresh0 a_kind0 a_value0 a_all0 a_split0 a_toKind0 a_doneKind0 a_toValue0 a_doneValue0 a_begins0 a_lacks0 a_inKind0 a_leftKind0 a_madeKind0 a_oldKind0 a_resultKind0 a_inValue0 a_leftValue0 a_madeValue0 a_oldValue0 a_resultValue0 a_from0 a_to0 a_whole0 a_known0 a_bound0 a_whose0 a_rank0 a_one0 a_two0 a_oneOf0 a_twoOf0 a_headAt0 a_headOf0 a_headLeft0 a_pairs0 a_first0) (f_place, f_count, f_top, f_done, f_open, f_steps, f_shownSteps, f_fault, f_in, f_made, f_old, f_size, f_heads, f_fresh, a_kind, a_value, a_all, a_split, a_toKind, a_doneKind, a_toValue, a_doneValue, a_begins, a_lacks, a_inKind, a_leftKind, a_madeKind, a_oldKind, a_resultKind, a_inValue, a_leftValue, a_madeValue, a_oldValue, a_resultValue, a_from, a_to, a_whole, a_known, a_bound, a_whose, ra', a_one, a_two, a_oneOf, a_twoOf, a_headAt, a_headOf, a_headLeft, a_pairs, a_first)) → wY_rankAll_4 post x1 f_place f_count f_top f_done f_open f_steps f_shownSteps f_fault f_in f_made f_old f_size f_heads f_fresh n (nI k) a_kind a_value a_all a_split a_toKind a_doneKind a_toValue a_doneValue a_begins a_lacks a_inKind a_leftKind a_madeKind a_oldKind a_resultKind a_inValue a_leftValue a_madeValue a_oldValue a_resultValue a_from a_to a_whole a_known a_bound a_whose ra a_one a_two a_oneOf a_twoOf a_headAt a_headOf a_headLeft a_pairs a_first
  | 0, k, n, ra, hk, hm, hn, H => by
    obtain ⟨n, rfl⟩ : ∃ n', n = n' + 1 := ⟨n - 1, by omega⟩
    exact pk_le 8 k (fun _ => H ra (fun v hv => hm v (by omega))) (fun z => absurd z (by omega))
  | d + 1, k, n, ra, hk, hm, hn, H => by
    obtain ⟨n, rfl⟩ : ∃ n', n = n' + 1 := ⟨n - 1, by omega⟩
    refine pk_le 8 k (fun z => absurd z (by omega)) (fun _ => ⟨vp_in_nI (by omega) (by omega), nm_r (e' := upd ra k (-1)) (by rw [nI_clamp (by omega), show vp_nar .byte (-1) = -1 by rw [vp_nar_byte]; decide]) (nm_r (nI_1 k) ?_)⟩)
    refine yr_4 d (k + 1) n _ (by omega) (fun v hv => ?_) (by omega) H
    by_cases e : v = k
    · rw [e, pk_us]
    · rw [pk_un e]; exact hm v (by omega)
theorem yr_rank {post : SY → Prop} {p : Nat} {l : List Int64} {ha ho hl : Nat → Int32} (H : jn_H J A B) (hR : us_R A B σ rk) (hY : jy_H a_kind a_value i j A B) (hu : yu_s a_bound a_whose i j σ) (hω1 : ∀ v, 1 ≤ ω v) (hω : ∀ v q, σ v = some q → us_W ω (jn_t A B q) + 2 ≤ ω v) (hρ : us_Es A B σ ρ) (hρ0 : ∀ v, σ v = none → ρ v = [lN (8589934592 + v)]) (hlk : ∀ t, t ∈ l → jn_k t) (hF : yk_F a_kind a_value i j ha ho hl [(p, 8, l)]) (Hp : ∀ (hs : Int32) (ra ha ho hl : Nat → Int32), (∃ ra0 : Nat → Int32, (∀ v, v < 8 → ra0 v = -1) ∧ ra = (rn_f (us_E ρ l) ra0 0).1) → post (f_place, f_count, f_top, f_done, f_open, f_steps, f_shownSteps, f_fault, f_in, f_made, f_old, f_size, hs, f_fresh, a_kind, a_value, a_all, a_split, a_toKind, a_doneKind, a_toValue, a_doneValue, a_begins, a_lacks, a_inKind, a_leftKind, a_madeKind, a_oldKind, a_resultKind, a_inValue, a_leftValue, a_madeValue, a_oldValue, a_resultValue, a_from, a_to, a_whole, a_known, a_bound, a_whose, ra, a_one, a_two, a_oneOf, a_twoOf, ha, ho, hl, a_pairs, a_first)) : wpY_rankAll post (f_place, f_count, f_top, f_done, f_open, f_steps, f_shownSteps, f_fault, f_in, f_made, f_old, f_size, nI 1, f_fresh, a_kind, a_value, a_all, a_split, a_toKind, a_doneKind, a_toValue, a_doneValue, a_begins, a_lacks, a_inKind, a_leftKind, a_madeKind, a_oldKind, a_resultKind, a_inValue, a_leftValue, a_madeValue, a_oldValue, a_resultValue, a_from, a_to, a_whole, a_known, a_bound, a_whose, a_rank, a_one, a_two, a_oneOf, a_twoOf, ha, ho, hl, a_pairs, a_first) := by
  have eX : wk_e ρ [(p, 8, l)] = us_E ρ l := List.append_nil _
  refine ⟨9, yr_4 8 0 9 a_rank rfl (fun v hv => absurd hv (by omega)) (by omega) (fun ra hra => ?_)⟩
  have hok := rn_ok0 hra
  refine yk_next H hR hY hu hω1 hω hρ hρ0 (M := 8) (by omega) (fun _ => True) (fun _ => True) (fun _ _ _ _ => trivial) (fun _ _ _ _ _ _ => trivial) (fun _ _ _ _ _ _ _ _ _ => trivial) (wk_w ω [(p, 8, l)] + 1) [(p, 8, l)] 1 ha ho hl trivial (by omega) ⟨by simp, hlk, fun t _ _ => hR.1 _, trivial⟩ rfl hF (fun e hs ha ho hl => ⟨1, ?_⟩) (fun t X' F' ha ho hl e1 e2 e3 e4 e5 hck _ => ⟨X'.length + 2, ?_⟩)
  · rw [eX] at e
    refine br_t (by decide) (Hp hs ra ha ho hl ⟨ra, hra, ?_⟩)
    rw [e]; rfl
  · rw [eX] at e1
    have Hp2 : ∀ hs ha ho hl, post (f_place, f_count, f_top, f_done, f_open, f_steps, f_shownSteps, f_fault, f_in, f_made, f_old, f_size, hs, f_fresh, a_kind, a_value, a_all, a_split, a_toKind, a_doneKind, a_toValue, a_doneValue, a_begins, a_lacks, a_inKind, a_leftKind, a_madeKind, a_oldKind, a_resultKind, a_inValue, a_leftValue, a_madeValue, a_oldValue, a_resultValue, a_from, a_to, a_whole, a_known, a_bound, a_whose, (rn_f X' (rn_s ra 0 t).1 (rn_s ra 0 t).2).1, a_one, a_two, a_oneOf, a_twoOf, ha, ho, hl, a_pairs, a_first) := fun hs ha ho hl => Hp hs _ ha ho hl ⟨ra, hra, by rw [e1, rn_f]⟩
    have hra' := rn_ok_s (c := 0) hok hck
    rcases jn_cases hck with ⟨n', h1, en, hs⟩ | ⟨v, h1, ev, hs, env, _⟩
    · have ecode : yk_code t = nI n' := by unfold yk_code; rw [if_pos hs, en, pk_lT (by omega)]; rfl
      have ers : rn_s ra 0 t = (ra, 0) := by unfold rn_s; rw [if_pos hs]
      rw [ers] at Hp2 hra'
      rw [ecode]
      refine br_f (nI_pos (by omega)) (pk_le n' 11 (fun _ => ?_) (fun z => absurd z (by omega)))
      rw [← nI_0]
      exact yr_28 (x := 0) H hR hY hu hω1 hω hρ hρ0 X' F' 0 _ ra ha ho hl e2 (by omega) e3 e5 hra' Hp2
    · have ecode : yk_code t = nI (12 + v) := by unfold yk_code; rw [if_neg hs, env]
      have e12 : nI (12 + v) - 12 = nI v := by rw [show (12 : Int32) = nI 12 from rfl, pk_sub (by omega), show 12 + v - 12 = v by omega]
      have hin : vp_in (nI (12 + v) - 12) 8 := by rw [e12]; exact vp_in_nI h1 (by omega)
      have ec : (nI (12 + v) - 12).toNatClampNeg = v := by rw [e12]; exact nI_clamp (by omega)
      have h0 : ¬ 0 ≤ ra v := by rw [hra v h1]; decide
      have ers : rn_s ra 0 t = (upd ra v (nI 0), 0 + 1) := by unfold rn_s; rw [if_neg hs, env, if_neg h0]
      rw [ers] at Hp2 hra'
      rw [ecode]
      refine br_f (nI_pos (by omega)) (pk_le (12 + v) 11 (fun z => absurd z (by omega)) (fun _ => ⟨hin, ?_⟩))
      rw [ec]
      refine br_f h0 (nm_r (nI_1 0) ⟨hin, nm_r (e' := upd ra v (nI 0)) (by rw [show vp_nar .byte ((0 : Int32).toInt8.toInt32) = nI 0 from (tk_nb (n := 0) (by omega)).1]) ?_⟩)
      exact yr_28 (x := 0) H hR hY hu hω1 hω hρ hρ0 X' F' 1 _ _ ha ho hl e2 (by omega) e3 e5 hra' Hp2
theorem yw_write0 {post : Int32 → SY → Prop} {p : Nat} {l : List Int64} {x2 x3 : Int32} {ha ho hl : Nat → Int32} (H : jn_H J A B) (hR : us_R A B σ rk) (hY : jy_H a_kind a_value i j A B) (hu : yu_s a_bound a_whose i j σ) (hω1 : ∀ v, 1 ≤ ω v) (hω : ∀ v q, σ v = some q → us_W ω (jn_t A B q) + 2 ≤ ω v) (hρ : us_Es A B σ ρ) (hρ0 : ∀ v, σ v = none → ρ v = [lN (8589934592 + v)]) (hlk : ∀ t, t ∈ l → jn_k t) (hpl : p + l.length ≤ 91) (hF : yk_F a_kind a_value i j ha ho hl [(p, 8, l)]) (Hp : ∀ hs ha ho hl ik iv nin, nin = nI ((us_E ρ l).take 31).length → hd_y (fun _ => 0) (yw_v a_rank) ik iv 0 ((us_E ρ l).take 31) → post (if (us_E ρ l).length ≤ 30 then 1 else 0) (f_place, f_count, f_top, f_done, f_open, f_steps, f_shownSteps, f_fault, nin, f_made, f_old, f_size, hs, f_fresh, a_kind, a_value, a_all, a_split, a_toKind, a_doneKind, a_toValue, a_doneValue, a_begins, a_lacks, ik, a_leftKind, a_madeKind, a_oldKind, a_resultKind, iv, a_leftValue, a_madeValue, a_oldValue, a_resultValue, a_from, a_to, a_whole, a_known, a_bound, a_whose, a_rank, a_one, a_two, a_oneOf, a_twoOf, ha, ho, hl, a_pairs, a_first)) : wpY_write post (f_place, f_count, f_top, f_done, f_open, f_steps, f_shownSteps, f_fault, f_in, f_made, f_old, f_size, nI 1, f_fresh, a_kind, a_value, a_all, a_split, a_toKind, a_doneKind, a_toValue, a_doneValue, a_begins, a_lacks, a_inKind, a_leftKind, a_madeKind, a_oldKind, a_resultKind, a_inValue, a_leftValue, a_madeValue, a_oldValue, a_resultValue, a_from, a_to, a_whole, a_known, a_bound, a_whose, a_rank, a_one, a_two, a_oneOf, a_twoOf, ha, ho, hl, a_pairs, a_first) (-1) x2 x3 := by
  have eX : wk_e ρ [(p, 8, l)] = us_E ρ l := List.append_nil _
  refine ⟨34, ?_⟩
  rw [← nI_0]
  refine yw_N H hR hY hu hω1 hω hρ hρ0 (M := 8) (by omega) 31 [(p, 8, l)] [] 34 1 _ _ ha ho hl rfl (by omega) (fun p' _ h2 z => ?_) (Or.inl rfl) ⟨by simp, hlk, fun t _ _ => hR.1 _, trivial⟩ hF trivial (by rw [List.nil_append, eX]; exact Hp)
  have hi := hY.1
  have h1 := jy_plt3 (i := i) (j := j) (p := p') hi hY.2.1 (by omega)
  have := nI_pos (n := jy_p i j p') (by omega)
  rw [z] at this
  exact this (by decide)
theorem yw_writeC {post : Int32 → SY → Prop} {p0 pr : Nat} {RB : List Int64} {x1 x2 x3 : Int32} {ha ho hl : Nat → Int32} (H : jn_H J A B) (hR : us_R A B σ rk) (hY : jy_H a_kind a_value i j A B) (hu : yu_s a_bound a_whose i j σ) (hω1 : ∀ v, 1 ≤ ω v) (hω : ∀ v q, σ v = some q → us_W ω (jn_t A B q) + 2 ≤ ω v) (hρ : us_Es A B σ ρ) (hρ0 : ∀ v, σ v = none → ρ v = [lN (8589934592 + v)]) (hne : ∀ v, ρ v ≠ []) (hp0 : p0 < A.length) (hx1 : x1 = nI (30 * i + p0)) (hx2 : x2 = nI (30 * i + (p0 + (jn_t A B p0).length))) (hpr : 30 ≤ pr) (hpr2 : pr + RB.length ≤ 60) (hx3 : x3 = nI (jy_p i j pr)) (hRB : tm_w RB 1) (hRk : ∀ t, t ∈ RB → jn_k t) (hRy : jy_h a_kind a_value 1 (jy_p i j pr) RB) (hF : yk_F a_kind a_value i j ha ho hl [(0, 8, A)]) (Hp : ∀ hs ha ho hl ik iv nin, nin = nI ((us_E ρ (A.take p0) ++ (us_E ρ RB ++ us_E ρ (A.drop (p0 + (jn_t A B p0).length)))).take 31).length → hd_y (fun _ => 0) (yw_v a_rank) ik iv 0 ((us_E ρ (A.take p0) ++ (us_E ρ RB ++ us_E ρ (A.drop (p0 + (jn_t A B p0).length)))).take 31) → post (if (us_E ρ (A.take p0) ++ (us_E ρ RB ++ us_E ρ (A.drop (p0 + (jn_t A B p0).length)))).length ≤ 30 then 1 else 0) (f_place, f_count, f_top, f_done, f_open, f_steps, f_shownSteps, f_fault, nin, f_made, f_old, f_size, hs, f_fresh, a_kind, a_value, a_all, a_split, a_toKind, a_doneKind, a_toValue, a_doneValue, a_begins, a_lacks, ik, a_leftKind, a_madeKind, a_oldKind, a_resultKind, iv, a_leftValue, a_madeValue, a_oldValue, a_resultValue, a_from, a_to, a_whole, a_known, a_bound, a_whose, a_rank, a_one, a_two, a_oneOf, a_twoOf, ha, ho, hl, a_pairs, a_first)) : wpY_write post (f_place, f_count, f_top, f_done, f_open, f_steps, f_shownSteps, f_fault, f_in, f_made, f_old, f_size, nI 1, f_fresh, a_kind, a_value, a_all, a_split, a_toKind, a_doneKind, a_toValue, a_doneValue, a_begins, a_lacks, a_inKind, a_leftKind, a_madeKind, a_oldKind, a_resultKind, a_inValue, a_leftValue, a_madeValue, a_oldValue, a_resultValue, a_from, a_to, a_whole, a_known, a_bound, a_whose, a_rank, a_one, a_two, a_oneOf, a_twoOf, ha, ho, hl, a_pairs, a_first) x1 x2 x3 := by
  refine ⟨34, ?_⟩
  rw [← nI_0]
  exact yw_C H hR hY hu hω1 hω hρ hρ0 hne hp0 hx1 hx2 hpr hpr2 hx3 hRB hRk hRy rfl 31 [(0, 8, A)] [] (us_E ρ (A.take p0)) 34 _ _ ha ho hl rfl (by omega) ⟨[], 0, 8, by rw [List.drop_zero]; rfl, by omega, by rw [List.drop_zero, Nat.sub_zero]; rfl⟩ ⟨by simp, H.2.2.2.2.2.2.1, fun t _ _ => hR.1 _, trivial⟩ hF trivial Hp
end
end
section
/-! the verdict on a pair, over lists -/
def vd_h (t : Int64) : Int64 := if t < 8589934592 then t else t + 4
def vd_k (t : Int64) : Prop := ∃ n, t = lN n ∧ (n < 9 ∨ (8589934592 ≤ n ∧ n < 8589934596))
def vd_J (A B : List Int64) (p : Nat) : Int64 := (jn_s A B p).headD 0
theorem vd_k_j {t : Int64} (h : vd_k t) : jn_k t := by
  obtain ⟨n, e, h⟩ := h
  exact ⟨n, e, by omega⟩
theorem vd_k_h {t : Int64} (h : vd_k t) : jn_k (vd_h t) ∧ tm_ar (vd_h t) = tm_ar t ∧ ((vd_h t < 8589934592) ↔ (t < 8589934592)) := by
  obtain ⟨n, rfl, h⟩ := h
  unfold vd_h
  by_cases hs : lN n < 8589934592
  · rw [if_pos hs]
    exact ⟨⟨n, rfl, by omega⟩, rfl, Iff.rfl⟩
  · have hs' := hs
    rw [tk_lt 8589934592 (by omega)] at hs'
    have e : lN n + 4 = lN (n + 4) := lN_add n 4
    rw [if_neg hs, e]
    refine ⟨⟨n + 4, rfl, by omega⟩, ?_, ?_⟩
    · rw [tk_ar_n (by omega), tk_ar_n (by omega), if_neg (by omega), if_neg (by omega), if_neg (by omega), if_neg (by omega)]
    · rw [tk_lt 8589934592 (by omega), tk_lt 8589934592 (by omega)]; omega
theorem vd_map_w (g : Int64 → Int64) : ∀ (l : List Int64) (m : Nat), (∀ t, t ∈ l → tm_ar (g t) = tm_ar t) → tm_w l m → tm_w (l.map g) m
  | [], m, _, h => h
  | t :: l, m, hg, h => by
    obtain ⟨k, rfl, h1⟩ := tm_w_ne h
    rw [List.map_cons]
    refine tm_w_cons.mpr ?_
    rw [hg t (List.mem_cons.mpr (Or.inl rfl))]
    exact vd_map_w g l _ (fun x hx => hg x (List.mem_cons.mpr (Or.inr hx))) h1
theorem us_E_w {ρ : Nat → List Int64} (hρ : ∀ v, v < 8 → tm_w (ρ v) 1) : ∀ (l : List Int64) (m : Nat), (∀ t, t ∈ l → jn_k t) → tm_w l m → tm_w (us_E ρ l) m
  | [], m, _, h => h
  | t :: l, m, hk, h => by
    obtain ⟨k, rfl, h1⟩ := tm_w_ne h
    have ih := us_E_w hρ l _ (fun x hx => hk x (List.mem_cons.mpr (Or.inr hx))) h1
    by_cases hs : t < 8589934592
    · rw [us_E_sym hs]
      exact tm_w_cons.mpr ih
    · obtain ⟨hv, _, ha⟩ := jn_var (hk t (List.mem_cons.mpr (Or.inl rfl))) hs
      rw [us_E_var hs]
      rw [ha, Nat.add_zero] at ih
      rw [Nat.add_comm]
      exact tm_w_app _ _ _ _ (hρ _ hv) ih
theorem us_E_k {ρ : Nat → List Int64} (hρ : ∀ v, v < 8 → ∀ t, t ∈ ρ v → jn_k t) {l : List Int64} (hk : ∀ t, t ∈ l → jn_k t) : ∀ t, t ∈ us_E ρ l → jn_k t := by
  intro t ht
  unfold us_E at ht
  obtain ⟨s, hs, hz⟩ := List.mem_flatMap.mp ht
  by_cases hss : s < 8589934592
  · rw [if_pos hss, List.mem_singleton] at hz
    rw [hz]; exact hk s hs
  · rw [if_neg hss] at hz
    exact hρ _ (jn_var (hk s hs) hss).1 t hz
section
variable {J : Nat → Int64} {A B : List Int64} {σ : Nat → Option Nat} {rk : Nat → Nat}
theorem us_h_w (H : jn_H J A B) (hR : us_R A B σ rk) : ∀ (d v : Nat), v < 8 → tm_w (us_h A B σ d v) 1 ∧ ∀ t, t ∈ us_h A B σ d v → jn_k t := by
  have base : ∀ v, v < 8 → tm_w [lN (8589934592 + v)] 1 ∧ ∀ t, t ∈ [lN (8589934592 + v)] → jn_k t := by
    intro v hv
    refine ⟨tm_w_1 (by rw [tk_ar_n (by omega), if_neg (by omega), if_neg (by omega)]), fun t ht => ?_⟩
    rw [List.mem_singleton] at ht
    exact ⟨8589934592 + v, ht, by omega⟩
  intro d
  induction d with
  | zero => intro v hv; exact base v hv
  | succ d ih =>
    intro v hv
    cases e : σ v with
    | none => rw [us_h_none e]; exact base v hv
    | some q =>
      rw [us_h_some e]
      obtain ⟨_, _, _, _, _, tw, _, _, _, tk, _, _⟩ := jn_tm H (hR.2 v q e).2.1
      exact ⟨us_E_w (fun v hv => (ih v hv).1) _ _ tk tw, us_E_k (fun v hv => (ih v hv).2) tk⟩
end
/-- a name by its rank -/
theorem rn_good {ra : Nat → Int32} {t : Int64} (ht : jn_k t) (hr : ¬ t < 8589934592 → ∃ r, r < 8 ∧ ra (jn_n t) = nI r) : tm_ar (rn_n ra t) = tm_ar t ∧ tk_t (rn_n ra t) ∧ tk_kT (rn_n ra t) = 0 ∧ tk_vT (rn_n ra t) = yw_v ra t := by
  rcases jn_cases ht with ⟨n, h1, en, hs⟩ | ⟨v, h1, ev, hs, env, ha⟩
  · have e : rn_n ra t = t := by unfold rn_n; rw [if_pos hs]
    obtain ⟨k1, k2⟩ := tk_T_sym (n := n) (by omega)
    have ev : yw_v ra t = nI n := by unfold yw_v; rw [if_pos hs, en, pk_lT (by omega)]; rfl
    rw [e, ev]
    exact ⟨rfl, ⟨n, en, by omega⟩, by rw [en]; exact k1, by rw [en]; exact k2⟩
  · obtain ⟨r, hr8, er⟩ := hr hs
    have e : rn_n ra t = lN (8589934592 + r) := by
      unfold rn_n
      rw [if_neg hs, er, nI_l (by omega), show (8589934592 : Int64) = lN 8589934592 from rfl, lN_add]
    obtain ⟨k1, k2⟩ := tk_T_var (r := r) hr8
    have ev2 : yw_v ra t = nI (100 + r) := by unfold yw_v; rw [if_neg hs, er, ← nI_add]; rfl
    rw [e, ev2, ha]
    exact ⟨by rw [tk_ar_n (by omega), if_neg (by omega), if_neg (by omega)], ⟨_, rfl, by omega⟩, k1, k2⟩
theorem rn_hd {ra : Nat → Int32} {ik iv : Nat → Int32} : ∀ (l : List Int64) (k : Nat), (∀ t, t ∈ l → jn_k t) → (∀ t, t ∈ l → ¬ t < 8589934592 → ∃ r, r < 8 ∧ ra (jn_n t) = nI r) → hd_y (fun _ => 0) (yw_v ra) ik iv k l → hd_y tk_kT tk_vT ik iv k (l.map (rn_n ra))
  | [], k, _, _, _ => trivial
  | t :: l, k, hk, hr, h => by
    obtain ⟨_, _, g3, g4⟩ := rn_good (hk t (List.mem_cons.mpr (Or.inl rfl))) (hr t (List.mem_cons.mpr (Or.inl rfl)))
    exact ⟨⟨h.1.1.trans g3.symm, h.1.2.trans g4.symm⟩, rn_hd l (k + 1) (fun x hx => hk x (List.mem_cons.mpr (Or.inr hx))) (fun x hx => hr x (List.mem_cons.mpr (Or.inr hx))) h.2⟩
theorem rn_n_congr {ra ra' : Nat → Int32} (h : ∀ v, v < 8 → ra v = ra' v) {t : Int64} (ht : jn_k t) : rn_n ra t = rn_n ra' t := by
  by_cases hs : t < 8589934592
  · exact (if_pos hs).trans (if_pos hs).symm
  · have e := h _ (jn_var ht hs).1
    exact (if_neg hs).trans ((congrArg (fun x : Int32 => 8589934592 + x.toInt64) e).trans (if_neg hs).symm)
theorem rn_map_congr {ra ra' : Nat → Int32} (h : ∀ v, v < 8 → ra v = ra' v) (l : List Int64) (hk : ∀ t, t ∈ l → jn_k t) : l.map (rn_n ra) = l.map (rn_n ra') :=
  List.map_congr_left (fun t ht => rn_n_congr h (hk t ht))
theorem vd_rep {a s s' r : List Int64} : ∀ (m : Nat), tm_w (a ++ (s ++ r)) m → tm_w s 1 → tm_w s' 1 → tm_w (a ++ (s' ++ r)) m := by
  induction a with
  | nil =>
    intro m h hs hs'
    rw [List.nil_append] at h ⊢
    obtain ⟨k, hk⟩ := tm_w_suf s r m h
    have := tm_w_inj _ _ _ h (tm_w_app _ _ _ _ hs hk)
    rw [this]
    exact tm_w_app _ _ _ _ hs' hk
  | cons t a ih =>
    intro m h hs hs'
    obtain ⟨k, rfl, h1⟩ := tm_w_ne (show tm_w (t :: (a ++ (s ++ r))) m from h)
    exact tm_w_cons.mpr (ih _ h1 hs hs')
/-- the verdict: 0 no pair, 1 joined, 2 not joined, 3 unknown -/
def vd_s1 (A RA B : List Int64) (σ : Nat → Option Nat) : List Int64 := (us_E (us_h A B σ 8) RA).map (rn_n (rn_f (us_E (us_h A B σ 8) A) (fun _ => -1) 0).1)
def vd_s2 (A B RB : List Int64) (p : Nat) (σ : Nat → Option Nat) : List Int64 := (us_E (us_h A B σ 8) (A.take p) ++ (us_E (us_h A B σ 8) RB ++ us_E (us_h A B σ 8) (A.drop (p + (jn_t A B p).length)))).map (rn_n (rn_f (us_E (us_h A B σ 8) A) (fun _ => -1) 0).1)
def vd_c (L R : Nat → List Int64) (A RA B RB : List Int64) (p : Nat) (σ : Nat → Option Nat) : Nat :=
  if (us_E (us_h A B σ 8) A).length ≤ 30 ∧ (vd_s1 A RA B σ).length ≤ 30 ∧ (mc_run L R 4000 (vd_s1 A RA B σ) [] 0 none).1 = 0 ∧ (vd_s2 A B RB p σ).length ≤ 30 ∧ (mc_run L R 4000 (vd_s2 A B RB p σ) [] 0 none).1 = 0 then (if (mc_run L R 4000 (vd_s1 A RA B σ) [] 0 none).2.2 = (mc_run L R 4000 (vd_s2 A B RB p σ) [] 0 none).2.2 then 1 else 2) else 3
def vd (f : Nat) (L R : Nat → List Int64) (i j p : Nat) : Nat :=
  match us_un (vd_J (L i) ((L j).map vd_h)) (L i) ((L j).map vd_h) f [(p, 30)] (fun _ => none) with
  | none => 0
  | some σ => vd_c L R (L i) (R i) ((L j).map vd_h) ((R j).map vd_h) p σ
section
variable {J J' : Nat → Int64} {A B : List Int64}
theorem us_J_eq (H : jn_H J A B) (H' : jn_H J' A B) {p : Nat} (hp : jn_v A B p) : J p = J' p := by
  obtain ⟨l, _, _, q1, _⟩ := jn_tm H hp
  obtain ⟨l', _, _, q1', _⟩ := jn_tm H' hp
  rw [q1] at q1'
  injection q1'
theorem us_f_J (H : jn_H J A B) (H' : jn_H J' A B) {σ : Nat → Option Nat} {rk : Nat → Nat} (hR : us_R A B σ rk) : ∀ (k p : Nat), jn_v A B p → us_f J σ k p = us_f J' σ k p
  | 0, p, hp => rfl
  | k + 1, p, hp => by
    have e : us_1 J σ p = us_1 J' σ p := by unfold us_1; rw [us_J_eq H H' hp]
    rw [us_f, us_f, ← e]
    exact us_f_J H H' hR k _ (us_1_v hR hp)
theorem us_un_J (H : jn_H J A B) (H' : jn_H J' A B) {p0 q0 : Nat} : ∀ (f n : Nat) (S : List (Nat × Nat)) (σ : Nat → Option Nat), us_I A B p0 q0 n S σ → us_un J A B f S σ = us_un J' A B f S σ := by
  intro f
  induction f with
  | zero =>
    intro n S σ hI
    cases S with
    | nil => rfl
    | cons a S => rfl
  | succ f ih =>
    intro n S σ hI
    cases S with
    | nil => rfl
    | cons a S =>
      obtain ⟨p, q⟩ := a
      rw [us_un_cons, us_un_cons]
      have hI0 := hI
      obtain ⟨⟨rk, hR⟩, hv, _⟩ := hI0
      obtain ⟨hp, hq⟩ := hv p q (List.mem_cons.mpr (Or.inl rfl))
      have e1 := us_f_J H H' hR 8 p hp
      have e2 := us_f_J H H' hR 8 q hq
      have hp' := (us_fol8 H hR hp).1
      have hq' := (us_fol8 H hR hq).1
      have est : us_st J A B σ (us_f J σ 8 p) (us_f J σ 8 q) S = us_st J' A B σ (us_f J' σ 8 p) (us_f J' σ 8 q) S := by
        rw [← e1, ← e2]
        unfold us_st us_ag
        rw [us_J_eq H H' hp', us_J_eq H H' hq']
      rw [← est]
      cases eo : us_st J A B σ (us_f J σ 8 p) (us_f J σ 8 q) S with
      | none => rfl
      | some x =>
        obtain ⟨S', σ'⟩ := x
        exact ih (n + 1) S' σ' (us_pres H hI eo)
end
theorem vd_H {A B : List Int64} (hA : tm_w A 1) (hB : tm_w B 1) (hAl : A.length ≤ 29) (hBl : B.length ≤ 29) (hAk : ∀ t, t ∈ A → jn_k t) (hBk : ∀ t, t ∈ B → jn_k t) : jn_H (vd_J A B) A B := by
  refine ⟨hA, hB, hAl, hBl, hd_of (fun k hk => ?_), hd_of (fun k hk => ?_), hAk, hBk⟩
  · unfold vd_J jn_s
    rw [if_pos (by omega), Nat.zero_add, List.drop_eq_getElem_cons hk]
    rfl
  · unfold vd_J jn_s
    rw [if_neg (by omega), show 30 + k - 30 = k by omega, List.drop_eq_getElem_cons hk]
    rfl
end
section
/-! the component: plain rules, places of pairs, two rules laid out -/
def vd_p (t : Int64) : Bool := decide (t < 9) || decide (8589934592 ≤ t ∧ t < 12884901888)
def vd_pl (L R : Nat → List Int64) (r : Nat) : Bool := !(L r).isEmpty && (L r).all vd_p && (R r).all vd_p
theorem vd_p_k {t : Int64} (h : tk_r t) : vd_p t = true ↔ vd_k t := by
  obtain ⟨n, rfl, h⟩ := h
  unfold vd_p
  rw [Bool.or_eq_true, decide_eq_true_iff, decide_eq_true_iff, tk_lt 9 (by omega), tk_le 8589934592 (by omega), tk_lt 12884901888 (by omega)]
  constructor
  · intro z
    exact ⟨n, rfl, by omega⟩
  · rintro ⟨m, e, hm⟩
    have := (pk_lEQ (by omega) (by omega)).mp e
    omega
theorem vd_p_X {t : Int64} (h : tk_r t) : (t < 9 ∨ (t.toUInt64 >>> ((32 : Int32).toInt64.toUInt64 &&& Int64.toUInt64 63)).toInt64 = 2) ↔ vd_p t = true := by
  obtain ⟨n, rfl, h⟩ := h
  unfold vd_p
  rw [Bool.or_eq_true, decide_eq_true_iff, decide_eq_true_iff, tk_lt 9 (by omega), tk_sh2 (by omega), tk_le 8589934592 (by omega), tk_lt 12884901888 (by omega)]
section
variable {f_drafted f_faultPlace f_reportedSteps f_resultSize f_sheetSize f_waitingSize f_builtSize f_unfinished f_taken f_keptSize f_stacked f_ranked f_surveyed : Int32} {a_draft a_result a_lefts a_rights a_sheet a_waiting a_built a_kept a_joint : Nat → Int64} {a_leftSize a_ways a_rightSize a_unfinishedStart a_unfinishedLacks a_matchStart a_matchEnd a_unified a_oneStack a_otherStack a_nestedAt a_nestedEnd a_rank a_pairCount a_firstOpen : Nat → Int32}
theorem xp_80 {post : Int32 → Prop} {r nr : Nat} (hr : r < 8) (hrs : a_rightSize r = nI nr) (hnr : nr ≤ 30) : ∀ (l : List Int64) (k n : Nat) (b : Bool), k + l.length = nr → hd_h a_rights (r * 30 + k) l → (∀ t, t ∈ l → tk_r t) → l.length < n → post (if (b && l.all vd_p) = true then 1 else 0) → wX_isPlain_80 post (nI r) f_drafted f_faultPlace f_reportedSteps f_resultSize f_sheetSize f_waitingSize f_builtSize f_unfinished f_taken f_keptSize f_stacked f_ranked f_surveyed a_draft a_result a_lefts a_leftSize a_ways a_rights a_rightSize a_sheet a_waiting a_built a_unfinishedStart a_unfinishedLacks a_kept a_matchStart a_matchEnd a_joint a_unified a_oneStack a_otherStack a_nestedAt a_nestedEnd a_rank a_pairCount a_firstOpen n (if b = true then 1 else 0) (nI k)
  | [], k, n, b, h1, h2, h3, hn, h => by
    obtain ⟨n, rfl⟩ : ∃ n', n = n' + 1 := ⟨n - 1, by omega⟩
    rw [List.length_nil] at h1
    refine ⟨vp_in_nI hr (by omega), ?_⟩
    rw [nI_clamp (by omega), hrs]
    rw [List.all_nil, Bool.and_true] at h
    refine pk_le nr k (fun _ => ⟨?_, h⟩) (fun z => absurd z (by omega))
    cases b
    · exact lw_bz_n 0
    · exact lw_bz_n 1
  | t :: l, k, n, b, h1, h2, h3, hn, h => by
    obtain ⟨n, rfl⟩ : ∃ n', n = n' + 1 := ⟨n - 1, by omega⟩
    rw [List.length_cons] at h1 hn
    have ei : nI r * 30 + nI k = nI (r * 30 + k) := by rw [show (30 : Int32) = nI 30 from rfl, pk_mul, nI_add]
    have htr := h3 t (List.mem_cons.mpr (Or.inl rfl))
    have hpx := vd_p_X htr
    refine ⟨vp_in_nI hr (by omega), ?_⟩
    rw [nI_clamp (by omega), hrs]
    refine pk_le nr k (fun z => absurd z (by omega)) (fun _ => ⟨by rw [ei]; exact vp_in_nI (by omega) (by omega), nm_r (e' := t) (by rw [ei, nI_clamp (by omega)]; exact h2.1) ?_⟩)
    rw [List.all_cons] at h
    have yes : vd_p t = true → ∀ y : Int32, y = (if b = true then 1 else 0) &&& 1 → wX_isPlain_80 post (nI r) f_drafted f_faultPlace f_reportedSteps f_resultSize f_sheetSize f_waitingSize f_builtSize f_unfinished f_taken f_keptSize f_stacked f_ranked f_surveyed a_draft a_result a_lefts a_leftSize a_ways a_rights a_rightSize a_sheet a_waiting a_built a_unfinishedStart a_unfinishedLacks a_kept a_matchStart a_matchEnd a_joint a_unified a_oneStack a_otherStack a_nestedAt a_nestedEnd a_rank a_pairCount a_firstOpen n y (nI (k + 1)) := by
      intro hp y hy
      have : y = (if b = true then 1 else 0) := by rw [hy]; cases b <;> decide
      rw [this]
      refine xp_80 hr hrs hnr l (k + 1) n b (by omega) h2.2 (fun x hx => h3 x (List.mem_cons.mpr (Or.inr hx))) (by omega) ?_
      rw [hp, Bool.true_and] at h
      exact h
    by_cases h9 : t < 9
    · exact br_t h9 (nm_e (nm_r (nI_1 k) (yes (hpx.mp (Or.inl h9)) _ rfl)))
    · refine br_f h9 ?_
      by_cases hk : (t.toUInt64 >>> ((32 : Int32).toInt64.toUInt64 &&& Int64.toUInt64 63)).toInt64 = 2
      · exact br_t hk (nm_e (nm_r (nI_1 k) (yes (hpx.mp (Or.inr hk)) _ rfl)))
      · have hp : vd_p t = false := by
          cases e : vd_p t with
          | false => rfl
          | true => rcases hpx.mpr e with z | z; exact absurd z h9; exact absurd z hk
        refine br_f hk (nm_r (e' := (if false = true then 1 else 0)) (by cases b <;> decide) (nm_r (nI_1 k) ?_))
        refine xp_80 hr hrs hnr l (k + 1) n false (by omega) h2.2 (fun x hx => h3 x (List.mem_cons.mpr (Or.inr hx))) (by omega) ?_
        rw [hp, Bool.false_and, Bool.and_false] at h
        exact h
theorem xp_17 {post : Int32 → Prop} {r nl : Nat} (hr : r < 8) (hrs : a_leftSize r = nI nl) (hnl : nl ≤ 30) (rest : List Int64) : ∀ (l : List Int64) (k n : Nat) (b : Bool), k + l.length = nl → hd_h a_lefts (r * 480 + k) l → (∀ t, t ∈ l → tk_r t) → l.length < n → (∃ n80, wX_isPlain_80 post (nI r) f_drafted f_faultPlace f_reportedSteps f_resultSize f_sheetSize f_waitingSize f_builtSize f_unfinished f_taken f_keptSize f_stacked f_ranked f_surveyed a_draft a_result a_lefts a_leftSize a_ways a_rights a_rightSize a_sheet a_waiting a_built a_unfinishedStart a_unfinishedLacks a_kept a_matchStart a_matchEnd a_joint a_unified a_oneStack a_otherStack a_nestedAt a_nestedEnd a_rank a_pairCount a_firstOpen n80 (if (b && l.all vd_p) = true then 1 else 0) 0) → wX_isPlain_17 post (nI r) f_drafted f_faultPlace f_reportedSteps f_resultSize f_sheetSize f_waitingSize f_builtSize f_unfinished f_taken f_keptSize f_stacked f_ranked f_surveyed a_draft a_result a_lefts a_leftSize a_ways a_rights a_rightSize a_sheet a_waiting a_built a_unfinishedStart a_unfinishedLacks a_kept a_matchStart a_matchEnd a_joint a_unified a_oneStack a_otherStack a_nestedAt a_nestedEnd a_rank a_pairCount a_firstOpen n (if b = true then 1 else 0) (nI k)
  | [], k, n, b, h1, h2, h3, hn, h => by
    obtain ⟨n, rfl⟩ : ∃ n', n = n' + 1 := ⟨n - 1, by omega⟩
    rw [List.length_nil] at h1
    refine ⟨vp_in_nI hr (by omega), ?_⟩
    rw [nI_clamp (by omega), hrs]
    rw [List.all_nil, Bool.and_true] at h
    exact pk_le nl k (fun _ => h) (fun z => absurd z (by omega))
  | t :: l, k, n, b, h1, h2, h3, hn, h => by
    obtain ⟨n, rfl⟩ : ∃ n', n = n' + 1 := ⟨n - 1, by omega⟩
    rw [List.length_cons] at h1 hn
    have ei : nI r * 16 * 30 + nI k = nI (r * 480 + k) := by rw [show (30 : Int32) = nI 30 from rfl, show (16 : Int32) = nI 16 from rfl, pk_mul, pk_mul, nI_add, show r * 16 * 30 = r * 480 by omega]
    have htr := h3 t (List.mem_cons.mpr (Or.inl rfl))
    have hpx := vd_p_X htr
    refine ⟨vp_in_nI hr (by omega), ?_⟩
    rw [nI_clamp (by omega), hrs]
    refine pk_le nl k (fun z => absurd z (by omega)) (fun _ => ⟨by rw [ei]; exact vp_in_nI (by omega) (by omega), nm_r (e' := t) (by rw [ei, nI_clamp (by omega)]; exact h2.1) ?_⟩)
    rw [List.all_cons] at h
    have yes : vd_p t = true → ∀ y : Int32, y = (if b = true then 1 else 0) &&& 1 → wX_isPlain_17 post (nI r) f_drafted f_faultPlace f_reportedSteps f_resultSize f_sheetSize f_waitingSize f_builtSize f_unfinished f_taken f_keptSize f_stacked f_ranked f_surveyed a_draft a_result a_lefts a_leftSize a_ways a_rights a_rightSize a_sheet a_waiting a_built a_unfinishedStart a_unfinishedLacks a_kept a_matchStart a_matchEnd a_joint a_unified a_oneStack a_otherStack a_nestedAt a_nestedEnd a_rank a_pairCount a_firstOpen n y (nI (k + 1)) := by
      intro hp y hy
      have : y = (if b = true then 1 else 0) := by rw [hy]; cases b <;> decide
      rw [this]
      refine xp_17 hr hrs hnl rest l (k + 1) n b (by omega) h2.2 (fun x hx => h3 x (List.mem_cons.mpr (Or.inr hx))) (by omega) ?_
      rw [hp, Bool.true_and] at h
      exact h
    by_cases h9 : t < 9
    · exact br_t h9 (nm_e (nm_r (nI_1 k) (yes (hpx.mp (Or.inl h9)) _ rfl)))
    · refine br_f h9 ?_
      by_cases hk : (t.toUInt64 >>> ((32 : Int32).toInt64.toUInt64 &&& Int64.toUInt64 63)).toInt64 = 2
      · exact br_t hk (nm_e (nm_r (nI_1 k) (yes (hpx.mp (Or.inr hk)) _ rfl)))
      · have hp : vd_p t = false := by
          cases e : vd_p t with
          | false => rfl
          | true => rcases hpx.mpr e with z | z; exact absurd z h9; exact absurd z hk
        refine br_f hk (nm_r (e' := (if false = true then 1 else 0)) (by cases b <;> decide) (nm_r (nI_1 k) ?_))
        refine xp_17 hr hrs hnl rest l (k + 1) n false (by omega) h2.2 (fun x hx => h3 x (List.mem_cons.mpr (Or.inr hx))) (by omega) ?_
        rw [hp, Bool.false_and, Bool.and_false] at h
        exact h
/-- an absent rule: whatever its arrays hold -/
theorem xp_80z {post : Int32 → Prop} {r nr : Nat} (hr : r < 8) (hrs : a_rightSize r = nI nr) (hnr : nr ≤ 30) (h : post 0) : ∀ (d k n : Nat), k + d = nr → d < n → wX_isPlain_80 post (nI r) f_drafted f_faultPlace f_reportedSteps f_resultSize f_sheetSize f_waitingSize f_builtSize f_unfinished f_taken f_keptSize f_stacked f_ranked f_surveyed a_draft a_result a_lefts a_leftSize a_ways a_rights a_rightSize a_sheet a_waiting a_built a_unfinishedStart a_unfinishedLacks a_kept a_matchStart a_matchEnd a_joint a_unified a_oneStack a_otherStack a_nestedAt a_nestedEnd a_rank a_pairCount a_firstOpen n 0 (nI k)
  | 0, k, n, h1, hn => by
    obtain ⟨n, rfl⟩ : ∃ n', n = n' + 1 := ⟨n - 1, by omega⟩
    refine ⟨vp_in_nI hr (by omega), ?_⟩
    rw [nI_clamp (by omega), hrs]
    exact pk_le nr k (fun _ => ⟨lw_bz_n 0, h⟩) (fun z => absurd z (by omega))
  | d + 1, k, n, h1, hn => by
    obtain ⟨n, rfl⟩ : ∃ n', n = n' + 1 := ⟨n - 1, by omega⟩
    have ei : nI r * 30 + nI k = nI (r * 30 + k) := by rw [show (30 : Int32) = nI 30 from rfl, pk_mul, nI_add]
    have go := xp_80z hr hrs hnr h d (k + 1) n (by omega) (by omega)
    refine ⟨vp_in_nI hr (by omega), ?_⟩
    rw [nI_clamp (by omega), hrs]
    refine pk_le nr k (fun z => absurd z (by omega)) (fun _ => ⟨by rw [ei]; exact vp_in_nI (by omega) (by omega), nm_e ?_⟩)
    exact br_c (fun _ => nm_r (e' := 0) (by decide) (nm_r (nI_1 k) go)) (fun _ => br_c (fun _ => nm_r (e' := 0) (by decide) (nm_r (nI_1 k) go)) (fun _ => nm_r (e' := 0) (by decide) (nm_r (nI_1 k) go)))
theorem xp_17z {post : Int32 → Prop} {r nl nr : Nat} (hr : r < 8) (hls : a_leftSize r = nI nl) (hnl : nl ≤ 30) (hrs : a_rightSize r = nI nr) (hnr : nr ≤ 30) (h : post 0) : ∀ (d k n : Nat), k + d = nl → d < n → wX_isPlain_17 post (nI r) f_drafted f_faultPlace f_reportedSteps f_resultSize f_sheetSize f_waitingSize f_builtSize f_unfinished f_taken f_keptSize f_stacked f_ranked f_surveyed a_draft a_result a_lefts a_leftSize a_ways a_rights a_rightSize a_sheet a_waiting a_built a_unfinishedStart a_unfinishedLacks a_kept a_matchStart a_matchEnd a_joint a_unified a_oneStack a_otherStack a_nestedAt a_nestedEnd a_rank a_pairCount a_firstOpen n 0 (nI k)
  | 0, k, n, h1, hn => by
    obtain ⟨n, rfl⟩ : ∃ n', n = n' + 1 := ⟨n - 1, by omega⟩
    refine ⟨vp_in_nI hr (by omega), ?_⟩
    rw [nI_clamp (by omega), hls]
    exact pk_le nl k (fun _ => ⟨nr + 1, xp_80z hr hrs hnr h nr 0 _ (by omega) (by omega)⟩) (fun z => absurd z (by omega))
  | d + 1, k, n, h1, hn => by
    obtain ⟨n, rfl⟩ : ∃ n', n = n' + 1 := ⟨n - 1, by omega⟩
    have ei : nI r * 16 * 30 + nI k = nI (r * 480 + k) := by rw [show (30 : Int32) = nI 30 from rfl, show (16 : Int32) = nI 16 from rfl, pk_mul, pk_mul, nI_add, show r * 16 * 30 = r * 480 by omega]
    have go := xp_17z hr hls hnl hrs hnr h d (k + 1) n (by omega) (by omega)
    refine ⟨vp_in_nI hr (by omega), ?_⟩
    rw [nI_clamp (by omega), hls]
    refine pk_le nl k (fun z => absurd z (by omega)) (fun _ => ⟨by rw [ei]; exact vp_in_nI (by omega) (by omega), nm_e ?_⟩)
    exact br_c (fun _ => nm_r (e' := 0) (by decide) (nm_r (nI_1 k) go)) (fun _ => br_c (fun _ => nm_r (e' := 0) (by decide) (nm_r (nI_1 k) go)) (fun _ => nm_r (e' := 0) (by decide) (nm_r (nI_1 k) go)))
/-- LEFT as it stands is the way that exchanges nothing -/
theorem ru_wy0 : ∀ (l : List Int64), ru_wy l 0 = (l, 0)
  | [] => rfl
  | t :: l => by
    by_cases h9 : t = 9
    · subst h9
      rw [ru_wy_9, ru_wy0 l]
      simp
    · rw [ru_wy_n h9, ru_wy0 l]
theorem xr_left {L R : Nat → List Int64} (hR : xr_R L R a_lefts a_leftSize a_ways a_rights a_rightSize) {r : Nat} (hr : r < 8) (h0 : L r ≠ []) : hd_h a_lefts (r * 480) (L r) := by
  obtain ⟨_, _, h3⟩ := hR r hr
  have := (h3 h0).2.2.2.2 0 (Nat.two_pow_pos _)
  rw [ru_wy0, show (r * 16 + 0) * 30 = r * 480 by omega] at this
  exact this
theorem xp_plain {post : Int32 → Prop} {L R : Nat → List Int64} {r : Nat} (hG : mc_G L R) (hR : xr_R L R a_lefts a_leftSize a_ways a_rights a_rightSize) (hr : r < 8) (h : post (if vd_pl L R r = true then 1 else 0)) : wpX_isPlain post (f_drafted, f_faultPlace, f_reportedSteps, f_resultSize, f_sheetSize, f_waitingSize, f_builtSize, f_unfinished, f_taken, f_keptSize, f_stacked, f_ranked, f_surveyed, a_draft, a_result, a_lefts, a_leftSize, a_ways, a_rights, a_rightSize, a_sheet, a_waiting, a_built, a_unfinishedStart, a_unfinishedLacks, a_kept, a_matchStart, a_matchEnd, a_joint, a_unified, a_oneStack, a_otherStack, a_nestedAt, a_nestedEnd, a_rank, a_pairCount, a_firstOpen) (nI r) := by
  obtain ⟨⟨nl, nr, e1, e2, e3, e4⟩, h2, h3⟩ := hR r hr
  refine ⟨vp_in_nI hr (by omega), ?_⟩
  rw [nI_clamp (by omega)]
  by_cases h0 : L r = []
  · have ep : vd_pl L R r = false := by unfold vd_pl; rw [h0]; rfl
    rw [ep, if_neg (by decide)] at h
    rw [h2 h0]
    exact br_t (Int32.le_refl _) ⟨nl + 1, xp_17z hr e1 e3 e2 e4 h nl 0 _ (by omega) (by omega)⟩
  · obtain ⟨w1, w2, w3, w4, w5⟩ := h3 h0
    rcases hG r with g | ⟨g1, g2, g3, g4, g5, g6, g7, g8⟩
    · exact absurd g h0
    have h16 : 2 ^ ru_c9 (L r) ≤ 16 := Nat.le_trans (Nat.pow_le_pow_right (by omega) g7) (by decide)
    have hpos : 0 < 2 ^ ru_c9 (L r) := Nat.two_pow_pos _
    have ep : vd_pl L R r = ((L r).all vd_p && (R r).all vd_p) := by
      unfold vd_pl
      cases hL : L r with
      | nil => exact absurd hL h0
      | cons => rfl
    rw [ep] at h
    rw [w1]
    refine br_f (nI_nle hpos (by omega)) ⟨(L r).length + 1, ?_⟩
    refine xp_17 hr w2 (by omega) [] (L r) 0 _ true (by omega) (by rw [Nat.add_zero]; exact xr_left hR hr h0) g4 (by omega) ⟨(R r).length + 1, ?_⟩
    rw [Bool.true_and]
    exact xp_80 hr w3 (by omega) (R r) 0 _ ((L r).all vd_p) (by omega) (by rw [Nat.add_zero]; exact w4) g5 (by omega) h
end
end
section
/-! the component: the places of pairs, the layout, the peak, the other side, the counts -/
/-- a place where two rules may meet -/
def vd_ok (L R : Nat → List Int64) (i j p : Nat) : Bool := vd_pl L R i && vd_pl L R j && decide (p < (L i).length) && !(decide (p = 0) && decide (i = j)) && decide ((L i).getD p 0 < 8589934592)
section
variable {f_drafted f_faultPlace f_reportedSteps f_resultSize f_sheetSize f_waitingSize f_builtSize f_unfinished f_taken f_keptSize f_stacked f_ranked f_surveyed : Int32} {a_draft a_result a_lefts a_rights a_sheet a_waiting a_built a_kept a_joint : Nat → Int64} {a_leftSize a_ways a_rightSize a_unfinishedStart a_unfinishedLacks a_matchStart a_matchEnd a_unified a_oneStack a_otherStack a_nestedAt a_nestedEnd a_rank a_pairCount a_firstOpen : Nat → Int32}
variable {L R : Nat → List Int64}
theorem xp_place {post : Int32 → Prop} {i j p : Nat} (hG : mc_G L R) (hR : xr_R L R a_lefts a_leftSize a_ways a_rights a_rightSize) (hi : i < 8) (hj : j < 8) (hp : p < 30) (h : post (if vd_ok L R i j p = true then 1 else 0)) : wpX_isPairPlace post (f_drafted, f_faultPlace, f_reportedSteps, f_resultSize, f_sheetSize, f_waitingSize, f_builtSize, f_unfinished, f_taken, f_keptSize, f_stacked, f_ranked, f_surveyed, a_draft, a_result, a_lefts, a_leftSize, a_ways, a_rights, a_rightSize, a_sheet, a_waiting, a_built, a_unfinishedStart, a_unfinishedLacks, a_kept, a_matchStart, a_matchEnd, a_joint, a_unified, a_oneStack, a_otherStack, a_nestedAt, a_nestedEnd, a_rank, a_pairCount, a_firstOpen) (nI i) (nI j) (nI p) := by
  obtain ⟨⟨nl, nr, e1, e2, e3, e4⟩, h2, h3⟩ := hR i hi
  have hin : vp_in (nI i) 8 := vp_in_nI hi (by omega)
  have ei : (nI i).toNatClampNeg = i := nI_clamp (by omega)
  have no : vd_ok L R i j p = false → post 0 := fun z => by rw [z, if_neg (by decide)] at h; exact h
  refine ⟨hin, ?_⟩
  rw [ei, e1]
  have ex : nI i * 16 * 30 + nI p = nI (i * 480 + p) := by rw [show (30 : Int32) = nI 30 from rfl, show (16 : Int32) = nI 16 from rfl, pk_mul, pk_mul, nI_add, show i * 16 * 30 = i * 480 by omega]
  -- behind the first tests
  have tail : p < nl → ¬ (p = 0 ∧ i = j) → wX_isPairPlace_19 post (nI i) (nI j) (nI p) f_drafted f_faultPlace f_reportedSteps f_resultSize f_sheetSize f_waitingSize f_builtSize f_unfinished f_taken f_keptSize f_stacked f_ranked f_surveyed a_draft a_result a_lefts a_leftSize a_ways a_rights a_rightSize a_sheet a_waiting a_built a_unfinishedStart a_unfinishedLacks a_kept a_matchStart a_matchEnd a_joint a_unified a_oneStack a_otherStack a_nestedAt a_nestedEnd a_rank a_pairCount a_firstOpen := by
    intro hpl hne
    refine ⟨by rw [ex]; exact vp_in_nI (by omega) (by omega), ?_⟩
    rw [ex, nI_clamp (by omega)]
    by_cases h0 : L i = []
    · have ev : vd_pl L R i = false := by unfold vd_pl; rw [h0]; rfl
      have nok := no (by unfold vd_ok; rw [ev]; simp)
      refine br_c (fun _ => xp_plain hG hR hi ?_) (fun _ => nok)
      rw [ev]
      exact br_t rfl nok
    · have w2 := (h3 h0).2.1
      have enl : nl = (L i).length := by
        rw [e1] at w2
        rcases hG i with g | g
        · exact absurd g h0
        · exact (nI_eq (by omega) (by have := g.2.2.1; omega)).mp w2
      subst enl
      have hJ : a_lefts (i * 480 + p) = (L i)[p] := hd_get (xr_left hR hi h0) hpl
      have hgd : (L i).getD p 0 = (L i)[p] := by rw [List.getD_eq_getElem?_getD, List.getElem?_eq_getElem hpl]; rfl
      rw [hJ]
      by_cases hs : (L i)[p] < 8589934592
      · refine br_t hs (xp_plain hG hR hi ?_)
        by_cases hpi : vd_pl L R i = true
        · rw [if_pos hpi]
          refine br_f (by decide) (xp_plain hG hR hj ?_)
          by_cases hpj : vd_pl L R j = true
          · rw [if_pos hpj]
            have ev : vd_ok L R i j p = true := by
              unfold vd_ok
              rw [hpi, hpj, hgd, decide_eq_true hpl, decide_eq_true hs]
              by_cases a : p = 0
              · have b : ¬ i = j := fun z => hne ⟨a, z⟩
                rw [decide_eq_false b, Bool.and_false]; rfl
              · rw [decide_eq_false a, Bool.false_and]; rfl
            rw [ev, if_pos rfl] at h
            exact br_f (by decide) h
          · rw [if_neg hpj]
            refine br_t rfl (no ?_)
            unfold vd_ok
            rw [Bool.not_eq_true] at hpj
            rw [hpj]; simp
        · rw [if_neg hpi]
          refine br_t rfl (no ?_)
          unfold vd_ok
          rw [Bool.not_eq_true] at hpi
          rw [hpi]; simp
      · refine br_f hs (no ?_)
        unfold vd_ok
        rw [hgd, decide_eq_false hs, Bool.and_false]
  have short : nl ≤ p → vd_ok L R i j p = false := by
    intro hle
    unfold vd_ok
    by_cases h0 : L i = []
    · have ev : vd_pl L R i = false := by unfold vd_pl; rw [h0]; rfl
      rw [ev]; simp
    · have w2 := (h3 h0).2.1
      have enl : nl = (L i).length := by
        rw [e1] at w2
        rcases hG i with g | g
        · exact absurd g h0
        · exact (nI_eq (by omega) (by have := g.2.2.1; omega)).mp w2
      rw [decide_eq_false (show ¬ p < (L i).length by omega)]; simp
  refine pk_le nl p (fun hle => no (short hle)) (fun hlt => ?_)
  refine pk_eq p 0 (fun h0 => pk_eq i j (fun hij => no ?_) (fun hij => tail hlt (fun z => hij z.2))) (fun h0 => tail hlt (fun z => h0 z.1))
  unfold vd_ok
  rw [decide_eq_true h0, decide_eq_true hij]; simp
theorem xl_11 {post : SX → Prop} {r fr s nl : Nat} {g : Int64 → Int64} {A RA : List Int64} {j0 : Nat → Int64} (hr : r < 8) (hnl : nl = A.length) (hrs : a_rightSize r = nI RA.length) (h30 : A.length + RA.length ≤ 30) (hfr : fr + 30 ≤ 60) (hg : ∀ t, t ∈ A ++ RA → g t = if t < 8589934592 then t else t + (nI s).toInt64) (hA : hd_h a_lefts (r * 480) A) (hRA : hd_h a_rights (r * 30) RA) (H : ∀ jo, hd_h jo fr ((A ++ RA).map g) → hd_o j0 jo fr 30 → post (f_drafted, f_faultPlace, f_reportedSteps, f_resultSize, f_sheetSize, f_waitingSize, f_builtSize, f_unfinished, f_taken, f_keptSize, f_stacked, f_ranked, f_surveyed, a_draft, a_result, a_lefts, a_leftSize, a_ways, a_rights, a_rightSize, a_sheet, a_waiting, a_built, a_unfinishedStart, a_unfinishedLacks, a_kept, a_matchStart, a_matchEnd, jo, a_unified, a_oneStack, a_otherStack, a_nestedAt, a_nestedEnd, a_rank, a_pairCount, a_firstOpen)) : ∀ (l q : List Int64) (n k : Nat) (jo : Nat → Int64), A ++ RA = q ++ l → k = q.length → hd_h jo fr (q.map g) → hd_o j0 jo fr 30 → l.length < n → wX_layOut_11 post (nI r) (nI fr) (nI s) (nI nl) f_drafted f_faultPlace f_reportedSteps f_resultSize f_sheetSize f_waitingSize f_builtSize f_unfinished f_taken f_keptSize f_stacked f_ranked f_surveyed n (nI k) a_draft a_result a_lefts a_leftSize a_ways a_rights a_rightSize a_sheet a_waiting a_built a_unfinishedStart a_unfinishedLacks a_kept a_matchStart a_matchEnd jo a_unified a_oneStack a_otherStack a_nestedAt a_nestedEnd a_rank a_pairCount a_firstOpen
  | [], q, n, k, jo, e, hk, hq, ho, hn => by
    obtain ⟨n, rfl⟩ : ∃ n', n = n' + 1 := ⟨n - 1, by omega⟩
    rw [List.append_nil] at e
    have hlen : k = A.length + RA.length := by rw [hk, ← e, List.length_append]
    refine ⟨vp_in_nI hr (by omega), ?_⟩
    rw [nI_clamp (by omega), hrs]
    refine pk_le (nl + RA.length) k (fun _ => H jo (by rw [e]; exact hq) ho) (fun z => absurd z (by omega)) (nI_add _ _) rfl
  | t :: l, q, n, k, jo, e, hk, hq, ho, hn => by
    obtain ⟨n, rfl⟩ : ∃ n', n = n' + 1 := ⟨n - 1, by omega⟩
    rw [List.length_cons] at hn
    have hlen : A.length + RA.length = q.length + (l.length + 1) := by rw [← List.length_append, e, List.length_append]; rfl
    refine ⟨vp_in_nI hr (by omega), ?_⟩
    rw [nI_clamp (by omega), hrs]
    refine pk_le (nl + RA.length) k (fun z => absurd z (by omega)) (fun _ => ?_) (nI_add _ _) rfl
    refine pk_le 30 k (fun z => absurd z (by omega)) (fun _ => ?_)
    have htg := hg t (by rw [e]; simp)
    have htk : (A ++ RA)[k]? = some t := by rw [e, hk]; simp
    -- the token goes into the layout
    have lay : wX_layOut_72 post (wX_layOut_11 post (nI r) (nI fr) (nI s) (nI nl) f_drafted f_faultPlace f_reportedSteps f_resultSize f_sheetSize f_waitingSize f_builtSize f_unfinished f_taken f_keptSize f_stacked f_ranked f_surveyed n) (nI r) (nI fr) (nI s) (nI nl) (nI k) t f_drafted f_faultPlace f_reportedSteps f_resultSize f_sheetSize f_waitingSize f_builtSize f_unfinished f_taken f_keptSize f_stacked f_ranked f_surveyed a_draft a_result a_lefts a_leftSize a_ways a_rights a_rightSize a_sheet a_waiting a_built a_unfinishedStart a_unfinishedLacks a_kept a_matchStart a_matchEnd jo a_unified a_oneStack a_otherStack a_nestedAt a_nestedEnd a_rank a_pairCount a_firstOpen := by
      have ei : nI fr + nI k = nI (fr + k) := nI_add _ _
      have hin : vp_in (nI fr + nI k) 60 := by rw [ei]; exact vp_in_nI (by omega) (by omega)
      have ec : (nI fr + nI k).toNatClampNeg = fr + k := by rw [ei]; exact nI_clamp (by omega)
      have go : wX_layOut_11 post (nI r) (nI fr) (nI s) (nI nl) f_drafted f_faultPlace f_reportedSteps f_resultSize f_sheetSize f_waitingSize f_builtSize f_unfinished f_taken f_keptSize f_stacked f_ranked f_surveyed n (nI (k + 1)) a_draft a_result a_lefts a_leftSize a_ways a_rights a_rightSize a_sheet a_waiting a_built a_unfinishedStart a_unfinishedLacks a_kept a_matchStart a_matchEnd (vp_updL jo (fr + k) (g t)) a_unified a_oneStack a_otherStack a_nestedAt a_nestedEnd a_rank a_pairCount a_firstOpen := by
        refine xl_11 hr hnl hrs h30 hfr hg hA hRA H l (q ++ [t]) n (k + 1) _ (by rw [e, List.append_assoc]; rfl) (by simp; omega) ?_ ?_ (by omega)
        · rw [List.map_append, List.map_singleton]
          have := hd_snocL (x := g t) hq
          rw [List.length_map, ← hk] at this
          exact this
        · intro z hz
          rw [pk_uLn (by omega)]
          exact ho z hz
      by_cases hs : t < 8589934592
      · rw [if_pos hs] at htg
        exact br_f (Int64.not_le.mpr hs) ⟨hin, nm_r (e' := vp_updL jo (fr + k) (g t)) (by rw [ec, htg]) (nm_r (nI_1 k) go)⟩
      · rw [if_neg hs] at htg
        exact br_t (Int64.not_lt.mp hs) ⟨hin, nm_r (e' := vp_updL jo (fr + k) (g t)) (by rw [ec, htg]) (nm_r (nI_1 k) go)⟩
    refine pk_le nl k (fun hle => ?_) (fun hlt => ?_)
    · have ei : nI r * 30 + nI k - nI nl = nI (r * 30 + (k - nl)) := by
        rw [show (30 : Int32) = nI 30 from rfl, pk_mul, nI_add, pk_sub (by omega), show r * 30 + k - nl = r * 30 + (k - nl) by omega]
      have hin : vp_in (nI r * 30 + nI k - nI nl) 240 := by rw [ei]; exact vp_in_nI (by omega) (by omega)
      have hlt2 : k - nl < RA.length := by omega
      have et : a_rights (nI r * 30 + nI k - nI nl).toNatClampNeg = t := by
        rw [ei, nI_clamp (by omega), hd_get hRA hlt2]
        rw [List.getElem?_append_right (by omega), ← hnl, List.getElem?_eq_getElem hlt2] at htk
        injection htk
      refine ⟨hin, ?_⟩
      rw [et]
      exact lay
    · have ei : nI r * 16 * 30 + nI k = nI (r * 480 + k) := by rw [show (30 : Int32) = nI 30 from rfl, show (16 : Int32) = nI 16 from rfl, pk_mul, pk_mul, nI_add, show r * 16 * 30 = r * 480 by omega]
      have hin : vp_in (nI r * 16 * 30 + nI k) 3840 := by rw [ei]; exact vp_in_nI (by omega) (by omega)
      have hlt2 : k < A.length := by omega
      have et : a_lefts (nI r * 16 * 30 + nI k).toNatClampNeg = t := by
        rw [ei, nI_clamp (by omega), hd_get hA hlt2]
        rw [List.getElem?_append_left hlt2, List.getElem?_eq_getElem hlt2] at htk
        injection htk
      refine ⟨hin, ?_⟩
      rw [et]
      exact lay
theorem xl_lay {post : SX → Prop} {r fr s : Nat} {g : Int64 → Int64} {x y : Int32} (hx : x = nI fr) (hy : y = nI s) (hG : mc_G L R) (hR : xr_R L R a_lefts a_leftSize a_ways a_rights a_rightSize) (hr : r < 8) (h0 : L r ≠ []) (hfr : fr + 30 ≤ 60) (hg : ∀ t, t ∈ L r ++ R r → g t = if t < 8589934592 then t else t + (nI s).toInt64) (H : ∀ jo, hd_h jo fr ((L r ++ R r).map g) → hd_o a_joint jo fr 30 → post (f_drafted, f_faultPlace, f_reportedSteps, f_resultSize, f_sheetSize, f_waitingSize, f_builtSize, f_unfinished, f_taken, f_keptSize, f_stacked, f_ranked, f_surveyed, a_draft, a_result, a_lefts, a_leftSize, a_ways, a_rights, a_rightSize, a_sheet, a_waiting, a_built, a_unfinishedStart, a_unfinishedLacks, a_kept, a_matchStart, a_matchEnd, jo, a_unified, a_oneStack, a_otherStack, a_nestedAt, a_nestedEnd, a_rank, a_pairCount, a_firstOpen)) : wpX_layOut post (f_drafted, f_faultPlace, f_reportedSteps, f_resultSize, f_sheetSize, f_waitingSize, f_builtSize, f_unfinished, f_taken, f_keptSize, f_stacked, f_ranked, f_surveyed, a_draft, a_result, a_lefts, a_leftSize, a_ways, a_rights, a_rightSize, a_sheet, a_waiting, a_built, a_unfinishedStart, a_unfinishedLacks, a_kept, a_matchStart, a_matchEnd, a_joint, a_unified, a_oneStack, a_otherStack, a_nestedAt, a_nestedEnd, a_rank, a_pairCount, a_firstOpen) (nI r) x y := by
  subst hx hy
  obtain ⟨_, _, h3⟩ := hR r hr
  obtain ⟨w1, w2, w3, w4, w5⟩ := h3 h0
  rcases hG r with z | ⟨g1, g2, g3, g4, g5, g6, g7, g8⟩
  · exact absurd z h0
  refine ⟨vp_in_nI hr (by omega), nm_r (e' := nI (L r).length) (by rw [nI_clamp (by omega), w2]) ⟨(L r ++ R r).length + 1, ?_⟩⟩
  exact xl_11 (j0 := a_joint) hr rfl w3 g3 hfr hg (xr_left hR hr h0) w4 H (L r ++ R r) [] _ 0 a_joint rfl rfl trivial (fun z _ => rfl) (by omega)
theorem xl_peak {post : Int32 → SX → Prop} {x1 : Int32} : ∀ (d k n : Nat) (ra : Nat → Int32), k + d = 8 → (∀ v, v < k → ra v = -1) → d < n → (∀ ra' : Nat → Int32, (∀ v, v < 8 → ra' v = -1) → (vp_in x1 8 ∧ (wpX_expand (fun u => match u with | (f_drafted0, f_faultPlace0, f_reportedSteps0, f_resultSize0, f_sheetSize0, f_waitingSize0, f_builtSize0, f_unfinished0, f_taken0, f_keptSize0, f_stacked0, f_ranked0, f_surveyed0, a_draft0, a_result0, a_lefts0, a_leftSize0, a_ways0, a_rights0, a_rightSize0, a_sheet0, a_waiting0, a_built0, a_unfinishedStart0, a_unfinishedLacks0, a_kept0, a_matchStart0, a_matchEnd0, a_joint0, a_unified0, a_oneStack0, a_otherStack0, a_nestedAt0, a_nestedEnd0, a_rank0, a_pairCount0, a_firstOpen0) => ((30 < f_sheetSize0 → post 0 (f_drafted0, f_faultPlace0, f_reportedSteps0, f_resultSize0, f_sheetSize0, f_waitingSize0, f_builtSize0, f_unfinished0, f_taken0, f_keptSize0, f_stacked0, f_ranked0, f_surveyed0, a_draft0, a_result0, a_lefts0, a_leftSize0, a_ways0, a_rights0, a_rightSize0, a_sheet0, a_waiting0, a_built0, a_unfinishedStart0, a_unfinishedLacks0, a_kept0, a_matchStart0, a_matchEnd0, a_joint0, a_unified0, a_oneStack0, a_otherStack0, a_nestedAt0, a_nestedEnd0, a_rank0, a_pairCount0, a_firstOpen0)) ∧ (¬ 30 < f_sheetSize0 → post 1 (f_drafted0, f_faultPlace0, f_reportedSteps0, f_resultSize0, f_sheetSize0, f_waitingSize0, f_builtSize0, f_unfinished0, f_taken0, f_keptSize0, f_stacked0, f_ranked0, f_surveyed0, a_draft0, a_result0, a_lefts0, a_leftSize0, a_ways0, a_rights0, a_rightSize0, a_sheet0, a_waiting0, a_built0, a_unfinishedStart0, a_unfinishedLacks0, a_kept0, a_matchStart0, a_matchEnd0, a_joint0, a_unified0, a_oneStack0, a_otherStack0, a_nestedAt0, a_nestedEnd0, a_rank0, a_pairCount0, a_firstOpen0))) ) (f_drafted, f_faultPlace, f_reportedSteps, f_resultSize, 0, f_waitingSize, f_builtSize, f_unfinished, f_taken, f_keptSize, f_stacked, 0, f_surveyed, a_draft, a_result, a_lefts, a_leftSize, a_ways, a_rights, a_rightSize, a_sheet, a_waiting, a_built, a_unfinishedStart, a_unfinishedLacks, a_kept, a_matchStart, a_matchEnd, a_joint, a_unified, a_oneStack, a_otherStack, a_nestedAt, a_nestedEnd, ra', a_pairCount, a_firstOpen) 0 (a_leftSize x1.toNatClampNeg)))) → wX_isPeakSmall_2 post x1 f_drafted f_faultPlace f_reportedSteps f_resultSize f_sheetSize f_waitingSize f_builtSize f_unfinished f_taken f_keptSize f_stacked f_ranked f_surveyed n (nI k) a_draft a_result a_lefts a_leftSize a_ways a_rights a_rightSize a_sheet a_waiting a_built a_unfinishedStart a_unfinishedLacks a_kept a_matchStart a_matchEnd a_joint a_unified a_oneStack a_otherStack a_nestedAt a_nestedEnd ra a_pairCount a_firstOpen
  | 0, k, n, ra, hk, hm, hn, H => by
    obtain ⟨n, rfl⟩ : ∃ n', n = n' + 1 := ⟨n - 1, by omega⟩
    exact pk_le 8 k (fun _ => H ra (fun v hv => hm v (by omega))) (fun z => absurd z (by omega))
  | d + 1, k, n, ra, hk, hm, hn, H => by
    obtain ⟨n, rfl⟩ : ∃ n', n = n' + 1 := ⟨n - 1, by omega⟩
    refine pk_le 8 k (fun z => absurd z (by omega)) (fun _ => ⟨vp_in_nI (by omega) (by omega), nm_r (e' := upd ra k (-1)) (by rw [nI_clamp (by omega)]) (nm_r (nI_1 k) ?_)⟩)
    refine xl_peak d (k + 1) n _ (by omega) (fun v hv => ?_) (by omega) H
    by_cases e : v = k
    · rw [e, pk_us]
    · rw [pk_un e]; exact hm v (by omega)
/-- one verdict more -/
def vd_pc (v : Nat) (pc : Nat → Int32) : Nat → Int32 := upd (upd pc 0 (pc 0 + 1)) v (upd pc 0 (pc 0 + 1) v + 1)
def vd_fo (v i j p : Nat) (fo : Nat → Int32) : Nat → Int32 := if v = 2 ∧ fo 0 = -2 then upd (upd (upd fo 0 (nI i)) 1 (nI j)) 2 (nI p) else fo
theorem xl_count {post : SX → Prop} {v i j p : Nat} (hv : v < 4) (h : post (f_drafted, f_faultPlace, f_reportedSteps, f_resultSize, f_sheetSize, f_waitingSize, f_builtSize, f_unfinished, f_taken, f_keptSize, f_stacked, f_ranked, f_surveyed, a_draft, a_result, a_lefts, a_leftSize, a_ways, a_rights, a_rightSize, a_sheet, a_waiting, a_built, a_unfinishedStart, a_unfinishedLacks, a_kept, a_matchStart, a_matchEnd, a_joint, a_unified, a_oneStack, a_otherStack, a_nestedAt, a_nestedEnd, a_rank, vd_pc v a_pairCount, vd_fo v i j p a_firstOpen)) : wpX_count post (f_drafted, f_faultPlace, f_reportedSteps, f_resultSize, f_sheetSize, f_waitingSize, f_builtSize, f_unfinished, f_taken, f_keptSize, f_stacked, f_ranked, f_surveyed, a_draft, a_result, a_lefts, a_leftSize, a_ways, a_rights, a_rightSize, a_sheet, a_waiting, a_built, a_unfinishedStart, a_unfinishedLacks, a_kept, a_matchStart, a_matchEnd, a_joint, a_unified, a_oneStack, a_otherStack, a_nestedAt, a_nestedEnd, a_rank, a_pairCount, a_firstOpen) (nI v) (nI i) (nI j) (nI p) := by
  have hin : vp_in (nI v) 4 := vp_in_nI hv (by omega)
  have ev : (nI v).toNatClampNeg = v := nI_clamp (by omega)
  refine nm_e ⟨hin, hin, nm_r (e' := vd_pc v a_pairCount) (by rw [ev]; rfl) ?_⟩
  unfold vd_fo at h
  refine pk_eq v 2 (fun h2 => ?_) (fun h2 => ?_)
  · by_cases hf : a_firstOpen 0 = -2
    · rw [if_pos ⟨h2, hf⟩] at h
      exact br_t hf (nm_e (nm_e (nm_e h)))
    · rw [if_neg (fun z => hf z.2)] at h
      exact br_f hf h
  · rw [if_neg (fun z => h2 z.1)] at h
    exact h
theorem xl_forget22 {post : SX → Prop} : ∀ (d k n : Nat) (fo : Nat → Int32), k + d = 3 → (∀ v, v < k → fo v = -2) → d < n → (∀ fo' : Nat → Int32, (∀ v, v < 3 → fo' v = -2) → post (f_drafted, f_faultPlace, f_reportedSteps, f_resultSize, f_sheetSize, f_waitingSize, f_builtSize, f_unfinished, f_taken, f_keptSize, f_stacked, f_ranked, f_surveyed, a_draft, a_result, a_lefts, a_leftSize, a_ways, a_rights, a_rightSize, a_sheet, a_waiting, a_built, a_unfinishedStart, a_unfinishedLacks, a_kept, a_matchStart, a_matchEnd, a_joint, a_unified, a_oneStack, a_otherStack, a_nestedAt, a_nestedEnd, a_rank, a_pairCount, fo')) → wX_forgetPairs_22 post f_drafted f_faultPlace f_reportedSteps f_resultSize f_sheetSize f_waitingSize f_builtSize f_unfinished f_taken f_keptSize f_stacked f_ranked f_surveyed n (nI k) a_draft a_result a_lefts a_leftSize a_ways a_rights a_rightSize a_sheet a_waiting a_built a_unfinishedStart a_unfinishedLacks a_kept a_matchStart a_matchEnd a_joint a_unified a_oneStack a_otherStack a_nestedAt a_nestedEnd a_rank a_pairCount fo
  | 0, k, n, fo, hk, hm, hn, H => by
    obtain ⟨n, rfl⟩ : ∃ n', n = n' + 1 := ⟨n - 1, by omega⟩
    exact pk_le 3 k (fun _ => H fo (fun v hv => hm v (by omega))) (fun z => absurd z (by omega))
  | d + 1, k, n, fo, hk, hm, hn, H => by
    obtain ⟨n, rfl⟩ : ∃ n', n = n' + 1 := ⟨n - 1, by omega⟩
    refine pk_le 3 k (fun z => absurd z (by omega)) (fun _ => ⟨vp_in_nI (by omega) (by omega), nm_r (e' := upd fo k (-2)) (by rw [nI_clamp (by omega)]) (nm_r (nI_1 k) ?_)⟩)
    refine xl_forget22 d (k + 1) n _ (by omega) (fun v hv => ?_) (by omega) H
    by_cases e : v = k
    · rw [e, pk_us]
    · rw [pk_un e]; exact hm v (by omega)
theorem xl_forget2 {post : SX → Prop} : ∀ (d k n : Nat) (pc : Nat → Int32), k + d = 4 → (∀ v, v < k → pc v = 0) → d < n → (∀ pc' fo' : Nat → Int32, (∀ v, v < 4 → pc' v = 0) → (∀ v, v < 3 → fo' v = -2) → post (f_drafted, f_faultPlace, f_reportedSteps, f_resultSize, f_sheetSize, f_waitingSize, f_builtSize, f_unfinished, f_taken, f_keptSize, f_stacked, f_ranked, f_surveyed, a_draft, a_result, a_lefts, a_leftSize, a_ways, a_rights, a_rightSize, a_sheet, a_waiting, a_built, a_unfinishedStart, a_unfinishedLacks, a_kept, a_matchStart, a_matchEnd, a_joint, a_unified, a_oneStack, a_otherStack, a_nestedAt, a_nestedEnd, a_rank, pc', fo')) → wX_forgetPairs_2 post f_drafted f_faultPlace f_reportedSteps f_resultSize f_sheetSize f_waitingSize f_builtSize f_unfinished f_taken f_keptSize f_stacked f_ranked f_surveyed n (nI k) a_draft a_result a_lefts a_leftSize a_ways a_rights a_rightSize a_sheet a_waiting a_built a_unfinishedStart a_unfinishedLacks a_kept a_matchStart a_matchEnd a_joint a_unified a_oneStack a_otherStack a_nestedAt a_nestedEnd a_rank pc a_firstOpen
  | 0, k, n, pc, hk, hm, hn, H => by
    obtain ⟨n, rfl⟩ : ∃ n', n = n' + 1 := ⟨n - 1, by omega⟩
    exact pk_le 4 k (fun _ => ⟨4, xl_forget22 3 0 4 _ rfl (fun v hv => absurd hv (by omega)) (by omega) (fun fo' h => H pc fo' (fun v hv => hm v (by omega)) h)⟩) (fun z => absurd z (by omega))
  | d + 1, k, n, pc, hk, hm, hn, H => by
    obtain ⟨n, rfl⟩ : ∃ n', n = n' + 1 := ⟨n - 1, by omega⟩
    refine pk_le 4 k (fun z => absurd z (by omega)) (fun _ => ⟨vp_in_nI (by omega) (by omega), nm_r (e' := upd pc k 0) (by rw [nI_clamp (by omega)]) (nm_r (nI_1 k) ?_)⟩)
    refine xl_forget2 d (k + 1) n _ (by omega) (fun v hv => ?_) (by omega) H
    by_cases e : v = k
    · rw [e, pk_us]
    · rw [pk_un e]; exact hm v (by omega)
end
end
section
/-! both sides of a pair: one term each, every variable ranked -/
theorem vd_base {L R : Nat → List Int64} (hG : mc_G L R) {r : Nat} (h : vd_pl L R r = true) : L r ≠ [] ∧ tm_w (L r) 1 ∧ tm_w (R r) 1 ∧ (L r).length + (R r).length ≤ 30 ∧ (L r).length ≤ 29 ∧ (∀ t, t ∈ L r → vd_k t) ∧ (∀ t, t ∈ R r → vd_k t) ∧ ∀ t, t ∈ R r → ¬ t < 8589934592 → t ∈ L r := by
  unfold vd_pl at h
  rw [Bool.and_eq_true, Bool.and_eq_true] at h
  obtain ⟨⟨h1, h2⟩, h3⟩ := h
  have h0 : L r ≠ [] := by
    intro z
    rw [z] at h1
    exact absurd h1 (by decide)
  rcases hG r with z | ⟨g1, g2, g3, g4, g5, g6, g7, g8⟩
  · exact absurd z h0
  · have := tm_w_len _ _ g2
    rw [List.all_eq_true] at h2 h3
    exact ⟨h0, g1, g2, g3, by omega, fun t ht => (vd_p_k (g4 t ht)).mp (h2 t ht), fun t ht => (vd_p_k (g5 t ht)).mp (h3 t ht), g8⟩
theorem vd_B {L R : Nat → List Int64} (hG : mc_G L R) {r : Nat} (h : vd_pl L R r = true) : tm_w ((L r).map vd_h) 1 ∧ tm_w ((R r).map vd_h) 1 ∧ (∀ t, t ∈ (L r).map vd_h → jn_k t) ∧ (∀ t, t ∈ (R r).map vd_h → jn_k t) ∧ ∀ t, t ∈ (R r).map vd_h → ¬ t < 8589934592 → t ∈ (L r).map vd_h := by
  obtain ⟨h0, h1, h2, h3, h4, h5, h6, h7⟩ := vd_base hG h
  refine ⟨vd_map_w vd_h _ _ (fun t ht => (vd_k_h (h5 t ht)).2.1) h1, vd_map_w vd_h _ _ (fun t ht => (vd_k_h (h6 t ht)).2.1) h2, fun t ht => ?_, fun t ht => ?_, fun t ht hn => ?_⟩
  · obtain ⟨s, hs, e⟩ := List.mem_map.mp ht
    rw [← e]; exact (vd_k_h (h5 s hs)).1
  · obtain ⟨s, hs, e⟩ := List.mem_map.mp ht
    rw [← e]; exact (vd_k_h (h6 s hs)).1
  · obtain ⟨s, hs, e⟩ := List.mem_map.mp ht
    rw [← e] at hn ⊢
    have : ¬ s < 8589934592 := fun z => hn ((vd_k_h (h6 s hs)).2.2.mpr z)
    exact List.mem_map.mpr ⟨s, h7 s hs this, rfl⟩
theorem jn_t30 {J : Nat → Int64} {A B : List Int64} (H : jn_H J A B) : jn_t A B 30 = B := by
  unfold jn_t
  have : jn_s A B 30 = B := by unfold jn_s; rw [if_neg (by omega)]; exact List.drop_zero
  rw [this, tm_n_all H.2.1]
  exact List.take_of_length_le (Nat.le_refl _)
/-- what is in an expansion of a list whose variables come in another -/
theorem us_E_sub {ρ : Nat → List Int64} {l m : List Int64} (hlk : ∀ t, t ∈ l → jn_k t) (h : ∀ t, t ∈ l → ¬ t < 8589934592 → t ∈ m) : ∀ z, z ∈ us_E ρ l → ¬ z < 8589934592 → z ∈ us_E ρ m := by
  intro z hz hn
  unfold us_E at hz
  obtain ⟨s, hs, hz⟩ := List.mem_flatMap.mp hz
  by_cases hss : s < 8589934592
  · rw [if_pos hss, List.mem_singleton] at hz
    rw [hz] at hn
    exact absurd hss hn
  · rw [if_neg hss] at hz
    exact us_E_mem (h s hs hss) hss hz
def vd_r2 (A B RB : List Int64) (p : Nat) (σ : Nat → Option Nat) : List Int64 := us_E (us_h A B σ 8) (A.take p) ++ (us_E (us_h A B σ 8) RB ++ us_E (us_h A B σ 8) (A.drop (p + (jn_t A B p).length)))
section
variable {J : Nat → Int64} {A B RA RB : List Int64} {σ : Nat → Option Nat} {rk : Nat → Nat} {p : Nat}
theorem vd_side (H : jn_H J A B) (hR : us_R A B σ rk) (hp : p < A.length) (hE : us_E (us_h A B σ 8) (jn_t A B p) = us_E (us_h A B σ 8) (jn_t A B 30)) (hRA : tm_w RA 1) (hRAk : ∀ t, t ∈ RA → jn_k t) (hRAs : ∀ t, t ∈ RA → ¬ t < 8589934592 → t ∈ A) (hRB : tm_w RB 1) (hRBk : ∀ t, t ∈ RB → jn_k t) (hRBs : ∀ t, t ∈ RB → ¬ t < 8589934592 → t ∈ B) {ra0 : Nat → Int32} (h0 : ∀ v, v < 8 → ra0 v = -1) :
    (∀ t, t ∈ us_E (us_h A B σ 8) A → jn_k t) ∧ (∀ t, t ∈ us_E (us_h A B σ 8) RA → jn_k t) ∧ (∀ t, t ∈ vd_r2 A B RB p σ → jn_k t) ∧
    tm_w (us_E (us_h A B σ 8) RA) 1 ∧ tm_w (vd_r2 A B RB p σ) 1 ∧
    (∀ t, t ∈ us_E (us_h A B σ 8) RA → ¬ t < 8589934592 → ∃ r, r < 8 ∧ (rn_f (us_E (us_h A B σ 8) A) ra0 0).1 (jn_n t) = nI r) ∧
    (∀ t, t ∈ vd_r2 A B RB p σ → ¬ t < 8589934592 → ∃ r, r < 8 ∧ (rn_f (us_E (us_h A B σ 8) A) ra0 0).1 (jn_n t) = nI r) := by
  have hAk := H.2.2.2.2.2.2.1
  have hw := us_h_w H hR 8
  have hρk : ∀ v, v < 8 → ∀ t, t ∈ us_h A B σ 8 v → jn_k t := fun v hv => (hw v hv).2
  have hρw : ∀ v, v < 8 → tm_w (us_h A B σ 8 v) 1 := fun v hv => (hw v hv).1
  have hEA := us_E_k hρk hAk
  have hok := rn_ok_f _ _ _ (rn_ok0 h0) hEA
  have rank : ∀ t, t ∈ us_E (us_h A B σ 8) A → ¬ t < 8589934592 → ∃ r, r < 8 ∧ (rn_f (us_E (us_h A B σ 8) A) ra0 0).1 (jn_n t) = nI r := by
    intro t ht hn
    have h1 := rn_f_has _ _ _ (rn_ok0 h0) hEA t ht hn
    have h8 := rn_c_le (rn_f (us_E (us_h A B σ 8) A) ra0 0).1 8
    rcases hok.1 _ (jn_var (hEA t ht) hn).1 with z | ⟨r, z1, z2⟩
    · rw [z] at h1; exact absurd h1 (by decide)
    · exact ⟨r, by have := hok.2; omega, z2⟩
  have hv : jn_v A B p := Or.inl hp
  obtain ⟨l, r, k, q1, q2, q3, q4, q5, q6, q7, q8, q9⟩ := jn_tm H hv
  have hAl : A.length ≤ 29 := H.2.2.1
  have hsuf : A.drop p = jn_t A B p ++ r := by
    unfold jn_s at q4
    rw [if_pos (by omega)] at q4
    exact q4
  have hrd : A.drop (p + (jn_t A B p).length) = r := by rw [← List.drop_drop, hsuf, List.drop_left]
  have hAs : A = A.take p ++ (jn_t A B p ++ r) := by rw [← hsuf]; exact (List.take_append_drop p A).symm
  have htm : ∀ t, t ∈ A.take p → t ∈ A := fun t ht => List.mem_of_mem_take ht
  have hjm : ∀ t, t ∈ jn_t A B p → t ∈ A := fun t ht => by rw [hAs]; exact List.mem_append.mpr (Or.inr (List.mem_append.mpr (Or.inl ht)))
  have hrm : ∀ t, t ∈ r → t ∈ A := fun t ht => by rw [hAs]; exact List.mem_append.mpr (Or.inr (List.mem_append.mpr (Or.inr ht)))
  have hB30 := jn_t30 H
  have subRB : ∀ z, z ∈ us_E (us_h A B σ 8) RB → ¬ z < 8589934592 → z ∈ us_E (us_h A B σ 8) A := by
    intro z hz hn
    have h1 := us_E_sub hRBk hRBs z hz hn
    have h2 : us_E (us_h A B σ 8) B = us_E (us_h A B σ 8) (jn_t A B p) := (congrArg (us_E (us_h A B σ 8)) hB30).symm.trans hE.symm
    rw [h2] at h1
    exact us_E_sub (fun t ht => hAk t (hjm t ht)) (fun t ht _ => hjm t ht) z h1 hn
  refine ⟨hEA, us_E_k hρk hRAk, fun t ht => ?_, us_E_w hρw _ _ hRAk hRA, ?_, fun t ht hn => rank t (us_E_sub hRAk hRAs t ht hn) hn, fun t ht hn => ?_⟩
  · unfold vd_r2 at ht
    rw [hrd] at ht
    rcases List.mem_append.mp ht with z | z
    · exact us_E_k hρk (fun t ht => hAk t (htm t ht)) t z
    · rcases List.mem_append.mp z with z | z
      · exact us_E_k hρk hRBk t z
      · exact us_E_k hρk (fun t ht => hAk t (hrm t ht)) t z
  · unfold vd_r2
    rw [hrd, ← us_E_app, ← us_E_app]
    refine us_E_w hρw _ _ (fun t ht => ?_) (vd_rep 1 (by rw [← hAs]; exact H.1) q3 hRB)
    rcases List.mem_append.mp ht with z | z
    · exact hAk t (htm t z)
    · rcases List.mem_append.mp z with z | z
      · exact hRBk t z
      · exact hAk t (hrm t z)
  · unfold vd_r2 at ht
    rw [hrd] at ht
    refine rank t ?_ hn
    rcases List.mem_append.mp ht with z | z
    · exact us_E_sub (fun t ht => hAk t (htm t ht)) (fun t ht _ => htm t ht) t z hn
    · rcases List.mem_append.mp z with z | z
      · exact subRB t z hn
      · exact us_E_sub (fun t ht => hAk t (hrm t ht)) (fun t ht _ => hrm t ht) t z hn
/-- a side with its names -/
theorem vd_named {ra : Nat → Int32} {l : List Int64} (hk : ∀ t, t ∈ l → jn_k t) (hr : ∀ t, t ∈ l → ¬ t < 8589934592 → ∃ r, r < 8 ∧ ra (jn_n t) = nI r) (hw : tm_w l 1) : tm_w (l.map (rn_n ra)) 1 ∧ (∀ t, t ∈ l.map (rn_n ra) → tk_t t) ∧ (∀ t, t ∈ l → ¬ t < 8589934592 → 0 ≤ ra (jn_n t)) := by
  refine ⟨vd_map_w _ _ _ (fun t ht => (rn_good (hk t ht) (hr t ht)).1) hw, fun t ht => ?_, fun t ht hn => ?_⟩
  · obtain ⟨s, hs, e⟩ := List.mem_map.mp ht
    rw [← e]; exact (rn_good (hk s hs) (hr s hs)).2.1
  · obtain ⟨r, h8, e⟩ := hr t ht hn
    rw [e]; exact nI_pos' (by omega)
end
section
variable {f_drafted f_faultPlace f_reportedSteps f_resultSize f_sheetSize f_waitingSize f_builtSize f_unfinished f_taken f_keptSize f_stacked f_ranked f_surveyed : Int32} {a_draft a_result a_lefts a_rights a_sheet a_waiting a_built a_kept a_joint : Nat → Int64} {a_leftSize a_ways a_rightSize a_unfinishedStart a_unfinishedLacks a_matchStart a_matchEnd a_unified a_oneStack a_otherStack a_nestedAt a_nestedEnd a_rank a_pairCount a_firstOpen : Nat → Int32}
/-- the sheet is full -/
theorem xk_full {post : SX → Prop} {x y : Int32} (h : ∀ na ne : Nat → Int32, post (f_drafted, f_faultPlace, f_reportedSteps, f_resultSize, nI 31, f_waitingSize, f_builtSize, f_unfinished, f_taken, f_keptSize, f_stacked, f_ranked, f_surveyed, a_draft, a_result, a_lefts, a_leftSize, a_ways, a_rights, a_rightSize, a_sheet, a_waiting, a_built, a_unfinishedStart, a_unfinishedLacks, a_kept, a_matchStart, a_matchEnd, a_joint, a_unified, a_oneStack, a_otherStack, na, ne, a_rank, a_pairCount, a_firstOpen)) : wpX_expand post (f_drafted, f_faultPlace, f_reportedSteps, f_resultSize, nI 31, f_waitingSize, f_builtSize, f_unfinished, f_taken, f_keptSize, f_stacked, f_ranked, f_surveyed, a_draft, a_result, a_lefts, a_leftSize, a_ways, a_rights, a_rightSize, a_sheet, a_waiting, a_built, a_unfinishedStart, a_unfinishedLacks, a_kept, a_matchStart, a_matchEnd, a_joint, a_unified, a_oneStack, a_otherStack, a_nestedAt, a_nestedEnd, a_rank, a_pairCount, a_firstOpen) x y :=
  nm_e (nm_e ⟨1, br_f (by decide) (br_f (by decide) (br_t (by decide) (h _ _)))⟩)
end
end
section
/-! the component: the other side, one turn of the survey -/
section
variable {f_drafted f_faultPlace f_reportedSteps f_resultSize f_sheetSize f_waitingSize f_builtSize f_unfinished f_taken f_keptSize f_stacked f_ranked f_surveyed : Int32} {a_draft a_result a_lefts a_rights a_sheet a_waiting a_built a_kept a_joint : Nat → Int64} {a_leftSize a_ways a_rightSize a_unfinishedStart a_unfinishedLacks a_matchStart a_matchEnd a_unified a_oneStack a_otherStack a_nestedAt a_nestedEnd a_rank a_pairCount a_firstOpen : Nat → Int32}
variable {A B : List Int64} {σ : Nat → Option Nat} {rk : Nat → Nat}
/-- one stretch more onto the sheet, where every name has its rank -/
theorem xk_more {post : SX → Prop} {T l : List Int64} {ra0 : Nat → Int32} {x y : Int32} (p c : Nat) (hx : x = nI p) (hy : y = nI (p + l.length)) (hss : f_sheetSize = nI (T.take 31).length) (hsh : hd_h a_sheet 0 (T.take 31)) (hra : T.length ≤ 30 → a_rank = ra0 ∧ f_ranked = nI c) (H : jn_H a_joint A B) (hR : us_R A B σ rk) (hu : xu_s a_unified σ) (hl : hd_h a_joint p l) (hlk : ∀ t, t ∈ l → jn_k t) (hpl : p + l.length ≤ 60) (hrk : ∀ t, t ∈ us_E (us_h A B σ 8) l → ¬ t < 8589934592 → 0 ≤ ra0 (jn_n t))
    (Hp : ∀ (ss rc : Int32) (zs : Nat → Int64) (ra na ne : Nat → Int32), ss = nI ((T ++ (us_E (us_h A B σ 8) l).map (rn_n ra0)).take 31).length → hd_h zs 0 ((T ++ (us_E (us_h A B σ 8) l).map (rn_n ra0)).take 31) → ((T ++ (us_E (us_h A B σ 8) l).map (rn_n ra0)).length ≤ 30 → ra = ra0 ∧ rc = nI c) → post (f_drafted, f_faultPlace, f_reportedSteps, f_resultSize, ss, f_waitingSize, f_builtSize, f_unfinished, f_taken, f_keptSize, f_stacked, rc, f_surveyed, a_draft, a_result, a_lefts, a_leftSize, a_ways, a_rights, a_rightSize, zs, a_waiting, a_built, a_unfinishedStart, a_unfinishedLacks, a_kept, a_matchStart, a_matchEnd, a_joint, a_unified, a_oneStack, a_otherStack, na, ne, ra, a_pairCount, a_firstOpen)) : wpX_expand post (f_drafted, f_faultPlace, f_reportedSteps, f_resultSize, f_sheetSize, f_waitingSize, f_builtSize, f_unfinished, f_taken, f_keptSize, f_stacked, f_ranked, f_surveyed, a_draft, a_result, a_lefts, a_leftSize, a_ways, a_rights, a_rightSize, a_sheet, a_waiting, a_built, a_unfinishedStart, a_unfinishedLacks, a_kept, a_matchStart, a_matchEnd, a_joint, a_unified, a_oneStack, a_otherStack, a_nestedAt, a_nestedEnd, a_rank, a_pairCount, a_firstOpen) x y := by
  subst hss
  by_cases h : T.length ≤ 30
  · obtain ⟨e1, e2⟩ := hra h
    subst e1 e2
    have eT : T.take 31 = T := List.take_of_length_le (by omega)
    rw [eT] at hsh ⊢
    obtain ⟨m1, m2⟩ := rn_l_map _ _ c hrk
    refine xk_expand (q := T) p c T.length rfl hx hy H hR hu (us_h_sol hR) (fun v hv => us_h_none hv 8) hl hlk hpl (by omega) hsh (fun ss rc zs ra' na ne g1 g2 g3 => ?_)
    rw [m1] at g1 g2
    rw [m2] at g3
    refine Hp ss rc zs ra' na ne g1 g2 (fun hh => g3 ?_)
    rw [List.length_append, List.length_map] at hh
    exact hh
  · have e31 : (T.take 31).length = 31 := by rw [List.length_take]; omega
    have et : (T ++ (us_E (us_h A B σ 8) l).map (rn_n ra0)).take 31 = T.take 31 := List.take_append_of_le_length (by omega)
    rw [et] at Hp
    rw [e31] at Hp ⊢
    exact xk_full (fun na ne => Hp (nI 31) f_ranked a_sheet a_rank na ne rfl hsh (fun z => absurd z (by rw [List.length_append]; omega)))
theorem xo_other {post : SX → Prop} {i j p c : Nat} {RB : List Int64} (hi : i < 8) (hj : j < 8) (hlA : a_leftSize i = nI A.length) (hlB : a_leftSize j = nI B.length) (hrB : a_rightSize j = nI RB.length) (hB30 : B.length + RB.length ≤ 30) (H : jn_H a_joint A B) (hR : us_R A B σ rk) (hu : xu_s a_unified σ) (hJ : hd_h a_joint (30 + B.length) RB) (hRBk : ∀ t, t ∈ RB → jn_k t) (hp : p < A.length) (hrk : ∀ t, t ∈ vd_r2 A B RB p σ → ¬ t < 8589934592 → 0 ≤ a_rank (jn_n t)) (hc : f_ranked = nI c)
    (Hp : ∀ (ss rc : Int32) (zs : Nat → Int64) (ra na ne : Nat → Int32), ss = nI (((vd_r2 A B RB p σ).map (rn_n a_rank)).take 31).length → hd_h zs 0 (((vd_r2 A B RB p σ).map (rn_n a_rank)).take 31) → post (f_drafted, f_faultPlace, f_reportedSteps, f_resultSize, ss, f_waitingSize, f_builtSize, f_unfinished, f_taken, f_keptSize, f_stacked, rc, f_surveyed, a_draft, a_result, a_lefts, a_leftSize, a_ways, a_rights, a_rightSize, zs, a_waiting, a_built, a_unfinishedStart, a_unfinishedLacks, a_kept, a_matchStart, a_matchEnd, a_joint, a_unified, a_oneStack, a_otherStack, na, ne, ra, a_pairCount, a_firstOpen)) : wpX_writeOtherSide post (f_drafted, f_faultPlace, f_reportedSteps, f_resultSize, f_sheetSize, f_waitingSize, f_builtSize, f_unfinished, f_taken, f_keptSize, f_stacked, f_ranked, f_surveyed, a_draft, a_result, a_lefts, a_leftSize, a_ways, a_rights, a_rightSize, a_sheet, a_waiting, a_built, a_unfinishedStart, a_unfinishedLacks, a_kept, a_matchStart, a_matchEnd, a_joint, a_unified, a_oneStack, a_otherStack, a_nestedAt, a_nestedEnd, a_rank, a_pairCount, a_firstOpen) (nI i) (nI j) (nI p) := by
  have hAl : A.length ≤ 29 := H.2.2.1
  have hBl : B.length ≤ 29 := H.2.2.2.1
  have hA0 : hd_h a_joint 0 A := H.2.2.2.2.1
  have hAk := H.2.2.2.2.2.2.1
  obtain ⟨l, r, k, q1, q2, q3, q4, q5, q6, q7, q8, q9⟩ := jn_tm H (Or.inl hp)
  have hsuf : A.drop p = jn_t A B p ++ r := by
    unfold jn_s at q4
    rw [if_pos (by omega)] at q4
    exact q4
  have hrd : A.drop (p + (jn_t A B p).length) = r := by rw [← List.drop_drop, hsuf, List.drop_left]
  have hAs : A = A.take p ++ (jn_t A B p ++ r) := by rw [← hsuf]; exact (List.take_append_drop p A).symm
  have hlen : p + (jn_t A B p).length + r.length = A.length := by
    have := congrArg List.length hsuf
    rw [List.length_drop, List.length_append] at this
    omega
  have hA1 : hd_h a_joint 0 (A.take p ++ (jn_t A B p ++ r)) := by rw [← hAs]; exact hA0
  have htl : (A.take p).length = p := by rw [List.length_take]; omega
  obtain ⟨d1, d2⟩ := hd_app.mp hA1
  rw [htl, Nat.zero_add] at d2
  have d3 := (hd_app.mp d2).2
  have htm : ∀ t, t ∈ A.take p → t ∈ A := fun t ht => List.mem_of_mem_take ht
  have hrm : ∀ t, t ∈ r → t ∈ A := fun t ht => by rw [hAs]; exact List.mem_append.mpr (Or.inr (List.mem_append.mpr (Or.inr ht)))
  have eS : vd_r2 A B RB p σ = us_E (us_h A B σ 8) (A.take p) ++ (us_E (us_h A B σ 8) RB ++ us_E (us_h A B σ 8) r) := by unfold vd_r2; rw [hrd]
  rw [eS] at hrk Hp
  rw [List.map_append, List.map_append] at Hp
  have ci : (nI i).toNatClampNeg = i := nI_clamp (by omega)
  have cj : (nI j).toNatClampNeg = j := nI_clamp (by omega)
  have ini : vp_in (nI i) 8 := vp_in_nI hi (by omega)
  have inj : vp_in (nI j) 8 := vp_in_nI hj (by omega)
  unfold wpX_writeOtherSide
  refine ⟨inj, nm_r (e' := nI (30 + B.length)) (by rw [cj, hlB]; exact nI_add 30 _) ⟨ini, ?_⟩⟩
  rw [ci, cj, hlA]
  refine xe_joint (a := jn_t A B p) (r := r) p A.length (p + (jn_t A B p).length) q3 d2 (by omega) rfl (by omega) ?_
  refine xk_more (T := []) (l := A.take p) (ra0 := a_rank) 0 c rfl (by rw [htl, Nat.zero_add]) rfl trivial (fun _ => ⟨rfl, hc⟩) H hR hu d1 (fun t ht => hAk t (htm t ht)) (by omega) (fun t ht hn => hrk t (List.mem_append.mpr (Or.inl ht)) hn) (fun ss rc zs ra na ne g1 g2 g3 => ⟨inj, ?_⟩)
  rw [List.nil_append] at g1 g2 g3
  refine xk_more (T := (us_E (us_h A B σ 8) (A.take p)).map (rn_n a_rank)) (l := RB) (ra0 := a_rank) (30 + B.length) c rfl (by rw [hrB]; exact nI_add _ _) g1 g2 g3 H hR hu hJ hRBk (by omega) (fun t ht hn => hrk t (List.mem_append.mpr (Or.inr (List.mem_append.mpr (Or.inl ht)))) hn) (fun ss rc zs ra na ne k1 k2 k3 => ⟨ini, ?_⟩)
  refine xk_more (T := (us_E (us_h A B σ 8) (A.take p)).map (rn_n a_rank) ++ (us_E (us_h A B σ 8) RB).map (rn_n a_rank)) (l := r) (ra0 := a_rank) (p + (jn_t A B p).length) c rfl (by rw [hlen]; exact hlA) k1 k2 k3 H hR hu d3 (fun t ht => hAk t (hrm t ht)) (by omega) (fun t ht hn => hrk t (List.mem_append.mpr (Or.inr (List.mem_append.mpr (Or.inr ht)))) hn) (fun ss rc zs ra na ne w1 w2 w3 => ?_)
  rw [List.append_assoc] at w1 w2
  exact Hp _ _ _ _ _ _ w1 w2
end
end
section
/-! the component: one turn of the survey -/
def xs_Q (J : Int32 → Int32 → Int32 → Int32 → Int32 → Int32 → Int32 → Int32 → Int32 → Int32 → Int32 → Int32 → Int32 → (Nat → Int64) → (Nat → Int64) → (Nat → Int64) → (Nat → Int32) → (Nat → Int32) → (Nat → Int64) → (Nat → Int32) → (Nat → Int64) → (Nat → Int64) → (Nat → Int64) → (Nat → Int32) → (Nat → Int32) → (Nat → Int64) → (Nat → Int32) → (Nat → Int32) → (Nat → Int64) → (Nat → Int32) → (Nat → Int32) → (Nat → Int32) → (Nat → Int32) → (Nat → Int32) → (Nat → Int32) → (Nat → Int32) → (Nat → Int32) → Prop) (f_drafted : Int32) (f_faultPlace : Int32) (f_reportedSteps : Int32) (f_resultSize : Int32) (f_surveyed : Int32) (a_draft : Nat → Int64) (a_result : Nat → Int64) (a_lefts : Nat → Int64) (a_leftSize : Nat → Int32) (a_ways : Nat → Int32) (a_rights : Nat → Int64) (a_rightSize : Nat → Int32) (a_pairCount a_firstOpen : Nat → Int32) : Prop := ∀ (f_sheetSize : Int32) (f_waitingSize : Int32) (f_builtSize : Int32) (f_unfinished : Int32) (f_taken : Int32) (f_keptSize : Int32) (f_stacked : Int32) (f_ranked : Int32) (a_sheet : Nat → Int64) (a_waiting : Nat → Int64) (a_built : Nat → Int64) (a_unfinishedStart : Nat → Int32) (a_unfinishedLacks : Nat → Int32) (a_kept : Nat → Int64) (a_matchStart : Nat → Int32) (a_matchEnd : Nat → Int32) (a_joint : Nat → Int64) (a_unified : Nat → Int32) (a_oneStack : Nat → Int32) (a_otherStack : Nat → Int32) (a_nestedAt : Nat → Int32) (a_nestedEnd : Nat → Int32) (a_rank : Nat → Int32), J f_drafted f_faultPlace f_reportedSteps f_resultSize f_sheetSize f_waitingSize f_builtSize f_unfinished f_taken f_keptSize f_stacked f_ranked f_surveyed a_draft a_result a_lefts a_leftSize a_ways a_rights a_rightSize a_sheet a_waiting a_built a_unfinishedStart a_unfinishedLacks a_kept a_matchStart a_matchEnd a_joint a_unified a_oneStack a_otherStack a_nestedAt a_nestedEnd a_rank a_pairCount a_firstOpen
/-- what a place asks: 0 where none lies -/
def vd_w (f : Nat) (L R : Nat → List Int64) (i j p : Nat) : Nat := if vd_ok L R i j p = true then vd f L R i j p else 0
def vs_p (v : Nat) (pc : Nat → Int32) : Nat → Int32 := if v = 0 then pc else vd_pc v pc
section
variable {L R : Nat → List Int64} {J : Nat → Int64} {i j p f : Nat}
theorem vd_HJ {A B : List Int64} (H : jn_H J A B) : jn_H (vd_J A B) A B := vd_H H.1 H.2.1 H.2.2.1 H.2.2.2.1 H.2.2.2.2.2.2.1 H.2.2.2.2.2.2.2
theorem vd_none (H : jn_H J (L i) ((L j).map vd_h)) (h0 : jn_v (L i) ((L j).map vd_h) p) (h1 : jn_v (L i) ((L j).map vd_h) 30) (e : us_un J (L i) ((L j).map vd_h) f [(p, 30)] (fun _ => none) = none) : vd f L R i j p = 0 := by
  rw [us_un_J H (vd_HJ H) f 0 _ _ (us_I0 h0 h1)] at e
  unfold vd
  rw [e]
theorem vd_some {σ : Nat → Option Nat} (H : jn_H J (L i) ((L j).map vd_h)) (h0 : jn_v (L i) ((L j).map vd_h) p) (h1 : jn_v (L i) ((L j).map vd_h) 30) (e : us_un J (L i) ((L j).map vd_h) f [(p, 30)] (fun _ => none) = some σ) : vd f L R i j p = vd_c L R (L i) (R i) ((L j).map vd_h) ((R j).map vd_h) p σ := by
  rw [us_un_J H (vd_HJ H) f 0 _ _ (us_I0 h0 h1)] at e
  unfold vd
  rw [e]
theorem vd_c_pos (A RA B RB : List Int64) (σ : Nat → Option Nat) : vd_c L R A RA B RB p σ ≠ 0 ∧ vd_c L R A RA B RB p σ < 4 := by
  unfold vd_c
  split
  · split <;> omega
  · omega
theorem vd_ok_1 (h : vd_ok L R i j p = true) : vd_pl L R i = true ∧ vd_pl L R j = true ∧ p < (L i).length := by
  unfold vd_ok at h
  rw [Bool.and_eq_true, Bool.and_eq_true, Bool.and_eq_true, Bool.and_eq_true] at h
  exact ⟨h.1.1.1.1, h.1.1.1.2, of_decide_eq_true h.1.1.2⟩
end
section
variable {f_drafted f_faultPlace f_reportedSteps f_resultSize f_sheetSize f_waitingSize f_builtSize f_unfinished f_taken f_keptSize f_stacked f_ranked f_surveyed : Int32} {a_draft a_result a_lefts a_rights a_sheet a_waiting a_built a_kept a_joint : Nat → Int64} {a_leftSize a_ways a_rightSize a_unfinishedStart a_unfinishedLacks a_matchStart a_matchEnd a_unified a_oneStack a_otherStack a_nestedAt a_nestedEnd a_rank a_pairCount a_firstOpen : Nat → Int32}
variable {L R : Nat → List Int64} {A B : List Int64} {σ : Nat → Option Nat} {rk : Nat → Nat}
theorem xs_219 {post : SX → Prop} {J14 : Int32 → Int32 → Int32 → Int32 → Int32 → Int32 → Int32 → Int32 → Int32 → Int32 → Int32 → Int32 → Int32 → Int32 → (Nat → Int64) → (Nat → Int64) → (Nat → Int64) → (Nat → Int32) → (Nat → Int32) → (Nat → Int64) → (Nat → Int32) → (Nat → Int64) → (Nat → Int64) → (Nat → Int64) → (Nat → Int32) → (Nat → Int32) → (Nat → Int64) → (Nat → Int32) → (Nat → Int32) → (Nat → Int64) → (Nat → Int32) → (Nat → Int32) → (Nat → Int32) → (Nat → Int32) → (Nat → Int32) → (Nat → Int32) → (Nat → Int32) → (Nat → Int32) → Prop} {k i j p v : Nat} (hv : v < 4) (H : xs_Q (J14 (nI (k + 1))) f_drafted f_faultPlace f_reportedSteps f_resultSize f_surveyed a_draft a_result a_lefts a_leftSize a_ways a_rights a_rightSize (vd_pc v a_pairCount) (vd_fo v i j p a_firstOpen)) : wX_survey_219 post J14 (nI k) (nI i) (nI j) (nI p) (nI v) f_drafted f_faultPlace f_reportedSteps f_resultSize f_sheetSize f_waitingSize f_builtSize f_unfinished f_taken f_keptSize f_stacked f_ranked f_surveyed a_draft a_result a_lefts a_leftSize a_ways a_rights a_rightSize a_sheet a_waiting a_built a_unfinishedStart a_unfinishedLacks a_kept a_matchStart a_matchEnd a_joint a_unified a_oneStack a_otherStack a_nestedAt a_nestedEnd a_rank a_pairCount a_firstOpen :=
  xl_count hv (nm_r (nI_1 k) (H _ _ _ _ _ _ _ _ _ _ _ _ _ _ _ _ _ _ _ _ _ _ _))
theorem xs_197z {post : SX → Prop} {J14 : Int32 → Int32 → Int32 → Int32 → Int32 → Int32 → Int32 → Int32 → Int32 → Int32 → Int32 → Int32 → Int32 → Int32 → (Nat → Int64) → (Nat → Int64) → (Nat → Int64) → (Nat → Int32) → (Nat → Int32) → (Nat → Int64) → (Nat → Int32) → (Nat → Int64) → (Nat → Int64) → (Nat → Int64) → (Nat → Int32) → (Nat → Int32) → (Nat → Int64) → (Nat → Int32) → (Nat → Int32) → (Nat → Int64) → (Nat → Int32) → (Nat → Int32) → (Nat → Int32) → (Nat → Int32) → (Nat → Int32) → (Nat → Int32) → (Nat → Int32) → (Nat → Int32) → Prop} {k i j p : Nat} (H : xs_Q (J14 (nI (k + 1))) f_drafted f_faultPlace f_reportedSteps f_resultSize f_surveyed a_draft a_result a_lefts a_leftSize a_ways a_rights a_rightSize (vd_pc 3 a_pairCount) (vd_fo 3 i j p a_firstOpen)) : wX_survey_197 post J14 (nI k) (nI i) (nI j) (nI p) 0 f_drafted f_faultPlace f_reportedSteps f_resultSize f_sheetSize f_waitingSize f_builtSize f_unfinished f_taken f_keptSize f_stacked f_ranked f_surveyed a_draft a_result a_lefts a_leftSize a_ways a_rights a_rightSize a_sheet a_waiting a_built a_unfinishedStart a_unfinishedLacks a_kept a_matchStart a_matchEnd a_joint a_unified a_oneStack a_otherStack a_nestedAt a_nestedEnd a_rank a_pairCount a_firstOpen :=
  br_t rfl (xs_219 (v := 3) (by omega) H)
theorem xs_197 {post : SX → Prop} {J14 : Int32 → Int32 → Int32 → Int32 → Int32 → Int32 → Int32 → Int32 → Int32 → Int32 → Int32 → Int32 → Int32 → Int32 → (Nat → Int64) → (Nat → Int64) → (Nat → Int64) → (Nat → Int32) → (Nat → Int32) → (Nat → Int64) → (Nat → Int32) → (Nat → Int64) → (Nat → Int64) → (Nat → Int64) → (Nat → Int32) → (Nat → Int32) → (Nat → Int64) → (Nat → Int32) → (Nat → Int32) → (Nat → Int64) → (Nat → Int32) → (Nat → Int32) → (Nat → Int32) → (Nat → Int32) → (Nat → Int32) → (Nat → Int32) → (Nat → Int32) → (Nat → Int32) → Prop} {k i j p : Nat} {a b : List Int64} (ha : a.length ≤ 30) (hb : b.length ≤ 30) (h1 : hd_h a_kept 0 a) (h2 : hd_h a_built 0 b) (H : xs_Q (J14 (nI (k + 1))) f_drafted f_faultPlace f_reportedSteps f_resultSize f_surveyed a_draft a_result a_lefts a_leftSize a_ways a_rights a_rightSize (vd_pc (if a = b then 1 else 2) a_pairCount) (vd_fo (if a = b then 1 else 2) i j p a_firstOpen)) : wX_survey_197 post J14 (nI k) (nI i) (nI j) (nI p) 1 f_drafted f_faultPlace f_reportedSteps f_resultSize f_sheetSize f_waitingSize (nI b.length) f_unfinished f_taken (nI a.length) f_stacked f_ranked f_surveyed a_draft a_result a_lefts a_leftSize a_ways a_rights a_rightSize a_sheet a_waiting a_built a_unfinishedStart a_unfinishedLacks a_kept a_matchStart a_matchEnd a_joint a_unified a_oneStack a_otherStack a_nestedAt a_nestedEnd a_rank a_pairCount a_firstOpen := by
  refine br_f (by decide) (xn_same a.length b.length rfl rfl ha hb h1 h2 (fun e => ?_) (fun e => ?_))
  · rw [if_pos e] at H
    exact br_f (by decide) (xs_219 (v := 1) (by omega) H)
  · rw [if_neg e] at H
    exact br_t rfl (xs_219 (v := 2) (by omega) H)
theorem xs_156z {post : SX → Prop} {J14 : Int32 → Int32 → Int32 → Int32 → Int32 → Int32 → Int32 → Int32 → Int32 → Int32 → Int32 → Int32 → Int32 → Int32 → (Nat → Int64) → (Nat → Int64) → (Nat → Int64) → (Nat → Int32) → (Nat → Int32) → (Nat → Int64) → (Nat → Int32) → (Nat → Int64) → (Nat → Int64) → (Nat → Int64) → (Nat → Int32) → (Nat → Int32) → (Nat → Int64) → (Nat → Int32) → (Nat → Int32) → (Nat → Int64) → (Nat → Int32) → (Nat → Int32) → (Nat → Int32) → (Nat → Int32) → (Nat → Int32) → (Nat → Int32) → (Nat → Int32) → (Nat → Int32) → Prop} {k i j p : Nat} (H : xs_Q (J14 (nI (k + 1))) f_drafted f_faultPlace f_reportedSteps f_resultSize f_surveyed a_draft a_result a_lefts a_leftSize a_ways a_rights a_rightSize (vd_pc 3 a_pairCount) (vd_fo 3 i j p a_firstOpen)) : wX_survey_156 post J14 (nI k) (nI i) (nI j) (nI p) 0 f_drafted f_faultPlace f_reportedSteps f_resultSize f_sheetSize f_waitingSize f_builtSize f_unfinished f_taken f_keptSize f_stacked f_ranked f_surveyed a_draft a_result a_lefts a_leftSize a_ways a_rights a_rightSize a_sheet a_waiting a_built a_unfinishedStart a_unfinishedLacks a_kept a_matchStart a_matchEnd a_joint a_unified a_oneStack a_otherStack a_nestedAt a_nestedEnd a_rank a_pairCount a_firstOpen :=
  br_t rfl (xs_197z H)
theorem xs_149 {post : SX → Prop} {J14 : Int32 → Int32 → Int32 → Int32 → Int32 → Int32 → Int32 → Int32 → Int32 → Int32 → Int32 → Int32 → Int32 → Int32 → (Nat → Int64) → (Nat → Int64) → (Nat → Int64) → (Nat → Int32) → (Nat → Int32) → (Nat → Int64) → (Nat → Int32) → (Nat → Int64) → (Nat → Int64) → (Nat → Int64) → (Nat → Int32) → (Nat → Int32) → (Nat → Int64) → (Nat → Int32) → (Nat → Int32) → (Nat → Int64) → (Nat → Int32) → (Nat → Int32) → (Nat → Int32) → (Nat → Int32) → (Nat → Int32) → (Nat → Int32) → (Nat → Int32) → (Nat → Int32) → Prop} {k i j p : Nat} (H : xs_Q (J14 (nI (k + 1))) f_drafted f_faultPlace f_reportedSteps f_resultSize f_surveyed a_draft a_result a_lefts a_leftSize a_ways a_rights a_rightSize (vd_pc 3 a_pairCount) (vd_fo 3 i j p a_firstOpen)) : wX_survey_149 post J14 (nI k) (nI i) (nI j) (nI p) f_drafted f_faultPlace f_reportedSteps f_resultSize f_sheetSize f_waitingSize f_builtSize f_unfinished f_taken f_keptSize f_stacked f_ranked f_surveyed a_draft a_result a_lefts a_leftSize a_ways a_rights a_rightSize a_sheet a_waiting a_built a_unfinishedStart a_unfinishedLacks a_kept a_matchStart a_matchEnd a_joint a_unified a_oneStack a_otherStack a_nestedAt a_nestedEnd a_rank a_pairCount a_firstOpen :=
  xn_keepany (f_keptSize := f_keptSize) (fun ks z => xs_156z H)
theorem xs_156 {post : SX → Prop} {J14 : Int32 → Int32 → Int32 → Int32 → Int32 → Int32 → Int32 → Int32 → Int32 → Int32 → Int32 → Int32 → Int32 → Int32 → (Nat → Int64) → (Nat → Int64) → (Nat → Int64) → (Nat → Int32) → (Nat → Int32) → (Nat → Int64) → (Nat → Int32) → (Nat → Int64) → (Nat → Int64) → (Nat → Int64) → (Nat → Int32) → (Nat → Int32) → (Nat → Int64) → (Nat → Int32) → (Nat → Int32) → (Nat → Int64) → (Nat → Int32) → (Nat → Int32) → (Nat → Int32) → (Nat → Int32) → (Nat → Int32) → (Nat → Int32) → (Nat → Int32) → (Nat → Int32) → Prop} {k i j p c : Nat} {RB s S2 : List Int64} (hi : i < 8) (hj : j < 8) (hlA : a_leftSize i = nI A.length) (hlB : a_leftSize j = nI B.length) (hrB : a_rightSize j = nI RB.length) (hB30 : B.length + RB.length ≤ 30) (H : jn_H a_joint A B) (hR : us_R A B σ rk) (hu : xu_s a_unified σ) (hJ : hd_h a_joint (30 + B.length) RB) (hRBk : ∀ t, t ∈ RB → jn_k t) (hp : p < A.length) (hrk : ∀ t, t ∈ vd_r2 A B RB p σ → ¬ t < 8589934592 → 0 ≤ a_rank (jn_n t)) (hc : f_ranked = nI c) (hS2 : S2 = (vd_r2 A B RB p σ).map (rn_n a_rank)) (hw : tm_w S2 1) (ht : ∀ t, t ∈ S2 → tk_t t) (hG : mc_G L R) (hRr : xr_R L R a_lefts a_leftSize a_ways a_rights a_rightSize) (hks : f_keptSize = nI s.length) (hs30 : s.length ≤ 30) (hkept : hd_h a_kept 0 s)
    (H3 : ¬ (S2.length ≤ 30 ∧ (mc_run L R 4000 S2 [] 0 none).1 = 0) → xs_Q (J14 (nI (k + 1))) f_drafted f_faultPlace f_reportedSteps f_resultSize f_surveyed a_draft a_result a_lefts a_leftSize a_ways a_rights a_rightSize (vd_pc 3 a_pairCount) (vd_fo 3 i j p a_firstOpen))
    (H12 : S2.length ≤ 30 → (mc_run L R 4000 S2 [] 0 none).1 = 0 → xs_Q (J14 (nI (k + 1))) f_drafted f_faultPlace f_reportedSteps f_resultSize f_surveyed a_draft a_result a_lefts a_leftSize a_ways a_rights a_rightSize (vd_pc (if s = (mc_run L R 4000 S2 [] 0 none).2.2 then 1 else 2) a_pairCount) (vd_fo (if s = (mc_run L R 4000 S2 [] 0 none).2.2 then 1 else 2) i j p a_firstOpen)) : wX_survey_156 post J14 (nI k) (nI i) (nI j) (nI p) 1 f_drafted f_faultPlace f_reportedSteps f_resultSize f_sheetSize f_waitingSize f_builtSize f_unfinished f_taken f_keptSize f_stacked f_ranked f_surveyed a_draft a_result a_lefts a_leftSize a_ways a_rights a_rightSize a_sheet a_waiting a_built a_unfinishedStart a_unfinishedLacks a_kept a_matchStart a_matchEnd a_joint a_unified a_oneStack a_otherStack a_nestedAt a_nestedEnd a_rank a_pairCount a_firstOpen := by
  subst hks
  refine br_f (by decide) (xo_other hi hj hlA hlB hrB hB30 H hR hu hJ hRBk hp hrk hc (fun ss rc zs ra na ne g1 g2 => ?_))
  rw [← hS2] at g1 g2
  refine pk_lt 30 (S2.take 31).length (fun h => ?_) (fun h => ?_) rfl g1 (by omega) (by rw [List.length_take]; omega)
  · rw [List.length_take] at h
    exact xs_197z (H3 (fun z => absurd z.1 (by omega)))
  · rw [List.length_take] at h
    have h30 : S2.length ≤ 30 := by omega
    have e : S2.take 31 = S2 := List.take_of_length_le (by omega)
    rw [e] at g1 g2
    subst g1
    refine xn_nf (P := tk_t) (q := S2) S2.length 0 (fun _ h => h) (fun _ h => tk_d_t h) hG hRr hw h30 ht (by omega) rfl g2 (fun c t' s' run ss ws bs uf zs zw zb us ul ms me hc => ?_)
    obtain ⟨c1, t1, s1, o1, o2, o3, o4⟩ := mc_run_ok (P := tk_t) (fun _ h => tk_d_t h) hG 4000 S2 [] 0 none (mc_I0 hw h30 ht (by omega)).1 (mc_I0 (P := tk_t) hw h30 ht (by omega)).2
    rw [o1] at run
    obtain ⟨rfl, rfl, rfl⟩ : c1 = c ∧ t1 = t' ∧ s1 = s' := by
      injection run with z1 z2
      injection z2 with z2 z3
      exact ⟨z1, z2, z3⟩
    rw [o1] at H3 H12
    by_cases h0 : c1 = 0
    · obtain ⟨b1, b2⟩ := hc h0
      subst b1
      exact br_t (by rw [h0]; rfl) (xs_197 hs30 (o4 h0).2.2.1 hkept b2 (H12 h30 h0))
    · have hcn : ¬ nI c1 = 0 := by rw [← nI_0, nI_eq (by omega) (by omega)]; exact h0
      exact br_f hcn (xs_197z (H3 (fun z => h0 z.2)))
end
end
section
/-! the component: the survey -/
theorem vs_p0 (pc : Nat → Int32) : vs_p 0 pc = pc := if_pos rfl
theorem vs_pn {v : Nat} (h : v ≠ 0) (pc : Nat → Int32) : vs_p v pc = vd_pc v pc := if_neg h
theorem vs_o0 (i j p : Nat) (fo : Nat → Int32) : vd_fo 0 i j p fo = fo := if_neg (fun z => absurd z.1 (by decide))
def vs_s (f : Nat) (L R : Nat → List Int64) (n : Nat) (s : (Nat → Int32) × (Nat → Int32)) : (Nat → Int32) × (Nat → Int32) := (vs_p (vd_w f L R (n / 240) (n / 30 % 8) (n % 30)) s.1, vd_fo (vd_w f L R (n / 240) (n / 30 % 8) (n % 30)) (n / 240) (n / 30 % 8) (n % 30) s.2)
def vs_n (f : Nat) (L R : Nat → List Int64) : Nat → Nat → (Nat → Int32) × (Nat → Int32) → (Nat → Int32) × (Nat → Int32)
  | 0, _, s => s
  | d + 1, k, s => vs_n f L R d (k + 1) (vs_s f L R k s)
section
variable {f_drafted f_faultPlace f_reportedSteps f_resultSize f_sheetSize f_waitingSize f_builtSize f_unfinished f_taken f_keptSize f_stacked f_ranked f_surveyed : Int32} {a_draft a_result a_lefts a_rights a_sheet a_waiting a_built a_kept a_joint : Nat → Int64} {a_leftSize a_ways a_rightSize a_unfinishedStart a_unfinishedLacks a_matchStart a_matchEnd a_unified a_oneStack a_otherStack a_nestedAt a_nestedEnd a_rank a_pairCount a_firstOpen : Nat → Int32}
variable {L R : Nat → List Int64}
/-- a pair stands: from the peak to the verdict -/
theorem xs_found {post : SX → Prop} {J14 : Int32 → Int32 → Int32 → Int32 → Int32 → Int32 → Int32 → Int32 → Int32 → Int32 → Int32 → Int32 → Int32 → Int32 → (Nat → Int64) → (Nat → Int64) → (Nat → Int64) → (Nat → Int32) → (Nat → Int32) → (Nat → Int64) → (Nat → Int32) → (Nat → Int64) → (Nat → Int64) → (Nat → Int64) → (Nat → Int32) → (Nat → Int32) → (Nat → Int64) → (Nat → Int32) → (Nat → Int32) → (Nat → Int64) → (Nat → Int32) → (Nat → Int32) → (Nat → Int32) → (Nat → Int32) → (Nat → Int32) → (Nat → Int32) → (Nat → Int32) → (Nat → Int32) → Prop} {k i j p : Nat} {A B RA RB : List Int64} {σ : Nat → Option Nat} {rk : Nat → Nat} {P : Int32 → SX → Prop} (hP : P = (fun r_202 u => match u with | (f_drafted0, f_faultPlace0, f_reportedSteps0, f_resultSize0, f_sheetSize0, f_waitingSize0, f_builtSize0, f_unfinished0, f_taken0, f_keptSize0, f_stacked0, f_ranked0, f_surveyed0, a_draft0, a_result0, a_lefts0, a_leftSize0, a_ways0, a_rights0, a_rightSize0, a_sheet0, a_waiting0, a_built0, a_unfinishedStart0, a_unfinishedLacks0, a_kept0, a_matchStart0, a_matchEnd0, a_joint0, a_unified0, a_oneStack0, a_otherStack0, a_nestedAt0, a_nestedEnd0, a_rank0, a_pairCount0, a_firstOpen0) => ((r_202 = 0 → wX_survey_156 post J14 (nI k) (nI i) (nI j) (nI p) r_202 f_drafted0 f_faultPlace0 f_reportedSteps0 f_resultSize0 f_sheetSize0 f_waitingSize0 f_builtSize0 f_unfinished0 f_taken0 f_keptSize0 f_stacked0 f_ranked0 f_surveyed0 a_draft0 a_result0 a_lefts0 a_leftSize0 a_ways0 a_rights0 a_rightSize0 a_sheet0 a_waiting0 a_built0 a_unfinishedStart0 a_unfinishedLacks0 a_kept0 a_matchStart0 a_matchEnd0 a_joint0 a_unified0 a_oneStack0 a_otherStack0 a_nestedAt0 a_nestedEnd0 a_rank0 a_pairCount0 a_firstOpen0) ∧ (¬ r_202 = 0 → (vp_in (nI i) 8 ∧ (vp_in (nI i) 8 ∧ (vp_in (nI i) 8 ∧ (wpX_expand (fun u => match u with | (f_drafted00, f_faultPlace00, f_reportedSteps00, f_resultSize00, f_sheetSize00, f_waitingSize00, f_builtSize00, f_unfinished00, f_taken00, f_keptSize00, f_stacked00, f_ranked00, f_surveyed00, a_draft00, a_result00, a_lefts00, a_leftSize00, a_ways00, a_rights00, a_rightSize00, a_sheet00, a_waiting00, a_built00, a_unfinishedStart00, a_unfinishedLacks00, a_kept00, a_matchStart00, a_matchEnd00, a_joint00, a_unified00, a_oneStack00, a_otherStack00, a_nestedAt00, a_nestedEnd00, a_rank00, a_pairCount00, a_firstOpen00) => ((30 < f_sheetSize00 → wX_survey_149 post J14 (nI k) (nI i) (nI j) (nI p) f_drafted00 f_faultPlace00 f_reportedSteps00 f_resultSize00 f_sheetSize00 f_waitingSize00 f_builtSize00 f_unfinished00 0 f_keptSize00 f_stacked00 f_ranked00 f_surveyed00 a_draft00 a_result00 a_lefts00 a_leftSize00 a_ways00 a_rights00 a_rightSize00 a_sheet00 a_waiting00 a_built00 a_unfinishedStart00 a_unfinishedLacks00 a_kept00 a_matchStart00 a_matchEnd00 a_joint00 a_unified00 a_oneStack00 a_otherStack00 a_nestedAt00 a_nestedEnd00 a_rank00 a_pairCount00 a_firstOpen00) ∧ (¬ 30 < f_sheetSize00 → wpX_normalForm (fun r_479 u => match u with | (f_drafted000, f_faultPlace000, f_reportedSteps000, f_resultSize000, f_sheetSize000, f_waitingSize000, f_builtSize000, f_unfinished000, f_taken000, f_keptSize000, f_stacked000, f_ranked000, f_surveyed000, a_draft000, a_result000, a_lefts000, a_leftSize000, a_ways000, a_rights000, a_rightSize000, a_sheet000, a_waiting000, a_built000, a_unfinishedStart000, a_unfinishedLacks000, a_kept000, a_matchStart000, a_matchEnd000, a_joint000, a_unified000, a_oneStack000, a_otherStack000, a_nestedAt000, a_nestedEnd000, a_rank000, a_pairCount000, a_firstOpen000) => ((r_479 = 0 → wX_survey_150 post J14 (nI k) (nI i) (nI j) (nI p) 1 f_drafted000 f_faultPlace000 f_reportedSteps000 f_resultSize000 f_sheetSize000 f_waitingSize000 f_builtSize000 f_unfinished000 f_taken000 f_keptSize000 f_stacked000 f_ranked000 f_surveyed000 a_draft000 a_result000 a_lefts000 a_leftSize000 a_ways000 a_rights000 a_rightSize000 a_sheet000 a_waiting000 a_built000 a_unfinishedStart000 a_unfinishedLacks000 a_kept000 a_matchStart000 a_matchEnd000 a_joint000 a_unified000 a_oneStack000 a_otherStack000 a_nestedAt000 a_nestedEnd000 a_rank000 a_pairCount000 a_firstOpen000) ∧ (¬ r_479 = 0 → wX_survey_149 post J14 (nI k) (nI i) (nI j) (nI p) f_drafted000 f_faultPlace000 f_reportedSteps000 f_resultSize000 f_sheetSize000 f_waitingSize000 f_builtSize000 f_unfinished000 f_taken000 f_keptSize000 f_stacked000 f_ranked000 f_surveyed000 a_draft000 a_result000 a_lefts000 a_leftSize000 a_ways000 a_rights000 a_rightSize000 a_sheet000 a_waiting000 a_built000 a_unfinishedStart000 a_unfinishedLacks000 a_kept000 a_matchStart000 a_matchEnd000 a_joint000 a_unified000 a_oneStack000 a_otherStack000 a_nestedAt000 a_nestedEnd000 a_rank000 a_pairCount000 a_firstOpen000))) (f_drafted00, f_faultPlace00, f_reportedSteps00, f_resultSize00, f_sheetSize00, f_waitingSize00, f_builtSize00, f_unfinished00, 0, f_keptSize00, f_stacked00, f_ranked00, f_surveyed00, a_draft00, a_result00, a_lefts00, a_leftSize00, a_ways00, a_rights00, a_rightSize00, a_sheet00, a_waiting00, a_built00, a_unfinishedStart00, a_unfinishedLacks00, a_kept00, a_matchStart00, a_matchEnd00, a_joint00, a_unified00, a_oneStack00, a_otherStack00, a_nestedAt00, a_nestedEnd00, a_rank00, a_pairCount00, a_firstOpen00)))) (f_drafted0, f_faultPlace0, f_reportedSteps0, f_resultSize0, 0, f_waitingSize0, f_builtSize0, f_unfinished0, f_taken0, f_keptSize0, f_stacked0, f_ranked0, f_surveyed0, a_draft0, a_result0, a_lefts0, a_leftSize0, a_ways0, a_rights0, a_rightSize0, a_sheet0, a_waiting0, a_built0, a_unfinishedStart0, a_unfinishedLacks0, a_kept0, a_matchStart0, a_matchEnd0, a_joint0, a_unified0, a_oneStack0, a_otherStack0, a_nestedAt0, a_nestedEnd0, a_rank0, a_pairCount0, a_firstOpen0) (a_leftSize0 (nI i).toNatClampNeg) ((a_leftSize0 (nI i).toNatClampNeg) + (a_rightSize0 (nI i).toNatClampNeg))))))))))
    (hi : i < 8) (hj : j < 8) (hlA : a_leftSize i = nI A.length) (hrA : a_rightSize i = nI RA.length) (hA30 : A.length + RA.length ≤ 30) (hlB : a_leftSize j = nI B.length) (hrB : a_rightSize j = nI RB.length) (hB30 : B.length + RB.length ≤ 30) (H : jn_H a_joint A B) (hR : us_R A B σ rk) (hu : xu_s a_unified σ) (hJA : hd_h a_joint A.length RA) (hJ : hd_h a_joint (30 + B.length) RB) (hRAw : tm_w RA 1) (hRAk : ∀ t, t ∈ RA → jn_k t) (hRAs : ∀ t, t ∈ RA → ¬ t < 8589934592 → t ∈ A) (hRBw : tm_w RB 1) (hRBk : ∀ t, t ∈ RB → jn_k t) (hRBs : ∀ t, t ∈ RB → ¬ t < 8589934592 → t ∈ B) (hp : p < A.length) (hE : us_E (us_h A B σ 8) (jn_t A B p) = us_E (us_h A B σ 8) (jn_t A B 30)) (hG : mc_G L R) (hRr : xr_R L R a_lefts a_leftSize a_ways a_rights a_rightSize)
    (HQ : xs_Q (J14 (nI (k + 1))) f_drafted f_faultPlace f_reportedSteps f_resultSize f_surveyed a_draft a_result a_lefts a_leftSize a_ways a_rights a_rightSize (vd_pc (vd_c L R A RA B RB p σ) a_pairCount) (vd_fo (vd_c L R A RA B RB p σ) i j p a_firstOpen)) : wpX_isPeakSmall P (f_drafted, f_faultPlace, f_reportedSteps, f_resultSize, f_sheetSize, f_waitingSize, f_builtSize, f_unfinished, f_taken, f_keptSize, f_stacked, f_ranked, f_surveyed, a_draft, a_result, a_lefts, a_leftSize, a_ways, a_rights, a_rightSize, a_sheet, a_waiting, a_built, a_unfinishedStart, a_unfinishedLacks, a_kept, a_matchStart, a_matchEnd, a_joint, a_unified, a_oneStack, a_otherStack, a_nestedAt, a_nestedEnd, a_rank, a_pairCount, a_firstOpen) (nI i) := by
  subst hP
  have ci : (nI i).toNatClampNeg = i := nI_clamp (by omega)
  have ini : vp_in (nI i) 8 := vp_in_nI hi (by omega)
  have hAl : A.length ≤ 29 := H.2.2.1
  have hAk := H.2.2.2.2.2.2.1
  have three : ¬ ((us_E (us_h A B σ 8) A).length ≤ 30 ∧ (vd_s1 A RA B σ).length ≤ 30 ∧ (mc_run L R 4000 (vd_s1 A RA B σ) [] 0 none).1 = 0 ∧ (vd_s2 A B RB p σ).length ≤ 30 ∧ (mc_run L R 4000 (vd_s2 A B RB p σ) [] 0 none).1 = 0) → xs_Q (J14 (nI (k + 1))) f_drafted f_faultPlace f_reportedSteps f_resultSize f_surveyed a_draft a_result a_lefts a_leftSize a_ways a_rights a_rightSize (vd_pc 3 a_pairCount) (vd_fo 3 i j p a_firstOpen) := by
    intro z
    have e : vd_c L R A RA B RB p σ = 3 := if_neg z
    rw [e] at HQ
    exact HQ
  refine ⟨9, xl_peak 8 0 9 a_rank rfl (fun _ h => absurd h (by omega)) (by omega) (fun ra0 hra0 => ⟨ini, ?_⟩)⟩
  obtain ⟨v1, v2, v3, v4, v5, v6, v7⟩ := vd_side H hR hp hE hRAw hRAk hRAs hRBw hRBk hRBs hra0
  obtain ⟨n1, n2, n3⟩ := vd_named v2 v6 v4
  obtain ⟨m1, m2, m3⟩ := vd_named v3 v7 v5
  have hcong := (rn_f_congr (us_E (us_h A B σ 8) A) ra0 (fun _ => -1) 0 v1 hra0).2
  have e1 : (us_E (us_h A B σ 8) RA).map (rn_n (rn_f (us_E (us_h A B σ 8) A) ra0 0).1) = vd_s1 A RA B σ := rn_map_congr hcong _ v2
  have e2 : (vd_r2 A B RB p σ).map (rn_n (rn_f (us_E (us_h A B σ 8) A) ra0 0).1) = vd_s2 A B RB p σ := rn_map_congr hcong _ v3
  refine xk_expand (q := []) (l := A) 0 0 0 rfl rfl (by rw [ci, hlA, Nat.zero_add]) H hR hu (us_h_sol hR) (fun v hv => us_h_none hv 8) H.2.2.2.2.1 hAk (by omega) (by simp) trivial (fun ss rc zs ra na ne g1 g2 g3 => ?_)
  have hm : (([] ++ rn_l (us_E (us_h A B σ 8) A) ra0 0).take 31).length = min 31 (us_E (us_h A B σ 8) A).length := by rw [List.nil_append, List.length_take, rn_l_len]
  rw [hm] at g1
  refine pk_lt 30 (min 31 (us_E (us_h A B σ 8) A).length) (fun h => ?_) (fun h => ?_) rfl g1 (by omega) (by omega)
  · exact br_t rfl (xs_156z (three (fun z => absurd z.1 (by omega))))
  · have h30 : (us_E (us_h A B σ 8) A).length ≤ 30 := by omega
    obtain ⟨g4, g5⟩ := g3 (by rw [List.length_nil]; omega)
    refine br_f (by decide) ⟨ini, ini, ini, ?_⟩
    rw [ci]
    refine xk_more (T := []) (l := RA) (ra0 := ra) A.length (rn_f (us_E (us_h A B σ 8) A) ra0 0).2 hlA (by rw [hlA, hrA]; exact nI_add _ _) rfl trivial (fun _ => ⟨rfl, g5⟩) H hR hu hJA hRAk (by omega) (by rw [g4]; exact n3) (fun ss rc zs ra' na ne k1 k2 k3 => ?_)
    rw [List.nil_append, g4, e1] at k1 k2 k3
    rw [g4] at *
    refine pk_lt 30 ((vd_s1 A RA B σ).take 31).length (fun h => ?_) (fun h => ?_) rfl k1 (by omega) (by rw [List.length_take]; omega)
    · rw [List.length_take] at h
      exact xs_149 (three (fun z => absurd z.2.1 (by omega)))
    · rw [List.length_take] at h
      have h31 : (vd_s1 A RA B σ).length ≤ 30 := by omega
      have e : (vd_s1 A RA B σ).take 31 = vd_s1 A RA B σ := List.take_of_length_le (by omega)
      rw [e] at k1 k2
      obtain ⟨k4, k5⟩ := k3 h31
      subst k1
      have w1 : tm_w (vd_s1 A RA B σ) 1 := by rw [← e1]; exact n1
      have w2 : ∀ t, t ∈ vd_s1 A RA B σ → tk_t t := by rw [← e1]; exact n2
      refine xn_nf (P := tk_t) (q := vd_s1 A RA B σ) (vd_s1 A RA B σ).length 0 (fun _ h => h) (fun _ h => tk_d_t h) hG hRr w1 h31 w2 (by omega) rfl k2 (fun c t' s' run ss ws bs uf zs zw zb us ul ms me hc => ?_)
      obtain ⟨c1, t1, s1, o1, o2, o3, o4⟩ := mc_run_ok (P := tk_t) (fun _ h => tk_d_t h) hG 4000 (vd_s1 A RA B σ) [] 0 none (mc_I0 w1 h31 w2 (by omega)).1 (mc_I0 (P := tk_t) w1 h31 w2 (by omega)).2
      rw [o1] at run
      obtain ⟨rfl, rfl, rfl⟩ : c1 = c ∧ t1 = t' ∧ s1 = s' := by
        injection run with z1 z2
        injection z2 with z2 z3
        exact ⟨z1, z2, z3⟩
      by_cases h0 : c1 = 0
      · obtain ⟨b1, b2⟩ := hc h0
        subst b1
        have s30 := (o4 h0).2.2.1
        refine br_t (by rw [h0]; rfl) (xn_keep (f_keptSize := f_keptSize) s1.length rfl s30 b2 (fun z hz => ?_))
        subst k4
        refine xs_156 (s := s1) (S2 := vd_s2 A B RB p σ) (RB := RB) hi hj hlA hlB hrB hB30 H hR hu hJ hRBk hp m3 k5 e2.symm (by rw [← e2]; exact m1) (by rw [← e2]; exact m2) hG hRr rfl s30 hz (fun z => three (fun y => z y.2.2.2)) (fun z1 z2 => ?_)
        have er : (mc_run L R 4000 (vd_s1 A RA B σ) [] 0 none).2.2 = s1 := by rw [o1]
        have e0 : (mc_run L R 4000 (vd_s1 A RA B σ) [] 0 none).1 = 0 := by rw [o1]; exact h0
        have ev : vd_c L R A RA B RB p σ = if s1 = (mc_run L R 4000 (vd_s2 A B RB p σ) [] 0 none).2.2 then 1 else 2 := by
          rw [← er]
          exact if_pos ⟨h30, h31, e0, z1, z2⟩
        rw [ev] at HQ
        exact HQ
      · have hcn : ¬ nI c1 = 0 := by rw [← nI_0, nI_eq (by omega) (by omega)]; exact h0
        refine br_f hcn (xs_149 (three (fun z => ?_)))
        have := z.2.2.1
        rw [o1] at this
        exact h0 this
end
end
section
/-! the component: the loop of the survey -/
theorem vd_id (l : List Int64) : l.map (fun t => t) = l := List.map_id' l
theorem vd_s0 (t : Int64) : (fun t => t) t = if t < 8589934592 then t else t + (nI 0).toInt64 := by
  by_cases h : t < 8589934592
  · rw [if_pos h]
  · rw [if_neg h, show (nI 0).toInt64 = 0 from rfl, Int64.add_zero]
theorem vd_s4 (t : Int64) : vd_h t = if t < 8589934592 then t else t + (nI 4).toInt64 := by
  by_cases h : t < 8589934592
  · rw [if_pos h]; exact if_pos h
  · rw [if_neg h]; exact if_neg h
section
variable {f_drafted f_faultPlace f_reportedSteps f_resultSize f_sheetSize f_waitingSize f_builtSize f_unfinished f_taken f_keptSize f_stacked f_ranked f_surveyed : Int32} {a_draft a_result a_lefts a_rights a_sheet a_waiting a_built a_kept a_joint : Nat → Int64} {a_leftSize a_ways a_rightSize a_unfinishedStart a_unfinishedLacks a_matchStart a_matchEnd a_unified a_oneStack a_otherStack a_nestedAt a_nestedEnd a_rank a_pairCount a_firstOpen : Nat → Int32}
variable {L R : Nat → List Int64}
theorem xs_step {post : SX → Prop} {n k f i j p : Nat} (hf : f = 10000000) (hk : k < 1920) (hi : i < 8) (hj : j < 8) (hp : p < 30) (ei : nI k / 240 = nI i) (ej : nI k / 30 - nI k / 30 / 8 * 8 = nI j) (ep : nI k - nI k / 30 * 30 = nI p) (hG : mc_G L R) (hRr : xr_R L R a_lefts a_leftSize a_ways a_rights a_rightSize) (HQ : xs_Q (wX_survey_14 post n (nI (k + 1))) f_drafted f_faultPlace f_reportedSteps f_resultSize f_surveyed a_draft a_result a_lefts a_leftSize a_ways a_rights a_rightSize (vs_p (vd_w f L R i j p) a_pairCount) (vd_fo (vd_w f L R i j p) i j p a_firstOpen)) : wX_survey_14 post (n + 1) (nI k) f_drafted f_faultPlace f_reportedSteps f_resultSize f_sheetSize f_waitingSize f_builtSize f_unfinished f_taken f_keptSize f_stacked f_ranked f_surveyed a_draft a_result a_lefts a_leftSize a_ways a_rights a_rightSize a_sheet a_waiting a_built a_unfinishedStart a_unfinishedLacks a_kept a_matchStart a_matchEnd a_joint a_unified a_oneStack a_otherStack a_nestedAt a_nestedEnd a_rank a_pairCount a_firstOpen := by
  refine pk_le 1920 k (fun z => absurd z (by omega)) (fun _ => ⟨by decide, nm_r ei ⟨by decide, by decide, nm_r ej ⟨by decide, nm_r ep ?_⟩⟩⟩)
  refine xp_place hG hRr hi hj hp ?_
  by_cases hok : vd_ok L R i j p = true
  · rw [if_pos hok]
    have ew : vd_w f L R i j p = vd f L R i j p := if_pos hok
    rw [ew] at HQ
    obtain ⟨o1, o2, o3⟩ := vd_ok_1 hok
    obtain ⟨a0, a1, a2, a3, a4, a5, a6, a7⟩ := vd_base hG o1
    obtain ⟨b0, b1, b2, b3, b4, b5, b6, b7⟩ := vd_base hG o2
    obtain ⟨c1, c2, c3, c4, c5⟩ := vd_B hG o2
    obtain ⟨_, w1, w2, _, _⟩ := (hRr i hi).2.2 a0
    obtain ⟨_, w3, w4, _, _⟩ := (hRr j hj).2.2 b0
    have bl : ((L j).map vd_h).length = (L j).length := List.length_map _
    have rl : ((R j).map vd_h).length = (R j).length := List.length_map _
    refine br_f (by decide) ?_
    refine xl_lay (fr := 0) (s := 0) (g := fun t => t) rfl rfl hG hRr hi a0 (by omega) (fun t _ => vd_s0 t) (fun jo h1 q1 => ?_)
    refine xl_lay (fr := 30) (s := 4) (g := vd_h) rfl rfl hG hRr hj b0 (by omega) (fun t _ => vd_s4 t) (fun j2 h2 q2 => ?_)
    rw [vd_id] at h1
    have h1' : hd_h j2 0 (L i ++ R i) := hd_keepl q2 h1 (by rw [List.length_append]; omega)
    obtain ⟨d1, d2⟩ := hd_app.mp h1'
    rw [Nat.zero_add] at d2
    rw [List.map_append] at h2
    obtain ⟨d3, d4⟩ := hd_app.mp h2
    have H : jn_H j2 (L i) ((L j).map vd_h) := ⟨a1, c1, a4, by omega, d1, d3, fun t ht => vd_k_j (a5 t ht), c3⟩
    have v0 : jn_v (L i) ((L j).map vd_h) p := Or.inl o3
    have v30 : jn_v (L i) ((L j).map vd_h) 30 := Or.inr ⟨by omega, by have := tm_w_len _ _ c1; omega⟩
    refine xu_unify (f := f) hf rfl rfl H v0 v30 (fun σ un st one two e hR hE hu => ?_) (fun un st one two e => ?_)
    · obtain ⟨rk, hR⟩ := hR
      rw [vd_some H v0 v30 e, vs_pn (vd_c_pos _ _ _ _ _).1] at HQ
      refine br_f (by decide) ?_
      exact xs_found (A := L i) (B := (L j).map vd_h) (RA := R i) (RB := (R j).map vd_h) (i := i) (j := j) (p := p) (k := k) (post := post) (J14 := wX_survey_14 post n) rfl hi hj w1 w2 a3 (by rw [bl]; exact w3) (by rw [rl]; exact w4) (by rw [bl, rl]; exact b3) H hR hu d2 d4 a2 (fun t ht => vd_k_j (a6 t ht)) a7 c2 c4 c5 o3 (hE _ (us_h_sol hR)) hG hRr HQ
    · rw [vd_none H v0 v30 e, vs_p0, vs_o0] at HQ
      exact br_t rfl (nm_r (nI_1 k) (HQ _ _ _ _ _ _ _ _ _ _ _ _ _ _ _ _ _ _ _ _ _ _ _))
  · rw [if_neg hok]
    have ew : vd_w f L R i j p = 0 := if_neg hok
    rw [ew, vs_p0, vs_o0] at HQ
    exact br_t rfl (nm_r (nI_1 k) (HQ _ _ _ _ _ _ _ _ _ _ _ _ _ _ _ _ _ _ _ _ _ _ _))
theorem xs_loop {post : SX → Prop} {f : Nat} (hf : f = 10000000) (hG : mc_G L R) (hRr : xr_R L R a_lefts a_leftSize a_ways a_rights a_rightSize) : ∀ (d k n : Nat) (s : (Nat → Int32) × (Nat → Int32)), k + d = 1920 → d < n → xs_Q (fun f_drafted0 f_faultPlace0 f_reportedSteps0 f_resultSize0 f_sheetSize0 f_waitingSize0 f_builtSize0 f_unfinished0 f_taken0 f_keptSize0 f_stacked0 f_ranked0 f_surveyed0 a_draft0 a_result0 a_lefts0 a_leftSize0 a_ways0 a_rights0 a_rightSize0 a_sheet0 a_waiting0 a_built0 a_unfinishedStart0 a_unfinishedLacks0 a_kept0 a_matchStart0 a_matchEnd0 a_joint0 a_unified0 a_oneStack0 a_otherStack0 a_nestedAt0 a_nestedEnd0 a_rank0 a_pairCount0 a_firstOpen0 => post (f_drafted0, f_faultPlace0, f_reportedSteps0, f_resultSize0, f_sheetSize0, f_waitingSize0, f_builtSize0, f_unfinished0, f_taken0, f_keptSize0, f_stacked0, f_ranked0, 1, a_draft0, a_result0, a_lefts0, a_leftSize0, a_ways0, a_rights0, a_rightSize0, a_sheet0, a_waiting0, a_built0, a_unfinishedStart0, a_unfinishedLacks0, a_kept0, a_matchStart0, a_matchEnd0, a_joint0, a_unified0, a_oneStack0, a_otherStack0, a_nestedAt0, a_nestedEnd0, a_rank0, a_pairCount0, a_firstOpen0)) f_drafted f_faultPlace f_reportedSteps f_resultSize f_surveyed a_draft a_result a_lefts a_leftSize a_ways a_rights a_rightSize (vs_n f L R d k s).1 (vs_n f L R d k s).2 → xs_Q (wX_survey_14 post n (nI k)) f_drafted f_faultPlace f_reportedSteps f_resultSize f_surveyed a_draft a_result a_lefts a_leftSize a_ways a_rights a_rightSize s.1 s.2
  | 0, k, n, s, hk, hn, H => by
    obtain ⟨n, rfl⟩ : ∃ n', n = n' + 1 := ⟨n - 1, by omega⟩
    intro f_sheetSize f_waitingSize f_builtSize f_unfinished f_taken f_keptSize f_stacked f_ranked a_sheet a_waiting a_built a_unfinishedStart a_unfinishedLacks a_kept a_matchStart a_matchEnd a_joint a_unified a_oneStack a_otherStack a_nestedAt a_nestedEnd a_rank
    exact pk_le 1920 k (fun _ => H _ _ _ _ _ _ _ _ _ _ _ _ _ _ _ _ _ _ _ _ _ _ _) (fun z => absurd z (by omega))
  | d + 1, k, n, s, hk, hn, H => by
    obtain ⟨n, rfl⟩ : ∃ n', n = n' + 1 := ⟨n - 1, by omega⟩
    have ih := xs_loop hf hG hRr d (k + 1) n (vs_s f L R k s) (by omega) (by omega) H
    intro f_sheetSize f_waitingSize f_builtSize f_unfinished f_taken f_keptSize f_stacked f_ranked a_sheet a_waiting a_built a_unfinishedStart a_unfinishedLacks a_kept a_matchStart a_matchEnd a_joint a_unified a_oneStack a_otherStack a_nestedAt a_nestedEnd a_rank
    have e30 : nI k / 30 = nI (k / 30) := pk_div (d := 30) (by omega) (by omega) (by omega)
    exact xs_step hf (by omega) (i := k / 240) (j := k / 30 % 8) (p := k % 30) (by omega) (by omega) (by omega) (pk_div (d := 240) (by omega) (by omega) (by omega)) (by rw [e30]; exact pk_rem (d := 8) (by omega) (by omega) (by omega)) (pk_rem (d := 30) (by omega) (by omega) (by omega)) hG hRr ih
theorem xs_survey {post : SX → Prop} {f : Nat} (hf : f = 10000000) (hG : mc_G L R) (hRr : xr_R L R a_lefts a_leftSize a_ways a_rights a_rightSize) (h0 : f_surveyed = 0) (H : ∀ pc fo : Nat → Int32, (∀ v, v < 4 → pc v = 0) → (∀ v, v < 3 → fo v = -2) → xs_Q (fun f_drafted0 f_faultPlace0 f_reportedSteps0 f_resultSize0 f_sheetSize0 f_waitingSize0 f_builtSize0 f_unfinished0 f_taken0 f_keptSize0 f_stacked0 f_ranked0 f_surveyed0 a_draft0 a_result0 a_lefts0 a_leftSize0 a_ways0 a_rights0 a_rightSize0 a_sheet0 a_waiting0 a_built0 a_unfinishedStart0 a_unfinishedLacks0 a_kept0 a_matchStart0 a_matchEnd0 a_joint0 a_unified0 a_oneStack0 a_otherStack0 a_nestedAt0 a_nestedEnd0 a_rank0 a_pairCount0 a_firstOpen0 => post (f_drafted0, f_faultPlace0, f_reportedSteps0, f_resultSize0, f_sheetSize0, f_waitingSize0, f_builtSize0, f_unfinished0, f_taken0, f_keptSize0, f_stacked0, f_ranked0, 1, a_draft0, a_result0, a_lefts0, a_leftSize0, a_ways0, a_rights0, a_rightSize0, a_sheet0, a_waiting0, a_built0, a_unfinishedStart0, a_unfinishedLacks0, a_kept0, a_matchStart0, a_matchEnd0, a_joint0, a_unified0, a_oneStack0, a_otherStack0, a_nestedAt0, a_nestedEnd0, a_rank0, a_pairCount0, a_firstOpen0)) f_drafted f_faultPlace f_reportedSteps f_resultSize f_surveyed a_draft a_result a_lefts a_leftSize a_ways a_rights a_rightSize (vs_n f L R 1920 0 (pc, fo)).1 (vs_n f L R 1920 0 (pc, fo)).2) : wpX_survey post (f_drafted, f_faultPlace, f_reportedSteps, f_resultSize, f_sheetSize, f_waitingSize, f_builtSize, f_unfinished, f_taken, f_keptSize, f_stacked, f_ranked, f_surveyed, a_draft, a_result, a_lefts, a_leftSize, a_ways, a_rights, a_rightSize, a_sheet, a_waiting, a_built, a_unfinishedStart, a_unfinishedLacks, a_kept, a_matchStart, a_matchEnd, a_joint, a_unified, a_oneStack, a_otherStack, a_nestedAt, a_nestedEnd, a_rank, a_pairCount, a_firstOpen) := by
  refine br_t h0 ⟨5, xl_forget2 4 0 5 a_pairCount rfl (fun v hv => absurd hv (by omega)) (by omega) (fun pc fo h1 h2 => ⟨1921, ?_⟩)⟩
  exact xs_loop hf hG hRr 1920 0 1921 (pc, fo) rfl (by omega) (H pc fo h1 h2) _ _ _ _ _ _ _ _ _ _ _ _ _ _ _ _ _ _ _ _ _ _ _
end
end
section
/-! the reference: plain rules, both rules in its rows -/
section
variable {J : Nat → Int64} {A B : List Int64}
theorem us_un_res (H : jn_H J A B) {p0 q0 : Nat} {σ' : Nat → Option Nat} : ∀ (f n : Nat) (S : List (Nat × Nat)) (σ : Nat → Option Nat), us_I A B p0 q0 n S σ → us_un J A B f S σ = some σ' → ∃ n', us_I A B p0 q0 n' [] σ' := by
  intro f
  induction f with
  | zero =>
    intro n S σ hI h
    cases S with
    | nil =>
      rw [us_un_nil] at h
      injection h with h
      subst h
      exact ⟨n, hI⟩
    | cons a S => exact absurd h (by rw [us_un]; simp)
  | succ f ih =>
    intro n S σ hI h
    cases S with
    | nil =>
      rw [us_un_nil] at h
      injection h with h
      subst h
      exact ⟨n, hI⟩
    | cons a S =>
      obtain ⟨p, q⟩ := a
      rw [us_un_cons] at h
      cases eo : us_st J A B σ (us_f J σ 8 p) (us_f J σ 8 q) S with
      | none => rw [eo] at h; exact absurd h (by simp)
      | some x =>
        obtain ⟨S', σ2⟩ := x
        rw [eo] at h
        exact ih (n + 1) S' σ2 (us_pres H hI eo) h
theorem us_un_fin (H : jn_H J A B) {p0 q0 f : Nat} {σ' : Nat → Option Nat} (h0 : jn_v A B p0) (h1 : jn_v A B q0) (h : us_un J A B f [(p0, q0)] (fun _ => none) = some σ') : (∃ rk, us_R A B σ' rk) ∧ ∀ ρ, us_Es A B σ' ρ → us_E ρ (jn_t A B p0) = us_E ρ (jn_t A B q0) := by
  obtain ⟨n, hI⟩ := us_un_res H f 0 _ _ (us_I0 h0 h1) h
  exact ⟨hI.1, fun ρ hρ => hI.2.2.2.2 ρ hρ (fun a b h => absurd h (by simp))⟩
end
theorem vd_p_n {n : Nat} (hn : n < 2 ^ 62) : vd_p (lN n) = true ↔ (n < 9 ∨ (8589934592 ≤ n ∧ n < 12884901888)) := by
  unfold vd_p
  rw [Bool.or_eq_true, decide_eq_true_iff, decide_eq_true_iff, tk_lt 9 (by omega), tk_le 8589934592 (by omega), tk_lt 12884901888 (by omega)]
theorem vd_p_f {n : Nat} (hn : n < 2 ^ 62) (h : ¬ (n < 9 ∨ (8589934592 ≤ n ∧ n < 12884901888))) : vd_p (lN n) = false := by
  cases e : vd_p (lN n) with
  | false => rfl
  | true => exact absurd ((vd_p_n hn).mp e) h
theorem jy_of {ka va : Nat → Int32} : ∀ (l : List Int64) (k : Nat), (∀ t, t ∈ l → vd_k t) → hd_y tk_kR tk_vR ka va k l → jy_h ka va 0 k l ∧ jy_h ka va 1 k (l.map vd_h)
  | [], k, _, _ => ⟨trivial, trivial⟩
  | t :: l, k, hk, h => by
    obtain ⟨i1, i2⟩ := jy_of l (k + 1) (fun x hx => hk x (List.mem_cons.mpr (Or.inr hx))) h.2
    obtain ⟨n, en, hn⟩ := hk t (List.mem_cons.mpr (Or.inl rfl))
    have h1 := h.1.1
    have h2 := h.1.2
    rcases tk_R_cases (t := t) ⟨n, en, by omega⟩ with ⟨m, m1, m2, m3, m4⟩ | ⟨m, m1, m5, m2, m3, m4⟩ | ⟨r, m1, m2, m3, m4⟩ | ⟨r, m1, m2, m3, m4⟩
    · have : n = m := (pk_lEQ (by omega) (by omega)).mp (en.symm.trans m2)
      have hs : t < 8589934592 := by rw [en]; exact (tk_lt 8589934592 (by omega)).mpr (by omega)
      have eh : vd_h t = t := if_pos hs
      refine ⟨⟨Or.inl ⟨m, by omega, m2, h1.trans m3, h2.trans m4⟩, i1⟩, ?_⟩
      rw [List.map_cons, eh]
      exact ⟨Or.inl ⟨m, by omega, m2, h1.trans m3, h2.trans m4⟩, i2⟩
    · have : n = m := (pk_lEQ (by omega) (by omega)).mp (en.symm.trans m2)
      omega
    · have hs : ¬ t < 8589934592 := by rw [m2, tk_lt 8589934592 (by omega)]; omega
      have eh : vd_h t = lN (8589934592 + (r + 4 * 1)) := by
        refine (if_neg hs).trans ?_
        rw [m2, show (4 : Int64) = lN 4 from rfl, lN_add, show 8589934592 + r + 4 = 8589934592 + (r + 4 * 1) by omega]
      refine ⟨⟨Or.inr ⟨r, m1, by rw [m2, show r + 4 * 0 = r by omega], h1.trans m3, h2.trans m4⟩, i1⟩, ?_⟩
      rw [List.map_cons]
      exact ⟨Or.inr ⟨r, m1, eh, h1.trans m3, h2.trans m4⟩, i2⟩
    · have : n = 12884901888 + r := (pk_lEQ (by omega) (by omega)).mp (en.symm.trans m2)
      omega
section
variable {f_place f_count f_top f_done f_open f_steps f_shownSteps f_fault f_in f_made f_old f_size f_heads f_fresh : Int32} {a_kind a_value a_all a_split a_toKind a_doneKind a_toValue a_doneValue a_begins a_lacks a_inKind a_leftKind a_madeKind a_oldKind a_resultKind a_inValue a_leftValue a_madeValue a_oldValue a_resultValue a_from a_to a_whole a_known a_bound a_whose a_rank a_one a_two a_oneOf a_twoOf a_headAt a_headOf a_headLeft a_pairs a_first : Nat → Int32}
theorem yp_5 {post : Int32 → Prop} {r T : Nat} (hr : r < 8) (hall : a_all r = nI T) (hT : 0 < T) (hT30 : T ≤ 30) : ∀ (l : List Int64) (k n x : Nat), x = 30 * r + k → k + l.length = T → hd_y tk_kR tk_vR a_kind a_value x l → (∀ t, t ∈ l → tk_r t) → l.length < n → post (if l.all vd_p = true then 1 else 0) → wY_plain_5 post (nI r) f_place f_count f_top f_done f_open f_steps f_shownSteps f_fault f_in f_made f_old f_size f_heads f_fresh a_kind a_value a_all a_split a_toKind a_doneKind a_toValue a_doneValue a_begins a_lacks a_inKind a_leftKind a_madeKind a_oldKind a_resultKind a_inValue a_leftValue a_madeValue a_oldValue a_resultValue a_from a_to a_whole a_known a_bound a_whose a_rank a_one a_two a_oneOf a_twoOf a_headAt a_headOf a_headLeft a_pairs a_first n (nI x)
  | [], k, n, x, hx, h1, h2, h3, hn, h => by
    obtain ⟨n, rfl⟩ : ∃ n', n = n' + 1 := ⟨n - 1, by omega⟩
    rw [List.length_nil] at h1
    have hin : vp_in (nI r) 9 := vp_in_nI (by omega) (by omega)
    have ec : (nI r).toNatClampNeg = r := nI_clamp (by omega)
    refine ⟨hin, ?_⟩
    rw [ec, hall]
    refine pk_le (30 * r + T) x (fun _ => ⟨hin, br_f (nI_nle hT (by omega)) ?_⟩) (fun z => absurd z (by omega)) (by rw [show (30 : Int32) = nI 30 from rfl, pk_mul, nI_add]) rfl
    rw [List.all_nil, if_pos rfl] at h
    exact h
  | t :: l, k, n, x, hx, h1, h2, h3, hn, h => by
    obtain ⟨n, rfl⟩ : ∃ n', n = n' + 1 := ⟨n - 1, by omega⟩
    rw [List.length_cons] at h1 hn
    have hin : vp_in (nI r) 9 := vp_in_nI (by omega) (by omega)
    have ec : (nI r).toNatClampNeg = r := nI_clamp (by omega)
    have hin2 : vp_in (nI x) 270 := vp_in_nI (by omega) (by omega)
    have ec2 : (nI x).toNatClampNeg = x := nI_clamp (by omega)
    refine ⟨hin, ?_⟩
    rw [ec, hall]
    refine pk_le (30 * r + T) x (fun z => absurd z (by omega)) (fun _ => ⟨hin2, ?_⟩) (by rw [show (30 : Int32) = nI 30 from rfl, pk_mul, nI_add]) rfl
    rw [ec2, h2.1.1, h2.1.2]
    rw [List.all_cons] at h
    have go : vd_p t = true → wY_plain_5 post (nI r) f_place f_count f_top f_done f_open f_steps f_shownSteps f_fault f_in f_made f_old f_size f_heads f_fresh a_kind a_value a_all a_split a_toKind a_doneKind a_toValue a_doneValue a_begins a_lacks a_inKind a_leftKind a_madeKind a_oldKind a_resultKind a_inValue a_leftValue a_madeValue a_oldValue a_resultValue a_from a_to a_whole a_known a_bound a_whose a_rank a_one a_two a_oneOf a_twoOf a_headAt a_headOf a_headLeft a_pairs a_first n (nI (x + 1)) := by
      intro hp
      rw [hp, Bool.true_and] at h
      exact yp_5 hr hall hT hT30 l (k + 1) n (x + 1) (by omega) (by omega) h2.2 (fun x hx => h3 x (List.mem_cons.mpr (Or.inr hx))) (by omega) h
    have no : vd_p t = false → post 0 := by
      intro hp
      rw [hp, Bool.false_and, if_neg (by decide)] at h
      exact h
    rcases tk_R_cases (h3 t (List.mem_cons.mpr (Or.inl rfl))) with ⟨m, m1, m2, m3, m4⟩ | ⟨m, m1, m5, m2, m3, m4⟩ | ⟨q, m1, m2, m3, m4⟩ | ⟨q, m1, m2, m3, m4⟩
    · rw [m3, m4]
      refine br_f (by decide) ⟨hin2, br_f (by decide) ⟨hin2, br_t rfl ⟨hin2, ?_⟩⟩⟩
      refine pk_le m 8 (fun hle => nm_r (nI_1 x) (go ?_)) (fun hgt => no ?_)
      · rw [m2]; exact (vd_p_n (by omega)).mpr (Or.inl (by omega))
      · rw [m2]; exact vd_p_f (by omega) (by omega)
    · rw [m3]
      exact br_t rfl (no (by rw [m2]; exact vd_p_f (by omega) (by omega)))
    · rw [m3]
      refine br_f (by decide) ⟨hin2, br_f (by decide) ⟨hin2, br_f (by decide) (nm_r (nI_1 x) (go ?_))⟩⟩
      rw [m2]; exact (vd_p_n (by omega)).mpr (Or.inr (by omega))
    · rw [m3]
      exact br_f (by decide) ⟨hin2, br_t rfl (no (by rw [m2]; exact vd_p_f (by omega) (by omega)))⟩
theorem yp_plain {post : Int32 → Prop} {L R : Nat → List Int64} {r : Nat} (hG : mc_G L R) (hR : yr_R L R a_kind a_value a_all a_split) (hr : r < 8) (h : post (if vd_pl L R r = true then 1 else 0)) : wpY_plain post (f_place, f_count, f_top, f_done, f_open, f_steps, f_shownSteps, f_fault, f_in, f_made, f_old, f_size, f_heads, f_fresh, a_kind, a_value, a_all, a_split, a_toKind, a_doneKind, a_toValue, a_doneValue, a_begins, a_lacks, a_inKind, a_leftKind, a_madeKind, a_oldKind, a_resultKind, a_inValue, a_leftValue, a_madeValue, a_oldValue, a_resultValue, a_from, a_to, a_whole, a_known, a_bound, a_whose, a_rank, a_one, a_two, a_oneOf, a_twoOf, a_headAt, a_headOf, a_headLeft, a_pairs, a_first) (nI r) := by
  obtain ⟨z1, z2⟩ := hR r hr
  refine nm_r (e' := nI (30 * r)) (by rw [show (30 : Int32) = nI 30 from rfl, pk_mul]) ?_
  by_cases h0 : L r = []
  · have ev : vd_pl L R r = false := by unfold vd_pl; rw [h0]; rfl
    rw [ev, if_neg (by decide)] at h
    have hin : vp_in (nI r) 9 := vp_in_nI (by omega) (by omega)
    have ec : (nI r).toNatClampNeg = r := nI_clamp (by omega)
    refine ⟨1, hin, ?_⟩
    rw [ec, z1 h0]
    exact pk_le (30 * r) (30 * r) (fun _ => ⟨hin, br_t (by decide) h⟩) (fun z => absurd z (by omega)) (by rw [show (30 : Int32) = nI 30 from rfl, pk_mul, Int32.add_zero]) rfl
  · obtain ⟨w1, w2, w3⟩ := z2 h0
    rcases hG r with z | ⟨g1, g2, g3, g4, g5, g6, g7, g8⟩
    · exact absurd z h0
    have hl := tm_w_len _ _ g1
    have ev : vd_pl L R r = (L r ++ R r).all vd_p := by
      unfold vd_pl
      rw [List.all_append]
      cases e : L r with
      | nil => exact absurd e h0
      | cons a l => rfl
    rw [ev] at h
    refine ⟨(L r ++ R r).length + 1, ?_⟩
    refine yp_5 hr w1 (by omega) g3 (L r ++ R r) 0 _ (30 * r) (by omega) (by rw [List.length_append]; omega) w3 (fun t ht => ?_) (by omega) h
    rcases List.mem_append.mp ht with z | z
    · exact g4 t z
    · exact g5 t z
end
end
section
/-! the reference: the kind of a pair -/
def ys_Q (P : SY → Prop) (f_place : Int32) (f_shownSteps : Int32) (f_size : Int32) (f_fresh : Int32) (a_kind : Nat → Int32) (a_value : Nat → Int32) (a_all : Nat → Int32) (a_split : Nat → Int32) (a_resultKind : Nat → Int32) (a_resultValue : Nat → Int32) (a_pairs a_first : Nat → Int32) : Prop := ∀ (f_count : Int32) (f_top : Int32) (f_done : Int32) (f_open : Int32) (f_steps : Int32) (f_fault : Int32) (f_in : Int32) (f_made : Int32) (f_old : Int32) (f_heads : Int32) (a_toKind : Nat → Int32) (a_doneKind : Nat → Int32) (a_toValue : Nat → Int32) (a_doneValue : Nat → Int32) (a_begins : Nat → Int32) (a_lacks : Nat → Int32) (a_inKind : Nat → Int32) (a_leftKind : Nat → Int32) (a_madeKind : Nat → Int32) (a_oldKind : Nat → Int32) (a_inValue : Nat → Int32) (a_leftValue : Nat → Int32) (a_madeValue : Nat → Int32) (a_oldValue : Nat → Int32) (a_from : Nat → Int32) (a_to : Nat → Int32) (a_whole : Nat → Int32) (a_known : Nat → Int32) (a_bound : Nat → Int32) (a_whose : Nat → Int32) (a_rank : Nat → Int32) (a_one : Nat → Int32) (a_two : Nat → Int32) (a_oneOf : Nat → Int32) (a_twoOf : Nat → Int32) (a_headAt : Nat → Int32) (a_headOf : Nat → Int32) (a_headLeft : Nat → Int32), P (f_place, f_count, f_top, f_done, f_open, f_steps, f_shownSteps, f_fault, f_in, f_made, f_old, f_size, f_heads, f_fresh, a_kind, a_value, a_all, a_split, a_toKind, a_doneKind, a_toValue, a_doneValue, a_begins, a_lacks, a_inKind, a_leftKind, a_madeKind, a_oldKind, a_resultKind, a_inValue, a_leftValue, a_madeValue, a_oldValue, a_resultValue, a_from, a_to, a_whole, a_known, a_bound, a_whose, a_rank, a_one, a_two, a_oneOf, a_twoOf, a_headAt, a_headOf, a_headLeft, a_pairs, a_first)
theorem jy_0 (i j : Nat) : jy_p i j 0 = 30 * i := rfl
theorem jy_A {i j n : Nat} : jy_p i j (61 + n) = 30 * i + n ∧ jy_o (61 + n) = 0 := by
  refine ⟨(if_neg (by omega)).trans ((if_neg (by omega)).trans ?_), (if_neg (by omega)).trans (if_neg (by omega))⟩
  rw [show 61 + n - 61 = n by omega]
theorem jy_B {i j n : Nat} (hn : n ≤ 30) : jy_p i j (30 + n) = 30 * j + n ∧ jy_o (30 + n) = 1 := by
  refine ⟨(if_neg (by omega)).trans ((if_pos (by omega)).trans ?_), (if_neg (by omega)).trans (if_pos (by omega))⟩
  rw [show 30 + n - 30 = n by omega]
theorem i30 (i : Nat) : (30 : Int32) * nI i = nI (30 * i) := by rw [show (30 : Int32) = nI 30 from rfl, pk_mul]
section
variable {f_place f_count f_top f_done f_open f_steps f_shownSteps f_fault f_in f_made f_old f_size f_heads f_fresh : Int32} {a_kind a_value a_all a_split a_toKind a_doneKind a_toValue a_doneValue a_begins a_lacks a_inKind a_leftKind a_madeKind a_oldKind a_resultKind a_inValue a_leftValue a_madeValue a_oldValue a_resultValue a_from a_to a_whole a_known a_bound a_whose a_rank a_one a_two a_oneOf a_twoOf a_headAt a_headOf a_headLeft a_pairs a_first : Nat → Int32}
variable {L R : Nat → List Int64} {J : Nat → Int64} {A B RA RB : List Int64} {σ : Nat → Option Nat} {rk : Nat → Nat} {i j p : Nat}
theorem yk_105 {post : Int32 → SY → Prop} {x4 : Int32} {s S2 : List Int64} (H : jn_H J A B) (hR : us_R A B σ rk) (hY : jy_H a_kind a_value i j A B) (hu : yu_s a_bound a_whose i j σ) (hB30 : B.length + RB.length ≤ 30) (hsB : a_split j = nI B.length) (hRBy : jy_h a_kind a_value 1 (30 * j + B.length) RB) (hRBw : tm_w RB 1) (hRBk : ∀ t, t ∈ RB → jn_k t) (hp : p < A.length) (hS2 : S2 = (vd_r2 A B RB p σ).map (rn_n a_rank)) (hr2k : ∀ t, t ∈ vd_r2 A B RB p σ → jn_k t) (hr2 : ∀ t, t ∈ vd_r2 A B RB p σ → ¬ t < 8589934592 → ∃ r, r < 8 ∧ a_rank (jn_n t) = nI r) (hw : tm_w S2 1) (ht : ∀ t, t ∈ S2 → tk_t t) (hG : mc_G L R) (hRr : yr_R L R a_kind a_value a_all a_split)
    (hx : x4 = 0 ∨ (x4 = 1 ∧ f_old = nI s.length ∧ hd_y tk_kT tk_vT a_oldKind a_oldValue 0 s ∧ (∀ t, t ∈ s → tk_t t) ∧ s.length ≤ 30))
    (H3 : (x4 = 0 ∨ ¬ (S2.length ≤ 30 ∧ (mc_run L R 4000 S2 [] 0 none).1 = 0)) → ys_Q (post 3) f_place f_shownSteps f_size f_fresh a_kind a_value a_all a_split a_resultKind a_resultValue a_pairs a_first)
    (H12 : x4 = 1 → S2.length ≤ 30 → (mc_run L R 4000 S2 [] 0 none).1 = 0 → ys_Q (post (nI (if s = (mc_run L R 4000 S2 [] 0 none).2.2 then 1 else 2))) f_place f_shownSteps f_size f_fresh a_kind a_value a_all a_split a_resultKind a_resultValue a_pairs a_first) : wY_kindOf_105 post (nI i) (nI j) (nI p) x4 f_place f_count f_top f_done f_open f_steps f_shownSteps f_fault f_in f_made f_old f_size f_heads f_fresh a_kind a_value a_all a_split a_toKind a_doneKind a_toValue a_doneValue a_begins a_lacks a_inKind a_leftKind a_madeKind a_oldKind a_resultKind a_inValue a_leftValue a_madeValue a_oldValue a_resultValue a_from a_to a_whole a_known a_bound a_whose a_rank a_one a_two a_oneOf a_twoOf a_headAt a_headOf a_headLeft a_pairs a_first := by
  obtain ⟨hi, hj, hyA, hyB⟩ := hY
  have hY : jy_H a_kind a_value i j A B := ⟨hi, hj, hyA, hyB⟩
  have hAl : A.length ≤ 29 := H.2.2.1
  have hBl : B.length ≤ 29 := H.2.2.2.1
  obtain ⟨om1, om2⟩ := wk_om H hR
  have hlt := jn_lt H (Or.inl hp)
  have cj : (nI j).toNatClampNeg = j := nI_clamp (by omega)
  have inj : vp_in (nI j) 8 := vp_in_nI hj (by omega)
  have ejp : jy_p i j p = 30 * i + p := if_pos (by omega)
  have eip : (30 : Int32) * nI i + nI p = nI (30 * i + p) := by rw [i30, nI_add]
  obtain ⟨eB1, eB2⟩ := jy_B (i := i) (j := j) (n := B.length) (by omega)
  have eml : (vd_r2 A B RB p σ).length = S2.length := by rw [hS2, List.length_map]
  unfold wY_kindOf_105
  refine yk_head (k := 0) (p := 0) (i := i) (j := j) (by omega) (by omega) hi hj (i30 i) rfl ?_
  refine yj_end H hY (p := p) (by rw [ejp, eip]) (Or.inl hp) ⟨inj, ?_⟩
  rw [cj]
  refine yw_writeC (p0 := p) (pr := 30 + B.length) (RB := RB) H hR hY hu om1 om2 (us_h_sol hR) (fun v e => us_h_none e 8) (us_h_ne H hR 8) hp eip (by rw [ejp, Nat.add_assoc]) (by omega) (by omega) (by rw [eB1, i30, hsB, nI_add]) hRBw hRBk (by rw [eB1]; exact hRBy) ⟨⟨pk_us, pk_us, ⟨1, by omega, pk_us, H.1⟩, hyA, Or.inl (by omega), Or.inl (by omega)⟩, trivial⟩ (fun hs ha ho hl ik iv nin g1 g2 => ?_)
  have g1 : nin = nI ((vd_r2 A B RB p σ).take 31).length := g1
  have g2 : hd_y (fun _ => 0) (yw_v a_rank) ik iv 0 ((vd_r2 A B RB p σ).take 31) := g2
  show (((if (vd_r2 A B RB p σ).length ≤ 30 then (1 : Int32) else 0) = 0 → _) ∧ (¬ (if (vd_r2 A B RB p σ).length ≤ 30 then (1 : Int32) else 0) = 0 → _))
  by_cases h30 : (vd_r2 A B RB p σ).length ≤ 30
  · rw [if_pos h30]
    refine br_f (by decide) ?_
    rcases hx with hx | ⟨hx, x1, x2, x3, x5⟩
    · exact br_t hx (H3 (Or.inl hx) _ _ _ _ _ _ _ _ _ _ _ _ _ _ _ _ _ _ _ _ _ _ _ _ _ _ _ _ _ _ _ _ _ _ _ _ _ _)
    · refine br_f (by rw [hx]; decide) ?_
      have et : (vd_r2 A B RB p σ).take 31 = vd_r2 A B RB p σ := List.take_of_length_le (by omega)
      rw [et] at g1 g2
      rw [eml] at g1 h30
      have g3 := rn_hd _ _ hr2k hr2 g2
      rw [← hS2] at g3
      subst g1 x1
      refine yn_nf (P := tk_t) (q := S2) S2.length 0 (fun _ h => h) (fun _ h => tk_d_t h) hG hRr hw h30 ht (by omega) rfl g3 (fun c t' s' run tp dn sp fa md op tk tv dk dv lk lv mdk mdv fr to wh kn bg lc hc => ?_)
      obtain ⟨c1, t1, s1, o1, o2, o3, o4⟩ := mc_run_ok (P := tk_t) (fun _ h => tk_d_t h) hG 4000 S2 [] 0 none (mc_I0 hw h30 ht (by omega)).1 (mc_I0 (P := tk_t) hw h30 ht (by omega)).2
      rw [o1] at run
      obtain ⟨rfl, rfl, rfl⟩ : c1 = c ∧ t1 = t' ∧ s1 = s' := by
        injection run with z1 z2
        injection z2 with z2 z3
        exact ⟨z1, z2, z3⟩
      rw [o1] at H3 H12
      by_cases h0 : c1 = 0
      · obtain ⟨b1, b2⟩ := hc h0
        subst b1
        have H12 := H12 hx h30 h0
        have o5 := o4 h0
        refine br_t (by rw [h0]; rfl) (yb_same s.length s1.length rfl rfl (by omega) (by omega) x2 b2 x3 o5.2.2.2 (fun e => ?_) (fun e => ?_))
        · have e' : s = (c1, t1, s1).2.2 := e
          rw [if_pos e'] at H12
          exact br_f (by decide) (H12 _ _ _ _ _ _ _ _ _ _ _ _ _ _ _ _ _ _ _ _ _ _ _ _ _ _ _ _ _ _ _ _ _ _ _ _ _ _)
        · have e' : ¬ s = (c1, t1, s1).2.2 := e
          rw [if_neg e'] at H12
          exact br_t rfl (H12 _ _ _ _ _ _ _ _ _ _ _ _ _ _ _ _ _ _ _ _ _ _ _ _ _ _ _ _ _ _ _ _ _ _ _ _ _ _)
      · have hcn : ¬ nI c1 = 0 := by rw [← nI_0, nI_eq (by omega) (by omega)]; exact h0
        exact br_f hcn (H3 (Or.inr (fun z => h0 z.2)) _ _ _ _ _ _ _ _ _ _ _ _ _ _ _ _ _ _ _ _ _ _ _ _ _ _ _ _ _ _ _ _ _ _ _ _ _ _)
  · rw [if_neg h30]
    rw [eml] at h30
    exact br_t rfl (H3 (Or.inr (fun z => h30 z.1)) _ _ _ _ _ _ _ _ _ _ _ _ _ _ _ _ _ _ _ _ _ _ _ _ _ _ _ _ _ _ _ _ _ _ _ _ _ _)
end
end
section
/-! the reference: the kind of a pair, whole -/
section
variable {f_place f_count f_top f_done f_open f_steps f_shownSteps f_fault f_in f_made f_old f_size f_heads f_fresh : Int32} {a_kind a_value a_all a_split a_toKind a_doneKind a_toValue a_doneValue a_begins a_lacks a_inKind a_leftKind a_madeKind a_oldKind a_resultKind a_inValue a_leftValue a_madeValue a_oldValue a_resultValue a_from a_to a_whole a_known a_bound a_whose a_rank a_one a_two a_oneOf a_twoOf a_headAt a_headOf a_headLeft a_pairs a_first : Nat → Int32}
variable {L R : Nat → List Int64} {J : Nat → Int64} {A B RA RB : List Int64} {σ : Nat → Option Nat} {rk : Nat → Nat} {i j p : Nat}
theorem yk_kind {post : Int32 → SY → Prop} (H : jn_H J A B) (hR : us_R A B σ rk) (hY : jy_H a_kind a_value i j A B) (hu : yu_s a_bound a_whose i j σ) (hA30 : A.length + RA.length ≤ 30) (hB30 : B.length + RB.length ≤ 30) (hsA : a_split i = nI A.length) (hsB : a_split j = nI B.length) (hRAy : jy_h a_kind a_value 0 (30 * i + A.length) RA) (hRBy : jy_h a_kind a_value 1 (30 * j + B.length) RB) (hRAw : tm_w RA 1) (hRAk : ∀ t, t ∈ RA → jn_k t) (hRAs : ∀ t, t ∈ RA → ¬ t < 8589934592 → t ∈ A) (hRBw : tm_w RB 1) (hRBk : ∀ t, t ∈ RB → jn_k t) (hRBs : ∀ t, t ∈ RB → ¬ t < 8589934592 → t ∈ B) (hp : p < A.length) (hE : us_E (us_h A B σ 8) (jn_t A B p) = us_E (us_h A B σ 8) (jn_t A B 30)) (hG : mc_G L R) (hRr : yr_R L R a_kind a_value a_all a_split)
    (HQ : ys_Q (post (nI (vd_c L R A RA B RB p σ))) f_place f_shownSteps f_size f_fresh a_kind a_value a_all a_split a_resultKind a_resultValue a_pairs a_first) : wpY_kindOf post (f_place, f_count, f_top, f_done, f_open, f_steps, f_shownSteps, f_fault, f_in, f_made, f_old, f_size, f_heads, f_fresh, a_kind, a_value, a_all, a_split, a_toKind, a_doneKind, a_toValue, a_doneValue, a_begins, a_lacks, a_inKind, a_leftKind, a_madeKind, a_oldKind, a_resultKind, a_inValue, a_leftValue, a_madeValue, a_oldValue, a_resultValue, a_from, a_to, a_whole, a_known, a_bound, a_whose, a_rank, a_one, a_two, a_oneOf, a_twoOf, a_headAt, a_headOf, a_headLeft, a_pairs, a_first) (nI i) (nI j) (nI p) := by
  obtain ⟨hi, hj, hyA, hyB⟩ := hY
  have hY : jy_H a_kind a_value i j A B := ⟨hi, hj, hyA, hyB⟩
  have hAl : A.length ≤ 29 := H.2.2.1
  have hAk := H.2.2.2.2.2.2.1
  obtain ⟨om1, om2⟩ := wk_om H hR
  have ci : (nI i).toNatClampNeg = i := nI_clamp (by omega)
  have ini : vp_in (nI i) 8 := vp_in_nI hi (by omega)
  obtain ⟨eA1, eA2⟩ := jy_A (i := i) (j := j) (n := A.length)
  have three : ¬ ((us_E (us_h A B σ 8) A).length ≤ 30 ∧ (vd_s1 A RA B σ).length ≤ 30 ∧ (mc_run L R 4000 (vd_s1 A RA B σ) [] 0 none).1 = 0 ∧ (vd_s2 A B RB p σ).length ≤ 30 ∧ (mc_run L R 4000 (vd_s2 A B RB p σ) [] 0 none).1 = 0) → ys_Q (post 3) f_place f_shownSteps f_size f_fresh a_kind a_value a_all a_split a_resultKind a_resultValue a_pairs a_first := by
    intro z
    have e : vd_c L R A RA B RB p σ = 3 := if_neg z
    rw [e] at HQ
    exact HQ
  unfold wpY_kindOf
  refine yk_head (k := 0) (p := 0) (i := i) (j := j) (by omega) (by omega) hi hj (i30 i) rfl ?_
  refine yw_write0 (p := 0) (l := A) H hR hY hu om1 om2 (us_h_sol hR) (fun v e => us_h_none e 8) hAk (by omega) ⟨⟨pk_us, pk_us, ⟨1, by omega, pk_us, H.1⟩, hyA, Or.inl (by omega), Or.inl (by omega)⟩, trivial⟩ (fun hs ha ho hl ik iv nin _ _ => ?_)
  show (((if (us_E (us_h A B σ 8) A).length ≤ 30 then (1 : Int32) else 0) = 0 → _) ∧ (¬ (if (us_E (us_h A B σ 8) A).length ≤ 30 then (1 : Int32) else 0) = 0 → _))
  by_cases h30 : (us_E (us_h A B σ 8) A).length ≤ 30
  · rw [if_pos h30]
    refine br_f (by decide) ?_
    refine yk_head (k := 0) (p := 0) (i := i) (j := j) (by omega) (by omega) hi hj (i30 i) rfl ?_
    refine yr_rank (p := 0) (l := A) H hR hY hu om1 om2 (us_h_sol hR) (fun v e => us_h_none e 8) hAk ⟨⟨pk_us, pk_us, ⟨1, by omega, pk_us, H.1⟩, hyA, Or.inl (by omega), Or.inl (by omega)⟩, trivial⟩ (fun hs ra ha ho hl hra => ⟨ini, ?_⟩)
    obtain ⟨ra0, hra0, era⟩ := hra
    obtain ⟨v1, v2, v3, v4, v5, v6, v7⟩ := vd_side H hR hp hE hRAw hRAk hRAs hRBw hRBk hRBs hra0
    obtain ⟨n1, n2, n3⟩ := vd_named v2 v6 v4
    obtain ⟨m1, m2, m3⟩ := vd_named v3 v7 v5
    have hcong := (rn_f_congr (us_E (us_h A B σ 8) A) ra0 (fun _ => -1) 0 v1 hra0).2
    have e1 : (us_E (us_h A B σ 8) RA).map (rn_n (rn_f (us_E (us_h A B σ 8) A) ra0 0).1) = vd_s1 A RA B σ := rn_map_congr hcong _ v2
    have e2 : (vd_r2 A B RB p σ).map (rn_n (rn_f (us_E (us_h A B σ 8) A) ra0 0).1) = vd_s2 A B RB p σ := rn_map_congr hcong _ v3
    rw [← era] at e1 e2 v6 v7 n1 n2 m1 m2
    rw [ci]
    refine yk_head (k := 0) (p := 61 + A.length) (i := i) (j := j) (by omega) (by omega) hi hj (by rw [eA1, i30, hsA, nI_add]) (by rw [eA2]; rfl) ?_
    refine yw_write0 (p := 61 + A.length) (l := RA) H hR hY hu om1 om2 (us_h_sol hR) (fun v e => us_h_none e 8) hRAk (by omega) ⟨⟨pk_us, pk_us, ⟨1, by omega, pk_us, hRAw⟩, by rw [eA1, eA2]; exact hRAy, Or.inr (by omega), Or.inr (by omega)⟩, trivial⟩ (fun hs ha ho hl ik iv nin g1 g2 => ?_)
    show (((if (us_E (us_h A B σ 8) RA).length ≤ 30 then (1 : Int32) else 0) = 0 → _) ∧ (¬ (if (us_E (us_h A B σ 8) RA).length ≤ 30 then (1 : Int32) else 0) = 0 → _))
    have eml : (us_E (us_h A B σ 8) RA).length = (vd_s1 A RA B σ).length := by rw [← e1, List.length_map]
    by_cases h31 : (us_E (us_h A B σ 8) RA).length ≤ 30
    · rw [if_pos h31]
      refine br_f (by decide) ?_
      have et : (us_E (us_h A B σ 8) RA).take 31 = us_E (us_h A B σ 8) RA := List.take_of_length_le (by omega)
      rw [et] at g1 g2
      rw [eml] at g1 h31
      have g3 := rn_hd _ _ v2 v6 g2
      rw [e1] at g3
      subst g1
      have w1 : tm_w (vd_s1 A RA B σ) 1 := by rw [← e1]; exact n1
      have w2 : ∀ t, t ∈ vd_s1 A RA B σ → tk_t t := by rw [← e1]; exact n2
      refine yn_nf (P := tk_t) (q := vd_s1 A RA B σ) (vd_s1 A RA B σ).length 0 (fun _ h => h) (fun _ h => tk_d_t h) hG hRr w1 h31 w2 (by omega) rfl g3 (fun c t' s' run tp dn sp fa md op tk tv dk dv lk lv mdk mdv fr to wh kn bg lc hc => ?_)
      obtain ⟨c1, t1, s1, o1, o2, o3, o4⟩ := mc_run_ok (P := tk_t) (fun _ h => tk_d_t h) hG 4000 (vd_s1 A RA B σ) [] 0 none (mc_I0 w1 h31 w2 (by omega)).1 (mc_I0 (P := tk_t) w1 h31 w2 (by omega)).2
      rw [o1] at run
      obtain ⟨rfl, rfl, rfl⟩ : c1 = c ∧ t1 = t' ∧ s1 = s' := by
        injection run with z1 z2
        injection z2 with z2 z3
        exact ⟨z1, z2, z3⟩
      by_cases h0 : c1 = 0
      · obtain ⟨b1, b2⟩ := hc h0
        subst b1
        have o5 := o4 h0
        refine br_t (by rw [h0]; rfl) (br_f (by decide) (yb_keep s1.length rfl (by omega) b2 (fun ok ov hz => ?_)))
        refine yk_105 (x4 := 1) (s := s1) (S2 := vd_s2 A B RB p σ) (RB := RB) H hR hY hu hB30 hsB hRBy hRBw hRBk hp e2.symm v3 v7 (by rw [← e2]; exact m1) (by rw [← e2]; exact m2) hG hRr (Or.inr ⟨rfl, rfl, hz, o5.2.2.2, o5.2.2.1⟩) (fun z => three (fun y => ?_)) (fun _ z1 z2 => ?_)
        · rcases z with z | z
          · exact absurd z (by decide)
          · exact z y.2.2.2
        · have er : (mc_run L R 4000 (vd_s1 A RA B σ) [] 0 none).2.2 = s1 := by rw [o1]
          have e0 : (mc_run L R 4000 (vd_s1 A RA B σ) [] 0 none).1 = 0 := by rw [o1]; exact h0
          have ev : vd_c L R A RA B RB p σ = if s1 = (mc_run L R 4000 (vd_s2 A B RB p σ) [] 0 none).2.2 then 1 else 2 := by
            rw [← er]
            exact if_pos ⟨h30, h31, e0, z1, z2⟩
          rw [ev] at HQ
          exact HQ
      · have hcn : ¬ nI c1 = 0 := by rw [← nI_0, nI_eq (by omega) (by omega)]; exact h0
        have no : ys_Q (post 3) f_place f_shownSteps f_size f_fresh a_kind a_value a_all a_split a_resultKind a_resultValue a_pairs a_first := three (fun z => by
          have := z.2.2.1
          rw [o1] at this
          exact h0 this)
        refine br_f hcn (br_t rfl ?_)
        exact yk_105 (x4 := 0) (s := []) (S2 := vd_s2 A B RB p σ) (RB := RB) H hR hY hu hB30 hsB hRBy hRBw hRBk hp e2.symm v3 v7 (by rw [← e2]; exact m1) (by rw [← e2]; exact m2) hG hRr (Or.inl rfl) (fun _ => no) (fun z => absurd z (by decide))
    · rw [if_neg h31]
      rw [eml] at h31
      exact br_t rfl (three (fun z => h31 z.2.1) _ _ _ _ _ _ _ _ _ _ _ _ _ _ _ _ _ _ _ _ _ _ _ _ _ _ _ _ _ _ _ _ _ _ _ _ _ _)
  · rw [if_neg h30]
    exact br_t rfl (three (fun z => h30 z.1) _ _ _ _ _ _ _ _ _ _ _ _ _ _ _ _ _ _ _ _ _ _ _ _ _ _ _ _ _ _ _ _ _ _ _ _ _ _)
end
end
section
/-! the reference: all pairs of two rules -/
theorem vs_skip {f : Nat} {L R : Nat → List Int64} : ∀ (d k : Nat) (s : (Nat → Int32) × (Nat → Int32)), (∀ m, k ≤ m → m < k + d → vd_w f L R (m / 240) (m / 30 % 8) (m % 30) = 0) → vs_n f L R d k s = s
  | 0, k, s, _ => rfl
  | d + 1, k, s, h => by
    have e : vs_s f L R k s = s := by
      unfold vs_s
      rw [h k (Nat.le_refl _) (by omega), vs_p0, vs_o0]
    rw [vs_n, e]
    exact vs_skip d (k + 1) s (fun m h1 h2 => h m (by omega) (by omega))
theorem vs_add {f : Nat} {L R : Nat → List Int64} : ∀ (a b k : Nat) (s : (Nat → Int32) × (Nat → Int32)), vs_n f L R (a + b) k s = vs_n f L R b (k + a) (vs_n f L R a k s)
  | 0, b, k, s => by rw [Nat.zero_add, Nat.add_zero]; rfl
  | a + 1, b, k, s => by
    rw [show a + 1 + b = (a + b) + 1 by omega, vs_n, vs_n, vs_add a b (k + 1), show k + 1 + a = k + (a + 1) by omega]
theorem vs_at {i j p k : Nat} (hj : j < 8) (hp : p < 30) (hk : k = i * 240 + 30 * j + p) : k / 240 = i ∧ k / 30 % 8 = j ∧ k % 30 = p := by
  subst hk
  refine ⟨by omega, by omega, by omega⟩
section
variable {f_place f_count f_top f_done f_open f_steps f_shownSteps f_fault f_in f_made f_old f_size f_heads f_fresh : Int32} {a_kind a_value a_all a_split a_toKind a_doneKind a_toValue a_doneValue a_begins a_lacks a_inKind a_leftKind a_madeKind a_oldKind a_resultKind a_inValue a_leftValue a_madeValue a_oldValue a_resultValue a_from a_to a_whole a_known a_bound a_whose a_rank a_one a_two a_oneOf a_twoOf a_headAt a_headOf a_headLeft a_pairs a_first : Nat → Int32}
variable {L R : Nat → List Int64} {i j : Nat}
theorem yb_step {post : SY → Prop} {f n p : Nat} {s : (Nat → Int32) × (Nat → Int32)} (hf : f = 10000000) (hG : mc_G L R) (hRr : yr_R L R a_kind a_value a_all a_split) (hi : i < 8) (hj : j < 8) (pi : vd_pl L R i = true) (pj : vd_pl L R j = true) (hp : p < (L i).length) (hne : ¬ (p = 0 ∧ i = j)) (HQ : ys_Q (fun u => match u with | (f_place0, f_count0, f_top0, f_done0, f_open0, f_steps0, f_shownSteps0, f_fault0, f_in0, f_made0, f_old0, f_size0, f_heads0, f_fresh0, a_kind0, a_value0, a_all0, a_split0, a_toKind0, a_doneKind0, a_toValue0, a_doneValue0, a_begins0, a_lacks0, a_inKind0, a_leftKind0, a_madeKind0, a_oldKind0, a_resultKind0, a_inValue0, a_leftValue0, a_madeValue0, a_oldValue0, a_resultValue0, a_from0, a_to0, a_whole0, a_known0, a_bound0, a_whose0, a_rank0, a_one0, a_two0, a_oneOf0, a_twoOf0, a_headAt0, a_headOf0, a_headLeft0, a_pairs0, a_first0) => wY_between_11 post (nI i) (nI j) n (nI (p + 1)) f_place0 f_count0 f_top0 f_done0 f_open0 f_steps0 f_shownSteps0 f_fault0 f_in0 f_made0 f_old0 f_size0 f_heads0 f_fresh0 a_kind0 a_value0 a_all0 a_split0 a_toKind0 a_doneKind0 a_toValue0 a_doneValue0 a_begins0 a_lacks0 a_inKind0 a_leftKind0 a_madeKind0 a_oldKind0 a_resultKind0 a_inValue0 a_leftValue0 a_madeValue0 a_oldValue0 a_resultValue0 a_from0 a_to0 a_whole0 a_known0 a_bound0 a_whose0 a_rank0 a_one0 a_two0 a_oneOf0 a_twoOf0 a_headAt0 a_headOf0 a_headLeft0 a_pairs0 a_first0) f_place f_shownSteps f_size f_fresh a_kind a_value a_all a_split a_resultKind a_resultValue (vs_p (vd_w f L R i j p) s.1) (vd_fo (vd_w f L R i j p) i j p s.2)) : wY_between_11 post (nI i) (nI j) (n + 1) (nI p) f_place f_count f_top f_done f_open f_steps f_shownSteps f_fault f_in f_made f_old f_size f_heads f_fresh a_kind a_value a_all a_split a_toKind a_doneKind a_toValue a_doneValue a_begins a_lacks a_inKind a_leftKind a_madeKind a_oldKind a_resultKind a_inValue a_leftValue a_madeValue a_oldValue a_resultValue a_from a_to a_whole a_known a_bound a_whose a_rank a_one a_two a_oneOf a_twoOf a_headAt a_headOf a_headLeft s.1 s.2 := by
  obtain ⟨a0, a1, a2, a3, a4, a5, a6, a7⟩ := vd_base hG pi
  obtain ⟨b0, b1, b2, b3, b4, b5, b6, b7⟩ := vd_base hG pj
  obtain ⟨c1, c2, c3, c4, c5⟩ := vd_B hG pj
  obtain ⟨_, w2, w3⟩ := (hRr i hi).2 a0
  obtain ⟨_, x2, x3⟩ := (hRr j hj).2 b0
  have bl : ((L j).map vd_h).length = (L j).length := List.length_map _
  have rl : ((R j).map vd_h).length = (R j).length := List.length_map _
  have ci : (nI i).toNatClampNeg = i := nI_clamp (by omega)
  have ini : vp_in (nI i) 8 := vp_in_nI hi (by omega)
  have eip : (30 : Int32) * nI i + nI p = nI (30 * i + p) := by rw [i30, nI_add]
  have inp : vp_in ((30 : Int32) * nI i + nI p) 270 := by rw [eip]; exact vp_in_nI (by omega) (by omega)
  have cp : ((30 : Int32) * nI i + nI p).toNatClampNeg = 30 * i + p := by rw [eip]; exact nI_clamp (by omega)
  obtain ⟨wl, wr⟩ := hy_app.mp w3
  obtain ⟨xl, xr⟩ := hy_app.mp x3
  have hkd := (hy_get wl hp).1
  have hgd : (L i).getD p 0 = (L i)[p] := by rw [List.getD_eq_getElem?_getD, List.getElem?_eq_getElem hp]; rfl
  have htk := a5 _ (List.getElem_mem hp)
  have hno : vd_w f L R i j p = 0 → wY_between_11 post (nI i) (nI j) n (nI (p + 1)) f_place f_count f_top f_done f_open f_steps f_shownSteps f_fault f_in f_made f_old f_size f_heads f_fresh a_kind a_value a_all a_split a_toKind a_doneKind a_toValue a_doneValue a_begins a_lacks a_inKind a_leftKind a_madeKind a_oldKind a_resultKind a_inValue a_leftValue a_madeValue a_oldValue a_resultValue a_from a_to a_whole a_known a_bound a_whose a_rank a_one a_two a_oneOf a_twoOf a_headAt a_headOf a_headLeft s.1 s.2 := by
    intro e
    rw [e, vs_p0, vs_o0] at HQ
    exact HQ _ _ _ _ _ _ _ _ _ _ _ _ _ _ _ _ _ _ _ _ _ _ _ _ _ _ _ _ _ _ _ _ _ _ _ _ _ _
  refine ⟨ini, ?_⟩
  rw [ci, w2]
  refine pk_le (L i).length p (fun z => absurd z (by omega)) (fun _ => ⟨inp, ?_⟩)
  rw [cp, hkd]
  have hcase : ((L i)[p] < 8589934592 ∧ tk_kR (L i)[p] = 0) ∨ (¬ (L i)[p] < 8589934592 ∧ tk_kR (L i)[p] = 2) := by
    obtain ⟨n', en, hn⟩ := htk
    rw [en]
    unfold tk_kR
    have l1 : lN n' < 4294967296 ↔ n' < 4294967296 := tk_lt 4294967296 (by omega)
    have l2 : lN n' < 8589934592 ↔ n' < 8589934592 := tk_lt 8589934592 (by omega)
    have l3 : lN n' < 12884901888 ↔ n' < 12884901888 := tk_lt 12884901888 (by omega)
    rcases hn with hn | hn
    · exact Or.inl ⟨l2.mpr (by omega), if_pos (l1.mpr (by omega))⟩
    · refine Or.inr ⟨by rw [l2]; omega, ?_⟩
      rw [if_neg (by rw [l1]; omega), if_neg (by rw [l2]; omega), if_pos (l3.mpr (by omega))]
  rcases hcase with ⟨hs, hk⟩ | ⟨hs, hk⟩
  · rw [hk]
    refine br_f (by decide) ?_
    have hok : vd_ok L R i j p = true := by
      unfold vd_ok
      rw [pi, pj, hgd, decide_eq_true hp, decide_eq_true hs]
      by_cases a : p = 0
      · have b : ¬ i = j := fun z => hne ⟨a, z⟩
        rw [decide_eq_false b, Bool.and_false]; rfl
      · rw [decide_eq_false a, Bool.false_and]; rfl
    have ew : vd_w f L R i j p = vd f L R i j p := if_pos hok
    have H : jn_H (vd_J (L i) ((L j).map vd_h)) (L i) ((L j).map vd_h) := vd_H a1 c1 a4 (by omega) (fun t ht => vd_k_j (a5 t ht)) c3
    have hY : jy_H a_kind a_value i j (L i) ((L j).map vd_h) := ⟨hi, hj, (jy_of _ _ a5 wl).1, (jy_of _ _ b5 xl).2⟩
    have v0 : jn_v (L i) ((L j).map vd_h) p := Or.inl hp
    have v30 : jn_v (L i) ((L j).map vd_h) 30 := Or.inr ⟨by omega, by have := tm_w_len _ _ c1; omega⟩
    refine yu_unify (p0 := p) (f := f) hf (by omega) eip (i30 j) H hY v0 v30 (fun σ e ct hs o1 w1 o2 w2' bd wo ha ho hl hu => ?_) (fun e ct hs o1 w1 o2 w2' bd wo ha ho hl => ?_)
    · obtain ⟨⟨rk, hR⟩, hE⟩ := us_un_fin H v0 v30 e
      have ev := vd_some (R := R) H v0 v30 e
      rw [ew, ev] at HQ
      obtain ⟨hv0, hv4⟩ := vd_c_pos (L := L) (R := R) (p := p) (L i) (R i) ((L j).map vd_h) ((R j).map vd_h) σ
      rw [vs_pn hv0] at HQ
      refine br_f (by decide) ?_
      refine yk_kind (A := L i) (B := (L j).map vd_h) (RA := R i) (RB := (R j).map vd_h) (i := i) (j := j) (p := p) (L := L) (R := R) H hR hY hu a3 (by rw [bl, rl]; exact b3) w2 (by rw [bl]; exact x2) (jy_of _ _ a6 wr).1 (by rw [bl]; exact (jy_of _ _ b6 xr).2) a2 (fun t ht => vd_k_j (a6 t ht)) a7 c2 c4 c5 hp (hE _ (us_h_sol hR)) hG hRr ?_
      intro f_count f_top f_done f_open f_steps f_fault f_in f_made f_old f_heads a_toKind a_doneKind a_toValue a_doneValue a_begins a_lacks a_inKind a_leftKind a_madeKind a_oldKind a_inValue a_leftValue a_madeValue a_oldValue a_from a_to a_whole a_known a_bound a_whose a_rank a_one a_two a_oneOf a_twoOf a_headAt a_headOf a_headLeft
      have hin : vp_in (nI (vd_c L R (L i) (R i) ((L j).map vd_h) ((R j).map vd_h) p σ)) 4 := vp_in_nI hv4 (by omega)
      have ec : (nI (vd_c L R (L i) (R i) ((L j).map vd_h) ((R j).map vd_h) p σ)).toNatClampNeg = vd_c L R (L i) (R i) ((L j).map vd_h) ((R j).map vd_h) p σ := nI_clamp (by omega)
      refine nm_e ⟨hin, hin, nm_r (e' := vd_pc (vd_c L R (L i) (R i) ((L j).map vd_h) ((R j).map vd_h) p σ) s.1) (by rw [ec]; rfl) ?_⟩
      unfold vd_fo at HQ
      refine pk_eq (vd_c L R (L i) (R i) ((L j).map vd_h) ((R j).map vd_h) p σ) 2 (fun h2 => ?_) (fun h2 => ?_)
      · by_cases hfo : s.2 0 = -2
        · rw [if_pos ⟨h2, hfo⟩] at HQ
          exact br_t hfo (nm_e (nm_e (nm_e (nm_r (nI_1 p) (HQ _ _ _ _ _ _ _ _ _ _ _ _ _ _ _ _ _ _ _ _ _ _ _ _ _ _ _ _ _ _ _ _ _ _ _ _ _ _)))))
        · rw [if_neg (fun z => hfo z.2)] at HQ
          exact br_f hfo (nm_r (nI_1 p) (HQ _ _ _ _ _ _ _ _ _ _ _ _ _ _ _ _ _ _ _ _ _ _ _ _ _ _ _ _ _ _ _ _ _ _ _ _ _ _))
      · rw [if_neg (fun z => h2 z.1)] at HQ
        exact nm_r (nI_1 p) (HQ _ _ _ _ _ _ _ _ _ _ _ _ _ _ _ _ _ _ _ _ _ _ _ _ _ _ _ _ _ _ _ _ _ _ _ _ _ _)
    · have ev := vd_none (R := R) H v0 v30 e
      rw [ew, ev, vs_p0, vs_o0] at HQ
      exact br_t rfl (nm_r (nI_1 p) (HQ _ _ _ _ _ _ _ _ _ _ _ _ _ _ _ _ _ _ _ _ _ _ _ _ _ _ _ _ _ _ _ _ _ _ _ _ _ _))
  · rw [hk]
    refine br_t rfl (nm_r (nI_1 p) (hno (if_neg ?_)))
    unfold vd_ok
    rw [hgd, decide_eq_false hs, Bool.and_false]
    decide
theorem yb_loop {post : SY → Prop} {f : Nat} (hf : f = 10000000) (hG : mc_G L R) (hRr : yr_R L R a_kind a_value a_all a_split) (hi : i < 8) (hj : j < 8) (pi : vd_pl L R i = true) (pj : vd_pl L R j = true) : ∀ (d p n : Nat) (s : (Nat → Int32) × (Nat → Int32)), p + d = (L i).length → d < n → (i = j → 0 < p) → ys_Q post f_place f_shownSteps f_size f_fresh a_kind a_value a_all a_split a_resultKind a_resultValue (vs_n f L R (30 - p) (i * 240 + 30 * j + p) s).1 (vs_n f L R (30 - p) (i * 240 + 30 * j + p) s).2 → ys_Q (fun u => match u with | (f_place0, f_count0, f_top0, f_done0, f_open0, f_steps0, f_shownSteps0, f_fault0, f_in0, f_made0, f_old0, f_size0, f_heads0, f_fresh0, a_kind0, a_value0, a_all0, a_split0, a_toKind0, a_doneKind0, a_toValue0, a_doneValue0, a_begins0, a_lacks0, a_inKind0, a_leftKind0, a_madeKind0, a_oldKind0, a_resultKind0, a_inValue0, a_leftValue0, a_madeValue0, a_oldValue0, a_resultValue0, a_from0, a_to0, a_whole0, a_known0, a_bound0, a_whose0, a_rank0, a_one0, a_two0, a_oneOf0, a_twoOf0, a_headAt0, a_headOf0, a_headLeft0, a_pairs0, a_first0) => wY_between_11 post (nI i) (nI j) n (nI p) f_place0 f_count0 f_top0 f_done0 f_open0 f_steps0 f_shownSteps0 f_fault0 f_in0 f_made0 f_old0 f_size0 f_heads0 f_fresh0 a_kind0 a_value0 a_all0 a_split0 a_toKind0 a_doneKind0 a_toValue0 a_doneValue0 a_begins0 a_lacks0 a_inKind0 a_leftKind0 a_madeKind0 a_oldKind0 a_resultKind0 a_inValue0 a_leftValue0 a_madeValue0 a_oldValue0 a_resultValue0 a_from0 a_to0 a_whole0 a_known0 a_bound0 a_whose0 a_rank0 a_one0 a_two0 a_oneOf0 a_twoOf0 a_headAt0 a_headOf0 a_headLeft0 a_pairs0 a_first0) f_place f_shownSteps f_size f_fresh a_kind a_value a_all a_split a_resultKind a_resultValue s.1 s.2
  | 0, p, n, s, hp, hn, hne, HQ => by
    obtain ⟨n, rfl⟩ : ∃ n', n = n' + 1 := ⟨n - 1, by omega⟩
    obtain ⟨a0, a1, a2, a3, a4, a5, a6, a7⟩ := vd_base hG pi
    obtain ⟨_, w2, w3⟩ := (hRr i hi).2 a0
    have ci : (nI i).toNatClampNeg = i := nI_clamp (by omega)
    have ini : vp_in (nI i) 8 := vp_in_nI hi (by omega)
    rw [vs_skip (30 - p) (i * 240 + 30 * j + p) s (fun m h1 h2 => by
      obtain ⟨e1, e2, e3⟩ := vs_at (i := i) (j := j) (p := m - (i * 240 + 30 * j)) (k := m) hj (by omega) (by omega)
      rw [e1, e2, e3]
      refine if_neg ?_
      unfold vd_ok
      rw [decide_eq_false (show ¬ m - (i * 240 + 30 * j) < (L i).length by omega), Bool.and_false, Bool.false_and, Bool.false_and]
      decide)] at HQ
    intro f_count f_top f_done f_open f_steps f_fault f_in f_made f_old f_heads a_toKind a_doneKind a_toValue a_doneValue a_begins a_lacks a_inKind a_leftKind a_madeKind a_oldKind a_inValue a_leftValue a_madeValue a_oldValue a_from a_to a_whole a_known a_bound a_whose a_rank a_one a_two a_oneOf a_twoOf a_headAt a_headOf a_headLeft
    refine ⟨ini, ?_⟩
    rw [ci, w2]
    exact pk_le (L i).length p (fun _ => HQ _ _ _ _ _ _ _ _ _ _ _ _ _ _ _ _ _ _ _ _ _ _ _ _ _ _ _ _ _ _ _ _ _ _ _ _ _ _) (fun z => absurd z (by omega))
  | d + 1, p, n, s, hp, hn, hne, HQ => by
    obtain ⟨n, rfl⟩ : ∃ n', n = n' + 1 := ⟨n - 1, by omega⟩
    obtain ⟨a0, a1, a2, a3, a4, a5, a6, a7⟩ := vd_base hG pi
    obtain ⟨e1, e2, e3⟩ := vs_at (i := i) (j := j) (p := p) (k := i * 240 + 30 * j + p) hj (by omega) rfl
    rw [show 30 - p = (30 - (p + 1)) + 1 by omega, vs_n] at HQ
    have ih := yb_loop hf hG hRr hi hj pi pj d (p + 1) n _ (by omega) (by omega) (fun _ => by omega) HQ
    unfold vs_s at ih
    rw [e1, e2, e3] at ih
    intro f_count f_top f_done f_open f_steps f_fault f_in f_made f_old f_heads a_toKind a_doneKind a_toValue a_doneValue a_begins a_lacks a_inKind a_leftKind a_madeKind a_oldKind a_inValue a_leftValue a_madeValue a_oldValue a_from a_to a_whole a_known a_bound a_whose a_rank a_one a_two a_oneOf a_twoOf a_headAt a_headOf a_headLeft
    exact yb_step hf hG hRr hi hj pi pj (by omega) (fun z => by have := hne z.2; omega) ih
theorem yb_between {post : SY → Prop} {f : Nat} {s : (Nat → Int32) × (Nat → Int32)} (hf : f = 10000000) (hG : mc_G L R) (hRr : yr_R L R a_kind a_value a_all a_split) (hi : i < 8) (hj : j < 8) (pi : vd_pl L R i = true) (pj : vd_pl L R j = true) (HQ : ys_Q post f_place f_shownSteps f_size f_fresh a_kind a_value a_all a_split a_resultKind a_resultValue (vs_n f L R 30 (i * 240 + 30 * j) s).1 (vs_n f L R 30 (i * 240 + 30 * j) s).2) : wpY_between post (f_place, f_count, f_top, f_done, f_open, f_steps, f_shownSteps, f_fault, f_in, f_made, f_old, f_size, f_heads, f_fresh, a_kind, a_value, a_all, a_split, a_toKind, a_doneKind, a_toValue, a_doneValue, a_begins, a_lacks, a_inKind, a_leftKind, a_madeKind, a_oldKind, a_resultKind, a_inValue, a_leftValue, a_madeValue, a_oldValue, a_resultValue, a_from, a_to, a_whole, a_known, a_bound, a_whose, a_rank, a_one, a_two, a_oneOf, a_twoOf, a_headAt, a_headOf, a_headLeft, s.1, s.2) (nI i) (nI j) := by
  obtain ⟨a0, a1, a2, a3, a4, a5, a6, a7⟩ := vd_base hG pi
  have hl := tm_w_len _ _ a1
  refine pk_eq i j (fun hij => ⟨(L i).length + 1, ?_⟩) (fun hij => ⟨(L i).length + 1, ?_⟩)
  · have e : vs_s f L R (i * 240 + 30 * j) s = s := by
      obtain ⟨e1, e2, e3⟩ := vs_at (i := i) (j := j) (p := 0) (k := i * 240 + 30 * j) hj (by omega) rfl
      unfold vs_s
      have ew : vd_w f L R i j 0 = 0 := by
        refine if_neg ?_
        unfold vd_ok
        rw [decide_eq_true rfl, decide_eq_true hij]
        simp
      rw [e1, e2, e3, ew, vs_p0, vs_o0]
    rw [vs_n, e] at HQ
    exact yb_loop hf hG hRr hi hj pi pj ((L i).length - 1) 1 _ s (by omega) (by omega) (fun _ => by omega) HQ _ _ _ _ _ _ _ _ _ _ _ _ _ _ _ _ _ _ _ _ _ _ _ _ _ _ _ _ _ _ _ _ _ _ _ _ _ _
  · exact yb_loop hf hG hRr hi hj pi pj (L i).length 0 _ s (by omega) (by omega) (fun z => absurd z hij) HQ _ _ _ _ _ _ _ _ _ _ _ _ _ _ _ _ _ _ _ _ _ _ _ _ _ _ _ _ _ _ _ _ _ _ _ _ _ _
end
end
section
/-! the reference: the survey -/
section
variable {f_place f_count f_top f_done f_open f_steps f_shownSteps f_fault f_in f_made f_old f_size f_heads f_fresh : Int32} {a_kind a_value a_all a_split a_toKind a_doneKind a_toValue a_doneValue a_begins a_lacks a_inKind a_leftKind a_madeKind a_oldKind a_resultKind a_inValue a_leftValue a_madeValue a_oldValue a_resultValue a_from a_to a_whole a_known a_bound a_whose a_rank a_one a_two a_oneOf a_twoOf a_headAt a_headOf a_headLeft a_pairs a_first : Nat → Int32}
variable {L R : Nat → List Int64}
theorem ys_64 {post : SY → Prop} {J56 : Int32 → Int32 → Int32 → Int32 → Int32 → Int32 → Int32 → Int32 → Int32 → Int32 → Int32 → Int32 → Int32 → Int32 → Int32 → (Nat → Int32) → (Nat → Int32) → (Nat → Int32) → (Nat → Int32) → (Nat → Int32) → (Nat → Int32) → (Nat → Int32) → (Nat → Int32) → (Nat → Int32) → (Nat → Int32) → (Nat → Int32) → (Nat → Int32) → (Nat → Int32) → (Nat → Int32) → (Nat → Int32) → (Nat → Int32) → (Nat → Int32) → (Nat → Int32) → (Nat → Int32) → (Nat → Int32) → (Nat → Int32) → (Nat → Int32) → (Nat → Int32) → (Nat → Int32) → (Nat → Int32) → (Nat → Int32) → (Nat → Int32) → (Nat → Int32) → (Nat → Int32) → (Nat → Int32) → (Nat → Int32) → (Nat → Int32) → (Nat → Int32) → (Nat → Int32) → (Nat → Int32) → (Nat → Int32) → Prop} {f i : Nat} (hf : f = 10000000) (hG : mc_G L R) (hRr : yr_R L R a_kind a_value a_all a_split) (hi : i < 8) : ∀ (d j n : Nat) (s : (Nat → Int32) × (Nat → Int32)), j + d = 8 → d < n → ys_Q (fun u => match u with | (f_place0, f_count0, f_top0, f_done0, f_open0, f_steps0, f_shownSteps0, f_fault0, f_in0, f_made0, f_old0, f_size0, f_heads0, f_fresh0, a_kind0, a_value0, a_all0, a_split0, a_toKind0, a_doneKind0, a_toValue0, a_doneValue0, a_begins0, a_lacks0, a_inKind0, a_leftKind0, a_madeKind0, a_oldKind0, a_resultKind0, a_inValue0, a_leftValue0, a_madeValue0, a_oldValue0, a_resultValue0, a_from0, a_to0, a_whole0, a_known0, a_bound0, a_whose0, a_rank0, a_one0, a_two0, a_oneOf0, a_twoOf0, a_headAt0, a_headOf0, a_headLeft0, a_pairs0, a_first0) => J56 (nI (i + 1)) f_place0 f_count0 f_top0 f_done0 f_open0 f_steps0 f_shownSteps0 f_fault0 f_in0 f_made0 f_old0 f_size0 f_heads0 f_fresh0 a_kind0 a_value0 a_all0 a_split0 a_toKind0 a_doneKind0 a_toValue0 a_doneValue0 a_begins0 a_lacks0 a_inKind0 a_leftKind0 a_madeKind0 a_oldKind0 a_resultKind0 a_inValue0 a_leftValue0 a_madeValue0 a_oldValue0 a_resultValue0 a_from0 a_to0 a_whole0 a_known0 a_bound0 a_whose0 a_rank0 a_one0 a_two0 a_oneOf0 a_twoOf0 a_headAt0 a_headOf0 a_headLeft0 a_pairs0 a_first0) f_place f_shownSteps f_size f_fresh a_kind a_value a_all a_split a_resultKind a_resultValue (vs_n f L R (30 * d) (i * 240 + 30 * j) s).1 (vs_n f L R (30 * d) (i * 240 + 30 * j) s).2 → ys_Q (fun u => match u with | (f_place0, f_count0, f_top0, f_done0, f_open0, f_steps0, f_shownSteps0, f_fault0, f_in0, f_made0, f_old0, f_size0, f_heads0, f_fresh0, a_kind0, a_value0, a_all0, a_split0, a_toKind0, a_doneKind0, a_toValue0, a_doneValue0, a_begins0, a_lacks0, a_inKind0, a_leftKind0, a_madeKind0, a_oldKind0, a_resultKind0, a_inValue0, a_leftValue0, a_madeValue0, a_oldValue0, a_resultValue0, a_from0, a_to0, a_whole0, a_known0, a_bound0, a_whose0, a_rank0, a_one0, a_two0, a_oneOf0, a_twoOf0, a_headAt0, a_headOf0, a_headLeft0, a_pairs0, a_first0) => wY_survey_64 post J56 (nI i) n (nI j) f_place0 f_count0 f_top0 f_done0 f_open0 f_steps0 f_shownSteps0 f_fault0 f_in0 f_made0 f_old0 f_size0 f_heads0 f_fresh0 a_kind0 a_value0 a_all0 a_split0 a_toKind0 a_doneKind0 a_toValue0 a_doneValue0 a_begins0 a_lacks0 a_inKind0 a_leftKind0 a_madeKind0 a_oldKind0 a_resultKind0 a_inValue0 a_leftValue0 a_madeValue0 a_oldValue0 a_resultValue0 a_from0 a_to0 a_whole0 a_known0 a_bound0 a_whose0 a_rank0 a_one0 a_two0 a_oneOf0 a_twoOf0 a_headAt0 a_headOf0 a_headLeft0 a_pairs0 a_first0) f_place f_shownSteps f_size f_fresh a_kind a_value a_all a_split a_resultKind a_resultValue s.1 s.2
  | 0, j, n, s, hj, hn, HQ => by
    obtain ⟨n, rfl⟩ : ∃ n', n = n' + 1 := ⟨n - 1, by omega⟩
    intro f_count f_top f_done f_open f_steps f_fault f_in f_made f_old f_heads a_toKind a_doneKind a_toValue a_doneValue a_begins a_lacks a_inKind a_leftKind a_madeKind a_oldKind a_inValue a_leftValue a_madeValue a_oldValue a_from a_to a_whole a_known a_bound a_whose a_rank a_one a_two a_oneOf a_twoOf a_headAt a_headOf a_headLeft
    exact pk_le 8 j (fun _ => nm_r (nI_1 i) (HQ _ _ _ _ _ _ _ _ _ _ _ _ _ _ _ _ _ _ _ _ _ _ _ _ _ _ _ _ _ _ _ _ _ _ _ _ _ _)) (fun z => absurd z (by omega))
  | d + 1, j, n, s, hj, hn, HQ => by
    obtain ⟨n, rfl⟩ : ∃ n', n = n' + 1 := ⟨n - 1, by omega⟩
    rw [show 30 * (d + 1) = 30 + 30 * d by omega, vs_add, show i * 240 + 30 * j + 30 = i * 240 + 30 * (j + 1) by omega] at HQ
    have ih := ys_64 (post := post) (J56 := J56) hf hG hRr hi d (j + 1) n _ (by omega) (by omega) HQ
    intro f_count f_top f_done f_open f_steps f_fault f_in f_made f_old f_heads a_toKind a_doneKind a_toValue a_doneValue a_begins a_lacks a_inKind a_leftKind a_madeKind a_oldKind a_inValue a_leftValue a_madeValue a_oldValue a_from a_to a_whole a_known a_bound a_whose a_rank a_one a_two a_oneOf a_twoOf a_headAt a_headOf a_headLeft
    refine pk_le 8 j (fun z => absurd z (by omega)) (fun _ => ?_)
    have skip : ¬ (vd_pl L R i = true ∧ vd_pl L R j = true) → vs_n f L R 30 (i * 240 + 30 * j) s = s := by
      intro hno
      refine vs_skip 30 _ s (fun m h1 h2 => ?_)
      obtain ⟨e1, e2, e3⟩ := vs_at (i := i) (j := j) (p := m - (i * 240 + 30 * j)) (k := m) (by omega) (by omega) (by omega)
      rw [e1, e2, e3]
      refine if_neg (fun z => hno ?_)
      have := vd_ok_1 z
      exact ⟨this.1, this.2.1⟩
    refine yp_plain hG hRr hi ?_
    by_cases pi : vd_pl L R i = true
    · rw [if_pos pi]
      refine br_f (by decide) (yp_plain hG hRr (by omega) ?_)
      by_cases pj : vd_pl L R j = true
      · rw [if_pos pj]
        refine br_f (by decide) ?_
        refine yb_between (s := s) hf hG hRr hi (by omega) pi pj ?_
        intro f_count f_top f_done f_open f_steps f_fault f_in f_made f_old f_heads a_toKind a_doneKind a_toValue a_doneValue a_begins a_lacks a_inKind a_leftKind a_madeKind a_oldKind a_inValue a_leftValue a_madeValue a_oldValue a_from a_to a_whole a_known a_bound a_whose a_rank a_one a_two a_oneOf a_twoOf a_headAt a_headOf a_headLeft
        exact nm_r (nI_1 j) (ih _ _ _ _ _ _ _ _ _ _ _ _ _ _ _ _ _ _ _ _ _ _ _ _ _ _ _ _ _ _ _ _ _ _ _ _ _ _)
      · rw [if_neg pj]
        rw [skip (fun z => pj z.2)] at ih
        exact br_t rfl (nm_r (nI_1 j) (ih _ _ _ _ _ _ _ _ _ _ _ _ _ _ _ _ _ _ _ _ _ _ _ _ _ _ _ _ _ _ _ _ _ _ _ _ _ _))
    · rw [if_neg pi]
      rw [skip (fun z => pi z.1)] at ih
      exact br_t rfl (nm_r (nI_1 j) (ih _ _ _ _ _ _ _ _ _ _ _ _ _ _ _ _ _ _ _ _ _ _ _ _ _ _ _ _ _ _ _ _ _ _ _ _ _ _))
theorem ys_56 {post : SY → Prop} {f : Nat} (hf : f = 10000000) (hG : mc_G L R) (hRr : yr_R L R a_kind a_value a_all a_split) : ∀ (d i n : Nat) (s : (Nat → Int32) × (Nat → Int32)), i + d = 8 → d < n → ys_Q post f_place f_shownSteps f_size f_fresh a_kind a_value a_all a_split a_resultKind a_resultValue (vs_n f L R (240 * d) (i * 240) s).1 (vs_n f L R (240 * d) (i * 240) s).2 → ys_Q (fun u => match u with | (f_place0, f_count0, f_top0, f_done0, f_open0, f_steps0, f_shownSteps0, f_fault0, f_in0, f_made0, f_old0, f_size0, f_heads0, f_fresh0, a_kind0, a_value0, a_all0, a_split0, a_toKind0, a_doneKind0, a_toValue0, a_doneValue0, a_begins0, a_lacks0, a_inKind0, a_leftKind0, a_madeKind0, a_oldKind0, a_resultKind0, a_inValue0, a_leftValue0, a_madeValue0, a_oldValue0, a_resultValue0, a_from0, a_to0, a_whole0, a_known0, a_bound0, a_whose0, a_rank0, a_one0, a_two0, a_oneOf0, a_twoOf0, a_headAt0, a_headOf0, a_headLeft0, a_pairs0, a_first0) => wY_survey_56 post n (nI i) f_place0 f_count0 f_top0 f_done0 f_open0 f_steps0 f_shownSteps0 f_fault0 f_in0 f_made0 f_old0 f_size0 f_heads0 f_fresh0 a_kind0 a_value0 a_all0 a_split0 a_toKind0 a_doneKind0 a_toValue0 a_doneValue0 a_begins0 a_lacks0 a_inKind0 a_leftKind0 a_madeKind0 a_oldKind0 a_resultKind0 a_inValue0 a_leftValue0 a_madeValue0 a_oldValue0 a_resultValue0 a_from0 a_to0 a_whole0 a_known0 a_bound0 a_whose0 a_rank0 a_one0 a_two0 a_oneOf0 a_twoOf0 a_headAt0 a_headOf0 a_headLeft0 a_pairs0 a_first0) f_place f_shownSteps f_size f_fresh a_kind a_value a_all a_split a_resultKind a_resultValue s.1 s.2
  | 0, i, n, s, hi, hn, HQ => by
    obtain ⟨n, rfl⟩ : ∃ n', n = n' + 1 := ⟨n - 1, by omega⟩
    intro f_count f_top f_done f_open f_steps f_fault f_in f_made f_old f_heads a_toKind a_doneKind a_toValue a_doneValue a_begins a_lacks a_inKind a_leftKind a_madeKind a_oldKind a_inValue a_leftValue a_madeValue a_oldValue a_from a_to a_whole a_known a_bound a_whose a_rank a_one a_two a_oneOf a_twoOf a_headAt a_headOf a_headLeft
    exact pk_le 8 i (fun _ => HQ _ _ _ _ _ _ _ _ _ _ _ _ _ _ _ _ _ _ _ _ _ _ _ _ _ _ _ _ _ _ _ _ _ _ _ _ _ _) (fun z => absurd z (by omega))
  | d + 1, i, n, s, hi, hn, HQ => by
    obtain ⟨n, rfl⟩ : ∃ n', n = n' + 1 := ⟨n - 1, by omega⟩
    rw [show 240 * (d + 1) = 240 + 240 * d by omega, vs_add, show i * 240 + 240 = (i + 1) * 240 by omega] at HQ
    have ih := ys_56 (post := post) hf hG hRr d (i + 1) n _ (by omega) (by omega) HQ
    intro f_count f_top f_done f_open f_steps f_fault f_in f_made f_old f_heads a_toKind a_doneKind a_toValue a_doneValue a_begins a_lacks a_inKind a_leftKind a_madeKind a_oldKind a_inValue a_leftValue a_madeValue a_oldValue a_from a_to a_whole a_known a_bound a_whose a_rank a_one a_two a_oneOf a_twoOf a_headAt a_headOf a_headLeft
    refine pk_le 8 i (fun z => absurd z (by omega)) (fun _ => ⟨9, ?_⟩)
    exact ys_64 (post := post) (J56 := wY_survey_56 post n) hf hG hRr (i := i) (by omega) 8 0 9 s (by omega) (by omega) ih _ _ _ _ _ _ _ _ _ _ _ _ _ _ _ _ _ _ _ _ _ _ _ _ _ _ _ _ _ _ _ _ _ _ _ _ _ _
theorem ys_35 {post : SY → Prop} : ∀ (d k n : Nat) (fo : Nat → Int32), k + d = 3 → (∀ v, v < k → fo v = -2) → d < n → (∀ fo' : Nat → Int32, (∀ v, v < 3 → fo' v = -2) → ∃ n, wY_survey_56 post n 0 f_place f_count f_top f_done f_open f_steps f_shownSteps f_fault f_in f_made f_old f_size f_heads f_fresh a_kind a_value a_all a_split a_toKind a_doneKind a_toValue a_doneValue a_begins a_lacks a_inKind a_leftKind a_madeKind a_oldKind a_resultKind a_inValue a_leftValue a_madeValue a_oldValue a_resultValue a_from a_to a_whole a_known a_bound a_whose a_rank a_one a_two a_oneOf a_twoOf a_headAt a_headOf a_headLeft a_pairs fo') → wY_survey_35 post f_place f_count f_top f_done f_open f_steps f_shownSteps f_fault f_in f_made f_old f_size f_heads f_fresh n (nI k) a_kind a_value a_all a_split a_toKind a_doneKind a_toValue a_doneValue a_begins a_lacks a_inKind a_leftKind a_madeKind a_oldKind a_resultKind a_inValue a_leftValue a_madeValue a_oldValue a_resultValue a_from a_to a_whole a_known a_bound a_whose a_rank a_one a_two a_oneOf a_twoOf a_headAt a_headOf a_headLeft a_pairs fo
  | 0, k, n, fo, hk, hm, hn, H => by
    obtain ⟨n, rfl⟩ : ∃ n', n = n' + 1 := ⟨n - 1, by omega⟩
    exact pk_le 3 k (fun _ => H fo (fun v hv => hm v (by omega))) (fun z => absurd z (by omega))
  | d + 1, k, n, fo, hk, hm, hn, H => by
    obtain ⟨n, rfl⟩ : ∃ n', n = n' + 1 := ⟨n - 1, by omega⟩
    refine pk_le 3 k (fun z => absurd z (by omega)) (fun _ => ⟨vp_in_nI (by omega) (by omega), nm_r (e' := upd fo k (-2)) (by rw [nI_clamp (by omega)]) (nm_r (nI_1 k) ?_)⟩)
    refine ys_35 d (k + 1) n _ (by omega) (fun v hv => ?_) (by omega) H
    by_cases e : v = k
    · rw [e, pk_us]
    · rw [pk_un e]; exact hm v (by omega)
theorem ys_15 {post : SY → Prop} : ∀ (d k n : Nat) (pc : Nat → Int32), k + d = 4 → (∀ v, v < k → pc v = 0) → d < n → (∀ pc' fo' : Nat → Int32, (∀ v, v < 4 → pc' v = 0) → (∀ v, v < 3 → fo' v = -2) → ∃ n, wY_survey_56 post n 0 f_place f_count f_top f_done f_open f_steps f_shownSteps f_fault f_in f_made f_old f_size f_heads f_fresh a_kind a_value a_all a_split a_toKind a_doneKind a_toValue a_doneValue a_begins a_lacks a_inKind a_leftKind a_madeKind a_oldKind a_resultKind a_inValue a_leftValue a_madeValue a_oldValue a_resultValue a_from a_to a_whole a_known a_bound a_whose a_rank a_one a_two a_oneOf a_twoOf a_headAt a_headOf a_headLeft pc' fo') → wY_survey_15 post f_place f_count f_top f_done f_open f_steps f_shownSteps f_fault f_in f_made f_old f_size f_heads f_fresh n (nI k) a_kind a_value a_all a_split a_toKind a_doneKind a_toValue a_doneValue a_begins a_lacks a_inKind a_leftKind a_madeKind a_oldKind a_resultKind a_inValue a_leftValue a_madeValue a_oldValue a_resultValue a_from a_to a_whole a_known a_bound a_whose a_rank a_one a_two a_oneOf a_twoOf a_headAt a_headOf a_headLeft pc a_first
  | 0, k, n, pc, hk, hm, hn, H => by
    obtain ⟨n, rfl⟩ : ∃ n', n = n' + 1 := ⟨n - 1, by omega⟩
    exact pk_le 4 k (fun _ => ⟨4, ys_35 3 0 4 _ rfl (fun v hv => absurd hv (by omega)) (by omega) (fun fo' h => H pc fo' (fun v hv => hm v (by omega)) h)⟩) (fun z => absurd z (by omega))
  | d + 1, k, n, pc, hk, hm, hn, H => by
    obtain ⟨n, rfl⟩ : ∃ n', n = n' + 1 := ⟨n - 1, by omega⟩
    refine pk_le 4 k (fun z => absurd z (by omega)) (fun _ => ⟨vp_in_nI (by omega) (by omega), nm_r (e' := upd pc k 0) (by rw [nI_clamp (by omega)]) (nm_r (nI_1 k) ?_)⟩)
    refine ys_15 d (k + 1) n _ (by omega) (fun v hv => ?_) (by omega) H
    by_cases e : v = k
    · rw [e, pk_us]
    · rw [pk_un e]; exact hm v (by omega)
theorem ys_survey {post : SY → Prop} {f : Nat} (hf : f = 10000000) (hG : mc_G L R) (hRr : yr_R L R a_kind a_value a_all a_split) (h0 : f_fresh = 0) (H : ∀ pc fo : Nat → Int32, (∀ v, v < 4 → pc v = 0) → (∀ v, v < 3 → fo v = -2) → ys_Q post f_place f_shownSteps f_size 1 a_kind a_value a_all a_split a_resultKind a_resultValue (vs_n f L R 1920 0 (pc, fo)).1 (vs_n f L R 1920 0 (pc, fo)).2) : wpY_survey post (f_place, f_count, f_top, f_done, f_open, f_steps, f_shownSteps, f_fault, f_in, f_made, f_old, f_size, f_heads, f_fresh, a_kind, a_value, a_all, a_split, a_toKind, a_doneKind, a_toValue, a_doneValue, a_begins, a_lacks, a_inKind, a_leftKind, a_madeKind, a_oldKind, a_resultKind, a_inValue, a_leftValue, a_madeValue, a_oldValue, a_resultValue, a_from, a_to, a_whole, a_known, a_bound, a_whose, a_rank, a_one, a_two, a_oneOf, a_twoOf, a_headAt, a_headOf, a_headLeft, a_pairs, a_first) := by
  refine br_t h0 ⟨5, ys_15 4 0 5 a_pairs rfl (fun v hv => absurd hv (by omega)) (by omega) (fun pc fo h1 h2 => ⟨9, ?_⟩)⟩
  exact ys_56 (post := post) hf hG hRr 8 0 9 (pc, fo) (by omega) (by omega) (H pc fo h1 h2) _ _ _ _ _ _ _ _ _ _ _ _ _ _ _ _ _ _ _ _ _ _ _ _ _ _ _ _ _ _ _ _ _ _ _ _ _ _
end
/-- counts that agree where they are read -/
def vs_e (s s' : (Nat → Int32) × (Nat → Int32)) : Prop := (∀ v, v < 4 → s.1 v = s'.1 v) ∧ ∀ v, v < 3 → s.2 v = s'.2 v
theorem vs_es {f : Nat} {L R : Nat → List Int64} (k : Nat) {s s' : (Nat → Int32) × (Nat → Int32)} (h : vs_e s s') : vs_e (vs_s f L R k s) (vs_s f L R k s') := by
  unfold vs_s
  generalize vd_w f L R (k / 240) (k / 30 % 8) (k % 30) = v
  generalize k / 240 = i
  generalize k / 30 % 8 = j
  generalize k % 30 = p
  obtain ⟨h1, h2⟩ := h
  refine ⟨fun x hx => ?_, fun x hx => ?_⟩
  · show vs_p v s.1 x = vs_p v s'.1 x
    unfold vs_p
    by_cases h0 : v = 0
    · rw [if_pos h0, if_pos h0]; exact h1 x hx
    · rw [if_neg h0, if_neg h0]
      unfold vd_pc
      have e0 : ∀ y, y < 4 → upd s.1 0 (s.1 0 + 1) y = upd s'.1 0 (s'.1 0 + 1) y := by
        intro y hy
        by_cases ey : y = 0
        · rw [ey, pk_us, pk_us, h1 0 (by omega)]
        · rw [pk_un ey, pk_un ey]; exact h1 y hy
      by_cases ex : x = v
      · rw [ex, pk_us, pk_us, e0 v (by omega)]
      · rw [pk_un ex, pk_un ex]; exact e0 x hx
  · show vd_fo v i j p s.2 x = vd_fo v i j p s'.2 x
    unfold vd_fo
    by_cases hc : v = 2 ∧ s.2 0 = -2
    · have hc' : v = 2 ∧ s'.2 0 = -2 := ⟨hc.1, (h2 0 (by omega)).symm.trans hc.2⟩
      rw [if_pos hc, if_pos hc']
      by_cases x2 : x = 2
      · rw [x2, pk_us, pk_us]
      · rw [pk_un x2, pk_un x2]
        by_cases x1 : x = 1
        · rw [x1, pk_us, pk_us]
        · rw [pk_un x1, pk_un x1]
          by_cases x0 : x = 0
          · rw [x0, pk_us, pk_us]
          · rw [pk_un x0, pk_un x0]; exact h2 x hx
    · have hc' : ¬ (v = 2 ∧ s'.2 0 = -2) := fun z => hc ⟨z.1, (h2 0 (by omega)).trans z.2⟩
      rw [if_neg hc, if_neg hc']
      exact h2 x hx
theorem vs_en {f : Nat} {L R : Nat → List Int64} : ∀ (d k : Nat) (s s' : (Nat → Int32) × (Nat → Int32)), vs_e s s' → vs_e (vs_n f L R d k s) (vs_n f L R d k s')
  | 0, k, s, s', h => h
  | d + 1, k, s, s', h => vs_en d (k + 1) _ _ (vs_es k h)
end
section
/-! the last two methods -/
def vs_0 : (Nat → Int32) × (Nat → Int32) := (fun _ => 0, fun _ => -2)
def vs_S (f : Nat) (L R : Nat → List Int64) (fr : Bool) (pc fo : Nat → Int32) : (Nat → Int32) × (Nat → Int32) := if fr = true then (pc, fo) else vs_n f L R 1920 0 vs_0
section
variable {f_drafted f_faultPlace f_reportedSteps f_resultSize f_sheetSize f_waitingSize f_builtSize f_unfinished f_taken f_keptSize f_stacked f_ranked f_surveyed : Int32} {a_draft a_result a_lefts a_rights a_sheet a_waiting a_built a_kept a_joint : Nat → Int64} {a_leftSize a_ways a_rightSize a_unfinishedStart a_unfinishedLacks a_matchStart a_matchEnd a_unified a_oneStack a_otherStack a_nestedAt a_nestedEnd a_rank a_pairCount a_firstOpen : Nat → Int32}
variable {L R : Nat → List Int64}
theorem xs_any {post : SX → Prop} {f : Nat} {fr : Bool} {pc fo : Nat → Int32} (hf : f = 10000000) (hG : mc_G L R) (hRr : xr_R L R a_lefts a_leftSize a_ways a_rights a_rightSize) (h0 : f_surveyed = (if fr = true then 1 else 0)) (hc : fr = true → (∀ k, k < 4 → a_pairCount k = pc k) ∧ ∀ k, k < 3 → a_firstOpen k = fo k) (H : ∀ s, vs_e s (vs_S f L R fr pc fo) → xs_Q (fun f_drafted0 f_faultPlace0 f_reportedSteps0 f_resultSize0 f_sheetSize0 f_waitingSize0 f_builtSize0 f_unfinished0 f_taken0 f_keptSize0 f_stacked0 f_ranked0 f_surveyed0 a_draft0 a_result0 a_lefts0 a_leftSize0 a_ways0 a_rights0 a_rightSize0 a_sheet0 a_waiting0 a_built0 a_unfinishedStart0 a_unfinishedLacks0 a_kept0 a_matchStart0 a_matchEnd0 a_joint0 a_unified0 a_oneStack0 a_otherStack0 a_nestedAt0 a_nestedEnd0 a_rank0 a_pairCount0 a_firstOpen0 => post (f_drafted0, f_faultPlace0, f_reportedSteps0, f_resultSize0, f_sheetSize0, f_waitingSize0, f_builtSize0, f_unfinished0, f_taken0, f_keptSize0, f_stacked0, f_ranked0, f_surveyed0, a_draft0, a_result0, a_lefts0, a_leftSize0, a_ways0, a_rights0, a_rightSize0, a_sheet0, a_waiting0, a_built0, a_unfinishedStart0, a_unfinishedLacks0, a_kept0, a_matchStart0, a_matchEnd0, a_joint0, a_unified0, a_oneStack0, a_otherStack0, a_nestedAt0, a_nestedEnd0, a_rank0, a_pairCount0, a_firstOpen0)) f_drafted f_faultPlace f_reportedSteps f_resultSize 1 a_draft a_result a_lefts a_leftSize a_ways a_rights a_rightSize s.1 s.2) : wpX_survey post (f_drafted, f_faultPlace, f_reportedSteps, f_resultSize, f_sheetSize, f_waitingSize, f_builtSize, f_unfinished, f_taken, f_keptSize, f_stacked, f_ranked, f_surveyed, a_draft, a_result, a_lefts, a_leftSize, a_ways, a_rights, a_rightSize, a_sheet, a_waiting, a_built, a_unfinishedStart, a_unfinishedLacks, a_kept, a_matchStart, a_matchEnd, a_joint, a_unified, a_oneStack, a_otherStack, a_nestedAt, a_nestedEnd, a_rank, a_pairCount, a_firstOpen) := by
  cases fr with
  | true =>
    have h1 : f_surveyed = 1 := h0
    subst h1
    exact br_f (by decide) (H (a_pairCount, a_firstOpen) (hc rfl) _ _ _ _ _ _ _ _ _ _ _ _ _ _ _ _ _ _ _ _ _ _ _)
  | false =>
    have h1 : f_surveyed = 0 := h0
    refine xs_survey hf hG hRr h1 (fun pc' fo' g1 g2 => ?_)
    intro f_sheetSize f_waitingSize f_builtSize f_unfinished f_taken f_keptSize f_stacked f_ranked a_sheet a_waiting a_built a_unfinishedStart a_unfinishedLacks a_kept a_matchStart a_matchEnd a_joint a_unified a_oneStack a_otherStack a_nestedAt a_nestedEnd a_rank
    exact H (vs_n f L R 1920 0 (pc', fo')) (vs_en 1920 0 (pc', fo') vs_0 ⟨g1, g2⟩) _ _ _ _ _ _ _ _ _ _ _ _ _ _ _ _ _ _ _ _ _ _ _
end
section
variable {f_place f_count f_top f_done f_open f_steps f_shownSteps f_fault f_in f_made f_old f_size f_heads f_fresh : Int32} {a_kind a_value a_all a_split a_toKind a_doneKind a_toValue a_doneValue a_begins a_lacks a_inKind a_leftKind a_madeKind a_oldKind a_resultKind a_inValue a_leftValue a_madeValue a_oldValue a_resultValue a_from a_to a_whole a_known a_bound a_whose a_rank a_one a_two a_oneOf a_twoOf a_headAt a_headOf a_headLeft a_pairs a_first : Nat → Int32}
variable {L R : Nat → List Int64}
theorem ys_any {post : SY → Prop} {f : Nat} {fr : Bool} {pc fo : Nat → Int32} (hf : f = 10000000) (hG : mc_G L R) (hRr : yr_R L R a_kind a_value a_all a_split) (h0 : f_fresh = (if fr = true then 1 else 0)) (hc : fr = true → (∀ k, k < 4 → a_pairs k = pc k) ∧ ∀ k, k < 3 → a_first k = fo k) (H : ∀ s, vs_e s (vs_S f L R fr pc fo) → ys_Q post f_place f_shownSteps f_size 1 a_kind a_value a_all a_split a_resultKind a_resultValue s.1 s.2) : wpY_survey post (f_place, f_count, f_top, f_done, f_open, f_steps, f_shownSteps, f_fault, f_in, f_made, f_old, f_size, f_heads, f_fresh, a_kind, a_value, a_all, a_split, a_toKind, a_doneKind, a_toValue, a_doneValue, a_begins, a_lacks, a_inKind, a_leftKind, a_madeKind, a_oldKind, a_resultKind, a_inValue, a_leftValue, a_madeValue, a_oldValue, a_resultValue, a_from, a_to, a_whole, a_known, a_bound, a_whose, a_rank, a_one, a_two, a_oneOf, a_twoOf, a_headAt, a_headOf, a_headLeft, a_pairs, a_first) := by
  cases fr with
  | true =>
    have h1 : f_fresh = 1 := h0
    subst h1
    exact br_f (by decide) (H (a_pairs, a_first) (hc rfl) _ _ _ _ _ _ _ _ _ _ _ _ _ _ _ _ _ _ _ _ _ _ _ _ _ _ _ _ _ _ _ _ _ _ _ _ _ _)
  | false =>
    have h1 : f_fresh = 0 := h0
    refine ys_survey hf hG hRr h1 (fun pc' fo' g1 g2 => ?_)
    exact H (vs_n f L R 1920 0 (pc', fo')) (vs_en 1920 0 (pc', fo') vs_0 ⟨g1, g2⟩)
end
theorem i_vc_pairs {k : Nat} {u : SX} {v : SY} (I : i_Rel k u v) (hk : k + 3 ≤ 1536) (v1 : Int32) : wpX_pairs (fun r u' => wpY_pairs (fun r' v' => r' = r ∧ i_Rel (k + 3) u' v') v v1) u v1 := by
  obtain ⟨f_drafted, f_faultPlace, f_reportedSteps, f_resultSize, f_sheetSize, f_waitingSize, f_builtSize, f_unfinished, f_taken, f_keptSize, f_stacked, f_ranked, f_surveyed, a_draft, a_result, a_lefts, a_leftSize, a_ways, a_rights, a_rightSize, a_sheet, a_waiting, a_built, a_unfinishedStart, a_unfinishedLacks, a_kept, a_matchStart, a_matchEnd, a_joint, a_unified, a_oneStack, a_otherStack, a_nestedAt, a_nestedEnd, a_rank, a_pairCount, a_firstOpen⟩ := u
  obtain ⟨f_place', f_count', f_top', f_done', f_open', f_steps', f_shownSteps', f_fault', f_in', f_made', f_old', f_size', f_heads', f_fresh', a_kind', a_value', a_all', a_split', a_toKind', a_doneKind', a_toValue', a_doneValue', a_begins', a_lacks', a_inKind', a_leftKind', a_madeKind', a_oldKind', a_resultKind', a_inValue', a_leftValue', a_madeValue', a_oldValue', a_resultValue', a_from', a_to', a_whole', a_known', a_bound', a_whose', a_rank', a_one', a_two', a_oneOf', a_twoOf', a_headAt', a_headOf', a_headLeft', a_pairs', a_first'⟩ := v
  have J := I
  obtain ⟨D, Q, L, R, pl, st, fr, pc, fo, hG, ⟨x1, x2, x3, x4, x5, x6, x7, x8, x9⟩, ⟨y1, y2, y3, y4, y5, y6, y7, y8, y9⟩⟩ := I
  obtain ⟨f, hf⟩ : ∃ f, f = 10000000 := ⟨_, rfl⟩
  by_cases h0 : v1 < 0
  · exact br_t h0 (br_t h0 ⟨rfl, J⟩)
  · obtain ⟨m, hm, rfl⟩ := nI_of h0
    refine br_f h0 (pk_le m 3 (fun h3 => ?_) (fun h3 => br_f h0 (pk_le m 3 (fun z => absurd z (by omega)) (fun _ => ⟨rfl, J⟩))))
    have hin : vp_in (nI m) 4 := vp_in_nI (by omega) (by omega)
    have ec : (nI m).toNatClampNeg = m := nI_clamp (by omega)
    refine xs_any (pc := pc) (fo := fo) (fr := fr) hf hG.2.2.2.2 x7 x8 x9 (fun s hs => ?_)
    intro f_sheetSize f_waitingSize f_builtSize f_unfinished f_taken f_keptSize f_stacked f_ranked a_sheet a_waiting a_built a_unfinishedStart a_unfinishedLacks a_kept a_matchStart a_matchEnd a_joint a_unified a_oneStack a_otherStack a_nestedAt a_nestedEnd a_rank
    refine ⟨hin, br_f h0 (pk_le m 3 (fun _ => ?_) (fun z => absurd z (by omega)))⟩
    refine ys_any (pc := pc) (fo := fo) (fr := fr) hf hG.2.2.2.2 y7 y8 y9 (fun s' hs' => ?_)
    intro f_count f_top f_done f_open f_steps f_fault f_in f_made f_old f_heads a_toKind a_doneKind a_toValue a_doneValue a_begins a_lacks a_inKind a_leftKind a_madeKind a_oldKind a_inValue a_leftValue a_madeValue a_oldValue a_from a_to a_whole a_known a_bound a_whose a_rank a_one a_two a_oneOf a_twoOf a_headAt a_headOf a_headLeft
    refine ⟨hin, ?_, ?_⟩
    · rw [ec]
      exact (hs'.1 m (by omega)).trans (hs.1 m (by omega)).symm
    · exact ⟨D, Q, L, R, pl, st, true, (vs_S f L R fr pc fo).1, (vs_S f L R fr pc fo).2, hG, ⟨x1, x2, x3, x4, x5, x6, x7, rfl, fun _ => hs⟩, ⟨y1, y2, y3, y4, y5, y6, y7, rfl, fun _ => hs'⟩⟩
theorem i_vc_open {k : Nat} {u : SX} {v : SY} (I : i_Rel k u v) (hk : k + 3 ≤ 1536) (v1 : Int32) : wpX_open (fun r u' => wpY_open (fun r' v' => r' = r ∧ i_Rel (k + 3) u' v') v v1) u v1 := by
  obtain ⟨f_drafted, f_faultPlace, f_reportedSteps, f_resultSize, f_sheetSize, f_waitingSize, f_builtSize, f_unfinished, f_taken, f_keptSize, f_stacked, f_ranked, f_surveyed, a_draft, a_result, a_lefts, a_leftSize, a_ways, a_rights, a_rightSize, a_sheet, a_waiting, a_built, a_unfinishedStart, a_unfinishedLacks, a_kept, a_matchStart, a_matchEnd, a_joint, a_unified, a_oneStack, a_otherStack, a_nestedAt, a_nestedEnd, a_rank, a_pairCount, a_firstOpen⟩ := u
  obtain ⟨f_place', f_count', f_top', f_done', f_open', f_steps', f_shownSteps', f_fault', f_in', f_made', f_old', f_size', f_heads', f_fresh', a_kind', a_value', a_all', a_split', a_toKind', a_doneKind', a_toValue', a_doneValue', a_begins', a_lacks', a_inKind', a_leftKind', a_madeKind', a_oldKind', a_resultKind', a_inValue', a_leftValue', a_madeValue', a_oldValue', a_resultValue', a_from', a_to', a_whole', a_known', a_bound', a_whose', a_rank', a_one', a_two', a_oneOf', a_twoOf', a_headAt', a_headOf', a_headLeft', a_pairs', a_first'⟩ := v
  have J := I
  obtain ⟨D, Q, L, R, pl, st, fr, pc, fo, hG, ⟨x1, x2, x3, x4, x5, x6, x7, x8, x9⟩, ⟨y1, y2, y3, y4, y5, y6, y7, y8, y9⟩⟩ := I
  obtain ⟨f, hf⟩ : ∃ f, f = 10000000 := ⟨_, rfl⟩
  by_cases h0 : v1 < 0
  · exact br_t h0 (br_t h0 ⟨rfl, J⟩)
  · obtain ⟨m, hm, rfl⟩ := nI_of h0
    refine br_f h0 (pk_lt m 3 (fun h3 => ?_) (fun h3 => br_f h0 (pk_le m 2 (fun z => absurd z (by omega)) (fun _ => ⟨rfl, J⟩))))
    have hin : vp_in (nI m) 3 := vp_in_nI (by omega) (by omega)
    have ec : (nI m).toNatClampNeg = m := nI_clamp (by omega)
    refine xs_any (pc := pc) (fo := fo) (fr := fr) hf hG.2.2.2.2 x7 x8 x9 (fun s hs => ?_)
    intro f_sheetSize f_waitingSize f_builtSize f_unfinished f_taken f_keptSize f_stacked f_ranked a_sheet a_waiting a_built a_unfinishedStart a_unfinishedLacks a_kept a_matchStart a_matchEnd a_joint a_unified a_oneStack a_otherStack a_nestedAt a_nestedEnd a_rank
    refine ⟨hin, br_f h0 (pk_le m 2 (fun _ => ?_) (fun z => absurd z (by omega)))⟩
    refine ys_any (pc := pc) (fo := fo) (fr := fr) hf hG.2.2.2.2 y7 y8 y9 (fun s' hs' => ?_)
    intro f_count f_top f_done f_open f_steps f_fault f_in f_made f_old f_heads a_toKind a_doneKind a_toValue a_doneValue a_begins a_lacks a_inKind a_leftKind a_madeKind a_oldKind a_inValue a_leftValue a_madeValue a_oldValue a_from a_to a_whole a_known a_bound a_whose a_rank a_one a_two a_oneOf a_twoOf a_headAt a_headOf a_headLeft
    refine ⟨hin, ?_, ?_⟩
    · rw [ec]
      exact (hs'.2 m (by omega)).trans (hs.2 m (by omega)).symm
    · exact ⟨D, Q, L, R, pl, st, true, (vs_S f L R fr pc fo).1, (vs_S f L R fr pc fo).2, hG, ⟨x1, x2, x3, x4, x5, x6, x7, rfl, fun _ => hs⟩, ⟨y1, y2, y3, y4, y5, y6, y7, rfl, fun _ => hs'⟩⟩
end
