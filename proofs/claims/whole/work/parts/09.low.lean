/-! the low half of a long -/
theorem tk_mask : ∀ i, i < 64 → (4294967295 : Int64).toBitVec.getLsbD i = decide (i < 32) := by decide +kernel
theorem tk_low (z : Int32) : z.toInt64 &&& 4294967295 = lN z.toBitVec.toNat := by
  apply wb_inj
  rw [Int64.toBitVec_and, wb_tb]
  apply BitVec.eq_of_getLsbD_eq
  intro i hi
  rw [BitVec.getLsbD_and, tk_mask i hi, BitVec.getLsbD_ofNat]
  have e : z.toInt64.toBitVec = z.toBitVec.signExtend 64 := rfl
  rw [e, BitVec.getLsbD_signExtend]
  by_cases h : i < 32
  · simp [h, hi, BitVec.testBit_toNat]
  · have h2 : z.toBitVec.toNat.testBit i = false := Nat.testBit_lt_two_pow (Nat.lt_of_lt_of_le z.toBitVec.isLt (Nat.pow_le_pow_right (by omega) (by omega)))
    simp [h, h2]
theorem tk_nn (z : Int32) : nI z.toBitVec.toNat = z := by
  apply Int32.toBitVec_inj.mp
  show BitVec.ofNat 32 _ = _
  rw [BitVec.ofNat_toNat]
  simp
theorem tk_num (z : Int32) : 4294967296 + (z.toInt64 &&& 4294967295) = lN (4294967296 + z.toBitVec.toNat) ∧ tk_kT (4294967296 + (z.toInt64 &&& 4294967295)) = 1 ∧ tk_vT (4294967296 + (z.toInt64 &&& 4294967295)) = z := by
  have h := z.toBitVec.isLt
  have e : 4294967296 + (z.toInt64 &&& 4294967295) = lN (4294967296 + z.toBitVec.toNat) := by
    rw [tk_low, show (4294967296 : Int64) = lN 4294967296 from rfl, lN_add]
  rw [e]
  obtain ⟨h1, h2⟩ := tk_T_num (n := 4294967296 + z.toBitVec.toNat) (by omega) (by omega)
  refine ⟨rfl, h1, ?_⟩
  rw [h2, show 4294967296 + z.toBitVec.toNat = z.toBitVec.toNat + 4294967296 * 1 by omega, tk_wrap, tk_nn]
theorem tk_vT_num {x : Int64} (h : tk_N x) : tk_vT x = x.toInt32 := by
  unfold tk_vT
  rw [if_pos h.2]
/-- a term's token of kind 0 with a symbol's value -/
theorem tk_sym {t : Int64} (h : tk_t t) (hk : ¬ tk_kT t = 1) (n : Nat) (hn : n < 12) {x : Int64} (hx : x = lN n := by rfl) {y : Int32} (hy : y = nI n := by rfl) : tk_vT t = y ↔ t = x := by
  subst hx hy
  constructor
  · intro e
    have hkT : tk_kT t = 0 := by rcases tk_kT_01 t with h | h; exact h; exact absurd h hk
    exact tk_T_inj h ⟨n, rfl, Or.inl hn⟩ (by rw [hkT, (tk_T_sym hn).1]) (by rw [e, (tk_T_sym hn).2])
  · intro e; rw [e]; exact (tk_T_sym hn).2
theorem mc_len_mt : ∀ (ps s : List Int64) (β β' : Nat → List Int64), ru_mt ps s β = some β' → s.length ≤ 2000 → (∀ k, (β k).length ≤ 2000) → ∀ k, (β' k).length ≤ 2000
  | [], s, β, β', h, hs, hb => by
    rw [ru_mt] at h
    cases h
    exact hb
  | p :: ps, [], β, β', h, hs, hb => by
    rw [ru_mt] at h
    exact absurd h (by simp)
  | p :: ps, c :: s, β, β', h, hs, hb => by
    rw [ru_mt] at h
    have hd : ((c :: s).drop (tm_n (c :: s) 1)).length ≤ 2000 := by rw [List.length_drop]; omega
    have ht : ((c :: s).take (tm_n (c :: s) 1)).length ≤ 2000 := by rw [List.length_take]; omega
    split at h
    · split at h
      · exact mc_len_mt ps s β β' h (by rw [List.length_cons] at hs; omega) hb
      · exact absurd h (by simp)
    · split at h
      · exact absurd h (by simp)
      · split at h
        · refine mc_len_mt ps _ _ β' h hd (fun k => ?_)
          split
          · exact ht
          · exact hb k
        · split at h
          · exact mc_len_mt ps _ β β' h hd hb
          · exact absurd h (by simp)
