/-! where a draft fails: both sides go together -/
theorem fa_b1 : ∀ j, j < 32 → bt 1 j = decide (j = 0) := by decide +kernel
theorem fa_bit {n i : Nat} (hn : n < 32) (hi : i < 32) : bt ((1 : Int32) <<< (nI n &&& 31)) i = decide (i = n) := by
  rw [b_shl n hn 1 hi]
  by_cases h : n ≤ i
  · rw [fa_b1 (i - n) (by omega), decide_eq_true h, Bool.true_and]
    by_cases e : i = n
    · rw [decide_eq_true e, decide_eq_true (by omega)]
    · rw [decide_eq_false e, decide_eq_false (by omega)]
  · rw [decide_eq_false h, Bool.false_and, decide_eq_false (by omega)]
theorem fa_and0 {x : Int32} {n : Nat} (hn : n < 32) : (x &&& ((1 : Int32) <<< (nI n &&& 31))) = 0 ↔ bt x n = false := by
  constructor
  · intro h
    have := congrArg (fun y => bt y n) h
    rw [b_and, fa_bit hn hn, decide_eq_true rfl, Bool.and_true, b_0] at this
    exact this
  · intro h
    apply b_ext
    intro i hi
    rw [b_and, fa_bit hn hi, b_0]
    by_cases e : i = n
    · rw [e, h, Bool.false_and]
    · rw [decide_eq_false e, Bool.and_false]
theorem fa_and1 {x : Int32} {n : Nat} (hn : n < 32) : (x &&& ((1 : Int32) <<< (nI n &&& 31))) = (1 : Int32) <<< (nI n &&& 31) ↔ bt x n = true := by
  constructor
  · intro h
    have := congrArg (fun y => bt y n) h
    rw [b_and, fa_bit hn hn, decide_eq_true rfl, Bool.and_true] at this
    exact this
  · intro h
    apply b_ext
    intro i hi
    rw [b_and, fa_bit hn hi]
    by_cases e : i = n
    · rw [e, h, Bool.true_and]
    · rw [decide_eq_false e, Bool.and_false]
theorem fa_or {x : Int32} {n i : Nat} (hn : n < 32) (hi : i < 32) : bt (x ||| ((1 : Int32) <<< (nI n &&& 31))) i = (bt x i || decide (i = n)) := by
  rw [b_or, fa_bit hn hi]
theorem fa_kind {t : Int64} (h : tk_r t) : tk_kR t ≤ 1 ↔ t < 8589934592 := by
  rcases tk_R_cases h with ⟨n, h1, e1, k1, v1⟩ | ⟨n, h1, h1', e1, k1, v1⟩ | ⟨r, h1, e1, k1, v1⟩ | ⟨r, h1, e1, k1, v1⟩ <;> rw [k1, e1, tk_lt 8589934592 (by omega)]
  · exact ⟨fun _ => by omega, fun _ => by decide⟩
  · exact ⟨fun _ => by omega, fun _ => by decide⟩
  · exact ⟨fun z => absurd z (by decide), fun _ => by omega⟩
  · exact ⟨fun z => absurd z (by decide), fun _ => by omega⟩
theorem fa_d {t : Int64} (h : tk_r t) (hn : t < 8589934592) : tk_d t := by
  obtain ⟨z, rfl, hz⟩ := h
  rw [tk_lt 8589934592 (by omega)] at hn
  exact ⟨z, rfl, by omega⟩
section
variable {f_drafted f_faultPlace f_reportedSteps f_resultSize f_sheetSize f_waitingSize f_builtSize f_unfinished f_taken f_keptSize f_stacked f_ranked f_surveyed : Int32} {a_draft a_result a_lefts a_rights a_sheet a_waiting a_built a_kept a_joint : Nat → Int64} {a_leftSize a_ways a_rightSize a_unfinishedStart a_unfinishedLacks a_matchStart a_matchEnd a_unified a_oneStack a_otherStack a_nestedAt a_nestedEnd a_rank a_pairCount a_firstOpen : Nat → Int32}
variable {f_place' f_count' f_top' f_done' f_open' f_steps' f_shownSteps' f_fault' f_in' f_made' f_old' f_size' f_heads' f_fresh' : Int32} {a_kind' a_value' a_all' a_split' a_toKind' a_doneKind' a_toValue' a_doneValue' a_begins' a_lacks' a_inKind' a_leftKind' a_madeKind' a_oldKind' a_resultKind' a_inValue' a_leftValue' a_madeValue' a_oldValue' a_resultValue' a_from' a_to' a_whole' a_known' a_bound' a_whose' a_rank' a_one' a_two' a_oneOf' a_twoOf' a_headAt' a_headOf' a_headLeft' a_pairs' a_first' : Nat → Int32}
theorem fa_l {N T : Nat} (hN : N ≤ 30) (hT : 1 ≤ T) (hT2 : T ≤ 2) : ∀ (l : List Int64) (k c la mi : Nat), k + l.length = N → hd_h a_draft k l → hd_y tk_kR tk_vR a_kind' a_value' (240 + k) l → (∀ t, t ∈ l → tk_r t) → ((c < T ∧ 1 ≤ la ∧ la ≤ 60 ∧ mi + 1 + c = T + la) ∨ (c = T ∧ la = 1 ∧ mi = 0)) → la + l.length ≤ 60 →
    ∃ r : Int32, (∀ (post : Int32 → Prop) (n : Nat), l.length < n → post r → wX_faultOf_14 post (nI T) 0 (nI N) f_faultPlace f_reportedSteps f_resultSize f_sheetSize f_waitingSize f_builtSize f_unfinished f_taken f_keptSize f_stacked f_ranked f_surveyed a_draft a_result a_lefts a_leftSize a_ways a_rights a_rightSize a_sheet a_waiting a_built a_unfinishedStart a_unfinishedLacks a_kept a_matchStart a_matchEnd a_joint a_unified a_oneStack a_otherStack a_nestedAt a_nestedEnd a_rank a_pairCount a_firstOpen n (nI c) (nI la) 0 0 (nI k)) ∧ (∀ (post : Int32 → Prop) (n : Nat), l.length < n → post r → wY_unfit_13 post (nI N) f_place' f_count' f_top' f_done' f_open' f_steps' f_shownSteps' f_fault' f_in' f_made' f_old' f_size' f_heads' f_fresh' a_kind' a_value' a_all' a_split' a_toKind' a_doneKind' a_toValue' a_doneValue' a_begins' a_lacks' a_inKind' a_leftKind' a_madeKind' a_oldKind' a_resultKind' a_inValue' a_leftValue' a_madeValue' a_oldValue' a_resultValue' a_from' a_to' a_whole' a_known' a_bound' a_whose' a_rank' a_one' a_two' a_oneOf' a_twoOf' a_headAt' a_headOf' a_headLeft' a_pairs' a_first' n (nI mi) (nI k)) ∧ ((r = -1 ∧ tm_w l mi ∧ ∀ t, t ∈ l → tk_d t) ∨ ∃ q, q ≤ 30 ∧ r = nI q)
  | [], k, c, la, mi, h1, h2, h3, h4, h5, h6 => by
    rw [List.length_nil] at h1
    by_cases hm : mi = 0
    · have hc : c = T := by omega
      refine ⟨-1, fun post n hn hp => ?_, fun post n hn hp => ?_, Or.inl ⟨rfl, hm, fun t ht => absurd ht (by simp)⟩⟩
      · obtain ⟨n, rfl⟩ : ∃ n', n = n' + 1 := ⟨n - 1, by omega⟩
        exact pk_le N k (fun _ => pk_eq c T (fun _ => hp) (fun z => absurd hc z)) (fun z => absurd z (by omega))
      · obtain ⟨n, rfl⟩ : ∃ n', n = n' + 1 := ⟨n - 1, by omega⟩
        exact pk_le N k (fun _ => pk_le mi 0 (fun _ => hp) (fun z => absurd z (by omega))) (fun z => absurd z (by omega))
    · refine ⟨nI N, fun post n hn hp => ?_, fun post n hn hp => ?_, Or.inr ⟨N, hN, rfl⟩⟩
      · obtain ⟨n, rfl⟩ : ∃ n', n = n' + 1 := ⟨n - 1, by omega⟩
        exact pk_le N k (fun _ => pk_eq c T (fun z => absurd z (by omega)) (fun _ => hp)) (fun z => absurd z (by omega))
      · obtain ⟨n, rfl⟩ : ∃ n', n = n' + 1 := ⟨n - 1, by omega⟩
        exact pk_le N k (fun _ => pk_le mi 0 (fun z => absurd z (by omega)) (fun _ => hp)) (fun z => absurd z (by omega))
  | t :: l, k, c, la, mi, h1, h2, h3, h4, h5, h6 => by
    rw [List.length_cons] at h1 h6
    have htr := h4 t (List.mem_cons.mpr (Or.inl rfl))
    have hkd := fa_kind htr
    have ek : (nI k).toNatClampNeg = k := nI_clamp (by omega)
    have hin : vp_in (nI k) 30 := vp_in_nI (by omega) (by omega)
    have ei : (240 : Int32) + nI k = nI (240 + k) := nI_add 240 k
    have hin2 : vp_in ((240 : Int32) + nI k) 270 := by rw [ei]; exact vp_in_nI (by omega) (by omega)
    have ec2 : ((240 : Int32) + nI k).toNatClampNeg = 240 + k := by rw [ei]; exact nI_clamp (by omega)
    by_cases hm : mi = 0
    · have hc : c = T := by omega
      refine ⟨nI k, fun post n hn hp => ?_, fun post n hn hp => ?_, Or.inr ⟨k, by omega, rfl⟩⟩
      · obtain ⟨n, rfl⟩ : ∃ n', n = n' + 1 := ⟨n - 1, by omega⟩
        exact pk_le N k (fun z => absurd z (by omega)) (fun _ => ⟨hin, nm_e (br_t rfl (br_t (by rw [hc]) hp))⟩)
      · obtain ⟨n, rfl⟩ : ∃ n', n = n' + 1 := ⟨n - 1, by omega⟩
        exact pk_le N k (fun z => absurd z (by omega)) (fun _ => br_t (by rw [hm]; rfl) hp)
    · by_cases hn : t < 8589934592
      · have har := tm_ar_le t
        obtain ⟨m, rfl⟩ : ∃ m, mi = m + 1 := ⟨mi - 1, by omega⟩
        obtain ⟨a, rfl⟩ : ∃ a, la = a + 1 := ⟨la - 1, by omega⟩
        have hcT : c < T := by omega
        have next : ∃ c' la', ((c' < T ∧ 1 ≤ la' ∧ la' ≤ 60 ∧ (m + tm_ar t) + 1 + c' = T + la') ∨ (c' = T ∧ la' = 1 ∧ m + tm_ar t = 0)) ∧ la' + l.length ≤ 60 ∧ ((a + tm_ar t = 0 ∧ c' = c + 1 ∧ la' = 1) ∨ (a + tm_ar t ≠ 0 ∧ c' = c ∧ la' = a + tm_ar t)) := by
          by_cases h0 : a + tm_ar t = 0
          · refine ⟨c + 1, 1, ?_, by omega, Or.inl ⟨h0, rfl, rfl⟩⟩
            by_cases hcc : c + 1 < T
            · exact Or.inl ⟨hcc, by omega, by omega, by omega⟩
            · exact Or.inr ⟨by omega, rfl, by omega⟩
          · exact ⟨c, a + tm_ar t, Or.inl ⟨hcT, by omega, by omega, by omega⟩, by omega, Or.inr ⟨h0, rfl, rfl⟩⟩
        obtain ⟨c', la', n1, n2, n3⟩ := next
        obtain ⟨r, rX, rY, rG⟩ := fa_l hN hT hT2 l (k + 1) c' la' (m + tm_ar t) (by omega) h2.2 h3.2 (fun x hx => h4 x (List.mem_cons.mpr (Or.inr hx))) n1 n2
        refine ⟨r, fun post n hln hp => ?_, fun post n hln hp => ?_, ?_⟩
        · obtain ⟨n, rfl⟩ : ∃ n', n = n' + 1 := ⟨n - 1, by omega⟩
          rw [List.length_cons] at hln
          refine pk_le N k (fun z => absurd z (by omega)) (fun _ => ⟨hin, nm_r (e' := t) (by rw [ek]; exact h2.1) (br_t rfl ?_)⟩)
          refine pk_eq c T (fun z => absurd z (by omega)) (fun _ => br_t rfl (br_t hn (br_t rfl (nm_r (e' := 0) (by decide) (br_t (by decide) (tk_arX t ?_))))))
          refine nm_r (ya_step a _) ?_
          rcases n3 with ⟨q1, q2, q3⟩ | ⟨q1, q2, q3⟩
          · subst q2 q3
            refine pk_eq (a + tm_ar t) 0 (fun _ => nm_r (nI_1 c) (nm_r (nI_1 k) (rX post n (by omega) hp))) (fun z => absurd q1 z)
          · subst q2 q3
            exact pk_eq (a + tm_ar t) 0 (fun z => absurd z q1) (fun _ => nm_r (nI_1 k) (rX post n (by omega) hp))
        · obtain ⟨n, rfl⟩ : ∃ n', n = n' + 1 := ⟨n - 1, by omega⟩
          rw [List.length_cons] at hln
          refine pk_le N k (fun z => absurd z (by omega)) (fun _ => pk_eq (m + 1) 0 (fun z => absurd z (by omega)) (fun _ => ⟨hin2, ?_⟩))
          rw [ec2, h3.1.1, h3.1.2]
          exact br_t (hkd.mpr hn) ⟨hin2, hin2, tk_arR htr (nm_r (ya_step m _) (nm_r (nI_1 k) (rY post n (by omega) hp)))⟩
        · rcases rG with ⟨g1, g2, g3⟩ | g
          · refine Or.inl ⟨g1, tm_w_cons.mpr g2, fun x hx => ?_⟩
            rcases List.mem_cons.mp hx with e | e
            · rw [e]; exact fa_d htr hn
            · exact g3 x e
          · exact Or.inr g
      · refine ⟨nI k, fun post n hln hp => ?_, fun post n hln hp => ?_, Or.inr ⟨k, by omega, rfl⟩⟩
        · obtain ⟨n, rfl⟩ : ∃ n', n = n' + 1 := ⟨n - 1, by omega⟩
          refine pk_le N k (fun z => absurd z (by omega)) (fun _ => ⟨hin, nm_r (e' := t) (by rw [ek]; exact h2.1) (br_t rfl ?_)⟩)
          refine pk_eq c T (fun z => absurd z (by omega)) (fun _ => br_t rfl (br_f hn (ru_slotX htr hn ?_)))
          refine nm_e (br_t rfl (nm_r (e' := 0) (by decide) (br_t ?_ hp)))
          exact (fa_and0 (by have := ru_slot_lt htr hn; omega)).mpr (b_0 _)
        · obtain ⟨n, rfl⟩ : ∃ n', n = n' + 1 := ⟨n - 1, by omega⟩
          refine pk_le N k (fun z => absurd z (by omega)) (fun _ => pk_eq mi 0 (fun z => absurd z hm) (fun _ => ⟨hin2, ?_⟩))
          rw [ec2, h3.1.1]
          exact br_f (fun z => hn (hkd.mp z)) hp
theorem fa_12 {D : List Int64} (N T : Nat) (hN : N = D.length) (hN30 : N ≤ 30) (hT : 1 ≤ T) (hT2 : T ≤ 2) (h2 : hd_h a_draft 0 D) (h3 : hd_y tk_kR tk_vR a_kind' a_value' 240 D) (hall : a_all' 8 = nI N) (h4 : ∀ t, t ∈ D → tk_r t) :
    ∃ r : Int32, (∀ post : Int32 → Prop, post r → wpX_faultOf post (nI N, f_faultPlace, f_reportedSteps, f_resultSize, f_sheetSize, f_waitingSize, f_builtSize, f_unfinished, f_taken, f_keptSize, f_stacked, f_ranked, f_surveyed, a_draft, a_result, a_lefts, a_leftSize, a_ways, a_rights, a_rightSize, a_sheet, a_waiting, a_built, a_unfinishedStart, a_unfinishedLacks, a_kept, a_matchStart, a_matchEnd, a_joint, a_unified, a_oneStack, a_otherStack, a_nestedAt, a_nestedEnd, a_rank, a_pairCount, a_firstOpen) (nI T) 0) ∧ (∀ post : Int32 → Prop, post r → wpY_unfit post (f_place', f_count', f_top', f_done', f_open', f_steps', f_shownSteps', f_fault', f_in', f_made', f_old', f_size', f_heads', f_fresh', a_kind', a_value', a_all', a_split', a_toKind', a_doneKind', a_toValue', a_doneValue', a_begins', a_lacks', a_inKind', a_leftKind', a_madeKind', a_oldKind', a_resultKind', a_inValue', a_leftValue', a_madeValue', a_oldValue', a_resultValue', a_from', a_to', a_whole', a_known', a_bound', a_whose', a_rank', a_one', a_two', a_oneOf', a_twoOf', a_headAt', a_headOf', a_headLeft', a_pairs', a_first') (nI T)) ∧ ((r = -1 ∧ tm_w D T ∧ ∀ t, t ∈ D → tk_d t) ∨ ∃ q, q ≤ 30 ∧ r = nI q) := by
  obtain ⟨r, rX, rY, rG⟩ := fa_l (N := N) (T := T) hN30 hT hT2 D 0 0 1 T (by omega) h2 h3 h4 (Or.inl ⟨by omega, by omega, by omega, by omega⟩) (by omega)
  refine ⟨r, fun post hp => ⟨D.length + 1, rX post _ (by omega) hp⟩, fun post hp => nm_r (e' := nI N) hall ⟨D.length + 1, rY post _ (by omega) hp⟩, rG⟩
end
