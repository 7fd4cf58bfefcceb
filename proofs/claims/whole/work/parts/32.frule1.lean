/-! where a rule's draft fails: LEFT -/
section
variable {f_drafted f_faultPlace f_reportedSteps f_resultSize f_sheetSize f_waitingSize f_builtSize f_unfinished f_taken f_keptSize f_stacked f_ranked f_surveyed : Int32} {a_draft a_result a_lefts a_rights a_sheet a_waiting a_built a_kept a_joint : Nat → Int64} {a_leftSize a_ways a_rightSize a_unfinishedStart a_unfinishedLacks a_matchStart a_matchEnd a_unified a_oneStack a_otherStack a_nestedAt a_nestedEnd a_rank a_pairCount a_firstOpen : Nat → Int32}
variable {f_place' f_count' f_top' f_done' f_open' f_steps' f_shownSteps' f_fault' f_in' f_made' f_old' f_size' f_heads' f_fresh' : Int32} {a_kind' a_value' a_all' a_split' a_toKind' a_doneKind' a_toValue' a_doneValue' a_begins' a_lacks' a_inKind' a_leftKind' a_madeKind' a_oldKind' a_resultKind' a_inValue' a_leftValue' a_madeValue' a_oldValue' a_resultValue' a_from' a_to' a_whole' a_known' a_bound' a_whose' a_rank' a_one' a_two' a_oneOf' a_twoOf' a_headAt' a_headOf' a_headLeft' a_pairs' a_first' : Nat → Int32}
theorem fb_1 {N : Nat} (hN : N ≤ 30) : ∀ (l : List Int64) (k la ni : Nat) (seen has : Int32), k + l.length = N → hd_h a_draft k l → hd_y tk_kR tk_vR a_kind' a_value' (240 + k) l → (∀ t, t ∈ l → tk_r t) → 1 ≤ la → la + l.length ≤ 60 → ni ≤ 4 → (∀ i, i < 8 → bt seen i = bt has (8 + i)) → (k = 0 → ∀ t r, l = t :: r → t < 4294967296) →
    ∃ r : Int32, (∀ (post : Int32 → Prop) (n : Nat), l.length < n → post r → wX_faultOf_14 post 2 1 (nI N) f_faultPlace f_reportedSteps f_resultSize f_sheetSize f_waitingSize f_builtSize f_unfinished f_taken f_keptSize f_stacked f_ranked f_surveyed a_draft a_result a_lefts a_leftSize a_ways a_rights a_rightSize a_sheet a_waiting a_built a_unfinishedStart a_unfinishedLacks a_kept a_matchStart a_matchEnd a_joint a_unified a_oneStack a_otherStack a_nestedAt a_nestedEnd a_rank a_pairCount a_firstOpen n 0 (nI la) (nI ni) seen (nI k)) ∧ (∀ (post : Int32 → Prop) (n : Nat), l.length < n → post r → wY_unfitRule_38 post (nI N) f_place' f_count' f_top' f_done' f_open' f_steps' f_shownSteps' f_fault' f_in' f_made' f_old' f_size' f_heads' f_fresh' a_kind' a_value' a_all' a_split' a_toKind' a_doneKind' a_toValue' a_doneValue' a_begins' a_lacks' a_inKind' a_leftKind' a_madeKind' a_oldKind' a_resultKind' a_inValue' a_leftValue' a_madeValue' a_oldValue' a_resultValue' a_from' a_to' a_whole' a_known' a_bound' a_whose' a_rank' a_one' a_two' a_oneOf' a_twoOf' a_headAt' a_headOf' a_headLeft' a_pairs' a_first' n (nI la) (-1) (nI ni) has (nI k)) ∧ ((r = -1 ∧ ∃ l1 l2, l = l1 ++ l2 ∧ tm_w l1 la ∧ tm_w l2 1 ∧ ni + ru_c9 l1 ≤ 4 ∧ ∀ t, t ∈ l2 → ¬ t < 8589934592 → (bt seen (ru_slot t) = true ∨ ∃ s, s ∈ l1 ∧ ¬ s < 8589934592 ∧ ru_slot s = ru_slot t)) ∨ ∃ q, q ≤ 30 ∧ r = nI q)
  | [], k, la, ni, seen, has, h1, h2, h3, h4, h5, h6, h7, h8, h9 => by
    rw [List.length_nil] at h1
    refine ⟨nI N, fun post n hn hp => ?_, fun post n hn hp => ?_, Or.inr ⟨N, hN, rfl⟩⟩
    · obtain ⟨n, rfl⟩ : ∃ n', n = n' + 1 := ⟨n - 1, by omega⟩
      exact pk_le N k (fun _ => br_f (by decide) hp) (fun z => absurd z (by omega))
    · obtain ⟨n, rfl⟩ : ∃ n', n = n' + 1 := ⟨n - 1, by omega⟩
      exact pk_le N k (fun _ => pk_lt 0 la (fun _ => hp) (fun z => absurd z (by simp at h6; omega)) rfl rfl (by omega) (by simp at h6; omega)) (fun z => absurd z (by omega))
  | t :: l, k, la, ni, seen, has, h1, h2, h3, h4, h5, h6, h7, h8, h9 => by
    rw [List.length_cons] at h1 h6
    have htr := h4 t (List.mem_cons.mpr (Or.inl rfl))
    have hkd := fa_kind htr
    have har := tm_ar_le t
    have h9t := tk_9 htr
    have ek : (nI k).toNatClampNeg = k := nI_clamp (by omega)
    have hin : vp_in (nI k) 30 := vp_in_nI (by omega) (by omega)
    have ei : (240 : Int32) + nI k = nI (240 + k) := nI_add 240 k
    have hin2 : vp_in ((240 : Int32) + nI k) 270 := by rw [ei]; exact vp_in_nI (by omega) (by omega)
    have ec2 : ((240 : Int32) + nI k).toNatClampNeg = 240 + k := by rw [ei]; exact nI_clamp (by omega)
    obtain ⟨a, rfl⟩ : ∃ a, la = a + 1 := ⟨la - 1, by omega⟩
    -- the component's and the reference's way to the count of the symbols 9
    have hs' : ∃ seen' has', (∀ i, i < 8 → bt seen' i = bt has' (8 + i)) ∧ (∀ i, i < 8 → (bt seen' i = true ↔ (bt seen i = true ∨ (¬ t < 8589934592 ∧ ru_slot t = i)))) ∧
        (∀ (post : Int32 → Prop) (J : Int32 → Int32 → Int32 → Int32 → Int32 → Prop), wX_faultOf_119 post J 2 1 0 (nI (a + 1)) (nI ni) seen' (nI k) t 1 (nI N) f_faultPlace f_reportedSteps f_resultSize f_sheetSize f_waitingSize f_builtSize f_unfinished f_taken f_keptSize f_stacked f_ranked f_surveyed a_draft a_result a_lefts a_leftSize a_ways a_rights a_rightSize a_sheet a_waiting a_built a_unfinishedStart a_unfinishedLacks a_kept a_matchStart a_matchEnd a_joint a_unified a_oneStack a_otherStack a_nestedAt a_nestedEnd a_rank a_pairCount a_firstOpen → wX_faultOf_45 post J 2 1 0 (nI (a + 1)) (nI ni) seen (nI k) t 1 (nI N) f_faultPlace f_reportedSteps f_resultSize f_sheetSize f_waitingSize f_builtSize f_unfinished f_taken f_keptSize f_stacked f_ranked f_surveyed a_draft a_result a_lefts a_leftSize a_ways a_rights a_rightSize a_sheet a_waiting a_built a_unfinishedStart a_unfinishedLacks a_kept a_matchStart a_matchEnd a_joint a_unified a_oneStack a_otherStack a_nestedAt a_nestedEnd a_rank a_pairCount a_firstOpen) ∧
        (∀ (post : Int32 → Prop) (J : Int32 → Int32 → Int32 → Int32 → Int32 → Prop), wY_unfitRule_138 post J (nI N) (nI (a + 1)) (-1) (nI ni) has' (nI k) (tk_kR t) (tk_vR t) f_place' f_count' f_top' f_done' f_open' f_steps' f_shownSteps' f_fault' f_in' f_made' f_old' f_size' f_heads' f_fresh' a_kind' a_value' a_all' a_split' a_toKind' a_doneKind' a_toValue' a_doneValue' a_begins' a_lacks' a_inKind' a_leftKind' a_madeKind' a_oldKind' a_resultKind' a_inValue' a_leftValue' a_madeValue' a_oldValue' a_resultValue' a_from' a_to' a_whole' a_known' a_bound' a_whose' a_rank' a_one' a_two' a_oneOf' a_twoOf' a_headAt' a_headOf' a_headLeft' a_pairs' a_first' → wY_unfitRule_90 post J (nI N) (nI (a + 1)) (-1) (nI ni) has (nI k) (tk_kR t) (tk_vR t) f_place' f_count' f_top' f_done' f_open' f_steps' f_shownSteps' f_fault' f_in' f_made' f_old' f_size' f_heads' f_fresh' a_kind' a_value' a_all' a_split' a_toKind' a_doneKind' a_toValue' a_doneValue' a_begins' a_lacks' a_inKind' a_leftKind' a_madeKind' a_oldKind' a_resultKind' a_inValue' a_leftValue' a_madeValue' a_oldValue' a_resultValue' a_from' a_to' a_whole' a_known' a_bound' a_whose' a_rank' a_one' a_two' a_oneOf' a_twoOf' a_headAt' a_headOf' a_headLeft' a_pairs' a_first') := by
      have pre : ∀ (post : Int32 → Prop) (J : Int32 → Int32 → Int32 → Int32 → Int32 → Prop), wX_faultOf_74 post J 2 1 0 (nI (a + 1)) (nI ni) seen (nI k) t 1 (nI N) f_faultPlace f_reportedSteps f_resultSize f_sheetSize f_waitingSize f_builtSize f_unfinished f_taken f_keptSize f_stacked f_ranked f_surveyed a_draft a_result a_lefts a_leftSize a_ways a_rights a_rightSize a_sheet a_waiting a_built a_unfinishedStart a_unfinishedLacks a_kept a_matchStart a_matchEnd a_joint a_unified a_oneStack a_otherStack a_nestedAt a_nestedEnd a_rank a_pairCount a_firstOpen → wX_faultOf_45 post J 2 1 0 (nI (a + 1)) (nI ni) seen (nI k) t 1 (nI N) f_faultPlace f_reportedSteps f_resultSize f_sheetSize f_waitingSize f_builtSize f_unfinished f_taken f_keptSize f_stacked f_ranked f_surveyed a_draft a_result a_lefts a_leftSize a_ways a_rights a_rightSize a_sheet a_waiting a_built a_unfinishedStart a_unfinishedLacks a_kept a_matchStart a_matchEnd a_joint a_unified a_oneStack a_otherStack a_nestedAt a_nestedEnd a_rank a_pairCount a_firstOpen := by
        intro post J hJ
        refine br_f (by decide) (br_f (by decide) (pk_eq k 0 (fun h0 => br_t (h9 h0 t l rfl) hJ) (fun _ => hJ)))
      by_cases hn : t < 8589934592
      · refine ⟨seen, has, h8, fun i hi => ⟨fun z => Or.inl z, fun z => ?_⟩, fun post J hJ => pre post J (br_t hn hJ), fun post J hJ => br_t (hkd.mpr hn) (br_f (by decide) (nm_r (fb_or0 has) hJ))⟩
        rcases z with z | z
        · exact z
        · exact absurd hn z.1
      · have hsl := ru_slot_lt htr hn
        refine ⟨seen ||| ((1 : Int32) <<< (nI (ru_slot t) &&& 31)), has ||| ((1 : Int32) <<< (nI (8 + ru_slot t) &&& 31)), fun i hi => ?_, fun i hi => ?_, fun post J hJ => pre post J (br_f hn (ru_slotX htr hn (nm_e (br_f (by decide) (nm_e (br_f ?_ hJ)))))), fun post J hJ => br_f (fun z => hn (hkd.mp z)) ?_⟩
        · rw [fa_or (by omega) (by omega), fa_or (by omega) (by omega), h8 i hi]
          congr 1
          by_cases e : i = ru_slot t
          · rw [decide_eq_true e, decide_eq_true (by omega)]
          · rw [decide_eq_false e, decide_eq_false (by omega)]
        · rw [fa_or (by omega) (by omega)]
          rw [Bool.or_eq_true, decide_eq_true_iff]
          exact ⟨fun z => by rcases z with z | z; exact Or.inl z; exact Or.inr ⟨hn, z.symm⟩, fun z => by rcases z with z | z; exact Or.inl z; exact Or.inr z.2.symm⟩
        · rw [fa_and0 (by omega), fa_or (by omega) (by omega), decide_eq_true rfl, Bool.or_true]
          decide
        · rw [fb_idx htr hn]
          exact br_f (by decide) (nm_e hJ)
    obtain ⟨seen', has', s1, s2, sX, sY⟩ := hs'
    by_cases h5n : t = 9 ∧ ni = 4
    · refine ⟨nI k, fun post n hln hp => ?_, fun post n hln hp => ?_, Or.inr ⟨k, by omega, rfl⟩⟩
      · obtain ⟨n, rfl⟩ : ∃ n', n = n' + 1 := ⟨n - 1, by omega⟩
        refine pk_le N k (fun z => absurd z (by omega)) (fun _ => ⟨hin, nm_r (e' := t) (by rw [ek]; exact h2.1) (br_f (by decide) (br_t rfl (sX post _ ?_)))⟩)
        refine br_f (by decide) (br_t h5n.1 (nm_r (nI_1 ni) (pk_le (ni + 1) 4 (fun z => absurd z (by omega)) (fun _ => hp))))
      · obtain ⟨n, rfl⟩ : ∃ n', n = n' + 1 := ⟨n - 1, by omega⟩
        refine pk_le N k (fun z => absurd z (by omega)) (fun _ => ⟨hin2, nm_r (e' := tk_kR t) (by rw [ec2]; exact h3.1.1) ⟨hin2, nm_r (e' := tk_vR t) (by rw [ec2]; exact h3.1.2) (br_f (nI_ne0 (by omega) (by omega)) (br_f (nI_ne0 (by omega) (by omega)) (sY post _ ?_)))⟩⟩)
        obtain ⟨q1, q2⟩ := h9t.mpr h5n.1
        exact br_f (by decide) (br_t q1 (br_t q2 (nm_r (nI_1 ni) (br_t (by rw [h5n.2]; rfl) hp))))
    · -- on to the next token
      have hni' : ∃ ni', ni' = ni + (if t = 9 then 1 else 0) ∧ ni' ≤ 4 := by
        refine ⟨_, rfl, ?_⟩
        by_cases e : t = 9
        · rw [if_pos e]
          have : ni ≠ 4 := fun z => h5n ⟨e, z⟩
          omega
        · rw [if_neg e]; omega
      obtain ⟨ni', en, hni4⟩ := hni'
      have stepX : ∀ (post : Int32 → Prop) (J : Int32 → Int32 → Int32 → Int32 → Int32 → Prop), ((a + tm_ar t = 0 → J (nI 1) (nI 1) (nI ni') seen' (nI (k + 1))) ∧ (a + tm_ar t ≠ 0 → J 0 (nI (a + tm_ar t)) (nI ni') seen' (nI (k + 1)))) → wX_faultOf_119 post J 2 1 0 (nI (a + 1)) (nI ni) seen' (nI k) t 1 (nI N) f_faultPlace f_reportedSteps f_resultSize f_sheetSize f_waitingSize f_builtSize f_unfinished f_taken f_keptSize f_stacked f_ranked f_surveyed a_draft a_result a_lefts a_leftSize a_ways a_rights a_rightSize a_sheet a_waiting a_built a_unfinishedStart a_unfinishedLacks a_kept a_matchStart a_matchEnd a_joint a_unified a_oneStack a_otherStack a_nestedAt a_nestedEnd a_rank a_pairCount a_firstOpen := by
        intro post J hJ
        have tail : wX_faultOf_140 post J 2 1 0 (nI (a + 1)) seen' (nI k) t (if t = 9 then 1 else 0) (nI ni) (nI N) f_faultPlace f_reportedSteps f_resultSize f_sheetSize f_waitingSize f_builtSize f_unfinished f_taken f_keptSize f_stacked f_ranked f_surveyed a_draft a_result a_lefts a_leftSize a_ways a_rights a_rightSize a_sheet a_waiting a_built a_unfinishedStart a_unfinishedLacks a_kept a_matchStart a_matchEnd a_joint a_unified a_oneStack a_otherStack a_nestedAt a_nestedEnd a_rank a_pairCount a_firstOpen := by
          refine nm_r (e' := nI ni') ?_ (pk_le ni' 4 (fun _ => tk_arX t (nm_r (ya_step a _) ?_)) (fun z => absurd z (by omega)))
          · rw [en]
            split
            · exact nI_1 ni
            · exact Int32.add_zero _
          · refine pk_eq (a + tm_ar t) 0 (fun z => nm_r (nI_1 0) (nm_r (nI_1 k) (hJ.1 z))) (fun z => nm_r (nI_1 k) (hJ.2 z))
        refine br_f (by decide) ?_
        by_cases e : t = 9
        · rw [if_pos e] at tail
          exact br_t e tail
        · rw [if_neg e] at tail
          exact br_f e tail
      have stepY : ∀ (post : Int32 → Prop) (J : Int32 → Int32 → Int32 → Int32 → Int32 → Prop), J (nI (a + tm_ar t)) (-1) (nI ni') has' (nI (k + 1)) → wY_unfitRule_138 post J (nI N) (nI (a + 1)) (-1) (nI ni) has' (nI k) (tk_kR t) (tk_vR t) f_place' f_count' f_top' f_done' f_open' f_steps' f_shownSteps' f_fault' f_in' f_made' f_old' f_size' f_heads' f_fresh' a_kind' a_value' a_all' a_split' a_toKind' a_doneKind' a_toValue' a_doneValue' a_begins' a_lacks' a_inKind' a_leftKind' a_madeKind' a_oldKind' a_resultKind' a_inValue' a_leftValue' a_madeValue' a_oldValue' a_resultValue' a_from' a_to' a_whole' a_known' a_bound' a_whose' a_rank' a_one' a_two' a_oneOf' a_twoOf' a_headAt' a_headOf' a_headLeft' a_pairs' a_first' := by
        intro post J hJ
        have tail : wY_unfitRule_166 post J (nI N) (nI (a + 1)) (-1) (nI ni') has' (nI k) (tk_kR t) (tk_vR t) f_place' f_count' f_top' f_done' f_open' f_steps' f_shownSteps' f_fault' f_in' f_made' f_old' f_size' f_heads' f_fresh' a_kind' a_value' a_all' a_split' a_toKind' a_doneKind' a_toValue' a_doneValue' a_begins' a_lacks' a_inKind' a_leftKind' a_madeKind' a_oldKind' a_resultKind' a_inValue' a_leftValue' a_madeValue' a_oldValue' a_resultValue' a_from' a_to' a_whole' a_known' a_bound' a_whose' a_rank' a_one' a_two' a_oneOf' a_twoOf' a_headAt' a_headOf' a_headLeft' a_pairs' a_first' := tk_arR htr (nm_r (ya_step a _) (nm_r (nI_1 k) hJ))
        refine br_f (by decide) ?_
        by_cases e : t = 9
        · obtain ⟨q1, q2⟩ := h9t.mpr e
          have hne : ni ≠ 4 := fun z => h5n ⟨e, z⟩
          rw [if_pos e] at en
          refine br_t q1 (br_t q2 (nm_r (nI_1 ni) (pk_eq (ni + 1) 5 (fun z => absurd z (by omega)) (fun _ => ?_))))
          rw [← en]
          exact tail
        · rw [if_neg e, Nat.add_zero] at en
          rw [en] at tail
          refine br_c (fun q1 => br_c (fun q2 => absurd (h9t.mp ⟨q1, q2⟩) e) (fun _ => tail)) (fun _ => tail)
      have hc9 : ∀ l1 : List Int64, ru_c9 (t :: l1) = (if t = 9 then 1 else 0) + ru_c9 l1 := fun _ => rfl
      by_cases h0 : a + tm_ar t = 0
      · obtain ⟨r, rX, rY, rG⟩ := fb_2 (ni' := nI ni') hN hni4 s1 l (k + 1) 1 1 0 (-1) (by omega) h2.2 h3.2 (fun x hx => h4 x (List.mem_cons.mpr (Or.inr hx))) (Or.inr (Or.inl ⟨rfl, rfl, rfl, rfl⟩)) (by omega)
        refine ⟨r, fun post n hln hp => ?_, fun post n hln hp => ?_, ?_⟩
        · obtain ⟨n, rfl⟩ : ∃ n', n = n' + 1 := ⟨n - 1, by omega⟩
          rw [List.length_cons] at hln
          exact pk_le N k (fun z => absurd z (by omega)) (fun _ => ⟨hin, nm_r (e' := t) (by rw [ek]; exact h2.1) (br_f (by decide) (br_t rfl (sX post _ (stepX post _ ⟨fun _ => rX post n (by omega) hp, fun z => absurd h0 z⟩))))⟩)
        · obtain ⟨n, rfl⟩ : ∃ n', n = n' + 1 := ⟨n - 1, by omega⟩
          rw [List.length_cons] at hln
          refine pk_le N k (fun z => absurd z (by omega)) (fun _ => ⟨hin2, nm_r (e' := tk_kR t) (by rw [ec2]; exact h3.1.1) ⟨hin2, nm_r (e' := tk_vR t) (by rw [ec2]; exact h3.1.2) (br_f (nI_ne0 (by omega) (by omega)) (br_f (nI_ne0 (by omega) (by omega)) (sY post _ (stepY post _ ?_))))⟩⟩)
          rw [h0]
          exact rY post n (by omega) hp
        · rcases rG with ⟨g1, g2, g3⟩ | g
          · refine Or.inl ⟨g1, [t], l, rfl, ?_, ?_, ?_, fun x hx hx' => ?_⟩
            · have : a = 0 ∧ tm_ar t = 0 := by omega
              rw [this.1]
              exact tm_w_1 this.2
            · rw [if_neg (by omega)] at g2; exact g2
            · rw [hc9]
              show ni + ((if t = 9 then 1 else 0) + 0) ≤ 4
              omega
            · have hsl := ru_slot_lt (h4 x (List.mem_cons.mpr (Or.inr hx))) hx'
              rcases (s2 _ hsl).mp (g3 x hx hx') with z | z
              · exact Or.inl z
              · exact Or.inr ⟨t, by simp, z.1, z.2⟩
          · exact Or.inr g
      · obtain ⟨r, rX, rY, rG⟩ := fb_1 hN l (k + 1) (a + tm_ar t) ni' seen' has' (by omega) h2.2 h3.2 (fun x hx => h4 x (List.mem_cons.mpr (Or.inr hx))) (by omega) (by omega) hni4 s1 (fun z => absurd z (by omega))
        refine ⟨r, fun post n hln hp => ?_, fun post n hln hp => ?_, ?_⟩
        · obtain ⟨n, rfl⟩ : ∃ n', n = n' + 1 := ⟨n - 1, by omega⟩
          rw [List.length_cons] at hln
          exact pk_le N k (fun z => absurd z (by omega)) (fun _ => ⟨hin, nm_r (e' := t) (by rw [ek]; exact h2.1) (br_f (by decide) (br_t rfl (sX post _ (stepX post _ ⟨fun z => absurd z h0, fun _ => rX post n (by omega) hp⟩))))⟩)
        · obtain ⟨n, rfl⟩ : ∃ n', n = n' + 1 := ⟨n - 1, by omega⟩
          rw [List.length_cons] at hln
          exact pk_le N k (fun z => absurd z (by omega)) (fun _ => ⟨hin2, nm_r (e' := tk_kR t) (by rw [ec2]; exact h3.1.1) ⟨hin2, nm_r (e' := tk_vR t) (by rw [ec2]; exact h3.1.2) (br_f (nI_ne0 (by omega) (by omega)) (br_f (nI_ne0 (by omega) (by omega)) (sY post _ (stepY post _ (rY post n (by omega) hp)))))⟩⟩)
        · rcases rG with ⟨g1, l1, l2, g2, g3, g4, g5, g6⟩ | g
          · refine Or.inl ⟨g1, t :: l1, l2, by rw [g2]; rfl, tm_w_cons.mpr g3, g4, ?_, fun x hx hx' => ?_⟩
            · rw [hc9]; omega
            · have hsl := ru_slot_lt (h4 x (List.mem_cons.mpr (Or.inr (by rw [g2]; exact List.mem_append.mpr (Or.inr hx))))) hx'
              rcases g6 x hx hx' with z | ⟨s, z1, z2, z3⟩
              · rcases (s2 _ hsl).mp z with z | z
                · exact Or.inl z
                · exact Or.inr ⟨t, by simp, z.1, z.2⟩
              · exact Or.inr ⟨s, by simp [z1], z2, z3⟩
          · exact Or.inr g
theorem fb_rule {D : List Int64} (N : Nat) (hN : N = D.length) (hN30 : N ≤ 30) (h2 : hd_h a_draft 0 D) (h3 : hd_y tk_kR tk_vR a_kind' a_value' 240 D) (hall : a_all' 8 = nI N) (h4 : ∀ t, t ∈ D → tk_r t) :
    ∃ r : Int32, (∀ post : Int32 → Prop, post r → wpX_faultOf post (nI N, f_faultPlace, f_reportedSteps, f_resultSize, f_sheetSize, f_waitingSize, f_builtSize, f_unfinished, f_taken, f_keptSize, f_stacked, f_ranked, f_surveyed, a_draft, a_result, a_lefts, a_leftSize, a_ways, a_rights, a_rightSize, a_sheet, a_waiting, a_built, a_unfinishedStart, a_unfinishedLacks, a_kept, a_matchStart, a_matchEnd, a_joint, a_unified, a_oneStack, a_otherStack, a_nestedAt, a_nestedEnd, a_rank, a_pairCount, a_firstOpen) 2 1) ∧ (∀ post : Int32 → Prop, post r → wpY_unfitRule post (f_place', f_count', f_top', f_done', f_open', f_steps', f_shownSteps', f_fault', f_in', f_made', f_old', f_size', f_heads', f_fresh', a_kind', a_value', a_all', a_split', a_toKind', a_doneKind', a_toValue', a_doneValue', a_begins', a_lacks', a_inKind', a_leftKind', a_madeKind', a_oldKind', a_resultKind', a_inValue', a_leftValue', a_madeValue', a_oldValue', a_resultValue', a_from', a_to', a_whole', a_known', a_bound', a_whose', a_rank', a_one', a_two', a_oneOf', a_twoOf', a_headAt', a_headOf', a_headLeft', a_pairs', a_first')) ∧ ((r = -1 ∧ ∃ A B, D = A ++ B ∧ tm_w A 1 ∧ tm_w B 1 ∧ ru_c9 A ≤ 4 ∧ (∃ t l, A = t :: l ∧ t < 4294967296) ∧ ∀ t, t ∈ B → ¬ t < 8589934592 → t ∈ A) ∨ ∃ q, q ≤ 30 ∧ r = nI q) := by
  by_cases h0 : ∀ t r, D = t :: r → t < 4294967296
  · obtain ⟨r, rX, rY, rG⟩ := fb_1 hN30 D 0 1 0 0 0 (by omega) h2 h3 h4 (by omega) (by omega) (by omega) (fun i hi => by rw [b_0, b_0]) (fun _ => h0)
    refine ⟨r, fun post hp => ⟨D.length + 1, rX post _ (by omega) hp⟩, fun post hp => nm_r (e' := nI N) hall ?_, ?_⟩
    · have body : wY_unfitRule_25 post (nI N) f_place' f_count' f_top' f_done' f_open' f_steps' f_shownSteps' f_fault' f_in' f_made' f_old' f_size' f_heads' f_fresh' a_kind' a_value' a_all' a_split' a_toKind' a_doneKind' a_toValue' a_doneValue' a_begins' a_lacks' a_inKind' a_leftKind' a_madeKind' a_oldKind' a_resultKind' a_inValue' a_leftValue' a_madeValue' a_oldValue' a_resultValue' a_from' a_to' a_whole' a_known' a_bound' a_whose' a_rank' a_one' a_two' a_oneOf' a_twoOf' a_headAt' a_headOf' a_headLeft' a_pairs' a_first' := ⟨D.length + 1, rY post _ (by omega) hp⟩
      refine br_c (fun _ => body) (fun hz => br_t ?_ body)
      cases D with
      | nil => exact absurd (by rw [hN]; exact Int32.le_refl _) hz
      | cons t l =>
        have ht := h0 t l rfl
        have : a_kind' 240 = tk_kR t := h3.1.1
        rw [this]
        unfold tk_kR
        rw [if_pos ht]
    · rcases rG with ⟨g1, l1, l2, g2, g3, g4, g5, g6⟩ | g
      · refine Or.inl ⟨g1, l1, l2, g2, g3, g4, by omega, ?_, fun t ht ht' => ?_⟩
        · obtain ⟨t, l, e, _⟩ := tm_w_pos g3
          exact ⟨t, l, e, h0 t (l ++ l2) (by rw [g2, e]; rfl)⟩
        · rcases g6 t ht ht' with z | ⟨s, z1, z2, z3⟩
          · rw [b_0] at z; exact absurd z (by decide)
          · have := fb_slot_inj (h4 s (by rw [g2]; exact List.mem_append.mpr (Or.inl z1))) (h4 t (by rw [g2]; exact List.mem_append.mpr (Or.inr ht))) z2 ht' z3
            rw [← this]; exact z1
      · exact Or.inr g
  · obtain ⟨t, l, e, hnt⟩ : ∃ t l, D = t :: l ∧ ¬ t < 4294967296 := by
      cases D with
      | nil => exact absurd (fun t r z => absurd z (by simp)) h0
      | cons t l => exact ⟨t, l, rfl, fun z => h0 (fun t' r' q => by injection q with q1 _; rw [← q1]; exact z)⟩
    subst e
    rw [List.length_cons] at hN
    refine ⟨nI 0, fun post hp => ⟨1, ?_⟩, fun post hp => nm_r (e' := nI N) hall ?_, Or.inr ⟨0, by omega, rfl⟩⟩
    · refine pk_le N 0 (fun z => absurd z (by omega)) (fun _ => ⟨vp_in_nI (n := 0) (by decide) (by decide), nm_r (e' := t) h2.1 (br_f (by decide) (br_t rfl (br_f (by decide) (br_f (by decide) (br_t rfl (br_f hnt hp))))))⟩)
    · refine pk_le N 0 (fun z => absurd z (by omega)) (fun _ => br_f ?_ hp)
      have : a_kind' 240 = tk_kR t := h3.1.1
      rw [this]
      unfold tk_kR
      rw [if_neg hnt]
      split
      · decide
      · split <;> decide
end
