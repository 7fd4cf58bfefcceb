/-! where a rule's draft fails: both sides go together -/
theorem fb_idx {t : Int64} (h : tk_r t) (hn : ¬ t < 8589934592) : (4 : Int32) * tk_kR t + tk_vR t = nI (8 + ru_slot t) := by
  rcases ru_names h hn with ⟨r, h1, _, k1, v1, e, _⟩ | ⟨r, h1, _, k1, v1, e, _⟩
  · rw [k1, v1, e, show (4 : Int32) * 2 = nI 8 from rfl, nI_add]
  · rw [k1, v1, e, show (4 : Int32) * 3 = nI 12 from rfl, nI_add, show 12 + r = 8 + (4 + r) by omega]
theorem fb_or0 (x : Int32) : x ||| 0 = x := by simp
theorem fb_slot_inj {s t : Int64} (hs : tk_r s) (ht : tk_r t) (ns : ¬ s < 8589934592) (nt : ¬ t < 8589934592) (e : ru_slot s = ru_slot t) : s = t := by
  rcases ru_names hs ns with ⟨r, h1, e1, _, _, s1, _⟩ | ⟨r, h1, e1, _, _, s1, _⟩ <;> rcases ru_names ht nt with ⟨q, h2, e2, _, _, s2, _⟩ | ⟨q, h2, e2, _, _, s2, _⟩
  · rw [e1, e2, show r = q by omega]
  · omega
  · omega
  · rw [e1, e2, show r = q by omega]
section
variable {f_drafted f_faultPlace f_reportedSteps f_resultSize f_sheetSize f_waitingSize f_builtSize f_unfinished f_taken f_keptSize f_stacked f_ranked f_surveyed : Int32} {a_draft a_result a_lefts a_rights a_sheet a_waiting a_built a_kept a_joint : Nat → Int64} {a_leftSize a_ways a_rightSize a_unfinishedStart a_unfinishedLacks a_matchStart a_matchEnd a_unified a_oneStack a_otherStack a_nestedAt a_nestedEnd a_rank a_pairCount a_firstOpen : Nat → Int32}
variable {f_place' f_count' f_top' f_done' f_open' f_steps' f_shownSteps' f_fault' f_in' f_made' f_old' f_size' f_heads' f_fresh' : Int32} {a_kind' a_value' a_all' a_split' a_toKind' a_doneKind' a_toValue' a_doneValue' a_begins' a_lacks' a_inKind' a_leftKind' a_madeKind' a_oldKind' a_resultKind' a_inValue' a_leftValue' a_madeValue' a_oldValue' a_resultValue' a_from' a_to' a_whole' a_known' a_bound' a_whose' a_rank' a_one' a_two' a_oneOf' a_twoOf' a_headAt' a_headOf' a_headLeft' a_pairs' a_first' : Nat → Int32}
theorem fb_2 {N ni : Nat} {seen has ni' : Int32} (hN : N ≤ 30) (hni : ni ≤ 4) (hsh : ∀ i, i < 8 → bt seen i = bt has (8 + i)) : ∀ (l : List Int64) (k c la mi : Nat) (rt : Int32), k + l.length = N → hd_h a_draft k l → hd_y tk_kR tk_vR a_kind' a_value' (240 + k) l → (∀ t, t ∈ l → tk_r t) → ((c = 1 ∧ 1 ≤ la ∧ mi = la ∧ ∃ q, q < 100 ∧ rt = nI q) ∨ (c = 1 ∧ la = 1 ∧ mi = 0 ∧ rt = -1) ∨ (c = 2 ∧ la = 1 ∧ mi = 0 ∧ ∃ q, q < 100 ∧ rt = nI q)) → la + l.length ≤ 60 →
    ∃ r : Int32, (∀ (post : Int32 → Prop) (n : Nat), l.length < n → post r → wX_faultOf_14 post 2 1 (nI N) f_faultPlace f_reportedSteps f_resultSize f_sheetSize f_waitingSize f_builtSize f_unfinished f_taken f_keptSize f_stacked f_ranked f_surveyed a_draft a_result a_lefts a_leftSize a_ways a_rights a_rightSize a_sheet a_waiting a_built a_unfinishedStart a_unfinishedLacks a_kept a_matchStart a_matchEnd a_joint a_unified a_oneStack a_otherStack a_nestedAt a_nestedEnd a_rank a_pairCount a_firstOpen n (nI c) (nI la) (nI ni) seen (nI k)) ∧ (∀ (post : Int32 → Prop) (n : Nat), l.length < n → post r → wY_unfitRule_38 post (nI N) f_place' f_count' f_top' f_done' f_open' f_steps' f_shownSteps' f_fault' f_in' f_made' f_old' f_size' f_heads' f_fresh' a_kind' a_value' a_all' a_split' a_toKind' a_doneKind' a_toValue' a_doneValue' a_begins' a_lacks' a_inKind' a_leftKind' a_madeKind' a_oldKind' a_resultKind' a_inValue' a_leftValue' a_madeValue' a_oldValue' a_resultValue' a_from' a_to' a_whole' a_known' a_bound' a_whose' a_rank' a_one' a_two' a_oneOf' a_twoOf' a_headAt' a_headOf' a_headLeft' a_pairs' a_first' n (nI mi) rt ni' has (nI k)) ∧ ((r = -1 ∧ tm_w l (if c = 2 then 0 else la) ∧ ∀ t, t ∈ l → ¬ t < 8589934592 → bt seen (ru_slot t) = true) ∨ ∃ q, q ≤ 30 ∧ r = nI q)
  | [], k, c, la, mi, rt, h1, h2, h3, h4, h5, h6 => by
    rw [List.length_nil] at h1
    rcases h5 with ⟨q1, q2, q3, q, q4, q5⟩ | ⟨q1, q2, q3, q5⟩ | ⟨q1, q2, q3, q, q4, q5⟩
    · refine ⟨nI N, fun post n hn hp => ?_, fun post n hn hp => ?_, Or.inr ⟨N, hN, rfl⟩⟩
      · obtain ⟨n, rfl⟩ : ∃ n', n = n' + 1 := ⟨n - 1, by omega⟩
        exact pk_le N k (fun _ => pk_eq c 2 (fun z => absurd z (by omega)) (fun _ => hp)) (fun z => absurd z (by omega))
      · obtain ⟨n, rfl⟩ : ∃ n', n = n' + 1 := ⟨n - 1, by omega⟩
        exact pk_le N k (fun _ => pk_lt 0 mi (fun _ => hp) (fun z => absurd z (by omega))) (fun z => absurd z (by omega))
    · refine ⟨nI N, fun post n hn hp => ?_, fun post n hn hp => ?_, Or.inr ⟨N, hN, rfl⟩⟩
      · obtain ⟨n, rfl⟩ : ∃ n', n = n' + 1 := ⟨n - 1, by omega⟩
        exact pk_le N k (fun _ => pk_eq c 2 (fun z => absurd z (by omega)) (fun _ => hp)) (fun z => absurd z (by omega))
      · obtain ⟨n, rfl⟩ : ∃ n', n = n' + 1 := ⟨n - 1, by omega⟩
        exact pk_le N k (fun _ => pk_lt 0 mi (fun z => absurd z (by omega)) (fun _ => br_f (by rw [q5]; decide) hp)) (fun z => absurd z (by omega))
    · refine ⟨-1, fun post n hn hp => ?_, fun post n hn hp => ?_, Or.inl ⟨rfl, by rw [if_pos q1]; rfl, fun t ht => absurd ht (by simp)⟩⟩
      · obtain ⟨n, rfl⟩ : ∃ n', n = n' + 1 := ⟨n - 1, by omega⟩
        exact pk_le N k (fun _ => pk_eq c 2 (fun _ => hp) (fun z => absurd q1 z)) (fun z => absurd z (by omega))
      · obtain ⟨n, rfl⟩ : ∃ n', n = n' + 1 := ⟨n - 1, by omega⟩
        exact pk_le N k (fun _ => pk_lt 0 mi (fun z => absurd z (by omega)) (fun _ => br_t (by rw [q5]; exact nI_pos' (by omega)) hp)) (fun z => absurd z (by omega))
  | t :: l, k, c, la, mi, rt, h1, h2, h3, h4, h5, h6 => by
    rw [List.length_cons] at h1 h6
    have htr := h4 t (List.mem_cons.mpr (Or.inl rfl))
    have hkd := fa_kind htr
    have har := tm_ar_le t
    have ek : (nI k).toNatClampNeg = k := nI_clamp (by omega)
    have hin : vp_in (nI k) 30 := vp_in_nI (by omega) (by omega)
    have ei : (240 : Int32) + nI k = nI (240 + k) := nI_add 240 k
    have hin2 : vp_in ((240 : Int32) + nI k) 270 := by rw [ei]; exact vp_in_nI (by omega) (by omega)
    have ec2 : ((240 : Int32) + nI k).toNatClampNeg = 240 + k := by rw [ei]; exact nI_clamp (by omega)
    by_cases hc2 : c = 2
    · rcases h5 with ⟨q1, _⟩ | ⟨q1, _⟩ | ⟨q1, q2, q3, q, q4, q5⟩
      · omega
      · omega
      refine ⟨nI k, fun post n hn hp => ?_, fun post n hn hp => ?_, Or.inr ⟨k, by omega, rfl⟩⟩
      · obtain ⟨n, rfl⟩ : ∃ n', n = n' + 1 := ⟨n - 1, by omega⟩
        exact pk_le N k (fun z => absurd z (by omega)) (fun _ => ⟨hin, nm_e (br_f (by decide) (pk_eq c 0 (fun z => absurd z (by omega)) (fun _ => br_t (by rw [hc2]; rfl) hp)))⟩)
      · obtain ⟨n, rfl⟩ : ∃ n', n = n' + 1 := ⟨n - 1, by omega⟩
        exact pk_le N k (fun z => absurd z (by omega)) (fun _ => ⟨hin2, nm_e ⟨hin2, nm_e (pk_eq mi 0 (fun _ => br_f (by rw [q5]; exact nI_pos (by omega)) hp) (fun z => absurd q3 z))⟩⟩)
    · have hc1 : c = 1 := by omega
      subst hc1
      have hla : 1 ≤ la := by omega
      obtain ⟨a, rfl⟩ : ∃ a, la = a + 1 := ⟨la - 1, by omega⟩
      -- the reference's numbers behind its first test
      have hYs : ∃ q, q < 100 ∧ ∀ (post : Int32 → Prop) (J : Int32 → Int32 → Int32 → Int32 → Int32 → Prop), wY_unfitRule_90 post J (nI N) (nI (a + 1)) (nI q) ni' has (nI k) (tk_kR t) (tk_vR t) f_place' f_count' f_top' f_done' f_open' f_steps' f_shownSteps' f_fault' f_in' f_made' f_old' f_size' f_heads' f_fresh' a_kind' a_value' a_all' a_split' a_toKind' a_doneKind' a_toValue' a_doneValue' a_begins' a_lacks' a_inKind' a_leftKind' a_madeKind' a_oldKind' a_resultKind' a_inValue' a_leftValue' a_madeValue' a_oldValue' a_resultValue' a_from' a_to' a_whole' a_known' a_bound' a_whose' a_rank' a_one' a_two' a_oneOf' a_twoOf' a_headAt' a_headOf' a_headLeft' a_pairs' a_first' → ((nI mi = 0 → ((rt < 0 → wY_unfitRule_81 post J (nI N) (nI mi) rt ni' has (nI k) (tk_kR t) (tk_vR t) f_place' f_count' f_top' f_done' f_open' f_steps' f_shownSteps' f_fault' f_in' f_made' f_old' f_size' f_heads' f_fresh' a_kind' a_value' a_all' a_split' a_toKind' a_doneKind' a_toValue' a_doneValue' a_begins' a_lacks' a_inKind' a_leftKind' a_madeKind' a_oldKind' a_resultKind' a_inValue' a_leftValue' a_madeValue' a_oldValue' a_resultValue' a_from' a_to' a_whole' a_known' a_bound' a_whose' a_rank' a_one' a_two' a_oneOf' a_twoOf' a_headAt' a_headOf' a_headLeft' a_pairs' a_first') ∧ (¬ rt < 0 → post (nI k)))) ∧ (¬ nI mi = 0 → wY_unfitRule_81 post J (nI N) (nI mi) rt ni' has (nI k) (tk_kR t) (tk_vR t) f_place' f_count' f_top' f_done' f_open' f_steps' f_shownSteps' f_fault' f_in' f_made' f_old' f_size' f_heads' f_fresh' a_kind' a_value' a_all' a_split' a_toKind' a_doneKind' a_toValue' a_doneValue' a_begins' a_lacks' a_inKind' a_leftKind' a_madeKind' a_oldKind' a_resultKind' a_inValue' a_leftValue' a_madeValue' a_oldValue' a_resultValue' a_from' a_to' a_whole' a_known' a_bound' a_whose' a_rank' a_one' a_two' a_oneOf' a_twoOf' a_headAt' a_headOf' a_headLeft' a_pairs' a_first')) := by
        rcases h5 with ⟨q1, q2, q3, q, q4, q5⟩ | ⟨q1, q2, q3, q5⟩ | ⟨q1, q2, q3, q, q4, q5⟩
        · subst q3 q5
          exact ⟨q, q4, fun post J hJ => br_f (nI_ne0 (by omega) (by omega)) (br_f (nI_ne0 (by omega) (by omega)) hJ)⟩
        · subst q3 q5
          have : a = 0 := by omega
          subst this
          exact ⟨k, by omega, fun post J hJ => br_t rfl (br_t (by decide) (br_t rfl hJ))⟩
        · omega
      obtain ⟨q, hq, hYq⟩ := hYs
      by_cases hok : t < 8589934592 ∨ bt seen (ru_slot t) = true
      · have next : ∃ c' la' mi', ((c' = 1 ∧ 1 ≤ la' ∧ mi' = la' ∧ ∃ z, z < 100 ∧ nI q = nI z) ∨ (c' = 1 ∧ la' = 1 ∧ mi' = 0 ∧ nI q = -1) ∨ (c' = 2 ∧ la' = 1 ∧ mi' = 0 ∧ ∃ z, z < 100 ∧ nI q = nI z)) ∧ la' + l.length ≤ 60 ∧ mi' = a + tm_ar t ∧ (if c' = 2 then 0 else la') = a + tm_ar t ∧ ((a + tm_ar t = 0 ∧ c' = 2 ∧ la' = 1) ∨ (a + tm_ar t ≠ 0 ∧ c' = 1 ∧ la' = a + tm_ar t)) := by
          by_cases h0 : a + tm_ar t = 0
          · exact ⟨2, 1, 0, Or.inr (Or.inr ⟨rfl, rfl, rfl, q, hq, rfl⟩), by omega, h0.symm, by rw [if_pos rfl]; exact h0.symm, Or.inl ⟨h0, rfl, rfl⟩⟩
          · exact ⟨1, a + tm_ar t, a + tm_ar t, Or.inl ⟨rfl, by omega, rfl, q, hq, rfl⟩, by omega, rfl, by rw [if_neg (by omega)], Or.inr ⟨h0, rfl, rfl⟩⟩
        obtain ⟨c', la', mi', n1, n2, n3, n4, n5⟩ := next
        obtain ⟨r, rX, rY, rG⟩ := fb_2 hN hni hsh l (k + 1) c' la' mi' (nI q) (by omega) h2.2 h3.2 (fun x hx => h4 x (List.mem_cons.mpr (Or.inr hx))) n1 n2
        refine ⟨r, fun post n hln hp => ?_, fun post n hln hp => ?_, ?_⟩
        · obtain ⟨n, rfl⟩ : ∃ n', n = n' + 1 := ⟨n - 1, by omega⟩
          rw [List.length_cons] at hln
          have tail : wX_faultOf_119 post (wX_faultOf_14 post 2 1 (nI N) f_faultPlace f_reportedSteps f_resultSize f_sheetSize f_waitingSize f_builtSize f_unfinished f_taken f_keptSize f_stacked f_ranked f_surveyed a_draft a_result a_lefts a_leftSize a_ways a_rights a_rightSize a_sheet a_waiting a_built a_unfinishedStart a_unfinishedLacks a_kept a_matchStart a_matchEnd a_joint a_unified a_oneStack a_otherStack a_nestedAt a_nestedEnd a_rank a_pairCount a_firstOpen n) 2 1 (nI 1) (nI (a + 1)) (nI ni) seen (nI k) t 0 (nI N) f_faultPlace f_reportedSteps f_resultSize f_sheetSize f_waitingSize f_builtSize f_unfinished f_taken f_keptSize f_stacked f_ranked f_surveyed a_draft a_result a_lefts a_leftSize a_ways a_rights a_rightSize a_sheet a_waiting a_built a_unfinishedStart a_unfinishedLacks a_kept a_matchStart a_matchEnd a_joint a_unified a_oneStack a_otherStack a_nestedAt a_nestedEnd a_rank a_pairCount a_firstOpen := by
            refine br_t rfl (nm_r (e' := nI ni) (Int32.add_zero _) (pk_le ni 4 (fun _ => tk_arX t (nm_r (ya_step a _) ?_)) (fun z => absurd z (by omega))))
            rcases n5 with ⟨q1, q2, q3⟩ | ⟨q1, q2, q3⟩
            · subst q2 q3
              exact pk_eq (a + tm_ar t) 0 (fun _ => nm_r (nI_1 1) (nm_r (nI_1 k) (rX post n (by omega) hp))) (fun z => absurd q1 z)
            · subst q2 q3
              exact pk_eq (a + tm_ar t) 0 (fun z => absurd z q1) (fun _ => nm_r (nI_1 k) (rX post n (by omega) hp))
          refine pk_le N k (fun z => absurd z (by omega)) (fun _ => ⟨hin, nm_r (e' := t) (by rw [ek]; exact h2.1) (br_f (by decide) (br_f (by decide) (br_f (by decide) (br_t rfl ?_))))⟩)
          by_cases hn : t < 8589934592
          · exact br_t hn tail
          · refine br_f hn (ru_slotX htr hn (nm_e (br_t rfl (nm_r (fb_or0 seen) (br_f ?_ tail)))))
            rw [fa_and0 (by have := ru_slot_lt htr hn; omega)]
            rcases hok with h | h
            · exact absurd h hn
            · rw [h]; decide
        · obtain ⟨n, rfl⟩ : ∃ n', n = n' + 1 := ⟨n - 1, by omega⟩
          rw [List.length_cons] at hln
          refine pk_le N k (fun z => absurd z (by omega)) (fun _ => ⟨hin2, nm_r (e' := tk_kR t) (by rw [ec2]; exact h3.1.1) ⟨hin2, nm_r (e' := tk_vR t) (by rw [ec2]; exact h3.1.2) (hYq post _ ?_)⟩⟩)
          have tail : ∀ z0 : Int32, (has &&& z0) = z0 → wY_unfitRule_109 post (wY_unfitRule_38 post (nI N) f_place' f_count' f_top' f_done' f_open' f_steps' f_shownSteps' f_fault' f_in' f_made' f_old' f_size' f_heads' f_fresh' a_kind' a_value' a_all' a_split' a_toKind' a_doneKind' a_toValue' a_doneValue' a_begins' a_lacks' a_inKind' a_leftKind' a_madeKind' a_oldKind' a_resultKind' a_inValue' a_leftValue' a_madeValue' a_oldValue' a_resultValue' a_from' a_to' a_whole' a_known' a_bound' a_whose' a_rank' a_one' a_two' a_oneOf' a_twoOf' a_headAt' a_headOf' a_headLeft' a_pairs' a_first' n) (nI N) (nI (a + 1)) (nI q) ni' has (nI k) (tk_kR t) (tk_vR t) z0 f_place' f_count' f_top' f_done' f_open' f_steps' f_shownSteps' f_fault' f_in' f_made' f_old' f_size' f_heads' f_fresh' a_kind' a_value' a_all' a_split' a_toKind' a_doneKind' a_toValue' a_doneValue' a_begins' a_lacks' a_inKind' a_leftKind' a_madeKind' a_oldKind' a_resultKind' a_inValue' a_leftValue' a_madeValue' a_oldValue' a_resultValue' a_from' a_to' a_whole' a_known' a_bound' a_whose' a_rank' a_one' a_two' a_oneOf' a_twoOf' a_headAt' a_headOf' a_headLeft' a_pairs' a_first' := by
            intro z0 hz
            refine br_t (nI_pos' (by omega)) (br_t hz (br_t (nI_pos' (by omega)) (tk_arR htr (nm_r (ya_step a _) (nm_r (nI_1 k) ?_)))))
            rw [← n3]
            exact rY post n (by omega) hp
          by_cases hn : t < 8589934592
          · exact br_t (hkd.mpr hn) (tail 0 (by simp))
          · refine br_f (fun z => hn (hkd.mp z)) ?_
            have hsl := ru_slot_lt htr hn
            rw [fb_idx htr hn]
            refine tail _ ?_
            rw [fa_and1 (by omega), ← hsh _ hsl]
            rcases hok with h | h
            · exact absurd h hn
            · exact h
        · rcases rG with ⟨g1, g2, g3⟩ | g
          · rw [n4] at g2
            refine Or.inl ⟨g1, ?_, fun x hx hx' => ?_⟩
            · rw [if_neg (by omega)]
              exact tm_w_cons.mpr g2
            · rcases List.mem_cons.mp hx with e | e
              · rw [e] at hx' ⊢
                rcases hok with h | h
                · exact absurd h hx'
                · exact h
              · exact g3 x e hx'
          · exact Or.inr g
      · have hn : ¬ t < 8589934592 := fun z => hok (Or.inl z)
        have hb : bt seen (ru_slot t) = false := by
          cases h : bt seen (ru_slot t)
          · rfl
          · exact absurd (Or.inr h) hok
        have hsl := ru_slot_lt htr hn
        refine ⟨nI k, fun post n hln hp => ?_, fun post n hln hp => ?_, Or.inr ⟨k, by omega, rfl⟩⟩
        · obtain ⟨n, rfl⟩ : ∃ n', n = n' + 1 := ⟨n - 1, by omega⟩
          refine pk_le N k (fun z => absurd z (by omega)) (fun _ => ⟨hin, nm_r (e' := t) (by rw [ek]; exact h2.1) (br_f (by decide) (br_f (by decide) (br_f (by decide) (br_t rfl ?_))))⟩)
          exact br_f hn (ru_slotX htr hn (nm_e (br_t rfl (nm_r (fb_or0 seen) (br_t ((fa_and0 (by omega)).mpr hb) hp)))))
        · obtain ⟨n, rfl⟩ : ∃ n', n = n' + 1 := ⟨n - 1, by omega⟩
          refine pk_le N k (fun z => absurd z (by omega)) (fun _ => ⟨hin2, nm_r (e' := tk_kR t) (by rw [ec2]; exact h3.1.1) ⟨hin2, nm_r (e' := tk_vR t) (by rw [ec2]; exact h3.1.2) (hYq post _ ?_)⟩⟩)
          refine br_f (fun z => hn (hkd.mp z)) (br_t (nI_pos' (by omega)) ?_)
          rw [fb_idx htr hn]
          refine br_f ?_ hp
          rw [fa_and1 (by omega), ← hsh _ hsl, hb]
          decide
end
