/-! the component: where terms end, the sheet, the exchange of arguments -/
section
variable {f_drafted f_faultPlace f_reportedSteps f_resultSize f_sheetSize f_waitingSize f_builtSize f_unfinished f_taken f_keptSize f_stacked f_ranked f_surveyed : Int32} {a_draft a_result a_lefts a_rights a_sheet a_waiting a_built a_kept a_joint : Nat → Int64} {a_leftSize a_ways a_rightSize a_unfinishedStart a_unfinishedLacks a_matchStart a_matchEnd a_unified a_oneStack a_otherStack a_nestedAt a_nestedEnd a_rank a_pairCount a_firstOpen : Nat → Int32}
theorem xe_lefts_l {post : Int32 → Prop} : ∀ (a r : List Int64) (m i n e q : Nat), e = i + a.length + r.length → q = i + a.length → tm_w a m → hd_h a_lefts i (a ++ r) → e ≤ 3840 → a.length < n → post (nI q) → wX_endOf__lefts_5 post (nI e) f_drafted f_faultPlace f_reportedSteps f_resultSize f_sheetSize f_waitingSize f_builtSize f_unfinished f_taken f_keptSize f_stacked f_ranked f_surveyed a_draft a_result a_lefts a_leftSize a_ways a_rights a_rightSize a_sheet a_waiting a_built a_unfinishedStart a_unfinishedLacks a_kept a_matchStart a_matchEnd a_joint a_unified a_oneStack a_otherStack a_nestedAt a_nestedEnd a_rank a_pairCount a_firstOpen n (nI m) (nI i)
  | [], r, m, i, n, e, q, he, hq, hw, hh, hl, hn, hp => by
    obtain ⟨n, rfl⟩ : ∃ n', n = n' + 1 := ⟨n - 1, by omega⟩
    rw [tm_w_nil] at hw
    subst hw
    have hq' : q = i := hq
    subst hq'
    refine pk_le e q (fun _ => hp) (fun _ => br_t (Int32.le_refl _) hp) rfl rfl (by omega) (by simp at he; omega)
  | t :: a, r, m, i, n, e, q, he, hq, hw, hh, hl, hn, hp => by
    obtain ⟨n, rfl⟩ : ∃ n', n = n' + 1 := ⟨n - 1, by omega⟩
    have hlen : (t :: a).length = a.length + 1 := rfl
    rw [hlen] at he hq hn
    have hml := tm_w_len _ _ hw
    obtain ⟨k, rfl, h1⟩ := tm_w_ne hw
    have hml2 := tm_w_len _ _ h1
    rw [hlen] at hml
    have et : a_lefts (nI i).toNatClampNeg = t := by rw [nI_clamp (by omega)]; exact hh.1
    have hin : vp_in (nI i) 3840 := vp_in_nI (by omega) (by omega)
    refine pk_le e i (fun z => absurd z (by omega)) (fun _ => ?_)
    refine pk_le (k + 1) 0 (fun z => absurd z (by omega)) (fun _ => ?_)
    refine ⟨hin, ?_⟩
    by_cases h4 : t < 4
    · have har : tm_ar t = 0 := by unfold tm_ar; rw [if_pos h4]
      rw [har] at h1
      exact br_t (by rw [et]; exact h4) (nm_r (pk_m1 k) (nm_r (nI_1 i) (xe_lefts_l a r k (i + 1) n e q (by omega) (by omega) h1 hh.2 hl (by omega) hp)))
    · refine br_f (by rw [et]; exact h4) ⟨hin, ?_⟩
      by_cases h12 : t < 12
      · refine br_t (by rw [et]; exact h12) ⟨hin, ?_⟩
        by_cases h7 : t < 7
        · have har : tm_ar t = 1 := by unfold tm_ar; rw [if_neg h4, if_pos h12, if_neg (by rw [Int64.not_le]; exact h7)]
          rw [har] at h1
          exact br_t (by rw [et]; exact h7) (nm_r (nI_1 i) (xe_lefts_l a r (k + 1) (i + 1) n e q (by omega) (by omega) h1 hh.2 hl (by omega) hp))
        · have har : tm_ar t = 2 := by unfold tm_ar; rw [if_neg h4, if_pos h12, if_pos (Int64.not_lt.mp h7)]
          rw [har] at h1
          exact br_f (by rw [et]; exact h7) (nm_r (nI_1 (k + 1)) (nm_r (nI_1 i) (xe_lefts_l a r (k + 2) (i + 1) n e q (by omega) (by omega) h1 hh.2 hl (by omega) hp)))
      · have har : tm_ar t = 0 := by unfold tm_ar; rw [if_neg h4, if_neg h12]
        rw [har] at h1
        exact br_f (by rw [et]; exact h12) (nm_r (pk_m1 k) (nm_r (nI_1 i) (xe_lefts_l a r k (i + 1) n e q (by omega) (by omega) h1 hh.2 hl (by omega) hp)))
theorem xe_lefts {post : Int32 → Prop} {a r : List Int64} (i e q : Nat) (hw : tm_w a 1) (hh : hd_h a_lefts i (a ++ r)) (he : e = i + a.length + r.length) (hq : q = i + a.length) (hl : e ≤ 3840) (hp : post (nI q)) : wpX_endOf__lefts post (f_drafted, f_faultPlace, f_reportedSteps, f_resultSize, f_sheetSize, f_waitingSize, f_builtSize, f_unfinished, f_taken, f_keptSize, f_stacked, f_ranked, f_surveyed, a_draft, a_result, a_lefts, a_leftSize, a_ways, a_rights, a_rightSize, a_sheet, a_waiting, a_built, a_unfinishedStart, a_unfinishedLacks, a_kept, a_matchStart, a_matchEnd, a_joint, a_unified, a_oneStack, a_otherStack, a_nestedAt, a_nestedEnd, a_rank, a_pairCount, a_firstOpen) (nI i) (nI e) :=
  ⟨a.length + 1, xe_lefts_l a r 1 i _ e q he hq hw hh hl (by omega) hp⟩
theorem xe_draft_l {post : Int32 → Prop} : ∀ (a r : List Int64) (m i n e q : Nat), e = i + a.length + r.length → q = i + a.length → tm_w a m → hd_h a_draft i (a ++ r) → e ≤ 30 → a.length < n → post (nI q) → wX_endOf__draft_5 post (nI e) f_drafted f_faultPlace f_reportedSteps f_resultSize f_sheetSize f_waitingSize f_builtSize f_unfinished f_taken f_keptSize f_stacked f_ranked f_surveyed a_draft a_result a_lefts a_leftSize a_ways a_rights a_rightSize a_sheet a_waiting a_built a_unfinishedStart a_unfinishedLacks a_kept a_matchStart a_matchEnd a_joint a_unified a_oneStack a_otherStack a_nestedAt a_nestedEnd a_rank a_pairCount a_firstOpen n (nI m) (nI i)
  | [], r, m, i, n, e, q, he, hq, hw, hh, hl, hn, hp => by
    obtain ⟨n, rfl⟩ : ∃ n', n = n' + 1 := ⟨n - 1, by omega⟩
    rw [tm_w_nil] at hw
    subst hw
    have hq' : q = i := hq
    subst hq'
    refine pk_le e q (fun _ => hp) (fun _ => br_t (Int32.le_refl _) hp) rfl rfl (by omega) (by simp at he; omega)
  | t :: a, r, m, i, n, e, q, he, hq, hw, hh, hl, hn, hp => by
    obtain ⟨n, rfl⟩ : ∃ n', n = n' + 1 := ⟨n - 1, by omega⟩
    have hlen : (t :: a).length = a.length + 1 := rfl
    rw [hlen] at he hq hn
    have hml := tm_w_len _ _ hw
    obtain ⟨k, rfl, h1⟩ := tm_w_ne hw
    have hml2 := tm_w_len _ _ h1
    rw [hlen] at hml
    have et : a_draft (nI i).toNatClampNeg = t := by rw [nI_clamp (by omega)]; exact hh.1
    have hin : vp_in (nI i) 30 := vp_in_nI (by omega) (by omega)
    refine pk_le e i (fun z => absurd z (by omega)) (fun _ => ?_)
    refine pk_le (k + 1) 0 (fun z => absurd z (by omega)) (fun _ => ?_)
    refine ⟨hin, ?_⟩
    by_cases h4 : t < 4
    · have har : tm_ar t = 0 := by unfold tm_ar; rw [if_pos h4]
      rw [har] at h1
      exact br_t (by rw [et]; exact h4) (nm_r (pk_m1 k) (nm_r (nI_1 i) (xe_draft_l a r k (i + 1) n e q (by omega) (by omega) h1 hh.2 hl (by omega) hp)))
    · refine br_f (by rw [et]; exact h4) ⟨hin, ?_⟩
      by_cases h12 : t < 12
      · refine br_t (by rw [et]; exact h12) ⟨hin, ?_⟩
        by_cases h7 : t < 7
        · have har : tm_ar t = 1 := by unfold tm_ar; rw [if_neg h4, if_pos h12, if_neg (by rw [Int64.not_le]; exact h7)]
          rw [har] at h1
          exact br_t (by rw [et]; exact h7) (nm_r (nI_1 i) (xe_draft_l a r (k + 1) (i + 1) n e q (by omega) (by omega) h1 hh.2 hl (by omega) hp))
        · have har : tm_ar t = 2 := by unfold tm_ar; rw [if_neg h4, if_pos h12, if_pos (Int64.not_lt.mp h7)]
          rw [har] at h1
          exact br_f (by rw [et]; exact h7) (nm_r (nI_1 (k + 1)) (nm_r (nI_1 i) (xe_draft_l a r (k + 2) (i + 1) n e q (by omega) (by omega) h1 hh.2 hl (by omega) hp)))
      · have har : tm_ar t = 0 := by unfold tm_ar; rw [if_neg h4, if_neg h12]
        rw [har] at h1
        exact br_f (by rw [et]; exact h12) (nm_r (pk_m1 k) (nm_r (nI_1 i) (xe_draft_l a r k (i + 1) n e q (by omega) (by omega) h1 hh.2 hl (by omega) hp)))
theorem xe_draft {post : Int32 → Prop} {a r : List Int64} (i e q : Nat) (hw : tm_w a 1) (hh : hd_h a_draft i (a ++ r)) (he : e = i + a.length + r.length) (hq : q = i + a.length) (hl : e ≤ 30) (hp : post (nI q)) : wpX_endOf__draft post (f_drafted, f_faultPlace, f_reportedSteps, f_resultSize, f_sheetSize, f_waitingSize, f_builtSize, f_unfinished, f_taken, f_keptSize, f_stacked, f_ranked, f_surveyed, a_draft, a_result, a_lefts, a_leftSize, a_ways, a_rights, a_rightSize, a_sheet, a_waiting, a_built, a_unfinishedStart, a_unfinishedLacks, a_kept, a_matchStart, a_matchEnd, a_joint, a_unified, a_oneStack, a_otherStack, a_nestedAt, a_nestedEnd, a_rank, a_pairCount, a_firstOpen) (nI i) (nI e) :=
  ⟨a.length + 1, xe_draft_l a r 1 i _ e q he hq hw hh hl (by omega) hp⟩
theorem xe_built_l {post : Int32 → Prop} : ∀ (a r : List Int64) (m i n e q : Nat), e = i + a.length + r.length → q = i + a.length → tm_w a m → hd_h a_built i (a ++ r) → e ≤ 2048 → a.length < n → post (nI q) → wX_endOf__built_5 post (nI e) f_drafted f_faultPlace f_reportedSteps f_resultSize f_sheetSize f_waitingSize f_builtSize f_unfinished f_taken f_keptSize f_stacked f_ranked f_surveyed a_draft a_result a_lefts a_leftSize a_ways a_rights a_rightSize a_sheet a_waiting a_built a_unfinishedStart a_unfinishedLacks a_kept a_matchStart a_matchEnd a_joint a_unified a_oneStack a_otherStack a_nestedAt a_nestedEnd a_rank a_pairCount a_firstOpen n (nI m) (nI i)
  | [], r, m, i, n, e, q, he, hq, hw, hh, hl, hn, hp => by
    obtain ⟨n, rfl⟩ : ∃ n', n = n' + 1 := ⟨n - 1, by omega⟩
    rw [tm_w_nil] at hw
    subst hw
    have hq' : q = i := hq
    subst hq'
    refine pk_le e q (fun _ => hp) (fun _ => br_t (Int32.le_refl _) hp) rfl rfl (by omega) (by simp at he; omega)
  | t :: a, r, m, i, n, e, q, he, hq, hw, hh, hl, hn, hp => by
    obtain ⟨n, rfl⟩ : ∃ n', n = n' + 1 := ⟨n - 1, by omega⟩
    have hlen : (t :: a).length = a.length + 1 := rfl
    rw [hlen] at he hq hn
    have hml := tm_w_len _ _ hw
    obtain ⟨k, rfl, h1⟩ := tm_w_ne hw
    have hml2 := tm_w_len _ _ h1
    rw [hlen] at hml
    have et : a_built (nI i).toNatClampNeg = t := by rw [nI_clamp (by omega)]; exact hh.1
    have hin : vp_in (nI i) 2048 := vp_in_nI (by omega) (by omega)
    refine pk_le e i (fun z => absurd z (by omega)) (fun _ => ?_)
    refine pk_le (k + 1) 0 (fun z => absurd z (by omega)) (fun _ => ?_)
    refine ⟨hin, ?_⟩
    by_cases h4 : t < 4
    · have har : tm_ar t = 0 := by unfold tm_ar; rw [if_pos h4]
      rw [har] at h1
      exact br_t (by rw [et]; exact h4) (nm_r (pk_m1 k) (nm_r (nI_1 i) (xe_built_l a r k (i + 1) n e q (by omega) (by omega) h1 hh.2 hl (by omega) hp)))
    · refine br_f (by rw [et]; exact h4) ⟨hin, ?_⟩
      by_cases h12 : t < 12
      · refine br_t (by rw [et]; exact h12) ⟨hin, ?_⟩
        by_cases h7 : t < 7
        · have har : tm_ar t = 1 := by unfold tm_ar; rw [if_neg h4, if_pos h12, if_neg (by rw [Int64.not_le]; exact h7)]
          rw [har] at h1
          exact br_t (by rw [et]; exact h7) (nm_r (nI_1 i) (xe_built_l a r (k + 1) (i + 1) n e q (by omega) (by omega) h1 hh.2 hl (by omega) hp))
        · have har : tm_ar t = 2 := by unfold tm_ar; rw [if_neg h4, if_pos h12, if_pos (Int64.not_lt.mp h7)]
          rw [har] at h1
          exact br_f (by rw [et]; exact h7) (nm_r (nI_1 (k + 1)) (nm_r (nI_1 i) (xe_built_l a r (k + 2) (i + 1) n e q (by omega) (by omega) h1 hh.2 hl (by omega) hp)))
      · have har : tm_ar t = 0 := by unfold tm_ar; rw [if_neg h4, if_neg h12]
        rw [har] at h1
        exact br_f (by rw [et]; exact h12) (nm_r (pk_m1 k) (nm_r (nI_1 i) (xe_built_l a r k (i + 1) n e q (by omega) (by omega) h1 hh.2 hl (by omega) hp)))
theorem xe_built {post : Int32 → Prop} {a r : List Int64} (i e q : Nat) (hw : tm_w a 1) (hh : hd_h a_built i (a ++ r)) (he : e = i + a.length + r.length) (hq : q = i + a.length) (hl : e ≤ 2048) (hp : post (nI q)) : wpX_endOf__built post (f_drafted, f_faultPlace, f_reportedSteps, f_resultSize, f_sheetSize, f_waitingSize, f_builtSize, f_unfinished, f_taken, f_keptSize, f_stacked, f_ranked, f_surveyed, a_draft, a_result, a_lefts, a_leftSize, a_ways, a_rights, a_rightSize, a_sheet, a_waiting, a_built, a_unfinishedStart, a_unfinishedLacks, a_kept, a_matchStart, a_matchEnd, a_joint, a_unified, a_oneStack, a_otherStack, a_nestedAt, a_nestedEnd, a_rank, a_pairCount, a_firstOpen) (nI i) (nI e) :=
  ⟨a.length + 1, xe_built_l a r 1 i _ e q he hq hw hh hl (by omega) hp⟩
theorem xe_joint_l {post : Int32 → Prop} : ∀ (a r : List Int64) (m i n e q : Nat), e = i + a.length + r.length → q = i + a.length → tm_w a m → hd_h a_joint i (a ++ r) → e ≤ 60 → a.length < n → post (nI q) → wX_endOf__joint_5 post (nI e) f_drafted f_faultPlace f_reportedSteps f_resultSize f_sheetSize f_waitingSize f_builtSize f_unfinished f_taken f_keptSize f_stacked f_ranked f_surveyed a_draft a_result a_lefts a_leftSize a_ways a_rights a_rightSize a_sheet a_waiting a_built a_unfinishedStart a_unfinishedLacks a_kept a_matchStart a_matchEnd a_joint a_unified a_oneStack a_otherStack a_nestedAt a_nestedEnd a_rank a_pairCount a_firstOpen n (nI m) (nI i)
  | [], r, m, i, n, e, q, he, hq, hw, hh, hl, hn, hp => by
    obtain ⟨n, rfl⟩ : ∃ n', n = n' + 1 := ⟨n - 1, by omega⟩
    rw [tm_w_nil] at hw
    subst hw
    have hq' : q = i := hq
    subst hq'
    refine pk_le e q (fun _ => hp) (fun _ => br_t (Int32.le_refl _) hp) rfl rfl (by omega) (by simp at he; omega)
  | t :: a, r, m, i, n, e, q, he, hq, hw, hh, hl, hn, hp => by
    obtain ⟨n, rfl⟩ : ∃ n', n = n' + 1 := ⟨n - 1, by omega⟩
    have hlen : (t :: a).length = a.length + 1 := rfl
    rw [hlen] at he hq hn
    have hml := tm_w_len _ _ hw
    obtain ⟨k, rfl, h1⟩ := tm_w_ne hw
    have hml2 := tm_w_len _ _ h1
    rw [hlen] at hml
    have et : a_joint (nI i).toNatClampNeg = t := by rw [nI_clamp (by omega)]; exact hh.1
    have hin : vp_in (nI i) 60 := vp_in_nI (by omega) (by omega)
    refine pk_le e i (fun z => absurd z (by omega)) (fun _ => ?_)
    refine pk_le (k + 1) 0 (fun z => absurd z (by omega)) (fun _ => ?_)
    refine ⟨hin, ?_⟩
    by_cases h4 : t < 4
    · have har : tm_ar t = 0 := by unfold tm_ar; rw [if_pos h4]
      rw [har] at h1
      exact br_t (by rw [et]; exact h4) (nm_r (pk_m1 k) (nm_r (nI_1 i) (xe_joint_l a r k (i + 1) n e q (by omega) (by omega) h1 hh.2 hl (by omega) hp)))
    · refine br_f (by rw [et]; exact h4) ⟨hin, ?_⟩
      by_cases h12 : t < 12
      · refine br_t (by rw [et]; exact h12) ⟨hin, ?_⟩
        by_cases h7 : t < 7
        · have har : tm_ar t = 1 := by unfold tm_ar; rw [if_neg h4, if_pos h12, if_neg (by rw [Int64.not_le]; exact h7)]
          rw [har] at h1
          exact br_t (by rw [et]; exact h7) (nm_r (nI_1 i) (xe_joint_l a r (k + 1) (i + 1) n e q (by omega) (by omega) h1 hh.2 hl (by omega) hp))
        · have har : tm_ar t = 2 := by unfold tm_ar; rw [if_neg h4, if_pos h12, if_pos (Int64.not_lt.mp h7)]
          rw [har] at h1
          exact br_f (by rw [et]; exact h7) (nm_r (nI_1 (k + 1)) (nm_r (nI_1 i) (xe_joint_l a r (k + 2) (i + 1) n e q (by omega) (by omega) h1 hh.2 hl (by omega) hp)))
      · have har : tm_ar t = 0 := by unfold tm_ar; rw [if_neg h4, if_neg h12]
        rw [har] at h1
        exact br_f (by rw [et]; exact h12) (nm_r (pk_m1 k) (nm_r (nI_1 i) (xe_joint_l a r k (i + 1) n e q (by omega) (by omega) h1 hh.2 hl (by omega) hp)))
theorem xe_joint {post : Int32 → Prop} {a r : List Int64} (i e q : Nat) (hw : tm_w a 1) (hh : hd_h a_joint i (a ++ r)) (he : e = i + a.length + r.length) (hq : q = i + a.length) (hl : e ≤ 60) (hp : post (nI q)) : wpX_endOf__joint post (f_drafted, f_faultPlace, f_reportedSteps, f_resultSize, f_sheetSize, f_waitingSize, f_builtSize, f_unfinished, f_taken, f_keptSize, f_stacked, f_ranked, f_surveyed, a_draft, a_result, a_lefts, a_leftSize, a_ways, a_rights, a_rightSize, a_sheet, a_waiting, a_built, a_unfinishedStart, a_unfinishedLacks, a_kept, a_matchStart, a_matchEnd, a_joint, a_unified, a_oneStack, a_otherStack, a_nestedAt, a_nestedEnd, a_rank, a_pairCount, a_firstOpen) (nI i) (nI e) :=
  ⟨a.length + 1, xe_joint_l a r 1 i _ e q he hq hw hh hl (by omega) hp⟩
theorem xw_put {post : SX → Prop} {k : Nat} {t : Int64} (hk : k < 31) (h : post (f_drafted, f_faultPlace, f_reportedSteps, f_resultSize, nI (k + 1), f_waitingSize, f_builtSize, f_unfinished, f_taken, f_keptSize, f_stacked, f_ranked, f_surveyed, a_draft, a_result, a_lefts, a_leftSize, a_ways, a_rights, a_rightSize, vp_updL a_sheet k t, a_waiting, a_built, a_unfinishedStart, a_unfinishedLacks, a_kept, a_matchStart, a_matchEnd, a_joint, a_unified, a_oneStack, a_otherStack, a_nestedAt, a_nestedEnd, a_rank, a_pairCount, a_firstOpen)) : wpX_write post (f_drafted, f_faultPlace, f_reportedSteps, f_resultSize, nI k, f_waitingSize, f_builtSize, f_unfinished, f_taken, f_keptSize, f_stacked, f_ranked, f_surveyed, a_draft, a_result, a_lefts, a_leftSize, a_ways, a_rights, a_rightSize, a_sheet, a_waiting, a_built, a_unfinishedStart, a_unfinishedLacks, a_kept, a_matchStart, a_matchEnd, a_joint, a_unified, a_oneStack, a_otherStack, a_nestedAt, a_nestedEnd, a_rank, a_pairCount, a_firstOpen) t := by
  refine pk_le 31 k (fun z => absurd z (by omega)) (fun _ => ⟨vp_in_nI hk (by omega), ?_⟩)
  refine nm_r (e' := vp_updL a_sheet k t) (by rw [nI_clamp (by omega)]) (nm_r (nI_1 k) h)
theorem xw_full {post : SX → Prop} {k : Nat} {t : Int64} (hk : 31 ≤ k) (hk2 : k < 100) (h : post (f_drafted, f_faultPlace, f_reportedSteps, f_resultSize, nI k, f_waitingSize, f_builtSize, f_unfinished, f_taken, f_keptSize, f_stacked, f_ranked, f_surveyed, a_draft, a_result, a_lefts, a_leftSize, a_ways, a_rights, a_rightSize, a_sheet, a_waiting, a_built, a_unfinishedStart, a_unfinishedLacks, a_kept, a_matchStart, a_matchEnd, a_joint, a_unified, a_oneStack, a_otherStack, a_nestedAt, a_nestedEnd, a_rank, a_pairCount, a_firstOpen)) : wpX_write post (f_drafted, f_faultPlace, f_reportedSteps, f_resultSize, nI k, f_waitingSize, f_builtSize, f_unfinished, f_taken, f_keptSize, f_stacked, f_ranked, f_surveyed, a_draft, a_result, a_lefts, a_leftSize, a_ways, a_rights, a_rightSize, a_sheet, a_waiting, a_built, a_unfinishedStart, a_unfinishedLacks, a_kept, a_matchStart, a_matchEnd, a_joint, a_unified, a_oneStack, a_otherStack, a_nestedAt, a_nestedEnd, a_rank, a_pairCount, a_firstOpen) t :=
  pk_le 31 k (fun _ => h) (fun z => absurd z (by omega))
theorem xx_lefts_78 {post : SX → Prop} {a0 : Nat → Int64} {q : List Int64} {s : Nat} (hs : s + 1 + q.length ≤ 3840) (hq31 : q.length ≤ 31) (hsh : hd_h a_sheet 0 q) (H : ∀ z, hd_h z (s + 1) q → hd_o a0 z (s + 1) q.length → post (f_drafted, f_faultPlace, f_reportedSteps, f_resultSize, nI q.length, f_waitingSize, f_builtSize, f_unfinished, f_taken, f_keptSize, f_stacked, f_ranked, f_surveyed, a_draft, a_result, z, a_leftSize, a_ways, a_rights, a_rightSize, a_sheet, a_waiting, a_built, a_unfinishedStart, a_unfinishedLacks, a_kept, a_matchStart, a_matchEnd, a_joint, a_unified, a_oneStack, a_otherStack, a_nestedAt, a_nestedEnd, a_rank, a_pairCount, a_firstOpen)) : ∀ (q2 q1 : List Int64) (zb : Nat → Int64) (n : Nat), q = q1 ++ q2 → hd_h zb (s + 1) q1 → hd_o a0 zb (s + 1) q1.length → q2.length < n → wX_exchangeArguments__lefts_78 post (nI s) (nI (s + 1 + q.length)) f_drafted f_faultPlace f_reportedSteps f_resultSize (nI q.length) f_waitingSize f_builtSize f_unfinished f_taken f_keptSize f_stacked f_ranked f_surveyed n (nI q1.length) a_draft a_result zb a_leftSize a_ways a_rights a_rightSize a_sheet a_waiting a_built a_unfinishedStart a_unfinishedLacks a_kept a_matchStart a_matchEnd a_joint a_unified a_oneStack a_otherStack a_nestedAt a_nestedEnd a_rank a_pairCount a_firstOpen
  | [], q1, zb, n, e, h1, h2, hn => by
    obtain ⟨n, rfl⟩ : ∃ n', n = n' + 1 := ⟨n - 1, by omega⟩
    rw [List.append_nil] at e
    subst e
    exact pk_le q.length q.length (fun _ => H zb h1 h2) (fun z => absurd z (by omega))
  | t :: q2, q1, zb, n, e, h1, h2, hn => by
    obtain ⟨n, rfl⟩ : ∃ n', n = n' + 1 := ⟨n - 1, by omega⟩
    have hlen : q.length = q1.length + (q2.length + 1) := by rw [e, List.length_append]; rfl
    rw [List.length_cons] at hn
    refine pk_le q.length q1.length (fun z => absurd z (by omega)) (fun _ => ?_)
    have e1 : nI s + 1 + nI q1.length = nI (s + 1 + q1.length) := by rw [nI_1, nI_add]
    refine pk_le (s + 1 + q.length) (s + 1 + q1.length) (fun z => absurd z (by omega)) (fun _ => ?_) rfl e1
    refine ⟨vp_in_nI (by omega) (by omega), ?_, ?_⟩
    · rw [e1]; exact vp_in_nI (by omega) (by omega)
    · have et : a_sheet q1.length = t := by
        have hh := hsh
        rw [e] at hh
        have := (hd_app.mp hh).2.1
        rwa [Nat.zero_add] at this
      refine nm_r (e' := vp_updL zb (s + 1 + q1.length) t) (by rw [e1, nI_clamp (by omega), nI_clamp (by omega), et]) (nm_r (e' := nI (q1 ++ [t]).length) (by rw [List.length_append]; exact nI_1 _) ?_)
      refine xx_lefts_78 hs hq31 hsh H q2 (q1 ++ [t]) _ n (by rw [e, List.append_assoc]; rfl) (hd_snocL h1) ?_ (by omega)
      intro j hj
      rw [List.length_append, List.length_singleton] at hj
      rw [pk_uLn (by omega)]
      exact h2 j (by omega)
theorem xx_lefts_54 {post : SX → Prop} {s mid e : Nat} (hm : e ≤ 3840) (hmid : mid ≤ e) (B : List Int64) : ∀ (A2 A1 : List Int64) (zs : Nat → Int64) (n : Nat), (B ++ (A1 ++ A2)).length ≤ 31 → mid = s + 1 + A1.length + A2.length → hd_h a_lefts (s + 1 + A1.length) A2 → hd_h zs 0 (B ++ A1) → A2.length < n → (∀ z, hd_h z 0 (B ++ (A1 ++ A2)) → ∃ n78, wX_exchangeArguments__lefts_78 post (nI s) (nI e) f_drafted f_faultPlace f_reportedSteps f_resultSize (nI (B ++ (A1 ++ A2)).length) f_waitingSize f_builtSize f_unfinished f_taken f_keptSize f_stacked f_ranked f_surveyed n78 0 a_draft a_result a_lefts a_leftSize a_ways a_rights a_rightSize z a_waiting a_built a_unfinishedStart a_unfinishedLacks a_kept a_matchStart a_matchEnd a_joint a_unified a_oneStack a_otherStack a_nestedAt a_nestedEnd a_rank a_pairCount a_firstOpen) → wX_exchangeArguments__lefts_54 post (nI s) (nI mid) (nI e) n (nI (s + 1 + A1.length)) f_drafted f_faultPlace f_reportedSteps f_resultSize (nI (B ++ A1).length) f_waitingSize f_builtSize f_unfinished f_taken f_keptSize f_stacked f_ranked f_surveyed a_draft a_result a_lefts a_leftSize a_ways a_rights a_rightSize zs a_waiting a_built a_unfinishedStart a_unfinishedLacks a_kept a_matchStart a_matchEnd a_joint a_unified a_oneStack a_otherStack a_nestedAt a_nestedEnd a_rank a_pairCount a_firstOpen
  | [], A1, zs, n, hl, hmi, ha, hz, hn, H => by
    obtain ⟨n, rfl⟩ : ∃ n', n = n' + 1 := ⟨n - 1, by omega⟩
    rw [List.append_nil] at H
    rw [List.length_nil, Nat.add_zero] at hmi
    exact pk_le mid (s + 1 + A1.length) (fun _ => H zs hz) (fun z => absurd z (by omega))
  | t :: A2, A1, zs, n, hl, hmi, ha, hz, hn, H => by
    obtain ⟨n, rfl⟩ : ∃ n', n = n' + 1 := ⟨n - 1, by omega⟩
    rw [List.length_cons] at hmi hn
    have hl2 : (B ++ A1).length + (A2.length + 1) ≤ 31 := by simp only [List.length_append, List.length_cons] at hl ⊢; omega
    refine pk_le mid (s + 1 + A1.length) (fun z => absurd z (by omega)) (fun _ => ⟨vp_in_nI (by omega) (by omega), ?_⟩)
    have et : a_lefts (nI (s + 1 + A1.length)).toNatClampNeg = t := by rw [nI_clamp (by omega)]; exact ha.1
    rw [et]
    refine xw_put (by omega) (nm_r (nI_1 _) ?_)
    have e1 : (B ++ A1).length + 1 = (B ++ (A1 ++ [t])).length := by simp only [List.length_append, List.length_singleton]; omega
    have e2 : s + 1 + A1.length + 1 = s + 1 + (A1 ++ [t]).length := by simp only [List.length_append, List.length_singleton]; omega
    have e3 : A1 ++ t :: A2 = (A1 ++ [t]) ++ A2 := by rw [List.append_assoc]; rfl
    rw [e1, e2]
    refine xx_lefts_54 hm hmid B A2 (A1 ++ [t]) _ n (by rw [← e3]; exact hl) (by rw [List.length_append, List.length_singleton]; omega) (by rw [← e2]; exact ha.2) ?_ (by omega) (by rw [← e3]; exact H)
    rw [← List.append_assoc]
    have := hd_snocL (x := t) hz
    rwa [Nat.zero_add] at this
theorem xx_lefts_28 {post : SX → Prop} {s mid e : Nat} (hm : e ≤ 3840) : ∀ (B2 B1 : List Int64) (zs : Nat → Int64) (n : Nat), (B1 ++ B2).length ≤ 31 → e = mid + B1.length + B2.length → hd_h a_lefts (mid + B1.length) B2 → hd_h zs 0 B1 → B2.length < n → (∀ z, hd_h z 0 (B1 ++ B2) → ∃ n54, wX_exchangeArguments__lefts_54 post (nI s) (nI mid) (nI e) n54 (nI (s + 1)) f_drafted f_faultPlace f_reportedSteps f_resultSize (nI (B1 ++ B2).length) f_waitingSize f_builtSize f_unfinished f_taken f_keptSize f_stacked f_ranked f_surveyed a_draft a_result a_lefts a_leftSize a_ways a_rights a_rightSize z a_waiting a_built a_unfinishedStart a_unfinishedLacks a_kept a_matchStart a_matchEnd a_joint a_unified a_oneStack a_otherStack a_nestedAt a_nestedEnd a_rank a_pairCount a_firstOpen) → wX_exchangeArguments__lefts_28 post (nI s) (nI mid) (nI e) n (nI (mid + B1.length)) f_drafted f_faultPlace f_reportedSteps f_resultSize (nI B1.length) f_waitingSize f_builtSize f_unfinished f_taken f_keptSize f_stacked f_ranked f_surveyed a_draft a_result a_lefts a_leftSize a_ways a_rights a_rightSize zs a_waiting a_built a_unfinishedStart a_unfinishedLacks a_kept a_matchStart a_matchEnd a_joint a_unified a_oneStack a_otherStack a_nestedAt a_nestedEnd a_rank a_pairCount a_firstOpen
  | [], B1, zs, n, hl, hmi, ha, hz, hn, H => by
    obtain ⟨n, rfl⟩ : ∃ n', n = n' + 1 := ⟨n - 1, by omega⟩
    rw [List.append_nil] at H
    rw [List.length_nil, Nat.add_zero] at hmi
    exact pk_le e (mid + B1.length) (fun _ => nm_r (nI_1 s) (H zs hz)) (fun z => absurd z (by omega))
  | t :: B2, B1, zs, n, hl, hmi, ha, hz, hn, H => by
    obtain ⟨n, rfl⟩ : ∃ n', n = n' + 1 := ⟨n - 1, by omega⟩
    rw [List.length_cons] at hmi hn
    have hl2 : B1.length + (B2.length + 1) ≤ 31 := by simp only [List.length_append, List.length_cons] at hl; omega
    refine pk_le e (mid + B1.length) (fun z => absurd z (by omega)) (fun _ => ⟨vp_in_nI (by omega) (by omega), ?_⟩)
    have et : a_lefts (nI (mid + B1.length)).toNatClampNeg = t := by rw [nI_clamp (by omega)]; exact ha.1
    rw [et]
    refine xw_put (by omega) (nm_r (nI_1 _) ?_)
    have e1 : B1.length + 1 = (B1 ++ [t]).length := by simp only [List.length_append, List.length_singleton]
    have e2 : mid + B1.length + 1 = mid + (B1 ++ [t]).length := by simp only [List.length_append, List.length_singleton]; omega
    have e3 : B1 ++ t :: B2 = (B1 ++ [t]) ++ B2 := by rw [List.append_assoc]; rfl
    rw [e2, e1]
    refine xx_lefts_28 hm B2 (B1 ++ [t]) _ n (by rw [← e3]; exact hl) (by rw [List.length_append, List.length_singleton]; omega) (by rw [← e2]; exact ha.2) ?_ (by omega) (by rw [← e3]; exact H)
    have := hd_snocL (x := t) hz
    rwa [Nat.zero_add] at this
theorem xx_lefts {post : SX → Prop} {A B r : List Int64} (s e : Nat) (hA : tm_w A 1) (hB : tm_w B 1) (hh : hd_h a_lefts (s + 1) (A ++ (B ++ r))) (he : e = s + 1 + (A.length + (B.length + r.length))) (hl : e ≤ 3840) (h31 : A.length + B.length ≤ 31) (H : ∀ zs zb, hd_h zb (s + 1) (B ++ A) → hd_o a_lefts zb (s + 1) (B ++ A).length → post (f_drafted, f_faultPlace, f_reportedSteps, f_resultSize, nI (B ++ A).length, f_waitingSize, f_builtSize, f_unfinished, f_taken, f_keptSize, f_stacked, f_ranked, f_surveyed, a_draft, a_result, zb, a_leftSize, a_ways, a_rights, a_rightSize, zs, a_waiting, a_built, a_unfinishedStart, a_unfinishedLacks, a_kept, a_matchStart, a_matchEnd, a_joint, a_unified, a_oneStack, a_otherStack, a_nestedAt, a_nestedEnd, a_rank, a_pairCount, a_firstOpen)) : wpX_exchangeArguments__lefts post (f_drafted, f_faultPlace, f_reportedSteps, f_resultSize, f_sheetSize, f_waitingSize, f_builtSize, f_unfinished, f_taken, f_keptSize, f_stacked, f_ranked, f_surveyed, a_draft, a_result, a_lefts, a_leftSize, a_ways, a_rights, a_rightSize, a_sheet, a_waiting, a_built, a_unfinishedStart, a_unfinishedLacks, a_kept, a_matchStart, a_matchEnd, a_joint, a_unified, a_oneStack, a_otherStack, a_nestedAt, a_nestedEnd, a_rank, a_pairCount, a_firstOpen) (nI s) (nI e) := by
  unfold wpX_exchangeArguments__lefts
  dsimp only
  rw [nI_1]
  have hBr := (hd_app.mp hh).2
  refine xe_lefts (s + 1) e (s + 1 + A.length) hA hh (by rw [List.length_append]; omega) rfl hl ?_
  refine xe_lefts (s + 1 + A.length) e (s + 1 + A.length + B.length) hB hBr (by omega) rfl hl ?_
  have hlAB : (B ++ A).length = B.length + A.length := List.length_append
  refine ⟨B.length + 1, ?_⟩
  refine xx_lefts_28 (s := s) (mid := s + 1 + A.length) (e := s + 1 + A.length + B.length) (by omega) B [] a_sheet _ (by rw [List.nil_append]; omega) rfl (hd_app.mp hBr).1 trivial (by omega) ?_
  intro z hz
  rw [List.nil_append] at hz ⊢
  refine ⟨A.length + 1, ?_⟩
  have hz' : hd_h z 0 (B ++ []) := by rw [List.append_nil]; exact hz
  rw [show nI B.length = nI (B ++ []).length by rw [List.append_nil]]
  refine xx_lefts_54 (s := s) (mid := s + 1 + A.length) (e := s + 1 + A.length + B.length) (by omega) (by omega) B A [] z (A.length + 1) (by rw [List.nil_append]; omega) rfl (hd_app.mp hh).1 hz' (by omega) ?_
  intro z2 hz2
  rw [List.nil_append] at hz2 ⊢
  refine ⟨(B ++ A).length + 1, ?_⟩
  rw [show s + 1 + A.length + B.length = s + 1 + (B ++ A).length by omega]
  exact xx_lefts_78 (post := post) (a0 := a_lefts) (q := B ++ A) (s := s) (by omega) (by omega) hz2 (fun z3 h1 h2 => H z2 z3 h1 h2) (B ++ A) [] a_lefts ((B ++ A).length + 1) rfl trivial (fun j _ => rfl) (by omega)
theorem xx_built_78 {post : SX → Prop} {a0 : Nat → Int64} {q : List Int64} {s : Nat} (hs : s + 1 + q.length ≤ 2048) (hq31 : q.length ≤ 31) (hsh : hd_h a_sheet 0 q) (H : ∀ z, hd_h z (s + 1) q → hd_o a0 z (s + 1) q.length → post (f_drafted, f_faultPlace, f_reportedSteps, f_resultSize, nI q.length, f_waitingSize, f_builtSize, f_unfinished, f_taken, f_keptSize, f_stacked, f_ranked, f_surveyed, a_draft, a_result, a_lefts, a_leftSize, a_ways, a_rights, a_rightSize, a_sheet, a_waiting, z, a_unfinishedStart, a_unfinishedLacks, a_kept, a_matchStart, a_matchEnd, a_joint, a_unified, a_oneStack, a_otherStack, a_nestedAt, a_nestedEnd, a_rank, a_pairCount, a_firstOpen)) : ∀ (q2 q1 : List Int64) (zb : Nat → Int64) (n : Nat), q = q1 ++ q2 → hd_h zb (s + 1) q1 → hd_o a0 zb (s + 1) q1.length → q2.length < n → wX_exchangeArguments__built_78 post (nI s) (nI (s + 1 + q.length)) f_drafted f_faultPlace f_reportedSteps f_resultSize (nI q.length) f_waitingSize f_builtSize f_unfinished f_taken f_keptSize f_stacked f_ranked f_surveyed n (nI q1.length) a_draft a_result a_lefts a_leftSize a_ways a_rights a_rightSize a_sheet a_waiting zb a_unfinishedStart a_unfinishedLacks a_kept a_matchStart a_matchEnd a_joint a_unified a_oneStack a_otherStack a_nestedAt a_nestedEnd a_rank a_pairCount a_firstOpen
  | [], q1, zb, n, e, h1, h2, hn => by
    obtain ⟨n, rfl⟩ : ∃ n', n = n' + 1 := ⟨n - 1, by omega⟩
    rw [List.append_nil] at e
    subst e
    exact pk_le q.length q.length (fun _ => H zb h1 h2) (fun z => absurd z (by omega))
  | t :: q2, q1, zb, n, e, h1, h2, hn => by
    obtain ⟨n, rfl⟩ : ∃ n', n = n' + 1 := ⟨n - 1, by omega⟩
    have hlen : q.length = q1.length + (q2.length + 1) := by rw [e, List.length_append]; rfl
    rw [List.length_cons] at hn
    refine pk_le q.length q1.length (fun z => absurd z (by omega)) (fun _ => ?_)
    have e1 : nI s + 1 + nI q1.length = nI (s + 1 + q1.length) := by rw [nI_1, nI_add]
    refine pk_le (s + 1 + q.length) (s + 1 + q1.length) (fun z => absurd z (by omega)) (fun _ => ?_) rfl e1
    refine ⟨vp_in_nI (by omega) (by omega), ?_, ?_⟩
    · rw [e1]; exact vp_in_nI (by omega) (by omega)
    · have et : a_sheet q1.length = t := by
        have hh := hsh
        rw [e] at hh
        have := (hd_app.mp hh).2.1
        rwa [Nat.zero_add] at this
      refine nm_r (e' := vp_updL zb (s + 1 + q1.length) t) (by rw [e1, nI_clamp (by omega), nI_clamp (by omega), et]) (nm_r (e' := nI (q1 ++ [t]).length) (by rw [List.length_append]; exact nI_1 _) ?_)
      refine xx_built_78 hs hq31 hsh H q2 (q1 ++ [t]) _ n (by rw [e, List.append_assoc]; rfl) (hd_snocL h1) ?_ (by omega)
      intro j hj
      rw [List.length_append, List.length_singleton] at hj
      rw [pk_uLn (by omega)]
      exact h2 j (by omega)
theorem xx_built_54 {post : SX → Prop} {s mid e : Nat} (hm : e ≤ 2048) (hmid : mid ≤ e) (B : List Int64) : ∀ (A2 A1 : List Int64) (zs : Nat → Int64) (n : Nat), (B ++ (A1 ++ A2)).length ≤ 31 → mid = s + 1 + A1.length + A2.length → hd_h a_built (s + 1 + A1.length) A2 → hd_h zs 0 (B ++ A1) → A2.length < n → (∀ z, hd_h z 0 (B ++ (A1 ++ A2)) → ∃ n78, wX_exchangeArguments__built_78 post (nI s) (nI e) f_drafted f_faultPlace f_reportedSteps f_resultSize (nI (B ++ (A1 ++ A2)).length) f_waitingSize f_builtSize f_unfinished f_taken f_keptSize f_stacked f_ranked f_surveyed n78 0 a_draft a_result a_lefts a_leftSize a_ways a_rights a_rightSize z a_waiting a_built a_unfinishedStart a_unfinishedLacks a_kept a_matchStart a_matchEnd a_joint a_unified a_oneStack a_otherStack a_nestedAt a_nestedEnd a_rank a_pairCount a_firstOpen) → wX_exchangeArguments__built_54 post (nI s) (nI mid) (nI e) n (nI (s + 1 + A1.length)) f_drafted f_faultPlace f_reportedSteps f_resultSize (nI (B ++ A1).length) f_waitingSize f_builtSize f_unfinished f_taken f_keptSize f_stacked f_ranked f_surveyed a_draft a_result a_lefts a_leftSize a_ways a_rights a_rightSize zs a_waiting a_built a_unfinishedStart a_unfinishedLacks a_kept a_matchStart a_matchEnd a_joint a_unified a_oneStack a_otherStack a_nestedAt a_nestedEnd a_rank a_pairCount a_firstOpen
  | [], A1, zs, n, hl, hmi, ha, hz, hn, H => by
    obtain ⟨n, rfl⟩ : ∃ n', n = n' + 1 := ⟨n - 1, by omega⟩
    rw [List.append_nil] at H
    rw [List.length_nil, Nat.add_zero] at hmi
    exact pk_le mid (s + 1 + A1.length) (fun _ => H zs hz) (fun z => absurd z (by omega))
  | t :: A2, A1, zs, n, hl, hmi, ha, hz, hn, H => by
    obtain ⟨n, rfl⟩ : ∃ n', n = n' + 1 := ⟨n - 1, by omega⟩
    rw [List.length_cons] at hmi hn
    have hl2 : (B ++ A1).length + (A2.length + 1) ≤ 31 := by simp only [List.length_append, List.length_cons] at hl ⊢; omega
    refine pk_le mid (s + 1 + A1.length) (fun z => absurd z (by omega)) (fun _ => ⟨vp_in_nI (by omega) (by omega), ?_⟩)
    have et : a_built (nI (s + 1 + A1.length)).toNatClampNeg = t := by rw [nI_clamp (by omega)]; exact ha.1
    rw [et]
    refine xw_put (by omega) (nm_r (nI_1 _) ?_)
    have e1 : (B ++ A1).length + 1 = (B ++ (A1 ++ [t])).length := by simp only [List.length_append, List.length_singleton]; omega
    have e2 : s + 1 + A1.length + 1 = s + 1 + (A1 ++ [t]).length := by simp only [List.length_append, List.length_singleton]; omega
    have e3 : A1 ++ t :: A2 = (A1 ++ [t]) ++ A2 := by rw [List.append_assoc]; rfl
    rw [e1, e2]
    refine xx_built_54 hm hmid B A2 (A1 ++ [t]) _ n (by rw [← e3]; exact hl) (by rw [List.length_append, List.length_singleton]; omega) (by rw [← e2]; exact ha.2) ?_ (by omega) (by rw [← e3]; exact H)
    rw [← List.append_assoc]
    have := hd_snocL (x := t) hz
    rwa [Nat.zero_add] at this
theorem xx_built_28 {post : SX → Prop} {s mid e : Nat} (hm : e ≤ 2048) : ∀ (B2 B1 : List Int64) (zs : Nat → Int64) (n : Nat), (B1 ++ B2).length ≤ 31 → e = mid + B1.length + B2.length → hd_h a_built (mid + B1.length) B2 → hd_h zs 0 B1 → B2.length < n → (∀ z, hd_h z 0 (B1 ++ B2) → ∃ n54, wX_exchangeArguments__built_54 post (nI s) (nI mid) (nI e) n54 (nI (s + 1)) f_drafted f_faultPlace f_reportedSteps f_resultSize (nI (B1 ++ B2).length) f_waitingSize f_builtSize f_unfinished f_taken f_keptSize f_stacked f_ranked f_surveyed a_draft a_result a_lefts a_leftSize a_ways a_rights a_rightSize z a_waiting a_built a_unfinishedStart a_unfinishedLacks a_kept a_matchStart a_matchEnd a_joint a_unified a_oneStack a_otherStack a_nestedAt a_nestedEnd a_rank a_pairCount a_firstOpen) → wX_exchangeArguments__built_28 post (nI s) (nI mid) (nI e) n (nI (mid + B1.length)) f_drafted f_faultPlace f_reportedSteps f_resultSize (nI B1.length) f_waitingSize f_builtSize f_unfinished f_taken f_keptSize f_stacked f_ranked f_surveyed a_draft a_result a_lefts a_leftSize a_ways a_rights a_rightSize zs a_waiting a_built a_unfinishedStart a_unfinishedLacks a_kept a_matchStart a_matchEnd a_joint a_unified a_oneStack a_otherStack a_nestedAt a_nestedEnd a_rank a_pairCount a_firstOpen
  | [], B1, zs, n, hl, hmi, ha, hz, hn, H => by
    obtain ⟨n, rfl⟩ : ∃ n', n = n' + 1 := ⟨n - 1, by omega⟩
    rw [List.append_nil] at H
    rw [List.length_nil, Nat.add_zero] at hmi
    exact pk_le e (mid + B1.length) (fun _ => nm_r (nI_1 s) (H zs hz)) (fun z => absurd z (by omega))
  | t :: B2, B1, zs, n, hl, hmi, ha, hz, hn, H => by
    obtain ⟨n, rfl⟩ : ∃ n', n = n' + 1 := ⟨n - 1, by omega⟩
    rw [List.length_cons] at hmi hn
    have hl2 : B1.length + (B2.length + 1) ≤ 31 := by simp only [List.length_append, List.length_cons] at hl; omega
    refine pk_le e (mid + B1.length) (fun z => absurd z (by omega)) (fun _ => ⟨vp_in_nI (by omega) (by omega), ?_⟩)
    have et : a_built (nI (mid + B1.length)).toNatClampNeg = t := by rw [nI_clamp (by omega)]; exact ha.1
    rw [et]
    refine xw_put (by omega) (nm_r (nI_1 _) ?_)
    have e1 : B1.length + 1 = (B1 ++ [t]).length := by simp only [List.length_append, List.length_singleton]
    have e2 : mid + B1.length + 1 = mid + (B1 ++ [t]).length := by simp only [List.length_append, List.length_singleton]; omega
    have e3 : B1 ++ t :: B2 = (B1 ++ [t]) ++ B2 := by rw [List.append_assoc]; rfl
    rw [e2, e1]
    refine xx_built_28 hm B2 (B1 ++ [t]) _ n (by rw [← e3]; exact hl) (by rw [List.length_append, List.length_singleton]; omega) (by rw [← e2]; exact ha.2) ?_ (by omega) (by rw [← e3]; exact H)
    have := hd_snocL (x := t) hz
    rwa [Nat.zero_add] at this
theorem xx_built {post : SX → Prop} {A B r : List Int64} (s e : Nat) (hA : tm_w A 1) (hB : tm_w B 1) (hh : hd_h a_built (s + 1) (A ++ (B ++ r))) (he : e = s + 1 + (A.length + (B.length + r.length))) (hl : e ≤ 2048) (h31 : A.length + B.length ≤ 31) (H : ∀ zs zb, hd_h zb (s + 1) (B ++ A) → hd_o a_built zb (s + 1) (B ++ A).length → post (f_drafted, f_faultPlace, f_reportedSteps, f_resultSize, nI (B ++ A).length, f_waitingSize, f_builtSize, f_unfinished, f_taken, f_keptSize, f_stacked, f_ranked, f_surveyed, a_draft, a_result, a_lefts, a_leftSize, a_ways, a_rights, a_rightSize, zs, a_waiting, zb, a_unfinishedStart, a_unfinishedLacks, a_kept, a_matchStart, a_matchEnd, a_joint, a_unified, a_oneStack, a_otherStack, a_nestedAt, a_nestedEnd, a_rank, a_pairCount, a_firstOpen)) : wpX_exchangeArguments__built post (f_drafted, f_faultPlace, f_reportedSteps, f_resultSize, f_sheetSize, f_waitingSize, f_builtSize, f_unfinished, f_taken, f_keptSize, f_stacked, f_ranked, f_surveyed, a_draft, a_result, a_lefts, a_leftSize, a_ways, a_rights, a_rightSize, a_sheet, a_waiting, a_built, a_unfinishedStart, a_unfinishedLacks, a_kept, a_matchStart, a_matchEnd, a_joint, a_unified, a_oneStack, a_otherStack, a_nestedAt, a_nestedEnd, a_rank, a_pairCount, a_firstOpen) (nI s) (nI e) := by
  unfold wpX_exchangeArguments__built
  dsimp only
  rw [nI_1]
  have hBr := (hd_app.mp hh).2
  refine xe_built (s + 1) e (s + 1 + A.length) hA hh (by rw [List.length_append]; omega) rfl hl ?_
  refine xe_built (s + 1 + A.length) e (s + 1 + A.length + B.length) hB hBr (by omega) rfl hl ?_
  have hlAB : (B ++ A).length = B.length + A.length := List.length_append
  refine ⟨B.length + 1, ?_⟩
  refine xx_built_28 (s := s) (mid := s + 1 + A.length) (e := s + 1 + A.length + B.length) (by omega) B [] a_sheet _ (by rw [List.nil_append]; omega) rfl (hd_app.mp hBr).1 trivial (by omega) ?_
  intro z hz
  rw [List.nil_append] at hz ⊢
  refine ⟨A.length + 1, ?_⟩
  have hz' : hd_h z 0 (B ++ []) := by rw [List.append_nil]; exact hz
  rw [show nI B.length = nI (B ++ []).length by rw [List.append_nil]]
  refine xx_built_54 (s := s) (mid := s + 1 + A.length) (e := s + 1 + A.length + B.length) (by omega) (by omega) B A [] z (A.length + 1) (by rw [List.nil_append]; omega) rfl (hd_app.mp hh).1 hz' (by omega) ?_
  intro z2 hz2
  rw [List.nil_append] at hz2 ⊢
  refine ⟨(B ++ A).length + 1, ?_⟩
  rw [show s + 1 + A.length + B.length = s + 1 + (B ++ A).length by omega]
  exact xx_built_78 (post := post) (a0 := a_built) (q := B ++ A) (s := s) (by omega) (by omega) hz2 (fun z3 h1 h2 => H z2 z3 h1 h2) (B ++ A) [] a_built ((B ++ A).length + 1) rfl trivial (fun j _ => rfl) (by omega)
end
