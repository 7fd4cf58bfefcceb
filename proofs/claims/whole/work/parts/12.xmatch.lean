/-! the component: the match, the first rule, what RIGHT becomes -/
def xm_b (built : Nat → Int64) (ms me : Nat → Int32) (B : Nat) (β : Nat → List Int64) : Prop := ∀ k, k < 8 → (β k = [] → ms k = -1) ∧ (β k ≠ [] → ∃ st, ms k = nI st ∧ me k = nI (st + (β k).length) ∧ st + (β k).length ≤ B ∧ hd_h built st (β k))
def xr_R (L R : Nat → List Int64) (lefts : Nat → Int64) (leftSize ways : Nat → Int32) (rights : Nat → Int64) (rightSize : Nat → Int32) : Prop := ∀ r, r < 8 → (∃ nl nr, leftSize r = nI nl ∧ rightSize r = nI nr ∧ nl ≤ 30 ∧ nr ≤ 30) ∧ (L r = [] → ways r = 0) ∧ (L r ≠ [] → ways r = nI (2 ^ ru_c9 (L r)) ∧ leftSize r = nI (L r).length ∧ rightSize r = nI (R r).length ∧ hd_h rights (r * 30) (R r) ∧ ∀ w, w < 2 ^ ru_c9 (L r) → hd_h lefts ((r * 16 + w) * 30) (ru_wy (L r) w).1)
theorem xm_b_new {built : Nat → Int64} {ms me : Nat → Int32} {B : Nat} {β : Nat → List Int64} (h : xm_b built ms me B β) {k i : Nat} {a : List Int64} (ha : a ≠ []) (hh : hd_h built i a) (hB : i + a.length ≤ B) : xm_b built (upd ms k (nI i)) (upd me k (nI (i + a.length))) B (fun j => if j = k then a else β j) := by
  intro j hj
  dsimp only
  by_cases e : j = k
  · subst e
    rw [if_pos rfl, pk_us, pk_us]
    exact ⟨fun z => absurd z ha, fun _ => ⟨i, rfl, rfl, hB, hh⟩⟩
  · rw [if_neg e, pk_un e, pk_un e]
    exact h j hj
section
variable {f_drafted f_faultPlace f_reportedSteps f_resultSize f_sheetSize f_waitingSize f_builtSize f_unfinished f_taken f_keptSize f_stacked f_ranked f_surveyed : Int32} {a_draft a_result a_lefts a_rights a_sheet a_waiting a_built a_kept a_joint : Nat → Int64} {a_leftSize a_ways a_rightSize a_unfinishedStart a_unfinishedLacks a_matchStart a_matchEnd a_unified a_oneStack a_otherStack a_nestedAt a_nestedEnd a_rank a_pairCount a_firstOpen : Nat → Int32}
theorem xm_bind_l {post : Int32 → SX → Prop} {i st : Nat} : ∀ (a b : List Int64) (k n d : Nat), a.length = b.length → d = k + a.length → st + d ≤ 2048 → i + d ≤ 2048 → hd_h a_built (i + k) a → hd_h a_built (st + k) b → a.length < n → (b = a → post 1 (f_drafted, f_faultPlace, f_reportedSteps, f_resultSize, f_sheetSize, f_waitingSize, f_builtSize, f_unfinished, f_taken, f_keptSize, f_stacked, f_ranked, f_surveyed, a_draft, a_result, a_lefts, a_leftSize, a_ways, a_rights, a_rightSize, a_sheet, a_waiting, a_built, a_unfinishedStart, a_unfinishedLacks, a_kept, a_matchStart, a_matchEnd, a_joint, a_unified, a_oneStack, a_otherStack, a_nestedAt, a_nestedEnd, a_rank, a_pairCount, a_firstOpen)) → (b ≠ a → post 0 (f_drafted, f_faultPlace, f_reportedSteps, f_resultSize, f_sheetSize, f_waitingSize, f_builtSize, f_unfinished, f_taken, f_keptSize, f_stacked, f_ranked, f_surveyed, a_draft, a_result, a_lefts, a_leftSize, a_ways, a_rights, a_rightSize, a_sheet, a_waiting, a_built, a_unfinishedStart, a_unfinishedLacks, a_kept, a_matchStart, a_matchEnd, a_joint, a_unified, a_oneStack, a_otherStack, a_nestedAt, a_nestedEnd, a_rank, a_pairCount, a_firstOpen)) → wX_bind_49 post (nI i) (nI (i + d)) (nI st) f_drafted f_faultPlace f_reportedSteps f_resultSize f_sheetSize f_waitingSize f_builtSize f_unfinished f_taken f_keptSize f_stacked f_ranked f_surveyed a_draft a_result a_lefts a_leftSize a_ways a_rights a_rightSize a_sheet a_waiting a_built a_unfinishedStart a_unfinishedLacks a_kept a_matchStart a_matchEnd a_joint a_unified a_oneStack a_otherStack a_nestedAt a_nestedEnd a_rank a_pairCount a_firstOpen n (nI k)
  | [], [], k, n, d, he, hd, hl1, hl2, h1, h2, hn, hy, hz => by
    obtain ⟨n, rfl⟩ : ∃ n', n = n' + 1 := ⟨n - 1, by omega⟩
    rw [List.length_nil] at hd
    refine pk_le d k (fun _ => hy rfl) (fun z => absurd z (by omega)) ?_ rfl
    rw [pk_sub (by omega), show i + d - i = d by omega]
  | [], y :: b, k, n, d, he, hd, hl1, hl2, h1, h2, hn, hy, hz => by simp at he
  | x :: a, [], k, n, d, he, hd, hl1, hl2, h1, h2, hn, hy, hz => by simp at he
  | x :: a, y :: b, k, n, d, he, hd, hl1, hl2, h1, h2, hn, hy, hz => by
    obtain ⟨n, rfl⟩ : ∃ n', n = n' + 1 := ⟨n - 1, by omega⟩
    rw [List.length_cons] at hd hn
    refine pk_le d k (fun z => absurd z (by omega)) (fun _ => ?_) (by rw [pk_sub (by omega), show i + d - i = d by omega]) rfl
    refine ⟨by rw [nI_add]; exact vp_in_nI (by omega) (by omega), by rw [nI_add]; exact vp_in_nI (by omega) (by omega), ?_⟩
    have e1 : a_built (nI i + nI k).toNatClampNeg = x := by rw [nI_add, nI_clamp (by omega)]; exact h1.1
    have e2 : a_built (nI st + nI k).toNatClampNeg = y := by rw [nI_add, nI_clamp (by omega)]; exact h2.1
    rw [e1, e2]
    by_cases h : y = x
    · refine br_t h (nm_r (nI_1 k) (xm_bind_l a b (k + 1) n d (by simpa using he) (by omega) hl1 hl2 h1.2 h2.2 (by omega) (fun e => hy (by rw [h, e])) (fun e => hz (fun z => e (by injection z)))))
    · exact br_f h (hz (fun z => h (by injection z)))
theorem xm_bind {post : Int32 → SX → Prop} {β : Nat → List Int64} {B : Nat} (hB : B ≤ 2048) (hb : xm_b a_built a_matchStart a_matchEnd B β) {k i : Nat} {a : List Int64} (e : Nat) (he : e = i + a.length) (hk : k < 8) (ha : a ≠ []) (hh : hd_h a_built i a) (hi : i + a.length ≤ B) (Hn : β k = [] → post 1 (f_drafted, f_faultPlace, f_reportedSteps, f_resultSize, f_sheetSize, f_waitingSize, f_builtSize, f_unfinished, f_taken, f_keptSize, f_stacked, f_ranked, f_surveyed, a_draft, a_result, a_lefts, a_leftSize, a_ways, a_rights, a_rightSize, a_sheet, a_waiting, a_built, a_unfinishedStart, a_unfinishedLacks, a_kept, upd a_matchStart k (nI i), upd a_matchEnd k (nI (i + a.length)), a_joint, a_unified, a_oneStack, a_otherStack, a_nestedAt, a_nestedEnd, a_rank, a_pairCount, a_firstOpen)) (Hy : β k ≠ [] → β k = a → post 1 (f_drafted, f_faultPlace, f_reportedSteps, f_resultSize, f_sheetSize, f_waitingSize, f_builtSize, f_unfinished, f_taken, f_keptSize, f_stacked, f_ranked, f_surveyed, a_draft, a_result, a_lefts, a_leftSize, a_ways, a_rights, a_rightSize, a_sheet, a_waiting, a_built, a_unfinishedStart, a_unfinishedLacks, a_kept, a_matchStart, a_matchEnd, a_joint, a_unified, a_oneStack, a_otherStack, a_nestedAt, a_nestedEnd, a_rank, a_pairCount, a_firstOpen)) (Hz : β k ≠ [] → β k ≠ a → post 0 (f_drafted, f_faultPlace, f_reportedSteps, f_resultSize, f_sheetSize, f_waitingSize, f_builtSize, f_unfinished, f_taken, f_keptSize, f_stacked, f_ranked, f_surveyed, a_draft, a_result, a_lefts, a_leftSize, a_ways, a_rights, a_rightSize, a_sheet, a_waiting, a_built, a_unfinishedStart, a_unfinishedLacks, a_kept, a_matchStart, a_matchEnd, a_joint, a_unified, a_oneStack, a_otherStack, a_nestedAt, a_nestedEnd, a_rank, a_pairCount, a_firstOpen)) : wpX_bind post (f_drafted, f_faultPlace, f_reportedSteps, f_resultSize, f_sheetSize, f_waitingSize, f_builtSize, f_unfinished, f_taken, f_keptSize, f_stacked, f_ranked, f_surveyed, a_draft, a_result, a_lefts, a_leftSize, a_ways, a_rights, a_rightSize, a_sheet, a_waiting, a_built, a_unfinishedStart, a_unfinishedLacks, a_kept, a_matchStart, a_matchEnd, a_joint, a_unified, a_oneStack, a_otherStack, a_nestedAt, a_nestedEnd, a_rank, a_pairCount, a_firstOpen) (nI k) (nI i) (nI e) := by
  subst he
  have hin : vp_in (nI k) 8 := vp_in_nI hk (by omega)
  have ek : (nI k).toNatClampNeg = k := nI_clamp (by omega)
  obtain ⟨b1, b2⟩ := hb k hk
  refine ⟨hin, nm_r (e' := a_matchStart k) (by rw [ek]) ?_⟩
  by_cases h0 : β k = []
  · rw [b1 h0]
    refine br_f (by decide) ⟨hin, nm_r (e' := upd a_matchStart k (nI i)) (by rw [ek]) ⟨hin, nm_r (e' := upd a_matchEnd k (nI (i + a.length))) (by rw [ek]) (Hn h0)⟩⟩
  · obtain ⟨st, s1, s2, s3, s4⟩ := b2 h0
    rw [s1]
    refine br_t (nI_pos' (by omega)) ⟨hin, ?_⟩
    rw [ek, s2]
    refine pk_eq (β k).length a.length (fun hl => ?_) (fun hl => ?_) (by rw [pk_sub (by omega), show st + (β k).length - st = (β k).length by omega]) (by rw [pk_sub (by omega), show i + a.length - i = a.length by omega])
    · refine ⟨a.length + 1, ?_⟩
      exact xm_bind_l a (β k) 0 _ a.length hl.symm (by omega) (by omega) (by omega) hh s4 (by omega) (Hy h0) (Hz h0)
    · exact Hz h0 (fun z => hl (by rw [z]))
theorem xm_l {post : Int32 → SX → Prop} {r fr ln B : Nat} (hr : r < 8) (hls : a_leftSize r = nI ln) (hfr : fr + ln ≤ 3840) (hB : B ≤ 2048) : ∀ (ps s : List Int64) (m pos pi n : Nat) (β : Nat → List Int64) (ms me : Nat → Int32), pi + ps.length = fr + ln → pos + s.length = B → hd_h a_lefts pi ps → hd_h a_built pos s → (∀ t, t ∈ ps → tk_r t) → (∀ t, t ∈ s → tk_t t) → tm_w s m → xm_b a_built ms me B β → ps.length < n → (∀ β' ms' me', ru_mt ps s β = some β' → xm_b a_built ms' me' B β' → post 1 (f_drafted, f_faultPlace, f_reportedSteps, f_resultSize, f_sheetSize, f_waitingSize, nI B, f_unfinished, f_taken, f_keptSize, f_stacked, f_ranked, f_surveyed, a_draft, a_result, a_lefts, a_leftSize, a_ways, a_rights, a_rightSize, a_sheet, a_waiting, a_built, a_unfinishedStart, a_unfinishedLacks, a_kept, ms', me', a_joint, a_unified, a_oneStack, a_otherStack, a_nestedAt, a_nestedEnd, a_rank, a_pairCount, a_firstOpen)) → (∀ ms' me', ru_mt ps s β = none → post 0 (f_drafted, f_faultPlace, f_reportedSteps, f_resultSize, f_sheetSize, f_waitingSize, nI B, f_unfinished, f_taken, f_keptSize, f_stacked, f_ranked, f_surveyed, a_draft, a_result, a_lefts, a_leftSize, a_ways, a_rights, a_rightSize, a_sheet, a_waiting, a_built, a_unfinishedStart, a_unfinishedLacks, a_kept, ms', me', a_joint, a_unified, a_oneStack, a_otherStack, a_nestedAt, a_nestedEnd, a_rank, a_pairCount, a_firstOpen)) → wX_matches_42 post (nI r) (nI fr) n (nI pos) (nI pi) f_drafted f_faultPlace f_reportedSteps f_resultSize f_sheetSize f_waitingSize (nI B) f_unfinished f_taken f_keptSize f_stacked f_ranked f_surveyed a_draft a_result a_lefts a_leftSize a_ways a_rights a_rightSize a_sheet a_waiting a_built a_unfinishedStart a_unfinishedLacks a_kept ms me a_joint a_unified a_oneStack a_otherStack a_nestedAt a_nestedEnd a_rank a_pairCount a_firstOpen
  | [], s, m, pos, pi, n, β, ms, me, h1, h2, h3, h4, h5, h6, h7, h8, hn, Hy, Hz => by
    obtain ⟨n, rfl⟩ : ∃ n', n = n' + 1 := ⟨n - 1, by omega⟩
    rw [List.length_nil] at h1
    refine ⟨vp_in_nI hr (by omega), ?_⟩
    rw [nI_clamp (by omega), hls]
    exact pk_le (fr + ln) pi (fun _ => Hy β ms me (by rw [ru_mt]) h8) (fun z => absurd z (by omega)) (nI_add _ _) rfl
  | p :: ps, [], m, pos, pi, n, β, ms, me, h1, h2, h3, h4, h5, h6, h7, h8, hn, Hy, Hz => by
    obtain ⟨n, rfl⟩ : ∃ n', n = n' + 1 := ⟨n - 1, by omega⟩
    rw [List.length_cons] at h1
    rw [List.length_nil] at h2
    refine ⟨vp_in_nI hr (by omega), ?_⟩
    rw [nI_clamp (by omega), hls]
    refine pk_le (fr + ln) pi (fun z => absurd z (by omega)) (fun _ => ?_) (nI_add _ _) rfl
    refine ⟨vp_in_nI (by omega) (by omega), nm_e ?_⟩
    exact pk_lt pos B (fun z => absurd z (by omega)) (fun _ => Hz ms me (by rw [ru_mt]))
  | p :: ps, c :: s, m, pos, pi, n, β, ms, me, h1, h2, h3, h4, h5, h6, h7, h8, hn, Hy, Hz => by
    obtain ⟨n, rfl⟩ : ∃ n', n = n' + 1 := ⟨n - 1, by omega⟩
    rw [List.length_cons] at h1 hn h2
    refine ⟨vp_in_nI hr (by omega), ?_⟩
    rw [nI_clamp (by omega), hls]
    refine pk_le (fr + ln) pi (fun z => absurd z (by omega)) (fun _ => ?_) (nI_add _ _) rfl
    refine ⟨vp_in_nI (by omega) (by omega), nm_r (e' := p) (by rw [nI_clamp (by omega)]; exact h3.1) ?_⟩
    refine pk_lt pos B (fun _ => ?_) (fun z => absurd z (by omega))
    have hps : ∀ t, t ∈ ps → tk_r t := fun t ht => h5 t (List.mem_cons.mpr (Or.inr ht))
    have hs : ∀ t, t ∈ s → tk_t t := fun t ht => h6 t (List.mem_cons.mpr (Or.inr ht))
    have ec : a_built (nI pos).toNatClampNeg = c := by rw [nI_clamp (by omega)]; exact h4.1
    have hin : vp_in (nI pos) 2048 := vp_in_nI (by omega) (by omega)
    obtain ⟨k, rfl, hw⟩ := tm_w_ne h7
    by_cases hp : p < 8589934592
    · refine br_f (Int64.not_le.mpr hp) ⟨hin, ?_⟩
      rw [ec]
      by_cases hc : c = p
      · rw [ru_mt_sym hp hc] at Hy Hz
        exact br_t hc (nm_r (nI_1 pos) (nm_r (nI_1 pi) (xm_l hr hls hfr hB ps s _ (pos + 1) (pi + 1) n β ms me (by omega) (by omega) h3.2 h4.2 hps hs hw h8 (by omega) Hy Hz)))
      · exact br_f hc (Hz ms me (ru_mt_symn hp hc))
    · refine br_t (Int64.not_lt.mp hp) ?_
      have hpr := h5 p (List.mem_cons.mpr (Or.inl rfl))
      have hct := h6 c (List.mem_cons.mpr (Or.inl rfl))
      obtain ⟨a, b, e, ha, hb2⟩ := tm_w_split (c :: s) 1 k (by rw [Nat.add_comm]; exact h7)
      obtain ⟨c', a', rfl, _⟩ := tm_w_pos ha
      rw [List.cons_append] at e
      injection e with e1 e2
      subst e1 e2
      rw [List.length_append] at h2
      have hb3 : ∀ t, t ∈ b → tk_t t := fun t ht => hs t (List.mem_append.mpr (Or.inr ht))
      have h4' : hd_h a_built pos ((c :: a') ++ b) := h4
      have hba := (hd_app.mp h4').2
      have hla : (c :: a').length = a'.length + 1 := rfl
      have core : (p < 12884901888 ∨ tk_N c) → wX_matches_144 post (wX_matches_42 post (nI r) (nI fr) n) (nI r) (nI fr) (nI pos) (nI pi) p f_drafted f_faultPlace f_reportedSteps f_resultSize f_sheetSize f_waitingSize (nI B) f_unfinished f_taken f_keptSize f_stacked f_ranked f_surveyed a_draft a_result a_lefts a_leftSize a_ways a_rights a_rightSize a_sheet a_waiting a_built a_unfinishedStart a_unfinishedLacks a_kept ms me a_joint a_unified a_oneStack a_otherStack a_nestedAt a_nestedEnd a_rank a_pairCount a_firstOpen := by
        intro hw'
        refine ru_slotX hpr hp ?_
        refine xe_built pos B (pos + (c :: a').length) ha h4' (by omega) rfl hB ?_
        refine xm_bind hB h8 (a := c :: a') (pos + (c :: a').length) rfl (ru_slot_lt hpr hp) (by simp) (hd_app.mp h4').1 (by omega) (fun h0 => ?_) (fun h0 h0' => ?_) (fun h0 h0' => ?_)
        · rw [ru_mt_new hp hw' ha h0] at Hy Hz
          exact br_f (by decide) (nm_r (nI_1 pi) (xm_l hr hls hfr hB ps b k (pos + (c :: a').length) (pi + 1) n _ _ _ (by omega) (by omega) h3.2 hba hps hb3 hb2 (xm_b_new h8 (by simp) (hd_app.mp h4').1 (by omega)) (by omega) Hy Hz))
        · rw [ru_mt_old hp hw' ha h0'] at Hy Hz
          exact br_f (by decide) (nm_r (nI_1 pi) (xm_l hr hls hfr hB ps b k (pos + (c :: a').length) (pi + 1) n _ _ _ (by omega) (by omega) h3.2 hba hps hb3 hb2 h8 (by omega) Hy Hz))
        · exact br_t rfl (Hz ms me (ru_mt_oldn hp hw' ha h0 h0'))
      by_cases hw3 : p < 12884901888
      · exact br_t hw3 (br_t rfl (core (Or.inl hw3)))
      · refine br_f hw3 (br_f (by decide) ⟨hin, ?_⟩)
        rw [ec]
        by_cases hN : tk_N c
        · exact br_t ((tk_N_X hct).mpr hN) (core (Or.inr hN))
        · exact br_f (fun z => hN ((tk_N_X hct).mp z)) (Hz ms me (ru_mt_w hp hw3 hN))
theorem xm_14 {post : Int32 → SX → Prop} {x1 x3 x4 : Int32} : ∀ (d k n : Nat) (ms : Nat → Int32), k + d = 8 → (∀ j, j < k → ms j = -1) → d < n → (∀ ms', (∀ j, j < 8 → ms' j = -1) → ∃ n42, wX_matches_42 post x1 x4 n42 x3 x4 f_drafted f_faultPlace f_reportedSteps f_resultSize f_sheetSize f_waitingSize f_builtSize f_unfinished f_taken f_keptSize f_stacked f_ranked f_surveyed a_draft a_result a_lefts a_leftSize a_ways a_rights a_rightSize a_sheet a_waiting a_built a_unfinishedStart a_unfinishedLacks a_kept ms' a_matchEnd a_joint a_unified a_oneStack a_otherStack a_nestedAt a_nestedEnd a_rank a_pairCount a_firstOpen) → wX_matches_14 post x1 x3 x4 f_drafted f_faultPlace f_reportedSteps f_resultSize f_sheetSize f_waitingSize f_builtSize f_unfinished f_taken f_keptSize f_stacked f_ranked f_surveyed n (nI k) a_draft a_result a_lefts a_leftSize a_ways a_rights a_rightSize a_sheet a_waiting a_built a_unfinishedStart a_unfinishedLacks a_kept ms a_matchEnd a_joint a_unified a_oneStack a_otherStack a_nestedAt a_nestedEnd a_rank a_pairCount a_firstOpen
  | 0, k, n, ms, hk, hm, hn, H => by
    obtain ⟨n, rfl⟩ : ∃ n', n = n' + 1 := ⟨n - 1, by omega⟩
    exact pk_le 8 k (fun _ => H ms (fun j hj => hm j (by omega))) (fun z => absurd z (by omega))
  | d + 1, k, n, ms, hk, hm, hn, H => by
    obtain ⟨n, rfl⟩ : ∃ n', n = n' + 1 := ⟨n - 1, by omega⟩
    refine pk_le 8 k (fun z => absurd z (by omega)) (fun _ => ⟨vp_in_nI (by omega) (by omega), nm_r (e' := upd ms k (-1)) (by rw [nI_clamp (by omega)]) (nm_r (nI_1 k) ?_)⟩)
    refine xm_14 d (k + 1) n _ (by omega) (fun j hj => ?_) (by omega) H
    by_cases e : j = k
    · rw [e, pk_us]
    · rw [pk_un e]; exact hm j (by omega)
theorem xm_matches {post : Int32 → SX → Prop} {r w ln B st : Nat} {ps s : List Int64} (hr : r < 8) (hw : w < 16) (hls : a_leftSize r = nI ln) (hln : ln = ps.length) (hln2 : ln ≤ 30) (hB : B ≤ 2048) (hs : st + s.length = B) (h3 : hd_h a_lefts ((r * 16 + w) * 30) ps) (h4 : hd_h a_built st s) (h5 : ∀ t, t ∈ ps → tk_r t) (h6 : ∀ t, t ∈ s → tk_t t) {m : Nat} (h7 : tm_w s m) (Hy : ∀ β' ms' me', ru_mt ps s (fun _ => []) = some β' → xm_b a_built ms' me' B β' → post 1 (f_drafted, f_faultPlace, f_reportedSteps, f_resultSize, f_sheetSize, f_waitingSize, nI B, f_unfinished, f_taken, f_keptSize, f_stacked, f_ranked, f_surveyed, a_draft, a_result, a_lefts, a_leftSize, a_ways, a_rights, a_rightSize, a_sheet, a_waiting, a_built, a_unfinishedStart, a_unfinishedLacks, a_kept, ms', me', a_joint, a_unified, a_oneStack, a_otherStack, a_nestedAt, a_nestedEnd, a_rank, a_pairCount, a_firstOpen)) (Hz : ∀ ms' me', ru_mt ps s (fun _ => []) = none → post 0 (f_drafted, f_faultPlace, f_reportedSteps, f_resultSize, f_sheetSize, f_waitingSize, nI B, f_unfinished, f_taken, f_keptSize, f_stacked, f_ranked, f_surveyed, a_draft, a_result, a_lefts, a_leftSize, a_ways, a_rights, a_rightSize, a_sheet, a_waiting, a_built, a_unfinishedStart, a_unfinishedLacks, a_kept, ms', me', a_joint, a_unified, a_oneStack, a_otherStack, a_nestedAt, a_nestedEnd, a_rank, a_pairCount, a_firstOpen)) : wpX_matches post (f_drafted, f_faultPlace, f_reportedSteps, f_resultSize, f_sheetSize, f_waitingSize, nI B, f_unfinished, f_taken, f_keptSize, f_stacked, f_ranked, f_surveyed, a_draft, a_result, a_lefts, a_leftSize, a_ways, a_rights, a_rightSize, a_sheet, a_waiting, a_built, a_unfinishedStart, a_unfinishedLacks, a_kept, a_matchStart, a_matchEnd, a_joint, a_unified, a_oneStack, a_otherStack, a_nestedAt, a_nestedEnd, a_rank, a_pairCount, a_firstOpen) (nI r) (nI w) (nI st) := by
  refine nm_r (e' := nI ((r * 16 + w) * 30)) ?_ ⟨9, ?_⟩
  · rw [show (16 : Int32) = nI 16 from rfl, show (30 : Int32) = nI 30 from rfl, pk_mul, nI_add, pk_mul]
  · refine xm_14 8 0 9 a_matchStart rfl (fun j hj => absurd hj (by omega)) (by omega) (fun ms' hm => ⟨ps.length + 1, ?_⟩)
    refine xm_l hr hls (by omega) hB ps s m st ((r * 16 + w) * 30) _ (fun _ => []) ms' a_matchEnd (by omega) hs h3 h4 h5 h6 h7 (fun j hj => ⟨fun _ => hm j hj, fun z => absurd rfl z⟩) (by omega) Hy Hz
end
