/-! the component: the normal form of what lies on the sheet; what is kept and compared -/
section
variable {f_drafted f_faultPlace f_reportedSteps f_resultSize f_sheetSize f_waitingSize f_builtSize f_unfinished f_taken f_keptSize f_stacked f_ranked f_surveyed : Int32} {a_draft a_result a_lefts a_rights a_sheet a_waiting a_built a_kept a_joint : Nat → Int64} {a_leftSize a_ways a_rightSize a_unfinishedStart a_unfinishedLacks a_matchStart a_matchEnd a_unified a_oneStack a_otherStack a_nestedAt a_nestedEnd a_rank a_pairCount a_firstOpen : Nat → Int32}
variable {P : Int64 → Prop} {L R : Nat → List Int64}
theorem mc_I0 {q : List Int64} {t0 : Nat} (hq : tm_w q 1) (h30 : q.length ≤ 30) (hP : ∀ x, x ∈ q → P x) (ht : t0 ≤ 60) : mc_I P q [] t0 none ∧ mc_mu q [] t0 none < 4000 := by
  refine ⟨⟨ht, hP, fun p k h => absurd h (by simp), ?_, ?_⟩, ?_⟩
  · exact hq
  · show q.length + 0 ≤ _
    omega
  · show 2 * q.length + 0 + 0 + 60 * (60 - t0) < 4000
    omega
theorem xn_nf {post : Int32 → SX → Prop} {q : List Int64} (k t0 : Nat) (hPt : ∀ x, P x → tk_t x) (hd : ∀ x, tk_d x → P x) (hG : mc_G L R) (hR : xr_R L R a_lefts a_leftSize a_ways a_rights a_rightSize) (hq : tm_w q 1) (h30 : q.length ≤ 30) (hP : ∀ x, x ∈ q → P x) (ht : t0 ≤ 60) (hk : k = q.length) (hs : hd_h a_sheet 0 q)
    (H : ∀ c t' s', mc_run L R 4000 q [] t0 none = (c, t', s') → ∀ (ss ws bs uf : Int32) (zs zw zb : Nat → Int64) (us ul ms me : Nat → Int32), (c = 0 → bs = nI s'.length ∧ hd_h zb 0 s') → post (nI c) (f_drafted, f_faultPlace, f_reportedSteps, f_resultSize, ss, ws, bs, uf, nI t', f_keptSize, f_stacked, f_ranked, f_surveyed, a_draft, a_result, a_lefts, a_leftSize, a_ways, a_rights, a_rightSize, zs, zw, zb, us, ul, a_kept, ms, me, a_joint, a_unified, a_oneStack, a_otherStack, a_nestedAt, a_nestedEnd, a_rank, a_pairCount, a_firstOpen)) : wpX_normalForm post (f_drafted, f_faultPlace, f_reportedSteps, f_resultSize, nI k, f_waitingSize, f_builtSize, f_unfinished, nI t0, f_keptSize, f_stacked, f_ranked, f_surveyed, a_draft, a_result, a_lefts, a_leftSize, a_ways, a_rights, a_rightSize, a_sheet, a_waiting, a_built, a_unfinishedStart, a_unfinishedLacks, a_kept, a_matchStart, a_matchEnd, a_joint, a_unified, a_oneStack, a_otherStack, a_nestedAt, a_nestedEnd, a_rank, a_pairCount, a_firstOpen) := by
  obtain ⟨hI, hmu⟩ := mc_I0 hq h30 hP ht
  unfold wpX_normalForm
  dsimp only
  refine xc_line (W := []) k 0 hk rfl hs (by omega) trivial (by simp; omega) (fun z hz => ⟨4002, ?_⟩)
  rw [List.append_nil] at hz
  exact xn_l hPt hd hG hR 4000 q [] t0 none 4002 0 q.length 0 0 _ _ _ _ _ _ _ _ hI hmu (by omega) rfl rfl rfl hz trivial trivial (by omega) H
theorem xn_take_l {post : SX → Prop} {e : Nat} (he : e ≤ 30) : ∀ (l q : List Int64) (i n c : Nat) (zs : Nat → Int64), i + l.length = e → c = q.length → q.length + l.length ≤ 31 → hd_h a_draft i l → hd_h zs 0 q → l.length < n → (∀ z, hd_h z 0 (q ++ l) → post (f_drafted, f_faultPlace, f_reportedSteps, f_resultSize, nI (q ++ l).length, f_waitingSize, f_builtSize, f_unfinished, f_taken, f_keptSize, f_stacked, f_ranked, f_surveyed, a_draft, a_result, a_lefts, a_leftSize, a_ways, a_rights, a_rightSize, z, a_waiting, a_built, a_unfinishedStart, a_unfinishedLacks, a_kept, a_matchStart, a_matchEnd, a_joint, a_unified, a_oneStack, a_otherStack, a_nestedAt, a_nestedEnd, a_rank, a_pairCount, a_firstOpen)) → wX_takeToSheet__draft_8 post (nI e) n (nI i) f_drafted f_faultPlace f_reportedSteps f_resultSize (nI c) f_waitingSize f_builtSize f_unfinished f_taken f_keptSize f_stacked f_ranked f_surveyed a_draft a_result a_lefts a_leftSize a_ways a_rights a_rightSize zs a_waiting a_built a_unfinishedStart a_unfinishedLacks a_kept a_matchStart a_matchEnd a_joint a_unified a_oneStack a_otherStack a_nestedAt a_nestedEnd a_rank a_pairCount a_firstOpen
  | [], q, i, n, c, zs, h1, hc, hl, h2, h3, hn, H => by
    obtain ⟨n, rfl⟩ : ∃ n', n = n' + 1 := ⟨n - 1, by omega⟩
    rw [List.length_nil] at h1
    rw [List.append_nil, ← hc] at H
    exact pk_le e i (fun _ => H zs h3) (fun z => absurd z (by omega))
  | t :: l, q, i, n, c, zs, h1, hc, hl, h2, h3, hn, H => by
    obtain ⟨n, rfl⟩ : ∃ n', n = n' + 1 := ⟨n - 1, by omega⟩
    rw [List.length_cons] at h1 hn hl
    refine pk_le e i (fun z => absurd z (by omega)) (fun _ => ⟨vp_in_nI (by omega) (by omega), ?_⟩)
    have et : a_draft (nI i).toNatClampNeg = t := by rw [nI_clamp (by omega)]; exact h2.1
    rw [et]
    subst hc
    have e3 : q ++ t :: l = (q ++ [t]) ++ l := by rw [List.append_assoc]; rfl
    rw [e3] at H
    refine xw_put (by omega) (nm_r (nI_1 i) ?_)
    have hz := hd_snocL (x := t) h3
    rw [Nat.zero_add] at hz
    exact xn_take_l he l (q ++ [t]) (i + 1) n (q.length + 1) _ (by omega) (by simp) (by simp; omega) h2.2 hz (by omega) H
theorem xn_take {post : SX → Prop} {l : List Int64} (i e : Nat) (hi : i + l.length = e) (he : e ≤ 30) (hh : hd_h a_draft i l) (H : ∀ z, hd_h z 0 l → post (f_drafted, f_faultPlace, f_reportedSteps, f_resultSize, nI l.length, f_waitingSize, f_builtSize, f_unfinished, f_taken, f_keptSize, f_stacked, f_ranked, f_surveyed, a_draft, a_result, a_lefts, a_leftSize, a_ways, a_rights, a_rightSize, z, a_waiting, a_built, a_unfinishedStart, a_unfinishedLacks, a_kept, a_matchStart, a_matchEnd, a_joint, a_unified, a_oneStack, a_otherStack, a_nestedAt, a_nestedEnd, a_rank, a_pairCount, a_firstOpen)) : wpX_takeToSheet__draft post (f_drafted, f_faultPlace, f_reportedSteps, f_resultSize, f_sheetSize, f_waitingSize, f_builtSize, f_unfinished, f_taken, f_keptSize, f_stacked, f_ranked, f_surveyed, a_draft, a_result, a_lefts, a_leftSize, a_ways, a_rights, a_rightSize, a_sheet, a_waiting, a_built, a_unfinishedStart, a_unfinishedLacks, a_kept, a_matchStart, a_matchEnd, a_joint, a_unified, a_oneStack, a_otherStack, a_nestedAt, a_nestedEnd, a_rank, a_pairCount, a_firstOpen) (nI i) (nI e) := by
  refine ⟨l.length + 1, ?_⟩
  rw [← nI_0]
  exact xn_take_l he l [] i _ 0 a_sheet hi rfl (by simp; omega) hh trivial (by omega) H
theorem xn_keep_l {post : SX → Prop} {B : Nat} (hB : B ≤ 30) : ∀ (l q : List Int64) (k n c : Nat) (zk : Nat → Int64), q.length = k → c = k → k + l.length = B → hd_h a_built k l → hd_h zk 0 q → l.length < n → (∀ z, hd_h z 0 (q ++ l) → post (f_drafted, f_faultPlace, f_reportedSteps, f_resultSize, f_sheetSize, f_waitingSize, nI B, f_unfinished, f_taken, nI B, f_stacked, f_ranked, f_surveyed, a_draft, a_result, a_lefts, a_leftSize, a_ways, a_rights, a_rightSize, a_sheet, a_waiting, a_built, a_unfinishedStart, a_unfinishedLacks, z, a_matchStart, a_matchEnd, a_joint, a_unified, a_oneStack, a_otherStack, a_nestedAt, a_nestedEnd, a_rank, a_pairCount, a_firstOpen)) → wX_keepBuilt_7 post f_drafted f_faultPlace f_reportedSteps f_resultSize f_sheetSize f_waitingSize (nI B) f_unfinished f_taken f_stacked f_ranked f_surveyed n (nI k) (nI c) a_draft a_result a_lefts a_leftSize a_ways a_rights a_rightSize a_sheet a_waiting a_built a_unfinishedStart a_unfinishedLacks zk a_matchStart a_matchEnd a_joint a_unified a_oneStack a_otherStack a_nestedAt a_nestedEnd a_rank a_pairCount a_firstOpen
  | [], q, k, n, c, zk, h0, hc, h1, h2, h3, hn, H => by
    obtain ⟨n, rfl⟩ : ∃ n', n = n' + 1 := ⟨n - 1, by omega⟩
    rw [List.length_nil] at h1
    rw [List.append_nil] at H
    refine pk_le B k (fun _ => ?_) (fun z => absurd z (by omega))
    rw [hc, show k = B by omega]
    exact H zk h3
  | t :: l, q, k, n, c, zk, h0, hc, h1, h2, h3, hn, H => by
    obtain ⟨n, rfl⟩ : ∃ n', n = n' + 1 := ⟨n - 1, by omega⟩
    rw [List.length_cons] at h1 hn
    refine pk_le B k (fun z => absurd z (by omega)) (fun _ => ?_)
    refine pk_le 30 k (fun z => absurd z (by omega)) (fun _ => ⟨vp_in_nI (by omega) (by omega), vp_in_nI (by omega) (by omega), ?_⟩)
    have e3 : q ++ t :: l = (q ++ [t]) ++ l := by rw [List.append_assoc]; rfl
    rw [e3] at H
    refine nm_r (e' := vp_updL zk k t) (by rw [nI_clamp (by omega), h2.1]) (nm_r (nI_1 c) (nm_r (nI_1 k) ?_))
    refine xn_keep_l hB l (q ++ [t]) (k + 1) n (c + 1) _ (by simp; omega) (by omega) (by omega) h2.2 ?_ (by omega) H
    have := hd_snocL (x := t) h3
    rwa [Nat.zero_add, h0] at this
theorem xn_keep {post : SX → Prop} {l : List Int64} (B : Nat) (hB : B = l.length) (h30 : B ≤ 30) (hh : hd_h a_built 0 l) (H : ∀ z, hd_h z 0 l → post (f_drafted, f_faultPlace, f_reportedSteps, f_resultSize, f_sheetSize, f_waitingSize, nI B, f_unfinished, f_taken, nI B, f_stacked, f_ranked, f_surveyed, a_draft, a_result, a_lefts, a_leftSize, a_ways, a_rights, a_rightSize, a_sheet, a_waiting, a_built, a_unfinishedStart, a_unfinishedLacks, z, a_matchStart, a_matchEnd, a_joint, a_unified, a_oneStack, a_otherStack, a_nestedAt, a_nestedEnd, a_rank, a_pairCount, a_firstOpen)) : wpX_keepBuilt post (f_drafted, f_faultPlace, f_reportedSteps, f_resultSize, f_sheetSize, f_waitingSize, nI B, f_unfinished, f_taken, f_keptSize, f_stacked, f_ranked, f_surveyed, a_draft, a_result, a_lefts, a_leftSize, a_ways, a_rights, a_rightSize, a_sheet, a_waiting, a_built, a_unfinishedStart, a_unfinishedLacks, a_kept, a_matchStart, a_matchEnd, a_joint, a_unified, a_oneStack, a_otherStack, a_nestedAt, a_nestedEnd, a_rank, a_pairCount, a_firstOpen) :=
  ⟨l.length + 1, xn_keep_l h30 l [] 0 _ 0 a_kept rfl rfl (by omega) hh trivial (by omega) H⟩
/-- whatever lies in `built` -/
theorem xn_keepany_l {post : SX → Prop} {bs : Int32} (H : ∀ ks z, post (f_drafted, f_faultPlace, f_reportedSteps, f_resultSize, f_sheetSize, f_waitingSize, bs, f_unfinished, f_taken, ks, f_stacked, f_ranked, f_surveyed, a_draft, a_result, a_lefts, a_leftSize, a_ways, a_rights, a_rightSize, a_sheet, a_waiting, a_built, a_unfinishedStart, a_unfinishedLacks, z, a_matchStart, a_matchEnd, a_joint, a_unified, a_oneStack, a_otherStack, a_nestedAt, a_nestedEnd, a_rank, a_pairCount, a_firstOpen)) : ∀ (d k n : Nat) (c : Int32) (zk : Nat → Int64), k + d = 30 → d < n → wX_keepBuilt_7 post f_drafted f_faultPlace f_reportedSteps f_resultSize f_sheetSize f_waitingSize bs f_unfinished f_taken f_stacked f_ranked f_surveyed n (nI k) c a_draft a_result a_lefts a_leftSize a_ways a_rights a_rightSize a_sheet a_waiting a_built a_unfinishedStart a_unfinishedLacks zk a_matchStart a_matchEnd a_joint a_unified a_oneStack a_otherStack a_nestedAt a_nestedEnd a_rank a_pairCount a_firstOpen
  | 0, k, n, c, zk, hk, hn => by
    obtain ⟨n, rfl⟩ : ∃ n', n = n' + 1 := ⟨n - 1, by omega⟩
    refine br_c (fun _ => H c zk) (fun _ => ?_)
    exact pk_le 30 k (fun _ => H c zk) (fun z => absurd z (by omega))
  | d + 1, k, n, c, zk, hk, hn => by
    obtain ⟨n, rfl⟩ : ∃ n', n = n' + 1 := ⟨n - 1, by omega⟩
    refine br_c (fun _ => H c zk) (fun _ => ?_)
    refine pk_le 30 k (fun _ => H c zk) (fun _ => ⟨vp_in_nI (by omega) (by omega), vp_in_nI (by omega) (by omega), ?_⟩)
    exact nm_e (nm_e (nm_r (nI_1 k) (xn_keepany_l H d (k + 1) n _ _ (by omega) (by omega))))
theorem xn_keepany {post : SX → Prop} {bs : Int32} (H : ∀ ks z, post (f_drafted, f_faultPlace, f_reportedSteps, f_resultSize, f_sheetSize, f_waitingSize, bs, f_unfinished, f_taken, ks, f_stacked, f_ranked, f_surveyed, a_draft, a_result, a_lefts, a_leftSize, a_ways, a_rights, a_rightSize, a_sheet, a_waiting, a_built, a_unfinishedStart, a_unfinishedLacks, z, a_matchStart, a_matchEnd, a_joint, a_unified, a_oneStack, a_otherStack, a_nestedAt, a_nestedEnd, a_rank, a_pairCount, a_firstOpen)) : wpX_keepBuilt post (f_drafted, f_faultPlace, f_reportedSteps, f_resultSize, f_sheetSize, f_waitingSize, bs, f_unfinished, f_taken, f_keptSize, f_stacked, f_ranked, f_surveyed, a_draft, a_result, a_lefts, a_leftSize, a_ways, a_rights, a_rightSize, a_sheet, a_waiting, a_built, a_unfinishedStart, a_unfinishedLacks, a_kept, a_matchStart, a_matchEnd, a_joint, a_unified, a_oneStack, a_otherStack, a_nestedAt, a_nestedEnd, a_rank, a_pairCount, a_firstOpen) :=
  ⟨31, xn_keepany_l H 30 0 31 0 a_kept rfl (by omega)⟩
theorem xn_same_l {post : Int32 → Prop} {K : Nat} (hK : K ≤ 30) : ∀ (a b : List Int64) (k n : Nat), a.length = b.length → k + a.length = K → hd_h a_kept k a → hd_h a_built k b → a.length < n → (a = b → post 1) → (a ≠ b → post 0) → wX_isBuiltAsKept_15 post f_drafted f_faultPlace f_reportedSteps f_resultSize f_sheetSize f_waitingSize f_builtSize f_unfinished f_taken (nI K) f_stacked f_ranked f_surveyed a_draft a_result a_lefts a_leftSize a_ways a_rights a_rightSize a_sheet a_waiting a_built a_unfinishedStart a_unfinishedLacks a_kept a_matchStart a_matchEnd a_joint a_unified a_oneStack a_otherStack a_nestedAt a_nestedEnd a_rank a_pairCount a_firstOpen n (nI k)
  | [], [], k, n, he, h1, h2, h3, hn, hy, hz => by
    obtain ⟨n, rfl⟩ : ∃ n', n = n' + 1 := ⟨n - 1, by omega⟩
    rw [List.length_nil] at h1
    exact pk_le K k (fun _ => hy rfl) (fun z => absurd z (by omega))
  | [], y :: b, k, n, he, h1, h2, h3, hn, hy, hz => by simp at he
  | x :: a, [], k, n, he, h1, h2, h3, hn, hy, hz => by simp at he
  | x :: a, y :: b, k, n, he, h1, h2, h3, hn, hy, hz => by
    obtain ⟨n, rfl⟩ : ∃ n', n = n' + 1 := ⟨n - 1, by omega⟩
    rw [List.length_cons] at h1 hn
    refine pk_le K k (fun z => absurd z (by omega)) (fun _ => ⟨vp_in_nI (by omega) (by omega), vp_in_nI (by omega) (by omega), ?_⟩)
    rw [nI_clamp (by omega), h2.1, h3.1]
    by_cases h : x = y
    · refine br_t h (nm_r (nI_1 k) (xn_same_l hK a b (k + 1) n (by simpa using he) (by omega) h2.2 h3.2 (by omega) (fun e => hy (by rw [h, e])) (fun e => hz (fun z => e (by injection z)))))
    · exact br_f h (hz (fun z => h (by injection z)))
theorem xn_same {post : Int32 → Prop} {a b : List Int64} (K B : Nat) (hK : K = a.length) (hB : B = b.length) (hK30 : K ≤ 30) (hB30 : B ≤ 30) (h2 : hd_h a_kept 0 a) (h3 : hd_h a_built 0 b) (hy : a = b → post 1) (hz : a ≠ b → post 0) : wpX_isBuiltAsKept post (f_drafted, f_faultPlace, f_reportedSteps, f_resultSize, f_sheetSize, f_waitingSize, nI B, f_unfinished, f_taken, nI K, f_stacked, f_ranked, f_surveyed, a_draft, a_result, a_lefts, a_leftSize, a_ways, a_rights, a_rightSize, a_sheet, a_waiting, a_built, a_unfinishedStart, a_unfinishedLacks, a_kept, a_matchStart, a_matchEnd, a_joint, a_unified, a_oneStack, a_otherStack, a_nestedAt, a_nestedEnd, a_rank, a_pairCount, a_firstOpen) := by
  refine pk_eq K B (fun e => ⟨a.length + 1, ?_⟩) (fun e => hz (fun z => e (by rw [hK, hB, z])))
  rw [← nI_0]
  exact xn_same_l hK30 a b 0 _ (by omega) (by omega) h2 h3 (by omega) hy hz
end
