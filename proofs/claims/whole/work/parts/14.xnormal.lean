/-! the component: the normal form's loop follows the machine -/
def xn_fs (us ul : Nat → Int32) : List (List Int64 × Nat) → Prop
  | [] => True
  | (_, k) :: F => us F.length = nI (mc_fl F).length ∧ ul F.length = nI k ∧ xn_fs us ul F
def xn_F (m : Option (List Int64)) (F : List (List Int64 × Nat)) : List (List Int64 × Nat) := match m with
  | none => F
  | some s => (s, 0) :: F
theorem xn_fs_congr {us ul us' ul' : Nat → Int32} : ∀ {F : List (List Int64 × Nat)}, (∀ j, j < F.length → us' j = us j ∧ ul' j = ul j) → xn_fs us ul F → xn_fs us' ul' F
  | [], _, _ => trivial
  | (p, k) :: F, h, hh => by
    have h1 := h F.length (by simp)
    refine ⟨h1.1.trans hh.1, h1.2.trans hh.2.1, xn_fs_congr (fun j hj => h j ?_) hh.2.2⟩
    rw [List.length_cons]; omega
section
variable {f_drafted f_faultPlace f_reportedSteps f_resultSize f_sheetSize f_waitingSize f_builtSize f_unfinished f_taken f_keptSize f_stacked f_ranked f_surveyed : Int32} {a_draft a_result a_lefts a_rights a_sheet a_waiting a_built a_kept a_joint : Nat → Int64} {a_leftSize a_ways a_rightSize a_unfinishedStart a_unfinishedLacks a_matchStart a_matchEnd a_unified a_oneStack a_otherStack a_nestedAt a_nestedEnd a_rank a_pairCount a_firstOpen : Nat → Int32}
variable {P : Int64 → Prop} {L R : Nat → List Int64}
theorem xn_fin {J : Int32 → Int32 → Int32 → Int32 → Int32 → Int32 → Int32 → Int32 → Int32 → Int32 → Int32 → Int32 → Int32 → Int32 → (Nat → Int64) → (Nat → Int64) → (Nat → Int64) → (Nat → Int32) → (Nat → Int32) → (Nat → Int64) → (Nat → Int32) → (Nat → Int64) → (Nat → Int64) → (Nat → Int64) → (Nat → Int32) → (Nat → Int32) → (Nat → Int64) → (Nat → Int32) → (Nat → Int32) → (Nat → Int64) → (Nat → Int32) → (Nat → Int32) → (Nat → Int32) → (Nat → Int32) → (Nat → Int32) → (Nat → Int32) → (Nat → Int32) → (Nat → Int32) → Prop} {ss : Int32} {ms me us ul : Nat → Int32} {zs zw zb : Nat → Int64} {W s : List Int64} {F : List (List Int64 × Nat)} {i : Nat} (t : Nat) (hPt : ∀ x, P x → tk_t x) (hF : mc_fo P F) (hFl : F.length < 2046) (hk : ∀ p k, (p, k) ∈ F → 1 ≤ k) (hw : hd_h zw 0 W.reverse) (hb : hd_h zb 0 (mc_fl F ++ s)) (hu : xn_fs us ul F) (bs uf : Nat) (hbs : bs = (mc_fl F).length + s.length) (huf : uf = F.length + 1)
    (He : F = [] → mc_fin W F t s = .inr (0, t, s) → J (nI (i + 1)) f_drafted f_faultPlace f_reportedSteps f_resultSize ss (nI W.length) (nI bs) (nI 0) (nI t) f_keptSize f_stacked f_ranked f_surveyed a_draft a_result a_lefts a_leftSize a_ways a_rights a_rightSize zs zw zb us ul a_kept ms me a_joint a_unified a_oneStack a_otherStack a_nestedAt a_nestedEnd a_rank a_pairCount a_firstOpen)
    (Hc : ∀ F' m' ul' uf', mc_fin W F t s = .inl (W, F', t, m') → hd_h zb 0 (mc_fl (xn_F m' F')) → xn_fs us ul' (xn_F m' F') → bs = (mc_fl (xn_F m' F')).length → uf' = (xn_F m' F').length → J (nI (i + 1)) f_drafted f_faultPlace f_reportedSteps f_resultSize ss (nI W.length) (nI bs) (nI uf') (nI t) f_keptSize f_stacked f_ranked f_surveyed a_draft a_result a_lefts a_leftSize a_ways a_rights a_rightSize zs zw zb us ul' a_kept ms me a_joint a_unified a_oneStack a_otherStack a_nestedAt a_nestedEnd a_rank a_pairCount a_firstOpen) :
    wpX_finishTerm (fun u => match u with | (f_drafted0, f_faultPlace0, f_reportedSteps0, f_resultSize0, f_sheetSize0, f_waitingSize0, f_builtSize0, f_unfinished0, f_taken0, f_keptSize0, f_stacked0, f_ranked0, f_surveyed0, a_draft0, a_result0, a_lefts0, a_leftSize0, a_ways0, a_rights0, a_rightSize0, a_sheet0, a_waiting0, a_built0, a_unfinishedStart0, a_unfinishedLacks0, a_kept0, a_matchStart0, a_matchEnd0, a_joint0, a_unified0, a_oneStack0, a_otherStack0, a_nestedAt0, a_nestedEnd0, a_rank0, a_pairCount0, a_firstOpen0) => ∀ y, y = nI i + 1 → J y f_drafted0 f_faultPlace0 f_reportedSteps0 f_resultSize0 f_sheetSize0 f_waitingSize0 f_builtSize0 f_unfinished0 f_taken0 f_keptSize0 f_stacked0 f_ranked0 f_surveyed0 a_draft0 a_result0 a_lefts0 a_leftSize0 a_ways0 a_rights0 a_rightSize0 a_sheet0 a_waiting0 a_built0 a_unfinishedStart0 a_unfinishedLacks0 a_kept0 a_matchStart0 a_matchEnd0 a_joint0 a_unified0 a_oneStack0 a_otherStack0 a_nestedAt0 a_nestedEnd0 a_rank0 a_pairCount0 a_firstOpen0) (f_drafted, f_faultPlace, f_reportedSteps, f_resultSize, ss, nI W.length, nI bs, nI uf, nI t, f_keptSize, f_stacked, f_ranked, f_surveyed, a_draft, a_result, a_lefts, a_leftSize, a_ways, a_rights, a_rightSize, zs, zw, zb, us, ul, a_kept, ms, me, a_joint, a_unified, a_oneStack, a_otherStack, a_nestedAt, a_nestedEnd, a_rank, a_pairCount, a_firstOpen) := by
  subst huf
  cases F with
  | nil => exact xc_fin0 (nm_r (nI_1 i) (He rfl rfl))
  | cons a F =>
    obtain ⟨p, k⟩ := a
    have h1 := hk p k (List.mem_cons.mpr (Or.inl rfl))
    obtain ⟨j, rfl⟩ : ∃ j, k = j + 1 := ⟨k - 1, by omega⟩
    rw [List.length_cons] at hFl ⊢
    refine xc_fin1 (k := F.length) (j := j) (by omega) hu.2.1 (nm_r (nI_1 i) ?_)
    have hfl : mc_fl ((p, j + 1) :: F) ++ s = mc_fl F ++ (p ++ s) := List.append_assoc _ _ _
    have hbs' : bs = (mc_fl F ++ (p ++ s)).length := by rw [← hfl, List.length_append]; exact hbs
    rw [hfl] at hb
    have hu' : xn_fs us (upd ul F.length (nI j)) F := xn_fs_congr (fun i hi => ⟨rfl, pk_un (by omega)⟩) hu.2.2
    by_cases hj : j = 0
    · subst hj
      exact Hc F (some (p ++ s)) _ _ rfl hb ⟨hu.1, pk_us, hu'⟩ hbs' rfl
    · refine Hc ((p ++ s, j) :: F) none _ _ ?_ hb ⟨hu.1, pk_us, hu'⟩ hbs' rfl
      show (if j + 1 ≤ 1 then _ else _) = _
      rw [if_neg (by omega)]
      rfl

theorem xn_st_len {W : List Int64} {F : List (List Int64 × Nat)} {t : Nat} {m : Option (List Int64)} (hI : mc_I P W F t m) : W.length + (mc_fl (xn_F m F)).length ≤ 1830 ∧ (xn_F m F).length ≤ 1830 := by
  obtain ⟨h1, h2, h3, h4⟩ := hI
  have h5 := mc_fl_len h3
  cases m with
  | none =>
    obtain ⟨_, h6⟩ := h4
    show W.length + (mc_fl F).length ≤ 1830 ∧ F.length ≤ 1830
    omega
  | some s =>
    obtain ⟨_, h6, _, h7⟩ := h4
    have h8 := tm_w_len _ _ h6
    show W.length + (mc_fl F ++ s).length ≤ 1830 ∧ F.length + 1 ≤ 1830
    rw [List.length_append]
    omega
theorem xn_l {post : Int32 → SX → Prop} (hPt : ∀ x, P x → tk_t x) (hd : ∀ x, tk_d x → P x) (hG : mc_G L R) (hR : xr_R L R a_lefts a_leftSize a_ways a_rights a_rightSize) : ∀ (f : Nat) (W : List Int64) (F : List (List Int64 × Nat)) (t : Nat) (m : Option (List Int64)) (n i ws bs uf : Nat) (ss : Int32) (zs zw zb : Nat → Int64) (us ul ms me : Nat → Int32), mc_I P W F t m → mc_mu W F t m < f → i + f ≤ 10000000 → ws = W.length → bs = (mc_fl (xn_F m F)).length → uf = (xn_F m F).length → hd_h zw 0 W.reverse → hd_h zb 0 (mc_fl (xn_F m F)) → xn_fs us ul (xn_F m F) → f + 2 ≤ n → (∀ c t' s', mc_run L R f W F t m = (c, t', s') → ∀ (ss ws bs uf : Int32) (zs zw zb : Nat → Int64) (us ul ms me : Nat → Int32), (c = 0 → bs = nI s'.length ∧ hd_h zb 0 s') → post (nI c) (f_drafted, f_faultPlace, f_reportedSteps, f_resultSize, ss, ws, bs, uf, nI t', f_keptSize, f_stacked, f_ranked, f_surveyed, a_draft, a_result, a_lefts, a_leftSize, a_ways, a_rights, a_rightSize, zs, zw, zb, us, ul, a_kept, ms, me, a_joint, a_unified, a_oneStack, a_otherStack, a_nestedAt, a_nestedEnd, a_rank, a_pairCount, a_firstOpen)) → wX_normalForm_21 post n (nI i) f_drafted f_faultPlace f_reportedSteps f_resultSize ss (nI ws) (nI bs) (nI uf) (nI t) f_keptSize f_stacked f_ranked f_surveyed a_draft a_result a_lefts a_leftSize a_ways a_rights a_rightSize zs zw zb us ul a_kept ms me a_joint a_unified a_oneStack a_otherStack a_nestedAt a_nestedEnd a_rank a_pairCount a_firstOpen
  | 0, W, F, t, m, n, i, ws, bs, uf, ss, zs, zw, zb, us, ul, ms, me, hI, hmu, hi, hws, hbs, huf, hw, hb, hu, hn, H => absurd hmu (by omega)
  | f + 1, W, F, t, m, n, i, ws, bs, uf, ss, zs, zw, zb, us, ul, ms, me, hI, hmu, hi, hws, hbs, huf, hw, hb, hu, hn, H => by
    obtain ⟨n, rfl⟩ : ∃ n', n = n' + 1 := ⟨n - 1, by omega⟩
    have hlen := xn_st_len hI
    have hHC : ∀ W' F' t' m', mc_st L R W F t m = .inl (W', F', t', m') → ∀ (ws bs uf : Nat) (ss : Int32) (zs zw zb : Nat → Int64) (us ul ms me : Nat → Int32), ws = W'.length → bs = (mc_fl (xn_F m' F')).length → uf = (xn_F m' F').length → hd_h zw 0 W'.reverse → hd_h zb 0 (mc_fl (xn_F m' F')) → xn_fs us ul (xn_F m' F') → wX_normalForm_21 post n (nI (i + 1)) f_drafted f_faultPlace f_reportedSteps f_resultSize ss (nI ws) (nI bs) (nI uf) (nI t') f_keptSize f_stacked f_ranked f_surveyed a_draft a_result a_lefts a_leftSize a_ways a_rights a_rightSize zs zw zb us ul a_kept ms me a_joint a_unified a_oneStack a_otherStack a_nestedAt a_nestedEnd a_rank a_pairCount a_firstOpen := by
      intro W' F' t' m' e ws bs uf ss zs zw zb us ul ms me a1 a2 a3 a4 a5 a6
      rcases mc_pres hd hG hI with ⟨W1, F1, t1, m1, e1, e2, e3⟩ | ⟨c, t1, s1, e1, e2, e3, e4⟩
      · rw [e] at e1
        injection e1 with e1
        injection e1 with g1 e1
        injection e1 with g2 e1
        injection e1 with g3 g4
        subst g1 g2 g3 g4
        refine xn_l hPt hd hG hR f W' F' t' m' n (i + 1) ws bs uf ss zs zw zb us ul ms me e2 (by omega) (by omega) a1 a2 a3 a4 a5 a6 (by omega) (fun c t2 s2 er => H c t2 s2 ?_)
        rw [mc_run, e]
        exact er
      · rw [e] at e1
        exact absurd e1 (by simp)
    have hHE : ∀ t' s', mc_st L R W F t m = .inr (0, t', s') → ∀ (ss : Int32) (zs zw zb : Nat → Int64) (us ul ms me : Nat → Int32), hd_h zb 0 s' → wX_normalForm_21 post n (nI (i + 1)) f_drafted f_faultPlace f_reportedSteps f_resultSize ss (nI 0) (nI s'.length) (nI 0) (nI t') f_keptSize f_stacked f_ranked f_surveyed a_draft a_result a_lefts a_leftSize a_ways a_rights a_rightSize zs zw zb us ul a_kept ms me a_joint a_unified a_oneStack a_otherStack a_nestedAt a_nestedEnd a_rank a_pairCount a_firstOpen := by
      intro t' s' e ss zs zw zb us ul ms me a1
      obtain ⟨n, rfl⟩ : ∃ n', n = n' + 1 := ⟨n - 1, by omega⟩
      have hp := H 0 t' s' (by rw [mc_run, e]) ss (nI 0) (nI s'.length) (nI 0) zs zw zb us ul ms me (fun _ => ⟨rfl, a1⟩)
      refine pk_le 10000000 (i + 1) (fun _ => hp) (fun _ => br_t (by decide) hp)
    have hHP : ∀ c t' s', mc_st L R W F t m = .inr (c, t', s') → c ≠ 0 → ∀ (ss ws bs uf : Int32) (zs zw zb : Nat → Int64) (us ul ms me : Nat → Int32), post (nI c) (f_drafted, f_faultPlace, f_reportedSteps, f_resultSize, ss, ws, bs, uf, nI t', f_keptSize, f_stacked, f_ranked, f_surveyed, a_draft, a_result, a_lefts, a_leftSize, a_ways, a_rights, a_rightSize, zs, zw, zb, us, ul, a_kept, ms, me, a_joint, a_unified, a_oneStack, a_otherStack, a_nestedAt, a_nestedEnd, a_rank, a_pairCount, a_firstOpen) := by
      intro c t' s' e hc ss ws bs uf zs zw zb us ul ms me
      exact H c t' s' (by rw [mc_run, e]) ss ws bs uf zs zw zb us ul ms me (fun z => absurd z hc)
    subst hws hbs huf
    refine pk_le 10000000 i (fun z => absurd z (by omega)) (fun _ => ?_)
    have hI' := hI
    obtain ⟨ht, hW, hF, hm⟩ := hI'
    cases m with
    | none =>
      obtain ⟨h1, h2⟩ := hm
      cases W with
      | nil => rw [tm_w_nil] at h1; omega
      | cons c W =>
        have hlW : (c :: W).length = W.length + 1 := rfl
        have hlF : (xn_F none F).length = F.length := rfl
        refine pk_le ((xn_F none F).length + (c :: W).length) 0 (fun z => absurd z (by omega)) (fun _ => ?_) (nI_add _ _) rfl
        have hread : wX_normalForm_60 post (wX_normalForm_21 post n) (nI i) f_drafted f_faultPlace f_reportedSteps f_resultSize ss (nI (c :: W).length) (nI (mc_fl F).length) (nI F.length) (nI t) f_keptSize f_stacked f_ranked f_surveyed a_draft a_result a_lefts a_leftSize a_ways a_rights a_rightSize zs zw zb us ul a_kept ms me a_joint a_unified a_oneStack a_otherStack a_nestedAt a_nestedEnd a_rank a_pairCount a_firstOpen := by
          refine xc_read (W := W) (mc_fl F).length F.length (c :: W).length hlW hw (by omega) (by have := hlen.1; show (mc_fl (xn_F none F)).length < 2048; omega) (by omega) (nm_r (nI_1 i) ?_)
          have hb' : hd_h (vp_updL zb (mc_fl F).length c) 0 (mc_fl F ++ [c]) := by
            have := hd_snocL (x := c) (show hd_h zb 0 (mc_fl F) from hb)
            rwa [Nat.zero_add] at this
          have hw' : hd_h zw 0 W.reverse := by
            rw [List.reverse_cons] at hw
            exact (hd_app.mp hw).1
          have hu' : xn_fs (upd us F.length (nI (mc_fl F).length)) (upd ul F.length (nI (tm_ar c))) F := xn_fs_congr (fun j hj => ⟨pk_un (by omega), pk_un (by omega)⟩) hu
          have hl' : (mc_fl F).length + 1 = (mc_fl F ++ [c]).length := by rw [List.length_append]; rfl
          by_cases ha : tm_ar c = 0
          · refine hHC W F t (some [c]) (if_pos ha) W.length ((mc_fl F).length + 1) (F.length + 1) ss zs zw _ _ _ ms me rfl hl' rfl hw' hb' ⟨pk_us, ?_, hu'⟩
            rw [ha]; exact pk_us
          · exact hHC W (([c], tm_ar c) :: F) t none (if_neg ha) W.length ((mc_fl F).length + 1) (F.length + 1) ss zs zw _ _ _ ms me rfl hl' rfl hw' hb' ⟨pk_us, pk_us, hu'⟩
        refine pk_eq F.length 0 (fun _ => hread) (fun h0 => ?_)
        cases F with
        | nil => exact absurd rfl h0
        | cons a F =>
          obtain ⟨p, k⟩ := a
          have hk := (hF p k (List.mem_cons.mpr (Or.inl rfl))).2
          rw [List.length_cons] at hlF
          have e : nI ((p, k) :: F).length - 1 = nI F.length := nI_pred F.length
          refine ⟨by show vp_in (nI ((p, k) :: F).length - 1) 2048; rw [e]; exact vp_in_nI (by omega) (by omega), ?_⟩
          refine pk_le k 0 (fun z => absurd z (by omega)) (fun _ => hread) ?_ rfl
          show ul (nI ((p, k) :: F).length - 1).toNatClampNeg = nI k
          rw [e, nI_clamp (by omega)]
          exact hu.2.1
    | some s =>
      obtain ⟨h1, h2, h3, h4⟩ := hm
      have hlF : (xn_F (some s) F).length = F.length + 1 := rfl
      have hlB : (mc_fl (xn_F (some s) F)).length = (mc_fl F).length + s.length := List.length_append
      rw [hlB]
      rw [hlB, hlF] at hlen
      have hb2 : hd_h zb 0 (mc_fl F ++ s) := hb
      have hbs := (hd_app.mp hb2).2
      rw [Nat.zero_add] at hbs
      refine pk_le ((xn_F (some s) F).length + W.length) 0 (fun z => absurd z (by omega)) (fun _ => ?_) (nI_add _ _) rfl
      refine pk_eq (F.length + 1) 0 (fun z => absurd z (by omega)) (fun _ => ?_)
      have e : nI (xn_F (some s) F).length - 1 = nI F.length := nI_pred F.length
      have hin : vp_in (nI (xn_F (some s) F).length - 1) 2048 := by rw [e]; exact vp_in_nI (by omega) (by omega)
      refine ⟨hin, br_t ?_ ⟨hin, nm_r (e' := nI (mc_fl F).length) ?_ ?_⟩⟩
      · rw [e, nI_clamp (by omega), hu.2.1]; exact Int32.le_refl _
      · rw [e, nI_clamp (by omega)]; exact hu.1
      · refine pk_le s.length 30 (fun h30 => ?_) (fun h30 => ?_) (by rw [pk_sub (by omega), show (mc_fl F).length + s.length - (mc_fl F).length = s.length by omega]) rfl
        · refine xc_ord (mc_fl F).length ((mc_fl F).length + s.length) h2 h30 hbs rfl (by omega) (fun ss zs zb' hz1 hz2 => ?_)
          have hol := mc_or_len s
          have how := mc_or_w h2
          have hoP : ∀ x, x ∈ mc_or s → tk_t x := fun x hx => hPt x (h3 x (mc_or_mem hx))
          have hone : mc_or s ≠ [] := by
            intro z
            rw [z] at hol
            have := tm_w_len _ _ h2
            rw [List.length_nil] at hol
            omega
          have hb3 : hd_h zb' 0 (mc_fl F) := hd_keepl hz2 (hd_app.mp hb2).1 (by omega)
          have hb4 : hd_h zb' 0 (mc_fl F ++ mc_or s) := hd_app.mpr ⟨hb3, by rw [Nat.zero_add]; exact hz1⟩
          have hkF : ∀ p k, (p, k) ∈ F → 1 ≤ k := fun p k h => (hF p k h).2.1
          refine xc_ari (mc_fl F).length ((mc_fl F).length + s.length) hone hoP hz1 (by omega) (by omega) (fun v hv => ?_) (fun hv => ?_)
          · refine br_f (by decide) (br_f (by decide) (nm_r (nI_1 t) ?_))
            have hst : ∀ x, (if 60 < t + 1 then Sum.inr (2, t + 1, []) else mc_fin W F (t + 1) [v]) = x → mc_st L R W F t (some s) = x := by
              intro x hx
              rw [mc_st, if_neg (by omega), hv]
              exact hx
            refine pk_le (t + 1) 60 (fun h60 => ?_) (fun h60 => ?_)
            · rw [if_neg (by omega)] at hst
              refine br_f (by decide) ?_
              refine xc_cal (mc_fl F).length hz1 (by have := (mc_ar_d hv).2; omega) hv ?_
              refine xn_fin (W := W) (s := [v]) (t + 1) hPt hF (by omega) hkF hw ?_ hu.2.2 _ _ rfl rfl (fun eF e0 => ?_) (fun F' m' ul' uf' e0 g1 g2 g3 g4 => ?_)
              · have := hd_snocL (x := v) hb3
                rwa [Nat.zero_add] at this
              · subst eF
                have eW : W = [] := tm_w_0 h1
                subst eW
                refine hHE (t + 1) [v] (hst _ e0) ss zs zw _ us ul ms me ?_
                exact ⟨pk_uLs, trivial⟩
              · exact hHC W F' (t + 1) m' (hst _ e0) _ _ _ ss zs zw _ us ul' ms me rfl g3 g4 hw g1 g2
            · rw [if_pos (by omega)] at hst
              exact hHP 2 (t + 1) [] (hst _ rfl) (by omega) _ _ _ _ _ _ _ _ _ _ _
          · refine br_t rfl ?_
            refine xm_ruleFor (mc_fl F).length ((mc_fl F).length + s.length) 1 hG hR (by omega) (by omega) hz1 hoP how (fun r β ms' me' hf hbb => ?_) (fun ms' me' hf => ?_)
            · obtain ⟨_, hr8, hL0, _⟩ := mc_fr _ _ _ _ hf
              have hst : ∀ x, (if 60 < t + 1 then Sum.inr (2, t + 1, []) else if 30 < (ru_in β (R r)).length then .inr (3, t + 1, []) else .inl (ru_in β (R r) ++ W, F, t + 1, none)) = x → mc_st L R W F t (some s) = x := by
                intro x hx
                rw [mc_st, if_neg (by omega), hv, hf]
                exact hx
              refine br_t rfl (br_t (nI_pos' (by omega)) (nm_r (nI_1 t) ?_))
              refine pk_le (t + 1) 60 (fun h60 => ?_) (fun h60 => ?_)
              · rw [if_neg (by omega)] at hst
                refine br_t rfl ?_
                refine xi_in r ((mc_fl F).length + s.length) hG hR (by omega) hL0 (by omega) hbb (fun z hz => ?_)
                refine pk_le ((ru_in β (R r)).take 31).length 30 (fun hi30 => ?_) (fun hi30 => ?_) rfl rfl (by rw [List.length_take]; omega)
                · have hl30 : (ru_in β (R r)).length ≤ 30 := by rw [List.length_take] at hi30; omega
                  rw [if_neg (by omega)] at hst
                  have etk : (ru_in β (R r)).take 31 = ru_in β (R r) := List.take_of_length_le (by omega)
                  rw [etk] at hz ⊢
                  refine nm_r e ?_
                  refine xc_line (ru_in β (R r)).length W.length rfl rfl hz (by omega) hw (by omega) (fun z2 hz2 => nm_r (nI_1 i) ?_)
                  exact hHC _ _ _ _ (hst _ rfl) _ _ _ _ _ _ _ _ _ _ _ (by rw [List.length_append]) rfl rfl hz2 hb3 hu.2.2
                · have hl30 : 30 < (ru_in β (R r)).length := by rw [List.length_take] at hi30; omega
                  rw [if_pos hl30] at hst
                  exact hHP 3 (t + 1) [] (hst _ rfl) (by omega) _ _ _ _ _ _ _ _ _ _ _
              · rw [if_pos (by omega)] at hst
                exact hHP 2 (t + 1) [] (hst _ rfl) (by omega) _ _ _ _ _ _ _ _ _ _ _
            · have hst : ∀ x, mc_fin W F t (mc_or s) = x → mc_st L R W F t (some s) = x := by
                intro x hx
                rw [mc_st, if_neg (by omega), hv, hf]
                exact hx
              refine br_t rfl (br_f (by decide) ?_)
              refine xn_fin (W := W) (s := mc_or s) t hPt hF (by omega) hkF hw hb4 hu.2.2 _ _ (by rw [hol]) rfl (fun eF e0 => ?_) (fun F' m' ul' uf' e0 g1 g2 g3 g4 => ?_)
              · subst eF
                have eW : W = [] := tm_w_0 h1
                subst eW
                have hbz : hd_h zb' 0 (mc_or s) := hz1
                have := hHE t (mc_or s) (hst _ e0) ss zs zw _ us ul ms' me' hbz
                rw [hol] at this
                rw [show (mc_fl ([] : List (List Int64 × Nat))).length + s.length = s.length by rw [mc_fl, List.length_nil, Nat.zero_add]]
                exact this
              · exact hHC W F' t m' (hst _ e0) _ _ _ ss zs zw _ us ul' ms' me' rfl g3 g4 hw g1 g2
        · refine hHP 3 t [] ?_ (by omega) _ _ _ _ _ _ _ _ _ _ _
          rw [mc_st, if_pos (by omega)]
end
