/-! names by rank; the component writes an expansion -/
def rn_s (ra : Nat → Int32) (c : Nat) (t : Int64) : (Nat → Int32) × Nat := if t < 8589934592 then (ra, c) else if 0 ≤ ra (jn_n t) then (ra, c) else (upd ra (jn_n t) (nI c), c + 1)
def rn_n (ra : Nat → Int32) (t : Int64) : Int64 := if t < 8589934592 then t else 8589934592 + (ra (jn_n t)).toInt64
def rn_l : List Int64 → (Nat → Int32) → Nat → List Int64
  | [], _, _ => []
  | t :: l, ra, c => rn_n (rn_s ra c t).1 t :: rn_l l (rn_s ra c t).1 (rn_s ra c t).2
def rn_f : List Int64 → (Nat → Int32) → Nat → (Nat → Int32) × Nat
  | [], ra, c => (ra, c)
  | t :: l, ra, c => rn_f l (rn_s ra c t).1 (rn_s ra c t).2
theorem rn_l_len : ∀ (l : List Int64) (ra : Nat → Int32) (c : Nat), (rn_l l ra c).length = l.length
  | [], _, _ => rfl
  | t :: l, ra, c => by
    show (rn_l l _ _).length + 1 = l.length + 1
    rw [rn_l_len l]
def xk_F (J : Nat → Int64) (na ne : Nat → Int32) : List (Nat × Nat × List Int64) → Prop
  | [] => True
  | (p, _, l) :: F => (na F.length = nI p ∧ ne F.length = nI (p + l.length) ∧ hd_h J p l ∧ p + l.length ≤ 60) ∧ xk_F J na ne F
theorem xk_congr {J : Nat → Int64} {na ne na' ne' : Nat → Int32} : ∀ {F : List (Nat × Nat × List Int64)}, (∀ k, k < F.length → na' k = na k ∧ ne' k = ne k) → xk_F J na ne F → xk_F J na' ne' F
  | [], _, _ => trivial
  | (p, b, l) :: F, h, hh => by
    obtain ⟨e1, e2⟩ := h F.length (by simp)
    refine ⟨⟨e1.trans hh.1.1, e2.trans hh.1.2.1, hh.1.2.2⟩, xk_congr (fun k hk => h k ?_) hh.2⟩
    rw [List.length_cons]; omega
section
variable {f_drafted f_faultPlace f_reportedSteps f_resultSize f_sheetSize f_waitingSize f_builtSize f_unfinished f_taken f_keptSize f_stacked f_ranked f_surveyed : Int32} {a_draft a_result a_lefts a_rights a_sheet a_waiting a_built a_kept a_joint : Nat → Int64} {a_leftSize a_ways a_rightSize a_unfinishedStart a_unfinishedLacks a_matchStart a_matchEnd a_unified a_oneStack a_otherStack a_nestedAt a_nestedEnd a_rank a_pairCount a_firstOpen : Nat → Int32}
variable {A B : List Int64} {σ : Nat → Option Nat} {rk : Nat → Nat}
theorem xk_name {post : Int64 → SX → Prop} {t : Int64} {c : Nat} (ht : jn_k t) (hn : ¬ t < 8589934592) (h : post (rn_n (rn_s a_rank c t).1 t) (f_drafted, f_faultPlace, f_reportedSteps, f_resultSize, f_sheetSize, f_waitingSize, f_builtSize, f_unfinished, f_taken, f_keptSize, f_stacked, nI (rn_s a_rank c t).2, f_surveyed, a_draft, a_result, a_lefts, a_leftSize, a_ways, a_rights, a_rightSize, a_sheet, a_waiting, a_built, a_unfinishedStart, a_unfinishedLacks, a_kept, a_matchStart, a_matchEnd, a_joint, a_unified, a_oneStack, a_otherStack, a_nestedAt, a_nestedEnd, (rn_s a_rank c t).1, a_pairCount, a_firstOpen)) : wpX_nameInPeak post (f_drafted, f_faultPlace, f_reportedSteps, f_resultSize, f_sheetSize, f_waitingSize, f_builtSize, f_unfinished, f_taken, f_keptSize, f_stacked, nI c, f_surveyed, a_draft, a_result, a_lefts, a_leftSize, a_ways, a_rights, a_rightSize, a_sheet, a_waiting, a_built, a_unfinishedStart, a_unfinishedLacks, a_kept, a_matchStart, a_matchEnd, a_joint, a_unified, a_oneStack, a_otherStack, a_nestedAt, a_nestedEnd, a_rank, a_pairCount, a_firstOpen) t := by
  obtain ⟨hv, _, _⟩ := jn_var ht hn
  have hin : vp_in (nI (jn_n t)) 8 := vp_in_nI hv (by omega)
  have ec : (nI (jn_n t)).toNatClampNeg = jn_n t := nI_clamp (by omega)
  refine nm_r (e' := nI (jn_n t)) (jn_and7 ht hn) ⟨hin, ?_⟩
  rw [ec]
  unfold rn_s rn_n at h
  rw [if_neg hn, if_neg hn] at h
  by_cases h0 : 0 ≤ a_rank (jn_n t)
  · rw [if_pos h0] at h
    refine br_t h0 ⟨hin, ?_⟩
    rw [ec]
    exact h
  · rw [if_neg h0] at h
    refine br_f h0 ⟨hin, nm_r (e' := upd a_rank (jn_n t) (nI c)) rfl (nm_r (nI_1 c) ⟨hin, ?_⟩)⟩
    rw [ec]
    exact h
theorem xk_l {post : SX → Prop} {ρ : Nat → List Int64} (H : jn_H a_joint A B) (hR : us_R A B σ rk) (hu : xu_s a_unified σ) (hρ : us_Es A B σ ρ) (hρ0 : ∀ v, σ v = none → ρ v = [lN (8589934592 + v)]) : ∀ (k : Nat) (F : List (Nat × Nat × List Int64)) (n fu z : Nat) (q : List Int64) (ra na ne : Nat → Int32) (c : Nat) (zs : Nat → Int64), 30 * (31 - q.length) + 2 * z + (11 - F.length) ≤ k → n + k ≤ 10000000 → k < fu → q.length ≤ 31 → z ≤ F.length → (z = F.length ∨ ∀ p b l F', F = (p, b, l) :: F' → l ≠ []) → wk_c rk 8 F → xk_F a_joint na ne F → hd_h zs 0 q →
    (∀ (ss rc : Int32) (zs : Nat → Int64) (ra' na ne : Nat → Int32), ss = nI ((q ++ rn_l (wk_e ρ F) ra c).take 31).length → hd_h zs 0 ((q ++ rn_l (wk_e ρ F) ra c).take 31) → (q.length + (wk_e ρ F).length ≤ 30 → ra' = (rn_f (wk_e ρ F) ra c).1 ∧ rc = nI (rn_f (wk_e ρ F) ra c).2) → post (f_drafted, f_faultPlace, f_reportedSteps, f_resultSize, ss, f_waitingSize, f_builtSize, f_unfinished, f_taken, f_keptSize, f_stacked, rc, f_surveyed, a_draft, a_result, a_lefts, a_leftSize, a_ways, a_rights, a_rightSize, zs, a_waiting, a_built, a_unfinishedStart, a_unfinishedLacks, a_kept, a_matchStart, a_matchEnd, a_joint, a_unified, a_oneStack, a_otherStack, na, ne, ra', a_pairCount, a_firstOpen)) →
    wX_expand_19 post fu (nI F.length) (nI n) f_drafted f_faultPlace f_reportedSteps f_resultSize (nI q.length) f_waitingSize f_builtSize f_unfinished f_taken f_keptSize f_stacked (nI c) f_surveyed a_draft a_result a_lefts a_leftSize a_ways a_rights a_rightSize zs a_waiting a_built a_unfinishedStart a_unfinishedLacks a_kept a_matchStart a_matchEnd a_joint a_unified a_oneStack a_otherStack na ne ra a_pairCount a_firstOpen := by
  intro k
  induction k with
  | zero =>
    intro F n fu z q ra na ne c zs hk hn hfu hq hz hz2 hc hF hs Hp
    have : F.length ≤ 9 := by
      cases F with
      | nil => simp
      | cons a F => obtain ⟨p, b, l⟩ := a; have := hc.1; rw [List.length_cons]; omega
    omega
  | succ k ih =>
    intro F n fu z q ra na ne c zs hk hn hfu hq hz hz2 hc hF hs Hp
    obtain ⟨fu, rfl⟩ : ∃ n', fu = n' + 1 := ⟨fu - 1, by omega⟩
    refine pk_le 10000000 n (fun z => absurd z (by omega)) (fun _ => ?_)
    cases F with
    | nil =>
      refine br_t (by decide) (Hp _ _ _ _ _ _ ?_ ?_ (fun _ => ⟨rfl, rfl⟩))
      · show nI q.length = nI ((q ++ []).take 31).length
        rw [List.append_nil, List.take_of_length_le hq]
      · show hd_h zs 0 ((q ++ []).take 31)
        rw [List.append_nil, List.take_of_length_le hq]
        exact hs
    | cons a F =>
      obtain ⟨p, b, l⟩ := a
      have hlen : ((p, b, l) :: F).length = F.length + 1 := rfl
      rw [hlen] at hk hz hz2 ⊢
      obtain ⟨c1, c2, c3, c4⟩ := hc
      obtain ⟨⟨f1, f2, f3, f4⟩, f5⟩ := hF
      refine pk_le (F.length + 1) 0 (fun z => absurd z (by omega)) (fun _ => ?_)
      refine pk_le 31 q.length (fun h31 => ?_) (fun h31 => ?_)
      · refine Hp _ _ _ _ _ _ ?_ ?_ (fun z => absurd z (by omega))
        · rw [xi_take' h31, List.take_of_length_le hq]
        · rw [xi_take' h31, List.take_of_length_le hq]; exact hs
      · have e1 : nI (F.length + 1) - 1 = nI F.length := nI_pred _
        have hin : vp_in (nI (F.length + 1) - 1) 9 := by rw [e1]; exact vp_in_nI (by omega) (by omega)
        have ec : (nI (F.length + 1) - 1).toNatClampNeg = F.length := by rw [e1]; exact nI_clamp (by omega)
        refine ⟨hin, nm_r (e' := nI p) (by rw [ec]; exact f1) ⟨hin, ?_⟩⟩
        rw [ec, f2]
        cases l with
        | nil =>
          refine pk_le (p + ([] : List Int64).length) p (fun _ => ?_) (fun z => absurd z (by simp)) rfl rfl (by simp at f4 ⊢; omega) (by simp at f4; omega)
          refine nm_r (e' := nI F.length) (pk_m1 _) (nm_r (nI_1 n) ?_)
          have hz3 : z = F.length + 1 := by
            rcases hz2 with h | h
            · exact h
            · exact absurd rfl (h p b [] F rfl)
          exact ih F (n + 1) fu (z - 1) q ra na ne c zs (by omega) (by omega) (by omega) hq (by omega) (Or.inl (by omega)) c4 f5 hs Hp
        | cons t l =>
          rw [List.length_cons] at f2 f4
          have htk := c2 t (List.mem_cons.mpr (Or.inl rfl))
          have hc2 : ∀ t, t ∈ l → jn_k t := fun x hx => c2 x (List.mem_cons.mpr (Or.inr hx))
          have hc3 : ∀ t, t ∈ l → ¬ t < 8589934592 → rk (jn_n t) < b := fun x hx => c3 x (List.mem_cons.mpr (Or.inr hx))
          refine pk_le (p + (t :: l).length) p (fun z => absurd z (by simp)) (fun _ => ?_) rfl rfl (by rw [List.length_cons]; omega) (by omega)
          refine pk_lt p 60 (fun _ => ?_) (fun z => absurd z (by omega))
          refine ⟨hin, hin, nm_r (e' := upd na F.length (nI (p + 1))) (by rw [f1, nI_1]) ⟨vp_in_nI (by omega) (by omega), nm_r (e' := t) (by rw [nI_clamp (by omega)]; exact f3.1) ?_⟩⟩
          have frame : xk_F a_joint (upd na F.length (nI (p + 1))) ne ((p + 1, b, l) :: F) := by
            refine ⟨⟨pk_us, ?_, f3.2, by omega⟩, xk_congr (fun k hk => ⟨pk_un (by omega), rfl⟩) f5⟩
            rw [f2, show p + (l.length + 1) = p + 1 + l.length by omega]
          have cond : wk_c rk 8 ((p + 1, b, l) :: F) := ⟨c1, hc2, hc3, c4⟩
          -- a token is written
          have wr : ∀ (t' : Int64) (ra1 : Nat → Int32) (c1' : Nat) (X : List Int64), wk_e ρ ((p, b, t :: l) :: F) = t :: X → X = us_E ρ l ++ wk_e ρ F → (rn_s ra c t) = (ra1, c1') → t' = rn_n ra1 t → wX_expand_185 post (wX_expand_19 post fu) (nI (F.length + 1)) (nI n) t' f_drafted f_faultPlace f_reportedSteps f_resultSize (nI q.length) f_waitingSize f_builtSize f_unfinished f_taken f_keptSize f_stacked (nI c1') f_surveyed a_draft a_result a_lefts a_leftSize a_ways a_rights a_rightSize zs a_waiting a_built a_unfinishedStart a_unfinishedLacks a_kept a_matchStart a_matchEnd a_joint a_unified a_oneStack a_otherStack (upd na F.length (nI (p + 1))) ne ra1 a_pairCount a_firstOpen := by
            intro t' ra1 c1' X eX eX2 ers et'
            refine xw_put h31 (nm_r (nI_1 n) ?_)
            have hs' : hd_h (vp_updL zs q.length t') 0 (q ++ [t']) := by
              have := hd_snocL (x := t') hs
              rwa [Nat.zero_add] at this
            have el : q.length + 1 = (q ++ [t']).length := by simp
            rw [el]
            refine ih ((p + 1, b, l) :: F) (n + 1) fu (F.length + 1) (q ++ [t']) ra1 _ ne c1' _ ?_ (by omega) (by omega) (by simp; omega) (by simp) (Or.inl (by simp)) cond frame hs' (fun ss rc zs ra' na ne h1 h2 h3 => Hp ss rc zs ra' na ne ?_ ?_ (fun hle => ?_))
            · rw [List.length_append, List.length_singleton, List.length_cons]
              have : F.length ≤ 8 := by omega
              omega
            · have e3 : q ++ rn_l (t :: X) ra c = (q ++ [t']) ++ rn_l (us_E ρ l ++ wk_e ρ F) ra1 c1' := by
                rw [rn_l, ers, ← et', eX2, List.append_assoc]; rfl
              rw [eX, e3]; exact h1
            · have e3 : q ++ rn_l (t :: X) ra c = (q ++ [t']) ++ rn_l (us_E ρ l ++ wk_e ρ F) ra1 c1' := by
                rw [rn_l, ers, ← et', eX2, List.append_assoc]; rfl
              rw [eX, e3]; exact h2
            · rw [eX, List.length_cons, eX2] at hle
              have := h3 (by
                rw [List.length_append, List.length_singleton]
                show q.length + 1 + (us_E ρ l ++ wk_e ρ F).length ≤ 30
                omega)
              rw [eX, rn_f, ers, eX2]
              exact this
          by_cases hs2 : t < 8589934592
          · refine br_f (Int64.not_le.mpr hs2) (br_t (by decide) (br_f (Int64.not_le.mpr hs2) ?_))
            refine wr t ra c (us_E ρ l ++ wk_e ρ F) ?_ rfl (by unfold rn_s; rw [if_pos hs2]) (by unfold rn_n; rw [if_pos hs2])
            show us_E ρ (t :: l) ++ wk_e ρ F = _
            rw [us_E_sym hs2]; rfl
          · obtain ⟨hv, ev, _⟩ := jn_var htk hs2
            have hb := c3 t (List.mem_cons.mpr (Or.inl rfl)) hs2
            refine br_t (Int64.not_lt.mp hs2) ?_
            rw [jn_and7 htk hs2]
            refine ⟨vp_in_nI hv (by omega), ?_⟩
            rw [nI_clamp (by omega)]
            cases e : σ (jn_n t) with
            | none =>
              rw [xu_none hu hv e]
              refine br_t (by decide) (br_t (Int64.not_lt.mp hs2) (xk_name htk hs2 ?_))
              refine wr _ _ _ (us_E ρ l ++ wk_e ρ F) ?_ rfl rfl rfl
              show us_E ρ (t :: l) ++ wk_e ρ F = _
              rw [us_E_var hs2, hρ0 _ e, ← ev]; rfl
            | some r =>
              obtain ⟨_, hr, hrk⟩ := hR.2 _ r e
              have hrl := jn_lt H hr
              obtain ⟨_, _, _, q1, _, tw, _, _, q6, tkk, _, _⟩ := jn_tm H hr
              rw [xu_some hu hv e]
              refine br_f (nI_pos (by omega)) (pk_le 9 (F.length + 1) (fun z => absurd z (by omega)) (fun _ => ?_))
              have hin9 : vp_in (nI (F.length + 1)) 9 := vp_in_nI (by omega) (by omega)
              have e9 : (nI (F.length + 1)).toNatClampNeg = F.length + 1 := nI_clamp (by omega)
              refine ⟨hin9, nm_r (e' := upd (upd na F.length (nI (p + 1))) (F.length + 1) (nI r)) (by rw [e9]) (xj_end H rfl hr ⟨hin9, nm_r (e' := upd ne (F.length + 1) (nI (r + (jn_t A B r).length))) (by rw [e9]) (nm_r (nI_1 _) (nm_r (nI_1 n) ?_))⟩)⟩
              have eE : wk_e ρ ((r, rk (jn_n t), jn_t A B r) :: (p + 1, b, l) :: F) = wk_e ρ ((p, b, t :: l) :: F) := by
                show us_E ρ (jn_t A B r) ++ (us_E ρ l ++ wk_e ρ F) = us_E ρ (t :: l) ++ wk_e ρ F
                rw [us_E_var hs2, hρ _ r e, List.append_assoc]
              rw [← eE] at Hp
              exact ih ((r, rk (jn_n t), jn_t A B r) :: (p + 1, b, l) :: F) (n + 1) fu z q ra _ _ c zs (by rw [List.length_cons, List.length_cons]; omega) (by omega) (by omega) hq (by rw [List.length_cons, List.length_cons]; omega) (Or.inr (fun p' b' l' F' e' => by injection e' with e' _; injection e' with _ e'; injection e' with _ e'; rw [← e', q1]; exact List.cons_ne_nil _ _)) ⟨by rw [List.length_cons]; omega, tkk, hrk, cond⟩ ⟨⟨pk_us, pk_us, q6, by omega⟩, xk_congr (fun k hk => ⟨pk_un (by rw [List.length_cons] at hk; omega), pk_un (by rw [List.length_cons] at hk; omega)⟩) frame⟩ hs Hp
theorem xk_expand {post : SX → Prop} {ρ : Nat → List Int64} {l q : List Int64} {x y : Int32} (p c k : Nat) (hk : k = q.length) (hx : x = nI p) (hy : y = nI (p + l.length)) (H : jn_H a_joint A B) (hR : us_R A B σ rk) (hu : xu_s a_unified σ) (hρ : us_Es A B σ ρ) (hρ0 : ∀ v, σ v = none → ρ v = [lN (8589934592 + v)]) (hl : hd_h a_joint p l) (hlk : ∀ t, t ∈ l → jn_k t) (hpl : p + l.length ≤ 60) (hq : q.length ≤ 31) (hs : hd_h a_sheet 0 q)
    (Hp : ∀ (ss rc : Int32) (zs : Nat → Int64) (ra' na ne : Nat → Int32), ss = nI ((q ++ rn_l (us_E ρ l) a_rank c).take 31).length → hd_h zs 0 ((q ++ rn_l (us_E ρ l) a_rank c).take 31) → (q.length + (us_E ρ l).length ≤ 30 → ra' = (rn_f (us_E ρ l) a_rank c).1 ∧ rc = nI (rn_f (us_E ρ l) a_rank c).2) → post (f_drafted, f_faultPlace, f_reportedSteps, f_resultSize, ss, f_waitingSize, f_builtSize, f_unfinished, f_taken, f_keptSize, f_stacked, rc, f_surveyed, a_draft, a_result, a_lefts, a_leftSize, a_ways, a_rights, a_rightSize, zs, a_waiting, a_built, a_unfinishedStart, a_unfinishedLacks, a_kept, a_matchStart, a_matchEnd, a_joint, a_unified, a_oneStack, a_otherStack, na, ne, ra', a_pairCount, a_firstOpen)) : wpX_expand post (f_drafted, f_faultPlace, f_reportedSteps, f_resultSize, nI k, f_waitingSize, f_builtSize, f_unfinished, f_taken, f_keptSize, f_stacked, nI c, f_surveyed, a_draft, a_result, a_lefts, a_leftSize, a_ways, a_rights, a_rightSize, a_sheet, a_waiting, a_built, a_unfinishedStart, a_unfinishedLacks, a_kept, a_matchStart, a_matchEnd, a_joint, a_unified, a_oneStack, a_otherStack, a_nestedAt, a_nestedEnd, a_rank, a_pairCount, a_firstOpen) x y := by
  subst hk hx hy
  have eX : wk_e ρ [(p, 8, l)] = us_E ρ l := List.append_nil _
  refine nm_e (nm_e ⟨1002, ?_⟩)
  rw [← eX] at Hp
  exact xk_l H hR hu hρ hρ0 1001 [(p, 8, l)] 0 1002 1 q a_rank _ _ c a_sheet (by simp; omega) (by omega) (by omega) hq (by simp) (Or.inl rfl) ⟨by simp, hlk, fun t _ _ => hR.1 _, trivial⟩ ⟨⟨pk_us, pk_us, hl, hpl⟩, trivial⟩ hs Hp
end
