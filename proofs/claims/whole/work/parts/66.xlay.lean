/-! the component: the places of pairs, the layout, the peak, the other side, the counts -/
/-- a place where two rules may meet -/
def vd_ok (L R : Nat → List Int64) (i j p : Nat) : Bool := vd_pl L R i && vd_pl L R j && decide (p < (L i).length) && !(decide (p = 0) && decide (i = j)) && decide ((L i).getD p 0 < 8589934592)
section
variable {f_drafted f_faultPlace f_reportedSteps f_resultSize f_sheetSize f_waitingSize f_builtSize f_unfinished f_taken f_keptSize f_stacked f_ranked f_surveyed : Int32} {a_draft a_result a_lefts a_rights a_sheet a_waiting a_built a_kept a_joint : Nat → Int64} {a_leftSize a_ways a_rightSize a_unfinishedStart a_unfinishedLacks a_matchStart a_matchEnd a_unified a_oneStack a_otherStack a_nestedAt a_nestedEnd a_rank a_pairCount a_firstOpen : Nat → Int32}
variable {L R : Nat → List Int64}
theorem xp_place {post : Int32 → Prop} {i j p : Nat} (hG : mc_G L R) (hR : xr_R L R a_lefts a_leftSize a_ways a_rights a_rightSize) (hi : i < 8) (hj : j < 8) (hp : p < 30) (h : post (if vd_ok L R i j p = true then 1 else 0)) : wpX_isPairPlace post (f_drafted, f_faultPlace, f_reportedSteps, f_resultSize, f_sheetSize, f_waitingSize, f_builtSize, f_unfinished, f_taken, f_keptSize, f_stacked, f_ranked, f_surveyed, a_draft, a_result, a_lefts, a_leftSize, a_ways, a_rights, a_rightSize, a_sheet, a_waiting, a_built, a_unfinishedStart, a_unfinishedLacks, a_kept, a_matchStart, a_matchEnd, a_joint, a_unified, a_oneStack, a_otherStack, a_nestedAt, a_nestedEnd, a_rank, a_pairCount, a_firstOpen) (nI i) (nI j) (nI p) := by
  obtain ⟨⟨nl, nr, e1, e2, e3, e4⟩, h2, h3⟩ := hR i hi
  have hin : vp_in (nI i) 8 := vp_in_nI hi (by omega)
  have ei : (nI i).toNatClampNeg = i := nI_clamp (by omega)
  have no : vd_ok L R i j p = false → post 0 := fun z => by rw [z, if_neg (by decide)] at h; exact h
  refine ⟨hin, ?_⟩
  rw [ei, e1]
  have ex : nI i * 16 * 30 + nI p = nI (i * 480 + p) := by rw [show (30 : Int32) = nI 30 from rfl, show (16 : Int32) = nI 16 from rfl, pk_mul, pk_mul, nI_add, show i * 16 * 30 = i * 480 by omega]
  -- behind the first tests
  have tail : p < nl → ¬ (p = 0 ∧ i = j) → wX_isPairPlace_19 post (nI i) (nI j) (nI p) f_drafted f_faultPlace f_reportedSteps f_resultSize f_sheetSize f_waitingSize f_builtSize f_unfinished f_taken f_keptSize f_stacked f_ranked f_surveyed a_draft a_result a_lefts a_leftSize a_ways a_rights a_rightSize a_sheet a_waiting a_built a_unfinishedStart a_unfinishedLacks a_kept a_matchStart a_matchEnd a_joint a_unified a_oneStack a_otherStack a_nestedAt a_nestedEnd a_rank a_pairCount a_firstOpen := by
    intro hpl hne
    refine ⟨by rw [ex]; exact vp_in_nI (by omega) (by omega), ?_⟩
    rw [ex, nI_clamp (by omega)]
    by_cases h0 : L i = []
    · have ev : vd_pl L R i = false := by unfold vd_pl; rw [h0]; rfl
      have nok := no (by unfold vd_ok; rw [ev]; simp)
      refine br_c (fun _ => xp_plain hG hR hi ?_) (fun _ => nok)
      rw [ev]
      exact br_t rfl nok
    · have w2 := (h3 h0).2.1
      have enl : nl = (L i).length := by
        rw [e1] at w2
        rcases hG i with g | g
        · exact absurd g h0
        · exact (nI_eq (by omega) (by have := g.2.2.1; omega)).mp w2
      subst enl
      have hJ : a_lefts (i * 480 + p) = (L i)[p] := hd_get (xr_left hR hi h0) hpl
      have hgd : (L i).getD p 0 = (L i)[p] := by rw [List.getD_eq_getElem?_getD, List.getElem?_eq_getElem hpl]; rfl
      rw [hJ]
      by_cases hs : (L i)[p] < 8589934592
      · refine br_t hs (xp_plain hG hR hi ?_)
        by_cases hpi : vd_pl L R i = true
        · rw [if_pos hpi]
          refine br_f (by decide) (xp_plain hG hR hj ?_)
          by_cases hpj : vd_pl L R j = true
          · rw [if_pos hpj]
            have ev : vd_ok L R i j p = true := by
              unfold vd_ok
              rw [hpi, hpj, hgd, decide_eq_true hpl, decide_eq_true hs]
              by_cases a : p = 0
              · have b : ¬ i = j := fun z => hne ⟨a, z⟩
                rw [decide_eq_false b, Bool.and_false]; rfl
              · rw [decide_eq_false a, Bool.false_and]; rfl
            rw [ev, if_pos rfl] at h
            exact br_f (by decide) h
          · rw [if_neg hpj]
            refine br_t rfl (no ?_)
            unfold vd_ok
            rw [Bool.not_eq_true] at hpj
            rw [hpj]; simp
        · rw [if_neg hpi]
          refine br_t rfl (no ?_)
          unfold vd_ok
          rw [Bool.not_eq_true] at hpi
          rw [hpi]; simp
      · refine br_f hs (no ?_)
        unfold vd_ok
        rw [hgd, decide_eq_false hs, Bool.and_false]
  have short : nl ≤ p → vd_ok L R i j p = false := by
    intro hle
    unfold vd_ok
    by_cases h0 : L i = []
    · have ev : vd_pl L R i = false := by unfold vd_pl; rw [h0]; rfl
      rw [ev]; simp
    · have w2 := (h3 h0).2.1
      have enl : nl = (L i).length := by
        rw [e1] at w2
        rcases hG i with g | g
        · exact absurd g h0
        · exact (nI_eq (by omega) (by have := g.2.2.1; omega)).mp w2
      rw [decide_eq_false (show ¬ p < (L i).length by omega)]; simp
  refine pk_le nl p (fun hle => no (short hle)) (fun hlt => ?_)
  refine pk_eq p 0 (fun h0 => pk_eq i j (fun hij => no ?_) (fun hij => tail hlt (fun z => hij z.2))) (fun h0 => tail hlt (fun z => h0 z.1))
  unfold vd_ok
  rw [decide_eq_true h0, decide_eq_true hij]; simp
theorem xl_11 {post : SX → Prop} {r fr s nl : Nat} {g : Int64 → Int64} {A RA : List Int64} {j0 : Nat → Int64} (hr : r < 8) (hnl : nl = A.length) (hrs : a_rightSize r = nI RA.length) (h30 : A.length + RA.length ≤ 30) (hfr : fr + 30 ≤ 60) (hg : ∀ t, t ∈ A ++ RA → g t = if t < 8589934592 then t else t + (nI s).toInt64) (hA : hd_h a_lefts (r * 480) A) (hRA : hd_h a_rights (r * 30) RA) (H : ∀ jo, hd_h jo fr ((A ++ RA).map g) → hd_o j0 jo fr 30 → post (f_drafted, f_faultPlace, f_reportedSteps, f_resultSize, f_sheetSize, f_waitingSize, f_builtSize, f_unfinished, f_taken, f_keptSize, f_stacked, f_ranked, f_surveyed, a_draft, a_result, a_lefts, a_leftSize, a_ways, a_rights, a_rightSize, a_sheet, a_waiting, a_built, a_unfinishedStart, a_unfinishedLacks, a_kept, a_matchStart, a_matchEnd, jo, a_unified, a_oneStack, a_otherStack, a_nestedAt, a_nestedEnd, a_rank, a_pairCount, a_firstOpen)) : ∀ (l q : List Int64) (n k : Nat) (jo : Nat → Int64), A ++ RA = q ++ l → k = q.length → hd_h jo fr (q.map g) → hd_o j0 jo fr 30 → l.length < n → wX_layOut_11 post (nI r) (nI fr) (nI s) (nI nl) f_drafted f_faultPlace f_reportedSteps f_resultSize f_sheetSize f_waitingSize f_builtSize f_unfinished f_taken f_keptSize f_stacked f_ranked f_surveyed n (nI k) a_draft a_result a_lefts a_leftSize a_ways a_rights a_rightSize a_sheet a_waiting a_built a_unfinishedStart a_unfinishedLacks a_kept a_matchStart a_matchEnd jo a_unified a_oneStack a_otherStack a_nestedAt a_nestedEnd a_rank a_pairCount a_firstOpen
  | [], q, n, k, jo, e, hk, hq, ho, hn => by
    obtain ⟨n, rfl⟩ : ∃ n', n = n' + 1 := ⟨n - 1, by omega⟩
    rw [List.append_nil] at e
    have hlen : k = A.length + RA.length := by rw [hk, ← e, List.length_append]
    refine ⟨vp_in_nI hr (by omega), ?_⟩
    rw [nI_clamp (by omega), hrs]
    refine pk_le (nl + RA.length) k (fun _ => H jo (by rw [e]; exact hq) ho) (fun z => absurd z (by omega)) (nI_add _ _) rfl
  | t :: l, q, n, k, jo, e, hk, hq, ho, hn => by
    obtain ⟨n, rfl⟩ : ∃ n', n = n' + 1 := ⟨n - 1, by omega⟩
    rw [List.length_cons] at hn
    have hlen : A.length + RA.length = q.length + (l.length + 1) := by rw [← List.length_append, e, List.length_append]; rfl
    refine ⟨vp_in_nI hr (by omega), ?_⟩
    rw [nI_clamp (by omega), hrs]
    refine pk_le (nl + RA.length) k (fun z => absurd z (by omega)) (fun _ => ?_) (nI_add _ _) rfl
    refine pk_le 30 k (fun z => absurd z (by omega)) (fun _ => ?_)
    have htg := hg t (by rw [e]; simp)
    have htk : (A ++ RA)[k]? = some t := by rw [e, hk]; simp
    -- the token goes into the layout
    have lay : wX_layOut_72 post (wX_layOut_11 post (nI r) (nI fr) (nI s) (nI nl) f_drafted f_faultPlace f_reportedSteps f_resultSize f_sheetSize f_waitingSize f_builtSize f_unfinished f_taken f_keptSize f_stacked f_ranked f_surveyed n) (nI r) (nI fr) (nI s) (nI nl) (nI k) t f_drafted f_faultPlace f_reportedSteps f_resultSize f_sheetSize f_waitingSize f_builtSize f_unfinished f_taken f_keptSize f_stacked f_ranked f_surveyed a_draft a_result a_lefts a_leftSize a_ways a_rights a_rightSize a_sheet a_waiting a_built a_unfinishedStart a_unfinishedLacks a_kept a_matchStart a_matchEnd jo a_unified a_oneStack a_otherStack a_nestedAt a_nestedEnd a_rank a_pairCount a_firstOpen := by
      have ei : nI fr + nI k = nI (fr + k) := nI_add _ _
      have hin : vp_in (nI fr + nI k) 60 := by rw [ei]; exact vp_in_nI (by omega) (by omega)
      have ec : (nI fr + nI k).toNatClampNeg = fr + k := by rw [ei]; exact nI_clamp (by omega)
      have go : wX_layOut_11 post (nI r) (nI fr) (nI s) (nI nl) f_drafted f_faultPlace f_reportedSteps f_resultSize f_sheetSize f_waitingSize f_builtSize f_unfinished f_taken f_keptSize f_stacked f_ranked f_surveyed n (nI (k + 1)) a_draft a_result a_lefts a_leftSize a_ways a_rights a_rightSize a_sheet a_waiting a_built a_unfinishedStart a_unfinishedLacks a_kept a_matchStart a_matchEnd (vp_updL jo (fr + k) (g t)) a_unified a_oneStack a_otherStack a_nestedAt a_nestedEnd a_rank a_pairCount a_firstOpen := by
        refine xl_11 hr hnl hrs h30 hfr hg hA hRA H l (q ++ [t]) n (k + 1) _ (by rw [e, List.append_assoc]; rfl) (by simp; omega) ?_ ?_ (by omega)
        · rw [List.map_append, List.map_singleton]
          have := hd_snocL (x := g t) hq
          rw [List.length_map, ← hk] at this
          exact this
        · intro z hz
          rw [pk_uLn (by omega)]
          exact ho z hz
      by_cases hs : t < 8589934592
      · rw [if_pos hs] at htg
        exact br_f (Int64.not_le.mpr hs) ⟨hin, nm_r (e' := vp_updL jo (fr + k) (g t)) (by rw [ec, htg]) (nm_r (nI_1 k) go)⟩
      · rw [if_neg hs] at htg
        exact br_t (Int64.not_lt.mp hs) ⟨hin, nm_r (e' := vp_updL jo (fr + k) (g t)) (by rw [ec, htg]) (nm_r (nI_1 k) go)⟩
    refine pk_le nl k (fun hle => ?_) (fun hlt => ?_)
    · have ei : nI r * 30 + nI k - nI nl = nI (r * 30 + (k - nl)) := by
        rw [show (30 : Int32) = nI 30 from rfl, pk_mul, nI_add, pk_sub (by omega), show r * 30 + k - nl = r * 30 + (k - nl) by omega]
      have hin : vp_in (nI r * 30 + nI k - nI nl) 240 := by rw [ei]; exact vp_in_nI (by omega) (by omega)
      have hlt2 : k - nl < RA.length := by omega
      have et : a_rights (nI r * 30 + nI k - nI nl).toNatClampNeg = t := by
        rw [ei, nI_clamp (by omega), hd_get hRA hlt2]
        rw [List.getElem?_append_right (by omega), ← hnl, List.getElem?_eq_getElem hlt2] at htk
        injection htk
      refine ⟨hin, ?_⟩
      rw [et]
      exact lay
    · have ei : nI r * 16 * 30 + nI k = nI (r * 480 + k) := by rw [show (30 : Int32) = nI 30 from rfl, show (16 : Int32) = nI 16 from rfl, pk_mul, pk_mul, nI_add, show r * 16 * 30 = r * 480 by omega]
      have hin : vp_in (nI r * 16 * 30 + nI k) 3840 := by rw [ei]; exact vp_in_nI (by omega) (by omega)
      have hlt2 : k < A.length := by omega
      have et : a_lefts (nI r * 16 * 30 + nI k).toNatClampNeg = t := by
        rw [ei, nI_clamp (by omega), hd_get hA hlt2]
        rw [List.getElem?_append_left hlt2, List.getElem?_eq_getElem hlt2] at htk
        injection htk
      refine ⟨hin, ?_⟩
      rw [et]
      exact lay
theorem xl_lay {post : SX → Prop} {r fr s : Nat} {g : Int64 → Int64} {x y : Int32} (hx : x = nI fr) (hy : y = nI s) (hG : mc_G L R) (hR : xr_R L R a_lefts a_leftSize a_ways a_rights a_rightSize) (hr : r < 8) (h0 : L r ≠ []) (hfr : fr + 30 ≤ 60) (hg : ∀ t, t ∈ L r ++ R r → g t = if t < 8589934592 then t else t + (nI s).toInt64) (H : ∀ jo, hd_h jo fr ((L r ++ R r).map g) → hd_o a_joint jo fr 30 → post (f_drafted, f_faultPlace, f_reportedSteps, f_resultSize, f_sheetSize, f_waitingSize, f_builtSize, f_unfinished, f_taken, f_keptSize, f_stacked, f_ranked, f_surveyed, a_draft, a_result, a_lefts, a_leftSize, a_ways, a_rights, a_rightSize, a_sheet, a_waiting, a_built, a_unfinishedStart, a_unfinishedLacks, a_kept, a_matchStart, a_matchEnd, jo, a_unified, a_oneStack, a_otherStack, a_nestedAt, a_nestedEnd, a_rank, a_pairCount, a_firstOpen)) : wpX_layOut post (f_drafted, f_faultPlace, f_reportedSteps, f_resultSize, f_sheetSize, f_waitingSize, f_builtSize, f_unfinished, f_taken, f_keptSize, f_stacked, f_ranked, f_surveyed, a_draft, a_result, a_lefts, a_leftSize, a_ways, a_rights, a_rightSize, a_sheet, a_waiting, a_built, a_unfinishedStart, a_unfinishedLacks, a_kept, a_matchStart, a_matchEnd, a_joint, a_unified, a_oneStack, a_otherStack, a_nestedAt, a_nestedEnd, a_rank, a_pairCount, a_firstOpen) (nI r) x y := by
  subst hx hy
  obtain ⟨_, _, h3⟩ := hR r hr
  obtain ⟨w1, w2, w3, w4, w5⟩ := h3 h0
  rcases hG r with z | ⟨g1, g2, g3, g4, g5, g6, g7, g8⟩
  · exact absurd z h0
  refine ⟨vp_in_nI hr (by omega), nm_r (e' := nI (L r).length) (by rw [nI_clamp (by omega), w2]) ⟨(L r ++ R r).length + 1, ?_⟩⟩
  exact xl_11 (j0 := a_joint) hr rfl w3 g3 hfr hg (xr_left hR hr h0) w4 H (L r ++ R r) [] _ 0 a_joint rfl rfl trivial (fun z _ => rfl) (by omega)
theorem xl_peak {post : Int32 → SX → Prop} {x1 : Int32} : ∀ (d k n : Nat) (ra : Nat → Int32), k + d = 8 → (∀ v, v < k → ra v = -1) → d < n → (∀ ra' : Nat → Int32, (∀ v, v < 8 → ra' v = -1) → (vp_in x1 8 ∧ (wpX_expand (fun u => match u with | (f_drafted0, f_faultPlace0, f_reportedSteps0, f_resultSize0, f_sheetSize0, f_waitingSize0, f_builtSize0, f_unfinished0, f_taken0, f_keptSize0, f_stacked0, f_ranked0, f_surveyed0, a_draft0, a_result0, a_lefts0, a_leftSize0, a_ways0, a_rights0, a_rightSize0, a_sheet0, a_waiting0, a_built0, a_unfinishedStart0, a_unfinishedLacks0, a_kept0, a_matchStart0, a_matchEnd0, a_joint0, a_unified0, a_oneStack0, a_otherStack0, a_nestedAt0, a_nestedEnd0, a_rank0, a_pairCount0, a_firstOpen0) => ((30 < f_sheetSize0 → post 0 (f_drafted0, f_faultPlace0, f_reportedSteps0, f_resultSize0, f_sheetSize0, f_waitingSize0, f_builtSize0, f_unfinished0, f_taken0, f_keptSize0, f_stacked0, f_ranked0, f_surveyed0, a_draft0, a_result0, a_lefts0, a_leftSize0, a_ways0, a_rights0, a_rightSize0, a_sheet0, a_waiting0, a_built0, a_unfinishedStart0, a_unfinishedLacks0, a_kept0, a_matchStart0, a_matchEnd0, a_joint0, a_unified0, a_oneStack0, a_otherStack0, a_nestedAt0, a_nestedEnd0, a_rank0, a_pairCount0, a_firstOpen0)) ∧ (¬ 30 < f_sheetSize0 → post 1 (f_drafted0, f_faultPlace0, f_reportedSteps0, f_resultSize0, f_sheetSize0, f_waitingSize0, f_builtSize0, f_unfinished0, f_taken0, f_keptSize0, f_stacked0, f_ranked0, f_surveyed0, a_draft0, a_result0, a_lefts0, a_leftSize0, a_ways0, a_rights0, a_rightSize0, a_sheet0, a_waiting0, a_built0, a_unfinishedStart0, a_unfinishedLacks0, a_kept0, a_matchStart0, a_matchEnd0, a_joint0, a_unified0, a_oneStack0, a_otherStack0, a_nestedAt0, a_nestedEnd0, a_rank0, a_pairCount0, a_firstOpen0))) ) (f_drafted, f_faultPlace, f_reportedSteps, f_resultSize, 0, f_waitingSize, f_builtSize, f_unfinished, f_taken, f_keptSize, f_stacked, 0, f_surveyed, a_draft, a_result, a_lefts, a_leftSize, a_ways, a_rights, a_rightSize, a_sheet, a_waiting, a_built, a_unfinishedStart, a_unfinishedLacks, a_kept, a_matchStart, a_matchEnd, a_joint, a_unified, a_oneStack, a_otherStack, a_nestedAt, a_nestedEnd, ra', a_pairCount, a_firstOpen) 0 (a_leftSize x1.toNatClampNeg)))) → wX_isPeakSmall_2 post x1 f_drafted f_faultPlace f_reportedSteps f_resultSize f_sheetSize f_waitingSize f_builtSize f_unfinished f_taken f_keptSize f_stacked f_ranked f_surveyed n (nI k) a_draft a_result a_lefts a_leftSize a_ways a_rights a_rightSize a_sheet a_waiting a_built a_unfinishedStart a_unfinishedLacks a_kept a_matchStart a_matchEnd a_joint a_unified a_oneStack a_otherStack a_nestedAt a_nestedEnd ra a_pairCount a_firstOpen
  | 0, k, n, ra, hk, hm, hn, H => by
    obtain ⟨n, rfl⟩ : ∃ n', n = n' + 1 := ⟨n - 1, by omega⟩
    exact pk_le 8 k (fun _ => H ra (fun v hv => hm v (by omega))) (fun z => absurd z (by omega))
  | d + 1, k, n, ra, hk, hm, hn, H => by
    obtain ⟨n, rfl⟩ : ∃ n', n = n' + 1 := ⟨n - 1, by omega⟩
    refine pk_le 8 k (fun z => absurd z (by omega)) (fun _ => ⟨vp_in_nI (by omega) (by omega), nm_r (e' := upd ra k (-1)) (by rw [nI_clamp (by omega)]) (nm_r (nI_1 k) ?_)⟩)
    refine xl_peak d (k + 1) n _ (by omega) (fun v hv => ?_) (by omega) H
    by_cases e : v = k
    · rw [e, pk_us]
    · rw [pk_un e]; exact hm v (by omega)
/-- one verdict more -/
def vd_pc (v : Nat) (pc : Nat → Int32) : Nat → Int32 := upd (upd pc 0 (pc 0 + 1)) v (upd pc 0 (pc 0 + 1) v + 1)
def vd_fo (v i j p : Nat) (fo : Nat → Int32) : Nat → Int32 := if v = 2 ∧ fo 0 = -2 then upd (upd (upd fo 0 (nI i)) 1 (nI j)) 2 (nI p) else fo
theorem xl_count {post : SX → Prop} {v i j p : Nat} (hv : v < 4) (h : post (f_drafted, f_faultPlace, f_reportedSteps, f_resultSize, f_sheetSize, f_waitingSize, f_builtSize, f_unfinished, f_taken, f_keptSize, f_stacked, f_ranked, f_surveyed, a_draft, a_result, a_lefts, a_leftSize, a_ways, a_rights, a_rightSize, a_sheet, a_waiting, a_built, a_unfinishedStart, a_unfinishedLacks, a_kept, a_matchStart, a_matchEnd, a_joint, a_unified, a_oneStack, a_otherStack, a_nestedAt, a_nestedEnd, a_rank, vd_pc v a_pairCount, vd_fo v i j p a_firstOpen)) : wpX_count post (f_drafted, f_faultPlace, f_reportedSteps, f_resultSize, f_sheetSize, f_waitingSize, f_builtSize, f_unfinished, f_taken, f_keptSize, f_stacked, f_ranked, f_surveyed, a_draft, a_result, a_lefts, a_leftSize, a_ways, a_rights, a_rightSize, a_sheet, a_waiting, a_built, a_unfinishedStart, a_unfinishedLacks, a_kept, a_matchStart, a_matchEnd, a_joint, a_unified, a_oneStack, a_otherStack, a_nestedAt, a_nestedEnd, a_rank, a_pairCount, a_firstOpen) (nI v) (nI i) (nI j) (nI p) := by
  have hin : vp_in (nI v) 4 := vp_in_nI hv (by omega)
  have ev : (nI v).toNatClampNeg = v := nI_clamp (by omega)
  refine nm_e ⟨hin, hin, nm_r (e' := vd_pc v a_pairCount) (by rw [ev]; rfl) ?_⟩
  unfold vd_fo at h
  refine pk_eq v 2 (fun h2 => ?_) (fun h2 => ?_)
  · by_cases hf : a_firstOpen 0 = -2
    · rw [if_pos ⟨h2, hf⟩] at h
      exact br_t hf (nm_e (nm_e (nm_e h)))
    · rw [if_neg (fun z => hf z.2)] at h
      exact br_f hf h
  · rw [if_neg (fun z => h2 z.1)] at h
    exact h
theorem xl_forget22 {post : SX → Prop} : ∀ (d k n : Nat) (fo : Nat → Int32), k + d = 3 → (∀ v, v < k → fo v = -2) → d < n → (∀ fo' : Nat → Int32, (∀ v, v < 3 → fo' v = -2) → post (f_drafted, f_faultPlace, f_reportedSteps, f_resultSize, f_sheetSize, f_waitingSize, f_builtSize, f_unfinished, f_taken, f_keptSize, f_stacked, f_ranked, f_surveyed, a_draft, a_result, a_lefts, a_leftSize, a_ways, a_rights, a_rightSize, a_sheet, a_waiting, a_built, a_unfinishedStart, a_unfinishedLacks, a_kept, a_matchStart, a_matchEnd, a_joint, a_unified, a_oneStack, a_otherStack, a_nestedAt, a_nestedEnd, a_rank, a_pairCount, fo')) → wX_forgetPairs_22 post f_drafted f_faultPlace f_reportedSteps f_resultSize f_sheetSize f_waitingSize f_builtSize f_unfinished f_taken f_keptSize f_stacked f_ranked f_surveyed n (nI k) a_draft a_result a_lefts a_leftSize a_ways a_rights a_rightSize a_sheet a_waiting a_built a_unfinishedStart a_unfinishedLacks a_kept a_matchStart a_matchEnd a_joint a_unified a_oneStack a_otherStack a_nestedAt a_nestedEnd a_rank a_pairCount fo
  | 0, k, n, fo, hk, hm, hn, H => by
    obtain ⟨n, rfl⟩ : ∃ n', n = n' + 1 := ⟨n - 1, by omega⟩
    exact pk_le 3 k (fun _ => H fo (fun v hv => hm v (by omega))) (fun z => absurd z (by omega))
  | d + 1, k, n, fo, hk, hm, hn, H => by
    obtain ⟨n, rfl⟩ : ∃ n', n = n' + 1 := ⟨n - 1, by omega⟩
    refine pk_le 3 k (fun z => absurd z (by omega)) (fun _ => ⟨vp_in_nI (by omega) (by omega), nm_r (e' := upd fo k (-2)) (by rw [nI_clamp (by omega)]) (nm_r (nI_1 k) ?_)⟩)
    refine xl_forget22 d (k + 1) n _ (by omega) (fun v hv => ?_) (by omega) H
    by_cases e : v = k
    · rw [e, pk_us]
    · rw [pk_un e]; exact hm v (by omega)
theorem xl_forget2 {post : SX → Prop} : ∀ (d k n : Nat) (pc : Nat → Int32), k + d = 4 → (∀ v, v < k → pc v = 0) → d < n → (∀ pc' fo' : Nat → Int32, (∀ v, v < 4 → pc' v = 0) → (∀ v, v < 3 → fo' v = -2) → post (f_drafted, f_faultPlace, f_reportedSteps, f_resultSize, f_sheetSize, f_waitingSize, f_builtSize, f_unfinished, f_taken, f_keptSize, f_stacked, f_ranked, f_surveyed, a_draft, a_result, a_lefts, a_leftSize, a_ways, a_rights, a_rightSize, a_sheet, a_waiting, a_built, a_unfinishedStart, a_unfinishedLacks, a_kept, a_matchStart, a_matchEnd, a_joint, a_unified, a_oneStack, a_otherStack, a_nestedAt, a_nestedEnd, a_rank, pc', fo')) → wX_forgetPairs_2 post f_drafted f_faultPlace f_reportedSteps f_resultSize f_sheetSize f_waitingSize f_builtSize f_unfinished f_taken f_keptSize f_stacked f_ranked f_surveyed n (nI k) a_draft a_result a_lefts a_leftSize a_ways a_rights a_rightSize a_sheet a_waiting a_built a_unfinishedStart a_unfinishedLacks a_kept a_matchStart a_matchEnd a_joint a_unified a_oneStack a_otherStack a_nestedAt a_nestedEnd a_rank pc a_firstOpen
  | 0, k, n, pc, hk, hm, hn, H => by
    obtain ⟨n, rfl⟩ : ∃ n', n = n' + 1 := ⟨n - 1, by omega⟩
    exact pk_le 4 k (fun _ => ⟨4, xl_forget22 3 0 4 _ rfl (fun v hv => absurd hv (by omega)) (by omega) (fun fo' h => H pc fo' (fun v hv => hm v (by omega)) h)⟩) (fun z => absurd z (by omega))
  | d + 1, k, n, pc, hk, hm, hn, H => by
    obtain ⟨n, rfl⟩ : ∃ n', n = n' + 1 := ⟨n - 1, by omega⟩
    refine pk_le 4 k (fun z => absurd z (by omega)) (fun _ => ⟨vp_in_nI (by omega) (by omega), nm_r (e' := upd pc k 0) (by rw [nI_clamp (by omega)]) (nm_r (nI_1 k) ?_)⟩)
    refine xl_forget2 d (k + 1) n _ (by omega) (fun v hv => ?_) (by omega) H
    by_cases e : v = k
    · rw [e, pk_us]
    · rw [pk_un e]; exact hm v (by omega)
end
