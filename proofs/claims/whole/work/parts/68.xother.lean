/-! the component: the other side, one turn of the survey -/
section
variable {f_drafted f_faultPlace f_reportedSteps f_resultSize f_sheetSize f_waitingSize f_builtSize f_unfinished f_taken f_keptSize f_stacked f_ranked f_surveyed : Int32} {a_draft a_result a_lefts a_rights a_sheet a_waiting a_built a_kept a_joint : Nat → Int64} {a_leftSize a_ways a_rightSize a_unfinishedStart a_unfinishedLacks a_matchStart a_matchEnd a_unified a_oneStack a_otherStack a_nestedAt a_nestedEnd a_rank a_pairCount a_firstOpen : Nat → Int32}
variable {A B : List Int64} {σ : Nat → Option Nat} {rk : Nat → Nat}
/-- one stretch more onto the sheet, where every name has its rank -/
theorem xk_more {post : SX → Prop} {T l : List Int64} {ra0 : Nat → Int32} {x y : Int32} (p c : Nat) (hx : x = nI p) (hy : y = nI (p + l.length)) (hss : f_sheetSize = nI (T.take 31).length) (hsh : hd_h a_sheet 0 (T.take 31)) (hra : T.length ≤ 30 → a_rank = ra0 ∧ f_ranked = nI c) (H : jn_H a_joint A B) (hR : us_R A B σ rk) (hu : xu_s a_unified σ) (hl : hd_h a_joint p l) (hlk : ∀ t, t ∈ l → jn_k t) (hpl : p + l.length ≤ 60) (hrk : ∀ t, t ∈ us_E (us_h A B σ 8) l → ¬ t < 8589934592 → 0 ≤ ra0 (jn_n t))
    (Hp : ∀ (ss rc : Int32) (zs : Nat → Int64) (ra na ne : Nat → Int32), ss = nI ((T ++ (us_E (us_h A B σ 8) l).map (rn_n ra0)).take 31).length → hd_h zs 0 ((T ++ (us_E (us_h A B σ 8) l).map (rn_n ra0)).take 31) → ((T ++ (us_E (us_h A B σ 8) l).map (rn_n ra0)).length ≤ 30 → ra = ra0 ∧ rc = nI c) → post (f_drafted, f_faultPlace, f_reportedSteps, f_resultSize, ss, f_waitingSize, f_builtSize, f_unfinished, f_taken, f_keptSize, f_stacked, rc, f_surveyed, a_draft, a_result, a_lefts, a_leftSize, a_ways, a_rights, a_rightSize, zs, a_waiting, a_built, a_unfinishedStart, a_unfinishedLacks, a_kept, a_matchStart, a_matchEnd, a_joint, a_unified, a_oneStack, a_otherStack, na, ne, ra, a_pairCount, a_firstOpen)) : wpX_expand post (f_drafted, f_faultPlace, f_reportedSteps, f_resultSize, f_sheetSize, f_waitingSize, f_builtSize, f_unfinished, f_taken, f_keptSize, f_stacked, f_ranked, f_surveyed, a_draft, a_result, a_lefts, a_leftSize, a_ways, a_rights, a_rightSize, a_sheet, a_waiting, a_built, a_unfinishedStart, a_unfinishedLacks, a_kept, a_matchStart, a_matchEnd, a_joint, a_unified, a_oneStack, a_otherStack, a_nestedAt, a_nestedEnd, a_rank, a_pairCount, a_firstOpen) x y := by
  subst hss
  by_cases h : T.length ≤ 30
  · obtain ⟨e1, e2⟩ := hra h
    subst e1 e2
    have eT : T.take 31 = T := List.take_of_length_le (by omega)
    rw [eT] at hsh ⊢
    obtain ⟨m1, m2⟩ := rn_l_map _ _ c hrk
    refine xk_expand (q := T) p c T.length rfl hx hy H hR hu (us_h_sol hR) (fun v hv => us_h_none hv 8) hl hlk hpl (by omega) hsh (fun ss rc zs ra' na ne g1 g2 g3 => ?_)
    rw [m1] at g1 g2
    rw [m2] at g3
    refine Hp ss rc zs ra' na ne g1 g2 (fun hh => g3 ?_)
    rw [List.length_append, List.length_map] at hh
    exact hh
  · have e31 : (T.take 31).length = 31 := by rw [List.length_take]; omega
    have et : (T ++ (us_E (us_h A B σ 8) l).map (rn_n ra0)).take 31 = T.take 31 := List.take_append_of_le_length (by omega)
    rw [et] at Hp
    rw [e31] at Hp ⊢
    exact xk_full (fun na ne => Hp (nI 31) f_ranked a_sheet a_rank na ne rfl hsh (fun z => absurd z (by rw [List.length_append]; omega)))
theorem xo_other {post : SX → Prop} {i j p c : Nat} {RB : List Int64} (hi : i < 8) (hj : j < 8) (hlA : a_leftSize i = nI A.length) (hlB : a_leftSize j = nI B.length) (hrB : a_rightSize j = nI RB.length) (hB30 : B.length + RB.length ≤ 30) (H : jn_H a_joint A B) (hR : us_R A B σ rk) (hu : xu_s a_unified σ) (hJ : hd_h a_joint (30 + B.length) RB) (hRBk : ∀ t, t ∈ RB → jn_k t) (hp : p < A.length) (hrk : ∀ t, t ∈ vd_r2 A B RB p σ → ¬ t < 8589934592 → 0 ≤ a_rank (jn_n t)) (hc : f_ranked = nI c)
    (Hp : ∀ (ss rc : Int32) (zs : Nat → Int64) (ra na ne : Nat → Int32), ss = nI (((vd_r2 A B RB p σ).map (rn_n a_rank)).take 31).length → hd_h zs 0 (((vd_r2 A B RB p σ).map (rn_n a_rank)).take 31) → post (f_drafted, f_faultPlace, f_reportedSteps, f_resultSize, ss, f_waitingSize, f_builtSize, f_unfinished, f_taken, f_keptSize, f_stacked, rc, f_surveyed, a_draft, a_result, a_lefts, a_leftSize, a_ways, a_rights, a_rightSize, zs, a_waiting, a_built, a_unfinishedStart, a_unfinishedLacks, a_kept, a_matchStart, a_matchEnd, a_joint, a_unified, a_oneStack, a_otherStack, na, ne, ra, a_pairCount, a_firstOpen)) : wpX_writeOtherSide post (f_drafted, f_faultPlace, f_reportedSteps, f_resultSize, f_sheetSize, f_waitingSize, f_builtSize, f_unfinished, f_taken, f_keptSize, f_stacked, f_ranked, f_surveyed, a_draft, a_result, a_lefts, a_leftSize, a_ways, a_rights, a_rightSize, a_sheet, a_waiting, a_built, a_unfinishedStart, a_unfinishedLacks, a_kept, a_matchStart, a_matchEnd, a_joint, a_unified, a_oneStack, a_otherStack, a_nestedAt, a_nestedEnd, a_rank, a_pairCount, a_firstOpen) (nI i) (nI j) (nI p) := by
  have hAl : A.length ≤ 29 := H.2.2.1
  have hBl : B.length ≤ 29 := H.2.2.2.1
  have hA0 : hd_h a_joint 0 A := H.2.2.2.2.1
  have hAk := H.2.2.2.2.2.2.1
  obtain ⟨l, r, k, q1, q2, q3, q4, q5, q6, q7, q8, q9⟩ := jn_tm H (Or.inl hp)
  have hsuf : A.drop p = jn_t A B p ++ r := by
    unfold jn_s at q4
    rw [if_pos (by omega)] at q4
    exact q4
  have hrd : A.drop (p + (jn_t A B p).length) = r := by rw [← List.drop_drop, hsuf, List.drop_left]
  have hAs : A = A.take p ++ (jn_t A B p ++ r) := by rw [← hsuf]; exact (List.take_append_drop p A).symm
  have hlen : p + (jn_t A B p).length + r.length = A.length := by
    have := congrArg List.length hsuf
    rw [List.length_drop, List.length_append] at this
    omega
  have hA1 : hd_h a_joint 0 (A.take p ++ (jn_t A B p ++ r)) := by rw [← hAs]; exact hA0
  have htl : (A.take p).length = p := by rw [List.length_take]; omega
  obtain ⟨d1, d2⟩ := hd_app.mp hA1
  rw [htl, Nat.zero_add] at d2
  have d3 := (hd_app.mp d2).2
  have htm : ∀ t, t ∈ A.take p → t ∈ A := fun t ht => List.mem_of_mem_take ht
  have hrm : ∀ t, t ∈ r → t ∈ A := fun t ht => by rw [hAs]; exact List.mem_append.mpr (Or.inr (List.mem_append.mpr (Or.inr ht)))
  have eS : vd_r2 A B RB p σ = us_E (us_h A B σ 8) (A.take p) ++ (us_E (us_h A B σ 8) RB ++ us_E (us_h A B σ 8) r) := by unfold vd_r2; rw [hrd]
  rw [eS] at hrk Hp
  rw [List.map_append, List.map_append] at Hp
  have ci : (nI i).toNatClampNeg = i := nI_clamp (by omega)
  have cj : (nI j).toNatClampNeg = j := nI_clamp (by omega)
  have ini : vp_in (nI i) 8 := vp_in_nI hi (by omega)
  have inj : vp_in (nI j) 8 := vp_in_nI hj (by omega)
  unfold wpX_writeOtherSide
  refine ⟨inj, nm_r (e' := nI (30 + B.length)) (by rw [cj, hlB]; exact nI_add 30 _) ⟨ini, ?_⟩⟩
  rw [ci, cj, hlA]
  refine xe_joint (a := jn_t A B p) (r := r) p A.length (p + (jn_t A B p).length) q3 d2 (by omega) rfl (by omega) ?_
  refine xk_more (T := []) (l := A.take p) (ra0 := a_rank) 0 c rfl (by rw [htl, Nat.zero_add]) rfl trivial (fun _ => ⟨rfl, hc⟩) H hR hu d1 (fun t ht => hAk t (htm t ht)) (by omega) (fun t ht hn => hrk t (List.mem_append.mpr (Or.inl ht)) hn) (fun ss rc zs ra na ne g1 g2 g3 => ⟨inj, ?_⟩)
  rw [List.nil_append] at g1 g2 g3
  refine xk_more (T := (us_E (us_h A B σ 8) (A.take p)).map (rn_n a_rank)) (l := RB) (ra0 := a_rank) (30 + B.length) c rfl (by rw [hrB]; exact nI_add _ _) g1 g2 g3 H hR hu hJ hRBk (by omega) (fun t ht hn => hrk t (List.mem_append.mpr (Or.inr (List.mem_append.mpr (Or.inl ht)))) hn) (fun ss rc zs ra na ne k1 k2 k3 => ⟨ini, ?_⟩)
  refine xk_more (T := (us_E (us_h A B σ 8) (A.take p)).map (rn_n a_rank) ++ (us_E (us_h A B σ 8) RB).map (rn_n a_rank)) (l := r) (ra0 := a_rank) (p + (jn_t A B p).length) c rfl (by rw [hlen]; exact hlA) k1 k2 k3 H hR hu d3 (fun t ht => hAk t (hrm t ht)) (by omega) (fun t ht hn => hrk t (List.mem_append.mpr (Or.inr (List.mem_append.mpr (Or.inr ht)))) hn) (fun ss rc zs ra na ne w1 w2 w3 => ?_)
  rw [List.append_assoc] at w1 w2
  exact Hp _ _ _ _ _ _ w1 w2
end
