/-! equal: each side by itself -/
section
variable {f_drafted f_faultPlace f_reportedSteps f_resultSize f_sheetSize f_waitingSize f_builtSize f_unfinished f_taken f_keptSize f_stacked f_ranked f_surveyed : Int32} {a_draft a_result a_lefts a_rights a_sheet a_waiting a_built a_kept a_joint : Nat → Int64} {a_leftSize a_ways a_rightSize a_unfinishedStart a_unfinishedLacks a_matchStart a_matchEnd a_unified a_oneStack a_otherStack a_nestedAt a_nestedEnd a_rank a_pairCount a_firstOpen : Nat → Int32}
theorem xq_equal {post : Int32 → SX → Prop} {L R : Nat → List Int64} {D A B : List Int64} {c1 t1 c2 t2 : Nat} {s1 s2 : List Int64} (N : Nat) (hN : N = D.length) (hGG : mc_G L R) (hR : xr_R L R a_lefts a_leftSize a_ways a_rights a_rightSize) (eD : D = A ++ B) (hA : tm_w A 1) (hB : tm_w B 1) (hD : D.length ≤ 30) (htd : ∀ t, t ∈ D → tk_d t) (x2 : hd_h a_draft 0 D) (hf : ∀ post : Int32 → Prop, post (-1) → wpX_faultOf post (nI N, f_faultPlace, f_reportedSteps, 0, f_sheetSize, f_waitingSize, f_builtSize, f_unfinished, f_taken, f_keptSize, f_stacked, f_ranked, f_surveyed, a_draft, a_result, a_lefts, a_leftSize, a_ways, a_rights, a_rightSize, a_sheet, a_waiting, a_built, a_unfinishedStart, a_unfinishedLacks, a_kept, a_matchStart, a_matchEnd, a_joint, a_unified, a_oneStack, a_otherStack, a_nestedAt, a_nestedEnd, a_rank, a_pairCount, a_firstOpen) 2 0)
    (run1 : mc_run L R 4000 A [] 0 none = (c1, t1, s1)) (ok1 : c1 ≤ 3 ∧ (c1 = 0 → t1 ≤ 60 ∧ s1.length ≤ 30)) (run2 : c1 = 0 → mc_run L R 4000 B [] t1 none = (c2, t2, s2)) (ok2 : c2 ≤ 3 ∧ (c2 = 0 → s2.length ≤ 30))
    (H1 : c1 ≠ 0 → ∀ (ss ws bs uf tk ks : Int32) (zs zw zb zk : Nat → Int64) (us ul ms me : Nat → Int32), post (-(nI c1)) (nI N, f_faultPlace, nI t1, 0, ss, ws, bs, uf, tk, ks, f_stacked, f_ranked, f_surveyed, a_draft, a_result, a_lefts, a_leftSize, a_ways, a_rights, a_rightSize, zs, zw, zb, us, ul, zk, ms, me, a_joint, a_unified, a_oneStack, a_otherStack, a_nestedAt, a_nestedEnd, a_rank, a_pairCount, a_firstOpen))
    (H2 : c1 = 0 → c2 ≠ 0 → ∀ (ss ws bs uf tk ks : Int32) (zs zw zb zk : Nat → Int64) (us ul ms me : Nat → Int32), post (-(nI c2)) (nI N, f_faultPlace, nI t2, 0, ss, ws, bs, uf, tk, ks, f_stacked, f_ranked, f_surveyed, a_draft, a_result, a_lefts, a_leftSize, a_ways, a_rights, a_rightSize, zs, zw, zb, us, ul, zk, ms, me, a_joint, a_unified, a_oneStack, a_otherStack, a_nestedAt, a_nestedEnd, a_rank, a_pairCount, a_firstOpen))
    (H3 : c1 = 0 → c2 = 0 → ∀ (ss ws bs uf tk ks : Int32) (zs zw zb zk : Nat → Int64) (us ul ms me : Nat → Int32), post (if s1 = s2 then 1 else 0) (nI N, f_faultPlace, nI t2, 0, ss, ws, bs, uf, tk, ks, f_stacked, f_ranked, f_surveyed, a_draft, a_result, a_lefts, a_leftSize, a_ways, a_rights, a_rightSize, zs, zw, zb, us, ul, zk, ms, me, a_joint, a_unified, a_oneStack, a_otherStack, a_nestedAt, a_nestedEnd, a_rank, a_pairCount, a_firstOpen)) :
    wpX_equal post (nI N, f_faultPlace, f_reportedSteps, f_resultSize, f_sheetSize, f_waitingSize, f_builtSize, f_unfinished, f_taken, f_keptSize, f_stacked, f_ranked, f_surveyed, a_draft, a_result, a_lefts, a_leftSize, a_ways, a_rights, a_rightSize, a_sheet, a_waiting, a_built, a_unfinishedStart, a_unfinishedLacks, a_kept, a_matchStart, a_matchEnd, a_joint, a_unified, a_oneStack, a_otherStack, a_nestedAt, a_nestedEnd, a_rank, a_pairCount, a_firstOpen) := by
  have tkt : ∀ x, tk_d x → tk_t x := fun x => tk_d_t
  have tkd : ∀ x, tk_d x → tk_d x := fun x h => h
  have hlen : D.length = A.length + B.length := by rw [eD, List.length_append]
  have hAl := tm_w_len _ _ hA
  have hBl := tm_w_len _ _ hB
  have hAd : ∀ t, t ∈ A → tk_d t := fun t ht => htd t (by rw [eD]; exact List.mem_append.mpr (Or.inl ht))
  have hBd : ∀ t, t ∈ B → tk_d t := fun t ht => htd t (by rw [eD]; exact List.mem_append.mpr (Or.inr ht))
  have hx2 : hd_h a_draft 0 (A ++ B) := by rw [← eD]; exact x2
  obtain ⟨hxA, hxB⟩ := hd_app.mp hx2
  rw [Nat.zero_add] at hxB
  unfold wpX_equal
  dsimp only
  refine hf _ (br_t (by decide) ?_)
  refine xe_draft (a := A) (r := B) 0 N A.length hA hx2 (by omega) (by omega) (by omega) ?_
  refine xn_take (l := A) 0 A.length (by omega) (by omega) hxA (fun zs hz => ?_)
  refine xn_nf (P := tk_d) (q := A) A.length 0 tkt tkd hGG hR hA (by omega) hAd (by omega) rfl hz (fun c t' s' hrun ss ws bs uf zs' zw zb us ul ms me hc => ?_)
  rw [run1] at hrun
  injection hrun with e1 e2
  injection e2 with e2 e3
  subst e1 e2 e3
  by_cases h0 : c1 = 0
  · subst h0
    obtain ⟨b1, b2⟩ := hc rfl
    obtain ⟨w1, w3⟩ := ok1.2 rfl
    have run2 := run2 rfl
    subst b1
    refine br_t rfl ?_
    refine xn_keep (l := s1) s1.length rfl w3 b2 (fun zk hzk => ?_)
    refine xn_take (l := B) A.length N (by omega) (by omega) hxB (fun zs2 hz2 => ?_)
    refine xn_nf (P := tk_d) (q := B) B.length t1 tkt tkd hGG hR hB (by omega) hBd w1 rfl hz2 (fun c t' s' hrun ss2 ws2 bs2 uf2 zs2' zw2 zb2 us2 ul2 ms2 me2 hc2 => ?_)
    rw [run2] at hrun
    injection hrun with e1 e2
    injection e2 with e2 e3
    subst e1 e2 e3
    by_cases h2 : c2 = 0
    · have b3 := (hc2 h2).1
      have b4 := (hc2 h2).2
      have v3 := ok2.2 h2
      subst b3
      have H3 := H3 rfl h2
      refine br_t (by rw [h2]; rfl) ?_
      refine xn_same (a := s1) (b := s2) s1.length s2.length rfl rfl w3 v3 hzk b4 (fun hab => ?_) (fun hab => ?_)
      · rw [if_pos hab] at H3
        exact br_f (by decide) (H3 _ _ _ _ _ _ _ _ _ _ _ _ _ _)
      · rw [if_neg hab] at H3
        exact br_t rfl (H3 _ _ _ _ _ _ _ _ _ _ _ _ _ _)
    · have hcn : ¬ nI c2 = 0 := by rw [← nI_0, nI_eq (by omega) (by omega)]; exact h2
      exact br_f hcn (H2 rfl h2 _ _ _ _ _ _ _ _ _ _ _ _ _ _)
  · have hcn : ¬ nI c1 = 0 := by rw [← nI_0, nI_eq (by omega) (by omega)]; exact h0
    exact br_f hcn (br_f hcn (H1 h0 _ _ _ _ _ _ _ _ _ _ _ _ _ _))
end
