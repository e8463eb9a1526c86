/-! question -/
section
variable {n : Nat} {bs mt tk pl tk0 pl0 : Nat → Int32} {P Q tc : Nat → Nat} {m : Nat}
theorem zt_begin (h : zt_St n mt tk pl P Q tc m) (hf : zf_X2_findTokens (nI n) bs tk0 pl0 = some (tk, pl)) : zf_X1_begin (nI n) bs tk0 pl0 = some (nI 0, nI (tc 0), -1, tk, pl) := by
  unfold zf_X1_begin
  rw [hf, Option.bind_some]
  show some ((0 : Int32), tk 0, (-1 : Int32), tk, pl) = _
  rw [(h.2.2.2.1 0 (Nat.zero_le m)).1]
  rfl
theorem zt_expEnd {k : Nat} (hc : tc k = 258) : zf_X1_expect (258 : Int32) (nI k) (nI (tc k)) (-1) tk pl = some (nI k, nI (tc k), -1) := by
  unfold zf_X1_expect zf_X1_advance
  rw [zt_if0, Option.bind_some, if_pos rfl, hc, if_pos (show nI 258 = (258 : Int32) from rfl), if_pos (show nI 258 = (258 : Int32) from rfl)]
  rfl
end
theorem zp_question : zh_question zi_Inv := by
  intro v_sm_asked v_sm_traced v_tx_length f_tx_bytes f_tx_tokens f_tx_places v_rd_at v_rd_token v_rd_fault v_td_laws v_td_there v_td_sayers f_td_says f_td_weights v_sp_laws v_sp_there v_sp_sayers f_sp_says f_sp_weights v_ds_alike f_ds_costs f_ds_lengths f_sm_fars f_sm_common f_sm_others f_sm_scale v_md_length v_md_laws v_md_sayers v_md_there v_md_question v_md_measure v_md_trace v_md_readLaws v_md_readSayers v_md_readThere v_md_begin v_md_end v_md_sort v_md_open v_md_level v_md_said f_md_text f_md_weight f_md_says f_md_cost f_md_readWeight f_md_readSays f_md_opened f_md_any f_md_all f_md_burdens f_md_best f_md_own f_md_truth hI
  obtain ⟨n, k, c, al, h1, h2, ⟨t1, t2, t3, t4⟩, h4⟩ := id hI
  obtain ⟨tk, pl, P, Q, tc, m, f1, hst⟩ := zt_both t1 t4 f_tx_tokens f_tx_places
  have hb := zt_begin hst f1
  obtain ⟨v, a, t, f, e1, hcase⟩ := zt_top hst v_md_said (k := 0) (Nat.zero_le m) f_md_opened f_md_any f_md_all
  rw [t2, t3] at hI ⊢
  unfold zf_X4_question zf_X5_question zf_X1_readQuestion
  rw [hb, hst.2.1, Option.bind_some, Option.bind_some]
  show ∃ v1 v2, ((((zf_X1_readSaying (zf_X1_readOne 10) (0 : Int32) (nI 0) (nI (tc 0)) (-1) tk pl).bind _)).bind _) = some v1 ∧ ((zf_X5_saying (nI n) (nI (P 0)) (nI (Q 0)) (zt_r (tc 0)) v_md_said f_md_text f_md_opened f_md_any f_md_all).bind _) = some v2 ∧ _
  rw [e1, Option.bind_some]
  rcases hcase with ⟨k', q1, q2, q3, q4, q5, op', any', all', q6⟩ | ⟨hne, j, j1, j2, r, j3, j4, j5⟩
  · subst q3 q4 q5
    have hv := hst.2.2.2.2.2.2.1 k'
    have hr := (zt_rq _ hv.1 hv.2).2.2.2.2.2.2.2.2.2
    rw [q6, Option.bind_some]
    by_cases c258 : tc k' = 258
    · show ∃ v1 v2, (((zf_X1_expect (258 : Int32) (nI k') (nI (tc k')) (-1) tk pl).bind _).bind _) = some v1 ∧ (if (0 : Int32) ≤ (-1 : Int32) then _ else if zt_r (tc k') = 0 then _ else _) = some v2 ∧ _
      rw [zt_expEnd c258, Option.bind_some, Option.bind_some, if_neg (show ¬ (0 : Int32) ≤ (-1 : Int32) by decide), if_pos (hr.mpr c258)]
      show ∃ v1 v2, ((zf_X1_isFaulty (-1)).bind _) = some v1 ∧ _
      rw [zt_if0, Option.bind_some, if_pos rfl]
      exact ⟨_, _, rfl, rfl, rfl, 0, k, c, al, rfl, h2, ⟨by omega, rfl, rfl, fun j hj => absurd hj (by omega)⟩, h4⟩
    · have ee : zf_X1_expect (258 : Int32) (nI k') (nI (tc k')) (-1) tk pl = some (nI k', nI (tc k'), nI (P k')) := zt_expN hst (c := 258) q2 c258 (by decide)
      show ∃ v1 v2, (((zf_X1_expect (258 : Int32) (nI k') (nI (tc k')) (-1) tk pl).bind _).bind _) = some v1 ∧ (if (0 : Int32) ≤ (-1 : Int32) then _ else if zt_r (tc k') = 0 then _ else _) = some v2 ∧ _
      rw [ee, Option.bind_some, Option.bind_some, if_neg (show ¬ (0 : Int32) ≤ (-1 : Int32) by decide), if_neg (fun z => c258 (hr.mp z))]
      show ∃ v1 v2, ((zf_X1_isFaulty (nI (P k'))).bind _) = some v1 ∧ _
      rw [zt_if1 (zt_Pne (hst.2.2.2.2.2.2.2 k')), Option.bind_some, if_neg (show ¬ (1 : Int32) = 0 by decide)]
      exact ⟨_, _, rfl, rfl, rfl, hI⟩
  · rw [j3, Option.bind_some, if_pos j4]
    show ∃ v1 v2, (((zf_X1_expect (258 : Int32) a t f tk pl).bind _).bind _) = some v1 ∧ _
    rw [zt_expF hne, Option.bind_some, Option.bind_some]
    show ∃ v1 v2, ((zf_X1_isFaulty f).bind _) = some v1 ∧ _
    rw [zt_if1 hne, Option.bind_some, if_neg (show ¬ (1 : Int32) = 0 by decide)]
    refine ⟨_, _, rfl, rfl, ?_, hI⟩
    show (-10 : Int32) - f = (-10 : Int32) - r.2.1
    rw [j2, j5]
