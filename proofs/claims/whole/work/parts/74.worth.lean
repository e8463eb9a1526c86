theorem zs_allW {k : Nat} (hk : k ≤ 7) {wts : Nat → Int32} {wt : Nat → Nat} (h : ∀ i, i < k → wts i = nI (wt i)) : zf_X3_allWeights (nI k) wts = some (nI (fb_sm wt k)) := by
  have hl := zs_for (fun n (a : Int32) i => zl_X3_allWeights_4 (nI k) wts n a (nI i)) k (fun i a => i ≤ k ∧ a = nI (fb_sm wt i)) (fun r => r.1 = nI (fb_sm wt k)) (by
    intro n a ha
    refine ⟨(a, nI k), ?_, ha.2⟩
    show zl_X3_allWeights_4 (nI k) wts (n + 1) a (nI k) = _
    rw [zl_X3_allWeights_4, if_pos (nI_le (Nat.le_refl k) (by omega))]) (by
    intro n i a hi ha
    right
    refine ⟨nI (fb_sm wt (i + 1)), ?_, by omega, rfl⟩
    show zl_X3_allWeights_4 (nI k) wts (n + 1) a (nI i) = zl_X3_allWeights_4 (nI k) wts n _ (nI (i + 1))
    rw [zl_X3_allWeights_4, if_neg (nI_ge hi (by omega)), zs_zin (n := i) (by omega) (by omega), ha.2]
    show zl_X3_allWeights_4 (nI k) wts n (nI _ + wts (nI i).toNatClampNeg) (nI i + 1) = _
    rw [nI_clamp (by omega), h i hi, nI_add, nI_1, fb_sm_succ])
  obtain ⟨r, h1, h2⟩ := hl k 0 0 zk_F (by omega) (by rw [zs_F]; omega) ⟨by omega, rfl⟩
  have h1' : zl_X3_allWeights_4 (nI k) wts zk_F (0 : Int32) (0 : Int32) = some r := h1
  unfold zf_X3_allWeights
  rw [h1', Option.bind_some, h2]
theorem zs_allW5 {k : Nat} (hk : k ≤ 7) {wts : Nat → Int32} {wt : Nat → Nat} (h : ∀ i, i < k → wts i = nI (wt i)) : ∃ r, zl_X5_count_4 (nI k) wts zk_F (0 : Int32) (0 : Int32) = some r ∧ r.1 = nI (fb_sm wt k) := by
  have hl := zs_for (fun n (a : Int32) i => zl_X5_count_4 (nI k) wts n a (nI i)) k (fun i a => i ≤ k ∧ a = nI (fb_sm wt i)) (fun r => r.1 = nI (fb_sm wt k)) (by
    intro n a ha
    refine ⟨(a, nI k), ?_, ha.2⟩
    show zl_X5_count_4 (nI k) wts (n + 1) a (nI k) = _
    rw [zl_X5_count_4, if_pos (nI_le (Nat.le_refl k) (by omega))]) (by
    intro n i a hi ha
    right
    refine ⟨nI (fb_sm wt (i + 1)), ?_, by omega, rfl⟩
    show zl_X5_count_4 (nI k) wts (n + 1) a (nI i) = zl_X5_count_4 (nI k) wts n _ (nI (i + 1))
    rw [zl_X5_count_4, if_neg (nI_ge hi (by omega)), zs_zin (n := i) (by omega) (by omega), ha.2]
    show zl_X5_count_4 (nI k) wts n (nI _ + wts (nI i).toNatClampNeg) (nI i + 1) = _
    rw [nI_clamp (by omega), h i hi, nI_add, nI_1, fb_sm_succ])
  obtain ⟨r, h1, h2⟩ := hl k 0 0 zk_F (by omega) (by rw [zs_F]; omega) ⟨by omega, rfl⟩
  exact ⟨r, h1, h2⟩
theorem zp_count : zh_count zi_Inv := by
  intro v_sm_asked v_sm_traced v_tx_length f_tx_bytes f_tx_tokens f_tx_places v_rd_at v_rd_token v_rd_fault v_td_laws v_td_there v_td_sayers f_td_says f_td_weights v_sp_laws v_sp_there v_sp_sayers f_sp_says f_sp_weights v_ds_alike f_ds_costs f_ds_lengths f_sm_fars f_sm_common f_sm_others f_sm_scale v_md_length v_md_laws v_md_sayers v_md_there v_md_question v_md_measure v_md_trace v_md_readLaws v_md_readSayers v_md_readThere v_md_begin v_md_end v_md_sort v_md_open v_md_level v_md_said f_md_text f_md_weight f_md_says f_md_cost f_md_readWeight f_md_readSays f_md_opened f_md_any f_md_all f_md_burdens f_md_best f_md_own f_md_truth x0 hI
  obtain ⟨n, k, c, al, h1, h2, ⟨t1, t2, t3, t4⟩, h4, h5, ⟨s1, s2, s3, s4⟩, h6⟩ := id hI
  suffices hs : ∃ v, zf_X4_count x0 v_tx_length v_td_laws v_td_there v_td_sayers f_td_weights = some v ∧ zf_X5_count x0 v_md_length v_md_laws v_md_sayers v_md_there f_md_weight = some v by
    obtain ⟨v, e1, e2⟩ := hs
    exact ⟨_, _, e1, e2, rfl, hI⟩
  obtain ⟨wt, hwt⟩ := zs_wts s4
  have a1 := zs_allW s1 (wts := f_td_weights) (wt := wt) (fun i hi => (hwt i hi).2.2.1)
  obtain ⟨r, b1, b2⟩ := zs_allW5 s1 (wts := f_md_weight) (wt := wt) (fun i hi => (hwt i hi).2.2.2)
  unfold zf_X4_count zf_X5_count
  rw [s2, s3, h5, h4, t2, t3, b1, Option.bind_some, a1, zs_bc64, zs_many]
  by_cases c0 : x0 = 0
  · rw [if_pos c0, if_pos c0]; exact ⟨_, rfl, rfl⟩
  rw [if_neg c0, if_neg c0]
  by_cases c1 : x0 = 1
  · rw [if_pos c1, if_pos c1]; exact ⟨_, rfl, rfl⟩
  rw [if_neg c1, if_neg c1]
  by_cases c2 : x0 = 2
  · rw [if_pos c2, if_pos c2]; exact ⟨_, rfl, rfl⟩
  rw [if_neg c2, if_neg c2]
  by_cases c3 : x0 = 3
  · rw [if_pos c3, if_pos c3]; exact ⟨_, rfl, by rw [b2]⟩
  rw [if_neg c3, if_neg c3]
  by_cases c4 : x0 = 4
  · rw [if_pos c4]; exact ⟨_, rfl, rfl⟩
  rw [if_neg c4]
  exact ⟨_, rfl, rfl⟩
def zs_oth (says : Nat → Int64) (i : Nat) : Nat → Int64
  | 0 => 0
  | n + 1 => if n = i then zs_oth says i n else zs_oth says i n ||| says n
theorem zt_or0 (a : Int64) : a ||| 0 = a := zs_ext (fun w _ => by rw [zs_bit_or, zs_bit_0, Bool.or_false])
theorem zs_oth4 {k i : Nat} (hk : k ≤ 7) (hi : i < 7) (says : Nat → Int64) : zf_X3_saidByOthers (nI i) (nI k) says = some (zs_oth says i k) := by
  have hl := zs_for (fun n (a : Int64) j => zl_X3_saidByOthers_5 (nI i) (nI k) says n a (nI j)) k (fun j a => j ≤ k ∧ a = zs_oth says i j) (fun r => r.1 = zs_oth says i k) (by
    intro n a ha
    refine ⟨(a, nI k), ?_, ha.2⟩
    show zl_X3_saidByOthers_5 (nI i) (nI k) says (n + 1) a (nI k) = _
    rw [zl_X3_saidByOthers_5, if_pos (nI_le (Nat.le_refl k) (by omega))]) (by
    intro n j a hj ha
    right
    refine ⟨zs_oth says i (j + 1), ?_, by omega, rfl⟩
    show zl_X3_saidByOthers_5 (nI i) (nI k) says (n + 1) a (nI j) = zl_X3_saidByOthers_5 (nI i) (nI k) says n _ (nI (j + 1))
    rw [zl_X3_saidByOthers_5, if_neg (nI_ge hj (by omega)), ha.2, zs_oth]
    by_cases e : j = i
    · rw [if_pos (by rw [e]), if_pos e]
      show zl_X3_saidByOthers_5 (nI i) (nI k) says n _ (nI j + 1) = _
      rw [nI_1]
    · rw [if_neg (fun q => e ((nI_eq (by omega) (by omega)).mp q)), if_neg e, zs_zin (n := j) (by omega) (by omega)]
      show zl_X3_saidByOthers_5 (nI i) (nI k) says n (_ ||| says (nI j).toNatClampNeg) (nI j + 1) = _
      rw [nI_1, nI_clamp (by omega)])
  obtain ⟨r, h1, h2⟩ := hl k 0 0 zk_F (by omega) (by rw [zs_F]; omega) ⟨by omega, rfl⟩
  have h1' : zl_X3_saidByOthers_5 (nI i) (nI k) says zk_F (0 : Int64) (0 : Int32) = some r := h1
  unfold zf_X3_saidByOthers
  rw [h1', Option.bind_some, h2]
theorem zs_oth5 {k i : Nat} (hk : k ≤ 7) (hi : i < 7) {says msays : Nat → Int64} (hs : ∀ j, j < k → says j = msays j) : ∃ r, zl_X5_worth_67 (nI i) (nI k) msays zk_F (0 : Int64) (0 : Int32) = some r ∧ r.1 = zs_oth says i k := by
  have hl := zs_for (fun n (a : Int64) j => zl_X5_worth_67 (nI i) (nI k) msays n a (nI j)) k (fun j a => j ≤ k ∧ a = zs_oth says i j) (fun r => r.1 = zs_oth says i k) (by
    intro n a ha
    refine ⟨(a, nI k), ?_, ha.2⟩
    show zl_X5_worth_67 (nI i) (nI k) msays (n + 1) a (nI k) = _
    rw [zl_X5_worth_67, if_pos (nI_le (Nat.le_refl k) (by omega))]) (by
    intro n j a hj ha
    right
    refine ⟨zs_oth says i (j + 1), ?_, by omega, rfl⟩
    show zl_X5_worth_67 (nI i) (nI k) msays (n + 1) a (nI j) = zl_X5_worth_67 (nI i) (nI k) msays n _ (nI (j + 1))
    rw [zl_X5_worth_67, if_neg (nI_ge hj (by omega)), ha.2, zs_oth]
    by_cases e : j = i
    · rw [if_pos (by rw [e]), if_pos e]
      show zl_X5_worth_67 (nI i) (nI k) msays n (_ ||| 0) (nI j + 1) = _
      rw [nI_1, zt_or0]
    · rw [if_neg (fun q => e ((nI_eq (by omega) (by omega)).mp q)), if_neg e, zs_zin (n := j) (by omega) (by omega)]
      show zl_X5_worth_67 (nI i) (nI k) msays n (_ ||| msays (nI j).toNatClampNeg) (nI j + 1) = _
      rw [nI_1, nI_clamp (by omega), hs j hj])
  obtain ⟨r, h1, h2⟩ := hl k 0 0 zk_F (by omega) (by rw [zs_F]; omega) ⟨by omega, rfl⟩
  exact ⟨r, h1, h2⟩
theorem zs_plain {i : Nat} (hi : i < 7) {says msays : Nat → Int64} (hs : says i = msays i) (tr there : Int64) : zf_X4_sayerWorth (nI i) tr there says = some (nI (zs_pop (there &&& says i)), tr + 1) ∧ zf_X5_plain (nI i) there tr msays = some (nI (zs_pop (there &&& says i)), tr + 1) := by
  unfold zf_X4_sayerWorth zf_X5_plain
  rw [zs_zin (n := i) hi (by omega), nI_clamp (by omega), zs_bc64, zs_many, hs]
  exact ⟨rfl, rfl⟩
theorem zs_weighty {i : Nat} (hi : i < 7) {says msays : Nat → Int64} {wts mwt : Nat → Int32} (hs : says i = msays i) (hw : wts i = mwt i) (tr there : Int64) : ∃ v, zf_X4_weightyWorth (nI i) tr there says wts = some (v, tr + 10 + 1) ∧ zf_X5_weighty (nI i) there tr mwt msays = some (v, tr + 10 + 1) := by
  have h := zs_plain hi hs (tr + 10) there
  unfold zf_X4_weightyWorth zf_X5_weighty
  show ∃ v, ((zf_X4_sayerWorth (nI i) (tr + 10) there says).bind _) = _ ∧ ((zf_X5_plain (nI i) there (tr + 10) msays).bind _) = _
  rw [h.1, h.2, Option.bind_some, Option.bind_some, zs_zin (n := i) hi (by omega), nI_clamp (by omega), hw]
  exact ⟨_, rfl, rfl⟩
theorem zp_worth : zh_worth zi_Inv := by
  intro v_sm_asked v_sm_traced v_tx_length f_tx_bytes f_tx_tokens f_tx_places v_rd_at v_rd_token v_rd_fault v_td_laws v_td_there v_td_sayers f_td_says f_td_weights v_sp_laws v_sp_there v_sp_sayers f_sp_says f_sp_weights v_ds_alike f_ds_costs f_ds_lengths f_sm_fars f_sm_common f_sm_others f_sm_scale v_md_length v_md_laws v_md_sayers v_md_there v_md_question v_md_measure v_md_trace v_md_readLaws v_md_readSayers v_md_readThere v_md_begin v_md_end v_md_sort v_md_open v_md_level v_md_said f_md_text f_md_weight f_md_says f_md_cost f_md_readWeight f_md_readSays f_md_opened f_md_any f_md_all f_md_burdens f_md_best f_md_own f_md_truth x0 x1 hI
  obtain ⟨n, k, c, al, h1, h2, h3, h4, h5, ⟨s1, s2, s3, s4⟩, ⟨d1, d2, d3, d4⟩, h7, h8⟩ := id hI
  have hm : ∀ l, l < 6 → c l ≤ 9 ∧ f_md_cost l = nI (c l) := fun l hl => ⟨(d3 l hl).1, (d3 l hl).2.2⟩
  have hme : v_md_measure = zs_o al := d2
  suffices hs : ∃ v tr sc r, zf_X4_worth x0 x1 v_sm_traced v_td_there v_td_sayers f_td_says f_td_weights f_sm_fars f_sm_scale = some (v, tr, sc) ∧ zf_X5_worth x0 x1 v_md_sayers v_md_there v_md_measure v_md_trace f_md_weight f_md_says f_md_cost f_md_burdens f_md_best f_md_own = some (v, tr, r) by
    obtain ⟨v, tr, sc, r, e1, e2⟩ := hs
    exact ⟨_, _, e1, e2, rfl, n, k, c, al, h1, rfl, h3, h4, h5, ⟨s1, s2, s3, s4⟩, ⟨d1, d2, d3, d4⟩, h7, h8⟩
  rw [s2, s3, h5, h2]
  unfold zf_X4_worth zf_X5_worth
  have hin := zs_in2 x0 3 (by omega)
  have hl3 : (lN 3 : Int64) = 3 := rfl
  rw [hl3] at hin
  rcases zs_isSayer x1 s1 with ⟨i, hi, e, q1, q2⟩ | ⟨q1, q2⟩
  · have ws := s4 i hi
    have hwe : f_td_weights i = f_md_weight i := by obtain ⟨w, _, _, w3, w4⟩ := ws.2; rw [w3, w4]
    rw [q1, q2, Option.bind_some, if_neg (show ¬ (1 : Int32) = 0 by decide), e]
    rcases hin with ⟨kind, hk, ek, q⟩ | ⟨q3, q4⟩
    · rw [q, Option.bind_some, if_neg (show ¬ (1 : Int32) = 0 by decide), Option.bind_some, if_neg (show ¬ (1 : Int32) = 0 by decide), ek]
      rcases (show kind = 0 ∨ kind = 1 ∨ kind = 2 ∨ kind = 3 by omega) with z | z | z | z
      · subst z
        have hp := zs_plain (i := i) (by omega) ws.1 v_md_trace v_md_there
        rw [if_pos (show nI 0 = 0 from rfl), if_neg (show ¬ (2 : Int32) ≤ nI 0 by decide), if_pos (show nI 0 = 0 from rfl), hp.1, hp.2]
        exact ⟨_, _, _, _, rfl, rfl⟩
      · subst z
        obtain ⟨v, p1, p2⟩ := zs_weighty (i := i) (by omega) ws.1 hwe v_md_trace v_md_there
        rw [if_neg (show ¬ nI 1 = 0 by decide), if_pos (show nI 1 = 1 from rfl), if_neg (show ¬ (2 : Int32) ≤ nI 1 by decide), if_neg (show ¬ nI 1 = 0 by decide), p1, p2]
        exact ⟨_, _, _, _, rfl, rfl⟩
      · subst z
        have hp := zs_plain (i := i) (by omega) ws.1 (v_md_trace + 100) v_md_there
        obtain ⟨r, o1, o2⟩ := zs_oth5 s1 (i := i) (by omega) (says := f_td_says) (msays := f_md_says) (fun j hj => (s4 j hj).1)
        rw [if_neg (show ¬ nI 2 = 0 by decide), if_neg (show ¬ nI 2 = 1 by decide), if_pos (show nI 2 = 2 from rfl), if_pos (show (2 : Int32) ≤ nI 2 by decide), if_pos (show nI 2 = 2 from rfl), o1]
        unfold zf_X4_loneWorth
        show ∃ v tr sc r2, (((zf_X4_sayerWorth (nI i) (v_md_trace + 100) v_md_there f_td_says).bind _).bind _) = some (v, tr, sc) ∧ ((zf_X5_plain (nI i) v_md_there (v_md_trace + 100) f_md_says).bind _) = some (v, tr, r2)
        rw [hp.1, hp.2, Option.bind_some, Option.bind_some, zs_zin (n := i) (by omega) (by omega), zs_oth4 s1 (by omega)]
        rw [zk_gd_t, zk_gd_t, Option.bind_some, nI_clamp (by omega), zs_bc64, zs_many, o2, ws.1]
        exact ⟨_, _, _, _, rfl, rfl⟩
      · subst z
        obtain ⟨v, p1, p2⟩ := zs_weighty (i := i) (by omega) ws.1 hwe (v_md_trace + 1000) v_md_there
        obtain ⟨M, sc, G, b2, o2, e1, e2, e3⟩ := zs_mboth s1 hme hm s4 h7 (way := 0) (by omega) v_md_there f_sm_scale f_md_burdens f_md_best f_md_own
        have e1' : zf_X4_mergedBy (0 : Int32) v_md_there (nI k) f_td_weights f_sm_fars f_sm_scale = some (M, sc) := e1
        have e3' : zf_X5_mergedBy (0 : Int32) (nI k) v_md_there G f_md_best f_md_own = some (M, b2, o2) := e3
        rw [if_neg (show ¬ nI 3 = 0 by decide), if_neg (show ¬ nI 3 = 1 by decide), if_neg (show ¬ nI 3 = 2 by decide), if_pos (show nI 3 = 3 from rfl), if_pos (show (2 : Int32) ≤ nI 3 by decide), if_neg (show ¬ nI 3 = 2 by decide), e2]
        unfold zf_X4_firmWorth
        show ∃ v tr sc r2, (((zf_X4_weightyWorth (nI i) (v_md_trace + 1000) v_md_there f_td_says f_td_weights).bind _).bind _) = some (v, tr, sc) ∧ ((zf_X5_weighty (nI i) v_md_there (v_md_trace + 1000) f_md_weight f_md_says).bind _) = some (v, tr, r2)
        rw [p1, p2, Option.bind_some, Option.bind_some, e1', e3', Option.bind_some, Option.bind_some, zs_bc64, zs_many]
        exact ⟨_, _, _, _, rfl, rfl⟩
    · have a0 : ¬ x0 = 0 := fun q => by rw [q] at q3; have : (0 : Int32).toInt = 0 := rfl; omega
      have a1 : ¬ x0 = 1 := fun q => by rw [q] at q3; have : (1 : Int32).toInt = 1 := rfl; omega
      have a2 : ¬ x0 = 2 := fun q => by rw [q] at q3; have : (2 : Int32).toInt = 2 := rfl; omega
      have a3 : ¬ x0 = 3 := fun q => by rw [q] at q3; have : (3 : Int32).toInt = 3 := rfl; omega
      rw [q4, if_neg a0, if_neg a1, if_neg a2, if_neg a3]
      exact ⟨_, _, _, _, rfl, rfl⟩
  · rw [q1, q2]
    rcases hin with ⟨kind, hk, ek, q⟩ | ⟨q3, q4⟩
    · rw [q]
      exact ⟨_, _, _, _, rfl, rfl⟩
    · rw [q4]
      exact ⟨_, _, _, _, rfl, rfl⟩
