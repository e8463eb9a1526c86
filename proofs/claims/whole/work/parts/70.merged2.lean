theorem zs_wts {k : Nat} {wts mwt : Nat → Int32} {says msays : Nat → Int64} (h : ∀ i, i < k → says i = msays i ∧ ∃ w, 1 ≤ w ∧ w ≤ 9 ∧ wts i = nI w ∧ mwt i = nI w) : ∃ wt : Nat → Nat, ∀ i, i < k → 1 ≤ wt i ∧ wt i ≤ 9 ∧ wts i = nI (wt i) ∧ mwt i = nI (wt i) := by
  have h2 : ∀ i, ∃ w, i < k → 1 ≤ w ∧ w ≤ 9 ∧ wts i = nI w ∧ mwt i = nI w := by
    intro i
    by_cases q : i < k
    · obtain ⟨w, hw⟩ := (h i q).2
      exact ⟨w, fun _ => hw⟩
    · exact ⟨0, fun z => absurd z q⟩
  exact ⟨fun i => (h2 i).choose, fun i => (h2 i).choose_spec⟩
theorem zs_bur {k : Nat} (hk : k ≤ 7) {al : Bool} {c : Nat → Nat} (hc : ∀ l, l < 6 → c l ≤ 9) {wts : Nat → Int32} {says : Nat → Int64} {fars : Nat → Nat → Int64} {wt : Nat → Nat} (h1 : ∀ i, i < k → wt i ≤ 9 ∧ wts i = nI (wt i)) (h2 : ∀ i, i < k → ∀ w, w < 64 → fars i w = lN (zs_far al c (says i) w)) : ∀ i, i < k → ∀ w, w < 64 → zf_X4_burdenOf (nI i) (nI w) wts fars = some (lN (wt i * zs_far al c (says i) w)) ∧ wt i * zs_far al c (says i) w ≤ 486 := by
  intro i hi w hw
  have b1 := zs_far_le (al := al) hc (says i) w
  have b2 := (h1 i hi).1
  constructor
  · unfold zf_X4_burdenOf
    rw [zs_zin (n := i) (by omega) (by omega), zs_zin (n := w) hw (by omega), nI_clamp (n := i) (by omega), nI_clamp (n := w) (by omega), (h1 i hi).2, h2 i hi w hw, nI_l (by omega), lN_mul]
    rfl
  · exact Nat.mul_le_mul b2 b1
theorem zs_mboth {k : Nat} (hk : k ≤ 7) {al : Bool} {me : Int32} (hme : me = zs_o al) {c : Nat → Nat} {mcost : Nat → Int32} (hm : ∀ l, l < 6 → c l ≤ 9 ∧ mcost l = nI (c l)) {wts mwt : Nat → Int32} {says msays : Nat → Int64} {fars : Nat → Nat → Int64} (hs : ∀ i, i < k → says i = msays i ∧ ∃ w, 1 ≤ w ∧ w ≤ 9 ∧ wts i = nI w ∧ mwt i = nI w) (hf : ∀ i, i < k → ∀ w, w < 64 → fars i w = lN (zs_far al c (says i) w)) {way : Nat} (hw : way ≤ 2) (there : Int64) (f : Nat → Int64) (bu best own : Nat → Int32) : ∃ (v : Int64) (sc : Nat → Int64) (G b2 o2 : Nat → Int32), zf_X4_mergedBy (nI way) there (nI k) wts fars f = some (v, sc) ∧ zf_X5_laysAll (nI k) me mwt msays mcost bu = some G ∧ zf_X5_mergedBy (nI way) (nI k) there G best own = some (v, b2, o2) := by
  obtain ⟨wt, hwt⟩ := zs_wts hs
  have hc : ∀ l, l < 6 → c l ≤ 9 := fun l hl => (hm l hl).1
  have hb := zs_bur hk hc (wts := wts) (fars := fars) (wt := wt) (fun i hi => ⟨(hwt i hi).2.1, (hwt i hi).2.2.1⟩) hf
  obtain ⟨v, sc, e1, e2⟩ := zs_merged4 hw hk there (b := fun i w => wt i * zs_far al c (says i) w) hb f
  obtain ⟨G, e3, e4⟩ := zs_laysAll hme hm hk (fun i hi => (hwt i hi).2.2.2) msays bu
  obtain ⟨r, e5, e6⟩ := zs_merged5 hw hk there (g := G) (b := fun i w => wt i * zs_far al c (says i) w) (fun i hi w hw => by rw [e4 i hi w hw, (hs i hi).1]) (fun i hi w hw => (hb i hi w hw).2) best own
  have : v = r.1 := zs_minx e2 e6
  subst this
  exact ⟨r.1, sc, G, r.2.1, r.2.2, e1, e3, e5⟩
theorem zs_isWay (x : Int32) : (∃ i, i ≤ 2 ∧ x = nI i ∧ zf_X4_isWay x = some 1 ∧ zf_X5_in x.toInt64 (0 : Int64) (2 : Int64) = some 1) ∨ (zf_X4_isWay x = some 0 ∧ zf_X5_in x.toInt64 (0 : Int64) (2 : Int64) = some 0) := by
  have hin := zs_in2 x 2 (by omega)
  have hl2 : (lN 2 : Int64) = 2 := rfl
  rw [hl2] at hin
  unfold zf_X4_isWay
  rcases hin with ⟨j, hj, ej, q⟩ | ⟨q3, q4⟩
  · left
    refine ⟨j, hj, ej, ?_, q⟩
    rw [ej, if_neg (nI_pos (by omega)), if_neg (show ¬ (2 : Int32) < nI j from nI_nlt (a := 2) (b := j) hj (by omega))]
  · right
    refine ⟨?_, q4⟩
    by_cases c1 : x < 0
    · rw [if_pos c1]
    · rw [if_neg c1]
      rw [Int32.lt_iff_toInt_lt] at c1
      have z0 : (0 : Int32).toInt = 0 := rfl
      have z2 : (2 : Int32).toInt = 2 := rfl
      rw [if_pos (by rw [Int32.lt_iff_toInt_lt, z2]; omega)]
theorem zp_merged : zh_merged zi_Inv := by
  intro v_sm_asked v_sm_traced v_tx_length f_tx_bytes f_tx_tokens f_tx_places v_rd_at v_rd_token v_rd_fault v_td_laws v_td_there v_td_sayers f_td_says f_td_weights v_sp_laws v_sp_there v_sp_sayers f_sp_says f_sp_weights v_ds_alike f_ds_costs f_ds_lengths f_sm_fars f_sm_common f_sm_others f_sm_scale v_md_length v_md_laws v_md_sayers v_md_there v_md_question v_md_measure v_md_trace v_md_readLaws v_md_readSayers v_md_readThere v_md_begin v_md_end v_md_sort v_md_open v_md_level v_md_said f_md_text f_md_weight f_md_says f_md_cost f_md_readWeight f_md_readSays f_md_opened f_md_any f_md_all f_md_burdens f_md_best f_md_own f_md_truth x0 hI
  obtain ⟨n, k, c, al, h1, h2, h3, h4, h5, ⟨s1, s2, s3, s4⟩, ⟨d1, d2, d3, d4⟩, h7, h8⟩ := id hI
  have hm : ∀ l, l < 6 → c l ≤ 9 ∧ f_md_cost l = nI (c l) := fun l hl => ⟨(d3 l hl).1, (d3 l hl).2.2⟩
  have hme : v_md_measure = zs_o al := d2
  suffices hs : ∃ v sc r, zf_X4_merged x0 v_td_there v_td_sayers f_td_weights f_sm_fars f_sm_scale = some (v, sc) ∧ zf_X5_merged x0 v_md_sayers v_md_there v_md_measure f_md_weight f_md_says f_md_cost f_md_burdens f_md_best f_md_own = some (v, r) by
    obtain ⟨v, sc, r, e1, e2⟩ := hs
    exact ⟨_, _, e1, e2, rfl, hI⟩
  rw [s2, s3, h5]
  unfold zf_X4_merged zf_X5_merged
  rcases zs_isWay x0 with ⟨way, hw, e, q1, q2⟩ | ⟨q1, q2⟩
  · rw [q1, q2, Option.bind_some, Option.bind_some, if_neg (show ¬ (1 : Int32) = 0 by decide), if_neg (show ¬ (1 : Int32) = 0 by decide), e]
    obtain ⟨v, sc, G, b2, o2, e1, e2, e3⟩ := zs_mboth s1 hme hm s4 h7 hw v_md_there f_sm_scale f_md_burdens f_md_best f_md_own
    rw [e1, e2, Option.bind_some, Option.bind_some, e3]
    exact ⟨v, sc, _, rfl, rfl⟩
  · rw [q1, q2]
    exact ⟨_, _, _, rfl, rfl⟩
theorem zp_held : zh_held zi_Inv := by
  intro v_sm_asked v_sm_traced v_tx_length f_tx_bytes f_tx_tokens f_tx_places v_rd_at v_rd_token v_rd_fault v_td_laws v_td_there v_td_sayers f_td_says f_td_weights v_sp_laws v_sp_there v_sp_sayers f_sp_says f_sp_weights v_ds_alike f_ds_costs f_ds_lengths f_sm_fars f_sm_common f_sm_others f_sm_scale v_md_length v_md_laws v_md_sayers v_md_there v_md_question v_md_measure v_md_trace v_md_readLaws v_md_readSayers v_md_readThere v_md_begin v_md_end v_md_sort v_md_open v_md_level v_md_said f_md_text f_md_weight f_md_says f_md_cost f_md_readWeight f_md_readSays f_md_opened f_md_any f_md_all f_md_burdens f_md_best f_md_own f_md_truth x0 hI
  obtain ⟨n, k, c, al, h1, h2, h3, h4, h5, ⟨s1, s2, s3, s4⟩, ⟨d1, d2, d3, d4⟩, h7, h8⟩ := id hI
  have hm : ∀ l, l < 6 → c l ≤ 9 ∧ f_md_cost l = nI (c l) := fun l hl => ⟨(d3 l hl).1, (d3 l hl).2.2⟩
  have hme : v_md_measure = zs_o al := d2
  suffices hs : ∃ v sc r, zf_X4_held x0 v_sm_asked v_td_there v_td_sayers f_td_weights f_sm_fars f_sm_scale = some (v, sc) ∧ zf_X5_held x0 v_md_sayers v_md_there v_md_question v_md_measure f_md_weight f_md_says f_md_cost f_md_burdens f_md_best f_md_own = some (v, r) by
    obtain ⟨v, sc, r, e1, e2⟩ := hs
    exact ⟨_, _, e1, e2, rfl, hI⟩
  rw [s2, s3, h5, h1]
  unfold zf_X4_held zf_X5_held
  rcases zs_isWay x0 with ⟨way, hw, e, q1, q2⟩ | ⟨q1, q2⟩
  · rw [q1, q2, Option.bind_some, Option.bind_some, if_neg (show ¬ (1 : Int32) = 0 by decide), if_neg (show ¬ (1 : Int32) = 0 by decide), e]
    obtain ⟨v, sc, G, b2, o2, e1, e2, e3⟩ := zs_mboth s1 hme hm s4 h7 hw v_md_there f_sm_scale f_md_burdens f_md_best f_md_own
    rw [e1, e2, Option.bind_some, Option.bind_some, e3, Option.bind_some]
    by_cases c0 : lg_cmp (v &&& (v_md_question ^^^ (-1 : Int64))) (0 : Int64) = 0
    · rw [if_pos c0, if_pos c0]
      exact ⟨_, _, _, rfl, rfl⟩
    · rw [if_neg c0, if_neg c0]
      exact ⟨_, _, _, rfl, rfl⟩
  · rw [q1, q2]
    exact ⟨_, _, _, rfl, rfl⟩
theorem zp_value : zh_value zi_Inv := by
  intro v_sm_asked v_sm_traced v_tx_length f_tx_bytes f_tx_tokens f_tx_places v_rd_at v_rd_token v_rd_fault v_td_laws v_td_there v_td_sayers f_td_says f_td_weights v_sp_laws v_sp_there v_sp_sayers f_sp_says f_sp_weights v_ds_alike f_ds_costs f_ds_lengths f_sm_fars f_sm_common f_sm_others f_sm_scale v_md_length v_md_laws v_md_sayers v_md_there v_md_question v_md_measure v_md_trace v_md_readLaws v_md_readSayers v_md_readThere v_md_begin v_md_end v_md_sort v_md_open v_md_level v_md_said f_md_text f_md_weight f_md_says f_md_cost f_md_readWeight f_md_readSays f_md_opened f_md_any f_md_all f_md_burdens f_md_best f_md_own f_md_truth x0 x1 hI
  obtain ⟨n, k, c, al, h1, h2, h3, h4, h5, ⟨s1, s2, s3, s4⟩, ⟨d1, d2, d3, d4⟩, h7, h8⟩ := id hI
  have hm : ∀ l, l < 6 → c l ≤ 9 ∧ f_md_cost l = nI (c l) := fun l hl => ⟨(d3 l hl).1, (d3 l hl).2.2⟩
  have hme : v_md_measure = zs_o al := d2
  suffices hs : ∃ v r, zf_X4_value x0 x1 v_td_sayers f_td_weights f_sm_fars = some v ∧ zf_X5_value x0 x1 v_md_sayers v_md_measure f_md_weight f_md_says f_md_cost f_md_burdens = some (v, r) by
    obtain ⟨v, r, e1, e2⟩ := hs
    exact ⟨_, _, e1, e2, rfl, hI⟩
  rw [s2, s3]
  obtain ⟨wt, hwt⟩ := zs_wts s4
  have hc : ∀ l, l < 6 → c l ≤ 9 := fun l hl => (hm l hl).1
  have hb := zs_bur s1 hc (wts := f_td_weights) (fars := f_sm_fars) (wt := wt) (fun i hi => ⟨(hwt i hi).2.1, (hwt i hi).2.2.1⟩) h7
  obtain ⟨G, e3, e4⟩ := zs_laysAll hme hm s1 (fun i hi => (hwt i hi).2.2.2) f_md_says f_md_burdens
  unfold zf_X4_value zf_X5_value
  have hin := zs_in2 x0 1 (by omega)
  have hl1 : (lN 1 : Int64) = 1 := rfl
  rw [hl1] at hin
  rcases hin with ⟨way, hw, ew, q⟩ | ⟨q3, q4⟩
  · rw [q, Option.bind_some, if_neg (show ¬ (1 : Int32) = 0 by decide)]
    rcases zs_isWorld x1 with ⟨w, hw64, e, q1, q2⟩ | ⟨q1, q2⟩
    · have hG : ∀ i, i < k → G (64 * i + w) = nI (wt i * zs_far al c (f_td_says i) w) := fun i hi => by rw [e4 i hi w hw64, (s4 i hi).1]
      obtain ⟨V, v1, v2⟩ := zs_weighed (way := way) (w := w) (b := fun i => wt i * zs_far al c (f_td_says i) w) (by omega) s1 zs_nobody (fun i hi => hb i hi w hw64)
      rw [q1, q2, Option.bind_some, Option.bind_some, if_neg (show ¬ (1 : Int32) = 0 by decide), if_neg (show ¬ (1 : Int32) = 0 by decide), e3, Option.bind_some, e, ew, v1]
      rcases (show way = 0 ∨ way = 1 by omega) with ee | ee
      · rw [ee] at v2 ⊢
        rw [if_pos (show nI 0 = 0 from rfl), if_pos (show nI 0 = 0 from rfl), zs_sumOf s1 hw64 hG]
        have ev : V = zs_To 0 (fun i => wt i * zs_far al c (f_td_says i) w) 7 k := v2.1
        rw [ev]
        refine ⟨_, _, ?_, rfl⟩
        show some (lN _).toInt32 = _
        rw [lN_i]
      · rw [ee] at v2 ⊢
        rw [if_neg (show ¬ nI 1 = 0 by decide), if_neg (show ¬ nI 1 = 0 by decide), if_pos (show nI 1 = 1 from rfl), zs_worstOf s1 hw64 hG (fun i hi => (hb i hi w hw64).2)]
        have ev : V = zs_To 1 (fun i => wt i * zs_far al c (f_td_says i) w) 7 k := v2.1
        rw [ev]
        refine ⟨_, _, ?_, rfl⟩
        show some (lN _).toInt32 = _
        rw [lN_i]
    · rw [q1, q2]
      rcases (show way = 0 ∨ way = 1 by omega) with ee | ee
      · rw [ew, ee]; exact ⟨-1, _, rfl, rfl⟩
      · rw [ew, ee]; exact ⟨-1, _, rfl, rfl⟩
  · have a0 : ¬ x0 = 0 := fun q => by rw [q] at q3; have : (0 : Int32).toInt = 0 := rfl; omega
    have a1 : ¬ x0 = 1 := fun q => by rw [q] at q3; have : (1 : Int32).toInt = 1 := rfl; omega
    rw [if_neg a0, if_neg a1, q4]
    exact ⟨_, _, rfl, rfl⟩
