/-! sets of sayers: the table of the class, the loop of the reference -/
theorem zs_ib (t : Nat) {i : Nat} (ht : t < 128) (hi : i < 64) : zs_bit (nI t).toInt64 i = t.testBit i := by
  rw [nI_l (by omega)]
  unfold zs_bit
  rw [wb_tb, BitVec.getLsbD_ofNat]
  simp [hi]
theorem zs_shl1 : ∀ k, k < 31 → (1 : Int32) <<< (nI k &&& 31) = nI (2 ^ k) := by decide +kernel
/-- the reference's quarrel -/
theorem zs_X5_isQuarrel {k t : Nat} {there : Int64} {says : Nat → Int64} (hk : k ≤ 7) (ht : t < 128) : zf_X5_isQuarrel (nI t) (nI k) there says = some (if zs_com there says k t = 0 then 1 else 0) := by
  have h := zs_for (fun n (a : Int64) i => zl_X5_isQuarrel_8 (nI t) (nI k) says n a (nI i)) k (fun i a => i ≤ k ∧ a = zs_com there says i t) (fun r => r.1 = zs_com there says k t) (by
    intro n a ha
    refine ⟨(a, nI k), ?_, ha.2⟩
    show zl_X5_isQuarrel_8 (nI t) (nI k) says (n + 1) a (nI k) = _
    rw [zl_X5_isQuarrel_8, if_pos (nI_le (Nat.le_refl k) (by omega))]) (by
    intro n i a hi ha
    right
    have hb := zs_has (nI t).toInt64 (w := i) (by omega)
    rw [zs_ib t ht (by omega)] at hb
    refine ⟨zs_com there says (i + 1) t, ?_, by omega, rfl⟩
    show zl_X5_isQuarrel_8 (nI t) (nI k) says (n + 1) a (nI i) = zl_X5_isQuarrel_8 (nI t) (nI k) says n _ (nI (i + 1))
    rw [zl_X5_isQuarrel_8, if_neg (nI_ge hi (by omega)), hb, Option.bind_some, ha.2]
    by_cases hc : t.testBit i = true
    · rw [if_pos hc, if_neg (by decide), zs_zin (by omega) (by omega)]
      show zl_X5_isQuarrel_8 _ _ _ _ (zs_com there says i t &&& says (nI i).toNatClampNeg) (nI i + 1) = _
      rw [nI_clamp (by omega), nI_1, zs_com, if_pos hc]
    · rw [if_neg hc, if_pos rfl]
      show zl_X5_isQuarrel_8 _ _ _ _ (zs_com there says i t &&& -1) (nI i + 1) = _
      rw [nI_1, zs_com, if_neg hc])
  obtain ⟨r, h1, h2⟩ := h k 0 there zk_F (by omega) (by rw [zs_F]; omega) ⟨by omega, rfl⟩
  unfold zf_X5_isQuarrel
  have h1' : zl_X5_isQuarrel_8 (nI t) (nI k) says zk_F there (0 : Int32) = some r := h1
  rw [h1', Option.bind_some, h2]
  by_cases hc : zs_com there says k t = 0
  · rw [if_pos hc, if_pos ((lg_cmp_eq _ _).mpr hc)]
  · rw [if_neg hc, if_neg (fun q => hc ((lg_cmp_eq _ _).mp q))]
/-- the class's -/
theorem zs_X4_isQuarrel {k t : Nat} {there : Int64} {says com : Nat → Int64} (hk : k ≤ 7) (ht : t < 2 ^ k) (hc : ∀ t, t < 2 ^ k → com t = zs_com there says k t) : zf_X4_isQuarrel (nI t) com = some (if zs_com there says k t = 0 then 1 else 0) := by
  have h7 : 2 ^ k ≤ 128 := Nat.pow_le_pow_right (n := 2) (by omega) hk
  unfold zf_X4_isQuarrel
  rw [zs_zin (by omega) (by omega)]
  show (if lg_cmp (com (nI t).toNatClampNeg) 0 = 0 then some (1 : Int32) else some 0) = _
  rw [nI_clamp (by omega), hc t ht]
  by_cases hz : zs_com there says k t = 0
  · rw [if_pos hz, if_pos ((lg_cmp_eq _ _).mpr hz)]
  · rw [if_neg hz, if_neg (fun q => hz ((lg_cmp_eq _ _).mp q))]
theorem zs_says {there : Int64} {says msays : Nat → Int64} {k : Nat} (h : ∀ i, i < k → says i = msays i) (t : Nat) : zs_com there says k t = zs_com there msays k t := by
  induction k with
  | zero => rfl
  | succ k ih => rw [zs_com, zs_com, ih (fun i hi => h i (by omega)), h k (by omega)]
theorem zs_X5_isSet (x : Int32) {k : Nat} (hk : k ≤ 7) : (∃ t, t < 2 ^ k ∧ x = nI t ∧ zf_X5_isSet x (nI k) = some 1) ∨ ((x.toInt < 0 ∨ ((2 ^ k : Nat) : Int) ≤ x.toInt) ∧ zf_X5_isSet x (nI k) = some 0) := by
  have h7 : 2 ^ k ≤ 128 := Nat.pow_le_pow_right (n := 2) (by omega) hk
  have h8 : 1 ≤ 2 ^ k := Nat.one_le_two_pow
  have e1 : (((1 : Int32) <<< (nI k &&& 31)) - (1 : Int32)).toInt = ((2 ^ k : Nat) : Int) - 1 := by rw [zs_shl1 k (by omega), show (1 : Int32) = nI 1 from rfl, pk_sub_toInt (by omega) (by omega)]; rfl
  have e0 : (0 : Int64).toInt = 0 := rfl
  have hc : ((0 : Int64) ≤ x.toInt64 ∧ x.toInt64 ≤ (((1 : Int32) <<< (nI k &&& 31)) - (1 : Int32)).toInt64) ↔ (0 ≤ x.toInt ∧ x.toInt < ((2 ^ k : Nat) : Int)) := by
    rw [Int64.le_iff_toInt_le, Int64.le_iff_toInt_le, zs_i2l, zs_i2l, e1, e0]
    omega
  unfold zf_X5_isSet
  rw [zs_in, Option.bind_some]
  by_cases h : 0 ≤ x.toInt ∧ x.toInt < ((2 ^ k : Nat) : Int)
  · left
    obtain ⟨i, hi, e⟩ := vp_in_of (x := x) (n := 2 ^ k) (vp_in_iff.mpr h) (by omega)
    refine ⟨i, hi, e, ?_⟩
    rw [if_pos (hc.mpr h)]
    rfl
  · right
    refine ⟨by omega, ?_⟩
    rw [if_neg (fun q => h (hc.mp q))]
    rfl
theorem zp_quarrels : zh_quarrels zi_Inv := by
  intro v_sm_asked v_sm_traced v_tx_length f_tx_bytes f_tx_tokens f_tx_places v_rd_at v_rd_token v_rd_fault v_td_laws v_td_there v_td_sayers f_td_says f_td_weights v_sp_laws v_sp_there v_sp_sayers f_sp_says f_sp_weights v_ds_alike f_ds_costs f_ds_lengths f_sm_fars f_sm_common f_sm_others f_sm_scale v_md_length v_md_laws v_md_sayers v_md_there v_md_question v_md_measure v_md_trace v_md_readLaws v_md_readSayers v_md_readThere v_md_begin v_md_end v_md_sort v_md_open v_md_level v_md_said f_md_text f_md_weight f_md_says f_md_cost f_md_readWeight f_md_readSays f_md_opened f_md_any f_md_all f_md_burdens f_md_best f_md_own f_md_truth x0 hI
  obtain ⟨n, k, c, al, h1, h2, h3, h4, h5, ⟨s1, s2, s3, s4⟩, h6, h7, h8⟩ := id hI
  have hI2 : zi_Inv v_sm_asked v_sm_traced v_tx_length f_tx_bytes v_td_laws v_td_there v_td_sayers f_td_says f_td_weights v_ds_alike f_ds_costs f_ds_lengths f_sm_fars f_sm_common v_md_length f_md_text v_md_laws v_md_sayers v_md_there v_md_question f_md_weight f_md_says f_md_cost v_md_measure v_md_trace := hI
  have hp7 : 2 ^ k ≤ 128 := Nat.pow_le_pow_right (n := 2) (by omega) s1
  unfold zf_X4_quarrels zf_X5_quarrels
  rw [s2, s3]
  rw [s2, s3] at hI2
  have hset : zf_X4_setsOfSayers (nI k) = some (nI (2 ^ k)) := by unfold zf_X4_setsOfSayers; rw [zs_shl1 k (by omega)]
  rw [hset, Option.bind_some]
  rcases zs_X5_isSet x0 s1 with ⟨t, ht, e, q⟩ | ⟨q1, q2⟩
  · subst e
    rw [q, Option.bind_some, if_neg (nI_pos (by omega)), if_pos (nI_lt ht (by omega)), if_neg (by decide)]
    rw [zs_X4_isQuarrel s1 ht h8, zs_X5_isQuarrel s1 (by omega), ← h5, ← zs_says (fun i hi => (s4 i hi).1) t, Option.bind_some]
    rw [← h5] at hI2
    by_cases hz : zs_com v_td_there f_td_says k t = 0
    · rw [if_pos hz, if_neg (by decide)]
      exact ⟨_, _, rfl, rfl, rfl, hI2⟩
    · rw [if_neg hz, if_pos rfl]
      exact ⟨_, _, rfl, rfl, rfl, hI2⟩
  · rw [q2, Option.bind_some, if_pos rfl]
    have hl : (if x0 < 0 then some (-1 : Int32) else if x0 < nI (2 ^ k) then (zf_X4_isQuarrel x0 f_sm_common).bind (fun v2 => if v2 = 0 then some (0 : Int32) else some (1 : Int32)) else some (-1 : Int32)) = some (-1) := by
      by_cases c0 : x0 < 0
      · rw [if_pos c0]
      · rw [if_neg c0, if_neg]
        intro q
        rw [Int32.lt_iff_toInt_lt] at c0 q
        rw [nI_toInt (by omega)] at q
        have : (0 : Int32).toInt = 0 := rfl
        omega
    exact ⟨_, _, hl, rfl, rfl, hI2⟩
