/-! what holds between the class's cells and the reference's -/
def zs_pk (b : Bool) (v : Nat) : Nat := if b then v else 0
def zs_sum (c : Nat → Nat) (x : Nat) : Nat := zs_pk (x.testBit 0) (c 0) + zs_pk (x.testBit 1) (c 1) + zs_pk (x.testBit 2) (c 2) + zs_pk (x.testBit 3) (c 3) + zs_pk (x.testBit 4) (c 4) + zs_pk (x.testBit 5) (c 5)
/-- FAR of two worlds, by the letters in which they differ -/
def zs_len (al : Bool) (c : Nat → Nat) (x : Nat) : Nat := if al then (if x = 0 then 0 else 1) else zs_sum c x
/-- the least of f over the places with p, below n -/
def zs_least (p : Nat → Bool) (f : Nat → Nat) : Nat → Option Nat
  | 0 => none
  | n + 1 => match zs_least p f n with
    | none => if p n then some (f n) else none
    | some m => if p n && decide (f n < m) then some (f n) else some m
def zs_far (al : Bool) (c : Nat → Nat) (s : Int64) (w : Nat) : Nat := (zs_least (zs_bit s) (fun o => zs_len al c (w ^^^ o)) 64).getD 0
def zs_com (there : Int64) (says : Nat → Int64) : Nat → Nat → Int64
  | 0, _ => there
  | k + 1, t => zs_com there says k t &&& (if t.testBit k then says k else -1)
def zi_tx (n : Nat) (txl : Int32) (bs : Nat → Int32) (mlen : Int32) (mtx : Nat → Int32) : Prop := n ≤ 300 ∧ txl = nI n ∧ mlen = nI n ∧ ∀ j, j < n → ∃ b, b < 256 ∧ bs j = nI b ∧ mtx j = (nI b).toInt8.toInt32
def zi_sy (k : Nat) (sy : Int32) (says : Nat → Int64) (wts : Nat → Int32) (msy : Int32) (msays : Nat → Int64) (mwt : Nat → Int32) : Prop := k ≤ 7 ∧ sy = nI k ∧ msy = nI k ∧ ∀ i, i < k → says i = msays i ∧ ∃ w, 1 ≤ w ∧ w ≤ 9 ∧ wts i = nI w ∧ mwt i = nI w
def zi_ds (al : Bool) (c : Nat → Nat) (alike : Int32) (costs lens mcost : Nat → Int32) (mmeas : Int32) : Prop := alike = (if al then 1 else 0) ∧ mmeas = (if al then 1 else 0) ∧ (∀ l, l < 6 → c l ≤ 9 ∧ costs l = nI (c l) ∧ mcost l = nI (c l)) ∧ ∀ x, x < 64 → lens x = nI (zs_len al c x)
def zi_Inv : zi_T := fun asked traced txl bs laws there sy says wts alike costs lens fars com mlen mtx mlaws msy mthere mq mwt msays mcost mmeas mtr =>
  ∃ (n k : Nat) (c : Nat → Nat) (al : Bool), asked = mq ∧ traced = mtr ∧ zi_tx n txl bs mlen mtx ∧ laws = mlaws ∧ there = mthere ∧ zi_sy k sy says wts msy msays mwt ∧ zi_ds al c alike costs lens mcost mmeas ∧
    (∀ i, i < k → ∀ w, w < 64 → fars i w = lN (zs_far al c (says i) w)) ∧ (∀ t, t < 2 ^ k → com t = zs_com there says k t)
theorem zp_trace : zh_trace zi_Inv := by
  intro v_sm_asked v_sm_traced v_tx_length f_tx_bytes f_tx_tokens f_tx_places v_rd_at v_rd_token v_rd_fault v_td_laws v_td_there v_td_sayers f_td_says f_td_weights v_sp_laws v_sp_there v_sp_sayers f_sp_says f_sp_weights v_ds_alike f_ds_costs f_ds_lengths f_sm_fars f_sm_common f_sm_others f_sm_scale v_md_length v_md_laws v_md_sayers v_md_there v_md_question v_md_measure v_md_trace v_md_readLaws v_md_readSayers v_md_readThere v_md_begin v_md_end v_md_sort v_md_open v_md_level v_md_said f_md_text f_md_weight f_md_says f_md_cost f_md_readWeight f_md_readSays f_md_opened f_md_any f_md_all f_md_burdens f_md_best f_md_own f_md_truth hI
  obtain ⟨n, k, c, al, h1, h2, h3⟩ := id hI
  exact ⟨_, _, rfl, rfl, h2, hI⟩
theorem zp_clear : zh_clear zi_Inv := by
  intro v_sm_asked v_sm_traced v_tx_length f_tx_bytes f_tx_tokens f_tx_places v_rd_at v_rd_token v_rd_fault v_td_laws v_td_there v_td_sayers f_td_says f_td_weights v_sp_laws v_sp_there v_sp_sayers f_sp_says f_sp_weights v_ds_alike f_ds_costs f_ds_lengths f_sm_fars f_sm_common f_sm_others f_sm_scale v_md_length v_md_laws v_md_sayers v_md_there v_md_question v_md_measure v_md_trace v_md_readLaws v_md_readSayers v_md_readThere v_md_begin v_md_end v_md_sort v_md_open v_md_level v_md_said f_md_text f_md_weight f_md_says f_md_cost f_md_readWeight f_md_readSays f_md_opened f_md_any f_md_all f_md_burdens f_md_best f_md_own f_md_truth hI
  obtain ⟨n, k, c, al, h1, h2, ⟨t1, t2, t3, t4⟩, h4⟩ := hI
  exact ⟨_, _, rfl, rfl, by show v_tx_length = v_md_length; rw [t2, t3], 0, k, c, al, h1, h2, ⟨by omega, rfl, rfl, fun j hj => absurd hj (by omega)⟩, h4⟩
theorem zs_lt {x : Int32} {k : Nat} (hk : k < 2 ^ 31) (h0 : ¬ x < 0) (h : ¬ nI k ≤ x) : ∃ i, i < k ∧ x = nI i := by
  rcases pk_ix x hk with q | q | q
  · exact absurd q h0
  · exact absurd q h
  · exact q
theorem zs_X4_isSayer (x : Int32) {k : Nat} (hk : k < 2 ^ 31) : (∃ i, i < k ∧ x = nI i ∧ zf_X4_isSayer x (nI k) = some 1) ∨ ((x.toInt < 0 ∨ (k : Int) ≤ x.toInt) ∧ zf_X4_isSayer x (nI k) = some 0) := by
  unfold zf_X4_isSayer
  by_cases h0 : x < 0
  · right
    rw [if_pos h0]
    rw [Int32.lt_iff_toInt_lt] at h0
    exact ⟨Or.inl h0, rfl⟩
  · rw [if_neg h0]
    by_cases h1 : nI k ≤ x
    · right
      rw [if_pos h1]
      rw [Int32.le_iff_toInt_le, nI_toInt hk] at h1
      exact ⟨Or.inr h1, rfl⟩
    · left
      rw [if_neg h1]
      obtain ⟨i, hi, e⟩ := zs_lt hk h0 h1
      exact ⟨i, hi, e, rfl⟩
theorem zs_X5_isSayer (x : Int32) {k : Nat} (hk : k < 2 ^ 30) : (∃ i, i < k ∧ x = nI i ∧ zf_X5_isSayer x (nI k) = some 1) ∨ ((x.toInt < 0 ∨ (k : Int) ≤ x.toInt) ∧ zf_X5_isSayer x (nI k) = some 0) := by
  have e1 : ((nI k) - (1 : Int32)).toInt = (k : Int) - 1 := by rw [show (1 : Int32) = nI 1 from rfl, pk_sub_toInt hk (by omega)]; rfl
  have e0 : (0 : Int64).toInt = 0 := rfl
  have hc : ((0 : Int64) ≤ x.toInt64 ∧ x.toInt64 ≤ ((nI k) - (1 : Int32)).toInt64) ↔ (0 ≤ x.toInt ∧ x.toInt < k) := by
    rw [Int64.le_iff_toInt_le, Int64.le_iff_toInt_le, zs_i2l, zs_i2l, e1, e0]
    omega
  unfold zf_X5_isSayer
  rw [zs_in]
  show _ ∨ (_ ∧ (zk_gd (zk_b _) (some _)) = _)
  by_cases h : 0 ≤ x.toInt ∧ x.toInt < k
  · left
    obtain ⟨i, hi, e⟩ := vp_in_of (x := x) (n := k) (vp_in_iff.mpr h) (by omega)
    refine ⟨i, hi, e, ?_⟩
    show zk_gd (zk_b _) (some _) = _
    rw [if_pos (hc.mpr h)]
    rfl
  · right
    refine ⟨by omega, ?_⟩
    rw [if_neg (fun q => h (hc.mp q))]
    rfl
theorem zs_isSayer (x : Int32) {k : Nat} (hk : k ≤ 7) : (∃ i, i < k ∧ x = nI i ∧ zf_X4_isSayer x (nI k) = some 1 ∧ zf_X5_isSayer x (nI k) = some 1) ∨ (zf_X4_isSayer x (nI k) = some 0 ∧ zf_X5_isSayer x (nI k) = some 0) := by
  rcases zs_X4_isSayer x (k := k) (by omega) with ⟨i, hi, e, q⟩ | ⟨q1, q2⟩
  · left
    rcases zs_X5_isSayer x (k := k) (by omega) with ⟨j, hj, e2, q3⟩ | ⟨q3, q4⟩
    · exact ⟨i, hi, e, q, q3⟩
    · rw [e, nI_toInt (by omega)] at q3
      omega
  · right
    rcases zs_X5_isSayer x (k := k) (by omega) with ⟨j, hj, e2, q3⟩ | ⟨q3, q4⟩
    · rw [e2, nI_toInt (by omega)] at q1
      omega
    · exact ⟨q2, q4⟩
theorem zp_worlds : zh_worlds zi_Inv := by
  intro v_sm_asked v_sm_traced v_tx_length f_tx_bytes f_tx_tokens f_tx_places v_rd_at v_rd_token v_rd_fault v_td_laws v_td_there v_td_sayers f_td_says f_td_weights v_sp_laws v_sp_there v_sp_sayers f_sp_says f_sp_weights v_ds_alike f_ds_costs f_ds_lengths f_sm_fars f_sm_common f_sm_others f_sm_scale v_md_length v_md_laws v_md_sayers v_md_there v_md_question v_md_measure v_md_trace v_md_readLaws v_md_readSayers v_md_readThere v_md_begin v_md_end v_md_sort v_md_open v_md_level v_md_said f_md_text f_md_weight f_md_says f_md_cost f_md_readWeight f_md_readSays f_md_opened f_md_any f_md_all f_md_burdens f_md_best f_md_own f_md_truth x0 x1 hI
  obtain ⟨n, k, c, al, h1, h2, h3, h4, h5, ⟨s1, s2, s3, s4⟩, h6⟩ := id hI
  have hI2 : zi_Inv v_sm_asked v_sm_traced v_tx_length f_tx_bytes v_td_laws v_td_there v_td_sayers f_td_says f_td_weights v_ds_alike f_ds_costs f_ds_lengths f_sm_fars f_sm_common v_md_length f_md_text v_md_laws v_md_sayers v_md_there v_md_question f_md_weight f_md_says f_md_cost v_md_measure v_md_trace := hI
  unfold zf_X4_worlds zf_X5_worlds
  by_cases c0 : x0 = 0
  · rw [if_pos c0, if_pos c0]
    exact ⟨_, _, rfl, rfl, h5, hI⟩
  · rw [if_neg c0, if_neg c0]
    by_cases c1 : x0 = 1
    · have c2 : ¬ x0 = 2 := by rw [c1]; decide
      rw [if_pos c1, if_neg c2, if_pos c1, s2, s3]
      rw [s2, s3] at hI2
      rcases zs_isSayer x1 s1 with ⟨i, hi, e, q1, q2⟩ | ⟨q1, q2⟩
      · rw [q1, q2]
        have hz : zk_in x1 7 = true := by rw [e]; exact zs_zin (by omega) (by omega)
        refine ⟨f_td_says x1.toNatClampNeg, f_md_says x1.toNatClampNeg, ?_, ?_, ?_, ?_⟩
        · rw [Option.bind_some, if_neg (by decide), hz]; rfl
        · rw [Option.bind_some, if_neg (by decide), hz]; rfl
        · rw [e, nI_clamp (by omega)]; exact (s4 i hi).1
        · exact hI2
      · rw [q1, q2]
        exact ⟨_, _, rfl, rfl, rfl, hI2⟩
    · rw [if_neg c1]
      by_cases c2 : x0 = 2
      · rw [if_pos c2, if_pos c2]
        exact ⟨_, _, rfl, rfl, h1, hI⟩
      · rw [if_neg c2, if_neg c2, if_neg c1]
        exact ⟨_, _, rfl, rfl, rfl, hI⟩
