theorem zs_cut8 (y : Int64) {i : Nat} (hi : i < 8) : y.toInt32.toInt8.toBitVec.getLsbD i = zs_bit y i := by
  rw [Int32.toBitVec_toInt8, Int64.toBitVec_toInt32, BitVec.getLsbD_signExtend, BitVec.getLsbD_signExtend, if_pos (show i < 32 by omega), if_pos (show i < 64 by omega), decide_eq_true hi, decide_eq_true (show i < 32 by omega), Bool.true_and, Bool.true_and]
  rfl
theorem zs_ubit (x : Int64) {j i : Nat} (h : j + i < 64) : zs_bit ((x.toUInt64 >>> ((nI j).toInt64.toUInt64 &&& Int64.toUInt64 63)).toInt64) i = zs_bit x (j + i) := by
  obtain ⟨n, hn, e⟩ := wb_of x
  subst e
  rw [wb_shr hn (by omega)]
  show (lN (n / 2 ^ j)).toBitVec.getLsbD i = (lN n).toBitVec.getLsbD (j + i)
  rw [wb_tb, wb_tb, BitVec.getLsbD_ofNat, BitVec.getLsbD_ofNat, decide_eq_true (show i < 64 by omega), decide_eq_true h, Bool.true_and, Bool.true_and, Nat.testBit_div_two_pow]
  congr 1
  omega
theorem zs_sbit (x : Int64) {j i : Nat} (h : j + i < 64) : zs_bit (x >>> ((nI j).toInt64 &&& 63)) i = zs_bit x (j + i) := by
  rw [wb_c j (by omega)]
  have e : (x >>> lN j).toBitVec = x.toBitVec.sshiftRight j := by
    show BitVec.sshiftRight' x.toBitVec ((lN j).toBitVec.smod 64) = _
    rw [wb_tb, wb_sm j (by omega)]
    unfold BitVec.sshiftRight'
    rw [BitVec.toNat_ofNat, Nat.mod_eq_of_lt (by omega)]
  unfold zs_bit
  rw [e, BitVec.getLsbD_sshiftRight, if_pos h, decide_eq_false (show ¬ 64 ≤ i by omega), Bool.not_false, Bool.true_and]
theorem zs_by (x : Int64) {k : Nat} (hk : k < 8) : ∃ b, b < 256 ∧ ((((x.toUInt64 >>> (((8 : Int32) * nI k).toInt64.toUInt64 &&& Int64.toUInt64 63)).toInt64).toInt32) &&& (255 : Int32)) = nI b ∧ vp_nar .byte (((x >>> (((8 : Int32) * nI k).toInt64 &&& 63)).toInt32).toInt8.toInt32) = (nI b).toInt8.toInt32 := by
  have e8 : (8 : Int32) * nI k = nI (8 * k) := pk_mul 8 k
  rw [e8, pk_vb]
  obtain ⟨b, hb, e⟩ := pk_andE ((x.toUInt64 >>> ((nI (8 * k)).toInt64.toUInt64 &&& Int64.toUInt64 63)).toInt64).toInt32 (m := 255) 8 rfl
  refine ⟨b, hb, e, ?_⟩
  rw [← e, fa_byte_low]
  apply congrArg
  apply Int8.toBitVec_inj.1
  apply BitVec.eq_of_getLsbD_eq
  intro i hi
  rw [zs_cut8 _ hi, zs_cut8 _ hi, zs_ubit x (j := 8 * k) (i := i) (by omega), zs_sbit x (j := 8 * k) (i := i) (by omega)]
theorem zs_typeLoop (x : Int64) : ∀ (r L : Nat) (bs mtx : Nat → Int32) (fuel : Nat), r ≤ 8 → L + r ≤ 300 → r < fuel → (∀ j, j < L → ∃ b, b < 256 ∧ bs j = nI b ∧ mtx j = (nI b).toInt8.toInt32) → ∃ w bs' mtx', zl_X4_type_36 x fuel (nI r + (-1)) (nI L) bs = some (w, nI (L + r), bs') ∧ zl_X5_type_34 x fuel (nI r + (-1)) (nI L) mtx = some (w, nI (L + r), mtx') ∧ ∀ j, j < L + r → ∃ b, b < 256 ∧ bs' j = nI b ∧ mtx' j = (nI b).toInt8.toInt32 := by
  intro r
  induction r with
  | zero =>
    intro L bs mtx fuel h1 h2 h3 h4
    obtain ⟨n, rfl⟩ : ∃ n, fuel = n + 1 := ⟨fuel - 1, by omega⟩
    refine ⟨nI 0 + (-1), bs, mtx, ?_, ?_, h4⟩
    · rw [zl_X4_type_36, if_pos (by decide)]
      rfl
    · rw [zl_X5_type_34, if_pos (by decide)]
      rfl
  | succ r ih =>
    intro L bs mtx fuel h1 h2 h3 h4
    obtain ⟨n, rfl⟩ : ∃ n, fuel = n + 1 := ⟨fuel - 1, by omega⟩
    obtain ⟨b, hb, e1, e2⟩ := zs_by x (k := r) (by omega)
    obtain ⟨w, bs', mtx', q1, q2, q3⟩ := ih (L + 1) (upd bs L (nI b)) (upd mtx L ((nI b).toInt8.toInt32)) n (by omega) (by omega) (by omega) (by
      intro j hj
      by_cases e : j = L
      · subst e
        exact ⟨b, hb, pk_us, pk_us⟩
      · rw [pk_un e, pk_un e]
        exact h4 j (by omega))
    have el : L + 1 + r = L + (r + 1) := by omega
    rw [el] at q1 q2 q3
    refine ⟨w, bs', mtx', ?_, ?_, q3⟩
    · rw [zl_X4_type_36, pk_m1, if_neg (nI_pos (by omega)), e1]
      unfold zf_X2_append
      rw [if_neg (show ¬ (300 : Int32) ≤ nI L from nI_ge (b := 300) (by omega) (by decide)), zs_zin (n := L) (by omega) (by omega), nI_clamp (by omega)]
      show zl_X4_type_36 x n (nI r + (-1)) (nI L + 1) (upd bs L (nI b)) = _
      rw [nI_1]
      exact q1
    · rw [zl_X5_type_34, pk_m1, if_neg (nI_pos (by omega)), e2, zs_zin (n := L) (by omega) (by omega), nI_clamp (by omega)]
      show zl_X5_type_34 x n (nI r + (-1)) (nI L + 1) _ = _
      rw [nI_1]
      exact q2
theorem zp_type : zh_type zi_Inv := by
  intro v_sm_asked v_sm_traced v_tx_length f_tx_bytes f_tx_tokens f_tx_places v_rd_at v_rd_token v_rd_fault v_td_laws v_td_there v_td_sayers f_td_says f_td_weights v_sp_laws v_sp_there v_sp_sayers f_sp_says f_sp_weights v_ds_alike f_ds_costs f_ds_lengths f_sm_fars f_sm_common f_sm_others f_sm_scale v_md_length v_md_laws v_md_sayers v_md_there v_md_question v_md_measure v_md_trace v_md_readLaws v_md_readSayers v_md_readThere v_md_begin v_md_end v_md_sort v_md_open v_md_level v_md_said f_md_text f_md_weight f_md_says f_md_cost f_md_readWeight f_md_readSays f_md_opened f_md_any f_md_all f_md_burdens f_md_best f_md_own f_md_truth x0 x1 hI
  obtain ⟨n, k, c, al, h1, h2, ⟨t1, t2, t3, t4⟩, h4⟩ := id hI
  have z1 : (1 : Int32).toInt = 1 := rfl
  have z8 : (8 : Int32).toInt = 8 := rfl
  have y1 : (1 : Int64).toInt = 1 := rfl
  have y8 : (8 : Int64).toInt = 8 := rfl
  unfold zf_X4_type zf_X5_type
  rw [zs_in, Option.bind_some]
  by_cases c1 : x1 < 1
  · rw [if_pos c1]
    have c2 : ¬ ((1 : Int64) ≤ x1.toInt64 ∧ x1.toInt64 ≤ 8) := fun q => by
      have q1 := q.1
      rw [Int64.le_iff_toInt_le, zs_i2l, y1] at q1
      rw [Int32.lt_iff_toInt_lt, z1] at c1
      omega
    rw [if_neg c2, if_pos rfl]
    exact ⟨_, _, rfl, rfl, rfl, hI⟩
  · rw [if_neg c1]
    by_cases c8 : x1 ≤ 8
    · rw [if_pos c8]
      rw [Int32.lt_iff_toInt_lt, z1] at c1
      rw [Int32.le_iff_toInt_le, z8] at c8
      have c2 : ((1 : Int64) ≤ x1.toInt64 ∧ x1.toInt64 ≤ 8) := by
        rw [Int64.le_iff_toInt_le, Int64.le_iff_toInt_le, zs_i2l, y1, y8]
        omega
      obtain ⟨r, hr, e⟩ := vp_in_of (x := x1) (n := 9) (vp_in_iff.mpr (by omega)) (by omega)
      subst e
      rw [nI_toInt (by omega)] at c1
      rw [if_pos c2, if_neg (show ¬ (1 : Int32) = 0 by decide), t2, t3, nI_add]
      by_cases c3 : n + r ≤ 300
      · have c4 : nI (n + r) ≤ (300 : Int32) := nI_le c3 (by decide)
        rw [if_pos c4, if_pos c4]
        obtain ⟨w, bs', mtx', q1, q2, q3⟩ := zs_typeLoop x0 r n f_tx_bytes f_md_text zk_F (by omega) c3 (by rw [zs_F]; omega) t4
        have em : nI r - 1 = nI r + (-1) := Int32.sub_eq_add_neg _ _
        rw [em]
        refine ⟨(nI (n + r), nI (n + r), bs'), (nI (n + r), nI (n + r), mtx'), ?_, ?_, rfl, n + r, k, c, al, h1, h2, ⟨c3, rfl, rfl, q3⟩, h4⟩
        · rw [zs_zl, q1]
          rfl
        · rw [zs_zl, q2]
          rfl
      · have c4 : ¬ nI (n + r) ≤ (300 : Int32) := nI_ge (a := 300) (b := n + r) (by omega) (by omega)
        rw [if_neg c4, if_neg c4]
        rw [t2, t3] at hI
        exact ⟨_, _, rfl, rfl, rfl, hI⟩
    · rw [if_neg c8]
      have c2 : ¬ ((1 : Int64) ≤ x1.toInt64 ∧ x1.toInt64 ≤ 8) := fun q => by
        have q1 := q.2
        rw [Int64.le_iff_toInt_le, zs_i2l, y8] at q1
        rw [Int32.le_iff_toInt_le, z8] at c8
        omega
      rw [if_neg c2, if_pos rfl]
      exact ⟨_, _, rfl, rfl, rfl, hI⟩
