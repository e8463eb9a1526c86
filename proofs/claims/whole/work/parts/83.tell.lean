/-! tell -/
theorem zt_com_c {there : Int64} {says : Nat → Int64} : ∀ k t u, (∀ i, i < k → t.testBit i = u.testBit i) → zs_com there says k t = zs_com there says k u
  | 0, _, _, _ => rfl
  | k + 1, t, u, h => by rw [zs_com, zs_com, zt_com_c k t u (fun i hi => h i (by omega)), h k (by omega)]
theorem zt_com_0 {there : Int64} {says : Nat → Int64} : ∀ k, zs_com there says k 0 = there
  | 0 => rfl
  | k + 1 => by rw [zs_com, zt_com_0 k, if_neg (by rw [Nat.zero_testBit]; decide), zt_am1]
theorem zt_xb (t i j : Nat) : (t ^^^ 2 ^ i).testBit j = (t.testBit j ^^ decide (i = j)) := by rw [Nat.testBit_xor, Nat.testBit_two_pow]
theorem zt_com_x {there : Int64} {says : Nat → Int64} : ∀ k t i, i < k → t.testBit i = true → zs_com there says k t = zs_com there says k (t ^^^ 2 ^ i) &&& says i
  | 0, _, _, h, _ => absurd h (Nat.not_lt_zero _)
  | k + 1, t, i, h, ht => by
    rw [zs_com, zs_com]
    by_cases e : i = k
    · subst e
      rw [if_pos ht, if_neg (by rw [zt_xb, ht, decide_eq_true rfl]; decide), zt_am1, zt_com_c i (t ^^^ 2 ^ i) t (fun j hj => by rw [zt_xb, decide_eq_false (by omega), Bool.xor_false])]
    · rw [zt_com_x k t i (by omega) ht, zt_xb, decide_eq_false e, Bool.xor_false]
      apply zs_ext
      intro w _
      rw [zs_bit_and, zs_bit_and, zs_bit_and, zs_bit_and, Bool.and_right_comm]
theorem zt_common {k : Nat} (hk : k ≤ 7) (there : Int64) (says f : Nat → Int64) : ∃ g, zf_X4_findCommon there (nI k) says f = some g ∧ ∀ t, t < 2 ^ k → g t = zs_com there says k t := by
  have h7 : 2 ^ k ≤ 128 := Nat.pow_le_pow_right (n := 2) (by omega) hk
  have h0 : 1 ≤ 2 ^ k := Nat.two_pow_pos k
  have h := zs_for (fun n (a : Nat → Int64) i => zl_X4_findCommon_15 (nI k) says n (nI i) a) (2 ^ k) (fun i a => i ≤ 2 ^ k ∧ 1 ≤ i ∧ ∀ x, x < i → a x = zs_com there says k x) (fun r => ∀ x, x < 2 ^ k → r.2 x = zs_com there says k x) (by
    intro n a ha
    refine ⟨(nI (2 ^ k), a), ?_, ha.2.2⟩
    show zl_X4_findCommon_15 (nI k) says (n + 1) (nI (2 ^ k)) a = _
    rw [zl_X4_findCommon_15, zs_set hk, Option.bind_some, if_pos (nI_le (Nat.le_refl _) (by omega))]) (by
    intro n i a hi ha
    right
    obtain ⟨t1, t2, t3⟩ := zs_tz7 i (by omega) (by omega)
    have t4 := zs_tzk k (by omega) i hi (by omega)
    refine ⟨vp_updL a i (a (i ^^^ 2 ^ zs_tz i) &&& says (zs_tz i)), ?_, by omega, by omega, fun x hx => ?_⟩
    · show zl_X4_findCommon_15 (nI k) says (n + 1) (nI i) a = zl_X4_findCommon_15 (nI k) says n (nI (i + 1)) _
      rw [zl_X4_findCommon_15, zs_set hk, Option.bind_some, if_neg (nI_ge hi (by omega)), zs_ntz i (by omega) (by omega), Option.bind_some, zs_bclr i (by omega) _ t1 t2, zs_zin (n := i ^^^ 2 ^ zs_tz i) (by omega) (by omega), zs_zin (n := zs_tz i) t1 (by omega), zs_zin (n := i) (by omega) (by omega), nI_clamp (n := i) (by omega), nI_clamp (n := i ^^^ 2 ^ zs_tz i) (by omega), nI_clamp (n := zs_tz i) (by omega)]
      show zl_X4_findCommon_15 (nI k) says n (nI i + 1) _ = _
      rw [nI_1]
    · by_cases e : x = i
      · subst e
        rw [pk_uLs, ha.2.2 _ t3, ← zt_com_x k x (zs_tz x) t4 t2]
      · rw [pk_uLn e]
        exact ha.2.2 x (by omega))
  obtain ⟨r, h1, h2⟩ := h (2 ^ k - 1) 1 (vp_updL f 0 there) zk_F (by omega) (by rw [zs_F]; omega) ⟨h0, by omega, fun x hx => by
    have e : x = 0 := by omega
    subst e
    rw [pk_uLs, zt_com_0]⟩
  have h1' : zl_X4_findCommon_15 (nI k) says zk_F (1 : Int32) (vp_updL f (0 : Int32).toNatClampNeg there) = some r := h1
  refine ⟨r.2, ?_, h2⟩
  unfold zf_X4_findCommon
  rw [h1', show zk_in (0 : Int32) 128 = true by decide]
  rfl
theorem zt_copy {v1 : Int32 × Int32 × Int32 × Int64 × Int32 × Int32 × Int32 × Int32 × Int32 × Int64 × (Nat → Int32) × (Nat → Int64) × (Nat → Int32) × (Nat → Int64) × (Nat → Int64)} {s : Nat} (hs : s ≤ 7) (hv : v1.2.2.1 = nI s) (w : Nat → Int32) (sy : Nat → Int64) : ∃ r, zl_X5_tell_40 v1 zk_F (0 : Int32) w sy = some r ∧ ∀ i, i < s → r.2.1 i = v1.2.2.2.2.2.2.2.2.2.2.1 i ∧ r.2.2 i = v1.2.2.2.2.2.2.2.2.2.2.2.1 i := by
  have h := zs_for (fun n (a : (Nat → Int32) × (Nat → Int64)) i => zl_X5_tell_40 v1 n (nI i) a.1 a.2) s (fun i a => i ≤ s ∧ ∀ x, x < i → a.1 x = v1.2.2.2.2.2.2.2.2.2.2.1 x ∧ a.2 x = v1.2.2.2.2.2.2.2.2.2.2.2.1 x) (fun r => ∀ x, x < s → r.2.1 x = v1.2.2.2.2.2.2.2.2.2.2.1 x ∧ r.2.2 x = v1.2.2.2.2.2.2.2.2.2.2.2.1 x) (by
    intro n a ha
    refine ⟨(nI s, a.1, a.2), ?_, ha.2⟩
    show zl_X5_tell_40 v1 (n + 1) (nI s) a.1 a.2 = _
    rw [zl_X5_tell_40, hv, if_pos (nI_le (Nat.le_refl s) (by omega))]) (by
    intro n i a hi ha
    right
    refine ⟨(upd a.1 i (v1.2.2.2.2.2.2.2.2.2.2.1 i), vp_updL a.2 i (v1.2.2.2.2.2.2.2.2.2.2.2.1 i)), ?_, by omega, fun x hx => ?_⟩
    · show zl_X5_tell_40 v1 (n + 1) (nI i) a.1 a.2 = zl_X5_tell_40 v1 n (nI (i + 1)) (upd a.1 i (v1.2.2.2.2.2.2.2.2.2.2.1 i)) (vp_updL a.2 i (v1.2.2.2.2.2.2.2.2.2.2.2.1 i))
      rw [zl_X5_tell_40, hv, if_neg (nI_ge hi (by omega)), zs_zin (n := i) (by omega) (by omega), nI_clamp (by omega)]
      show zl_X5_tell_40 v1 n (nI i + 1) _ _ = _
      rw [nI_1]
    · show upd a.1 i (v1.2.2.2.2.2.2.2.2.2.2.1 i) x = _ ∧ vp_updL a.2 i (v1.2.2.2.2.2.2.2.2.2.2.2.1 i) x = _
      by_cases e : x = i
      · subst e
        rw [pk_us, pk_uLs]
        exact ⟨rfl, rfl⟩
      · rw [pk_un e, pk_uLn e]
        exact ha.2 x (by omega))
  obtain ⟨r, h1, h2⟩ := h s 0 (w, sy) zk_F (by omega) (by rw [zs_F]; omega) ⟨by omega, fun x hx => absurd hx (Nat.not_lt_zero _)⟩
  exact ⟨r, h1, h2⟩
theorem zp_tell : zh_tell zi_Inv := by
  intro v_sm_asked v_sm_traced v_tx_length f_tx_bytes f_tx_tokens f_tx_places v_rd_at v_rd_token v_rd_fault v_td_laws v_td_there v_td_sayers f_td_says f_td_weights v_sp_laws v_sp_there v_sp_sayers f_sp_says f_sp_weights v_ds_alike f_ds_costs f_ds_lengths f_sm_fars f_sm_common f_sm_others f_sm_scale v_md_length v_md_laws v_md_sayers v_md_there v_md_question v_md_measure v_md_trace v_md_readLaws v_md_readSayers v_md_readThere v_md_begin v_md_end v_md_sort v_md_open v_md_level v_md_said f_md_text f_md_weight f_md_says f_md_cost f_md_readWeight f_md_readSays f_md_opened f_md_any f_md_all f_md_burdens f_md_best f_md_own f_md_truth hI
  obtain ⟨n, k, c, al, h1, h2, ⟨t1, t2, t3, t4⟩, h4, h5, ⟨s1, s2, s3, s4⟩, ⟨d1, d2, d3, d4⟩, h7, h8⟩ := id hI
  obtain ⟨tk, pl, P, Q, tc, m, f1, hst⟩ := zt_both t1 t4 f_tx_tokens f_tx_places
  have hm : m ≤ 300 := hst.1
  have hb := zt_begin hst f1
  obtain ⟨i', a1, t1', f, la, th, sy, says', wts', e1, hcase⟩ := zt_items hst (v2 := (nI 0, nI (tc 0), -1, tk, pl)) ⟨rfl, rfl⟩ m 0 0 0 0 (-1) f_sp_says f_md_readSays f_sp_weights f_md_readWeight v_md_open v_md_level v_md_said f_md_opened f_md_any f_md_all zk_F zk_F (by omega) (by rw [zs_F]; omega) (by rw [zs_F]; omega) (Nat.zero_le m) (Nat.le_refl 0) (by omega) (by omega) (fun i hi => absurd hi (Nat.not_lt_zero _))
  have er : zf_X1_readItems (nI n) f_tx_bytes f_tx_tokens f_tx_places f_sp_says f_sp_weights = some (a1, t1', f, tk, pl, la, th, sy, says', wts') := by
    unfold zf_X1_readItems zf_X3_empty
    rw [hb, Option.bind_some, Option.bind_some]
    show (zl_X1_readItems_10 (nI 0, nI (tc 0), -1, tk, pl) zk_F (nI 0) (nI 0) (nI (tc 0)) (-1) (nI 0) (-1) (nI 0) f_sp_says f_sp_weights).bind _ = _
    rw [e1]
    rfl
  rw [t2, t3] at hI ⊢
  unfold zf_X4_tell zf_X5_tell zf_X5_fault
  rw [er, hst.2.1, Option.bind_some, Option.bind_some]
  rcases hcase with ⟨q0, a', s', q1, q2, q3, q4, u, q5, q6, q7, q8, q9⟩ | ⟨hne, j, j1, j2, u, j3, j4⟩
  · subst q0 q3 q4
    have q5' : zl_X5_fault_26 (nI n) f_md_text zk_F (0 : Int32) (0 : Int32) (-1 : Int64) (nI (P 0)) (nI (Q 0)) (zt_r (tc 0)) v_md_open v_md_level v_md_said f_md_readWeight f_md_readSays f_md_opened f_md_any f_md_all = some (Sum.inl u) := q5
    show ∃ v2, (((zl_X5_fault_26 (nI n) f_md_text zk_F (0 : Int32) (0 : Int32) (-1 : Int64) (nI (P 0)) (nI (Q 0)) (zt_r (tc 0)) v_md_open v_md_level v_md_said f_md_readWeight f_md_readSays f_md_opened f_md_any f_md_all).bind _).bind _) = some v2 ∧ _
    rw [q5', Option.bind_some]
    obtain ⟨g, g1, g2⟩ := zt_common q2 th says' f_sm_common
    obtain ⟨G, G1, G2, G3⟩ := zs_fars (me := v_ds_alike) (al := al) d1 (c := c) (costs := f_ds_costs) (fun l hl => ⟨(d3 l hl).1, (d3 l hl).2.1⟩) q2 says' f_ds_lengths f_sm_fars
    obtain ⟨r, r1, r2⟩ := zt_copy (v1 := ((-1 : Int32), u.1, u.2.1, u.2.2.1, u.2.2.2.1, u.2.2.2.2.1, u.2.2.2.2.2.1, u.2.2.2.2.2.2.1, u.2.2.2.2.2.2.2.1, u.2.2.2.2.2.2.2.2.1, u.2.2.2.2.2.2.2.2.2.1, u.2.2.2.2.2.2.2.2.2.2.1, u.2.2.2.2.2.2.2.2.2.2.2.1, u.2.2.2.2.2.2.2.2.2.2.2.2.1, u.2.2.2.2.2.2.2.2.2.2.2.2.2)) q2 q7 f_md_weight f_md_says
    rw [zk_su, Option.bind_some, if_pos (show (-1 : Int32) < 0 by decide), r1]
    refine ⟨_, rfl, Or.inr ⟨(nI a' + nI s', (0 : Int32), tk, pl, a1, t1', -1, nI a', th, nI s', says', wts', G.1, G.2, g), ?_, ?_, ?_⟩⟩
    · show ((zf_X1_isFaulty (-1)).bind _) = _
      rw [zt_if0, Option.bind_some, if_pos rfl]
      show ((zf_X4_findCommon th (nI s') says' f_sm_common).bind _) = _
      rw [g1, Option.bind_some]
      show ((zf_X4_findFars (nI s') says' v_ds_alike f_ds_costs f_ds_lengths f_sm_fars).bind _) = _
      rw [G1]
      rfl
    · show nI a' + nI s' = u.1 + u.2.1
      rw [q6, q7]
    · refine ⟨0, s', c, al, h1, h2, ⟨by omega, rfl, rfl, fun j hj => absurd hj (by omega)⟩, q6.symm, q8.symm, ⟨q2, rfl, q7, fun i hi => ?_⟩, ⟨d1, d2, d3, G2⟩, G3, g2⟩
      have z1 := q9 i hi
      have z2 := r2 i hi
      refine ⟨z1.1.trans z2.2.symm, ?_⟩
      obtain ⟨w, w1, w2, w3, w4⟩ := z1.2
      exact ⟨w, w1, w2, w3, z2.1.trans w4⟩
  · have j3' : zl_X5_fault_26 (nI n) f_md_text zk_F (0 : Int32) (0 : Int32) (-1 : Int64) (nI (P 0)) (nI (Q 0)) (zt_r (tc 0)) v_md_open v_md_level v_md_said f_md_readWeight f_md_readSays f_md_opened f_md_any f_md_all = some (Sum.inr u) := j3
    show ∃ v2, (((zl_X5_fault_26 (nI n) f_md_text zk_F (0 : Int32) (0 : Int32) (-1 : Int64) (nI (P 0)) (nI (Q 0)) (zt_r (tc 0)) v_md_open v_md_level v_md_said f_md_readWeight f_md_readSays f_md_opened f_md_any f_md_all).bind _).bind _) = some v2 ∧ _
    rw [j3', Option.bind_some]
    have hP := hst.2.2.2.2.2.2.2 j
    have hpos : ¬ u.1 < 0 := by rw [j4]; exact nI_pos (by omega)
    rw [zk_su, Option.bind_some, if_neg hpos]
    refine ⟨_, rfl, Or.inl ⟨((-10 : Int32) - f, tk, pl, a1, t1', f, la, th, sy, says', wts'), ?_, ?_, hI⟩⟩
    · show ((zf_X1_isFaulty f).bind _) = _
      rw [zt_if1 hne, Option.bind_some, if_neg (show ¬ (1 : Int32) = 0 by decide)]
    · show (-10 : Int32) - f = (-10 : Int32) - u.1
      rw [j2, j4]
