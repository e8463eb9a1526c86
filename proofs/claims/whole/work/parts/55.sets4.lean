theorem zs_or0 (x : Int32) : x ||| 0 = x := b_ext (fun i _ => by rw [b_or, b_0, Bool.or_false])
theorem zs_i2l_le (a b : Int32) : a.toInt64 ≤ b.toInt64 ↔ a ≤ b := by rw [Int64.le_iff_toInt_le, Int32.le_iff_toInt_le, zs_i2l, zs_i2l]
/-- a number between two small ones -/
theorem zs_in2 (x : Int32) (n : Nat) (hn : n < 2 ^ 31) : (∃ i, i ≤ n ∧ x = nI i ∧ zf_X5_in x.toInt64 (0 : Int64) (lN n) = some 1) ∨ ((x.toInt < 0 ∨ (n : Int) < x.toInt) ∧ zf_X5_in x.toInt64 (0 : Int64) (lN n) = some 0) := by
  rw [zs_in]
  have e0 : (0 : Int64).toInt = 0 := rfl
  have hc : ((0 : Int64) ≤ x.toInt64 ∧ x.toInt64 ≤ lN n) ↔ (0 ≤ x.toInt ∧ x.toInt < ((n + 1 : Nat) : Int)) := by
    rw [Int64.le_iff_toInt_le, Int64.le_iff_toInt_le, zs_i2l, lN_toInt hn, e0]
    omega
  by_cases h : 0 ≤ x.toInt ∧ x.toInt < ((n + 1 : Nat) : Int)
  · left
    obtain ⟨i, hi, e⟩ : ∃ i, i ≤ n ∧ x = nI i := ⟨x.toInt.toNat, by omega, by
      apply Int32.toInt_inj.mp
      rw [nI_toInt (by omega)]
      omega⟩
    exact ⟨i, hi, e, by rw [if_pos (hc.mpr h)]⟩
  · right
    exact ⟨by omega, by rw [if_neg (fun q => h (hc.mp q))]⟩
theorem zp_sets : zh_sets zi_Inv := by
  intro v_sm_asked v_sm_traced v_tx_length f_tx_bytes f_tx_tokens f_tx_places v_rd_at v_rd_token v_rd_fault v_td_laws v_td_there v_td_sayers f_td_says f_td_weights v_sp_laws v_sp_there v_sp_sayers f_sp_says f_sp_weights v_ds_alike f_ds_costs f_ds_lengths f_sm_fars f_sm_common f_sm_others f_sm_scale v_md_length v_md_laws v_md_sayers v_md_there v_md_question v_md_measure v_md_trace v_md_readLaws v_md_readSayers v_md_readThere v_md_begin v_md_end v_md_sort v_md_open v_md_level v_md_said f_md_text f_md_weight f_md_says f_md_cost f_md_readWeight f_md_readSays f_md_opened f_md_any f_md_all f_md_burdens f_md_best f_md_own f_md_truth x0 x1 hI
  obtain ⟨n, k, c, al, h1, h2, h3, h4, h5, ⟨s1, s2, s3, s4⟩, h6, h7, h8⟩ := id hI
  have h8' : ∀ t, t < 2 ^ k → f_sm_common t = zs_com v_md_there f_md_says k t := fun t ht => by rw [h8 t ht, h5, zs_says (fun i hi => (s4 i hi).1) t]
  suffices hs : ∃ v, zf_X4_sets x0 x1 v_td_sayers f_sm_common = some v ∧ zf_X5_sets x0 x1 v_md_sayers v_md_there f_md_says = some v by
    obtain ⟨v, e1, e2⟩ := hs
    exact ⟨v, v, e1, e2, rfl, hI⟩
  rw [s2, s3]
  unfold zf_X4_sets zf_X5_sets
  have go : ∀ l : Bool, x0 = zs_o (!l) → ∃ v, ((zl_X4_sets_21 x0 x1 (nI k) f_sm_common zk_F (0 : Int32) (0 : Int32)).bind (fun v26 => zk_su v26 (fun u27 => if x1 = (-1 : Int32) then some u27.1 else some (-1 : Int32)) (fun r29 => some r29))) = some v ∧ (-1 ≤ x1 → ((zl_X5_sets_22 x0 x1 (nI k) v_md_there f_md_says zk_F (0 : Int32) (0 : Int32)).bind (fun v24 => zk_su v24 (fun u25 => if 0 ≤ x1 then some (-1 : Int32) else some u25.1) (fun r27 => some r27))) = some v) := by
    intro l e
    subst e
    obtain ⟨r, hr⟩ := zs_sets_tot2 (there := v_md_there) (says := f_md_says) l x1 s1 h8'
    rw [← zs_sets_out l x1 s1 h8' zk_F 0 0, hr, Option.bind_some, Option.bind_some]
    cases r with
    | inl u =>
      by_cases e : x1 = -1
      · refine ⟨u.1, ?_, fun _ => ?_⟩
        · show (if x1 = -1 then some u.1 else some (-1)) = _
          rw [if_pos e]
        · show (if 0 ≤ x1 then some (-1) else some u.1) = _
          rw [if_neg (by rw [e]; decide)]
      · refine ⟨-1, ?_, fun h => ?_⟩
        · show (if x1 = -1 then some u.1 else some (-1)) = _
          rw [if_neg e]
        · show (if 0 ≤ x1 then some (-1) else some u.1) = _
          rw [if_pos]
          rw [Int32.le_iff_toInt_le] at h ⊢
          have e1 : (-1 : Int32).toInt = -1 := by decide
          have e2 : (0 : Int32).toInt = 0 := rfl
          have e3 : x1.toInt ≠ -1 := fun q => e (Int32.toInt_inj.mp (by rw [q, e1]))
          omega
    | inr u => exact ⟨u, rfl, fun _ => rfl⟩
  have hin := zs_in2 x0 1 (by omega)
  have hl1 : (lN 1 : Int64) = 1 := rfl
  rw [hl1] at hin
  rcases hin with ⟨i, hi, e, q⟩ | ⟨q1, q2⟩
  · rw [q, Option.bind_some, if_neg (show ¬ (1 : Int32) = 0 by decide)]
    by_cases hx : (-1 : Int32) ≤ x1
    · simp only [if_pos hx]
      obtain ⟨l, el⟩ : ∃ l : Bool, x0 = zs_o (!l) := by
        rcases (show i = 0 ∨ i = 1 by omega) with rfl | rfl
        · exact ⟨true, e⟩
        · exact ⟨false, e⟩
      obtain ⟨v, g1, g2⟩ := go l el
      refine ⟨v, ?_, g2 hx⟩
      have hh : (if x0 = 0 then some (Sum.inl () : Unit ⊕ Int32) else if x0 = (1 : Int32) then some (Sum.inl ()) else some (Sum.inr (-1))) = some (Sum.inl ()) := by
        cases l with
        | true => rw [if_pos (show x0 = 0 from el)]
        | false => rw [if_neg (by rw [el]; decide), if_pos (show x0 = 1 from el)]
      rw [hh]
      exact g1
    · simp only [if_neg hx]
      refine ⟨-1, ?_, rfl⟩
      have hh : (if x0 = 0 then some (Sum.inr (-1) : Unit ⊕ Int32) else if x0 = (1 : Int32) then some (Sum.inr (-1)) else some (Sum.inr (-1))) = some (Sum.inr (-1)) := by
        by_cases a : x0 = 0
        · rw [if_pos a]
        · rw [if_neg a]
          by_cases b : x0 = 1
          · rw [if_pos b]
          · rw [if_neg b]
      rw [hh]
      rfl
  · rw [q2, Option.bind_some, if_pos rfl]
    have a0 : ¬ x0 = 0 := fun q => by rw [q] at q1; have : (0 : Int32).toInt = 0 := rfl; omega
    have a1 : ¬ x0 = 1 := fun q => by rw [q] at q1; have : (1 : Int32).toInt = 1 := rfl; omega
    rw [if_neg a0, if_neg a1]
    exact ⟨-1, rfl, rfl⟩
theorem zs_free_eq {k : Nat} {there : Int64} {says com : Nat → Int64} (hk : k ≤ 7) (hc : ∀ t, t < 2 ^ k → com t = zs_com there says k t) : ∀ n a t, t ≤ 2 ^ k → zl_X4_free_4 (nI k) com n a (nI t) = zl_X5_free_4 (nI k) there says n a (nI t) := by
  have h7 : 2 ^ k ≤ 128 := Nat.pow_le_pow_right (n := 2) (by omega) hk
  intro n
  induction n with
  | zero => intro a t ht; rfl
  | succ n ih =>
    intro a t ht
    rw [zl_X4_free_4, zl_X5_free_4, zs_set hk, Option.bind_some, zs_shl1 k (by omega)]
    by_cases e : t = 2 ^ k
    · subst e
      rw [if_pos (nI_le (Nat.le_refl _) (by omega)), if_pos (nI_le (Nat.le_refl _) (by omega))]
    · have hlt : t < 2 ^ k := by omega
      rw [if_neg (nI_ge hlt (by omega)), if_neg (nI_ge hlt (by omega)), zs_leastQ hk hlt hc, Option.bind_some, show (0 : Int32) = zs_o (!true) from rfl, zs_isTold true hk hlt, Option.bind_some]
      by_cases e3 : zs_o (zs_told (zs_Q there says k) true k t) = zs_o (!true)
      · rw [if_pos e3, if_pos e3]
        show zl_X4_free_4 _ _ n a (nI t + 1) = zl_X5_free_4 _ _ _ n (a ||| 0) (nI t + 1)
        rw [nI_1, zs_or0]
        exact ih a (t + 1) (by omega)
      · rw [if_neg e3, if_neg e3]
        show zl_X4_free_4 _ _ n (a ||| nI t) (nI t + 1) = zl_X5_free_4 _ _ _ n (a ||| nI t) (nI t + 1)
        rw [nI_1]
        exact ih _ (t + 1) (by omega)
theorem zs_free_tot {k : Nat} {there : Int64} {says com : Nat → Int64} (hk : k ≤ 7) (hc : ∀ t, t < 2 ^ k → com t = zs_com there says k t) : ∃ r, zl_X4_free_4 (nI k) com zk_F (0 : Int32) (0 : Int32) = some r := by
  have h7 : 2 ^ k ≤ 128 := Nat.pow_le_pow_right (n := 2) (by omega) hk
  have h := zs_for (fun n (a : Int32) i => zl_X4_free_4 (nI k) com n a (nI i)) (2 ^ k) (fun i _ => i ≤ 2 ^ k) (fun _ => True) (by
    intro n a ha
    refine ⟨(a, nI (2 ^ k)), ?_, trivial⟩
    show zl_X4_free_4 (nI k) com (n + 1) a (nI (2 ^ k)) = _
    rw [zl_X4_free_4, zs_set hk, Option.bind_some, if_pos (nI_le (Nat.le_refl _) (by omega))]) (by
    intro n t a ht ha
    right
    show ∃ a', zl_X4_free_4 (nI k) com (n + 1) a (nI t) = zl_X4_free_4 (nI k) com n a' (nI (t + 1)) ∧ t + 1 ≤ 2 ^ k
    rw [zl_X4_free_4, zs_set hk, Option.bind_some, if_neg (nI_ge ht (by omega)), zs_leastQ hk ht hc, Option.bind_some]
    by_cases e3 : zs_o (zs_told (zs_Q there says k) true k t) = 0
    · rw [if_pos e3]
      refine ⟨a, ?_, by omega⟩
      show zl_X4_free_4 _ _ n a (nI t + 1) = _
      rw [nI_1]
    · rw [if_neg e3]
      refine ⟨a ||| nI t, ?_, by omega⟩
      show zl_X4_free_4 _ _ n (a ||| nI t) (nI t + 1) = _
      rw [nI_1])
  obtain ⟨r, h1, -⟩ := h (2 ^ k) 0 0 zk_F (by omega) (by rw [zs_F]; omega) (Nat.zero_le _)
  exact ⟨r, h1⟩
theorem zp_free : zh_free zi_Inv := by
  intro v_sm_asked v_sm_traced v_tx_length f_tx_bytes f_tx_tokens f_tx_places v_rd_at v_rd_token v_rd_fault v_td_laws v_td_there v_td_sayers f_td_says f_td_weights v_sp_laws v_sp_there v_sp_sayers f_sp_says f_sp_weights v_ds_alike f_ds_costs f_ds_lengths f_sm_fars f_sm_common f_sm_others f_sm_scale v_md_length v_md_laws v_md_sayers v_md_there v_md_question v_md_measure v_md_trace v_md_readLaws v_md_readSayers v_md_readThere v_md_begin v_md_end v_md_sort v_md_open v_md_level v_md_said f_md_text f_md_weight f_md_says f_md_cost f_md_readWeight f_md_readSays f_md_opened f_md_any f_md_all f_md_burdens f_md_best f_md_own f_md_truth hI
  obtain ⟨n, k, c, al, h1, h2, h3, h4, h5, ⟨s1, s2, s3, s4⟩, h6, h7, h8⟩ := id hI
  have h8' : ∀ t, t < 2 ^ k → f_sm_common t = zs_com v_md_there f_md_says k t := fun t ht => by rw [h8 t ht, h5, zs_says (fun i hi => (s4 i hi).1) t]
  suffices hs : ∃ v, zf_X4_free v_td_sayers f_sm_common = some v ∧ zf_X5_free v_md_sayers v_md_there f_md_says = some v by
    obtain ⟨v, e1, e2⟩ := hs
    exact ⟨v, v, e1, e2, rfl, hI⟩
  rw [s2, s3]
  unfold zf_X4_free zf_X5_free
  obtain ⟨r, hr⟩ := zs_free_tot (there := v_md_there) (says := f_md_says) s1 h8'
  have he := zs_free_eq s1 h8' zk_F 0 0 (Nat.zero_le _)
  have he' : zl_X4_free_4 (nI k) f_sm_common zk_F (0 : Int32) (0 : Int32) = zl_X5_free_4 (nI k) v_md_there f_md_says zk_F (0 : Int32) (0 : Int32) := he
  rw [← he', hr, Option.bind_some, zs_set s1, Option.bind_some, Option.bind_some, zs_shl1 k (by omega)]
  exact ⟨_, rfl, rfl⟩
