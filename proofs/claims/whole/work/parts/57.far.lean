/-! how far: the reference's loops -/
theorem zs_sum_le {c : Nat → Nat} (hc : ∀ l, l < 6 → c l ≤ 9) (x : Nat) : zs_sum c x ≤ 54 := by
  have h : ∀ b l, l < 6 → zs_pk b (c l) ≤ 9 := fun b l hl => by
    cases b with
    | true => exact hc l hl
    | false => exact Nat.zero_le _
  unfold zs_sum
  have h0 := h (x.testBit 0) 0 (by omega)
  have h1 := h (x.testBit 1) 1 (by omega)
  have h2 := h (x.testBit 2) 2 (by omega)
  have h3 := h (x.testBit 3) 3 (by omega)
  have h4 := h (x.testBit 4) 4 (by omega)
  have h5 := h (x.testBit 5) 5 (by omega)
  omega
theorem zs_len_le {al : Bool} {c : Nat → Nat} (hc : ∀ l, l < 6 → c l ≤ 9) (x : Nat) : zs_len al c x ≤ 54 := by
  unfold zs_len
  cases al with
  | true =>
    show (if x = 0 then 0 else 1) ≤ 54
    by_cases e : x = 0
    · rw [if_pos e]; omega
    · rw [if_neg e]; omega
  | false => exact zs_sum_le hc x
def zs_sumn (c : Nat → Nat) (x : Nat) : Nat → Nat
  | 0 => 0
  | l + 1 => zs_sumn c x l + zs_pk (x.testBit l) (c l)
theorem zs_sumn6 (c : Nat → Nat) (x : Nat) : zs_sumn c x 6 = zs_sum c x := by
  simp only [zs_sumn, zs_sum, Nat.zero_add]
theorem zs_xor0 {a b : Nat} (q : a ^^^ b = 0) : a = b := by
  have h : a ^^^ b ^^^ b = a := by rw [Nat.xor_assoc, Nat.xor_self, Nat.xor_zero]
  rw [← h, q, Nat.zero_xor]
theorem zs_apartOf {al : Bool} {me : Int32} (hme : me = zs_o al) {c : Nat → Nat} {mcost : Nat → Int32} {a b : Nat} (ha : a < 64) (hb : b < 64) (hm : ∀ l, l < 6 → c l ≤ 9 ∧ mcost l = nI (c l)) : zf_X5_apartOf (nI a) (nI b) me mcost = some (nI (zs_len al c (a ^^^ b))) := by
  have hx : a ^^^ b < 64 := Nat.xor_lt_two_pow (n := 6) ha hb
  have h := zs_for (fun n (s : Int32) i => zl_X5_apartOf_5 (nI a) (nI b) mcost n s (nI i)) 6 (fun i s => i ≤ 6 ∧ s = nI (zs_sumn c (a ^^^ b) i)) (fun r => r.1 = nI (zs_sum c (a ^^^ b))) (by
    intro n s hs
    refine ⟨(s, nI 6), ?_, by rw [← zs_sumn6]; exact hs.2⟩
    show zl_X5_apartOf_5 (nI a) (nI b) mcost (n + 1) s (nI 6) = _
    rw [zl_X5_apartOf_5, if_pos (show (6 : Int32) ≤ nI 6 by decide)]) (by
    intro n i s hi hs
    right
    have hbit := zs_has (nI (a ^^^ b)).toInt64 (w := i) (by omega)
    rw [zs_ib _ (by omega) (by omega)] at hbit
    refine ⟨nI (zs_sumn c (a ^^^ b) (i + 1)), ?_, by omega, rfl⟩
    show zl_X5_apartOf_5 (nI a) (nI b) mcost (n + 1) s (nI i) = zl_X5_apartOf_5 (nI a) (nI b) mcost n _ (nI (i + 1))
    rw [zl_X5_apartOf_5, if_neg (show ¬ (6 : Int32) ≤ nI i from nI_ge hi (by decide)), nx_xor, hbit, Option.bind_some, hs.2, zs_sumn]
    by_cases hc : (a ^^^ b).testBit i = true
    · rw [if_pos hc, if_neg (show ¬ (1 : Int32) = 0 by decide), zs_zin (by omega) (by omega), hc]
      show zl_X5_apartOf_5 _ _ _ n (nI _ + mcost (nI i).toNatClampNeg) (nI i + 1) = _
      rw [nI_clamp (by omega), (hm i hi).2, nI_add, nI_1]
      rfl
    · rw [if_neg hc, if_pos rfl, ts_nt hc]
      show zl_X5_apartOf_5 _ _ _ n (nI _ + 0) (nI i + 1) = _
      rw [show (0 : Int32) = nI 0 from rfl, nI_add, nI_1]
      rfl)
  obtain ⟨r, h1, h2⟩ := h 6 0 0 zk_F (by omega) (by rw [zs_F]; omega) ⟨by omega, rfl⟩
  have h1' : zl_X5_apartOf_5 (nI a) (nI b) mcost zk_F (0 : Int32) (0 : Int32) = some r := h1
  unfold zf_X5_apartOf
  rw [h1', Option.bind_some, h2, hme]
  unfold zs_len
  cases al with
  | false => rfl
  | true =>
    show (if (1 : Int32) = 0 then some (nI (zs_sum c (a ^^^ b))) else if nI a = nI b then some 0 else some 1) = some (nI (if a ^^^ b = 0 then 0 else 1))
    rw [if_neg (show ¬ (1 : Int32) = 0 by decide)]
    by_cases e : a = b
    · subst e
      rw [if_pos rfl, if_pos (Nat.xor_self a)]
      rfl
    · rw [if_neg (fun q => e ((nI_eq (by omega) (by omega)).mp q)), if_neg (fun q => e (zs_xor0 q))]
      rfl
theorem zs_least_le {p : Nat → Bool} {f : Nat → Nat} {B : Nat} (hf : ∀ x, f x ≤ B) : ∀ n m, zs_least p f n = some m → m ≤ B
  | 0, m, h => by cases h
  | n + 1, m, h => by
    rw [zs_least] at h
    cases e : zs_least p f n with
    | none =>
      rw [e] at h
      have h' : (if p n then some (f n) else none) = some m := h
      by_cases hp : p n = true
      · rw [if_pos hp] at h'; cases h'; exact hf n
      · rw [if_neg hp] at h'; cases h'
    | some q =>
      rw [e] at h
      have hq := zs_least_le hf n q e
      have h' : (if p n && decide (f n < q) then some (f n) else some q) = some m := h
      by_cases hp : (p n && decide (f n < q)) = true
      · rw [if_pos hp] at h'; cases h'; exact hf n
      · rw [if_neg hp] at h'; cases h'; exact hq
def zs_oi (o : Option Nat) : Int32 := match o with
  | none => -1
  | some m => nI m
theorem zs_farOf {al : Bool} {me : Int32} (hme : me = zs_o al) {c : Nat → Nat} {mcost : Nat → Int32} {w : Nat} (s : Int64) (hw : w < 64) (hm : ∀ l, l < 6 → c l ≤ 9 ∧ mcost l = nI (c l)) : zf_X5_farOf (nI w) s me mcost = some (nI (zs_far al c s w)) := by
  have hle : ∀ x, zs_len al c (w ^^^ x) ≤ 54 := fun x => zs_len_le (fun l hl => (hm l hl).1) _
  have h := zs_for (fun n (a : Int32) i => zl_X5_farOf_6 (nI w) s me mcost n a (nI i)) 64 (fun i a => i ≤ 64 ∧ a = zs_oi (zs_least (zs_bit s) (fun o => zs_len al c (w ^^^ o)) i)) (fun r => r.1 = zs_oi (zs_least (zs_bit s) (fun o => zs_len al c (w ^^^ o)) 64)) (by
    intro n a ha
    refine ⟨(a, nI 64), ?_, ha.2⟩
    show zl_X5_farOf_6 _ _ _ _ (n + 1) a (nI 64) = _
    rw [zl_X5_farOf_6, if_pos (show (64 : Int32) ≤ nI 64 by decide)]) (by
    intro n i a hi ha
    right
    refine ⟨zs_oi (zs_least (zs_bit s) (fun o => zs_len al c (w ^^^ o)) (i + 1)), ?_, by omega, rfl⟩
    show zl_X5_farOf_6 (nI w) s me mcost (n + 1) a (nI i) = zl_X5_farOf_6 (nI w) s me mcost n _ (nI (i + 1))
    rw [zl_X5_farOf_6, if_neg (show ¬ (64 : Int32) ≤ nI i from nI_ge hi (by decide)), zs_has s (by omega), Option.bind_some, ha.2, zs_least, zs_apartOf hme hw hi hm, Option.bind_some]
    cases e : zs_least (zs_bit s) (fun o => zs_len al c (w ^^^ o)) i with
    | none =>
      by_cases hb : zs_bit s i = true
      · rw [if_pos hb, if_neg (show ¬ (1 : Int32) = 0 by decide), if_pos (show zs_oi none < 0 by decide)]
        show zl_X5_farOf_6 _ _ _ _ n (nI (zs_len al c (w ^^^ i))) (nI i + 1) = zl_X5_farOf_6 _ _ _ _ n (zs_oi (if zs_bit s i = true then some (zs_len al c (w ^^^ i)) else none)) _
        rw [nI_1, if_pos hb]; rfl
      · rw [if_neg hb, if_pos rfl]
        show zl_X5_farOf_6 _ _ _ _ n (zs_oi none) (nI i + 1) = zl_X5_farOf_6 _ _ _ _ n (zs_oi (if zs_bit s i = true then some (zs_len al c (w ^^^ i)) else none)) _
        rw [nI_1, if_neg hb]
    | some m =>
      have hm54 := zs_least_le hle i m e
      have hlx := hle i
      by_cases hb : zs_bit s i = true
      · rw [if_pos hb, if_neg (show ¬ (1 : Int32) = 0 by decide), if_neg (show ¬ zs_oi (some m) < 0 from nI_pos (by omega))]
        show (if nI m ≤ nI (zs_len al c (w ^^^ i)) then _ else _) = zl_X5_farOf_6 _ _ _ _ n (zs_oi (if (zs_bit s i && decide (zs_len al c (w ^^^ i) < m)) = true then some (zs_len al c (w ^^^ i)) else some m)) _
        by_cases hl : zs_len al c (w ^^^ i) < m
        · rw [if_neg (nI_ge hl (by omega)), if_pos (by rw [hb, decide_eq_true hl]; rfl)]
          show zl_X5_farOf_6 _ _ _ _ n (nI (zs_len al c (w ^^^ i))) (nI i + 1) = _
          rw [nI_1]; rfl
        · rw [if_pos (nI_le (by omega) (by omega)), if_neg (by rw [hb, decide_eq_false hl]; decide)]
          show zl_X5_farOf_6 _ _ _ _ n (zs_oi (some m)) (nI i + 1) = _
          rw [nI_1]
      · rw [if_neg hb, if_pos rfl]
        show zl_X5_farOf_6 _ _ _ _ n (zs_oi (some m)) (nI i + 1) = zl_X5_farOf_6 _ _ _ _ n (zs_oi (if (zs_bit s i && decide (zs_len al c (w ^^^ i) < m)) = true then some (zs_len al c (w ^^^ i)) else some m)) _
        rw [nI_1, if_neg (by rw [ts_nt hb, Bool.false_and]; decide)])
  obtain ⟨r, h1, h2⟩ := h 64 0 (-1) zk_F (by omega) (by rw [zs_F]; omega) ⟨by omega, rfl⟩
  have h1' : zl_X5_farOf_6 (nI w) s me mcost zk_F (-1 : Int32) (0 : Int32) = some r := h1
  unfold zf_X5_farOf
  rw [h1', Option.bind_some, h2]
  unfold zs_far
  cases e : zs_least (zs_bit s) (fun o => zs_len al c (w ^^^ o)) 64 with
  | none => rfl
  | some m =>
    have hm54 := zs_least_le hle 64 m e
    show (if 0 ≤ nI m then some (nI m) else some 0) = some (nI m)
    rw [if_pos (nI_pos' (by omega))]
theorem zs_isWorld (x : Int32) : (∃ i, i < 64 ∧ x = nI i ∧ zf_X4_isWorld x = some 1 ∧ zf_X5_isWorld x = some 1) ∨ (zf_X4_isWorld x = some 0 ∧ zf_X5_isWorld x = some 0) := by
  have hin := zs_in2 x 63 (by omega)
  have hl : (lN 63 : Int64) = 63 := rfl
  rw [hl] at hin
  unfold zf_X4_isWorld zf_X5_isWorld
  have e0 : (0 : Int32).toInt = 0 := rfl
  rcases hin with ⟨i, hi, e, q⟩ | ⟨q1, q2⟩
  · left
    rw [q]
    exact ⟨i, by omega, e, by rw [e, if_neg (nI_pos (by omega)), if_neg (show ¬ (64 : Int32) ≤ nI i from nI_ge (b := 64) (by omega) (by decide))], rfl⟩
  · right
    rw [q2]
    refine ⟨?_, rfl⟩
    by_cases c0 : x < 0
    · rw [if_pos c0]
    · rw [if_neg c0, if_pos]
      rw [Int32.lt_iff_toInt_lt] at c0
      rw [Int32.le_iff_toInt_le]
      have e64 : (64 : Int32).toInt = 64 := rfl
      omega
theorem zp_apart : zh_apart zi_Inv := by
  intro v_sm_asked v_sm_traced v_tx_length f_tx_bytes f_tx_tokens f_tx_places v_rd_at v_rd_token v_rd_fault v_td_laws v_td_there v_td_sayers f_td_says f_td_weights v_sp_laws v_sp_there v_sp_sayers f_sp_says f_sp_weights v_ds_alike f_ds_costs f_ds_lengths f_sm_fars f_sm_common f_sm_others f_sm_scale v_md_length v_md_laws v_md_sayers v_md_there v_md_question v_md_measure v_md_trace v_md_readLaws v_md_readSayers v_md_readThere v_md_begin v_md_end v_md_sort v_md_open v_md_level v_md_said f_md_text f_md_weight f_md_says f_md_cost f_md_readWeight f_md_readSays f_md_opened f_md_any f_md_all f_md_burdens f_md_best f_md_own f_md_truth x0 x1 hI
  obtain ⟨n, k, c, al, h1, h2, h3, h4, h5, h6, ⟨d1, d2, d3, d4⟩, h7⟩ := id hI
  suffices hs : ∃ v, zf_X4_apart x0 x1 f_ds_lengths = some v ∧ zf_X5_apart x0 x1 v_md_measure f_md_cost = some v by
    obtain ⟨v, e1, e2⟩ := hs
    exact ⟨v, v, e1, e2, rfl, hI⟩
  unfold zf_X4_apart zf_X5_apart
  rcases zs_isWorld x0 with ⟨i, hi, e, q1, q2⟩ | ⟨q1, q2⟩
  · rw [q1, q2, Option.bind_some, Option.bind_some, if_neg (show ¬ (1 : Int32) = 0 by decide), if_neg (show ¬ (1 : Int32) = 0 by decide)]
    rcases zs_isWorld x1 with ⟨j, hj, e2, q3, q4⟩ | ⟨q3, q4⟩
    · rw [q3, q4, Option.bind_some, Option.bind_some, if_neg (show ¬ (1 : Int32) = 0 by decide), if_neg (show ¬ (1 : Int32) = 0 by decide), e, e2, zs_apartOf (show v_md_measure = zs_o al from d2) hi hj (fun l hl => ⟨(d3 l hl).1, (d3 l hl).2.2⟩), nx_xor]
      have hx : i ^^^ j < 64 := Nat.xor_lt_two_pow (n := 6) hi hj
      rw [zs_zin hx (by omega), nI_clamp (by omega), d4 _ hx]
      exact ⟨_, rfl, rfl⟩
    · rw [q3, q4]
      exact ⟨-1, rfl, rfl⟩
  · rw [q1, q2]
    exact ⟨-1, rfl, rfl⟩
theorem zp_burden : zh_burden zi_Inv := by
  intro v_sm_asked v_sm_traced v_tx_length f_tx_bytes f_tx_tokens f_tx_places v_rd_at v_rd_token v_rd_fault v_td_laws v_td_there v_td_sayers f_td_says f_td_weights v_sp_laws v_sp_there v_sp_sayers f_sp_says f_sp_weights v_ds_alike f_ds_costs f_ds_lengths f_sm_fars f_sm_common f_sm_others f_sm_scale v_md_length v_md_laws v_md_sayers v_md_there v_md_question v_md_measure v_md_trace v_md_readLaws v_md_readSayers v_md_readThere v_md_begin v_md_end v_md_sort v_md_open v_md_level v_md_said f_md_text f_md_weight f_md_says f_md_cost f_md_readWeight f_md_readSays f_md_opened f_md_any f_md_all f_md_burdens f_md_best f_md_own f_md_truth x0 x1 hI
  obtain ⟨n, k, c, al, h1, h2, h3, h4, h5, ⟨s1, s2, s3, s4⟩, ⟨d1, d2, d3, d4⟩, h7, h8⟩ := id hI
  suffices hs : ∃ v, zf_X4_burden x0 x1 v_td_sayers f_td_weights f_sm_fars = some v ∧ zf_X5_burden x0 x1 v_md_sayers v_md_measure f_md_weight f_md_says f_md_cost = some v by
    obtain ⟨v, e1, e2⟩ := hs
    exact ⟨v, v, e1, e2, rfl, hI⟩
  rw [s2, s3]
  unfold zf_X4_burden zf_X5_burden
  rcases zs_isSayer x0 s1 with ⟨i, hi, e, q1, q2⟩ | ⟨q1, q2⟩
  · rw [q1, q2, Option.bind_some, Option.bind_some, if_neg (show ¬ (1 : Int32) = 0 by decide), if_neg (show ¬ (1 : Int32) = 0 by decide)]
    rcases zs_isWorld x1 with ⟨j, hj, e2, q3, q4⟩ | ⟨q3, q4⟩
    · obtain ⟨t1, wt, t2, t3, t4, t5⟩ := s4 i hi
      rw [q3, q4, Option.bind_some, Option.bind_some, if_neg (show ¬ (1 : Int32) = 0 by decide), if_neg (show ¬ (1 : Int32) = 0 by decide), e, e2]
      unfold zf_X4_burdenOf
      rw [zs_zin (n := i) (by omega) (by omega), zs_zin (n := j) hj (by omega), nI_clamp (n := i) (by omega), nI_clamp (n := j) (by omega), zs_farOf (show v_md_measure = zs_o al from d2) _ hj (fun l hl => ⟨(d3 l hl).1, (d3 l hl).2.2⟩), t4, t5, h7 i hi j hj, t1, nI_l (by omega), lN_mul]
      refine ⟨nI (wt * zs_far al c (f_md_says i) j), ?_, ?_⟩
      · show some (lN (wt * zs_far al c (f_md_says i) j)).toInt32 = _
        rw [lN_i]
      · show some (nI wt * nI (zs_far al c (f_md_says i) j)) = _
        rw [pk_mul]
    · rw [q3, q4]
      exact ⟨-1, rfl, rfl⟩
  · rw [q1, q2]
    exact ⟨-1, rfl, rfl⟩
