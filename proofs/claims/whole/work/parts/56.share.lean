/-! shares: orders, and the greatest common divisor -/
theorem zs_orders : ∀ n, n < 8 → zf_X5_orders (nI n) = some (zk_OR n) := by
  intro n hn
  match n, hn with
  | 0, _ => decide +kernel
  | 1, _ => decide +kernel
  | 2, _ => decide +kernel
  | 3, _ => decide +kernel
  | 4, _ => decide +kernel
  | 5, _ => decide +kernel
  | 6, _ => decide +kernel
  | 7, _ => decide +kernel
  | n + 8, h => exact absurd h (by omega)
theorem zs_ORn : ∀ n, n < 8 → ∃ u, 1 ≤ u ∧ u ≤ 5040 ∧ (n < 7 → u ≤ 720) ∧ zk_OR n = nI u := by
  intro n hn
  match n, hn with
  | 0, _ => exact ⟨1, by decide, by decide, by decide, rfl⟩
  | 1, _ => exact ⟨1, by decide, by decide, by decide, rfl⟩
  | 2, _ => exact ⟨2, by decide, by decide, by decide, rfl⟩
  | 3, _ => exact ⟨6, by decide, by decide, by decide, rfl⟩
  | 4, _ => exact ⟨24, by decide, by decide, by decide, rfl⟩
  | 5, _ => exact ⟨120, by decide, by decide, by decide, rfl⟩
  | 6, _ => exact ⟨720, by decide, by decide, by decide, rfl⟩
  | 7, _ => exact ⟨5040, by decide, by decide, by decide, rfl⟩
  | n + 8, h => exact absurd h (by omega)
theorem zs_nzN {b : Nat} (h : 0 < b) (h2 : b < 2 ^ 31) : zk_nz (nI b) = true := decide_eq_true (nI_ne0 h h2)
theorem zs_gcd : ∀ m a b s f1 f2 : Nat, b < 2 ^ m → m < 31 → a < 2 ^ 31 → s + 2 * m ≤ 64 → 2 * m < f1 → 2 * m < f2 → ∃ (g : Nat) (r1 : Int32 × Int32 × Int32) (r2 : Int32 × Int32), zl_X4_commonDivisor_7 f1 (nI a) (nI b) (nI s) = some r1 ∧ r1.1 = nI g ∧ zl_X5_share_119 f2 (nI a) (nI b) = some r2 ∧ r2.1 = nI g ∧ g < 2 ^ 31 ∧ (0 < a ∨ 0 < b → 0 < g) := by
  have z : ∀ a s f1 f2 : Nat, 0 < f1 → 0 < f2 → ∃ (r1 : Int32 × Int32 × Int32) (r2 : Int32 × Int32), zl_X4_commonDivisor_7 f1 (nI a) (nI 0) (nI s) = some r1 ∧ r1.1 = nI a ∧ zl_X5_share_119 f2 (nI a) (nI 0) = some r2 ∧ r2.1 = nI a := by
    intro a s f1 f2 h1 h2
    obtain ⟨n1, rfl⟩ : ∃ n, f1 = n + 1 := ⟨f1 - 1, by omega⟩
    obtain ⟨n2, rfl⟩ : ∃ n, f2 = n + 1 := ⟨f2 - 1, by omega⟩
    refine ⟨(nI a, nI 0, nI s), (nI a, nI 0), ?_, rfl, ?_, rfl⟩
    · rw [zl_X4_commonDivisor_7]
      by_cases h : (64 : Int32) ≤ nI s
      · rw [if_pos h]
      · rw [if_neg h, if_pos (show nI 0 = 0 from rfl)]
    · rw [zl_X5_share_119, if_pos (show nI 0 = 0 from rfl)]
  have st : ∀ a b s n1 n2 : Nat, 0 < b → b < 2 ^ 31 → a < 2 ^ 31 → s < 64 → zl_X4_commonDivisor_7 (n1 + 1) (nI a) (nI b) (nI s) = zl_X4_commonDivisor_7 n1 (nI b) (nI (a % b)) (nI (s + 1)) ∧ zl_X5_share_119 (n2 + 1) (nI a) (nI b) = zl_X5_share_119 n2 (nI b) (nI (a % b)) := by
    intro a b s n1 n2 hb hb2 ha hs
    constructor
    · rw [zl_X4_commonDivisor_7, if_neg (show ¬ (64 : Int32) ≤ nI s from nI_ge hs (by decide)), if_neg (nI_ne0 hb hb2), zs_nzN hb hb2]
      show zl_X4_commonDivisor_7 n1 (nI b) (nI a - nI a / nI b * nI b) (nI s + 1) = _
      rw [pk_rem ha hb hb2, nI_1]
    · rw [zl_X5_share_119, if_neg (nI_ne0 hb hb2), zs_nzN hb hb2]
      show zl_X5_share_119 n2 (nI b) (nI a - nI a / nI b * nI b) = _
      rw [pk_rem ha hb hb2]
  intro m
  induction m with
  | zero =>
    intro a b s f1 f2 hb _ ha hs h1 h2
    have e : b = 0 := by omega
    subst e
    obtain ⟨r1, r2, q1, q2, q3, q4⟩ := z a s f1 f2 (by omega) (by omega)
    exact ⟨a, r1, r2, q1, q2, q3, q4, ha, by omega⟩
  | succ m ih =>
    intro a b s f1 f2 hb hm ha hs h1 h2
    have hb31 : b < 2 ^ 31 := Nat.lt_of_lt_of_le hb (Nat.pow_le_pow_right (by omega) (by omega))
    by_cases e : b = 0
    · subst e
      obtain ⟨r1, r2, q1, q2, q3, q4⟩ := z a s f1 f2 (by omega) (by omega)
      exact ⟨a, r1, r2, q1, q2, q3, q4, ha, by omega⟩
    · obtain ⟨n1, rfl⟩ : ∃ n, f1 = n + 1 := ⟨f1 - 1, by omega⟩
      obtain ⟨n2, rfl⟩ : ∃ n, f2 = n + 1 := ⟨f2 - 1, by omega⟩
      obtain ⟨e1, e2⟩ := st a b s n1 n2 (by omega) hb31 ha (by omega)
      rw [e1, e2]
      have hr : a % b < b := Nat.mod_lt _ (by omega)
      by_cases er : a % b = 0
      · rw [er]
        obtain ⟨r1, r2, q1, q2, q3, q4⟩ := z b (s + 1) n1 n2 (by omega) (by omega)
        exact ⟨b, r1, r2, q1, q2, q3, q4, hb31, by omega⟩
      · obtain ⟨k1, rfl⟩ : ∃ n, n1 = n + 1 := ⟨n1 - 1, by omega⟩
        obtain ⟨k2, rfl⟩ : ∃ n, n2 = n + 1 := ⟨n2 - 1, by omega⟩
        obtain ⟨e3, e4⟩ := st b (a % b) (s + 1) k1 k2 (by omega) (by omega) hb31 (by omega)
        rw [e3, e4]
        have h3 : b % (a % b) < a % b := Nat.mod_lt _ (by omega)
        have h4 : (a % b) * (b / (a % b)) + b % (a % b) = b := Nat.div_add_mod b (a % b)
        have h5 : 1 ≤ b / (a % b) := (Nat.le_div_iff_mul_le (by omega)).mpr (by omega)
        have h6 : a % b ≤ (a % b) * (b / (a % b)) := Nat.le_mul_of_pos_right _ h5
        have hp : 2 ^ (m + 1) = 2 * 2 ^ m := by rw [Nat.pow_succ]; omega
        obtain ⟨g, r1, r2, q1, q2, q3, q4, q5, q6⟩ := ih (a % b) (b % (a % b)) (s + 1 + 1) k1 k2 (by omega) (by omega) (by omega) (by omega) (by omega) (by omega)
        exact ⟨g, r1, r2, q1, q2, q3, q4, q5, fun _ => q6 (Or.inl (by omega))⟩
def zs_pn (t : Nat) : Nat := zs_pk (t.testBit 0) 1 + zs_pk (t.testBit 1) 1 + zs_pk (t.testBit 2) 1 + zs_pk (t.testBit 3) 1 + zs_pk (t.testBit 4) 1 + zs_pk (t.testBit 5) 1 + zs_pk (t.testBit 6) 1
theorem zs_pop_pn : ∀ t, t < 128 → zs_pop (nI t).toInt64 = zs_pn t := by decide +kernel
theorem zs_pn_lt : ∀ k, k < 8 → ∀ t, t < 2 ^ k → ∀ i, i < k → t.testBit i = false → zs_pn t + 1 ≤ k := by decide +kernel
/-- one turn of both sums -/
theorem zs_share_step {k i t : Nat} {there : Int64} {says com : Nat → Int64} (hk : k ≤ 7) (hi : i < k) (ht : t < 2 ^ k) (hc : ∀ t, t < 2 ^ k → com t = zs_com there says k t) (n : Nat) (a : Int32) : ∃ d, d ≤ 518400 ∧ zl_X4_ordersTurnedBy_4 (nI i) (nI k) com (n + 1) a (nI t) = zl_X4_ordersTurnedBy_4 (nI i) (nI k) com n (a + nI d) (nI (t + 1)) ∧ zl_X5_share_25 (nI i) (nI k) there says (n + 1) a (nI t) = zl_X5_share_25 (nI i) (nI k) there says n (a + nI d) (nI (t + 1)) := by
  have h7 : 2 ^ k ≤ 128 := Nat.pow_le_pow_right (n := 2) (by omega) hk
  have a0 : a + nI 0 = a := by rw [nI_0, Int32.add_zero]
  have hb := zs_has (nI t).toInt64 (w := i) (by omega)
  rw [zs_ib t (by omega) (by omega)] at hb
  rw [zl_X4_ordersTurnedBy_4, zl_X5_share_25, zs_set hk, Option.bind_some, zs_shl1 k (by omega), if_neg (nI_ge ht (by omega)), if_neg (nI_ge ht (by omega)), zs_band t (by omega) i (by omega), hb, Option.bind_some]
  by_cases hbt : t.testBit i = true
  · refine ⟨0, by omega, ?_, ?_⟩
    · rw [if_pos hbt, if_neg (nI_ne0 (Nat.two_pow_pos i) (Nat.pow_lt_pow_right (by omega) (by omega))), a0]
      show zl_X4_ordersTurnedBy_4 _ _ _ n a (nI t + 1) = _
      rw [nI_1]
    · rw [if_pos hbt, if_neg (show ¬ (1 : Int32) = 0 by decide), a0]
      show zl_X5_share_25 _ _ _ _ n a (nI t + 1) = _
      rw [nI_1]
  · have hbf : t.testBit i = false := ts_nt hbt
    rw [if_neg hbt, if_neg hbt, if_pos rfl, if_pos rfl, zs_Q4 hk ht hc, zs_Q5 hk ht, Option.bind_some, Option.bind_some, zs_bset t (by omega) i (by omega) hbf, zs_Q4 hk (zs_xlt ht hi) hc, zs_Q5 hk (zs_xlt ht hi), Option.bind_some, Option.bind_some]
    by_cases q1 : zs_o (zs_Q there says k t) = 0
    · rw [if_pos q1, if_pos q1]
      by_cases q2 : zs_o (zs_Q there says k (t ^^^ 2 ^ i)) = 0
      · rw [if_pos q2, if_pos q2]
        refine ⟨0, by omega, ?_, ?_⟩
        · rw [a0]
          show zl_X4_ordersTurnedBy_4 _ _ _ n a (nI t + 1) = _
          rw [nI_1]
        · rw [a0]
          show zl_X5_share_25 _ _ _ _ n a (nI t + 1) = _
          rw [nI_1]
      · rw [if_neg q2, if_neg q2, zs_bc t (by omega), zs_many, Option.bind_some, Option.bind_some]
        have hp : zs_pop (nI t).toInt64 + 1 ≤ k := by rw [zs_pop_pn t (by omega)]; exact zs_pn_lt k (by omega) t ht i hi hbf
        generalize hpe : zs_pop (nI t).toInt64 = P at hp ⊢
        have es : nI k - (1 : Int32) - nI P = nI (k - 1 - P) := by rw [show (1 : Int32) = nI 1 from rfl, pk_sub (by omega), pk_sub (by omega)]
        obtain ⟨u1, b1, b2, b3, b4⟩ := zs_ORn P (by omega)
        obtain ⟨u2, c1, c2, c3, c4⟩ := zs_ORn (k - 1 - P) (by omega)
        rw [es, zs_zin (by omega) (by omega), zs_zin (n := k - 1 - P) (by omega) (by omega), zs_orders P (by omega), Option.bind_some, Option.bind_some, es, zs_orders (k - 1 - P) (by omega), Option.bind_some]
        refine ⟨u1 * u2, ?_, ?_, ?_⟩
        · exact Nat.le_trans (Nat.mul_le_mul (b3 (by omega)) (c3 (by omega))) (by decide)
        · show zl_X4_ordersTurnedBy_4 _ _ _ n (a + zk_OR (nI P).toNatClampNeg * zk_OR (nI (k - 1 - P)).toNatClampNeg) (nI t + 1) = _
          rw [nI_clamp (by omega), nI_clamp (by omega), b4, c4, pk_mul, nI_1]
        · show zl_X5_share_25 _ _ _ _ n (a + zk_OR P * zk_OR (k - 1 - P)) (nI t + 1) = _
          rw [b4, c4, pk_mul, nI_1]
    · rw [if_neg q1, if_neg q1]
      refine ⟨0, by omega, ?_, ?_⟩
      · rw [a0]
        show zl_X4_ordersTurnedBy_4 _ _ _ n a (nI t + 1) = _
        rw [nI_1]
      · rw [a0]
        show zl_X5_share_25 _ _ _ _ n a (nI t + 1) = _
        rw [nI_1]
theorem zs_share_sum {k i : Nat} {there : Int64} {says com : Nat → Int64} (hk : k ≤ 7) (hi : i < k) (hc : ∀ t, t < 2 ^ k → com t = zs_com there says k t) : ∀ m t u f, t + m = 2 ^ k → m < f → u ≤ t * 518400 → ∃ v w, v ≤ 2 ^ k * 518400 ∧ zl_X4_ordersTurnedBy_4 (nI i) (nI k) com f (nI u) (nI t) = some (nI v, w) ∧ zl_X5_share_25 (nI i) (nI k) there says f (nI u) (nI t) = some (nI v, w) := by
  have h7 : 2 ^ k ≤ 128 := Nat.pow_le_pow_right (n := 2) (by omega) hk
  intro m
  induction m with
  | zero =>
    intro t u f h1 h2 h3
    obtain ⟨n, rfl⟩ : ∃ n, f = n + 1 := ⟨f - 1, by omega⟩
    have e : t = 2 ^ k := by omega
    subst e
    refine ⟨u, nI (2 ^ k), h3, ?_, ?_⟩
    · rw [zl_X4_ordersTurnedBy_4, zs_set hk, Option.bind_some, if_pos (nI_le (Nat.le_refl _) (by omega))]
    · rw [zl_X5_share_25, zs_shl1 k (by omega), if_pos (nI_le (Nat.le_refl _) (by omega))]
  | succ m ih =>
    intro t u f h1 h2 h3
    obtain ⟨n, rfl⟩ : ∃ n, f = n + 1 := ⟨f - 1, by omega⟩
    obtain ⟨d, hd, e1, e2⟩ := zs_share_step hk hi (show t < 2 ^ k by omega) hc n (nI u)
    rw [e1, e2, nI_add]
    exact ih (t + 1) (u + d) n (by omega) (by omega) (by omega)
theorem zp_share : zh_share zi_Inv := by
  intro v_sm_asked v_sm_traced v_tx_length f_tx_bytes f_tx_tokens f_tx_places v_rd_at v_rd_token v_rd_fault v_td_laws v_td_there v_td_sayers f_td_says f_td_weights v_sp_laws v_sp_there v_sp_sayers f_sp_says f_sp_weights v_ds_alike f_ds_costs f_ds_lengths f_sm_fars f_sm_common f_sm_others f_sm_scale v_md_length v_md_laws v_md_sayers v_md_there v_md_question v_md_measure v_md_trace v_md_readLaws v_md_readSayers v_md_readThere v_md_begin v_md_end v_md_sort v_md_open v_md_level v_md_said f_md_text f_md_weight f_md_says f_md_cost f_md_readWeight f_md_readSays f_md_opened f_md_any f_md_all f_md_burdens f_md_best f_md_own f_md_truth x0 x1 hI
  obtain ⟨n, k, c, al, h1, h2, h3, h4, h5, ⟨s1, s2, s3, s4⟩, h6, h7, h8⟩ := id hI
  have h8' : ∀ t, t < 2 ^ k → f_sm_common t = zs_com v_md_there f_md_says k t := fun t ht => by rw [h8 t ht, h5, zs_says (fun i hi => (s4 i hi).1) t]
  have hp7 : 2 ^ k ≤ 128 := Nat.pow_le_pow_right (n := 2) (by omega) s1
  suffices hs : ∃ v, zf_X4_share x0 x1 v_td_sayers f_sm_common = some v ∧ zf_X5_share x0 x1 v_md_sayers v_md_there f_md_says = some v by
    obtain ⟨v, e1, e2⟩ := hs
    exact ⟨v, v, e1, e2, rfl, hI⟩
  rw [s2, s3]
  unfold zf_X4_share zf_X5_share
  rcases zs_isSayer x0 s1 with ⟨i, hi, e, q1, q2⟩ | ⟨q1, q2⟩
  · rw [q1, q2, Option.bind_some, Option.bind_some, if_neg (show ¬ (1 : Int32) = 0 by decide), if_neg (show ¬ (1 : Int32) = 0 by decide)]
    have hin := zs_in2 x1 1 (by omega)
    have hl1 : (lN 1 : Int64) = 1 := rfl
    rw [hl1] at hin
    rcases hin with ⟨j, hj, ej, q⟩ | ⟨q3, q4⟩
    · rw [q, Option.bind_some, if_neg (show ¬ (1 : Int32) = 0 by decide)]
      have hh : (if x1 = 0 then some (Sum.inl () : Unit ⊕ Int32) else if x1 = (1 : Int32) then some (Sum.inl ()) else some (Sum.inr (-1))) = some (Sum.inl ()) := by
        rcases (show j = 0 ∨ j = 1 by omega) with rfl | rfl
        · rw [if_pos (show x1 = 0 from ej)]
        · rw [if_neg (by rw [ej]; decide), if_pos (show x1 = 1 from ej)]
      rw [hh, Option.bind_some]
      obtain ⟨v, w, hv, e1, e2⟩ := zs_share_sum (there := v_md_there) (says := f_md_says) s1 hi h8' (2 ^ k) 0 0 zk_F (by omega) (by rw [zs_F]; omega) (by omega)
      have e1' : zf_X4_ordersTurnedBy x0 (nI k) f_sm_common = some (nI v) := by
        unfold zf_X4_ordersTurnedBy
        rw [e]
        have : zl_X4_ordersTurnedBy_4 (nI i) (nI k) f_sm_common zk_F (0 : Int32) (0 : Int32) = some (nI v, w) := e1
        rw [this]; rfl
      have e2' : zl_X5_share_25 x0 (nI k) v_md_there f_md_says zk_F (0 : Int32) (0 : Int32) = some (nI v, w) := by rw [e]; exact e2
      obtain ⟨u, u1, u2, u3, u4⟩ := zs_ORn k (by omega)
      obtain ⟨g, r1, r2, g1, g2, g3, g4, g5, g6⟩ := zs_gcd 13 v u 0 zk_F zk_F (by omega) (by omega) (by omega) (by omega) (by rw [zs_F]; omega) (by rw [zs_F]; omega)
      have hg : 0 < g := g6 (Or.inr (by omega))
      have gd : zf_X4_commonDivisor (nI v) (nI u) = some (nI g) := by
        unfold zf_X4_commonDivisor
        have : zl_X4_commonDivisor_7 zk_F (nI v) (nI u) (0 : Int32) = some r1 := g1
        rw [this, Option.bind_some, g2]
      show ∃ v_1, ((zf_X4_ordersTurnedBy x0 (nI k) f_sm_common).bind _) = some v_1 ∧ _
      rw [e1', e2', Option.bind_some, Option.bind_some, zs_zin (n := k) (by omega) (by omega), nI_clamp (by omega), zs_orders k (by omega), Option.bind_some, u4, g3, Option.bind_some, g4, zs_nzN hg g5]
      show ∃ v_1, ((zf_X4_commonDivisor (nI v) (nI u)).bind _) = some v_1 ∧ _
      rw [gd, Option.bind_some, if_pos (show (1 : Int32) ≤ nI g from nI_le (a := 1) (by omega) g5), zs_nzN hg g5]
      by_cases ex : x1 = 0
      · simp only [if_pos ex]
        exact ⟨_, rfl, rfl⟩
      · simp only [if_neg ex]
        exact ⟨_, rfl, rfl⟩
    · rw [q4, Option.bind_some, if_pos rfl]
      have a0 : ¬ x1 = 0 := fun q => by rw [q] at q3; have : (0 : Int32).toInt = 0 := rfl; omega
      have a1 : ¬ x1 = 1 := fun q => by rw [q] at q3; have : (1 : Int32).toInt = 1 := rfl; omega
      rw [if_neg a0, if_neg a1]
      exact ⟨-1, rfl, rfl⟩
  · rw [q1, q2]
    exact ⟨-1, rfl, rfl⟩
