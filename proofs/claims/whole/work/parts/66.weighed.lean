theorem zs_putB : ∀ q, q < 7 → ∀ R m, R < 2 ^ 63 → m < 512 → R + (max m (R / 2 ^ (9 * q) % 512) - R / 2 ^ (9 * q) % 512) * 2 ^ (9 * q) < 2 ^ 63 := by
  intro q hq R m hR hm
  rcases (show q = 0 ∨ q = 1 ∨ q = 2 ∨ q = 3 ∨ q = 4 ∨ q = 5 ∨ q = 6 by omega) with rfl | rfl | rfl | rfl | rfl | rfl | rfl <;> omega
theorem zs_put0 : ∀ q R, zs_put q R 0 = R
  | 0, _ => rfl
  | q + 1, R => by
    have h1 : R + (max 0 (R / 2 ^ (9 * q) % 512) - R / 2 ^ (9 * q) % 512) * 2 ^ (9 * q) = R := by rw [Nat.zero_max, Nat.sub_self, Nat.zero_mul, Nat.add_zero]
    show zs_put q (R + (max 0 (R / 2 ^ (9 * q) % 512) - R / 2 ^ (9 * q) % 512) * 2 ^ (9 * q)) (min 0 _) = R
    rw [h1, Nat.zero_min, zs_put0 q R]
theorem zs_putLoop : ∀ q R m fuel, q ≤ 7 → q < fuel → R < 2 ^ 63 → m < 512 → ∃ r, zl_X4_putIntoRow_7 fuel (lN R) (lN m) (nI (9 * q) + (-9)) = some r ∧ r.1 = lN (zs_put q R m) := by
  intro q
  induction q with
  | zero =>
    intro R m fuel hq hf hR hm
    obtain ⟨n, rfl⟩ : ∃ n, fuel = n + 1 := ⟨fuel - 1, by omega⟩
    refine ⟨(lN R, lN m, nI (9 * 0) + (-9)), ?_, rfl⟩
    rw [zl_X4_putIntoRow_7, if_pos (show nI (9 * 0) + (-9) < 0 by decide)]
  | succ q ih =>
    intro R m fuel hq hf hR hm
    obtain ⟨n, rfl⟩ : ∃ n, fuel = n + 1 := ⟨fuel - 1, by omega⟩
    have e9 : nI (9 * (q + 1)) + (-9) = nI (9 * q) := by
      rw [show 9 * (q + 1) = 9 * q + 9 by omega, ← nI_add, Int32.add_assoc, show nI 9 + (-9) = (0 : Int32) by decide, Int32.add_zero]
    rw [e9, zl_X4_putIntoRow_7, if_neg (nI_pos (n := 9 * q) (by omega))]
    by_cases h0 : m = 0
    · subst h0
      refine ⟨(lN R, lN 0, nI (9 * q)), ?_, ?_⟩
      · rw [if_pos ((lg_cmp_le _ _).mpr (show lN 0 ≤ (0 : Int64) by decide))]
      · show lN R = _
        rw [zs_put0]
    · rw [if_neg (fun z => by
        have h9 := (lg_cmp_le _ _).mp z
        have h8 := (pk_lLE (a := m) (b := 0) (by omega) (by omega)).mp h9
        omega)]
      rw [wb_shr (by omega) (by omega), show (511 : Int64) = lN (2 ^ 9 - 1) from rfl, wb_mask (Nat.lt_of_le_of_lt (Nat.div_le_self _ _) (by omega)) (by decide)]
      show ∃ r, (if lg_cmp (lN m) (lN (R / 2 ^ (9 * q) % 512)) ≤ 0 then zl_X4_putIntoRow_7 n (lN R) (lN m) (nI (9 * q) + (-9)) else zl_X4_putIntoRow_7 n (lN R + ((lN m - lN (R / 2 ^ (9 * q) % 512)) <<< ((nI (9 * q)).toInt64 &&& 63))) (lN (R / 2 ^ (9 * q) % 512)) (nI (9 * q) + (-9))) = some r ∧ r.1 = lN (zs_put q (R + (max m (R / 2 ^ (9 * q) % 512) - R / 2 ^ (9 * q) % 512) * 2 ^ (9 * q)) (min m (R / 2 ^ (9 * q) % 512)))
      have hB := zs_putB q (by omega) R m hR hm
      have hp : R / 2 ^ (9 * q) % 512 < 512 := Nat.mod_lt _ (by decide)
      generalize R / 2 ^ (9 * q) % 512 = p at hB hp
      by_cases hl : m ≤ p
      · rw [if_pos ((lg_cmp_le _ _).mpr ((pk_lLE (by omega) (by omega)).mpr hl)), Nat.max_eq_right hl, Nat.min_eq_left hl, Nat.sub_self, Nat.zero_mul, Nat.add_zero]
        exact ih R m n (by omega) (by omega) hR hm
      · have hl2 : p ≤ m := by omega
        rw [if_neg (fun z => hl ((pk_lLE (by omega) (by omega)).mp ((lg_cmp_le _ _).mp z))), lN_sub hl2, wb_shl _ (by omega), lN_add, Nat.max_eq_left hl2, Nat.min_eq_right hl2]
        rw [Nat.max_eq_left hl2] at hB
        exact ih _ p n (by omega) (by omega) hB hp
theorem zs_putRow {R m : Nat} (hR : R < 2 ^ 63) (hm : m < 512) : zf_X4_putIntoRow (lN R) (lN m) = some (lN (zs_put 7 R m)) := by
  obtain ⟨r, h1, h2⟩ := zs_putLoop 7 R m zk_F (Nat.le_refl _) (by rw [zs_F]; omega) hR hm
  have h1' : zl_X4_putIntoRow_7 zk_F (lN R) (lN m) (54 : Int32) = some r := h1
  unfold zf_X4_putIntoRow
  rw [h1', Option.bind_some, h2]
theorem zs_join {way n T V b : Nat} (hw : way ≤ 2) (hn : n < 7) (h : zs_St way n T V) (hb : b ≤ 486) : ∃ V', zf_X4_joined (nI way) (lN V) (lN b) = some (lN V') ∧ zs_St way (n + 1) (zs_tj way T b) V' := by
  have hV := zs_St_lt (by omega) h
  unfold zs_St at h
  unfold zf_X4_joined zs_St zs_tj
  rcases (show way = 0 ∨ way = 1 ∨ way = 2 by omega) with rfl | rfl | rfl
  · rw [if_pos (show (0 : Nat) = 0 from rfl)] at h
    refine ⟨V + b, ?_, ?_⟩
    · rw [if_pos (show nI 0 = 0 from rfl), lN_add]
    · rw [if_pos (show (0 : Nat) = 0 from rfl), if_pos (show (0 : Nat) = 0 from rfl)]
      have : (n + 1) * 486 = n * 486 + 486 := Nat.succ_mul _ _
      omega
  · rw [if_neg (show ¬ (1 : Nat) = 0 by decide), if_pos (show (1 : Nat) = 1 from rfl)] at h
    refine ⟨max V b, ?_, ?_⟩
    · rw [if_neg (show ¬ nI 1 = 0 by decide), if_pos (show nI 1 = 1 from rfl)]
      by_cases q : b < V
      · rw [if_pos ((pk_lLT (by omega) hV).mpr q), Nat.max_eq_left (by omega)]
      · rw [if_neg (fun z => q ((pk_lLT (by omega) hV).mp z)), Nat.max_eq_right (by omega)]
    · rw [if_neg (show ¬ (1 : Nat) = 0 by decide), if_pos (show (1 : Nat) = 1 from rfl), if_neg (show ¬ (1 : Nat) = 0 by decide), if_pos (show (1 : Nat) = 1 from rfl)]
      omega
  · rw [if_neg (show ¬ (2 : Nat) = 0 by decide), if_neg (show ¬ (2 : Nat) = 1 by decide)] at h
    obtain ⟨d, d1, d2, d3, d4, d5⟩ := h
    have hd : ∀ j, j < 7 → d j < 512 := fun j hj => by have := d2 j hj; omega
    refine ⟨zs_E (zs_bub d b) 7, ?_, ?_⟩
    · rw [if_neg (show ¬ nI 2 = 0 by decide), if_neg (show ¬ nI 2 = 1 by decide), zs_putRow hV (by omega), Option.bind_some, d4, zs_putE hd (by omega)]
    · rw [if_neg (show ¬ (2 : Nat) = 0 by decide), if_neg (show ¬ (2 : Nat) = 1 by decide), if_neg (show ¬ (2 : Nat) = 0 by decide), if_neg (show ¬ (2 : Nat) = 1 by decide)]
      refine ⟨zs_bub d b, zs_bub_desc d1 b, ?_, ?_, rfl, ?_⟩
      · intro j hj
        have := d2 j hj
        have := zs_mv_le d b j
        show max (zs_mv d b j) (d j) ≤ 486
        omega
      · intro j hj1 hj2
        obtain ⟨i, rfl⟩ : ∃ i, j = i + 1 := ⟨j - 1, by omega⟩
        show max (min (zs_mv d b i) (d i)) (d (i + 1)) = 0
        rw [d3 i (by omega) (by omega), d3 (i + 1) (by omega) hj2]
        omega
      · have h1 := zs_bub_S d b 7
        have h2 : zs_mv d b 7 = 0 := by
          show min (zs_mv d b 6) (d 6) = 0
          rw [d3 6 (by omega) (by omega)]
          omega
        rw [h2, Nat.pow_zero] at h1
        omega
def zs_cn (lo i : Nat) : Nat := if lo < i then i - 1 else i
theorem zs_St0 (way : Nat) : zs_St way 0 0 0 := by
  unfold zs_St
  by_cases h0 : way = 0
  · rw [if_pos h0]; omega
  · rw [if_neg h0]
    by_cases h1 : way = 1
    · rw [if_pos h1]; omega
    · rw [if_neg h1]
      exact ⟨fun _ => 0, fun _ _ _ _ => Nat.le_refl _, fun _ _ => Nat.zero_le _, fun _ _ _ => rfl, rfl, rfl⟩
theorem zs_weighed {way w k lo : Nat} {x2 : Int32} (hw : way ≤ 2) (hk : k ≤ 7) (hlo : ∀ i, i < 7 → (nI i = x2 ↔ i = lo)) {wts : Nat → Int32} {fars : Nat → Nat → Int64} {b : Nat → Nat} (hb : ∀ i, i < k → zf_X4_burdenOf (nI i) (nI w) wts fars = some (lN (b i)) ∧ b i ≤ 486) : ∃ V, zf_X4_weighed (nI way) (nI w) x2 (nI k) wts fars = some (lN V) ∧ zs_St way (zs_cn lo k) (zs_To way b lo k) V := by
  have h := zs_for (fun n (a : Int64) i => zl_X4_weighed_6 (nI way) (nI w) x2 (nI k) wts fars n a (nI i)) k (fun i a => i ≤ k ∧ ∃ V, a = lN V ∧ zs_St way (zs_cn lo i) (zs_To way b lo i) V) (fun r => ∃ V, r.1 = lN V ∧ zs_St way (zs_cn lo k) (zs_To way b lo k) V) (by
    intro n a ha
    refine ⟨(a, nI k), ?_, ha.2⟩
    show zl_X4_weighed_6 _ _ _ _ _ _ (n + 1) a (nI k) = _
    rw [zl_X4_weighed_6, if_pos (nI_le (Nat.le_refl _) (by omega))]) (by
    intro n i a hi ha
    right
    obtain ⟨-, V, e, hV⟩ := ha
    show ∃ a', zl_X4_weighed_6 (nI way) (nI w) x2 (nI k) wts fars (n + 1) a (nI i) = zl_X4_weighed_6 (nI way) (nI w) x2 (nI k) wts fars n a' (nI (i + 1)) ∧ i + 1 ≤ k ∧ ∃ V, a' = lN V ∧ zs_St way (zs_cn lo (i + 1)) (if i = lo then zs_To way b lo i else zs_tj way (zs_To way b lo i) (b i)) V
    rw [zl_X4_weighed_6, if_neg (nI_ge hi (by omega))]
    by_cases el : i = lo
    · rw [if_pos ((hlo i (by omega)).mpr el), if_pos el]
      refine ⟨a, ?_, by omega, V, e, ?_⟩
      · show zl_X4_weighed_6 _ _ _ _ _ _ n a (nI i + 1) = _
        rw [nI_1]
      · rw [show zs_cn lo (i + 1) = zs_cn lo i by unfold zs_cn; rw [if_pos (by omega), if_neg (by omega)]; omega]
        exact hV
    · have hcn : zs_cn lo (i + 1) = zs_cn lo i + 1 := by
        unfold zs_cn
        by_cases q : lo < i
        · rw [if_pos (by omega), if_pos q]; omega
        · rw [if_neg (by omega), if_neg q]
      have hcl : zs_cn lo i < 7 := by
        unfold zs_cn
        by_cases q : lo < i
        · rw [if_pos q]; omega
        · rw [if_neg q]; omega
      obtain ⟨V', j1, j2⟩ := zs_join hw hcl hV (hb i hi).2
      rw [if_neg (fun q => el ((hlo i (by omega)).mp q)), if_neg el, (hb i hi).1, Option.bind_some, e, j1, Option.bind_some, hcn]
      refine ⟨lN V', ?_, by omega, V', rfl, j2⟩
      show zl_X4_weighed_6 _ _ _ _ _ _ n (lN V') (nI i + 1) = _
      rw [nI_1])
  obtain ⟨r, h1, V, h2, h3⟩ := h k 0 (0 : Int64) zk_F (by omega) (by rw [zs_F]; omega) ⟨by omega, 0, rfl, zs_St0 way⟩
  have h1' : zl_X4_weighed_6 (nI way) (nI w) x2 (nI k) wts fars zk_F (0 : Int64) (0 : Int32) = some r := h1
  refine ⟨V, ?_, h3⟩
  unfold zf_X4_weighed
  rw [h1', Option.bind_some, h2]
theorem zs_nobody : ∀ i, i < 7 → (nI i = (-1 : Int32) ↔ i = 7) := by decide
theorem zs_cn7 {k : Nat} (hk : k ≤ 7) : zs_cn 7 k = k := by unfold zs_cn; rw [if_neg (by omega)]
theorem zs_minle {am : Nat → Bool} {k1 k2 : Nat → Nat} {n w : Nat} (h : ∀ a o, a < n → o < n → (k1 a ≤ k1 o ↔ k2 a ≤ k2 o)) : zs_isMin am k1 n w ↔ zs_isMin am k2 n w := by
  unfold zs_isMin
  constructor
  · rintro ⟨a, b, d⟩
    exact ⟨a, b, fun o ho hm => (h w o a ho).mp (d o ho hm)⟩
  · rintro ⟨a, b, d⟩
    exact ⟨a, b, fun o ho hm => (h w o a ho).mpr (d o ho hm)⟩
/-- the class's MERGED: the worlds there with the least key -/
theorem zs_merged4 {way k : Nat} (hw : way ≤ 2) (hk : k ≤ 7) (there : Int64) {wts : Nat → Int32} {fars : Nat → Nat → Int64} {b : Nat → Nat → Nat} (hb : ∀ i, i < k → ∀ w, w < 64 → zf_X4_burdenOf (nI i) (nI w) wts fars = some (lN (b i w)) ∧ b i w ≤ 486) (f : Nat → Int64) : ∃ r g, zf_X4_mergedBy (nI way) there (nI k) wts fars f = some (r, g) ∧ ∀ w, w < 64 → (zs_bit r w = true ↔ zs_isMin (zs_bit there) (fun w => zs_To way (fun i => b i w) 7 k) 64 w) := by
  have hV : ∀ w, ∃ V, w < 64 → zf_X4_weighed (nI way) (nI w) (-1 : Int32) (nI k) wts fars = some (lN V) ∧ zs_St way k (zs_To way (fun i => b i w) 7 k) V := by
    intro w
    by_cases q : w < 64
    · obtain ⟨V, e1, e2⟩ := zs_weighed (w := w) (b := fun i => b i w) hw hk zs_nobody (fun i hi => hb i hi w q)
      rw [zs_cn7 hk] at e2
      exact ⟨V, fun _ => ⟨e1, e2⟩⟩
    · exact ⟨0, fun z => absurd z q⟩
  obtain ⟨V, hV⟩ : ∃ V : Nat → Nat, ∀ w, w < 64 → zf_X4_weighed (nI way) (nI w) (-1 : Int32) (nI k) wts fars = some (lN (V w)) ∧ zs_St way k (zs_To way (fun i => b i w) 7 k) (V w) := ⟨fun w => (hV w).choose, fun w => (hV w).choose_spec⟩
  have h := zs_for (fun n (a : Nat → Int64) i => zl_X4_mergedBy_2 (nI way) (nI k) wts fars n (nI i) a) 64 (fun i a => i ≤ 64 ∧ ∀ w, w < i → a w = lN (V w)) (fun r => ∀ w, w < 64 → r.2 w = lN (V w)) (by
    intro n a ha
    refine ⟨(nI 64, a), ?_, ha.2⟩
    show zl_X4_mergedBy_2 _ _ _ _ (n + 1) (nI 64) a = _
    rw [zl_X4_mergedBy_2, if_pos (show (64 : Int32) ≤ nI 64 by decide)]) (by
    intro n i a hi ha
    right
    refine ⟨vp_updL a i (lN (V i)), ?_, by omega, fun w hw => ?_⟩
    · show zl_X4_mergedBy_2 _ _ _ _ (n + 1) (nI i) a = zl_X4_mergedBy_2 (nI way) (nI k) wts fars n (nI (i + 1)) _
      rw [zl_X4_mergedBy_2, if_neg (show ¬ (64 : Int32) ≤ nI i from nI_ge hi (by decide)), (hV i hi).1, Option.bind_some, zs_zin hi (by omega), nI_clamp (by omega)]
      show zl_X4_mergedBy_2 _ _ _ _ n (nI i + 1) _ = _
      rw [nI_1]
    · unfold vp_updL
      by_cases e : w = i
      · subst e; rw [if_pos rfl]
      · rw [if_neg e]; exact ha.2 w (by omega))
  obtain ⟨r, h1, h2⟩ := h 64 0 f zk_F (by omega) (by rw [zs_F]; omega) ⟨by omega, fun j hj => absurd hj (by omega)⟩
  have h1' : zl_X4_mergedBy_2 (nI way) (nI k) wts fars zk_F (0 : Int32) f = some r := h1
  obtain ⟨m, e3, e4⟩ := zs_least4 there V (fun w hw => zs_St_lt hk (hV w hw).2) h2
  refine ⟨m, r.2, ?_, ?_⟩
  · unfold zf_X4_mergedBy
    rw [h1', Option.bind_some, e3, Option.bind_some]
  · intro w hw
    rw [e4 w hw]
    exact zs_minle (fun a o ha ho => zs_St_le (hV a ha).2 (hV o ho).2)
