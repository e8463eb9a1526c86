/-! the reference's burdens and rows -/
theorem zs_64 (i w : Nat) : (64 : Int32) * nI i + nI w = nI (64 * i + w) := by
  rw [show (64 : Int32) = nI 64 from rfl, pk_mul, nI_add]
theorem zs_lays {al : Bool} {me : Int32} (hme : me = zs_o al) {c : Nat → Nat} {mcost mwt : Nat → Int32} (hm : ∀ l, l < 6 → c l ≤ 9 ∧ mcost l = nI (c l)) {i wt : Nat} (hi : i < 7) (hwt : mwt i = nI wt) (s : Int64) (f : Nat → Int32) : ∃ g, zf_X5_lays (nI i) s me mwt mcost f = some g ∧ (∀ w, w < 64 → g (64 * i + w) = nI (wt * zs_far al c s w)) ∧ ∀ p, (p < 64 * i ∨ 64 * i + 64 ≤ p) → g p = f p := by
  have h := zs_for (fun n (a : Nat → Int32) w => zl_X5_lays_3 (nI i) s me mwt mcost n (nI w) a) 64 (fun w a => w ≤ 64 ∧ (∀ v, v < w → a (64 * i + v) = nI (wt * zs_far al c s v)) ∧ ∀ p, (p < 64 * i ∨ 64 * i + 64 ≤ p) → a p = f p) (fun r => (∀ v, v < 64 → r.2 (64 * i + v) = nI (wt * zs_far al c s v)) ∧ ∀ p, (p < 64 * i ∨ 64 * i + 64 ≤ p) → r.2 p = f p) (by
    intro n a ha
    refine ⟨(nI 64, a), ?_, ha.2⟩
    show zl_X5_lays_3 _ _ _ _ _ (n + 1) (nI 64) a = _
    rw [zl_X5_lays_3, if_pos (show (64 : Int32) ≤ nI 64 by decide)]) (by
    intro n w a hw ha
    right
    refine ⟨upd a (64 * i + w) (nI (wt * zs_far al c s w)), ?_, by omega, fun v hv => ?_, fun p hp => ?_⟩
    · show zl_X5_lays_3 _ _ _ _ _ (n + 1) (nI w) a = zl_X5_lays_3 (nI i) s me mwt mcost n (nI (w + 1)) _
      rw [zl_X5_lays_3, if_neg (show ¬ (64 : Int32) ≤ nI w from nI_ge hw (by decide)), zs_zin (n := i) hi (by omega), zs_farOf hme s hw hm, zs_64, zs_zin (n := 64 * i + w) (by omega) (by omega), nI_clamp (n := 64 * i + w) (by omega), nI_clamp (n := i) (by omega), hwt]
      show zl_X5_lays_3 _ _ _ _ _ n (nI w + 1) (upd a (64 * i + w) (nI wt * nI (zs_far al c s w))) = _
      rw [nI_1, pk_mul]
    · unfold upd
      by_cases e : v = w
      · subst e; rw [if_pos rfl]
      · rw [if_neg (by omega)]; exact ha.2.1 v (by omega)
    · unfold upd
      rw [if_neg (by omega)]
      exact ha.2.2 p hp)
  obtain ⟨r, h1, h2, h3⟩ := h 64 0 f zk_F (by omega) (by rw [zs_F]; omega) ⟨by omega, fun j hj => absurd hj (by omega), fun _ _ => rfl⟩
  have h1' : zl_X5_lays_3 (nI i) s me mwt mcost zk_F (0 : Int32) f = some r := h1
  refine ⟨r.2, ?_, h2, h3⟩
  unfold zf_X5_lays
  rw [h1']
  rfl
theorem zs_laysAll {al : Bool} {me : Int32} (hme : me = zs_o al) {c : Nat → Nat} {mcost mwt : Nat → Int32} (hm : ∀ l, l < 6 → c l ≤ 9 ∧ mcost l = nI (c l)) {k : Nat} (hk : k ≤ 7) {wt : Nat → Nat} (hwt : ∀ i, i < k → mwt i = nI (wt i)) (says : Nat → Int64) (f : Nat → Int32) : ∃ g, zf_X5_laysAll (nI k) me mwt says mcost f = some g ∧ ∀ i, i < k → ∀ w, w < 64 → g (64 * i + w) = nI (wt i * zs_far al c (says i) w) := by
  have h := zs_for (fun n (a : Nat → Int32) i => zl_X5_laysAll_2 (nI k) me mwt says mcost n (nI i) a) k (fun i a => i ≤ k ∧ ∀ j, j < i → ∀ w, w < 64 → a (64 * j + w) = nI (wt j * zs_far al c (says j) w)) (fun r => ∀ j, j < k → ∀ w, w < 64 → r.2 (64 * j + w) = nI (wt j * zs_far al c (says j) w)) (by
    intro n a ha
    refine ⟨(nI k, a), ?_, ha.2⟩
    show zl_X5_laysAll_2 _ _ _ _ _ (n + 1) (nI k) a = _
    rw [zl_X5_laysAll_2, if_pos (nI_le (Nat.le_refl _) (by omega))]) (by
    intro n i a hi ha
    right
    obtain ⟨g, e1, e2, e3⟩ := zs_lays hme hm (i := i) (by omega) (hwt i hi) (says i) a
    refine ⟨g, ?_, by omega, fun j hj w hw => ?_⟩
    · show zl_X5_laysAll_2 _ _ _ _ _ (n + 1) (nI i) a = zl_X5_laysAll_2 (nI k) me mwt says mcost n (nI (i + 1)) _
      rw [zl_X5_laysAll_2, if_neg (nI_ge hi (by omega)), zs_zin (n := i) (by omega) (by omega), nI_clamp (n := i) (by omega), e1]
      show zl_X5_laysAll_2 _ _ _ _ _ n (nI i + 1) g = _
      rw [nI_1]
    · by_cases e : j = i
      · subst e; exact e2 w hw
      · rw [e3 _ (by omega)]; exact ha.2 j (by omega) w hw)
  obtain ⟨r, h1, h2⟩ := h k 0 f zk_F (by omega) (by rw [zs_F]; omega) ⟨by omega, fun j hj => absurd hj (by omega)⟩
  have h1' : zl_X5_laysAll_2 (nI k) me mwt says mcost zk_F (0 : Int32) f = some r := h1
  refine ⟨r.2, ?_, h2⟩
  unfold zf_X5_laysAll
  rw [h1']
  rfl
theorem zs_sumOf {k w : Nat} (hk : k ≤ 7) (hw : w < 64) {g : Nat → Int32} {b : Nat → Nat} (hg : ∀ i, i < k → g (64 * i + w) = nI (b i)) : zf_X5_sumOf (nI w) (nI k) g = some (nI (zs_To 0 b 7 k)) := by
  have h := zs_for (fun n (a : Int32) i => zl_X5_sumOf_4 (nI w) (nI k) g n a (nI i)) k (fun i a => i ≤ k ∧ a = nI (zs_To 0 b 7 i)) (fun r => r.1 = nI (zs_To 0 b 7 k)) (by
    intro n a ha
    refine ⟨(a, nI k), ?_, ha.2⟩
    show zl_X5_sumOf_4 _ _ _ (n + 1) a (nI k) = _
    rw [zl_X5_sumOf_4, if_pos (nI_le (Nat.le_refl _) (by omega))]) (by
    intro n i a hi ha
    right
    refine ⟨nI (zs_To 0 b 7 (i + 1)), ?_, by omega, rfl⟩
    show zl_X5_sumOf_4 _ _ _ (n + 1) a (nI i) = zl_X5_sumOf_4 (nI w) (nI k) g n (nI (if i = 7 then _ else zs_To 0 b 7 i + b i)) (nI (i + 1))
    rw [zl_X5_sumOf_4, if_neg (nI_ge hi (by omega)), zs_64, zs_zin (n := 64 * i + w) (by omega) (by omega), nI_clamp (n := 64 * i + w) (by omega), hg i hi, ha.2, if_neg (by omega)]
    show zl_X5_sumOf_4 _ _ _ n (nI (zs_To 0 b 7 i) + nI (b i)) (nI i + 1) = _
    rw [nI_1, nI_add])
  obtain ⟨r, h1, h2⟩ := h k 0 (0 : Int32) zk_F (by omega) (by rw [zs_F]; omega) ⟨by omega, rfl⟩
  have h1' : zl_X5_sumOf_4 (nI w) (nI k) g zk_F (0 : Int32) (0 : Int32) = some r := h1
  unfold zf_X5_sumOf
  rw [h1', Option.bind_some, h2]
theorem zs_To1_le {b : Nat → Nat} {k : Nat} (hb : ∀ i, i < k → b i ≤ 486) : ∀ n, n ≤ k → n ≤ 7 → zs_To 1 b 7 n ≤ 486
  | 0, _, _ => Nat.zero_le _
  | n + 1, h, h2 => by
    have h1 := zs_To1_le hb n (by omega) (by omega)
    have h2 := hb n (by omega)
    show (if n = 7 then zs_To 1 b 7 n else max (zs_To 1 b 7 n) (b n)) ≤ 486
    rw [if_neg (by omega)]; omega
theorem zs_To0_le {b : Nat → Nat} {k : Nat} (hb : ∀ i, i < k → b i ≤ 486) : ∀ n, n ≤ k → n ≤ 7 → zs_To 0 b 7 n ≤ n * 486
  | 0, _, _ => Nat.zero_le _
  | n + 1, h, h2 => by
    have h1 := zs_To0_le hb n (by omega) (by omega)
    have h2 := hb n (by omega)
    show (if n = 7 then zs_To 0 b 7 n else zs_To 0 b 7 n + b n) ≤ _
    rw [if_neg (by omega)]; omega
theorem zs_worstOf {k w : Nat} (hk : k ≤ 7) (hw : w < 64) {g : Nat → Int32} {b : Nat → Nat} (hg : ∀ i, i < k → g (64 * i + w) = nI (b i)) (hb : ∀ i, i < k → b i ≤ 486) : zf_X5_worstOf (nI w) (nI k) g = some (nI (zs_To 1 b 7 k)) := by
  have h := zs_for (fun n (a : Int32) i => zl_X5_worstOf_4 (nI w) (nI k) g n a (nI i)) k (fun i a => i ≤ k ∧ a = nI (zs_To 1 b 7 i)) (fun r => r.1 = nI (zs_To 1 b 7 k)) (by
    intro n a ha
    refine ⟨(a, nI k), ?_, ha.2⟩
    show zl_X5_worstOf_4 _ _ _ (n + 1) a (nI k) = _
    rw [zl_X5_worstOf_4, if_pos (nI_le (Nat.le_refl _) (by omega))]) (by
    intro n i a hi ha
    right
    refine ⟨nI (zs_To 1 b 7 (i + 1)), ?_, by omega, rfl⟩
    have hb1 := hb i hi
    have hb2 := zs_To1_le hb i (by omega) (by omega)
    show zl_X5_worstOf_4 _ _ _ (n + 1) a (nI i) = zl_X5_worstOf_4 (nI w) (nI k) g n (nI (if i = 7 then _ else max (zs_To 1 b 7 i) (b i))) (nI (i + 1))
    rw [zl_X5_worstOf_4, if_neg (nI_ge hi (by omega)), zs_64, zs_zin (n := 64 * i + w) (by omega) (by omega), nI_clamp (n := 64 * i + w) (by omega), hg i hi, ha.2, if_neg (show ¬ i = 7 by omega)]
    show (if nI (b i) ≤ nI (zs_To 1 b 7 i) then zl_X5_worstOf_4 _ _ _ n (nI (zs_To 1 b 7 i)) (nI i + 1) else zl_X5_worstOf_4 _ _ _ n (nI (b i)) (nI i + 1)) = _
    rw [nI_1]
    by_cases q : b i ≤ zs_To 1 b 7 i
    · rw [if_pos (nI_le q (by omega)), Nat.max_eq_left q]
    · rw [if_neg (nI_ge (by omega) (by omega)), Nat.max_eq_right (by omega)])
  obtain ⟨r, h1, h2⟩ := h k 0 (0 : Int32) zk_F (by omega) (by rw [zs_F]; omega) ⟨by omega, rfl⟩
  have h1' : zl_X5_worstOf_4 (nI w) (nI k) g zk_F (0 : Int32) (0 : Int32) = some r := h1
  unfold zf_X5_worstOf
  rw [h1', Option.bind_some, h2]
/-- the row before it is put in order -/
def zs_raw (way k : Nat) (b : Nat → Nat) (j : Nat) : Nat := if way = 2 ∧ j < k then b j else 0
theorem zs_rows2 {way k w : Nat} (hw2 : way ≤ 2) (hk : k ≤ 7) (hw : w < 64) {g : Nat → Int32} {b : Nat → Nat} (hg : ∀ i, i < k → g (64 * i + w) = nI (b i)) (f : Nat → Int32) : ∃ r, zl_X5_rows_2 (nI way) (nI w) (nI k) g zk_F (0 : Int32) f = some r ∧ ∀ j, j < 7 → r.2 j = nI (zs_raw way k b j) := by
  have h := zs_for (fun n (a : Nat → Int32) j => zl_X5_rows_2 (nI way) (nI w) (nI k) g n (nI j) a) 7 (fun i a => i ≤ 7 ∧ ∀ j, j < i → a j = nI (zs_raw way k b j)) (fun r => ∀ j, j < 7 → r.2 j = nI (zs_raw way k b j)) (by
    intro n a ha
    refine ⟨(nI 7, a), ?_, ha.2⟩
    show zl_X5_rows_2 _ _ _ _ (n + 1) (nI 7) a = _
    rw [zl_X5_rows_2, if_pos (show (7 : Int32) ≤ nI 7 by decide)]) (by
    intro n i a hi ha
    right
    refine ⟨upd a i (nI (zs_raw way k b i)), ?_, by omega, fun j hj => ?_⟩
    · show zl_X5_rows_2 _ _ _ _ (n + 1) (nI i) a = zl_X5_rows_2 (nI way) (nI w) (nI k) g n (nI (i + 1)) _
      rw [zl_X5_rows_2, if_neg (show ¬ (7 : Int32) ≤ nI i from nI_ge hi (by decide)), zs_zin (n := i) hi (by omega), nI_clamp (n := i) (by omega), ← nI_1]
      unfold zs_raw
      by_cases q : way = 2
      · rw [if_pos (show nI way = 2 by rw [q]; rfl)]
        by_cases q2 : i < k
        · rw [if_neg (nI_ge q2 (by omega)), zs_64, zs_zin (n := 64 * i + w) (by omega) (by omega), nI_clamp (n := 64 * i + w) (by omega), hg i q2, if_pos ⟨q, q2⟩]
          rfl
        · rw [if_pos (nI_le (by omega) (by omega)), if_neg (fun z => q2 z.2)]
          rfl
      · rw [if_neg (show ¬ nI way = 2 from fun z => q ((nI_eq (a := way) (b := 2) (by omega) (by omega)).mp z)), if_neg (fun z => q z.1)]
        rfl
    · unfold upd
      by_cases e : j = i
      · subst e; rw [if_pos rfl]
      · rw [if_neg e]; exact ha.2 j (by omega))
  obtain ⟨r, h1, h2⟩ := h 7 0 f zk_F (by omega) (by rw [zs_F]; omega) ⟨by omega, fun j hj => absurd hj (by omega)⟩
  exact ⟨r, h1, h2⟩
theorem zs_raw_S {k : Nat} {b : Nat → Nat} : ∀ n, n ≤ 7 → zs_S (zs_raw 2 k b) n = zs_To 2 b 7 (min n k) + (n - min n k)
  | 0, _ => by rw [Nat.zero_min]; rfl
  | n + 1, h => by
    have ih := zs_raw_S (k := k) (b := b) n (by omega)
    show zs_S (zs_raw 2 k b) n + 8 ^ zs_raw 2 k b n = _
    rw [ih]
    unfold zs_raw
    by_cases q : n < k
    · rw [if_pos ⟨rfl, q⟩, Nat.min_eq_left (show n ≤ k by omega), Nat.min_eq_left (show n + 1 ≤ k by omega)]
      show zs_To 2 b 7 n + (n - n) + 8 ^ b n = (if n = 7 then zs_To 2 b 7 n else zs_To 2 b 7 n + 8 ^ b n) + _
      rw [if_neg (by omega)]
      omega
    · rw [if_neg (fun z => q z.2), Nat.min_eq_right (show k ≤ n by omega), Nat.min_eq_right (show k ≤ n + 1 by omega), Nat.pow_zero]
      omega
