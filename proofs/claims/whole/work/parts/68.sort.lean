theorem zs_sortIn {m : Nat} (hm : m < 7) : ∀ (p : Nat) (a : Nat → Int32) (d : Nat → Nat) (fuel : Nat), p ≤ m → p < fuel → (∀ j, j < 7 → a j = nI (d j)) → (∀ j, j < 7 → d j ≤ 4000) → (∀ i j, i < j → j ≤ m → ¬ j = p → d j ≤ d i) → ∃ r d', zl_X5_rows_87 fuel (nI p) a = some r ∧ (∀ j, j < 7 → r.2 j = nI (d' j)) ∧ (∀ j, j < 7 → d' j ≤ 4000) ∧ (∀ i j, i < j → j ≤ m → d' j ≤ d' i) ∧ zs_S d' 7 = zs_S d 7 ∧ (zs_desc d → d' = d) := by
  intro p
  induction p with
  | zero =>
    intro a d fuel h1 h2 h3 h4 h5
    obtain ⟨n, rfl⟩ : ∃ n, fuel = n + 1 := ⟨fuel - 1, by omega⟩
    refine ⟨(nI 0, a), d, ?_, h3, h4, fun i j hij hj => h5 i j hij hj (by omega), rfl, fun _ => rfl⟩
    rw [zl_X5_rows_87, if_pos (show nI 0 ≤ 0 by decide)]
  | succ q ih =>
    intro a d fuel h1 h2 h3 h4 h5
    obtain ⟨n, rfl⟩ : ∃ n, fuel = n + 1 := ⟨fuel - 1, by omega⟩
    have e1 : nI (q + 1) - (1 : Int32) = nI q := by rw [show (1 : Int32) = nI 1 from rfl, pk_sub (by omega)]; rfl
    have e2 : nI (q + 1) + (-1) = nI q := by rw [← nI_1, Int32.add_assoc, show (1 : Int32) + (-1) = 0 by decide, Int32.add_zero]
    have b1 := h4 q (by omega)
    have b2 := h4 (q + 1) (by omega)
    rw [zl_X5_rows_87, if_neg (nI_nle (n := q + 1) (by omega) (by omega)), e1, e2, zs_zin (n := q + 1) (by omega) (by omega), zs_zin (n := q) (by omega) (by omega), nI_clamp (n := q + 1) (by omega), nI_clamp (n := q) (by omega), h3 (q + 1) (by omega), h3 q (by omega)]
    show ∃ r d', (if nI (d (q + 1)) ≤ nI (d q) then some (nI (q + 1), a) else zl_X5_rows_87 n (nI q) (upd (upd a (q + 1) (nI (d q))) q (nI (d (q + 1))))) = some r ∧ _
    by_cases hc : d (q + 1) ≤ d q
    · rw [if_pos (nI_le hc (by omega))]
      refine ⟨(nI (q + 1), a), d, rfl, h3, h4, ?_, rfl, fun _ => rfl⟩
      intro i j hij hj
      by_cases ej : j = q + 1
      · subst ej
        by_cases ei : i = q
        · subst ei; exact hc
        · exact Nat.le_trans hc (h5 i q (by omega) (by omega) (by omega))
      · exact h5 i j hij hj ej
    · rw [if_neg (nI_ge (by omega) (by omega))]
      obtain ⟨r, d', r1, r2, r3, r4, r5, r6⟩ := ih (upd (upd a (q + 1) (nI (d q))) q (nI (d (q + 1)))) (fun i => if i = q then d (q + 1) else if i = q + 1 then d q else d i) n (by omega) (by omega) (by
        intro j hj
        unfold upd
        by_cases c1 : j = q
        · rw [if_pos c1]; simp only [if_pos c1]
        · rw [if_neg c1]; simp only [if_neg c1]
          by_cases c2 : j = q + 1
          · rw [if_pos c2, if_pos c2]
          · rw [if_neg c2, if_neg c2]; exact h3 j hj) (by
        intro j hj
        show (if j = q then d (q + 1) else if j = q + 1 then d q else d j) ≤ 4000
        by_cases c1 : j = q
        · rw [if_pos c1]; omega
        · rw [if_neg c1]
          by_cases c2 : j = q + 1
          · rw [if_pos c2]; omega
          · rw [if_neg c2]; exact h4 j hj) (by
        intro i j hij hj hne
        show (if j = q then d (q + 1) else if j = q + 1 then d q else d j) ≤ (if i = q then d (q + 1) else if i = q + 1 then d q else d i)
        rw [if_neg hne]
        by_cases c2 : j = q + 1
        · rw [if_pos c2]
          by_cases c3 : i = q
          · rw [if_pos c3]; omega
          · rw [if_neg c3, if_neg (by omega)]; exact h5 i q (by omega) (by omega) (by omega)
        · rw [if_neg c2]
          by_cases c3 : i = q
          · rw [if_pos c3]; exact h5 (q + 1) j (by omega) hj c2
          · rw [if_neg c3]
            by_cases c4 : i = q + 1
            · rw [if_pos c4]; exact h5 q j (by omega) hj c2
            · rw [if_neg c4]; exact h5 i j hij hj c2)
      refine ⟨r, d', r1, r2, r3, r4, ?_, fun hd => absurd (hd q (q + 1) (by omega) (by omega)) hc⟩
      have s1 := (zs_S_upd d (q + 1) (d q) 7).2 (by omega)
      have s2 := (zs_S_upd (fun i => if i = q + 1 then d q else d i) q (d (q + 1)) 7).2 (by omega)
      rw [if_neg (show ¬ q = q + 1 by omega)] at s2
      have s4 : zs_S (fun i => if i = q then d (q + 1) else if i = q + 1 then d q else d i) 7 = zs_S d 7 := by
        have s5 : zs_S (fun i => if i = q then d (q + 1) else if i = q + 1 then d q else d i) 7 = zs_S (fun i => if i = q then d (q + 1) else (fun i => if i = q + 1 then d q else d i) i) 7 := rfl
        rw [s5]
        generalize 8 ^ d q = x at s1 s2
        generalize 8 ^ d (q + 1) = y at s1 s2
        omega
      rw [r5, s4]
theorem zs_sort {a : Nat → Int32} {d : Nat → Nat} (h3 : ∀ j, j < 7 → a j = nI (d j)) (h4 : ∀ j, j < 7 → d j ≤ 4000) : ∃ r d', zl_X5_rows_78 zk_F (1 : Int32) a = some r ∧ (∀ j, j < 7 → r.2 j = nI (d' j)) ∧ (∀ j, j < 7 → d' j ≤ 4000) ∧ zs_desc d' ∧ zs_S d' 7 = zs_S d 7 ∧ (zs_desc d → d' = d) := by
  have h := zs_for (fun n (a : Nat → Int32) j => zl_X5_rows_78 n (nI j) a) 7 (fun m a => 1 ≤ m ∧ m ≤ 7 ∧ ∃ d', (∀ j, j < 7 → a j = nI (d' j)) ∧ (∀ j, j < 7 → d' j ≤ 4000) ∧ (∀ i j, i < j → j < m → d' j ≤ d' i) ∧ zs_S d' 7 = zs_S d 7 ∧ (zs_desc d → d' = d)) (fun r => ∃ d', (∀ j, j < 7 → r.2 j = nI (d' j)) ∧ (∀ j, j < 7 → d' j ≤ 4000) ∧ zs_desc d' ∧ zs_S d' 7 = zs_S d 7 ∧ (zs_desc d → d' = d)) (by
    intro n a ha
    refine ⟨(nI 7, a), ?_, ha.2.2⟩
    show zl_X5_rows_78 (n + 1) (nI 7) a = _
    rw [zl_X5_rows_78, if_pos (show (7 : Int32) ≤ nI 7 by decide)]) (by
    intro n m a hm ha
    right
    obtain ⟨g1, -, e, g2, g3, g4, g5, g6⟩ := ha
    obtain ⟨r, d', r1, r2, r3, r4, r5, r6⟩ := zs_sortIn hm m a e zk_F (Nat.le_refl _) (by rw [zs_F]; omega) g2 g3 (fun i j hij hj hne => g4 i j hij (by omega))
    refine ⟨r.2, ?_, by omega, by omega, d', r2, r3, fun i j hij hj => r4 i j hij (by omega), by rw [r5, g5], fun hd => ?_⟩
    · show zl_X5_rows_78 (n + 1) (nI m) a = zl_X5_rows_78 n (nI (m + 1)) _
      rw [zl_X5_rows_78, if_neg (show ¬ (7 : Int32) ≤ nI m from nI_ge hm (by decide)), r1]
      show zl_X5_rows_78 n (nI m + 1) r.2 = _
      rw [nI_1]
    · have e1 := g6 hd
      rw [r6 (by rw [e1]; exact hd), e1])
  obtain ⟨r, h1, d', h2⟩ := h 6 1 a zk_F (by omega) (by rw [zs_F]; omega) ⟨by omega, by omega, d, h3, h4, fun i j hij hj => absurd hj (by omega), rfl, fun _ => rfl⟩
  exact ⟨r, d', h1, h2⟩
def zs_Rw (way k T : Nat) (d : Nat → Nat) : Prop := if way = 2 then zs_desc d ∧ zs_S d 7 = T + (7 - k) else d 0 = T ∧ ∀ j, 0 < j → j < 7 → d j = 0
theorem zs_Rw_lx {way k T1 T2 : Nat} {d e : Nat → Nat} (h1 : zs_Rw way k T1 d) (h2 : zs_Rw way k T2 e) (h : zs_lx d e) : T1 < T2 := by
  unfold zs_Rw at h1 h2
  by_cases q : way = 2
  · rw [if_pos q] at h1 h2
    have := zs_S_lx h1.1 h
    omega
  · rw [if_neg q] at h1 h2
    obtain ⟨j, hj, -, h3⟩ := h
    by_cases z : j = 0
    · subst z; omega
    · have := h1.2 j (by omega) hj
      have := h2.2 j (by omega) hj
      omega
theorem zs_Rw_eq {way k T1 T2 : Nat} {d e : Nat → Nat} (h1 : zs_Rw way k T1 d) (h2 : zs_Rw way k T2 e) (h : ∀ j, j < 7 → d j = e j) : T1 = T2 := by
  unfold zs_Rw at h1 h2
  by_cases q : way = 2
  · rw [if_pos q] at h1 h2
    have := zs_S_congr 7 h
    omega
  · rw [if_neg q] at h1 h2
    have := h 0 (by omega)
    omega
theorem zs_rows {way k w : Nat} (hw2 : way ≤ 2) (hk : k ≤ 7) (hw : w < 64) {g : Nat → Int32} {b : Nat → Nat} (hg : ∀ i, i < k → g (64 * i + w) = nI (b i)) (hb : ∀ i, i < k → b i ≤ 486) (f : Nat → Int32) : ∃ r d, zf_X5_rows (nI way) (nI w) (nI k) g f = some r ∧ (∀ j, j < 7 → r j = nI (d j)) ∧ (∀ j, j < 7 → d j ≤ 4000) ∧ zs_Rw way k (zs_To way b 7 k) d := by
  obtain ⟨r2, q1, q2⟩ := zs_rows2 hw2 hk hw hg f
  have hraw : ∀ j, zs_raw way k b j ≤ 486 := by
    intro j
    unfold zs_raw
    by_cases q : way = 2 ∧ j < k
    · rw [if_pos q]; exact hb j q.2
    · rw [if_neg q]; omega
  unfold zf_X5_rows
  rw [q1, Option.bind_some]
  have one : ∀ T, T ≤ 4000 → ¬ way = 2 → ∃ r d', zl_X5_rows_78 zk_F (1 : Int32) (upd r2.2 (0 : Int32).toNatClampNeg (nI T)) = some r ∧ (∀ j, j < 7 → r.2 j = nI (d' j)) ∧ (∀ j, j < 7 → d' j ≤ 4000) ∧ zs_Rw way k T d' := by
    intro T hT hne
    obtain ⟨r, d', s1, s2, s3, s4, s5, s6⟩ := zs_sort (a := upd r2.2 (0 : Int32).toNatClampNeg (nI T)) (d := fun j => if j = 0 then T else 0) (by
      intro j hj
      show (if j = 0 then nI T else r2.2 j) = nI (if j = 0 then T else 0)
      by_cases c : j = 0
      · rw [if_pos c, if_pos c]
      · rw [if_neg c, if_neg c, q2 j hj]
        unfold zs_raw
        rw [if_neg (fun z => hne z.1)]) (by
      intro j hj
      show (if j = 0 then T else 0) ≤ 4000
      by_cases c : j = 0
      · rw [if_pos c]; exact hT
      · rw [if_neg c]; omega)
    have hd : zs_desc (fun j => if j = 0 then T else 0) := by
      intro i j hij hj
      show (if j = 0 then T else 0) ≤ _
      rw [if_neg (by omega)]
      exact Nat.zero_le _
    refine ⟨r, d', s1, s2, s3, ?_⟩
    unfold zs_Rw
    rw [if_neg hne, s6 hd]
    exact ⟨rfl, fun j hj _ => if_neg (by omega)⟩
  rcases (show way = 0 ∨ way = 1 ∨ way = 2 by omega) with e | e | e
  · obtain ⟨r, d', s1, s2, s3, s4⟩ := one (zs_To 0 b 7 k) (by have := zs_To0_le hb k (by omega) hk; omega) (by omega)
    refine ⟨r.2, d', ?_, s2, s3, by rw [e] at s4 ⊢; exact s4⟩
    rw [e, if_neg (show ¬ (2 : Int32) ≤ nI 0 by decide), if_pos (show nI 0 = 0 from rfl), zs_sumOf hk hw hg]
    show ((zl_X5_rows_78 zk_F (1 : Int32) (upd r2.2 (0 : Int32).toNatClampNeg (nI (zs_To 0 b 7 k)))).bind _) = _
    rw [s1]
    rfl
  · obtain ⟨r, d', s1, s2, s3, s4⟩ := one (zs_To 1 b 7 k) (by have := zs_To1_le hb k (by omega) hk; omega) (by omega)
    refine ⟨r.2, d', ?_, s2, s3, by rw [e] at s4 ⊢; exact s4⟩
    rw [e, if_neg (show ¬ (2 : Int32) ≤ nI 1 by decide), if_neg (show ¬ nI 1 = 0 by decide), zs_worstOf hk hw hg hb]
    show ((zl_X5_rows_78 zk_F (1 : Int32) (upd r2.2 (0 : Int32).toNatClampNeg (nI (zs_To 1 b 7 k)))).bind _) = _
    rw [s1]
    rfl
  · obtain ⟨r, d', s1, s2, s3, s4, s5, s6⟩ := zs_sort q2 (fun j _ => by have := hraw j; omega)
    refine ⟨r.2, d', ?_, s2, s3, ?_⟩
    · rw [e, if_pos (show (2 : Int32) ≤ nI 2 by decide), Option.bind_some, s1]
      rfl
    · unfold zs_Rw
      rw [if_pos e]
      refine ⟨s4, ?_⟩
      rw [e] at s5
      rw [s5, zs_raw_S 7 (Nat.le_refl _), Nat.min_eq_right hk, e]
