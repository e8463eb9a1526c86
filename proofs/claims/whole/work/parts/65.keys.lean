/-! rows of burdens, compared from the worst on -/
def zs_S (d : Nat → Nat) : Nat → Nat
  | 0 => 0
  | n + 1 => zs_S d n + 8 ^ d n
def zs_E (d : Nat → Nat) : Nat → Nat
  | 0 => 0
  | n + 1 => zs_E d n * 512 + d n
def zs_desc (d : Nat → Nat) : Prop := ∀ i j, i < j → j < 7 → d j ≤ d i
def zs_lx (d e : Nat → Nat) : Prop := ∃ j, j < 7 ∧ (∀ i, i < j → d i = e i) ∧ d j < e j
theorem zs_tri (d e : Nat → Nat) : ∀ n, n ≤ 7 → (∃ j, j < n ∧ (∀ i, i < j → d i = e i) ∧ d j < e j) ∨ (∀ j, j < n → d j = e j) ∨ (∃ j, j < n ∧ (∀ i, i < j → e i = d i) ∧ e j < d j) := by
  intro n
  induction n with
  | zero => intro _; exact Or.inr (Or.inl (fun j hj => absurd hj (by omega)))
  | succ n ih =>
    intro hn
    rcases ih (by omega) with ⟨j, h1, h2⟩ | h | ⟨j, h1, h2⟩
    · exact Or.inl ⟨j, by omega, h2⟩
    · rcases Nat.lt_trichotomy (d n) (e n) with q | q | q
      · exact Or.inl ⟨n, by omega, h, q⟩
      · refine Or.inr (Or.inl (fun j hj => ?_))
        by_cases e1 : j = n
        · subst e1; exact q
        · exact h j (by omega)
      · exact Or.inr (Or.inr ⟨n, by omega, fun i hi => (h i hi).symm, q⟩)
    · exact Or.inr (Or.inr ⟨j, by omega, h2⟩)
theorem zs_tri7 (d e : Nat → Nat) : zs_lx d e ∨ (∀ j, j < 7 → d j = e j) ∨ zs_lx e d := zs_tri d e 7 (Nat.le_refl _)
theorem zs_S_congr {d e : Nat → Nat} : ∀ n, (∀ i, i < n → d i = e i) → zs_S d n = zs_S e n
  | 0, _ => rfl
  | n + 1, h => by
    show zs_S d n + 8 ^ d n = zs_S e n + 8 ^ e n
    rw [zs_S_congr n (fun i hi => h i (by omega)), h n (by omega)]
theorem zs_E_congr {d e : Nat → Nat} : ∀ n, (∀ i, i < n → d i = e i) → zs_E d n = zs_E e n
  | 0, _ => rfl
  | n + 1, h => by
    show zs_E d n * 512 + d n = zs_E e n * 512 + e n
    rw [zs_E_congr n (fun i hi => h i (by omega)), h n (by omega)]
theorem zs_S_tail {d : Nat → Nat} (hd : zs_desc d) (j : Nat) : ∀ m, j + m ≤ 7 → zs_S d (j + m) ≤ zs_S d j + m * 8 ^ d j := by
  intro m
  induction m with
  | zero => intro _; show zs_S d j ≤ _; omega
  | succ m ih =>
    intro h
    have h1 := ih (by omega)
    have h2 : d (j + m) ≤ d j := by
      by_cases e : m = 0
      · subst e; exact Nat.le_refl _
      · exact hd j (j + m) (by omega) (by omega)
    have h3 : 8 ^ d (j + m) ≤ 8 ^ d j := Nat.pow_le_pow_right (by decide) h2
    show zs_S d (j + m) + 8 ^ d (j + m) ≤ _
    have h4 : (m + 1) * 8 ^ d j = m * 8 ^ d j + 8 ^ d j := Nat.succ_mul _ _
    omega
theorem zs_S_head (d : Nat → Nat) (j : Nat) : ∀ m, zs_S d (j + 1) ≤ zs_S d (j + 1 + m)
  | 0 => Nat.le_refl _
  | m + 1 => by
    have h := zs_S_head d j m
    exact Nat.le_trans h (Nat.le_add_right _ _)
theorem zs_S_lx {d e : Nat → Nat} (hd : zs_desc d) (h : zs_lx d e) : zs_S d 7 < zs_S e 7 := by
  obtain ⟨j, hj, h1, h2⟩ := h
  have a1 := zs_S_tail hd j (7 - j) (by omega)
  have a2 := zs_S_head e j (7 - (j + 1))
  rw [show j + (7 - j) = 7 by omega] at a1
  rw [show j + 1 + (7 - (j + 1)) = 7 by omega] at a2
  have a3 := zs_S_congr j h1
  have a4 : (7 - j) * 8 ^ d j ≤ 7 * 8 ^ d j := Nat.mul_le_mul_right _ (by omega)
  have a5 : 8 ^ (d j + 1) ≤ 8 ^ e j := Nat.pow_le_pow_right (by decide) h2
  have a6 : 8 ^ (d j + 1) = 8 * 8 ^ d j := by rw [Nat.pow_succ, Nat.mul_comm]
  have a7 : 0 < 8 ^ d j := Nat.pow_pos (by decide)
  have a8 : zs_S e (j + 1) = zs_S e j + 8 ^ e j := rfl
  omega
theorem zs_E_lx {d e : Nat → Nat} (hd : ∀ j, j < 7 → d j < 512) (h : zs_lx d e) : zs_E d 7 < zs_E e 7 := by
  obtain ⟨j, hj, h1, h2⟩ := h
  have a1 : zs_E d (j + 1) < zs_E e (j + 1) := by
    show zs_E d j * 512 + d j < zs_E e j * 512 + e j
    rw [zs_E_congr j h1]; omega
  have a2 : ∀ m, j + 1 + m ≤ 7 → zs_E d (j + 1 + m) < zs_E e (j + 1 + m) := by
    intro m
    induction m with
    | zero => intro _; exact a1
    | succ m ih =>
      intro hm
      have h3 := ih (by omega)
      have h4 := hd (j + 1 + m) (by omega)
      show zs_E d (j + 1 + m) * 512 + d (j + 1 + m) < zs_E e (j + 1 + m) * 512 + e (j + 1 + m)
      omega
  have a3 := a2 (7 - (j + 1)) (by omega)
  rw [show j + 1 + (7 - (j + 1)) = 7 by omega] at a3
  exact a3
theorem zs_S_upd (d : Nat → Nat) (p v : Nat) : ∀ n, (n ≤ p → zs_S (fun i => if i = p then v else d i) n = zs_S d n) ∧ (p < n → zs_S (fun i => if i = p then v else d i) n + 8 ^ d p = zs_S d n + 8 ^ v) := by
  intro n
  induction n with
  | zero => exact ⟨fun _ => rfl, fun h => absurd h (by omega)⟩
  | succ n ih =>
    constructor
    · intro h
      show zs_S _ n + 8 ^ (if n = p then v else d n) = zs_S d n + 8 ^ d n
      rw [ih.1 (by omega), if_neg (by omega)]
    · intro h
      show zs_S _ n + 8 ^ (if n = p then v else d n) + 8 ^ d p = zs_S d n + 8 ^ d n + 8 ^ v
      by_cases e : n = p
      · rw [if_pos e, ih.1 (by omega), e]; omega
      · rw [if_neg e]
        have := ih.2 (by omega)
        omega
/-! what a WAY compares -/
def zs_tj (way T b : Nat) : Nat := if way = 0 then T + b else if way = 1 then max T b else T + 8 ^ b
theorem zs_tj_comm (way T a b : Nat) : zs_tj way (zs_tj way T a) b = zs_tj way (zs_tj way T b) a := by
  unfold zs_tj
  by_cases h0 : way = 0
  · simp only [if_pos h0]; omega
  · by_cases h1 : way = 1
    · simp only [if_neg h0, if_pos h1]; omega
    · simp only [if_neg h0, if_neg h1]; omega
def zs_To (way : Nat) (b : Nat → Nat) (lo : Nat) : Nat → Nat
  | 0 => 0
  | i + 1 => if i = lo then zs_To way b lo i else zs_tj way (zs_To way b lo i) (b i)
theorem zs_To_out (way : Nat) (b : Nat → Nat) (lo lo2 : Nat) : ∀ n, n ≤ lo → n ≤ lo2 → zs_To way b lo n = zs_To way b lo2 n
  | 0, _, _ => rfl
  | n + 1, h, h2 => by
    show (if n = lo then _ else _) = (if n = lo2 then _ else _)
    rw [if_neg (by omega), if_neg (by omega), zs_To_out way b lo lo2 n (by omega) (by omega)]
theorem zs_To_one (way : Nat) (b : Nat → Nat) (i0 lo : Nat) : ∀ n, i0 < n → n ≤ lo → zs_To way b lo n = zs_tj way (zs_To way b i0 n) (b i0) := by
  intro n
  induction n with
  | zero => intro h; exact absurd h (by omega)
  | succ n ih =>
    intro h1 h2
    show (if n = lo then _ else zs_tj way (zs_To way b lo n) (b n)) = zs_tj way (if n = i0 then zs_To way b i0 n else zs_tj way (zs_To way b i0 n) (b n)) (b i0)
    rw [if_neg (by omega)]
    by_cases e : n = i0
    · rw [if_pos e, e, zs_To_out way b lo i0 i0 (by omega) (by omega)]
    · rw [if_neg e, ih (by omega) (by omega), zs_tj_comm]
theorem zs_To_congr (way : Nat) {b b2 : Nat → Nat} (lo : Nat) : ∀ n, (∀ i, i < n → ¬ i = lo → b i = b2 i) → zs_To way b lo n = zs_To way b2 lo n
  | 0, _ => rfl
  | n + 1, h => by
    show (if n = lo then _ else zs_tj way _ (b n)) = (if n = lo then _ else zs_tj way _ (b2 n))
    rw [zs_To_congr way lo n (fun i hi hl => h i (by omega) hl)]
    by_cases e : n = lo
    · rw [if_pos e, if_pos e]
    · rw [if_neg e, if_neg e, h n (by omega) e]
/-- what the class holds of n burdens -/
def zs_St (way n T V : Nat) : Prop := if way = 0 then V = T ∧ T ≤ n * 486 else if way = 1 then V = T ∧ T ≤ 486 else ∃ d, zs_desc d ∧ (∀ j, j < 7 → d j ≤ 486) ∧ (∀ j, n ≤ j → j < 7 → d j = 0) ∧ V = zs_E d 7 ∧ zs_S d 7 = T + (7 - n)
theorem zs_St_lt {way n T V : Nat} (hn : n ≤ 7) (h : zs_St way n T V) : V < 2 ^ 63 := by
  unfold zs_St at h
  by_cases h0 : way = 0
  · rw [if_pos h0] at h
    have : n * 486 ≤ 7 * 486 := Nat.mul_le_mul_right _ hn
    omega
  · rw [if_neg h0] at h
    by_cases h1 : way = 1
    · rw [if_pos h1] at h; omega
    · rw [if_neg h1] at h
      obtain ⟨d, -, hb, -, e, -⟩ := h
      have b0 := hb 0 (by omega)
      have b1 := hb 1 (by omega)
      have b2 := hb 2 (by omega)
      have b3 := hb 3 (by omega)
      have b4 := hb 4 (by omega)
      have b5 := hb 5 (by omega)
      have b6 := hb 6 (by omega)
      have e2 : zs_E d 7 = ((((((0 * 512 + d 0) * 512 + d 1) * 512 + d 2) * 512 + d 3) * 512 + d 4) * 512 + d 5) * 512 + d 6 := rfl
      omega
theorem zs_St_le {way n T1 V1 T2 V2 : Nat} (h1 : zs_St way n T1 V1) (h2 : zs_St way n T2 V2) : V1 ≤ V2 ↔ T1 ≤ T2 := by
  unfold zs_St at h1 h2
  by_cases h0 : way = 0
  · rw [if_pos h0] at h1 h2; omega
  · rw [if_neg h0] at h1 h2
    by_cases hw : way = 1
    · rw [if_pos hw] at h1 h2; omega
    · rw [if_neg hw] at h1 h2
      obtain ⟨d, d1, d2, -, d3, d4⟩ := h1
      obtain ⟨e, e1, e2, -, e3, e4⟩ := h2
      rcases zs_tri7 d e with q | q | q
      · have a1 := zs_S_lx d1 q
        have a2 := zs_E_lx (fun j hj => by have := d2 j hj; omega) q
        omega
      · have a1 := zs_S_congr 7 q
        have a2 := zs_E_congr 7 q
        omega
      · have a1 := zs_S_lx e1 q
        have a2 := zs_E_lx (fun j hj => by have := e2 j hj; omega) q
        omega
/-! putting one into a row -/
def zs_mv (d : Nat → Nat) (m : Nat) : Nat → Nat
  | 0 => m
  | j + 1 => min (zs_mv d m j) (d j)
def zs_bub (d : Nat → Nat) (m j : Nat) : Nat := max (zs_mv d m j) (d j)
theorem zs_bub_S (d : Nat → Nat) (m : Nat) : ∀ n, zs_S (zs_bub d m) n + 8 ^ zs_mv d m n = zs_S d n + 8 ^ m
  | 0 => rfl
  | n + 1 => by
    have h := zs_bub_S d m n
    show zs_S (zs_bub d m) n + 8 ^ max (zs_mv d m n) (d n) + 8 ^ min (zs_mv d m n) (d n) = zs_S d n + 8 ^ d n + 8 ^ m
    rcases Nat.le_total (zs_mv d m n) (d n) with q | q
    · rw [Nat.max_eq_right q, Nat.min_eq_left q]; omega
    · rw [Nat.max_eq_left q, Nat.min_eq_right q]; omega
theorem zs_bub_desc {d : Nat → Nat} (hd : zs_desc d) (m : Nat) : zs_desc (zs_bub d m) := by
  have st : ∀ j, j + 1 < 7 → zs_bub d m (j + 1) ≤ zs_bub d m j := by
    intro j hj
    have := hd j (j + 1) (by omega) hj
    show max (min (zs_mv d m j) (d j)) (d (j + 1)) ≤ max (zs_mv d m j) (d j)
    omega
  intro i j
  induction j with
  | zero => intro h; exact absurd h (by omega)
  | succ j ih =>
    intro h1 h2
    by_cases e : i = j
    · subst e; exact st i h2
    · exact Nat.le_trans (st j h2) (ih (by omega) (by omega))
theorem zs_mv_le (d : Nat → Nat) (m : Nat) : ∀ j, zs_mv d m j ≤ m
  | 0 => Nat.le_refl _
  | j + 1 => by
    have := zs_mv_le d m j
    show min (zs_mv d m j) (d j) ≤ m
    omega
def zs_put : Nat → Nat → Nat → Nat
  | 0, R, _ => R
  | q + 1, R, m => zs_put q (R + (max m (R / 2 ^ (9 * q) % 512) - R / 2 ^ (9 * q) % 512) * 2 ^ (9 * q)) (min m (R / 2 ^ (9 * q) % 512))
def zs_R (a b c d e f g : Nat) : Nat := a * 2 ^ 54 + b * 2 ^ 45 + c * 2 ^ 36 + d * 2 ^ 27 + e * 2 ^ 18 + f * 2 ^ 9 + g
theorem zs_R7 (a b c d e f g : Nat) : ((((((0 * 512 + a) * 512 + b) * 512 + c) * 512 + d) * 512 + e) * 512 + f) * 512 + g = zs_R a b c d e f g := by
  unfold zs_R; omega
theorem zs_E7 (d : Nat → Nat) : zs_E d 7 = zs_R (d 0) (d 1) (d 2) (d 3) (d 4) (d 5) (d 6) := zs_R7 _ _ _ _ _ _ _
theorem zs_put7 {a b c d e f g m : Nat} (ha : a < 512) (hb : b < 512) (hc : c < 512) (hd : d < 512) (he : e < 512) (hf : f < 512) (hg : g < 512) (hm : m < 512) : zs_put 7 (zs_R a b c d e f g) m = zs_R (max m a) (max (min m a) b) (max (min (min m a) b) c) (max (min (min (min m a) b) c) d) (max (min (min (min (min m a) b) c) d) e) (max (min (min (min (min (min m a) b) c) d) e) f) (max (min (min (min (min (min (min m a) b) c) d) e) f) g) := by
  have s6 : ∀ {a b c d e f g m : Nat}, a < 512 → b < 512 → c < 512 → d < 512 → e < 512 → f < 512 → g < 512 → m < 512 → zs_put 7 (zs_R a b c d e f g) m = zs_put 6 (zs_R (max m a) b c d e f g) (min m a) := by
    intro a b c d e f g m ha hb hc hd he hf hg hm
    have h1 : zs_R a b c d e f g / 2 ^ (9 * 6) % 512 = a := by unfold zs_R; omega
    have h2 : zs_R a b c d e f g + (max m a - a) * 2 ^ (9 * 6) = zs_R (max m a) b c d e f g := by unfold zs_R; omega
    show zs_put 6 (zs_R a b c d e f g + (max m (zs_R a b c d e f g / 2 ^ (9 * 6) % 512) - zs_R a b c d e f g / 2 ^ (9 * 6) % 512) * 2 ^ (9 * 6)) (min m (zs_R a b c d e f g / 2 ^ (9 * 6) % 512)) = _
    rw [h1, h2]
  have s5 : ∀ {a b c d e f g m : Nat}, a < 512 → b < 512 → c < 512 → d < 512 → e < 512 → f < 512 → g < 512 → m < 512 → zs_put 6 (zs_R a b c d e f g) m = zs_put 5 (zs_R a (max m b) c d e f g) (min m b) := by
    intro a b c d e f g m ha hb hc hd he hf hg hm
    have h1 : zs_R a b c d e f g / 2 ^ (9 * 5) % 512 = b := by unfold zs_R; omega
    have h2 : zs_R a b c d e f g + (max m b - b) * 2 ^ (9 * 5) = zs_R a (max m b) c d e f g := by unfold zs_R; omega
    show zs_put 5 (zs_R a b c d e f g + (max m (zs_R a b c d e f g / 2 ^ (9 * 5) % 512) - zs_R a b c d e f g / 2 ^ (9 * 5) % 512) * 2 ^ (9 * 5)) (min m (zs_R a b c d e f g / 2 ^ (9 * 5) % 512)) = _
    rw [h1, h2]
  have s4 : ∀ {a b c d e f g m : Nat}, a < 512 → b < 512 → c < 512 → d < 512 → e < 512 → f < 512 → g < 512 → m < 512 → zs_put 5 (zs_R a b c d e f g) m = zs_put 4 (zs_R a b (max m c) d e f g) (min m c) := by
    intro a b c d e f g m ha hb hc hd he hf hg hm
    have h1 : zs_R a b c d e f g / 2 ^ (9 * 4) % 512 = c := by unfold zs_R; omega
    have h2 : zs_R a b c d e f g + (max m c - c) * 2 ^ (9 * 4) = zs_R a b (max m c) d e f g := by unfold zs_R; omega
    show zs_put 4 (zs_R a b c d e f g + (max m (zs_R a b c d e f g / 2 ^ (9 * 4) % 512) - zs_R a b c d e f g / 2 ^ (9 * 4) % 512) * 2 ^ (9 * 4)) (min m (zs_R a b c d e f g / 2 ^ (9 * 4) % 512)) = _
    rw [h1, h2]
  have s3 : ∀ {a b c d e f g m : Nat}, a < 512 → b < 512 → c < 512 → d < 512 → e < 512 → f < 512 → g < 512 → m < 512 → zs_put 4 (zs_R a b c d e f g) m = zs_put 3 (zs_R a b c (max m d) e f g) (min m d) := by
    intro a b c d e f g m ha hb hc hd he hf hg hm
    have h1 : zs_R a b c d e f g / 2 ^ (9 * 3) % 512 = d := by unfold zs_R; omega
    have h2 : zs_R a b c d e f g + (max m d - d) * 2 ^ (9 * 3) = zs_R a b c (max m d) e f g := by unfold zs_R; omega
    show zs_put 3 (zs_R a b c d e f g + (max m (zs_R a b c d e f g / 2 ^ (9 * 3) % 512) - zs_R a b c d e f g / 2 ^ (9 * 3) % 512) * 2 ^ (9 * 3)) (min m (zs_R a b c d e f g / 2 ^ (9 * 3) % 512)) = _
    rw [h1, h2]
  have s2 : ∀ {a b c d e f g m : Nat}, a < 512 → b < 512 → c < 512 → d < 512 → e < 512 → f < 512 → g < 512 → m < 512 → zs_put 3 (zs_R a b c d e f g) m = zs_put 2 (zs_R a b c d (max m e) f g) (min m e) := by
    intro a b c d e f g m ha hb hc hd he hf hg hm
    have h1 : zs_R a b c d e f g / 2 ^ (9 * 2) % 512 = e := by unfold zs_R; omega
    have h2 : zs_R a b c d e f g + (max m e - e) * 2 ^ (9 * 2) = zs_R a b c d (max m e) f g := by unfold zs_R; omega
    show zs_put 2 (zs_R a b c d e f g + (max m (zs_R a b c d e f g / 2 ^ (9 * 2) % 512) - zs_R a b c d e f g / 2 ^ (9 * 2) % 512) * 2 ^ (9 * 2)) (min m (zs_R a b c d e f g / 2 ^ (9 * 2) % 512)) = _
    rw [h1, h2]
  have s1 : ∀ {a b c d e f g m : Nat}, a < 512 → b < 512 → c < 512 → d < 512 → e < 512 → f < 512 → g < 512 → m < 512 → zs_put 2 (zs_R a b c d e f g) m = zs_put 1 (zs_R a b c d e (max m f) g) (min m f) := by
    intro a b c d e f g m ha hb hc hd he hf hg hm
    have h1 : zs_R a b c d e f g / 2 ^ (9 * 1) % 512 = f := by unfold zs_R; omega
    have h2 : zs_R a b c d e f g + (max m f - f) * 2 ^ (9 * 1) = zs_R a b c d e (max m f) g := by unfold zs_R; omega
    show zs_put 1 (zs_R a b c d e f g + (max m (zs_R a b c d e f g / 2 ^ (9 * 1) % 512) - zs_R a b c d e f g / 2 ^ (9 * 1) % 512) * 2 ^ (9 * 1)) (min m (zs_R a b c d e f g / 2 ^ (9 * 1) % 512)) = _
    rw [h1, h2]
  have s0 : ∀ {a b c d e f g m : Nat}, a < 512 → b < 512 → c < 512 → d < 512 → e < 512 → f < 512 → g < 512 → m < 512 → zs_put 1 (zs_R a b c d e f g) m = zs_R a b c d e f (max m g) := by
    intro a b c d e f g m ha hb hc hd he hf hg hm
    have h1 : zs_R a b c d e f g / 2 ^ (9 * 0) % 512 = g := by unfold zs_R; omega
    show zs_R a b c d e f g + (max m (zs_R a b c d e f g / 2 ^ (9 * 0) % 512) - zs_R a b c d e f g / 2 ^ (9 * 0) % 512) * 2 ^ (9 * 0) = _
    rw [h1]; unfold zs_R; omega
  rw [s6 ha hb hc hd he hf hg hm, s5 (by omega) hb hc hd he hf hg (by omega), s4 (by omega) (by omega) hc hd he hf hg (by omega), s3 (by omega) (by omega) (by omega) hd he hf hg (by omega), s2 (by omega) (by omega) (by omega) (by omega) he hf hg (by omega), s1 (by omega) (by omega) (by omega) (by omega) (by omega) hf hg (by omega), s0 (by omega) (by omega) (by omega) (by omega) (by omega) (by omega) hg (by omega)]
theorem zs_putE {d : Nat → Nat} {m : Nat} (hd : ∀ j, j < 7 → d j < 512) (hm : m < 512) : zs_put 7 (zs_E d 7) m = zs_E (zs_bub d m) 7 := by
  rw [zs_E7, zs_E7, zs_put7 (hd 0 (by omega)) (hd 1 (by omega)) (hd 2 (by omega)) (hd 3 (by omega)) (hd 4 (by omega)) (hd 5 (by omega)) (hd 6 (by omega)) hm]
  rfl
