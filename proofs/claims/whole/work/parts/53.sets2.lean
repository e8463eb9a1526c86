theorem zs_band : ∀ t, t < 128 → ∀ i, i < 7 → (nI t &&& ((1 : Int32) <<< (nI i &&& 31))) = if t.testBit i then nI (2 ^ i) else 0 := by decide +kernel
theorem zs_bclr : ∀ t, t < 128 → ∀ i, i < 7 → t.testBit i = true → (nI t &&& (((1 : Int32) <<< (nI i &&& 31)) ^^^ (-1 : Int32))) = nI (t ^^^ 2 ^ i) := by decide +kernel
theorem zs_bset : ∀ t, t < 128 → ∀ i, i < 7 → t.testBit i = false → (nI t ||| ((1 : Int32) <<< (nI i &&& 31))) = nI (t ^^^ 2 ^ i) := by decide +kernel
theorem zs_bxor : ∀ t, t < 128 → ∀ i, i < 7 → (nI t ^^^ ((1 : Int32) <<< (nI i &&& 31))) = nI (t ^^^ 2 ^ i) := by decide +kernel
theorem zs_xlt {t k i : Nat} (ht : t < 2 ^ k) (hi : i < k) : t ^^^ 2 ^ i < 2 ^ k := Nat.xor_lt_two_pow ht (Nat.pow_lt_pow_right (by omega) hi)
def zs_all (p : Nat → Bool) : Nat → Bool
  | 0 => true
  | n + 1 => zs_all p n && p n
/-- is t a least quarrel (l), is it a greatest that agrees (not l) -/
def zs_told (Q : Nat → Bool) (l : Bool) (k t : Nat) : Bool := (Q t == l) && zs_all (fun i => !(t.testBit i == l) || (Q (t ^^^ 2 ^ i) != l)) k
def zs_Q (there : Int64) (says : Nat → Int64) (k t : Nat) : Bool := decide (zs_com there says k t = 0)
def zs_o (b : Bool) : Int32 := if b then 1 else 0
theorem zs_o0 (b : Bool) : (zs_o b = 0) ↔ b = false := by cases b <;> decide
theorem zs_o1 (b : Bool) : (zs_o b = 1) ↔ b = true := by cases b <;> decide
theorem zs_ob (b : Bool) : zk_b (zs_o b) = true := by cases b <;> decide
theorem zs_Q4 {k t : Nat} {there : Int64} {says com : Nat → Int64} (hk : k ≤ 7) (ht : t < 2 ^ k) (hc : ∀ t, t < 2 ^ k → com t = zs_com there says k t) : zf_X4_isQuarrel (nI t) com = some (zs_o (zs_Q there says k t)) := by
  rw [zs_X4_isQuarrel hk ht hc]
  unfold zs_o zs_Q
  by_cases h : zs_com there says k t = 0
  · rw [if_pos h, if_pos (decide_eq_true h)]
  · rw [if_neg h, if_neg (fun q => h (of_decide_eq_true q))]
theorem zs_Q5 {k t : Nat} {there : Int64} {says : Nat → Int64} (hk : k ≤ 7) (ht : t < 2 ^ k) : zf_X5_isQuarrel (nI t) (nI k) there says = some (zs_o (zs_Q there says k t)) := by
  have h7 : 2 ^ k ≤ 128 := Nat.pow_le_pow_right (n := 2) (by omega) hk
  rw [zs_X5_isQuarrel hk (by omega)]
  unfold zs_o zs_Q
  by_cases h : zs_com there says k t = 0
  · rw [if_pos h, if_pos (decide_eq_true h)]
  · rw [if_neg h, if_neg (fun q => h (of_decide_eq_true q))]
theorem zs_all_false {p : Nat → Bool} {i n : Nat} (h : i < n) (hp : p i = false) : zs_all p n = false := by
  induction n with
  | zero => omega
  | succ n ih =>
    rw [zs_all]
    by_cases e : i = n
    · rw [← e, hp, Bool.and_false]
    · rw [ih (by omega), Bool.false_and]
theorem zs_leastQ {k t : Nat} {there : Int64} {says com : Nat → Int64} (hk : k ≤ 7) (ht : t < 2 ^ k) (hc : ∀ t, t < 2 ^ k → com t = zs_com there says k t) : zf_X4_isLeastQuarrel (nI t) (nI k) com = some (zs_o (zs_told (zs_Q there says k) true k t)) := by
  have h7 : 2 ^ k ≤ 128 := Nat.pow_le_pow_right (n := 2) (by omega) hk
  unfold zf_X4_isLeastQuarrel
  rw [zs_Q4 hk ht hc, Option.bind_some]
  by_cases hq : zs_Q there says k t = true
  · rw [if_neg (fun q => by rw [zs_o0, hq] at q; cases q)]
    have h := zs_for (fun n (_ : Unit) i => zl_X4_isLeastQuarrel_12 (nI t) (nI k) com n (nI i)) k (fun i _ => i ≤ k ∧ zs_all (fun i => !(t.testBit i == true) || (zs_Q there says k (t ^^^ 2 ^ i) != true)) i = true) (fun r => (r = Sum.inr 0 ∧ zs_told (zs_Q there says k) true k t = false) ∨ ((∃ w, r = Sum.inl w) ∧ zs_told (zs_Q there says k) true k t = true)) (by
      intro n a ha
      refine ⟨Sum.inl (nI k), ?_, Or.inr ⟨⟨_, rfl⟩, ?_⟩⟩
      · show zl_X4_isLeastQuarrel_12 (nI t) (nI k) com (n + 1) (nI k) = _
        rw [zl_X4_isLeastQuarrel_12, if_pos (nI_le (Nat.le_refl k) (by omega))]
      · unfold zs_told; rw [hq, ha.2]; rfl) (by
      intro n i a hi ha
      by_cases hb : t.testBit i = true
      · have hqi := zs_Q4 (there := there) (says := says) hk (zs_xlt ht hi) hc
        by_cases h2 : zs_Q there says k (t ^^^ 2 ^ i) = true
        · left
          refine ⟨Sum.inr 0, ?_, Or.inl ⟨rfl, ?_⟩⟩
          · show zl_X4_isLeastQuarrel_12 (nI t) (nI k) com (n + 1) (nI i) = _
            rw [zl_X4_isLeastQuarrel_12, if_neg (nI_ge hi (by omega)), zs_band t (by omega) i (by omega), if_pos hb, if_neg (nI_ne0 (Nat.two_pow_pos i) (Nat.pow_lt_pow_right (by omega) (by omega))), zs_bclr t (by omega) i (by omega) hb, hqi, Option.bind_some, if_neg (fun q => by rw [zs_o0, h2] at q; cases q)]
          · unfold zs_told
            rw [zs_all_false hi (by rw [hb, h2]; rfl), Bool.and_false]
        · right
          have h2' : zs_Q there says k (t ^^^ 2 ^ i) = false := ts_nt h2
          refine ⟨(), ?_, by omega, ?_⟩
          · show zl_X4_isLeastQuarrel_12 (nI t) (nI k) com (n + 1) (nI i) = zl_X4_isLeastQuarrel_12 (nI t) (nI k) com n (nI (i + 1))
            rw [zl_X4_isLeastQuarrel_12, if_neg (nI_ge hi (by omega)), zs_band t (by omega) i (by omega), if_pos hb, if_neg (nI_ne0 (Nat.two_pow_pos i) (Nat.pow_lt_pow_right (by omega) (by omega))), zs_bclr t (by omega) i (by omega) hb, hqi, Option.bind_some, if_pos ((zs_o0 _).mpr h2')]
            show zl_X4_isLeastQuarrel_12 (nI t) (nI k) com n (nI i + 1) = _
            rw [nI_1]
          · rw [zs_all, ha.2, h2']; simp
      · right
        have hb' : t.testBit i = false := ts_nt hb
        refine ⟨(), ?_, by omega, ?_⟩
        · show zl_X4_isLeastQuarrel_12 (nI t) (nI k) com (n + 1) (nI i) = zl_X4_isLeastQuarrel_12 (nI t) (nI k) com n (nI (i + 1))
          rw [zl_X4_isLeastQuarrel_12, if_neg (nI_ge hi (by omega)), zs_band t (by omega) i (by omega), if_neg hb, if_pos rfl]
          show zl_X4_isLeastQuarrel_12 (nI t) (nI k) com n (nI i + 1) = _
          rw [nI_1]
        · rw [zs_all, ha.2, hb']; rfl)
    obtain ⟨r, h1, h2⟩ := h k 0 () zk_F (by omega) (by rw [zs_F]; omega) ⟨by omega, rfl⟩
    have h1' : zl_X4_isLeastQuarrel_12 (nI t) (nI k) com zk_F (0 : Int32) = some r := h1
    rw [h1', Option.bind_some]
    rcases h2 with ⟨e, h2⟩ | ⟨⟨w, e⟩, h2⟩
    · rw [e, h2]; rfl
    · rw [e, h2]; rfl
  · have hq' : zs_Q there says k t = false := ts_nt hq
    rw [if_pos ((zs_o0 _).mpr hq')]
    unfold zs_told
    rw [hq']; rfl
theorem zs_greatQ {k t : Nat} {there : Int64} {says com : Nat → Int64} (hk : k ≤ 7) (ht : t < 2 ^ k) (hc : ∀ t, t < 2 ^ k → com t = zs_com there says k t) : zf_X4_isGreatestAgreed (nI t) (nI k) com = some (zs_o (zs_told (zs_Q there says k) false k t)) := by
  have h7 : 2 ^ k ≤ 128 := Nat.pow_le_pow_right (n := 2) (by omega) hk
  unfold zf_X4_isGreatestAgreed
  rw [zs_Q4 hk ht hc, Option.bind_some]
  by_cases hq : zs_Q there says k t = false
  · rw [if_pos ((zs_o0 _).mpr hq)]
    have h := zs_for (fun n (_ : Unit) i => zl_X4_isGreatestAgreed_12 (nI t) (nI k) com n (nI i)) k (fun i _ => i ≤ k ∧ zs_all (fun i => !(t.testBit i == false) || (zs_Q there says k (t ^^^ 2 ^ i) != false)) i = true) (fun r => (r = Sum.inr 0 ∧ zs_told (zs_Q there says k) false k t = false) ∨ ((∃ w, r = Sum.inl w) ∧ zs_told (zs_Q there says k) false k t = true)) (by
      intro n a ha
      refine ⟨Sum.inl (nI k), ?_, Or.inr ⟨⟨_, rfl⟩, ?_⟩⟩
      · show zl_X4_isGreatestAgreed_12 (nI t) (nI k) com (n + 1) (nI k) = _
        rw [zl_X4_isGreatestAgreed_12, if_pos (nI_le (Nat.le_refl k) (by omega))]
      · unfold zs_told; rw [hq, ha.2]; rfl) (by
      intro n i a hi ha
      by_cases hb : t.testBit i = true
      · right
        refine ⟨(), ?_, by omega, ?_⟩
        · show zl_X4_isGreatestAgreed_12 (nI t) (nI k) com (n + 1) (nI i) = zl_X4_isGreatestAgreed_12 (nI t) (nI k) com n (nI (i + 1))
          rw [zl_X4_isGreatestAgreed_12, if_neg (nI_ge hi (by omega)), zs_band t (by omega) i (by omega), if_pos hb, if_neg (nI_ne0 (Nat.two_pow_pos i) (Nat.pow_lt_pow_right (by omega) (by omega)))]
          show zl_X4_isGreatestAgreed_12 (nI t) (nI k) com n (nI i + 1) = _
          rw [nI_1]
        · rw [zs_all, ha.2, hb]; rfl
      · have hb' : t.testBit i = false := ts_nt hb
        have hqi := zs_Q4 (there := there) (says := says) hk (zs_xlt ht hi) hc
        by_cases h2 : zs_Q there says k (t ^^^ 2 ^ i) = false
        · left
          refine ⟨Sum.inr 0, ?_, Or.inl ⟨rfl, ?_⟩⟩
          · show zl_X4_isGreatestAgreed_12 (nI t) (nI k) com (n + 1) (nI i) = _
            rw [zl_X4_isGreatestAgreed_12, if_neg (nI_ge hi (by omega)), zs_band t (by omega) i (by omega), if_neg hb, if_pos rfl, zs_bset t (by omega) i (by omega) hb', hqi, Option.bind_some, if_pos ((zs_o0 _).mpr h2)]
          · unfold zs_told
            rw [zs_all_false hi (by rw [hb', h2]; rfl), Bool.and_false]
        · right
          have h2' : zs_Q there says k (t ^^^ 2 ^ i) = true := ts_nf h2
          refine ⟨(), ?_, by omega, ?_⟩
          · show zl_X4_isGreatestAgreed_12 (nI t) (nI k) com (n + 1) (nI i) = zl_X4_isGreatestAgreed_12 (nI t) (nI k) com n (nI (i + 1))
            rw [zl_X4_isGreatestAgreed_12, if_neg (nI_ge hi (by omega)), zs_band t (by omega) i (by omega), if_neg hb, if_pos rfl, zs_bset t (by omega) i (by omega) hb', hqi, Option.bind_some, if_neg (fun q => by rw [zs_o0, h2'] at q; cases q)]
            show zl_X4_isGreatestAgreed_12 (nI t) (nI k) com n (nI i + 1) = _
            rw [nI_1]
          · rw [zs_all, ha.2, h2', hb']; rfl)
    obtain ⟨r, h1, h2⟩ := h k 0 () zk_F (by omega) (by rw [zs_F]; omega) ⟨by omega, rfl⟩
    have h1' : zl_X4_isGreatestAgreed_12 (nI t) (nI k) com zk_F (0 : Int32) = some r := h1
    rw [h1', Option.bind_some]
    rcases h2 with ⟨e, h2⟩ | ⟨⟨w, e⟩, h2⟩
    · rw [e, h2]; rfl
    · rw [e, h2]; rfl
  · have hq' : zs_Q there says k t = true := ts_nf hq
    rw [if_neg (fun q => hq ((zs_o0 _).mp q))]
    unfold zs_told
    rw [hq']; rfl
