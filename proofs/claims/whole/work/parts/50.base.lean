/-! THE PURE SIDE: words for what is said, and the plainest functions -/
/-- a loop that counts up: each turn ends it, or goes on with the next number -/
theorem zs_for {α ρ : Type} (g : Nat → α → Nat → Option ρ) (N : Nat) (inv : Nat → α → Prop) (Post : ρ → Prop)
    (hx : ∀ n a, inv N a → ∃ r, g (n + 1) a N = some r ∧ Post r)
    (hs : ∀ n i a, i < N → inv i a → (∃ r, g (n + 1) a i = some r ∧ Post r) ∨ (∃ a', g (n + 1) a i = g n a' (i + 1) ∧ inv (i + 1) a')) :
    ∀ m i a fuel, i + m = N → m < fuel → inv i a → ∃ r, g fuel a i = some r ∧ Post r := by
  intro m
  induction m with
  | zero =>
    intro i a fuel h1 h2 h3
    obtain ⟨n, rfl⟩ : ∃ n, fuel = n + 1 := ⟨fuel - 1, by omega⟩
    have e : i = N := by omega
    subst e
    exact hx n a h3
  | succ m ih =>
    intro i a fuel h1 h2 h3
    obtain ⟨n, rfl⟩ : ∃ n, fuel = n + 1 := ⟨fuel - 1, by omega⟩
    rcases hs n i a (by omega) h3 with h | ⟨a', e, h4⟩
    · exact h
    · rw [e]
      exact ih (i + 1) a' n (by omega) (by omega) h4
/-- the same with a measure that falls -/
theorem zs_while {α ρ : Type} (g : Nat → α → Option ρ) (μ : α → Nat) (inv : α → Prop) (Post : ρ → Prop)
    (hs : ∀ n a, inv a → (∃ r, g (n + 1) a = some r ∧ Post r) ∨ (∃ a', g (n + 1) a = g n a' ∧ inv a' ∧ μ a' < μ a)) :
    ∀ fuel a, μ a < fuel → inv a → ∃ r, g fuel a = some r ∧ Post r := by
  intro fuel
  induction fuel with
  | zero => intro a h; exact absurd h (Nat.not_lt_zero _)
  | succ n ih =>
    intro a h1 h2
    rcases hs n a h2 with h | ⟨a', e, h3, h4⟩
    · exact h
    · rw [e]
      exact ih a' (by omega) h3
theorem zs_F : zk_F = 5000 := rfl
/-- a world in a set -/
def zs_bit (s : Int64) (w : Nat) : Bool := s.toBitVec.getLsbD w
theorem zs_ext {a b : Int64} (h : ∀ w, w < 64 → zs_bit a w = zs_bit b w) : a = b := Int64.toBitVec_inj.mp (BitVec.eq_of_getLsbD_eq (fun i hi => h i hi))
theorem zs_bit_and (a b : Int64) (w : Nat) : zs_bit (a &&& b) w = (zs_bit a w && zs_bit b w) := by unfold zs_bit; rw [Int64.toBitVec_and, BitVec.getLsbD_and]
theorem zs_bit_or (a b : Int64) (w : Nat) : zs_bit (a ||| b) w = (zs_bit a w || zs_bit b w) := by unfold zs_bit; rw [Int64.toBitVec_or, BitVec.getLsbD_or]
theorem zs_bit_xor (a b : Int64) (w : Nat) : zs_bit (a ^^^ b) w = (zs_bit a w ^^ zs_bit b w) := by unfold zs_bit; rw [Int64.toBitVec_xor, BitVec.getLsbD_xor]
theorem zs_bit_m1 {w : Nat} (h : w < 64) : zs_bit (-1) w = true := by
  have : ∀ w < 64, zs_bit (-1) w = true := by decide
  exact this w h
theorem zs_bit_0 (w : Nat) : zs_bit 0 w = false := by unfold zs_bit; exact BitVec.getLsbD_zero
theorem zs_bit_not (a : Int64) {w : Nat} (h : w < 64) : zs_bit (a ^^^ (-1)) w = !zs_bit a w := by
  rw [zs_bit_xor, zs_bit_m1 h, Bool.xor_true]
theorem zs_bit_one {w j : Nat} (hj : j < 64) (hw : w < 64) : zs_bit ((1 : Int64) <<< ((nI j).toInt64 &&& 63)) w = decide (w = j) := by
  have : ∀ j < 64, ((1 : Int64) <<< ((nI j).toInt64 &&& 63)).toBitVec = BitVec.twoPow 64 j := by decide +kernel
  unfold zs_bit
  rw [this j hj, BitVec.getLsbD_twoPow]
  simp [hj, eq_comm]
theorem zs_isIn (s : Int64) {w : Nat} (h : w < 64) : zf_X4_isIn s (nI w) = some (if zs_bit s w then 1 else 0) := by
  unfold zf_X4_isIn
  rw [wb_cu w h]
  have hb := ts_bit (w := s) (s := UInt64.ofNat w) h (u_tn (by omega))
  by_cases hc : zs_bit s w = true
  · rw [if_neg (fun q => by rw [lg_cmp_eq] at q; rw [hb] at q; unfold zs_bit at hc; rw [hc] at q; cases q), if_pos hc]
  · have hc2 : s.toBitVec.getLsbD w = false := ts_nt hc
    rw [if_pos ((lg_cmp_eq _ _).mpr (hb.mpr hc2)), if_neg hc]
theorem zs_sar (s : Int64) {w : Nat} (h : w < 64) : (s >>> ((nI w).toInt64 &&& 63)) &&& 1 = if zs_bit s w then 1 else 0 := by
  rw [wb_c w h]
  have e : (s >>> lN w).toBitVec = s.toBitVec.sshiftRight w := by
    show BitVec.sshiftRight' s.toBitVec ((lN w).toBitVec.smod 64) = _
    rw [wb_tb, wb_sm w h]
    unfold BitVec.sshiftRight'
    rw [BitVec.toNat_ofNat, Nat.mod_eq_of_lt (by omega)]
  apply Int64.toBitVec_inj.mp
  rw [Int64.toBitVec_and, e]
  apply BitVec.eq_of_getLsbD_eq
  intro i hi
  have h1 : (1 : Int64).toBitVec = 1#64 := rfl
  rw [BitVec.getLsbD_and, h1]
  by_cases hc : zs_bit s w = true
  · rw [if_pos hc, h1]
    cases i with
    | zero => unfold zs_bit at hc; simp [BitVec.getLsbD_sshiftRight, h, hc]
    | succ i => simp
  · rw [if_neg hc]
    have hc2 : s.toBitVec.getLsbD w = false := ts_nt hc
    cases i with
    | zero =>
      have e0 : (s.toBitVec.sshiftRight w).getLsbD 0 = false := by rw [BitVec.getLsbD_sshiftRight, Nat.add_zero, if_pos h, hc2, Bool.and_false]
      rw [e0]; simp
    | succ i => simp
theorem zs_has (s : Int64) {w : Nat} (h : w < 64) : zf_X5_has s (nI w) = some (if zs_bit s w then 1 else 0) := by
  unfold zf_X5_has
  rw [zs_sar s h]
  by_cases hc : zs_bit s w = true
  · rw [if_pos hc, if_pos ((lg_cmp_eq _ _).mpr rfl), if_pos hc]
  · rw [if_neg hc, if_neg (fun q => by rw [lg_cmp_eq] at q; exact absurd q (by decide)), if_neg hc]
theorem zs_in (a b c : Int64) : zf_X5_in a b c = some (if b ≤ a ∧ a ≤ c then 1 else 0) := by
  unfold zf_X5_in
  by_cases h1 : a < b
  · rw [if_pos ((lg_cmp_lt _ _).mpr h1), if_neg (fun q => by have := q.1; rw [Int64.le_iff_toInt_le] at this; rw [Int64.lt_iff_toInt_lt] at h1; omega)]
  · rw [if_neg (fun q => h1 ((lg_cmp_lt _ _).mp q))]
    by_cases h2 : c < a
    · rw [if_pos ((lg_cmp_gt _ _).mpr h2), if_neg (fun q => by have := q.2; rw [Int64.le_iff_toInt_le] at this; rw [Int64.lt_iff_toInt_lt] at h2; omega)]
    · rw [if_neg (fun q => h2 ((lg_cmp_gt _ _).mp q)), if_pos]
      rw [Int64.lt_iff_toInt_lt] at h1 h2
      rw [Int64.le_iff_toInt_le, Int64.le_iff_toInt_le]
      omega
theorem zs_zin {n N : Nat} (h : n < N) (hn : n < 2 ^ 31) : zk_in (nI n) N = true := zk_in_of (by rw [nI_toInt hn]; omega) (by rw [nI_toInt hn]; omega)
theorem zs_b01 (c : Prop) [Decidable c] : zk_b (if c then 1 else 0) = true := by
  by_cases h : c
  · rw [if_pos h]; decide
  · rw [if_neg h]; decide
theorem zs_01 (c : Prop) [Decidable c] : ((if c then 1 else 0 : Int32) = 0) ↔ ¬ c := by
  by_cases h : c
  · rw [if_pos h]; exact ⟨fun q => absurd q (by decide), fun q => absurd h q⟩
  · rw [if_neg h]; exact ⟨fun _ => h, fun _ => rfl⟩
theorem zs_i2l (x : Int32) : x.toInt64.toInt = x.toInt := Int32.toInt_toInt64 x
