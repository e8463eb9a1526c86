/-! how many bits of 64 -/
theorem zs_tb8 (h : Nat) {l : Nat} (hl : l < 256) (i : Nat) : (256 * h + l).testBit i = if i < 8 then l.testBit i else h.testBit (i - 8) := Nat.testBit_two_pow_mul_add h (i := 8) hl i
theorem zs_and256 {h l m k : Nat} (hl : l < 256) (hk : k < 256) : (256 * h + l) &&& (256 * m + k) = 256 * (h &&& m) + (l &&& k) := by
  have hlk : l &&& k < 256 := Nat.lt_of_le_of_lt Nat.and_le_left hl
  apply Nat.eq_of_testBit_eq
  intro i
  rw [Nat.testBit_and, zs_tb8 h hl, zs_tb8 m hk, zs_tb8 _ hlk]
  by_cases q : i < 8
  · rw [if_pos q, if_pos q, if_pos q, Nat.testBit_and]
  · rw [if_neg q, if_neg q, if_neg q, Nat.testBit_and]
def zs_g1 (x m : Nat) : Nat := x - ((x / 2) &&& m)
def zs_g2 (y m : Nat) : Nat := (y &&& m) + ((y / 4) &&& m)
def zs_g3 (z m : Nat) : Nat := (z + z / 16) &&& m
theorem zs_g1_8 : ∀ l, l < 256 → ∀ b, b < 2 → (128 * b + l / 2) &&& 85 = (l / 2) &&& 85 := by decide +kernel
theorem zs_g1_s {h l m : Nat} (hl : l < 256) : zs_g1 (256 * h + l) (256 * m + 85) = 256 * zs_g1 h m + zs_g1 l 85 := by
  unfold zs_g1
  have e : (256 * h + l) / 2 = 256 * (h / 2) + (128 * (h % 2) + l / 2) := by omega
  have b1 : (h / 2) &&& m ≤ h := Nat.le_trans Nat.and_le_left (by omega)
  have b2 : (l / 2) &&& 85 ≤ l := Nat.le_trans Nat.and_le_left (by omega)
  rw [e, zs_and256 (by omega) (by omega), zs_g1_8 l hl (h % 2) (by omega)]
  omega
theorem zs_g2_8 : ∀ l, l < 256 → ∀ b, b < 4 → (64 * b + l / 4) &&& 51 = (l / 4) &&& 51 := by decide +kernel
theorem zs_g2_s {h l m : Nat} (hl : l < 256) : zs_g2 (256 * h + l) (256 * m + 51) = 256 * zs_g2 h m + zs_g2 l 51 := by
  unfold zs_g2
  have e : (256 * h + l) / 4 = 256 * (h / 4) + (64 * (h % 4) + l / 4) := by omega
  rw [e, zs_and256 hl (by omega), zs_and256 (by omega) (by omega), zs_g2_8 l hl (h % 4) (by omega)]
  omega
theorem zs_g3_8 : ∀ l, l < 69 → ∀ b, b < 5 → (l + (16 * b + l / 16)) &&& 15 = (l + l / 16) &&& 15 := by decide +kernel
theorem zs_g3_s {h l m : Nat} (hl : l < 69) (hh : h % 16 < 5) : zs_g3 (256 * h + l) (256 * m + 15) = 256 * zs_g3 h m + zs_g3 l 15 := by
  unfold zs_g3
  have e : 256 * h + l + (256 * h + l) / 16 = 256 * (h + h / 16) + (l + (16 * (h % 16) + l / 16)) := by omega
  rw [e, zs_and256 (by omega) (by omega), zs_g3_8 l hl (h % 16) hh]
def zs_mk (c : Nat) : Nat → Nat
  | 0 => 0
  | n + 1 => 256 * zs_mk c n + c
def zs_c8 (l : Nat) : Nat := fb_ct (Nat.testBit l) 8
def zs_D8 : Nat → Nat → Nat
  | _, 0 => 0
  | x, n + 1 => 256 * zs_D8 (x / 256) n + zs_c8 (x % 256)
def zs_S8 : Nat → Nat → Nat
  | _, 0 => 0
  | x, n + 1 => zs_c8 (x % 256) + zs_S8 (x / 256) n
theorem zs_g_8 : ∀ l, l < 256 → zs_g1 l 85 < 256 ∧ zs_g2 (zs_g1 l 85) 51 < 69 ∧ zs_g2 (zs_g1 l 85) 51 % 16 < 5 ∧ zs_g3 (zs_g2 (zs_g1 l 85) 51) 15 = zs_c8 l := by decide +kernel
theorem zs_g_all : ∀ n x, x < 256 ^ n → zs_g2 (zs_g1 x (zs_mk 85 n)) (zs_mk 51 n) % 16 < 5 ∧ zs_g3 (zs_g2 (zs_g1 x (zs_mk 85 n)) (zs_mk 51 n)) (zs_mk 15 n) = zs_D8 x n := by
  intro n
  induction n with
  | zero =>
    intro x hx
    have e : x = 0 := by
      have : (256 : Nat) ^ 0 = 1 := rfl
      omega
    subst e
    exact ⟨by decide, by decide⟩
  | succ n ih =>
    intro x hx
    have h8 : x / 256 < 256 ^ n := by
      have : (256 : Nat) ^ (n + 1) = 256 ^ n * 256 := Nat.pow_succ ..
      omega
    obtain ⟨i1, i2⟩ := ih (x / 256) h8
    obtain ⟨q1, q2, q3, q4⟩ := zs_g_8 (x % 256) (by omega)
    have ex : x = 256 * (x / 256) + x % 256 := by omega
    have e1 : zs_g1 x (zs_mk 85 (n + 1)) = 256 * zs_g1 (x / 256) (zs_mk 85 n) + zs_g1 (x % 256) 85 := by
      conv => lhs; rw [ex]
      exact zs_g1_s (by omega)
    have e2 : zs_g2 (zs_g1 x (zs_mk 85 (n + 1))) (zs_mk 51 (n + 1)) = 256 * zs_g2 (zs_g1 (x / 256) (zs_mk 85 n)) (zs_mk 51 n) + zs_g2 (zs_g1 (x % 256) 85) 51 := by
      rw [e1]
      exact zs_g2_s q1
    refine ⟨by rw [e2]; omega, ?_⟩
    rw [e2]
    show zs_g3 _ (256 * zs_mk 15 n + 15) = 256 * zs_D8 (x / 256) n + zs_c8 (x % 256)
    rw [zs_g3_s q2 i1, i2, q4]
theorem zs_ct8 : ∀ n x, fb_ct (Nat.testBit x) (8 * n) = zs_S8 x n := by
  intro n
  induction n with
  | zero => intro x; rfl
  | succ n ih =>
    intro x
    have ex : x = 256 * (x / 256) + x % 256 := by omega
    rw [show 8 * (n + 1) = 8 + 8 * n by omega, fb_ct_split]
    show _ = zs_c8 (x % 256) + zs_S8 (x / 256) n
    rw [← ih (x / 256)]
    have e1 : fb_ct (Nat.testBit x) 8 = zs_c8 (x % 256) := fb_ct_cong (fun k hk => by
      conv => lhs; rw [ex]
      rw [zs_tb8 _ (by omega), if_pos hk])
    have e2 : fb_ct (fun k => x.testBit (8 + k)) (8 * n) = fb_ct (Nat.testBit (x / 256)) (8 * n) := fb_ct_cong (fun k hk => by
      conv => lhs; rw [ex]
      rw [zs_tb8 _ (by omega), if_neg (by omega), Nat.add_sub_cancel_left])
    rw [e1, e2]
theorem zs_c8_le (l : Nat) : zs_c8 l ≤ 8 := fb_ct_le _ 8
theorem zs_fold0 {a A1 A2 A3 A4 A5 A6 A7 c0 c1 c2 c3 c4 c5 c6 c7 : Nat} (h0 : a = 256 * A1 + c0) (h1 : A1 = 256 * A2 + c1) (h2 : A2 = 256 * A3 + c2) (h3 : A3 = 256 * A4 + c3) (h4 : A4 = 256 * A5 + c4) (h5 : A5 = 256 * A6 + c5) (h6 : A6 = 256 * A7 + c6) (h7 : A7 = c7) (b0 : c0 ≤ 8) (b1 : c1 ≤ 8) (b2 : c2 ≤ 8) (b3 : c3 ≤ 8) (b4 : c4 ≤ 8) (b5 : c5 ≤ 8) (b6 : c6 ≤ 8) (b7 : c7 ≤ 8) : (a + a / 256 + (a + a / 256) / 65536 + (a + a / 256 + (a + a / 256) / 65536) / 4294967296) % 128 = c0 + (c1 + (c2 + (c3 + (c4 + (c5 + (c6 + c7)))))) := by
  have e1 : a / 256 = A1 := by clear h1 h2 h3 h4 h5 h6 h7; omega
  have e2 : a + A1 = 65536 * (A2 + A3) + (256 * (c1 + c2) + (c0 + c1)) := by clear h3 h4 h5 h6 h7 e1; omega
  have e3 : (a + A1) / 65536 = A2 + A3 := by
    rw [e2]
    clear h0 h1 h2 h3 h4 h5 h6 h7 e1 e2
    omega
  have e4 : A2 + A3 = 65536 * (A4 + A5) + (256 * (c3 + c4) + (c2 + c3)) := by clear h0 h1 h5 h6 h7 e1 e2 e3; omega
  have e5 : A4 + A5 = 65536 * (A6 + A7) + (256 * (c5 + c6) + (c4 + c5)) := by clear h0 h1 h2 h3 h7 e1 e2 e3 e4; omega
  have e6 : a + A1 + (A2 + A3) = 4294967296 * (A4 + A5 + (A6 + A7)) + (16777216 * (c3 + c4 + (c5 + c6)) + 65536 * (c2 + c3 + (c4 + c5)) + 256 * (c1 + c2 + (c3 + c4)) + (c0 + c1 + (c2 + c3))) := by
    rw [e2]
    generalize A2 + A3 = X at *
    generalize A4 + A5 = Y at *
    generalize A6 + A7 = Z at *
    clear h0 h1 h2 h3 h4 h5 h6 h7 e1 e2 e3
    omega
  have e7 : (a + A1 + (A2 + A3)) / 4294967296 = A4 + A5 + (A6 + A7) := by
    rw [e6]
    generalize A4 + A5 = Y at *
    generalize A6 + A7 = Z at *
    clear h0 h1 h2 h3 h4 h5 h6 h7 e1 e2 e3 e4 e5 e6
    omega
  have e8 : A6 + A7 = 256 * A7 + (c6 + c7) := by clear h0 h1 h2 h3 h4 h5 e1 e2 e3 e4 e5 e6 e7; omega
  rw [e1, e3, e7, e6, e5, e8]
  clear h0 h1 h2 h3 h4 h5 h6 h7 e1 e2 e3 e4 e5 e6 e7 e8
  omega
theorem zs_fold (x : Nat) : ((zs_D8 x 8) + (zs_D8 x 8) / 256 + ((zs_D8 x 8) + (zs_D8 x 8) / 256) / 65536 + ((zs_D8 x 8) + (zs_D8 x 8) / 256 + ((zs_D8 x 8) + (zs_D8 x 8) / 256) / 65536) / 4294967296) % 128 = zs_S8 x 8 := by
  refine (zs_fold0 (A1 := zs_D8 (x / 256) 7) (A2 := zs_D8 (x / 256 / 256) 6) (A3 := zs_D8 (x / 256 / 256 / 256) 5) (A4 := zs_D8 (x / 256 / 256 / 256 / 256) 4) (A5 := zs_D8 (x / 256 / 256 / 256 / 256 / 256) 3) (A6 := zs_D8 (x / 256 / 256 / 256 / 256 / 256 / 256) 2) (A7 := zs_D8 (x / 256 / 256 / 256 / 256 / 256 / 256 / 256) 1) (by rw [zs_D8]) (by rw [zs_D8]) (by rw [zs_D8]) (by rw [zs_D8]) (by rw [zs_D8]) (by rw [zs_D8]) (by rw [zs_D8]) (by rw [zs_D8, zs_D8, Nat.mul_zero, Nat.zero_add]) (zs_c8_le _) (zs_c8_le _) (zs_c8_le _) (zs_c8_le _) (zs_c8_le _) (zs_c8_le _) (zs_c8_le _) (zs_c8_le _)).trans ?_
  simp only [zs_S8, Nat.add_zero]
theorem zs_zl {α β : Type} (a : α) (k : α → Option β) : zk_lt a k = k a := rfl
theorem zs_bc64 (s : Int64) : zf_J13_bitCount_95d88 s = some (nI (zs_pop s)) := by
  obtain ⟨x, hx, e⟩ := wb_of s
  subst e
  have l1 : (6148914691236517205 : Int64) = lN (zs_mk 85 8) := rfl
  have l2 : (3689348814741910323 : Int64) = lN (zs_mk 51 8) := rfl
  have l3 : (1085102592571150095 : Int64) = lN (zs_mk 15 8) := rfl
  have m2 : zs_mk 51 8 = 3689348814741910323 := rfl
  have m3 : zs_mk 15 8 = 1085102592571150095 := rfl
  have hs : ∀ (k : Nat) (K : Int32), K = nI k → k < 64 → ∀ n, n < 2 ^ 64 → ((lN n).toUInt64 >>> (K.toInt64.toUInt64 &&& Int64.toUInt64 63)).toInt64 = lN (n / 2 ^ k) := by
    intro k K hK hk n hn
    rw [hK]
    exact wb_shr hn hk
  have hp : zs_pop (lN x) = zs_S8 x 8 := by
    rw [← zs_ct8 8 x]
    exact fb_ct_cong (fun w hw => by
      show (lN x).toBitVec.getLsbD w = _
      rw [wb_tb, BitVec.getLsbD_ofNat, decide_eq_true (show w < 64 from hw), Bool.true_and])
  have hg := (zs_g_all 8 x (by have : (256 : Nat) ^ 8 = 2 ^ 64 := rfl; omega)).2
  have y1 : zs_g1 x (zs_mk 85 8) ≤ x := Nat.sub_le _ _
  have y2 : zs_g2 (zs_g1 x (zs_mk 85 8)) (zs_mk 51 8) ≤ 2 * 3689348814741910323 := by
    have a1 : (zs_g1 x (zs_mk 85 8)) &&& (zs_mk 51 8) ≤ zs_mk 51 8 := Nat.and_le_right
    have a2 : (zs_g1 x (zs_mk 85 8)) / 4 &&& (zs_mk 51 8) ≤ zs_mk 51 8 := Nat.and_le_right
    unfold zs_g2
    omega
  have y3 : zs_D8 x 8 ≤ 1085102592571150095 := by
    rw [← hg]
    have a1 : zs_g3 (zs_g2 (zs_g1 x (zs_mk 85 8)) (zs_mk 51 8)) (zs_mk 15 8) ≤ zs_mk 15 8 := Nat.and_le_right
    omega
  have s1 : lN x - (((lN x).toUInt64 >>> ((1 : Int32).toInt64.toUInt64 &&& Int64.toUInt64 63)).toInt64 &&& (6148914691236517205 : Int64)) = lN (zs_g1 x (zs_mk 85 8)) := by
    rw [hs 1 1 rfl (by omega) x hx, l1, fb_andL, lN_sub (Nat.le_trans Nat.and_le_left (Nat.div_le_self _ _))]
    rfl
  unfold zf_J13_bitCount_95d88
  rw [s1, hp, ← zs_fold x]
  generalize zs_g1 x (zs_mk 85 8) = g1 at *
  have s2 : (lN g1 &&& (3689348814741910323 : Int64)) + (((lN g1).toUInt64 >>> ((2 : Int32).toInt64.toUInt64 &&& Int64.toUInt64 63)).toInt64 &&& (3689348814741910323 : Int64)) = lN (zs_g2 g1 (zs_mk 51 8)) := by
    rw [hs 2 2 rfl (by omega) g1 (by omega), l2, fb_andL, fb_andL, lN_add]
    rfl
  rw [zs_zl]
  rw [s2]
  generalize zs_g2 g1 (zs_mk 51 8) = g2 at *
  have s3 : ((lN g2) + (((lN g2).toUInt64 >>> ((4 : Int32).toInt64.toUInt64 &&& Int64.toUInt64 63)).toInt64)) &&& (1085102592571150095 : Int64) = lN (zs_D8 x 8) := by
    rw [hs 4 4 rfl (by omega) g2 (by omega), l3, lN_add, fb_andL, ← hg]
    rfl
  rw [zs_zl]
  rw [s3]
  generalize zs_D8 x 8 = a at *
  rw [zs_zl]
  rw [hs 8 8 rfl (by omega) a (by omega), lN_add, show (2 : Nat) ^ 8 = 256 from rfl]
  generalize hb : a + a / 256 = b
  rw [zs_zl]
  rw [hs 16 16 rfl (by omega) b (by omega), lN_add, show (2 : Nat) ^ 16 = 65536 from rfl]
  generalize hc : b + b / 65536 = c
  rw [zs_zl]
  rw [hs 32 32 rfl (by omega) c (by omega), lN_add, show (2 : Nat) ^ 32 = 4294967296 from rfl]
  rw [zs_zl]
  rw [lN_i, show (127 : Int32) = nI (2 ^ 7 - 1) from rfl, fa_mask]
