/-! the reference's TOKENS -/
theorem zt_sx1 : ∀ b, b < 256 → (b < 128 → (nI b).toInt8.toInt32 = nI b) ∧ (128 ≤ b → (nI b).toInt8.toInt32.toInt < 0) := by decide +kernel
theorem zt_sx {b c : Nat} (hb : b < 256) (hc : c < 128) : (nI b).toInt8.toInt32 = nI c ↔ b = c := by
  have h := zt_sx1 b hb
  constructor
  · intro q
    rcases Nat.lt_or_ge b 128 with z | z
    · rw [h.1 z] at q
      exact (nI_eq (by omega) (by omega)).mp q
    · have := h.2 z
      rw [q, nI_toInt (by omega)] at this
      omega
  · intro q
    subst q
    exact h.1 hc
theorem zt_lowIn : ∀ b, b < 256 → zf_X5_in ((nI b).toInt8.toInt32).toInt64 (97 : Int64) (122 : Int64) = some (zs_o (decide (97 ≤ b) && decide (b ≤ 122))) := by decide +kernel
theorem zt_sign5 : ∀ b, b < 256 → (zf_X5_in ((nI b).toInt8.toInt32).toInt64 (48 : Int64) (57 : Int64)).bind (fun v10 => (if v10 = 0 then (if (nI b).toInt8.toInt32 = (59 : Int32) then some (1 : Int32) else if (nI b).toInt8.toInt32 = (124 : Int32) then some (1 : Int32) else if (nI b).toInt8.toInt32 = (38 : Int32) then some (1 : Int32) else if (nI b).toInt8.toInt32 = (33 : Int32) then some (1 : Int32) else if (nI b).toInt8.toInt32 = (40 : Int32) then some (1 : Int32) else if (nI b).toInt8.toInt32 = (41 : Int32) then some (1 : Int32) else some (0 : Int32)) else some (1 : Int32)).bind (fun v11 => if v11 = 0 then some (1 : Int32) else some (nI b).toInt8.toInt32)) = some (zt_r (if zt_sg b then b else 259)) := by decide +kernel
theorem zt_b3 {α β γ δ : Type} {X : Option α} {Y : α → Option β} {Z : β → Option γ} {W : γ → Option δ} {r : γ} (h : X.bind (fun a => (Y a).bind (fun b => Z b)) = some r) : X.bind (fun a => (Y a).bind (fun b => (Z b).bind W)) = W r := by
  obtain ⟨a, h1, h2⟩ := zk_ob h
  obtain ⟨b, h3, h4⟩ := zk_ob h2
  rw [h1, Option.bind_some, h3, Option.bind_some, h4, Option.bind_some]
theorem zt_isLow {b : Nat → Nat} {n j : Nat} {mt : Nat → Int32} (hn : n ≤ 300) (hb : ∀ j, j < n → b j < 256 ∧ mt j = (nI (b j)).toInt8.toInt32) (hj : j < 2 ^ 20) : zf_X5_isLow (nI j) (nI n) mt = some (zs_o (zt_low b n j)) := by
  unfold zf_X5_isLow zt_low
  by_cases h : j < n
  · obtain ⟨h1, h2⟩ := hb j h
    rw [if_neg (nI_ge h (by omega)), zs_zin (n := j) (by omega) (by omega), nI_clamp (by omega), h2, decide_eq_true h, Bool.true_and, zk_gd_t, zt_lowIn _ h1, Option.bind_some]
    cases (decide (97 ≤ b j) && decide (b j ≤ 122)) with
    | true => rfl
    | false => rfl
  · rw [if_pos (nI_le (by omega) (by omega)), decide_eq_false h]
    rfl
theorem zt_loop8 {b : Nat → Nat} {n e : Nat} {mt : Nat → Int32} (hn : n ≤ 300) (hb : ∀ j, j < n → b j < 256 ∧ mt j = (nI (b j)).toInt8.toInt32) : ∀ g p fuel, n - p ≤ g → g < fuel → e ≤ p → p ≤ n → (∀ j, e ≤ j → j < p → b j = 32) → zl_X5_token_8 (nI n) mt fuel (nI p) = some (nI (zt_nx b n e)) := by
  intro g
  induction g with
  | zero =>
    intro p fuel h1 h2 h3 h4 h5
    obtain ⟨f, rfl⟩ : ∃ f, fuel = f + 1 := ⟨fuel - 1, by omega⟩
    rw [zl_X5_token_8, if_pos (nI_le (by omega) (by omega)), zt_nxU h3 h4 h5 (fun q => by omega)]
  | succ g ih =>
    intro p fuel h1 h2 h3 h4 h5
    obtain ⟨f, rfl⟩ : ∃ f, fuel = f + 1 := ⟨fuel - 1, by omega⟩
    rw [zl_X5_token_8]
    by_cases q : n ≤ p
    · rw [if_pos (nI_le q (by omega)), zt_nxU h3 h4 h5 (fun q => by omega)]
    · obtain ⟨b1, b2⟩ := hb p (by omega)
      rw [if_neg (nI_ge (by omega) (by omega)), zs_zin (n := p) (by omega) (by omega), nI_clamp (by omega), b2, zk_gd_t]
      by_cases z : b p = 32
      · rw [if_pos (show (nI (b p)).toInt8.toInt32 = (32 : Int32) from (zt_sx b1 (c := 32) (by decide)).mpr z)]
        show zl_X5_token_8 (nI n) mt f (nI p + 1) = _
        rw [nI_1]
        refine ih (p + 1) f (by omega) (by omega) (by omega) (by omega) (fun j j1 j2 => ?_)
        by_cases ee : j = p
        · rw [ee]; exact z
        · exact h5 j j1 (by omega)
      · rw [if_neg (show ¬ (nI (b p)).toInt8.toInt32 = (32 : Int32) from fun y => z ((zt_sx b1 (c := 32) (by decide)).mp y)), zt_nxU h3 h4 h5 (fun _ => z)]
theorem zt_loop92 {b : Nat → Nat} {n p : Nat} {mt : Nat → Int32} (hn : n ≤ 300) (hb : ∀ j, j < n → b j < 256 ∧ mt j = (nI (b j)).toInt8.toInt32) : ∀ g q fuel, n - q ≤ g → g < fuel → p ≤ q → q ≤ n → (∀ j, p ≤ j → j < q → zt_low b n j = true) → zl_X5_token_92 (nI n) mt fuel (nI q) = some (nI (zt_we b n p)) := by
  intro g
  induction g with
  | zero =>
    intro q fuel h1 h2 h3 h4 h5
    obtain ⟨f, rfl⟩ : ∃ f, fuel = f + 1 := ⟨fuel - 1, by omega⟩
    have hl : zt_low b n q = false := by
      cases z : zt_low b n q with
      | false => rfl
      | true => have := zt_low_lt z; omega
    rw [zl_X5_token_92, zt_isLow hn hb (by omega), Option.bind_some, hl, if_pos (show zs_o false = 0 from rfl), zt_weU h3 h4 h5 hl]
  | succ g ih =>
    intro q fuel h1 h2 h3 h4 h5
    obtain ⟨f, rfl⟩ : ∃ f, fuel = f + 1 := ⟨fuel - 1, by omega⟩
    rw [zl_X5_token_92, zt_isLow hn hb (by omega), Option.bind_some]
    cases hl : zt_low b n q with
    | false => rw [if_pos (show zs_o false = 0 from rfl), zt_weU h3 h4 h5 hl]
    | true =>
      rw [if_neg (show ¬ zs_o true = 0 by decide)]
      have hq := zt_low_lt hl
      show zl_X5_token_92 (nI n) mt f (nI q + 1) = _
      rw [nI_1]
      refine ih (q + 1) f (by omega) (by omega) (by omega) (by omega) (fun j j1 j2 => ?_)
      by_cases ee : j = q
      · rw [ee]; exact hl
      · exact h5 j j1 (by omega)
theorem zt_isWord {b : Nat → Nat} {n p q : Nat} {mt : Nat → Int32} (hn : n ≤ 300) (hb : ∀ j, j < n → b j < 256 ∧ mt j = (nI (b j)).toInt8.toInt32) (hpq : p ≤ q) (hq : q ≤ n) {a1 a2 a3 : Nat} (c1 : a1 < 128) (c2 : a2 < 128) (c3 : a3 < 128) : zf_X5_isWord (nI a1) (nI a2) (nI a3) (nI p) (nI q) mt = some (if q - p = 3 ∧ b p = a1 ∧ b (p + 1) = a2 ∧ b (p + 2) = a3 then 1 else 0) := by
  unfold zf_X5_isWord
  rw [pk_sub hpq]
  by_cases h3 : q - p = 3
  · obtain ⟨x1, x2⟩ := hb p (by omega)
    obtain ⟨y1, y2⟩ := hb (p + 1) (by omega)
    obtain ⟨z1, z2⟩ := hb (p + 2) (by omega)
    have e1 : nI p + (1 : Int32) = nI (p + 1) := nI_add p 1
    have e2 : nI p + (2 : Int32) = nI (p + 2) := nI_add p 2
    rw [if_pos (show nI (q - p) = (3 : Int32) by rw [h3]; rfl), e1, e2, zs_zin (n := p) (by omega) (by omega), zs_zin (n := p + 1) (by omega) (by omega), zs_zin (n := p + 2) (by omega) (by omega), nI_clamp (n := p) (by omega), nI_clamp (n := p + 1) (by omega), nI_clamp (n := p + 2) (by omega), x2, y2, z2, zk_gd_t]
    by_cases k1 : b p = a1
    · rw [if_pos ((zt_sx x1 c1).mpr k1), zk_gd_t]
      by_cases k2 : b (p + 1) = a2
      · rw [if_pos ((zt_sx y1 c2).mpr k2), zk_gd_t]
        by_cases k3 : b (p + 2) = a3
        · rw [if_pos ((zt_sx z1 c3).mpr k3), if_pos (show q - p = 3 ∧ b p = a1 ∧ b (p + 1) = a2 ∧ b (p + 2) = a3 from ⟨h3, k1, k2, k3⟩)]
        · rw [if_neg (fun y => k3 ((zt_sx z1 c3).mp y)), if_neg (show ¬ (q - p = 3 ∧ b p = a1 ∧ b (p + 1) = a2 ∧ b (p + 2) = a3) from fun y => k3 y.2.2.2)]
      · rw [if_neg (fun y => k2 ((zt_sx y1 c2).mp y)), if_neg (show ¬ (q - p = 3 ∧ b p = a1 ∧ b (p + 1) = a2 ∧ b (p + 2) = a3) from fun y => k2 y.2.2.1)]
    · rw [if_neg (fun y => k1 ((zt_sx x1 c1).mp y)), if_neg (show ¬ (q - p = 3 ∧ b p = a1 ∧ b (p + 1) = a2 ∧ b (p + 2) = a3) from fun y => k1 y.2.1)]
  · rw [if_neg (show ¬ nI (q - p) = (3 : Int32) from fun z => h3 ((nI_eq (b := 3) (by omega) (by decide)).mp z)), if_neg (show ¬ (q - p = 3 ∧ b p = a1 ∧ b (p + 1) = a2 ∧ b (p + 2) = a3) from fun y => h3 y.1)]
theorem zt_token {b : Nat → Nat} {n e : Nat} {mt : Nat → Int32} (hn : n ≤ 300) (hb : ∀ j, j < n → b j < 256 ∧ mt j = (nI (b j)).toInt8.toInt32) (he : e ≤ n) : zf_X5_token (nI n) (nI e) mt = some (nI (zt_nx b n e), nI (zt_en b n (zt_nx b n e)), zt_r (zt_tc b n (zt_nx b n e))) := by
  unfold zf_X5_token
  rw [zt_loop8 (e := e) hn hb (n - e) e zk_F (Nat.le_refl _) (by rw [zs_F]; omega) (Nat.le_refl e) he (fun j j1 j2 => by omega), Option.bind_some]
  obtain ⟨p1, p2⟩ := zt_nx_1 (b := b) he
  generalize zt_nx b n e = p at *
  by_cases h : p = n
  · rw [if_pos (by rw [h]), h]
    unfold zt_en zt_tc
    rw [if_pos (Nat.le_refl n), if_pos (Nat.le_refl n)]
    rfl
  · obtain ⟨b1, b2⟩ := hb p (by omega)
    rw [if_neg (fun z => h ((nI_eq (by omega) (by omega)).mp z)), zs_zin (n := p) (by omega) (by omega), nI_clamp (by omega), b2, zk_gd_t]
    show (zf_X5_isLow (nI p) (nI n) mt).bind _ = _
    rw [zt_isLow hn hb (by omega), Option.bind_some]
    unfold zt_en zt_tc
    rw [if_neg (show ¬ n ≤ p by omega), if_neg (show ¬ n ≤ p by omega)]
    cases hl : zt_low b n p with
    | false =>
      rw [if_pos (show zs_o false = 0 from rfl), if_neg (show ¬ false = true by decide), if_neg (show ¬ false = true by decide)]
      refine (zt_b3 (zt_sign5 (b p) b1)).trans ?_
      show some (nI p, nI p + 1, _) = _
      rw [nI_1]
    | true =>
      rw [if_neg (show ¬ zs_o true = 0 by decide), if_pos rfl, if_pos rfl]
      have w1 := zt_we_1 (b := b) (n := n) (p := p) p2
      rw [zt_loop92 (p := p) hn hb (n - p) p zk_F (Nat.le_refl _) (by rw [zs_F]; omega) (Nat.le_refl p) p2 (fun j j1 j2 => by omega), Option.bind_some]
      have i1 : zf_X5_isWord (108 : Int32) (97 : Int32) (119 : Int32) (nI p) (nI (zt_we b n p)) mt = _ := zt_isWord hn hb w1.1 w1.2 (a1 := 108) (a2 := 97) (a3 := 119) (by decide) (by decide) (by decide)
      have i2 : zf_X5_isWord (115 : Int32) (97 : Int32) (121 : Int32) (nI p) (nI (zt_we b n p)) mt = _ := zt_isWord hn hb w1.1 w1.2 (a1 := 115) (a2 := 97) (a3 := 121) (by decide) (by decide) (by decide)
      rw [i1, i2, Option.bind_some]
      have l1 : 97 ≤ b p ∧ b p ≤ 122 := by
        unfold zt_low at hl
        simp at hl
        omega
      rw [pk_sub w1.1]
      unfold zt_wd
      have hs300 : zt_we b n p - p ≤ 300 := by omega
      generalize zt_we b n p - p = s at *
      by_cases k1 : s = 3 ∧ b p = 108 ∧ b (p + 1) = 97 ∧ b (p + 2) = 119
      · rw [if_pos k1, if_neg (show ¬ (1 : Int32) = 0 by decide), if_neg (show ¬ s = 1 by omega), if_pos (show s = 3 ∧ b (p + 1) = 97 ∧ b p = 108 ∧ b (p + 2) = 119 from ⟨k1.1, k1.2.2.1, k1.2.1, k1.2.2.2⟩)]
        rfl
      · rw [if_neg k1, if_pos rfl, Option.bind_some]
        by_cases k2 : s = 3 ∧ b p = 115 ∧ b (p + 1) = 97 ∧ b (p + 2) = 121
        · rw [if_pos k2, if_neg (show ¬ (1 : Int32) = 0 by decide), if_neg (show ¬ s = 1 by omega), if_neg (show ¬ (s = 3 ∧ b (p + 1) = 97 ∧ b p = 108 ∧ b (p + 2) = 119) from fun z => k1 ⟨z.1, z.2.2.1, z.2.1, z.2.2.2⟩), if_pos (show s = 3 ∧ b (p + 1) = 97 ∧ b p = 115 ∧ b (p + 2) = 121 from ⟨k2.1, k2.2.2.1, k2.2.1, k2.2.2.2⟩)]
          rfl
        · rw [if_neg k2, if_pos rfl]
          by_cases s1 : s = 1
          · rw [if_pos (show nI s = (1 : Int32) by rw [s1]; rfl), if_pos s1]
            have eb := (zt_sx1 (b p) b1).1 (by omega)
            rw [eb]
            by_cases q : b p ≤ 102
            · rw [if_neg (show ¬ (102 : Int32) < nI (b p) from nI_nlt (a := 102) q (by decide)), if_pos q]
              unfold zt_r
              rw [if_neg (by omega), if_neg (by omega), if_neg (by omega), if_neg (by omega)]
            · rw [if_pos (show (102 : Int32) < nI (b p) from nI_lt (a := 102) (by omega) (by omega)), if_neg q]
              rfl
          · rw [if_neg (show ¬ nI s = (1 : Int32) from fun z => s1 ((nI_eq (b := 1) (by omega) (by decide)).mp z)), if_neg s1, if_neg (show ¬ (s = 3 ∧ b (p + 1) = 97 ∧ b p = 108 ∧ b (p + 2) = 119) from fun z => k1 ⟨z.1, z.2.2.1, z.2.1, z.2.2.2⟩), if_neg (show ¬ (s = 3 ∧ b (p + 1) = 97 ∧ b p = 115 ∧ b (p + 2) = 121) from fun z => k2 ⟨z.1, z.2.2.1, z.2.1, z.2.2.2⟩)]
            rfl
/-- what class and reference make of one text -/
def zt_St (n : Nat) (mt tk pl : Nat → Int32) (P Q tc : Nat → Nat) (m : Nat) : Prop := m ≤ 300 ∧ zf_X5_token (nI n) (0 : Int32) mt = some (nI (P 0), nI (Q 0), zt_r (tc 0)) ∧ (∀ k, zf_X5_token (nI n) (nI (Q k)) mt = some (nI (P (k + 1)), nI (Q (k + 1)), zt_r (tc (k + 1)))) ∧ (∀ k, k ≤ m → tk k = nI (tc k) ∧ pl k = nI (P k)) ∧ tc m = 258 ∧ (∀ k, k < m → ¬ tc k = 258) ∧ (∀ k, tc k < 260 ∧ zt_v (tc k) = true) ∧ ∀ k, P k ≤ 300
theorem zt_both {n : Nat} {bs mt : Nat → Int32} (hn : n ≤ 300) (hb : ∀ j, j < n → ∃ b, b < 256 ∧ bs j = nI b ∧ mt j = (nI b).toInt8.toInt32) (tk0 pl0 : Nat → Int32) : ∃ tk pl P Q tc m, zf_X2_findTokens (nI n) bs tk0 pl0 = some (tk, pl) ∧ zt_St n mt tk pl P Q tc m := by
  have hb2 : ∀ j, ∃ b, j < n → b < 256 ∧ bs j = nI b ∧ mt j = (nI b).toInt8.toInt32 := by
    intro j
    by_cases q : j < n
    · obtain ⟨b, h⟩ := hb j q
      exact ⟨b, fun _ => h⟩
    · exact ⟨0, fun z => absurd z q⟩
  obtain ⟨b, hb3⟩ : ∃ b : Nat → Nat, ∀ j, j < n → b j < 256 ∧ bs j = nI (b j) ∧ mt j = (nI (b j)).toInt8.toInt32 := ⟨fun j => (hb2 j).choose, fun j => (hb2 j).choose_spec⟩
  have c1 : ∀ j, j < n → b j < 256 ∧ bs j = nI (b j) := fun j hj => ⟨(hb3 j hj).1, (hb3 j hj).2.1⟩
  have c2 : ∀ j, j < n → b j < 256 ∧ mt j = (nI (b j)).toInt8.toInt32 := fun j hj => ⟨(hb3 j hj).1, (hb3 j hj).2.2⟩
  obtain ⟨tk, pl, m, h1, h2, h3, h4, h5⟩ := zt_find hn c1 tk0 pl0
  refine ⟨tk, pl, zt_P b n, fun k => zt_en b n (zt_P b n k), fun k => zt_tc b n (zt_P b n k), m, h1, by omega, zt_token (e := 0) hn c2 (Nat.zero_le n), fun k => zt_token hn c2 (zt_en_1 (zt_P_le k)).2.1, h3, ?_, fun k hk => zt_tc_ne (h5 k hk) (c1 _ (h5 k hk)).1, fun k => zt_tc_v, fun k => ?_⟩
  · show zt_tc b n (zt_P b n m) = 258
    unfold zt_tc
    rw [if_pos (by omega)]
  · have := zt_P_le (b := b) (n := n) k
    omega
