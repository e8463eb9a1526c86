/-! the class's TOKENS -/
theorem zt_isSmall {b : Nat → Nat} {n j : Nat} {bs : Nat → Int32} (hn : n ≤ 300) (hb : ∀ j, j < n → b j < 256 ∧ bs j = nI (b j)) (hj : j < 2 ^ 20) : zf_X2_isSmall (nI j) (nI n) bs = some (zs_o (zt_low b n j)) := by
  unfold zf_X2_isSmall zt_low
  rw [if_neg (nI_pos (by omega))]
  by_cases h : j < n
  · obtain ⟨h1, h2⟩ := hb j h
    rw [if_neg (nI_ge h (by omega)), zs_zin (n := j) (by omega) (by omega), nI_clamp (by omega), h2, decide_eq_true h, Bool.true_and, zk_gd_t]
    by_cases q1 : b j < 97
    · rw [if_pos (show nI (b j) < (97 : Int32) from nI_lt (b := 97) q1 (by decide)), decide_eq_false (by omega)]
      rfl
    · rw [if_neg (show ¬ nI (b j) < (97 : Int32) from nI_nlt (b := 97) (by omega) (by omega)), decide_eq_true (by omega), Bool.true_and]
      by_cases q2 : 122 < b j
      · rw [if_pos (show (122 : Int32) < nI (b j) from nI_lt (a := 122) q2 (by omega)), decide_eq_false (by omega)]
        rfl
      · rw [if_neg (show ¬ (122 : Int32) < nI (b j) from nI_nlt (a := 122) (by omega) (by decide)), decide_eq_true (by omega)]
        rfl
  · rw [if_pos (nI_le (by omega) (by omega)), decide_eq_false h]
    rfl
theorem zt_isSmall_m {n : Nat} {bs : Nat → Int32} : zf_X2_isSmall (nI 0 - 1) (nI n) bs = some 0 := by
  unfold zf_X2_isSmall
  rw [if_pos (by decide)]
theorem zt_isSign : ∀ c, c < 256 → zf_X2_isSign (nI c) = some (zs_o (zt_sg c)) := by decide +kernel
theorem zt_isLetter : ∀ c, c < 260 → zf_X4_isLetter (nI c) = some (zs_o (decide (97 ≤ c) && decide (c ≤ 102))) := by decide +kernel
theorem zt_begins {b : Nat → Nat} {n j : Nat} {bs : Nat → Int32} (hn : n ≤ 300) (hb : ∀ j, j < n → b j < 256 ∧ bs j = nI (b j)) (hj : j < n) : zf_X2_beginsToken (nI j) (nI n) bs = some (zs_o (zt_beg b n j)) := by
  unfold zf_X2_beginsToken zt_beg
  rw [zt_isSmall hn hb (by omega), Option.bind_some]
  cases hl : zt_low b n j with
  | false =>
    rw [if_pos (show zs_o false = 0 from rfl), zs_zin (n := j) (by omega) (by omega), nI_clamp (by omega), (hb j hj).2, zk_gd_t, if_neg (show ¬ false = true by decide)]
    by_cases q : b j = 32
    · rw [if_pos (show nI (b j) = (32 : Int32) by rw [q]; rfl), decide_eq_true q]
      rfl
    · rw [if_neg (show ¬ nI (b j) = (32 : Int32) from fun z => q ((nI_eq (b := 32) (by have := (hb j hj).1; omega) (by decide)).mp z)), decide_eq_false q]
      rfl
  | true =>
    rw [if_neg (show ¬ zs_o true = 0 by decide), if_pos rfl]
    by_cases e : j = 0
    · subst e
      rw [zt_isSmall_m, Option.bind_some, if_pos rfl]
      rfl
    · obtain ⟨i, rfl⟩ : ∃ i, j = i + 1 := ⟨j - 1, by omega⟩
      rw [nI_pred, zt_isSmall hn hb (by omega), Option.bind_some, decide_eq_false (by omega), Bool.false_or, Nat.add_sub_cancel]
      cases zt_low b n i with
      | false => rfl
      | true => rfl
theorem zt_wordLoop {b : Nat → Nat} {n p : Nat} {bs : Nat → Int32} (hn : n ≤ 300) (hb : ∀ j, j < n → b j < 256 ∧ bs j = nI (b j)) (hp : p < n) : ∀ g s fuel, n - (p + s) ≤ g → g < fuel → p + s ≤ n → (∀ j, p ≤ j → j < p + s → zt_low b n j = true) → zl_X2_wordAt_2 (nI p) (nI n) bs fuel (nI s) = some (nI (zt_we b n p - p)) := by
  intro g
  induction g with
  | zero =>
    intro s fuel h1 h2 h3 h4
    obtain ⟨f, rfl⟩ : ∃ f, fuel = f + 1 := ⟨fuel - 1, by omega⟩
    have e : p + s = n := by omega
    have hw : zt_we b n p = p + s := zt_weU (by omega) h3 h4 (by
      cases q : zt_low b n (p + s) with
      | false => rfl
      | true => have := zt_low_lt q; omega)
    rw [zl_X2_wordAt_2, nI_add, if_pos (nI_le (by omega) (by omega)), hw, Nat.add_sub_cancel_left]
  | succ g ih =>
    intro s fuel h1 h2 h3 h4
    obtain ⟨f, rfl⟩ : ∃ f, fuel = f + 1 := ⟨fuel - 1, by omega⟩
    rw [zl_X2_wordAt_2, nI_add]
    by_cases e : n ≤ p + s
    · have hw : zt_we b n p = p + s := zt_weU (by omega) h3 h4 (by
        cases q : zt_low b n (p + s) with
        | false => rfl
        | true => have := zt_low_lt q; omega)
      rw [if_pos (nI_le e (by omega)), hw, Nat.add_sub_cancel_left]
    · rw [if_neg (nI_ge (by omega) (by omega)), zt_isSmall hn hb (by omega), Option.bind_some]
      cases q : zt_low b n (p + s) with
      | false =>
        have hw : zt_we b n p = p + s := zt_weU (by omega) h3 h4 q
        rw [if_pos (show zs_o false = 0 from rfl), hw, Nat.add_sub_cancel_left]
      | true =>
        rw [if_neg (show ¬ zs_o true = 0 by decide)]
        show zl_X2_wordAt_2 (nI p) (nI n) bs f (nI s + 1) = _
        rw [nI_1]
        refine ih (s + 1) f (by omega) (by omega) (by omega) (fun j j1 j2 => ?_)
        by_cases ee : j = p + s
        · rw [ee]; exact q
        · exact h4 j j1 (by omega)
theorem zt_nIne {b c : Nat} (hb : b < 260) (hc : c < 260) (h : ¬ b = c) : ¬ nI b = nI c := fun q => h ((nI_eq (by omega) (by omega)).mp q)
theorem zt_wordAt {b : Nat → Nat} {n p : Nat} {bs : Nat → Int32} (hn : n ≤ 300) (hb : ∀ j, j < n → b j < 256 ∧ bs j = nI (b j)) (hl : zt_low b n p = true) : zf_X2_wordAt (nI p) (nI n) bs = some (nI (zt_wd b p (zt_we b n p - p))) := by
  have hp := zt_low_lt hl
  have w1 := zt_we_1 (b := b) (n := n) (p := p) (by omega)
  have w2 := zt_we_gt hl
  have hw := zt_wordLoop hn hb hp (n - (p + 1)) 1 zk_F (Nat.le_refl _) (by rw [zs_F]; omega) (by omega) (fun j j1 j2 => by rw [show j = p by omega]; exact hl)
  have hw' : zl_X2_wordAt_2 (nI p) (nI n) bs zk_F (1 : Int32) = some (nI (zt_we b n p - p)) := hw
  unfold zf_X2_wordAt
  rw [hw', Option.bind_some]
  generalize hs : zt_we b n p - p = s
  obtain ⟨b1, b2⟩ := hb p hp
  have l1 : 97 ≤ b p := by
    unfold zt_low at hl
    simp at hl
    omega
  unfold zt_wd
  by_cases s1 : s = 1
  · rw [if_pos (show nI s = (1 : Int32) by rw [s1]; rfl), if_pos s1, zs_zin (n := p) (by omega) (by omega), nI_clamp (by omega), b2, zk_gd_t, zt_isLetter _ (by omega), Option.bind_some, decide_eq_true l1, Bool.true_and]
    by_cases s2 : b p ≤ 102
    · rw [decide_eq_true s2, if_neg (show ¬ zs_o true = 0 by decide), if_pos s2]
    · rw [decide_eq_false s2, if_pos (show zs_o false = 0 from rfl), if_neg s2]
      rfl
  · rw [if_neg (show ¬ nI s = (1 : Int32) from fun q => s1 ((nI_eq (b := 1) (by omega) (by decide)).mp q)), if_neg s1]
    by_cases s3 : s = 3
    · obtain ⟨c1, c2⟩ := hb (p + 1) (by omega)
      obtain ⟨d1, d2⟩ := hb (p + 2) (by omega)
      have e1 : nI p + (1 : Int32) = nI (p + 1) := nI_add p 1
      have e2 : nI p + (2 : Int32) = nI (p + 2) := nI_add p 2
      rw [if_pos (show nI s = (3 : Int32) by rw [s3]; rfl), e1, e2, zs_zin (n := p + 1) (by omega) (by omega), nI_clamp (n := p + 1) (by omega), nI_clamp (n := p + 2) (by omega), nI_clamp (n := p) (by omega), b2, c2, d2, zk_gd_t, zs_zin (n := p) (by omega) (by omega), zs_zin (n := p + 2) (by omega) (by omega)]
      by_cases q1 : b (p + 1) = 97
      · rw [if_pos (show nI (b (p + 1)) = (97 : Int32) by rw [q1]; rfl), zk_gd_t]
        by_cases q2 : b p = 108
        · rw [if_pos (show nI (b p) = (108 : Int32) by rw [q2]; rfl), zk_gd_t]
          by_cases q3 : b (p + 2) = 119
          · rw [if_pos (show nI (b (p + 2)) = (119 : Int32) by rw [q3]; rfl), if_pos (show s = 3 ∧ b (p + 1) = 97 ∧ b p = 108 ∧ b (p + 2) = 119 from ⟨s3, q1, q2, q3⟩)]
            rfl
          · rw [if_neg (show ¬ nI (b (p + 2)) = (119 : Int32) from zt_nIne (by omega) (by decide) q3), if_neg (show ¬ (s = 3 ∧ b (p + 1) = 97 ∧ b p = 108 ∧ b (p + 2) = 119) from fun z => q3 z.2.2.2), if_neg (show ¬ (s = 3 ∧ b (p + 1) = 97 ∧ b p = 115 ∧ b (p + 2) = 121) from fun z => by have := z.2.2.1; omega)]
            show (if nI (b p) = (115 : Int32) then _ else _) = _
            rw [if_neg (show ¬ nI (b p) = (115 : Int32) from zt_nIne (c := 115) (by omega) (by decide) (by omega))]
            rfl
        · rw [if_neg (show ¬ nI (b p) = (108 : Int32) from zt_nIne (by omega) (by decide) q2), if_neg (show ¬ (s = 3 ∧ b (p + 1) = 97 ∧ b p = 108 ∧ b (p + 2) = 119) from fun z => q2 z.2.2.1)]
          show (if nI (b p) = (115 : Int32) then _ else _) = _
          by_cases q4 : b p = 115
          · rw [if_pos (show nI (b p) = (115 : Int32) by rw [q4]; rfl), zk_gd_t]
            by_cases q5 : b (p + 2) = 121
            · rw [if_pos (show nI (b (p + 2)) = (121 : Int32) by rw [q5]; rfl), if_pos (show s = 3 ∧ b (p + 1) = 97 ∧ b p = 115 ∧ b (p + 2) = 121 from ⟨s3, q1, q4, q5⟩)]
              rfl
            · rw [if_neg (show ¬ nI (b (p + 2)) = (121 : Int32) from zt_nIne (by omega) (by decide) q5), if_neg (show ¬ (s = 3 ∧ b (p + 1) = 97 ∧ b p = 115 ∧ b (p + 2) = 121) from fun z => q5 z.2.2.2)]
              rfl
          · rw [if_neg (show ¬ nI (b p) = (115 : Int32) from zt_nIne (by omega) (by decide) q4), if_neg (show ¬ (s = 3 ∧ b (p + 1) = 97 ∧ b p = 115 ∧ b (p + 2) = 121) from fun z => q4 z.2.2.1)]
            rfl
      · rw [if_neg (show ¬ nI (b (p + 1)) = (97 : Int32) from zt_nIne (by omega) (by decide) q1), if_neg (show ¬ (s = 3 ∧ b (p + 1) = 97 ∧ b p = 108 ∧ b (p + 2) = 119) from fun z => q1 z.2.1), if_neg (show ¬ (s = 3 ∧ b (p + 1) = 97 ∧ b p = 115 ∧ b (p + 2) = 121) from fun z => q1 z.2.1)]
        rfl
    · rw [if_neg (show ¬ nI s = (3 : Int32) from fun q => s3 ((nI_eq (b := 3) (by omega) (by decide)).mp q)), if_neg (show ¬ (s = 3 ∧ b (p + 1) = 97 ∧ b p = 108 ∧ b (p + 2) = 119) from fun z => s3 z.1), if_neg (show ¬ (s = 3 ∧ b (p + 1) = 97 ∧ b p = 115 ∧ b (p + 2) = 121) from fun z => s3 z.1)]
      rfl
theorem zt_tokenAt {b : Nat → Nat} {n p : Nat} {bs : Nat → Int32} (hn : n ≤ 300) (hb : ∀ j, j < n → b j < 256 ∧ bs j = nI (b j)) (hp : p < n) : zf_X2_tokenAt (nI p) (nI n) bs = some (nI (zt_tc b n p)) := by
  unfold zf_X2_tokenAt zt_tc
  rw [zt_isSmall hn hb (by omega), Option.bind_some, if_neg (show ¬ n ≤ p by omega)]
  cases hl : zt_low b n p with
  | false =>
    rw [if_pos (show zs_o false = 0 from rfl), zs_zin (n := p) (by omega) (by omega), nI_clamp (by omega), (hb p hp).2, zk_gd_t, zt_isSign _ (hb p hp).1, Option.bind_some, if_neg (show ¬ false = true by decide)]
    cases zt_sg (b p) with
    | false => rfl
    | true => rfl
  | true =>
    rw [if_neg (show ¬ zs_o true = 0 by decide), zt_wordAt hn hb hl, if_pos rfl]
    rfl
theorem zt_find {b : Nat → Nat} {n : Nat} {bs : Nat → Int32} (hn : n ≤ 300) (hb : ∀ j, j < n → b j < 256 ∧ bs j = nI (b j)) (tk0 pl0 : Nat → Int32) : ∃ tk pl m, zf_X2_findTokens (nI n) bs tk0 pl0 = some (tk, pl) ∧ m ≤ n ∧ (∀ k, k ≤ m → tk k = nI (zt_tc b n (zt_P b n k)) ∧ pl k = nI (zt_P b n k)) ∧ zt_P b n m = n ∧ ∀ k, k < m → zt_P b n k < n := by
  have h := zs_for (fun f (a : Nat × (Nat → Int32) × (Nat → Int32)) i => zl_X2_findTokens_4 (nI n) bs f (nI a.1) (nI i) a.2.1 a.2.2) n
    (fun i a => i ≤ n ∧ a.1 ≤ i ∧ (∀ k, k < a.1 → a.2.1 k = nI (zt_tc b n (zt_P b n k)) ∧ a.2.2 k = nI (zt_P b n k) ∧ zt_P b n k < i) ∧ i ≤ zt_P b n a.1)
    (fun r => ∃ m, r.1 = nI m ∧ m ≤ n ∧ (∀ k, k < m → r.2.2.1 k = nI (zt_tc b n (zt_P b n k)) ∧ r.2.2.2 k = nI (zt_P b n k) ∧ zt_P b n k < n) ∧ n ≤ zt_P b n m) (by
    intro f a ha
    refine ⟨(nI a.1, nI n, a.2.1, a.2.2), ?_, a.1, rfl, ha.2.1, ha.2.2⟩
    show zl_X2_findTokens_4 (nI n) bs (f + 1) (nI a.1) (nI n) a.2.1 a.2.2 = _
    rw [zl_X2_findTokens_4, if_pos (nI_le (Nat.le_refl n) (by omega))]) (by
    intro f i a hi ha
    right
    obtain ⟨i1, i2, i3, i4⟩ := ha
    have hnb : zt_beg b n i = true → zt_P b n a.1 = i := by
      intro hbeg
      rcases Nat.lt_or_ge i (zt_P b n a.1) with q | q
      · exfalso
        cases e : a.1 with
        | zero =>
          rw [e] at q
          rw [zt_before q] at hbeg
          cases hbeg
        | succ c =>
          rw [e] at q
          have := i3 c (by omega)
          rw [zt_between (k := c) (by omega) this.2.2 q] at hbeg
          cases hbeg
      · omega
    cases hc : zt_beg b n i with
    | false =>
      refine ⟨a, ?_, by omega, by omega, fun k hk => ?_, ?_⟩
      · show zl_X2_findTokens_4 (nI n) bs (f + 1) (nI a.1) (nI i) a.2.1 a.2.2 = zl_X2_findTokens_4 (nI n) bs f (nI a.1) (nI (i + 1)) a.2.1 a.2.2
        rw [zl_X2_findTokens_4, if_neg (nI_ge hi (by omega)), zt_begins hn hb hi, hc, Option.bind_some, if_pos (show zs_o false = 0 from rfl)]
        show zl_X2_findTokens_4 (nI n) bs f (nI a.1) (nI i + 1) a.2.1 a.2.2 = _
        rw [nI_1]
      · have := i3 k hk
        exact ⟨this.1, this.2.1, by omega⟩
      · rcases Nat.lt_or_ge i (zt_P b n a.1) with q | q
        · omega
        · exfalso
          have e : zt_P b n a.1 = i := by omega
          have := zt_isBeg (b := b) (n := n) (k := a.1) (by omega)
          rw [e, hc] at this
          cases this
    | true =>
      have e := hnb hc
      refine ⟨(a.1 + 1, upd a.2.1 a.1 (nI (zt_tc b n i)), upd a.2.2 a.1 (nI i)), ?_, by omega, by show a.1 + 1 ≤ i + 1; omega, fun k hk => ?_, ?_⟩
      · show zl_X2_findTokens_4 (nI n) bs (f + 1) (nI a.1) (nI i) a.2.1 a.2.2 = zl_X2_findTokens_4 (nI n) bs f (nI (a.1 + 1)) (nI (i + 1)) (upd a.2.1 a.1 (nI (zt_tc b n i))) (upd a.2.2 a.1 (nI i))
        rw [zl_X2_findTokens_4, if_neg (nI_ge hi (by omega)), zt_begins hn hb hi, hc, Option.bind_some, if_neg (show ¬ zs_o true = 0 by decide), zt_tokenAt hn hb hi, Option.bind_some, zs_zin (n := a.1) (by omega) (by omega), nI_clamp (by omega)]
        show zl_X2_findTokens_4 (nI n) bs f (nI a.1 + 1) (nI i + 1) _ _ = _
        rw [nI_1, nI_1]
      · show upd a.2.1 a.1 (nI (zt_tc b n i)) k = _ ∧ upd a.2.2 a.1 (nI i) k = _ ∧ _
        by_cases ek : k = a.1
        · rw [ek, pk_us, pk_us, e]
          exact ⟨rfl, rfl, by omega⟩
        · have := i3 k (by have : k < a.1 + 1 := hk; omega)
          rw [pk_un ek, pk_un ek]
          exact ⟨this.1, this.2.1, by omega⟩
      · show i + 1 ≤ zt_P b n (a.1 + 1)
        have := zt_P_gt (b := b) (n := n) (k := a.1) (by omega)
        omega)
  obtain ⟨r, h1, m, h2, h3, h4, h5⟩ := h n 0 (0, tk0, pl0) zk_F (by omega) (by rw [zs_F]; omega) ⟨by omega, Nat.le_refl _, fun k hk => absurd hk (Nat.not_lt_zero _), Nat.zero_le _⟩
  have h1' : zl_X2_findTokens_4 (nI n) bs zk_F (0 : Int32) (0 : Int32) tk0 pl0 = some r := h1
  have hP : zt_P b n m = n := by have := zt_P_le (b := b) (n := n) m; omega
  refine ⟨upd r.2.2.1 m 258, upd r.2.2.2 m (nI n), m, ?_, h3, fun k hk => ?_, hP, fun k hk => (h4 k hk).2.2⟩
  · unfold zf_X2_findTokens
    rw [h1', Option.bind_some, h2, zs_zin (n := m) (by omega) (by omega), nI_clamp (by omega)]
    rfl
  · by_cases ek : k = m
    · rw [ek, pk_us, pk_us, hP]
      refine ⟨?_, rfl⟩
      unfold zt_tc
      rw [if_pos (Nat.le_refl n)]
      rfl
    · have := h4 k (by omega)
      rw [pk_un ek, pk_un ek]
      exact ⟨this.1, this.2.1⟩
