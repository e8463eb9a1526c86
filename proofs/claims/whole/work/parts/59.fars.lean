/-! the class's table of fars -/
theorem zs_least_none {p : Nat → Bool} {f : Nat → Nat} : ∀ n, zs_least p f n = none → ∀ o, o < n → p o = false
  | 0, _, o, h => absurd h (by omega)
  | n + 1, h, o, ho => by
    rw [zs_least] at h
    cases e : zs_least p f n with
    | none =>
      rw [e] at h
      have h' : (if p n then some (f n) else none) = none := h
      by_cases hp : p n = true
      · rw [if_pos hp] at h'; cases h'
      · by_cases eo : o = n
        · rw [eo]; exact ts_nt hp
        · exact zs_least_none n e o (by omega)
    | some q =>
      rw [e] at h
      have h' : (if p n && decide (f n < q) then some (f n) else some q) = none := h
      by_cases hp : (p n && decide (f n < q)) = true
      · rw [if_pos hp] at h'; cases h'
      · rw [if_neg hp] at h'; cases h'
theorem zs_least_some {p : Nat → Bool} {f : Nat → Nat} : ∀ n m, zs_least p f n = some m → (∃ o, o < n ∧ p o = true ∧ f o = m) ∧ ∀ o, o < n → p o = true → m ≤ f o
  | 0, m, h => by cases h
  | n + 1, m, h => by
    rw [zs_least] at h
    cases e : zs_least p f n with
    | none =>
      rw [e] at h
      have h' : (if p n then some (f n) else none) = some m := h
      have hn := zs_least_none n e
      by_cases hp : p n = true
      · rw [if_pos hp] at h'
        cases h'
        refine ⟨⟨n, by omega, hp, rfl⟩, fun o ho hpo => ?_⟩
        by_cases eo : o = n
        · rw [eo]; exact Nat.le_refl _
        · rw [hn o (by omega)] at hpo; cases hpo
      · rw [if_neg hp] at h'; cases h'
    | some q =>
      rw [e] at h
      obtain ⟨⟨o1, a1, a2, a3⟩, a4⟩ := zs_least_some n q e
      have h' : (if p n && decide (f n < q) then some (f n) else some q) = some m := h
      by_cases hp : (p n && decide (f n < q)) = true
      · rw [if_pos hp] at h'
        cases h'
        rw [Bool.and_eq_true, decide_eq_true_eq] at hp
        refine ⟨⟨n, by omega, hp.1, rfl⟩, fun o ho hpo => ?_⟩
        by_cases eo : o = n
        · rw [eo]; exact Nat.le_refl _
        · have := a4 o (by omega) hpo; omega
      · rw [if_neg hp] at h'
        cases h'
        refine ⟨⟨o1, by omega, a2, a3⟩, fun o ho hpo => ?_⟩
        by_cases eo : o = n
        · rw [eo] at hpo ⊢
          rw [hpo, Bool.true_and, decide_eq_true_eq] at hp
          omega
        · exact a4 o (by omega) hpo
/-- what FAR of a world from a set that isn't empty is -/
theorem zs_far_is {al : Bool} {c : Nat → Nat} {s : Int64} {w m o : Nat} (ho : o < 64) (hb : zs_bit s o = true) (he : zs_len al c (w ^^^ o) = m) (hl : ∀ o, o < 64 → zs_bit s o = true → m ≤ zs_len al c (w ^^^ o)) : zs_far al c s w = m := by
  unfold zs_far
  cases e : zs_least (zs_bit s) (fun o => zs_len al c (w ^^^ o)) 64 with
  | none => have := zs_least_none 64 e o ho; rw [hb] at this; cases this
  | some q =>
    obtain ⟨⟨o1, a1, a2, a3⟩, a4⟩ := zs_least_some 64 q e
    have h1 := a4 o ho hb
    have h2 := hl o1 a1 a2
    show q = m
    have a3' : zs_len al c (w ^^^ o1) = q := a3
    have h1' : q ≤ zs_len al c (w ^^^ o) := h1
    omega
theorem zs_far_0 {al : Bool} {c : Nat → Nat} {s : Int64} {w : Nat} (h : ∀ o, o < 64 → zs_bit s o = false) : zs_far al c s w = 0 := by
  unfold zs_far
  cases e : zs_least (zs_bit s) (fun o => zs_len al c (w ^^^ o)) 64 with
  | none => rfl
  | some q =>
    obtain ⟨⟨o1, a1, a2, a3⟩, a4⟩ := zs_least_some 64 q e
    rw [h o1 a1] at a2; cases a2
theorem zs_fill (v : Int64) (f : Nat → Int64) : ∃ g, zf_J7_fill_d0a16 v 64 f = some g ∧ ∀ w, w < 64 → g w = v := by
  have h := zs_for (fun n (a : Nat → Int64) i => zl_J7_fill_d0a16_6 v 64 (nI 64) n (nI i) a) 64 (fun i a => i ≤ 64 ∧ ∀ x, x < i → a x = v) (fun r => ∀ x, x < 64 → r.2 x = v) (by
    intro n a ha
    refine ⟨(nI 64, a), ?_, ha.2⟩
    show zl_J7_fill_d0a16_6 v 64 (nI 64) (n + 1) (nI 64) a = _
    rw [zl_J7_fill_d0a16_6, if_pos (nI_le (Nat.le_refl _) (by decide))]) (by
    intro n i a hi ha
    right
    refine ⟨vp_updL a i v, ?_, by omega, fun x hx => ?_⟩
    · show zl_J7_fill_d0a16_6 v 64 (nI 64) (n + 1) (nI i) a = zl_J7_fill_d0a16_6 v 64 (nI 64) n (nI (i + 1)) _
      rw [zl_J7_fill_d0a16_6, if_neg (nI_ge hi (by decide)), zs_zin hi (by omega)]
      show zl_J7_fill_d0a16_6 v 64 (nI 64) n (nI i + 1) (vp_updL a (nI i).toNatClampNeg v) = _
      rw [nI_1, nI_clamp (by omega)]
    · by_cases e : x = i
      · subst e; rw [pk_uLs]
      · rw [pk_uLn e]; exact ha.2 x (by omega))
  obtain ⟨r, h1, h2⟩ := h 64 0 f zk_F (by omega) (by rw [zs_F]; omega) ⟨by omega, fun x hx => absurd hx (by omega)⟩
  refine ⟨r.2, ?_, h2⟩
  unfold zf_J7_fill_d0a16
  show (zl_J7_fill_d0a16_6 v 64 (nI 64) zk_F (nI 0) f).bind (fun v7 => some v7.2) = some r.2
  have h1' : zl_J7_fill_d0a16_6 v 64 (nI 64) zk_F (nI 0) f = some r := h1
  rw [h1']
  rfl
theorem zs_marks (s v : Int64) (f : Nat → Int64) : ∃ r, zl_X0_findFars_31 s 64 v zk_F (0 : Int32) f = some r ∧ ∀ w, w < 64 → r.2 w = if zs_bit s w then 0 else v := by
  have h := zs_for (fun n (a : Nat → Int64) i => zl_X0_findFars_31 s 64 v n (nI i) a) 64 (fun i a => i ≤ 64 ∧ ∀ x, x < i → a x = if zs_bit s x then 0 else v) (fun r => ∀ x, x < 64 → r.2 x = if zs_bit s x then 0 else v) (by
    intro n a ha
    refine ⟨(nI 64, a), ?_, ha.2⟩
    show zl_X0_findFars_31 s 64 v (n + 1) (nI 64) a = _
    rw [zl_X0_findFars_31, if_pos (show (64 : Int32) ≤ nI 64 by decide)]) (by
    intro n i a hi ha
    right
    refine ⟨vp_updL a i (if zs_bit s i then 0 else v), ?_, by omega, fun x hx => ?_⟩
    · show zl_X0_findFars_31 s 64 v (n + 1) (nI i) a = zl_X0_findFars_31 s 64 v n (nI (i + 1)) _
      rw [zl_X0_findFars_31, if_neg (show ¬ (64 : Int32) ≤ nI i from nI_ge hi (by decide)), zs_isIn s hi, Option.bind_some, zs_zin hi (by omega)]
      by_cases hb : zs_bit s i = true
      · simp only [if_pos hb]
        rw [if_neg (show ¬ (1 : Int32) = 0 by decide)]
        show zl_X0_findFars_31 s 64 v n (nI i + 1) (vp_updL a (nI i).toNatClampNeg 0) = _
        rw [nI_1, nI_clamp (by omega)]
      · simp only [if_neg hb]
        rw [if_pos trivial]
        show zl_X0_findFars_31 s 64 v n (nI i + 1) (vp_updL a (nI i).toNatClampNeg v) = _
        rw [nI_1, nI_clamp (by omega)]
    · by_cases e : x = i
      · subst e; rw [pk_uLs]
      · rw [pk_uLn e]; exact ha.2 x (by omega))
  obtain ⟨r, h1, h2⟩ := h 64 0 f zk_F (by omega) (by rw [zs_F]; omega) ⟨by omega, fun x hx => absurd hx (by omega)⟩
  exact ⟨r, h1, h2⟩
theorem zs_xl {x l : Nat} (hx : x < 64) (hl : l < 6) : x ^^^ 2 ^ l < 64 := Nat.xor_lt_two_pow (n := 6) hx (Nat.pow_lt_pow_right (by omega) hl)
theorem zs_xx (x l : Nat) : x ^^^ 2 ^ l ^^^ 2 ^ l = x := by rw [Nat.xor_assoc, Nat.xor_self, Nat.xor_zero]
theorem zs_xne {x l : Nat} : x ^^^ 2 ^ l ≠ x := fun h => by
  have h2 : (x ^^^ 2 ^ l).testBit l = x.testBit l := by rw [h]
  rw [Nat.testBit_xor, Nat.testBit_two_pow] at h2
  simp at h2
theorem zs_spread {l cc : Nat} (hl : l < 6) (hcc : cc ≤ 9) {old : Nat → Nat} (hold : ∀ x, x < 64 → old x ≤ 5000) {f : Nat → Int64} (hf : ∀ x, x < 64 → f x = lN (old x)) : ∃ g, zf_X0_spread (nI (2 ^ l)) (nI cc) 64 f = some g ∧ ∀ x, x < 64 → g x = lN (min (old x) (old (x ^^^ 2 ^ l) + cc)) := by
  have h := zs_for (fun n (a : Nat → Int64) i => zl_X0_spread_2 (nI (2 ^ l)) (nI cc) 64 n (nI i) a) 64 (fun i a => i ≤ 64 ∧ ∀ x, x < 64 → a x = if x < i then lN (min (old x) (old (x ^^^ 2 ^ l) + cc)) else lN (old x)) (fun r => ∀ x, x < 64 → r.2 x = lN (min (old x) (old (x ^^^ 2 ^ l) + cc))) (by
    intro n a ha
    refine ⟨(nI 64, a), ?_, fun x hx => by show a x = _; rw [ha.2 x hx, if_pos hx]⟩
    show zl_X0_spread_2 (nI (2 ^ l)) (nI cc) 64 (n + 1) (nI 64) a = _
    rw [zl_X0_spread_2, if_pos (show (64 : Int32) ≤ nI 64 by decide)]) (by
    intro n i a hi ha
    right
    have hx1 := zs_xl hi hl
    have o1 := hold i hi
    have o2 := hold _ hx1
    have e1 : a i = lN (old i) := by rw [ha.2 i hi, if_neg (by omega)]
    -- the new value
    have e2 : (if a (i ^^^ 2 ^ l) + (nI cc).toInt64 < a i then a (i ^^^ 2 ^ l) + (nI cc).toInt64 else a i) = lN (min (old i) (old (i ^^^ 2 ^ l) + cc)) := by
      rw [e1, nI_l (by omega), ha.2 _ hx1]
      by_cases hlt : i ^^^ 2 ^ l < i
      · rw [if_pos hlt, zs_xx, lN_add]
        by_cases hc : min (old (i ^^^ 2 ^ l)) (old i + cc) + cc < old i
        · rw [if_pos ((lN_lt (by omega) (by omega)).mpr hc)]
          congr 1; omega
        · rw [if_neg (fun q => hc ((lN_lt (by omega) (by omega)).mp q))]
          congr 1; omega
      · rw [if_neg hlt, lN_add]
        by_cases hc : old (i ^^^ 2 ^ l) + cc < old i
        · rw [if_pos ((lN_lt (by omega) (by omega)).mpr hc)]
          congr 1; omega
        · rw [if_neg (fun q => hc ((lN_lt (by omega) (by omega)).mp q))]
          congr 1; omega
    refine ⟨vp_updL a i (lN (min (old i) (old (i ^^^ 2 ^ l) + cc))), ?_, by omega, fun x hx => ?_⟩
    · show zl_X0_spread_2 (nI (2 ^ l)) (nI cc) 64 (n + 1) (nI i) a = zl_X0_spread_2 (nI (2 ^ l)) (nI cc) 64 n (nI (i + 1)) _
      rw [zl_X0_spread_2, if_neg (show ¬ (64 : Int32) ≤ nI i from nI_ge hi (by decide)), nx_xor, zs_zin hi (by omega), zs_zin hx1 (by omega)]
      show zl_X0_spread_2 _ _ 64 n (nI i + 1) (vp_updL a (nI i).toNatClampNeg (if a (nI (i ^^^ 2 ^ l)).toNatClampNeg + (nI cc).toInt64 < a (nI i).toNatClampNeg then a (nI (i ^^^ 2 ^ l)).toNatClampNeg + (nI cc).toInt64 else a (nI i).toNatClampNeg)) = _
      rw [nI_1, nI_clamp (n := i) (by omega), nI_clamp (n := i ^^^ 2 ^ l) (by omega), e2]
    · by_cases e : x = i
      · subst e; rw [pk_uLs, if_pos (by omega)]
      · rw [pk_uLn e, ha.2 x hx]
        by_cases hlt : x < i
        · rw [if_pos hlt, if_pos (by omega)]
        · rw [if_neg hlt, if_neg (by omega)])
  obtain ⟨r, h1, h2⟩ := h 64 0 f zk_F (by omega) (by rw [zs_F]; omega) ⟨by omega, fun x hx => by rw [if_neg (by omega)]; exact hf x hx⟩
  refine ⟨r.2, ?_, h2⟩
  unfold zf_X0_spread
  have h1' : zl_X0_spread_2 (nI (2 ^ l)) (nI cc) 64 zk_F (0 : Int32) f = some r := h1
  rw [h1']
  rfl
