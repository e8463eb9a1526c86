def zs_pop (s : Int64) : Nat := fb_ct (zs_bit s) 64
theorem zs_many (s : Int64) : zf_X5_many s = some (nI (zs_pop s)) := by
  have h := zs_for (fun n (a : Int32) i => zl_X5_many_4 s n a (nI i)) 64 (fun i a => i ≤ 64 ∧ a = nI (fb_ct (zs_bit s) i)) (fun r => r.1 = nI (zs_pop s)) (by
    intro n a ha
    refine ⟨(a, nI 64), ?_, ha.2⟩
    show zl_X5_many_4 s (n + 1) a (nI 64) = _
    rw [zl_X5_many_4, if_pos (by decide)]) (by
    intro n i a hi ha
    right
    refine ⟨nI (fb_ct (zs_bit s) (i + 1)), ?_, by omega, rfl⟩
    show zl_X5_many_4 s (n + 1) a (nI i) = zl_X5_many_4 s n _ (nI (i + 1))
    rw [zl_X5_many_4, if_neg (show ¬ (64 : Int32) ≤ nI i from nI_ge hi (by decide)), zs_has s (by omega), Option.bind_some, ha.2, fb_ct_succ]
    by_cases hc : zs_bit s i = true
    · rw [if_pos hc, if_neg (by decide), if_pos hc]
      show zl_X5_many_4 s n (nI _ + 1) (nI i + 1) = _
      rw [nI_1, nI_1]
    · rw [if_neg hc, if_pos rfl, if_neg hc]
      show zl_X5_many_4 s n (nI _ + 0) (nI i + 1) = _
      rw [nI_1, show (0 : Int32) = nI 0 from rfl, nI_add])
  obtain ⟨r, h1, h2⟩ := h 64 0 0 zk_F (by omega) (by rw [zs_F]; omega) ⟨by omega, rfl⟩
  unfold zf_X5_many
  have h1' : zl_X5_many_4 s zk_F (0 : Int32) (0 : Int32) = some r := h1
  rw [h1', Option.bind_some, h2]
theorem zs_bc : ∀ t, t < 128 → zf_J6_bitCount_0f7a4 (nI t) = some (nI (zs_pop (nI t).toInt64)) := by decide +kernel
theorem zs_pop7 : ∀ t, t < 128 → zs_pop (nI t).toInt64 ≤ 7 := by decide +kernel
theorem zs_isTold {k t : Nat} {there : Int64} {says : Nat → Int64} (l : Bool) (hk : k ≤ 7) (ht : t < 2 ^ k) : zf_X5_isTold (zs_o (!l)) (nI t) (nI k) there says = some (zs_o (zs_told (zs_Q there says k) l k t)) := by
  have h7 : 2 ^ k ≤ 128 := Nat.pow_le_pow_right (n := 2) (by omega) hk
  have hx : (if zs_o (!l) = 0 then some (1 : Int32) else some (0 : Int32)) = some (zs_o l) := by cases l <;> rfl
  have heq : ∀ a b : Bool, (if zs_o a = zs_o b then some (1 : Int32) else some (0 : Int32)) = some (zs_o (a == b)) := by intro a b; cases a <;> cases b <;> rfl
  unfold zf_X5_isTold
  rw [zs_Q5 hk ht, Option.bind_some, hx, Option.bind_some, heq, Option.bind_some]
  have h := zs_for (fun n (a : Int32) i => zl_X5_isTold_26 (zs_o (!l)) (nI t) (nI k) there says n a (nI i)) k (fun i a => i ≤ k ∧ a = zs_o ((zs_Q there says k t == l) && zs_all (fun i => !(t.testBit i == l) || (zs_Q there says k (t ^^^ 2 ^ i) != l)) i)) (fun r => r.1 = zs_o (zs_told (zs_Q there says k) l k t)) (by
    intro n a ha
    refine ⟨(a, nI k), ?_, ha.2⟩
    show zl_X5_isTold_26 (zs_o (!l)) (nI t) (nI k) there says (n + 1) a (nI k) = _
    rw [zl_X5_isTold_26, if_pos (nI_le (Nat.le_refl k) (by omega))]) (by
    intro n i a hi ha
    right
    have hb := zs_has (nI t).toInt64 (w := i) (by omega)
    rw [zs_ib t (by omega) (by omega)] at hb
    have hb' : zf_X5_has (nI t).toInt64 (nI i) = some (zs_o (t.testBit i)) := hb
    refine ⟨_, ?_, by omega, rfl⟩
    show zl_X5_isTold_26 (zs_o (!l)) (nI t) (nI k) there says (n + 1) a (nI i) = zl_X5_isTold_26 (zs_o (!l)) (nI t) (nI k) there says n _ (nI (i + 1))
    rw [zl_X5_isTold_26, if_neg (nI_ge hi (by omega)), hb', Option.bind_some, hx, Option.bind_some, heq, Option.bind_some, ha.2, zs_all, ← Bool.and_assoc]
    generalize ((zs_Q there says k t == l) && zs_all (fun i => !(t.testBit i == l) || (zs_Q there says k (t ^^^ 2 ^ i) != l)) i) = A
    cases A with
    | false =>
      rw [if_pos (show zs_o false = 0 from rfl)]
      show zl_X5_isTold_26 _ _ _ _ _ n 0 (nI i + 1) = _
      rw [nI_1]; rfl
    | true =>
      rw [if_neg (by decide)]
      by_cases h8 : (t.testBit i == l) = true
      · rw [h8, if_neg (by decide), zs_bxor t (by omega) i (by omega), zs_Q5 hk (zs_xlt ht hi), Option.bind_some]
        cases l with
        | true =>
          rw [if_pos (show zs_o (!true) = 0 from rfl)]
          cases zs_Q there says k (t ^^^ 2 ^ i) with
          | true =>
            rw [if_pos (show zs_o true = 1 from rfl)]
            show zl_X5_isTold_26 _ _ _ _ _ n 0 (nI i + 1) = _
            rw [nI_1]; rfl
          | false =>
            rw [if_neg (by decide)]
            show zl_X5_isTold_26 _ _ _ _ _ n 1 (nI i + 1) = _
            rw [nI_1]; rfl
        | false =>
          rw [if_neg (by decide)]
          cases zs_Q there says k (t ^^^ 2 ^ i) with
          | true =>
            rw [if_neg (by decide)]
            show zl_X5_isTold_26 _ _ _ _ _ n 1 (nI i + 1) = _
            rw [nI_1]; rfl
          | false =>
            rw [if_pos (show zs_o false = 0 from rfl)]
            show zl_X5_isTold_26 _ _ _ _ _ n 0 (nI i + 1) = _
            rw [nI_1]; rfl
      · have h8' : (t.testBit i == l) = false := ts_nt h8
        rw [h8', if_pos (show zs_o false = 0 from rfl)]
        show zl_X5_isTold_26 _ _ _ _ _ n 1 (nI i + 1) = _
        rw [nI_1]; rfl)
  obtain ⟨r, h1, h2⟩ := h k 0 (zs_o (zs_Q there says k t == l)) zk_F (by omega) (by rw [zs_F]; omega) ⟨by omega, by rw [zs_all, Bool.and_true]⟩
  have h1' : zl_X5_isTold_26 (zs_o (!l)) (nI t) (nI k) there says zk_F (zs_o (zs_Q there says k t == l)) (0 : Int32) = some r := h1
  rw [h1', Option.bind_some, h2, zs_ob]
  rfl
theorem zs_listed {k t : Nat} {there : Int64} {says com : Nat → Int64} (l : Bool) (hk : k ≤ 7) (ht : t < 2 ^ k) (hc : ∀ t, t < 2 ^ k → com t = zs_com there says k t) : zf_X4_isListed (zs_o (!l)) (nI t) (nI k) com = some (zs_o (zs_told (zs_Q there says k) l k t)) := by
  unfold zf_X4_isListed
  cases l with
  | true => rw [if_pos (show zs_o (!true) = 0 from rfl), zs_leastQ hk ht hc, Option.bind_some, zs_ob]; rfl
  | false => rw [if_neg (by decide), zs_greatQ hk ht hc, Option.bind_some, zs_ob]; rfl
theorem zs_set {k : Nat} (hk : k ≤ 7) : zf_X4_setsOfSayers (nI k) = some (nI (2 ^ k)) := by unfold zf_X4_setsOfSayers; rw [zs_shl1 k (by omega)]
/-- the two walks through all sets go side by side -/
theorem zs_sets_in {k : Nat} {there : Int64} {says com : Nat → Int64} (l : Bool) (x1 v : Int32) (hk : k ≤ 7) (hc : ∀ t, t < 2 ^ k → com t = zs_com there says k t) : ∀ n a t, t ≤ 2 ^ k → zl_X4_sets_57 (zs_o (!l)) x1 (nI k) com v n a (nI t) = zl_X5_sets_52 (zs_o (!l)) x1 (nI k) there says v n a (nI t) := by
  have h7 : 2 ^ k ≤ 128 := Nat.pow_le_pow_right (n := 2) (by omega) hk
  intro n
  induction n with
  | zero => intro a t ht; rfl
  | succ n ih =>
    intro a t ht
    rw [zl_X4_sets_57, zl_X5_sets_52, zs_set hk, Option.bind_some, zs_shl1 k (by omega)]
    by_cases e : t = 2 ^ k
    · subst e
      rw [if_pos (nI_le (Nat.le_refl _) (by omega)), if_pos (nI_le (Nat.le_refl _) (by omega))]
    · have hlt : t < 2 ^ k := by omega
      rw [if_neg (nI_ge hlt (by omega)), if_neg (nI_ge hlt (by omega)), zs_bc t (by omega), zs_many, Option.bind_some, Option.bind_some]
      have hg : ∀ b : Int32, zk_lt (nI t + 1) (fun y => zl_X4_sets_57 (zs_o (!l)) x1 (nI k) com v n b y) = zk_lt (nI t + 1) (fun y => zl_X5_sets_52 (zs_o (!l)) x1 (nI k) there says v n b y) := by
        intro b
        show zl_X4_sets_57 _ _ _ _ _ n b (nI t + 1) = zl_X5_sets_52 _ _ _ _ _ _ n b (nI t + 1)
        rw [nI_1]
        exact ih b (t + 1) (by omega)
      by_cases e2 : nI (zs_pop (nI t).toInt64) = v
      · rw [if_pos e2, if_pos e2, zs_listed l hk hlt hc, zs_isTold l hk hlt, Option.bind_some, Option.bind_some]
        by_cases e3 : zs_o (zs_told (zs_Q there says k) l k t) = 0
        · rw [if_pos e3, if_pos e3]; exact hg a
        · rw [if_neg e3, if_neg e3]
          by_cases e4 : a = x1
          · rw [if_pos e4, if_pos e4]
          · rw [if_neg e4, if_neg e4]; exact hg (a + 1)
      · rw [if_neg e2, if_neg e2]; exact hg a
theorem zs_sets_out {k : Nat} {there : Int64} {says com : Nat → Int64} (l : Bool) (x1 : Int32) (hk : k ≤ 7) (hc : ∀ t, t < 2 ^ k → com t = zs_com there says k t) : ∀ n a w, zl_X4_sets_21 (zs_o (!l)) x1 (nI k) com n a w = zl_X5_sets_22 (zs_o (!l)) x1 (nI k) there says n a w := by
  intro n
  induction n with
  | zero => intro a w; rfl
  | succ n ih =>
    intro a w
    rw [zl_X4_sets_21, zl_X5_sets_22]
    have hin : ∀ v b, zl_X4_sets_57 (zs_o (!l)) x1 (nI k) com v zk_F b (0 : Int32) = zl_X5_sets_52 (zs_o (!l)) x1 (nI k) there says v zk_F b (0 : Int32) := fun v b => zs_sets_in l x1 v hk hc zk_F b 0 (Nat.zero_le _)
    simp only [hin, ih]
theorem zs_sets_tot {k : Nat} {there : Int64} {says com : Nat → Int64} (l : Bool) (x1 v : Int32) (hk : k ≤ 7) (hc : ∀ t, t < 2 ^ k → com t = zs_com there says k t) (a : Int32) : ∃ r, zl_X4_sets_57 (zs_o (!l)) x1 (nI k) com v zk_F a (0 : Int32) = some r := by
  have h7 : 2 ^ k ≤ 128 := Nat.pow_le_pow_right (n := 2) (by omega) hk
  have h := zs_for (fun n (a : Int32) i => zl_X4_sets_57 (zs_o (!l)) x1 (nI k) com v n a (nI i)) (2 ^ k) (fun i _ => i ≤ 2 ^ k) (fun _ => True) (by
    intro n a ha
    refine ⟨Sum.inl (a, nI (2 ^ k)), ?_, trivial⟩
    show zl_X4_sets_57 (zs_o (!l)) x1 (nI k) com v (n + 1) a (nI (2 ^ k)) = _
    rw [zl_X4_sets_57, zs_set hk, Option.bind_some, if_pos (nI_le (Nat.le_refl _) (by omega))]) (by
    intro n t a ht ha
    show (∃ r, zl_X4_sets_57 (zs_o (!l)) x1 (nI k) com v (n + 1) a (nI t) = some r ∧ True) ∨ (∃ a', zl_X4_sets_57 (zs_o (!l)) x1 (nI k) com v (n + 1) a (nI t) = zl_X4_sets_57 (zs_o (!l)) x1 (nI k) com v n a' (nI (t + 1)) ∧ t + 1 ≤ 2 ^ k)
    rw [zl_X4_sets_57, zs_set hk, Option.bind_some, if_neg (nI_ge ht (by omega)), zs_bc t (by omega), Option.bind_some]
    have hg : ∀ b : Int32, zk_lt (nI t + 1) (fun y => zl_X4_sets_57 (zs_o (!l)) x1 (nI k) com v n b y) = zl_X4_sets_57 (zs_o (!l)) x1 (nI k) com v n b (nI (t + 1)) := by
      intro b
      show zl_X4_sets_57 _ _ _ _ _ n b (nI t + 1) = _
      rw [nI_1]
    by_cases e2 : nI (zs_pop (nI t).toInt64) = v
    · rw [if_pos e2, zs_listed l hk ht hc, Option.bind_some]
      by_cases e3 : zs_o (zs_told (zs_Q there says k) l k t) = 0
      · rw [if_pos e3]; exact Or.inr ⟨a, hg a, by omega⟩
      · rw [if_neg e3]
        by_cases e4 : a = x1
        · rw [if_pos e4]; exact Or.inl ⟨_, rfl, trivial⟩
        · rw [if_neg e4]; exact Or.inr ⟨a + 1, hg (a + 1), by omega⟩
    · rw [if_neg e2]; exact Or.inr ⟨a, hg a, by omega⟩)
  obtain ⟨r, h1, -⟩ := h (2 ^ k) 0 a zk_F (by omega) (by rw [zs_F]; omega) (Nat.zero_le _)
  exact ⟨r, h1⟩
theorem zs_sets_tot2 {k : Nat} {there : Int64} {says com : Nat → Int64} (l : Bool) (x1 : Int32) (hk : k ≤ 7) (hc : ∀ t, t < 2 ^ k → com t = zs_com there says k t) : ∃ r, zl_X4_sets_21 (zs_o (!l)) x1 (nI k) com zk_F (0 : Int32) (0 : Int32) = some r := by
  have h := zs_for (fun n (a : Int32) i => zl_X4_sets_21 (zs_o (!l)) x1 (nI k) com n a (nI i)) (k + 1) (fun i _ => i ≤ k + 1) (fun _ => True) (by
    intro n a ha
    refine ⟨Sum.inl (a, nI (k + 1)), ?_, trivial⟩
    show zl_X4_sets_21 (zs_o (!l)) x1 (nI k) com (n + 1) a (nI (k + 1)) = _
    rw [zl_X4_sets_21, if_pos (nI_lt (by omega) (by omega))]) (by
    intro n t a ht ha
    show (∃ r, zl_X4_sets_21 (zs_o (!l)) x1 (nI k) com (n + 1) a (nI t) = some r ∧ True) ∨ (∃ a', zl_X4_sets_21 (zs_o (!l)) x1 (nI k) com (n + 1) a (nI t) = zl_X4_sets_21 (zs_o (!l)) x1 (nI k) com n a' (nI (t + 1)) ∧ t + 1 ≤ k + 1)
    rw [zl_X4_sets_21, if_neg (nI_nlt (by omega) (by omega))]
    obtain ⟨v, hv⟩ : ∃ v, (if zs_o (!l) = 0 then some (nI t) else some (nI k - nI t)) = some v := by
      by_cases e : zs_o (!l) = 0
      · exact ⟨_, by rw [if_pos e]⟩
      · exact ⟨_, by rw [if_neg e]⟩
    rw [hv, Option.bind_some]
    obtain ⟨r, hr⟩ := zs_sets_tot (there := there) (says := says) l x1 v hk hc a
    rw [hr, Option.bind_some]
    cases r with
    | inl u =>
      right
      refine ⟨u.1, ?_, by omega⟩
      show zl_X4_sets_21 _ _ _ _ n u.1 (nI t + 1) = _
      rw [nI_1]
    | inr u => exact Or.inl ⟨_, rfl, trivial⟩)
  obtain ⟨r, h1, -⟩ := h (k + 1) 0 0 zk_F (by omega) (by rw [zs_F]; omega) (by omega)
  exact ⟨r, h1⟩
