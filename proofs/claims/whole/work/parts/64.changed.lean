theorem zs_far_le {al : Bool} {c : Nat → Nat} (hc : ∀ l, l < 6 → c l ≤ 9) (s : Int64) (w : Nat) : zs_far al c s w ≤ 54 := by
  unfold zs_far
  cases e : zs_least (zs_bit s) (fun o => zs_len al c (w ^^^ o)) 64 with
  | none => exact Nat.zero_le _
  | some m => exact zs_least_le (fun x => zs_len_le hc _) 64 m e
theorem zs_minx {a b s : Int64} {key : Nat → Nat} (ha : ∀ w, w < 64 → (zs_bit a w = true ↔ zs_isMin (zs_bit s) key 64 w)) (hb : ∀ w, w < 64 → (zs_bit b w = true ↔ zs_isMin (zs_bit s) key 64 w)) : a = b := by
  apply zs_ext
  intro w hw
  have h := (ha w hw).trans (hb w hw).symm
  cases h1 : zs_bit a w with
  | true => rw [h.mp h1]
  | false =>
    cases h2 : zs_bit b w with
    | true => rw [h.mpr h2] at h1; cases h1
    | false => rfl
theorem zs_isMin_congr {am : Nat → Bool} {k1 k2 : Nat → Nat} {n w : Nat} (h : ∀ o, o < n → k1 o = k2 o) : zs_isMin am k1 n w ↔ zs_isMin am k2 n w := by
  unfold zs_isMin
  constructor
  · rintro ⟨a, b, d⟩
    exact ⟨a, b, fun o ho hm => by rw [← h w a, ← h o ho]; exact d o ho hm⟩
  · rintro ⟨a, b, d⟩
    exact ⟨a, b, fun o ho hm => by rw [h w a, h o ho]; exact d o ho hm⟩
theorem zs_or64 (x : Int64) : x ||| 0 = x := by
  apply zs_ext; intro w hw; rw [zs_bit_or, zs_bit_0, Bool.or_false]
theorem zs_near5 (s t : Int64) {al : Bool} {me : Int32} (hme : me = zs_o al) {c : Nat → Nat} {mcost : Nat → Int32} (hm : ∀ l, l < 6 → c l ≤ 9 ∧ mcost l = nI (c l)) : ∃ r, zf_X5_nearest s t me mcost = some r ∧ ∀ w, w < 64 → (zs_bit r w = true ↔ zs_isMin (zs_bit s) (zs_far al c t) 64 w) := by
  have hle : ∀ w, zs_far al c t w ≤ 54 := fun w => zs_far_le (fun l hl => (hm l hl).1) _ _
  generalize hkey : zs_far al c t = key at hle
  have h := zs_for (fun n (a : Int64 × Int32) i => zl_X5_nearest_9 s t me mcost n a.1 a.2 (nI i)) 64 (fun i a => i ≤ 64 ∧ ((a.1 = 0 ∧ ∀ o, o < i → zs_bit s o = false) ∨ (∃ B, B ≤ 54 ∧ a.2 = nI B ∧ (∃ o, o < i ∧ zs_bit s o = true ∧ key o = B) ∧ (∀ o, o < i → zs_bit s o = true → B ≤ key o) ∧ (∀ w, w < 64 → (zs_bit a.1 w = true ↔ (w < i ∧ zs_bit s w = true ∧ key w = B)))))) (fun r => ∀ w, w < 64 → (zs_bit r.1 w = true ↔ zs_isMin (zs_bit s) key 64 w)) (by
    intro n a ha
    refine ⟨(a.1, a.2, nI 64), ?_, ?_⟩
    · show zl_X5_nearest_9 s t me mcost (n + 1) a.1 a.2 (nI 64) = _
      rw [zl_X5_nearest_9, if_pos (show (64 : Int32) ≤ nI 64 by decide)]
    · intro w hw
      show zs_bit a.1 w = true ↔ _
      rcases ha.2 with ⟨e0, hn⟩ | ⟨B, hB, e1, ⟨o, ho, hso, e⟩, b1, b2⟩
      · rw [e0, zs_bit_0]
        constructor
        · intro q; cases q
        · intro q; have h9 := q.2.1; rw [hn w q.1] at h9; cases h9
      · rw [b2 w hw]
        constructor
        · intro q
          exact ⟨q.1, q.2.1, fun o ho hso => by rw [q.2.2]; exact b1 o ho hso⟩
        · intro q
          refine ⟨q.1, q.2.1, ?_⟩
          have h1 := q.2.2 o ho hso
          have h2 := b1 w q.1 q.2.1
          omega) (by
    intro n i a hi ha
    right
    show ∃ a' : Int64 × Int32, zl_X5_nearest_9 s t me mcost (n + 1) a.1 a.2 (nI i) = zl_X5_nearest_9 s t me mcost n a'.1 a'.2 (nI (i + 1)) ∧ i + 1 ≤ 64 ∧ _
    rw [zl_X5_nearest_9, if_neg (show ¬ (64 : Int32) ≤ nI i from nI_ge hi (by decide)), zs_has s hi, Option.bind_some]
    have hki := hle i
    by_cases hb : zs_bit s i = true
    · rw [if_pos hb, if_neg (show ¬ (1 : Int32) = 0 by decide), zs_farOf hme t hi hm, hkey, Option.bind_some]
      have fresh : ∀ B, (∀ o, o < i → zs_bit s o = true → B < key o) → key i = B → (∀ w, w < 64 → (zs_bit ((0 : Int64) ||| ((1 : Int64) <<< ((nI i).toInt64 &&& 63))) w = true ↔ (w < i + 1 ∧ zs_bit s w = true ∧ key w = B))) := by
        intro B hn e w hw
        rw [zs_bit_or, zs_bit_one hi hw, zs_bit_0, Bool.false_or, decide_eq_true_eq]
        constructor
        · intro q; subst q; exact ⟨by omega, hb, e⟩
        · intro q
          by_cases e2 : w = i
          · exact e2
          · have := hn w (by omega) q.2.1; omega
      rcases ha.2 with ⟨e0, hn⟩ | ⟨B, hB, e1, ⟨o, ho, hso, e⟩, b1, b2⟩
      · rw [e0, if_pos (show lg_cmp (0 : Int64) 0 = 0 by decide), Option.bind_some, if_pos rfl]
        refine ⟨((0 : Int64) ||| ((1 : Int64) <<< ((nI i).toInt64 &&& 63)), nI (key i)), ?_, by omega, Or.inr ⟨key i, hki, rfl, ⟨i, by omega, hb, rfl⟩, ?_, ?_⟩⟩
        · show zl_X5_nearest_9 s t me mcost n ((0 : Int64) ||| _) (nI (key i)) (nI i + 1) = _
          rw [nI_1]
        · intro o ho hso
          by_cases e2 : o = i
          · subst e2; exact Nat.le_refl _
          · have h9 := hn o (by omega); rw [h9] at hso; cases hso
        · exact fresh (key i) (fun o ho hso => by have h9 := hn o ho; rw [h9] at hso; cases hso) rfl
      · have hne : ¬ a.1 = 0 := by
          intro q
          have h9 := (b2 o (by omega)).mpr ⟨ho, hso, e⟩
          rw [q, zs_bit_0] at h9; cases h9
        rw [if_neg (fun q => hne ((lg_cmp_eq _ _).mp q)), e1]
        by_cases hl : B ≤ key i
        · rw [if_pos (nI_le hl (by omega)), Option.bind_some]
          by_cases he : key i = B
          · rw [if_pos (show nI (key i) = ((a.1, nI B) : Int64 × Int32).2 by rw [he])]
            refine ⟨(a.1 ||| ((1 : Int64) <<< ((nI i).toInt64 &&& 63)), nI B), ?_, by omega, Or.inr ⟨B, hB, rfl, ⟨i, by omega, hb, he⟩, ?_, ?_⟩⟩
            · show zl_X5_nearest_9 s t me mcost n (a.1 ||| _) (nI B) (nI i + 1) = _
              rw [nI_1]
            · intro o ho hso
              by_cases e2 : o = i
              · subst e2; omega
              · exact b1 o (by omega) hso
            · intro w hw
              show zs_bit (a.1 ||| _) w = true ↔ _
              rw [zs_bit_or, zs_bit_one hi hw, Bool.or_eq_true, b2 w hw, decide_eq_true_eq]
              constructor
              · rintro (q | q)
                · exact ⟨by omega, q.2⟩
                · subst q; exact ⟨by omega, hb, he⟩
              · intro q
                by_cases e : w = i
                · exact Or.inr e
                · exact Or.inl ⟨by omega, q.2⟩
          · rw [if_neg (show ¬ nI (key i) = ((a.1, nI B) : Int64 × Int32).2 from fun q => he ((nI_eq (by omega) (by omega)).mp q))]
            refine ⟨(a.1, nI B), ?_, by omega, Or.inr ⟨B, hB, rfl, ⟨o, by omega, hso, e⟩, ?_, ?_⟩⟩
            · show zl_X5_nearest_9 s t me mcost n (a.1 ||| (0 : Int64)) (nI B) (nI i + 1) = _
              rw [nI_1, zs_or64]
            · intro o ho hso
              by_cases e2 : o = i
              · subst e2; omega
              · exact b1 o (by omega) hso
            · intro w hw
              show zs_bit a.1 w = true ↔ _
              rw [b2 w hw]
              constructor
              · intro q; exact ⟨by omega, q.2⟩
              · intro q
                by_cases e : w = i
                · subst e; omega
                · exact ⟨by omega, q.2⟩
        · rw [if_neg (nI_ge (by omega) (by omega)), Option.bind_some, if_pos rfl]
          refine ⟨((0 : Int64) ||| ((1 : Int64) <<< ((nI i).toInt64 &&& 63)), nI (key i)), ?_, by omega, Or.inr ⟨key i, hki, rfl, ⟨i, by omega, hb, rfl⟩, ?_, ?_⟩⟩
          · show zl_X5_nearest_9 s t me mcost n ((0 : Int64) ||| _) (nI (key i)) (nI i + 1) = _
            rw [nI_1]
          · intro o ho hso
            by_cases e2 : o = i
            · subst e2; exact Nat.le_refl _
            · have := b1 o (by omega) hso; omega
          · exact fresh (key i) (fun o ho hso => by have := b1 o ho hso; omega) rfl
    · have hbf := ts_nt hb
      rw [if_neg hb, if_pos rfl]
      refine ⟨a, ?_, by omega, ?_⟩
      · show zl_X5_nearest_9 s t me mcost n a.1 a.2 (nI i + 1) = _
        rw [nI_1]
      · rcases ha.2 with ⟨e0, hn⟩ | ⟨B, hB, e1, ⟨o, ho, hso, e⟩, b1, b2⟩
        · refine Or.inl ⟨e0, fun o ho => ?_⟩
          by_cases e2 : o = i
          · subst e2; exact hbf
          · exact hn o (by omega)
        · refine Or.inr ⟨B, hB, e1, ⟨o, by omega, hso, e⟩, ?_, ?_⟩
          · intro o ho hso
            by_cases e : o = i
            · subst e; rw [hbf] at hso; cases hso
            · exact b1 o (by omega) hso
          · intro w hw
            rw [b2 w hw]
            constructor
            · intro q; exact ⟨by omega, q.2⟩
            · intro q
              by_cases e : w = i
              · subst e; have h9 := q.2.1; rw [hbf] at h9; cases h9
              · exact ⟨by omega, q.2⟩)
  obtain ⟨r, h1, h2⟩ := h 64 0 ((0 : Int64), (0 : Int32)) zk_F (by omega) (by rw [zs_F]; omega) ⟨by omega, Or.inl ⟨rfl, fun o ho => absurd ho (by omega)⟩⟩
  refine ⟨r.1, ?_, h2⟩
  unfold zf_X5_nearest
  have h1' : zl_X5_nearest_9 s t me mcost zk_F (0 : Int64) (0 : Int32) (0 : Int32) = some r := h1
  rw [h1']
  rfl
/-- the worlds nearest to one world, and to all of a set -/
def zs_acc (p : Nat → Bool) (N : Nat → Int64) : Nat → Int64
  | 0 => 0
  | i + 1 => zs_acc p N i ||| (if p i then N i else 0)
theorem zs_far_one {al : Bool} {c : Nat → Nat} {j w : Nat} (hj : j < 64) (hw : w < 64) : zs_far al c ((1 : Int64) <<< ((nI j).toInt64 &&& 63)) w = zs_len al c (j ^^^ w) := by
  apply zs_far_is (o := j) hj
  · rw [zs_bit_one hj hj, decide_eq_true_eq]
  · rw [Nat.xor_comm]
  · intro o ho hb
    rw [zs_bit_one hj ho, decide_eq_true_eq] at hb
    subst hb
    rw [Nat.xor_comm]; exact Nat.le_refl _
theorem zs_scaleRow {al : Bool} {c : Nat → Nat} {lens : Nat → Int32} (hc : ∀ l, l < 6 → c l ≤ 9) (hl : ∀ x, x < 64 → lens x = nI (zs_len al c x)) {u : Nat} (hu : u < 64) (f : Nat → Int64) : ∃ r, zl_X4_goneAlong_25 lens (nI u) zk_F (0 : Int32) f = some r ∧ ∀ w, w < 64 → r.2 w = lN (zs_len al c (u ^^^ w)) := by
  have h := zs_for (fun n (a : Nat → Int64) i => zl_X4_goneAlong_25 lens (nI u) n (nI i) a) 64 (fun i a => i ≤ 64 ∧ ∀ w, w < i → a w = lN (zs_len al c (u ^^^ w))) (fun r => ∀ w, w < 64 → r.2 w = lN (zs_len al c (u ^^^ w))) (by
    intro n a ha
    refine ⟨(nI 64, a), ?_, ha.2⟩
    show zl_X4_goneAlong_25 lens (nI u) (n + 1) (nI 64) a = _
    rw [zl_X4_goneAlong_25, if_pos (show (64 : Int32) ≤ nI 64 by decide)]) (by
    intro n i a hi ha
    right
    refine ⟨vp_updL a i (lN (zs_len al c (u ^^^ i))), ?_, by omega, fun w hw => ?_⟩
    · show zl_X4_goneAlong_25 lens (nI u) (n + 1) (nI i) a = zl_X4_goneAlong_25 lens (nI u) n (nI (i + 1)) _
      have hx : u ^^^ i < 64 := zs_x64 hu hi
      have hle : zs_len al c (u ^^^ i) ≤ 54 := zs_len_le hc _
      rw [zl_X4_goneAlong_25, if_neg (show ¬ (64 : Int32) ≤ nI i from nI_ge hi (by decide)), nx_xor, zs_zin hx (by omega), zs_zin hi (by omega), nI_clamp (n := i) (by omega), nI_clamp (n := u ^^^ i) (by omega), hl _ hx, nI_l (by omega)]
      show zl_X4_goneAlong_25 lens (nI u) n (nI i + 1) _ = _
      rw [nI_1]
    · unfold vp_updL
      by_cases e : w = i
      · subst e; rw [if_pos rfl]
      · rw [if_neg e]; exact ha.2 w (by omega))
  obtain ⟨r, h1, h2⟩ := h 64 0 f zk_F (by omega) (by rw [zs_F]; omega) ⟨by omega, fun j hj => absurd hj (by omega)⟩
  exact ⟨r, h1, h2⟩
theorem zs_along {al : Bool} {me : Int32} (hme : me = zs_o al) {c : Nat → Nat} {mcost lens : Nat → Int32} (hm : ∀ l, l < 6 → c l ≤ 9 ∧ mcost l = nI (c l)) (hl : ∀ x, x < 64 → lens x = nI (zs_len al c x)) (th q : Int64) {x0 : Int32} {i0 : Nat} (hi0 : i0 < 7) (ex : x0 = nI i0) {msays : Nat → Int64} (f : Nat → Int64) : ∃ v g r, zf_X4_goneAlong (msays i0) (th &&& q) lens f = some (v, g) ∧ zl_X5_changed_92 x0 th q me msays mcost zk_F (0 : Int64) (0 : Int32) = some (v, r) := by
  have hc : ∀ l, l < 6 → c l ≤ 9 := fun l hl => (hm l hl).1
  obtain ⟨N, hN⟩ : ∃ N : Nat → Int64, ∀ u, zf_X5_nearest (th &&& q) ((1 : Int64) <<< ((nI u).toInt64 &&& 63)) me mcost = some (N u) := by
    refine ⟨fun u => (zf_X5_nearest (th &&& q) ((1 : Int64) <<< ((nI u).toInt64 &&& 63)) me mcost).getD 0, fun u => ?_⟩
    obtain ⟨r, e, -⟩ := zs_near5 (th &&& q) ((1 : Int64) <<< ((nI u).toInt64 &&& 63)) hme hm
    show _ = some ((zf_X5_nearest _ _ _ _).getD 0)
    rw [e]; rfl
  have h4 := zs_for (fun n (a : Int64 × (Nat → Int64)) i => zl_X4_goneAlong_6 (msays i0) (th &&& q) lens n a.1 (nI i) a.2) 64 (fun i a => i ≤ 64 ∧ a.1 = zs_acc (zs_bit (msays i0)) N i) (fun r => r.1 = zs_acc (zs_bit (msays i0)) N 64) (by
    intro n a ha
    refine ⟨(a.1, nI 64, a.2), ?_, ha.2⟩
    show zl_X4_goneAlong_6 _ _ lens (n + 1) a.1 (nI 64) a.2 = _
    rw [zl_X4_goneAlong_6, if_pos (show (64 : Int32) ≤ nI 64 by decide)]) (by
    intro n i a hi ha
    right
    show ∃ a' : Int64 × (Nat → Int64), zl_X4_goneAlong_6 (msays i0) (th &&& q) lens (n + 1) a.1 (nI i) a.2 = zl_X4_goneAlong_6 (msays i0) (th &&& q) lens n a'.1 (nI (i + 1)) a'.2 ∧ i + 1 ≤ 64 ∧ _
    rw [zl_X4_goneAlong_6, if_neg (show ¬ (64 : Int32) ≤ nI i from nI_ge hi (by decide)), zs_isIn _ hi, Option.bind_some]
    by_cases hb : zs_bit (msays i0) i = true
    · obtain ⟨r, e1, e2⟩ := zs_scaleRow hc hl hi a.2
      obtain ⟨m, e3, e4⟩ := zs_least4 (th &&& q) (fun w => zs_len al c (i ^^^ w)) (fun w hw => by have := zs_len_le (al := al) hc (i ^^^ w); omega) e2
      have em : m = N i := by
        obtain ⟨r5, e5, e6⟩ := zs_near5 (th &&& q) ((1 : Int64) <<< ((nI i).toInt64 &&& 63)) hme hm
        have e7 : r5 = N i := by rw [hN i] at e5; exact (Option.some.inj e5).symm
        rw [← e7]
        apply zs_minx e4
        intro w hw
        rw [e6 w hw]
        exact zs_isMin_congr (fun o ho => zs_far_one hi ho)
      rw [if_pos hb, if_neg (show ¬ (1 : Int32) = 0 by decide), e1, Option.bind_some, e3, Option.bind_some, em]
      refine ⟨(a.1 ||| N i, r.2), ?_, by omega, ?_⟩
      · show zl_X4_goneAlong_6 _ _ lens n (a.1 ||| N i) (nI i + 1) r.2 = _
        rw [nI_1]
      · show a.1 ||| N i = zs_acc _ N i ||| (if zs_bit (msays i0) i = true then N i else 0)
        rw [if_pos hb, ha.2]
    · rw [if_neg hb, if_pos rfl]
      refine ⟨a, ?_, by omega, ?_⟩
      · show zl_X4_goneAlong_6 _ _ lens n a.1 (nI i + 1) a.2 = _
        rw [nI_1]
      · show a.1 = zs_acc _ N i ||| (if zs_bit (msays i0) i = true then N i else 0)
        rw [if_neg hb, ha.2, zs_or64])
  obtain ⟨r, q1, q2⟩ := h4 64 0 ((0 : Int64), f) zk_F (by omega) (by rw [zs_F]; omega) ⟨by omega, rfl⟩
  have q1' : zl_X4_goneAlong_6 (msays i0) (th &&& q) lens zk_F (0 : Int64) (0 : Int32) f = some r := q1
  have h5 := zs_for (fun n (a : Int64) i => zl_X5_changed_92 x0 th q me msays mcost n a (nI i)) 64 (fun i a => i ≤ 64 ∧ a = zs_acc (zs_bit (msays i0)) N i) (fun r => r.1 = zs_acc (zs_bit (msays i0)) N 64) (by
    intro n a ha
    refine ⟨(a, nI 64), ?_, ha.2⟩
    show zl_X5_changed_92 _ _ _ _ _ _ (n + 1) a (nI 64) = _
    rw [zl_X5_changed_92, if_pos (show (64 : Int32) ≤ nI 64 by decide)]) (by
    intro n i a hi ha
    right
    refine ⟨zs_acc (zs_bit (msays i0)) N (i + 1), ?_, by omega, rfl⟩
    show zl_X5_changed_92 x0 th q me msays mcost (n + 1) a (nI i) = zl_X5_changed_92 x0 th q me msays mcost n (zs_acc (zs_bit (msays i0)) N i ||| (if zs_bit (msays i0) i = true then N i else 0)) (nI (i + 1))
    rw [zl_X5_changed_92, if_neg (show ¬ (64 : Int32) ≤ nI i from nI_ge hi (by decide)), ex, zs_zin hi0 (by omega), nI_clamp (n := i0) (by omega), zs_has _ hi, Option.bind_some, hN i, ha.2]
    by_cases hb : zs_bit (msays i0) i = true
    · simp only [if_pos hb]
      show zl_X5_changed_92 _ th q me msays mcost n (zs_acc (zs_bit (msays i0)) N i ||| N i) (nI i + 1) = _
      rw [nI_1]
    · simp only [if_neg hb]
      show zl_X5_changed_92 _ th q me msays mcost n (zs_acc (zs_bit (msays i0)) N i ||| 0) (nI i + 1) = _
      rw [nI_1])
  obtain ⟨r5, p1, p2⟩ := h5 64 0 (0 : Int64) zk_F (by omega) (by rw [zs_F]; omega) ⟨by omega, rfl⟩
  have p1' : zl_X5_changed_92 x0 th q me msays mcost zk_F (0 : Int64) (0 : Int32) = some r5 := p1
  refine ⟨zs_acc (zs_bit (msays i0)) N 64, r.2.2, r5.2, ?_, ?_⟩
  · unfold zf_X4_goneAlong
    rw [q1', Option.bind_some, q2]
  · rw [p1', ← p2]
theorem zp_changed : zh_changed zi_Inv := by
  intro v_sm_asked v_sm_traced v_tx_length f_tx_bytes f_tx_tokens f_tx_places v_rd_at v_rd_token v_rd_fault v_td_laws v_td_there v_td_sayers f_td_says f_td_weights v_sp_laws v_sp_there v_sp_sayers f_sp_says f_sp_weights v_ds_alike f_ds_costs f_ds_lengths f_sm_fars f_sm_common f_sm_others f_sm_scale v_md_length v_md_laws v_md_sayers v_md_there v_md_question v_md_measure v_md_trace v_md_readLaws v_md_readSayers v_md_readThere v_md_begin v_md_end v_md_sort v_md_open v_md_level v_md_said f_md_text f_md_weight f_md_says f_md_cost f_md_readWeight f_md_readSays f_md_opened f_md_any f_md_all f_md_burdens f_md_best f_md_own f_md_truth x0 x1 hI
  obtain ⟨n, k, c, al, h1, h2, h3, h4, h5, ⟨s1, s2, s3, s4⟩, ⟨d1, d2, d3, d4⟩, h7, h8⟩ := id hI
  have hm : ∀ l, l < 6 → c l ≤ 9 ∧ f_md_cost l = nI (c l) := fun l hl => ⟨(d3 l hl).1, (d3 l hl).2.2⟩
  have hme : v_md_measure = zs_o al := d2
  suffices hs : ∃ v g, zf_X4_changed x0 x1 v_sm_asked v_td_there v_td_sayers f_td_says f_ds_lengths f_sm_fars f_sm_scale = some (v, g) ∧ zf_X5_changed x0 x1 v_md_sayers v_md_there v_md_question v_md_measure f_md_says f_md_cost = some v by
    obtain ⟨v, g, e1, e2⟩ := hs
    exact ⟨(v, g), v, e1, e2, rfl, hI⟩
  rw [s2, s3, h1, h5]
  unfold zf_X4_changed zf_X5_changed
  rcases zs_isSayer x0 s1 with ⟨i, hi, e, q1, q2⟩ | ⟨q1, q2⟩
  · rw [q1, q2, Option.bind_some, Option.bind_some, if_neg (show ¬ (1 : Int32) = 0 by decide), if_neg (show ¬ (1 : Int32) = 0 by decide)]
    have hz : zk_in x0 7 = true := by rw [e]; exact zs_zin (by omega) (by omega)
    have hcl : x0.toNatClampNeg = i := by rw [e, nI_clamp (by omega)]
    have t1 := (s4 i hi).1
    have hin := zs_in2 x1 2 (by omega)
    have hl2 : (lN 2 : Int64) = 2 := rfl
    rw [hl2] at hin
    rw [hz, hcl, t1]
    have near : ∀ s : Int64, ∃ v, zf_X4_least s 64 (f_sm_fars i) = some v ∧ zf_X5_nearest s (f_md_says i) v_md_measure f_md_cost = some v := by
      intro s
      obtain ⟨r5, e5, e6⟩ := zs_near5 s (f_md_says i) hme hm
      obtain ⟨r4, e7, e8⟩ := zs_least4 s (zs_far al c (f_md_says i)) (fun w hw => by have := zs_far_le (al := al) (fun l hl => (hm l hl).1) (f_md_says i) w; omega) (f := f_sm_fars i) (fun w hw => by rw [h7 i hi w hw, t1])
      have : r4 = r5 := zs_minx e8 e6
      subst this
      exact ⟨r4, e7, e5⟩
    rcases hin with ⟨j, hj, ej, q⟩ | ⟨q3, q4⟩
    · rw [q, Option.bind_some, if_neg (show ¬ (1 : Int32) = 0 by decide)]
      rcases (show j = 0 ∨ j = 1 ∨ j = 2 by omega) with rfl | rfl | rfl
      · have ej' : x1 = 0 := ej
        subst ej'
        rw [if_pos (show (0 : Int32) = 0 from rfl), if_pos (show (0 : Int32) = 0 from rfl)]
        obtain ⟨v, e1, e2⟩ := near (v_md_there &&& v_md_question)
        rw [e1, e2]
        exact ⟨v, _, rfl, rfl⟩
      · have ej' : x1 = 1 := ej
        subst ej'
        rw [if_neg (show ¬ (1 : Int32) = 0 by decide), if_neg (show ¬ (1 : Int32) = 0 by decide), if_pos (show (1 : Int32) = 1 from rfl), if_neg (show ¬ (1 : Int32) = 2 by decide)]
        obtain ⟨v, g, r, e1, e2⟩ := zs_along hme hm d4 v_md_there v_md_question (x0 := x0) (i0 := i) (by omega) e (msays := f_md_says) f_sm_scale
        rw [e1, e2]
        exact ⟨v, _, rfl, rfl⟩
      · have ej' : x1 = 2 := ej
        subst ej'
        rw [if_neg (show ¬ (2 : Int32) = 0 by decide), if_neg (show ¬ (2 : Int32) = 0 by decide), if_neg (show ¬ (2 : Int32) = 1 by decide), if_pos (show (2 : Int32) = 2 from rfl), if_pos (show (2 : Int32) = 2 from rfl)]
        obtain ⟨v, e1, e2⟩ := near (v_md_there &&& (v_md_question ^^^ (-1 : Int64)))
        rw [e1, e2]
        exact ⟨_, _, rfl, rfl⟩
    · have a0 : ¬ x1 = 0 := fun q => by rw [q] at q3; have : (0 : Int32).toInt = 0 := rfl; omega
      have a1 : ¬ x1 = 1 := fun q => by rw [q] at q3; have : (1 : Int32).toInt = 1 := rfl; omega
      have a2 : ¬ x1 = 2 := fun q => by rw [q] at q3; have : (2 : Int32).toInt = 2 := rfl; omega
      rw [if_neg a0, if_neg a1, if_neg a2, q4]
      exact ⟨_, _, rfl, rfl⟩
  · rw [q1, q2]
    exact ⟨_, _, rfl, rfl⟩
