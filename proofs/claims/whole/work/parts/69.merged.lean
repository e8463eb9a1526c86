theorem zs_against {best own : Nat → Int32} {d e : Nat → Nat} (ho : ∀ j, j < 7 → own j = nI (d j)) (hd : ∀ j, j < 7 → d j ≤ 4000) (hb : ∀ j, j < 7 → best j = nI (e j)) (he : ∀ j, j < 7 → e j ≤ 4000) : ∃ v, zf_X5_against best own = some v ∧ ((v = -1 ∧ zs_lx d e) ∨ (v = 0 ∧ ∀ j, j < 7 → d j = e j) ∨ (v = 1 ∧ zs_lx e d)) := by
  have h := zs_for (fun n (_ : Unit) j => zl_X5_against_2 best own n (nI j)) 7 (fun i _ => i ≤ 7 ∧ ∀ j, j < i → d j = e j) (fun r => (r = Sum.inl (nI 7) ∧ ∀ j, j < 7 → d j = e j) ∨ (r = Sum.inr (1 : Int32) ∧ zs_lx e d) ∨ (r = Sum.inr (-1 : Int32) ∧ zs_lx d e)) (by
    intro n a ha
    refine ⟨Sum.inl (nI 7), ?_, Or.inl ⟨rfl, ha.2⟩⟩
    show zl_X5_against_2 _ _ (n + 1) (nI 7) = _
    rw [zl_X5_against_2, if_pos (show (7 : Int32) ≤ nI 7 by decide)]) (by
    intro n i a hi ha
    have b1 := hd i hi
    have b2 := he i hi
    show (∃ r, zl_X5_against_2 best own (n + 1) (nI i) = some r ∧ _) ∨ (∃ a' : Unit, zl_X5_against_2 best own (n + 1) (nI i) = zl_X5_against_2 best own n (nI (i + 1)) ∧ _)
    rw [zl_X5_against_2, if_neg (show ¬ (7 : Int32) ≤ nI i from nI_ge hi (by decide)), zs_zin (n := i) hi (by omega), nI_clamp (n := i) (by omega), ho i hi, hb i hi]
    by_cases q : d i = e i
    · right
      refine ⟨(), ?_, by omega, fun j hj => ?_⟩
      · rw [if_pos (show nI (d i) = nI (e i) by rw [q])]
        show zl_X5_against_2 best own n (nI i + 1) = _
        rw [nI_1]
      · by_cases ej : j = i
        · subst ej; exact q
        · exact ha.2 j (by omega)
    · left
      rw [if_neg (fun z => q ((nI_eq (by omega) (by omega)).mp z))]
      by_cases q2 : e i ≤ d i
      · rw [if_pos (nI_le q2 (by omega))]
        exact ⟨_, rfl, Or.inr (Or.inl ⟨rfl, i, hi, fun j hj => (ha.2 j hj).symm, by omega⟩)⟩
      · rw [if_neg (nI_ge (by omega) (by omega))]
        exact ⟨_, rfl, Or.inr (Or.inr ⟨rfl, i, hi, ha.2, by omega⟩)⟩)
  obtain ⟨r, h1, h2⟩ := h 7 0 () zk_F (by omega) (by rw [zs_F]; omega) ⟨by omega, fun j hj => absurd hj (by omega)⟩
  have h1' : zl_X5_against_2 best own zk_F (0 : Int32) = some r := h1
  unfold zf_X5_against
  rw [h1', Option.bind_some]
  rcases h2 with ⟨e1, q⟩ | ⟨e1, q⟩ | ⟨e1, q⟩
  · rw [e1]; exact ⟨0, rfl, Or.inr (Or.inl ⟨rfl, q⟩)⟩
  · rw [e1]; exact ⟨1, rfl, Or.inr (Or.inr ⟨rfl, q⟩)⟩
  · rw [e1]; exact ⟨-1, rfl, Or.inl ⟨rfl, q⟩⟩
theorem zs_copy (v f : Nat → Int32) : ∃ r, zl_X5_mergedBy_60 v zk_F (0 : Int32) f = some r ∧ ∀ j, j < 7 → r.2 j = v j := by
  have h := zs_for (fun n (a : Nat → Int32) j => zl_X5_mergedBy_60 v n (nI j) a) 7 (fun i a => i ≤ 7 ∧ ∀ j, j < i → a j = v j) (fun r => ∀ j, j < 7 → r.2 j = v j) (by
    intro n a ha
    refine ⟨(nI 7, a), ?_, ha.2⟩
    show zl_X5_mergedBy_60 _ (n + 1) (nI 7) a = _
    rw [zl_X5_mergedBy_60, if_pos (show (7 : Int32) ≤ nI 7 by decide)]) (by
    intro n i a hi ha
    right
    refine ⟨upd a i (v i), ?_, by omega, fun j hj => ?_⟩
    · show zl_X5_mergedBy_60 _ (n + 1) (nI i) a = zl_X5_mergedBy_60 v n (nI (i + 1)) _
      rw [zl_X5_mergedBy_60, if_neg (show ¬ (7 : Int32) ≤ nI i from nI_ge hi (by decide)), zs_zin (n := i) hi (by omega), nI_clamp (n := i) (by omega), ← nI_1]
      rfl
    · unfold upd
      by_cases e : j = i
      · subst e; rw [if_pos rfl]
      · rw [if_neg e]; exact ha.2 j (by omega))
  obtain ⟨r, h1, h2⟩ := h 7 0 f zk_F (by omega) (by rw [zs_F]; omega) ⟨by omega, fun j hj => absurd hj (by omega)⟩
  exact ⟨r, h1, h2⟩
theorem zs_merged5 {way k : Nat} (hw2 : way ≤ 2) (hk : k ≤ 7) (there : Int64) {g : Nat → Int32} {b : Nat → Nat → Nat} (hg : ∀ i, i < k → ∀ w, w < 64 → g (64 * i + w) = nI (b i w)) (hb : ∀ i, i < k → ∀ w, w < 64 → b i w ≤ 486) (best own : Nat → Int32) : ∃ r, zf_X5_mergedBy (nI way) (nI k) there g best own = some r ∧ ∀ w, w < 64 → (zs_bit r.1 w = true ↔ zs_isMin (zs_bit there) (fun w => zs_To way (fun i => b i w) 7 k) 64 w) := by
  generalize hkey : (fun w => zs_To way (fun i => b i w) 7 k) = key
  have hkw : ∀ w, zs_To way (fun i => b i w) 7 k = key w := fun w => congrFun hkey w
  have h := zs_for (fun n (a : Int64 × (Nat → Int32) × (Nat → Int32)) i => zl_X5_mergedBy_5 (nI way) (nI k) there g n a.1 (nI i) a.2.1 a.2.2) 64 (fun i a => i ≤ 64 ∧ ((a.1 = 0 ∧ ∀ o, o < i → zs_bit there o = false) ∨ (∃ B e, (∀ j, j < 7 → a.2.1 j = nI (e j)) ∧ (∀ j, j < 7 → e j ≤ 4000) ∧ zs_Rw way k B e ∧ (∃ o, o < i ∧ zs_bit there o = true ∧ key o = B) ∧ (∀ o, o < i → zs_bit there o = true → B ≤ key o) ∧ (∀ w, w < 64 → (zs_bit a.1 w = true ↔ (w < i ∧ zs_bit there w = true ∧ key w = B)))))) (fun r => ∀ w, w < 64 → (zs_bit r.1 w = true ↔ zs_isMin (zs_bit there) key 64 w)) (by
    intro n a ha
    refine ⟨(a.1, nI 64, a.2.1, a.2.2), ?_, ?_⟩
    · show zl_X5_mergedBy_5 _ _ _ _ (n + 1) a.1 (nI 64) a.2.1 a.2.2 = _
      rw [zl_X5_mergedBy_5, if_pos (show (64 : Int32) ≤ nI 64 by decide)]
    · intro w hw
      show zs_bit a.1 w = true ↔ _
      rcases ha.2 with ⟨e0, hn⟩ | ⟨B, d, -, -, -, ⟨o, ho, hso, e⟩, b1, b2⟩
      · rw [e0, zs_bit_0]
        constructor
        · intro q; cases q
        · intro q; have h9 := q.2.1; rw [hn w q.1] at h9; cases h9
      · rw [b2 w hw]
        constructor
        · intro q
          exact ⟨q.1, q.2.1, fun o ho hso => by rw [q.2.2]; exact b1 o ho hso⟩
        · intro q
          refine ⟨q.1, q.2.1, ?_⟩
          have h1 := q.2.2 o ho hso
          have h2 := b1 w q.1 q.2.1
          omega) (by
    intro n i a hi ha
    right
    show ∃ a' : Int64 × (Nat → Int32) × (Nat → Int32), zl_X5_mergedBy_5 (nI way) (nI k) there g (n + 1) a.1 (nI i) a.2.1 a.2.2 = zl_X5_mergedBy_5 (nI way) (nI k) there g n a'.1 (nI (i + 1)) a'.2.1 a'.2.2 ∧ i + 1 ≤ 64 ∧ _
    rw [zl_X5_mergedBy_5, if_neg (show ¬ (64 : Int32) ≤ nI i from nI_ge hi (by decide)), zs_has there hi, Option.bind_some]
    by_cases hs : zs_bit there i = true
    · obtain ⟨row, d, e1, e2, e3, e4⟩ := zs_rows (w := i) (b := fun j => b j i) hw2 hk hi (fun j hj => hg j hj i hi) (fun j hj => hb j hj i hi) a.2.2
      rw [hkw] at e4
      rw [if_pos hs, if_neg (show ¬ (1 : Int32) = 0 by decide), e1, Option.bind_some]
      have fresh : ∀ B, (∀ o, o < i → zs_bit there o = true → B < key o) → key i = B → (∀ w, w < 64 → (zs_bit ((0 : Int64) ||| ((1 : Int64) <<< ((nI i).toInt64 &&& 63))) w = true ↔ (w < i + 1 ∧ zs_bit there w = true ∧ key w = B))) := by
        intro B hn e w hw
        rw [zs_bit_or, zs_bit_one hi hw, zs_bit_0, Bool.false_or, decide_eq_true_eq]
        constructor
        · intro q; subst q; exact ⟨by omega, hs, e⟩
        · intro q
          by_cases e2 : w = i
          · exact e2
          · have := hn w (by omega) q.2.1; omega
      obtain ⟨cp, c1, c2⟩ := zs_copy row a.2.1
      have newBest : (∀ o, o < i → zs_bit there o = true → key i < key o) → ∃ a' : Int64 × (Nat → Int32) × (Nat → Int32), ((if 0 ≤ (-1 : Int32) then some (a.1, a.2.1) else (zl_X5_mergedBy_60 row zk_F (0 : Int32) a.2.1).bind (fun v19 => some ((0 : Int64), v19.2))).bind (fun v8 => if 0 < (-1 : Int32) then zk_lt (v8.1 ||| (0 : Int64)) (fun y9 => zk_lt (nI i + 1) (fun y10 => zl_X5_mergedBy_5 (nI way) (nI k) there g n y9 y10 v8.2 row)) else zk_lt (v8.1 ||| ((1 : Int64) <<< ((nI i).toInt64 &&& 63))) (fun y11 => zk_lt (nI i + 1) (fun y12 => zl_X5_mergedBy_5 (nI way) (nI k) there g n y11 y12 v8.2 row)))) = zl_X5_mergedBy_5 (nI way) (nI k) there g n a'.1 (nI (i + 1)) a'.2.1 a'.2.2 ∧ i + 1 ≤ 64 ∧ ((a'.1 = 0 ∧ ∀ o, o < i + 1 → zs_bit there o = false) ∨ (∃ B e, (∀ j, j < 7 → a'.2.1 j = nI (e j)) ∧ (∀ j, j < 7 → e j ≤ 4000) ∧ zs_Rw way k B e ∧ (∃ o, o < i + 1 ∧ zs_bit there o = true ∧ key o = B) ∧ (∀ o, o < i + 1 → zs_bit there o = true → B ≤ key o) ∧ (∀ w, w < 64 → (zs_bit a'.1 w = true ↔ (w < i + 1 ∧ zs_bit there w = true ∧ key w = B))))) := by
        intro hn
        rw [if_neg (show ¬ 0 ≤ (-1 : Int32) by decide), c1, Option.bind_some, Option.bind_some, if_neg (show ¬ 0 < (-1 : Int32) by decide)]
        refine ⟨((0 : Int64) ||| ((1 : Int64) <<< ((nI i).toInt64 &&& 63)), cp.2, row), ?_, by omega, Or.inr ⟨key i, d, fun j hj => by show cp.2 j = _; rw [c2 j hj, e2 j hj], e3, e4, ⟨i, by omega, hs, rfl⟩, ?_, fresh (key i) hn rfl⟩⟩
        · show zl_X5_mergedBy_5 _ _ _ _ n ((0 : Int64) ||| _) (nI i + 1) cp.2 row = _
          rw [nI_1]
        · intro o ho hso
          by_cases e5 : o = i
          · subst e5; exact Nat.le_refl _
          · exact Nat.le_of_lt (hn o (by omega) hso)
      rcases ha.2 with ⟨e0, hn⟩ | ⟨B, e, f1, f2, f3, ⟨o, ho, hso, eo⟩, b1, b2⟩
      · rw [if_pos (show lg_cmp a.1 (0 : Int64) = 0 from (lg_cmp_eq _ _).mpr e0), Option.bind_some]
        exact newBest (fun o ho hso => by rw [hn o ho] at hso; cases hso)
      · have hne : ¬ a.1 = 0 := by
          intro q
          have h9 := (b2 o (by omega)).mpr ⟨ho, hso, eo⟩
          rw [q, zs_bit_0] at h9; cases h9
        obtain ⟨v, v1, v2⟩ := zs_against e2 e3 f1 f2
        rw [if_neg (fun q => hne ((lg_cmp_eq _ _).mp q)), v1, Option.bind_some, Option.bind_some]
        rcases v2 with ⟨ev, hl⟩ | ⟨ev, hl⟩ | ⟨ev, hl⟩
        · have hlt := zs_Rw_lx e4 f3 hl
          rw [ev]
          exact newBest (fun o ho hso => by have := b1 o ho hso; omega)
        · have heq := zs_Rw_eq e4 f3 hl
          rw [ev, if_pos (show 0 ≤ (0 : Int32) by decide), Option.bind_some, if_neg (show ¬ 0 < (0 : Int32) by decide)]
          refine ⟨(a.1 ||| ((1 : Int64) <<< ((nI i).toInt64 &&& 63)), a.2.1, row), ?_, by omega, Or.inr ⟨B, e, f1, f2, f3, ⟨i, by omega, hs, heq⟩, ?_, ?_⟩⟩
          · show zl_X5_mergedBy_5 _ _ _ _ n (a.1 ||| _) (nI i + 1) a.2.1 row = _
            rw [nI_1]
          · intro o ho hso
            by_cases e5 : o = i
            · subst e5; omega
            · exact b1 o (by omega) hso
          · intro w hw
            show zs_bit (a.1 ||| _) w = true ↔ _
            rw [zs_bit_or, zs_bit_one hi hw, Bool.or_eq_true, b2 w hw, decide_eq_true_eq]
            constructor
            · rintro (q | q)
              · exact ⟨by omega, q.2⟩
              · subst q; exact ⟨by omega, hs, heq⟩
            · intro q
              by_cases e : w = i
              · exact Or.inr e
              · exact Or.inl ⟨by omega, q.2⟩
        · have hlt := zs_Rw_lx f3 e4 hl
          rw [ev, if_pos (show 0 ≤ (1 : Int32) by decide), Option.bind_some, if_pos (show 0 < (1 : Int32) by decide)]
          refine ⟨(a.1, a.2.1, row), ?_, by omega, Or.inr ⟨B, e, f1, f2, f3, ⟨o, by omega, hso, eo⟩, ?_, ?_⟩⟩
          · show zl_X5_mergedBy_5 _ _ _ _ n (a.1 ||| (0 : Int64)) (nI i + 1) a.2.1 row = _
            rw [nI_1, zs_or64]
          · intro o ho hso
            by_cases e5 : o = i
            · subst e5; omega
            · exact b1 o (by omega) hso
          · intro w hw
            show zs_bit a.1 w = true ↔ _
            rw [b2 w hw]
            constructor
            · intro q; exact ⟨by omega, q.2⟩
            · intro q
              by_cases e : w = i
              · subst e; omega
              · exact ⟨by omega, q.2⟩
    · have hbf := ts_nt hs
      rw [if_neg hs, if_pos rfl]
      refine ⟨a, ?_, by omega, ?_⟩
      · show zl_X5_mergedBy_5 _ _ _ _ n a.1 (nI i + 1) a.2.1 a.2.2 = _
        rw [nI_1]
      · rcases ha.2 with ⟨e0, hn⟩ | ⟨B, e, f1, f2, f3, ⟨o, ho, hso, eo⟩, b1, b2⟩
        · refine Or.inl ⟨e0, fun o ho => ?_⟩
          by_cases e2 : o = i
          · subst e2; exact hbf
          · exact hn o (by omega)
        · refine Or.inr ⟨B, e, f1, f2, f3, ⟨o, by omega, hso, eo⟩, ?_, ?_⟩
          · intro o ho hso
            by_cases e : o = i
            · subst e; rw [hbf] at hso; cases hso
            · exact b1 o (by omega) hso
          · intro w hw
            rw [b2 w hw]
            constructor
            · intro q; exact ⟨by omega, q.2⟩
            · intro q
              by_cases e : w = i
              · subst e; have h9 := q.2.1; rw [hbf] at h9; cases h9
              · exact ⟨by omega, q.2⟩)
  obtain ⟨r, h1, h2⟩ := h 64 0 ((0 : Int64), best, own) zk_F (by omega) (by rw [zs_F]; omega) ⟨by omega, Or.inl ⟨rfl, fun o ho => absurd ho (by omega)⟩⟩
  refine ⟨(r.1, r.2.2.1, r.2.2.2), ?_, h2⟩
  unfold zf_X5_mergedBy
  have h1' : zl_X5_mergedBy_5 (nI way) (nI k) there g zk_F (0 : Int64) (0 : Int32) best own = some r := h1
  rw [h1']
  rfl
