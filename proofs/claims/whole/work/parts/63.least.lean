/-! the worlds with the least number -/
def zs_isMin (am : Nat → Bool) (key : Nat → Nat) (i w : Nat) : Prop := w < i ∧ am w = true ∧ ∀ o, o < i → am o = true → key w ≤ key o
theorem zs_max63 : (9223372036854775807 : Int64) = lN 9223372036854775807 := rfl
theorem zs_least4 (s : Int64) (key : Nat → Nat) (hk : ∀ w, w < 64 → key w < 2 ^ 63) {f : Nat → Int64} (hf : ∀ w, w < 64 → f w = lN (key w)) : ∃ r, zf_X4_least s 64 f = some r ∧ ∀ w, w < 64 → (zs_bit r w = true ↔ zs_isMin (zs_bit s) key 64 w) := by
  have h := zs_for (fun n (a : Int64 × Int64) i => zl_X4_least_10 s f 64 n a.1 a.2 (nI i)) 64 (fun i a => i ≤ 64 ∧ ∃ B, B < 2 ^ 63 ∧ a.1 = lN B ∧ (∀ o, o < i → zs_bit s o = true → B ≤ key o) ∧ (∀ w, w < 64 → (zs_bit a.2 w = true ↔ (w < i ∧ zs_bit s w = true ∧ key w = B))) ∧ ((∃ o, o < i ∧ zs_bit s o = true ∧ key o = B) ∨ (B = 9223372036854775807 ∧ ∀ o, o < i → zs_bit s o = false))) (fun r => ∀ w, w < 64 → (zs_bit r.2.1 w = true ↔ zs_isMin (zs_bit s) key 64 w)) (by
    intro n a ha
    refine ⟨(a.1, a.2, nI 64), ?_, ?_⟩
    · show zl_X4_least_10 s f 64 (n + 1) a.1 a.2 (nI 64) = _
      rw [zl_X4_least_10, if_pos (show (64 : Int32) ≤ nI 64 by decide)]
    · obtain ⟨-, B, hB, e1, b1, b2, b3⟩ := ha
      intro w hw
      show zs_bit a.2 w = true ↔ _
      rw [b2 w hw]
      constructor
      · intro q
        exact ⟨q.1, q.2.1, fun o ho hso => by rw [q.2.2]; exact b1 o ho hso⟩
      · intro q
        refine ⟨q.1, q.2.1, ?_⟩
        rcases b3 with ⟨o, ho, hso, e⟩ | ⟨-, hn⟩
        · have h1 := q.2.2 o ho hso
          have h2 := b1 w q.1 q.2.1
          omega
        · have h9 := q.2.1; rw [hn w q.1] at h9; cases h9) (by
    intro n i a hi ha
    right
    obtain ⟨-, B, hB, e1, b1, b2, b3⟩ := ha
    show ∃ a' : Int64 × Int64, zl_X4_least_10 s f 64 (n + 1) a.1 a.2 (nI i) = zl_X4_least_10 s f 64 n a'.1 a'.2 (nI (i + 1)) ∧ i + 1 ≤ 64 ∧ _
    rw [zl_X4_least_10, if_neg (show ¬ (64 : Int32) ≤ nI i from nI_ge hi (by decide)), zs_isIn s hi, Option.bind_some]
    have hki := hk i hi
    by_cases hb : zs_bit s i = true
    · rw [if_pos hb, if_neg (show ¬ (1 : Int32) = 0 by decide), zs_zin hi (by omega), nI_clamp (n := i) (by omega), hf i hi, e1]
      show ∃ a' : Int64 × Int64, (if 0 < lg_cmp (lN (key i)) (lN B) then _ else _) = _ ∧ _
      by_cases hgt : B < key i
      · rw [if_pos ((lg_cmp_gt _ _).mpr ((pk_lLT hB hki).mpr hgt))]
        refine ⟨(lN B, a.2), ?_, by omega, B, hB, rfl, ?_, ?_, ?_⟩
        · show zl_X4_least_10 s f 64 n (lN B) a.2 (nI i + 1) = _
          rw [nI_1]
        · intro o ho hso
          by_cases e : o = i
          · subst e; omega
          · exact b1 o (by omega) hso
        · intro w hw
          show zs_bit a.2 w = true ↔ _
          rw [b2 w hw]
          constructor
          · intro q; exact ⟨by omega, q.2⟩
          · intro q
            by_cases e : w = i
            · subst e; omega
            · exact ⟨by omega, q.2⟩
        · rcases b3 with ⟨o, ho, hso, e⟩ | ⟨e, hn⟩
          · exact Or.inl ⟨o, by omega, hso, e⟩
          · omega
      · rw [if_neg (fun q => hgt ((pk_lLT hB hki).mp ((lg_cmp_gt _ _).mp q)))]
        by_cases heq : B ≤ key i
        · have ee : key i = B := by omega
          rw [if_pos ((lg_cmp_ge _ _).mpr ((pk_lLE hB hki).mpr heq)), Option.bind_some]
          refine ⟨(lN B, a.2 ||| ((1 : Int64) <<< ((nI i).toInt64 &&& 63))), ?_, by omega, B, hB, rfl, ?_, ?_, Or.inl ⟨i, by omega, hb, ee⟩⟩
          · show zl_X4_least_10 s f 64 n (lN B) (a.2 ||| _) (nI i + 1) = _
            rw [nI_1]
          · intro o ho hso
            by_cases e : o = i
            · subst e; omega
            · exact b1 o (by omega) hso
          · intro w hw
            show zs_bit (a.2 ||| _) w = true ↔ _
            rw [zs_bit_or, zs_bit_one hi hw, Bool.or_eq_true, b2 w hw, decide_eq_true_eq]
            constructor
            · rintro (q | q)
              · exact ⟨by omega, q.2⟩
              · subst q; exact ⟨by omega, hb, ee⟩
            · intro q
              by_cases e : w = i
              · exact Or.inr e
              · exact Or.inl ⟨by omega, q.2⟩
        · rw [if_neg (fun q => heq ((pk_lLE hB hki).mp ((lg_cmp_ge _ _).mp q)))]
          refine ⟨(lN (key i), (0 : Int64) ||| ((1 : Int64) <<< ((nI i).toInt64 &&& 63))), ?_, by omega, key i, hki, rfl, ?_, ?_, Or.inl ⟨i, by omega, hb, rfl⟩⟩
          · show zl_X4_least_10 s f 64 n (lN (key i)) ((0 : Int64) ||| _) (nI i + 1) = _
            rw [nI_1]
          · intro o ho hso
            by_cases e : o = i
            · subst e; exact Nat.le_refl _
            · have := b1 o (by omega) hso; omega
          · intro w hw
            show zs_bit ((0 : Int64) ||| _) w = true ↔ _
            rw [zs_bit_or, zs_bit_one hi hw, zs_bit_0, Bool.false_or, decide_eq_true_eq]
            constructor
            · intro q; subst q; exact ⟨by omega, hb, rfl⟩
            · intro q
              by_cases e : w = i
              · exact e
              · have := b1 w (by omega) q.2.1; omega
    · have hbf := ts_nt hb
      rw [if_neg hb, if_pos rfl]
      refine ⟨a, ?_, by omega, B, hB, e1, ?_, ?_, ?_⟩
      · show zl_X4_least_10 s f 64 n a.1 a.2 (nI i + 1) = _
        rw [nI_1]
      · intro o ho hso
        by_cases e : o = i
        · subst e; rw [hbf] at hso; cases hso
        · exact b1 o (by omega) hso
      · intro w hw
        rw [b2 w hw]
        constructor
        · intro q; exact ⟨by omega, q.2⟩
        · intro q
          by_cases e : w = i
          · subst e; have h9 := q.2.1; rw [hbf] at h9; cases h9
          · exact ⟨by omega, q.2⟩
      · rcases b3 with ⟨o, ho, hso, e⟩ | ⟨e, hn⟩
        · exact Or.inl ⟨o, by omega, hso, e⟩
        · refine Or.inr ⟨e, fun o ho => ?_⟩
          by_cases e2 : o = i
          · subst e2; exact hbf
          · exact hn o (by omega))
  have hz : ∀ w, w < 64 → (zs_bit (0 : Int64) w = true ↔ (w < 0 ∧ zs_bit s w = true ∧ key w = 9223372036854775807)) := by
    intro w hw
    rw [zs_bit_0]
    exact Iff.intro (fun q => Bool.noConfusion q) (fun q => absurd q.1 (by omega))
  obtain ⟨r, h1, h2⟩ := h 64 0 ((9223372036854775807 : Int64), (0 : Int64)) zk_F (by omega) (by rw [zs_F]; omega) ⟨by omega, 9223372036854775807, by decide, zs_max63, fun o ho => absurd ho (by omega), hz, Or.inr ⟨rfl, fun o ho => absurd ho (by omega)⟩⟩
  refine ⟨r.2.1, ?_, h2⟩
  unfold zf_X4_least
  have h1' : zl_X4_least_10 s f 64 zk_F (9223372036854775807 : Int64) (0 : Int64) (0 : Int32) = some r := h1
  rw [h1']
  rfl
