/-! reading: class and reference go along -/
theorem zt_am1 (a : Int64) : a &&& (-1) = a := zs_ext (fun w hw => by rw [zs_bit_and, zs_bit_m1 hw, Bool.and_true])
theorem zt_m1a (a : Int64) : (-1) &&& a = a := zs_ext (fun w hw => by rw [zs_bit_and, zs_bit_m1 hw, Bool.true_and])
theorem zt_aas (a b c : Int64) : (a &&& b) &&& c = a &&& (b &&& c) := zs_ext (fun w _ => by rw [zs_bit_and, zs_bit_and, zs_bit_and, zs_bit_and, Bool.and_assoc])
theorem zt_0or (a : Int64) : 0 ||| a = a := zs_ext (fun w _ => by rw [zs_bit_or, zs_bit_0, Bool.false_or])
/-- the reference ends with a fault at TOKEN j -/
def zt_Fl (n : Nat) (sd : Int64) (mt : Nat → Int32) (P Q tc : Nat → Nat) (m : Nat) (f w : Int32) (k o l : Nat) (op : Nat → Int32) (any all : Nat → Int64) : Prop := ∃ j, j ≤ m ∧ f = nI (P j) ∧ ∀ fuel, m < fuel + k → ∃ r, zt_Z n sd mt P Q tc fuel w k o l op any all = some r ∧ 0 ≤ r.1 ∧ r.2.1 = nI (P j)
def zt_One (n : Nat) (sd : Int64) (mt tk pl : Nat → Int32) (P Q tc : Nat → Nat) (m d o : Nat) : Prop := ∀ (k l : Nat) (op : Nat → Int32) (any all : Nat → Int64), k ≤ m → l ≤ o → ∃ v a t f, zf_X1_readOne d (nI o) (nI k) (nI (tc k)) (-1) tk pl = some (v, a, t, f) ∧ ((∃ k', k < k' ∧ k' ≤ m ∧ a = nI k' ∧ t = nI (tc k') ∧ f = -1 ∧ ∃ op' any' all', (∀ i, i < o → op' i = op i) ∧ (∀ i, i ≤ l → any' i = any i) ∧ (∀ i, i ≤ l → all' i = all i) ∧ ∀ fuel, zt_Z n sd mt P Q tc (fuel + (k' - k)) 1 k o l op any all = zt_Z n sd mt P Q tc fuel 0 k' (zt_E op' o v).2 l op' any' (vp_updL all' l (all' l &&& (zt_E op' o v).1))) ∨ zt_Fl n sd mt P Q tc m f 1 k o l op any all)
section
variable {n : Nat} {mt tk pl : Nat → Int32} {P Q tc : Nat → Nat} {m : Nat} {sd : Int64}
theorem zt_Fl_ne (h : zt_St n mt tk pl P Q tc m) {f w : Int32} {k o l : Nat} {op : Nat → Int32} {any all : Nat → Int64} (hf : zt_Fl n sd mt P Q tc m f w k o l op any all) : ¬ f = -1 := by
  obtain ⟨j, h1, h2, h3⟩ := hf
  rw [h2]
  exact zt_Pne (h.2.2.2.2.2.2.2 j)
/-- a fault behind some steps -/
theorem zt_Fl_by {f w w2 : Int32} {k k2 o o2 l l2 : Nat} {op op2 : Nat → Int32} {any any2 all all2 : Nat → Int64} (hk : k ≤ k2) (hk2 : k2 ≤ m) (hz : ∀ fuel, zt_Z n sd mt P Q tc (fuel + (k2 - k)) w k o l op any all = zt_Z n sd mt P Q tc fuel w2 k2 o2 l2 op2 any2 all2) (hf : zt_Fl n sd mt P Q tc m f w2 k2 o2 l2 op2 any2 all2) : zt_Fl n sd mt P Q tc m f w k o l op any all := by
  obtain ⟨j, h1, h2, h3⟩ := hf
  refine ⟨j, h1, h2, fun fuel hfu => ?_⟩
  have := h3 (fuel - (k2 - k)) (by omega)
  rw [← hz, show fuel - (k2 - k) + (k2 - k) = fuel by omega] at this
  exact this
theorem zt_bothF {one : Int32 → Int32 → Int32 → Int32 → (Nat → Int32) → (Nat → Int32) → Option (Int64 × Int32 × Int32 × Int32)} {x f : Int32} (hf : ¬ f = -1) (g : Nat) (v : Int64) (i a t : Int32) : zl_X1_readBoth_9 one x tk pl (g + 1) v i a t f = some (v, i, a, t, f) := by
  rw [zl_X1_readBoth_9]
  by_cases q : (300 : Int32) ≤ i
  · rw [if_pos q]
  · rw [if_neg q, zt_if1 hf, Option.bind_some, if_neg (show ¬ (1 : Int32) = 0 by decide)]
theorem zt_sayF {one : Int32 → Int32 → Int32 → Int32 → (Nat → Int32) → (Nat → Int32) → Option (Int64 × Int32 × Int32 × Int32)} {x f : Int32} (hf : ¬ f = -1) (g : Nat) (v : Int64) (i a t : Int32) : zl_X1_readSaying_9 one x tk pl (g + 1) v i a t f = some (v, i, a, t, f) := by
  rw [zl_X1_readSaying_9]
  by_cases q : (300 : Int32) ≤ i
  · rw [if_pos q]
  · rw [if_neg q, zt_if1 hf, Option.bind_some, if_neg (show ¬ (1 : Int32) = 0 by decide)]
theorem zt_bothL (h : zt_St n mt tk pl P Q tc m) {d o l : Nat} (ho : o ≤ 8) (hl : l ≤ o) (H : zt_One n sd mt tk pl P Q tc m d o) : ∀ (g k i : Nat) (acc : Int64) (op : Nat → Int32) (any all : Nat → Int64) (fc : Nat), m - k ≤ g → g < fc → k ≤ m → i < k → (o = 0 ∨ ¬ op (o - 1) = 33) → ∃ v w a t f, zl_X1_readBoth_9 (zf_X1_readOne d) (nI o) tk pl fc acc (nI i) (nI k) (nI (tc k)) (-1) = some (v, w, a, t, f) ∧ ((∃ k', k ≤ k' ∧ k' ≤ m ∧ a = nI k' ∧ t = nI (tc k') ∧ f = -1 ∧ ¬ tc k' = 38 ∧ ∃ x op' any' all', v = acc &&& x ∧ (∀ i, i < o → op' i = op i) ∧ (∀ i, i ≤ l → any' i = any i) ∧ (∀ i, i < l → all' i = all i) ∧ all' l = all l &&& x ∧ ∀ fuel, zt_Z n sd mt P Q tc (fuel + (k' - k)) 0 k o l op any all = zt_Z n sd mt P Q tc fuel 0 k' o l op' any' all') ∨ zt_Fl n sd mt P Q tc m f 0 k o l op any all) := by
  have hm : m ≤ 300 := h.1
  have stop : ∀ (k i : Nat) (acc : Int64) (op : Nat → Int32) (any all : Nat → Int64) (f : Nat), k ≤ m → i < k → ¬ tc k = 38 → ∃ v w a t ff, zl_X1_readBoth_9 (zf_X1_readOne d) (nI o) tk pl (f + 1) acc (nI i) (nI k) (nI (tc k)) (-1) = some (v, w, a, t, ff) ∧ ((∃ k', k ≤ k' ∧ k' ≤ m ∧ a = nI k' ∧ t = nI (tc k') ∧ ff = -1 ∧ ¬ tc k' = 38 ∧ ∃ x op' any' all', v = acc &&& x ∧ (∀ i, i < o → op' i = op i) ∧ (∀ i, i ≤ l → any' i = any i) ∧ (∀ i, i < l → all' i = all i) ∧ all' l = all l &&& x ∧ ∀ fuel, zt_Z n sd mt P Q tc (fuel + (k' - k)) 0 k o l op any all = zt_Z n sd mt P Q tc fuel 0 k' o l op' any' all') ∨ zt_Fl n sd mt P Q tc m ff 0 k o l op any all) := by
    intro k i acc op any all f hk hi hc
    refine ⟨acc, nI i, nI k, nI (tc k), -1, ?_, Or.inl ⟨k, Nat.le_refl k, hk, rfl, rfl, rfl, hc, -1, op, any, all, (zt_am1 acc).symm, fun _ _ => rfl, fun _ _ => rfl, fun _ _ => rfl, (zt_am1 _).symm, fun fuel => by rw [Nat.sub_self, Nat.add_zero]⟩⟩
    rw [zl_X1_readBoth_9, if_neg (show ¬ (300 : Int32) ≤ nI i from nI_ge (b := 300) (by omega) (by decide)), zt_if0, Option.bind_some, if_pos rfl, if_neg (show ¬ nI (tc k) = (38 : Int32) from zt_nIne (h.2.2.2.2.2.2.1 k).1 (c := 38) (by decide) hc)]
  intro g
  induction g with
  | zero =>
    intro k i acc op any all fc h1 h2 h3 h4 h5
    obtain ⟨f, rfl⟩ : ∃ f, fc = f + 1 := ⟨fc - 1, by omega⟩
    have ek : k = m := by omega
    have hc : ¬ tc k = 38 := by rw [ek, h.2.2.2.2.1]; decide
    exact stop k i acc op any all f h3 h4 hc
  | succ g ih =>
    intro k i acc op any all fc h1 h2 h3 h4 h5
    obtain ⟨f, rfl⟩ : ∃ f, fc = f + 1 + 1 := ⟨fc - 2, by omega⟩
    by_cases hc : tc k = 38
    · have hkm : k < m := zt_lt h h3 (by rw [hc]; decide)
      obtain ⟨v1, a1, t1, f1, e1, hcase⟩ := H (k + 1) l op any all (by omega) hl
      have step : zl_X1_readBoth_9 (zf_X1_readOne d) (nI o) tk pl (f + 1 + 1) acc (nI i) (nI k) (nI (tc k)) (-1) = zl_X1_readBoth_9 (zf_X1_readOne d) (nI o) tk pl (f + 1) (acc &&& v1) (nI (i + 1)) a1 t1 f1 := by
        rw [zl_X1_readBoth_9, if_neg (show ¬ (300 : Int32) ≤ nI i from nI_ge (b := 300) (by omega) (by decide)), zt_if0, Option.bind_some, if_pos rfl, if_pos (show nI (tc k) = (38 : Int32) by rw [hc]; rfl), zt_adv h hkm, Option.bind_some]
        show ((zf_X1_readOne d (nI o) (nI (k + 1)) (nI (tc (k + 1))) (-1) tk pl).bind _) = _
        rw [e1, Option.bind_some]
        show zl_X1_readBoth_9 (zf_X1_readOne d) (nI o) tk pl (f + 1) (acc &&& v1) (nI i + 1) a1 t1 f1 = _
        rw [nI_1]
      rw [step]
      have zstep : ∀ fuel, zt_Z n sd mt P Q tc (fuel + (k + 1 - k)) 0 k o l op any all = zt_Z n sd mt P Q tc fuel 1 (k + 1) o l op any all := fun fuel => by
        rw [show fuel + (k + 1 - k) = fuel + 1 by omega]
        exact zt_2and h hc
      rcases hcase with ⟨k1, q1, q2, q3, q4, q5, op1, any1, all1, r1, r2, r3, r4⟩ | hf
      · subst q3 q4 q5
        have hop : o = 0 ∨ ¬ op1 (o - 1) = 33 := by
          rcases h5 with z | z
          · exact Or.inl z
          · by_cases o0 : o = 0
            · exact Or.inl o0
            · right
              rw [r1 (o - 1) (by omega)]
              exact z
        obtain ⟨v, w, a, t, ff, e2, hcase2⟩ := ih k1 (i + 1) (acc &&& v1) op1 any1 (vp_updL all1 l (all1 l &&& v1)) (f + 1) (by omega) (by omega) q2 (by omega) hop
        have zs2 : ∀ fuel, zt_Z n sd mt P Q tc (fuel + (k1 - k)) 0 k o l op any all = zt_Z n sd mt P Q tc fuel 0 k1 o l op1 any1 (vp_updL all1 l (all1 l &&& v1)) := fun fuel => by
          rw [show fuel + (k1 - k) = (fuel + (k1 - (k + 1))) + (k + 1 - k) by omega, zstep, r4, zt_E_no hop]
        refine ⟨v, w, a, t, ff, e2, ?_⟩
        rcases hcase2 with ⟨k', s1, s2, s3, s4, s5, s6, x, op', any', all', u1, u2, u3, u4, u5, u6⟩ | hf2
        · refine Or.inl ⟨k', by omega, s2, s3, s4, s5, s6, v1 &&& x, op', any', all', by rw [u1, zt_aas], fun i hi => by rw [u2 i hi, r1 i hi], fun i hi => by rw [u3 i hi, r2 i hi], fun i hi => by rw [u4 i hi, pk_uLn (by omega), r3 i (by omega)], by rw [u5, pk_uLs, r3 l (Nat.le_refl l), zt_aas], fun fuel => ?_⟩
          rw [show fuel + (k' - k) = (fuel + (k' - k1)) + (k1 - k) by omega, zs2, u6]
        · exact Or.inr (zt_Fl_by (by omega) q2 zs2 hf2)
      · have hne := zt_Fl_ne h hf
        rw [zt_bothF hne]
        exact ⟨_, _, _, _, _, rfl, Or.inr (zt_Fl_by (by omega) (by omega) zstep hf)⟩
    · exact stop k i acc op any all (f + 1) h3 h4 hc
theorem zt_both2 (h : zt_St n mt tk pl P Q tc m) {d o l : Nat} (ho : o ≤ 8) (hl : l ≤ o) (H : zt_One n sd mt tk pl P Q tc m d o) (k : Nat) (op : Nat → Int32) (any all : Nat → Int64) (hk : k ≤ m) (h5 : o = 0 ∨ ¬ op (o - 1) = 33) : ∃ v a t f, zf_X1_readBoth (zf_X1_readOne d) (nI o) (nI k) (nI (tc k)) (-1) tk pl = some (v, a, t, f) ∧ ((∃ k', k < k' ∧ k' ≤ m ∧ a = nI k' ∧ t = nI (tc k') ∧ f = -1 ∧ ¬ tc k' = 38 ∧ ∃ op' any' all', (∀ i, i < o → op' i = op i) ∧ (∀ i, i ≤ l → any' i = any i) ∧ (∀ i, i < l → all' i = all i) ∧ all' l = all l &&& v ∧ ∀ fuel, zt_Z n sd mt P Q tc (fuel + (k' - k)) 1 k o l op any all = zt_Z n sd mt P Q tc fuel 0 k' o l op' any' all') ∨ zt_Fl n sd mt P Q tc m f 1 k o l op any all) := by
  have hm : m ≤ 300 := h.1
  obtain ⟨v1, a1, t1, f1, e1, hcase⟩ := H k l op any all hk hl
  unfold zf_X1_readBoth
  rw [e1, Option.bind_some]
  rcases hcase with ⟨k1, q1, q2, q3, q4, q5, op1, any1, all1, r1, r2, r3, r4⟩ | hf
  · subst q3 q4 q5
    have hop : o = 0 ∨ ¬ op1 (o - 1) = 33 := by
      rcases h5 with z | z
      · exact Or.inl z
      · by_cases o0 : o = 0
        · exact Or.inl o0
        · right
          rw [r1 (o - 1) (by omega)]
          exact z
    obtain ⟨v, w, a, t, ff, e2, hcase2⟩ := zt_bothL h ho hl H (m - k1) k1 0 v1 op1 any1 (vp_updL all1 l (all1 l &&& v1)) zk_F (Nat.le_refl _) (by rw [zs_F]; omega) q2 (by omega) hop
    have zs2 : ∀ fuel, zt_Z n sd mt P Q tc (fuel + (k1 - k)) 1 k o l op any all = zt_Z n sd mt P Q tc fuel 0 k1 o l op1 any1 (vp_updL all1 l (all1 l &&& v1)) := fun fuel => by
      rw [r4, zt_E_no hop]
    refine ⟨v, a, t, ff, ?_, ?_⟩
    · show (zl_X1_readBoth_9 (zf_X1_readOne d) (nI o) tk pl zk_F v1 (nI 0) (nI k1) (nI (tc k1)) (-1)).bind _ = _
      rw [e2]
      rfl
    · rcases hcase2 with ⟨k', s1, s2, s3, s4, s5, s6, x, op', any', all', u1, u2, u3, u4, u5, u6⟩ | hf2
      · refine Or.inl ⟨k', by omega, s2, s3, s4, s5, s6, op', any', all', fun i hi => by rw [u2 i hi, r1 i hi], fun i hi => by rw [u3 i hi, r2 i hi], fun i hi => by rw [u4 i hi, pk_uLn (by omega), r3 i (by omega)], by rw [u5, pk_uLs, r3 l (Nat.le_refl l), u1, zt_aas], fun fuel => ?_⟩
        rw [show fuel + (k' - k) = (fuel + (k' - k1)) + (k1 - k) by omega, zs2, u6]
      · exact Or.inr (zt_Fl_by (by omega) q2 zs2 hf2)
  · have hne := zt_Fl_ne h hf
    refine ⟨v1, a1, t1, f1, ?_, Or.inr hf⟩
    show (zl_X1_readBoth_9 (zf_X1_readOne d) (nI o) tk pl (4999 + 1) v1 (0 : Int32) a1 t1 f1).bind _ = _
    rw [zt_bothF hne]
    rfl
theorem zt_sayL (h : zt_St n mt tk pl P Q tc m) {d o l : Nat} (ho : o ≤ 8) (hl : l ≤ o) (H : zt_One n sd mt tk pl P Q tc m d o) : ∀ (g k i : Nat) (acc : Int64) (op : Nat → Int32) (any all : Nat → Int64) (fc : Nat), m - k ≤ g → g < fc → k ≤ m → i < k → (o = 0 ∨ ¬ op (o - 1) = 33) → acc = any l ||| all l → ¬ tc k = 38 → ∃ v w a t f, zl_X1_readSaying_9 (zf_X1_readOne d) (nI o) tk pl fc acc (nI i) (nI k) (nI (tc k)) (-1) = some (v, w, a, t, f) ∧ ((∃ k', k ≤ k' ∧ k' ≤ m ∧ a = nI k' ∧ t = nI (tc k') ∧ f = -1 ∧ ¬ tc k' = 38 ∧ ¬ tc k' = 124 ∧ ∃ op' any' all', (∀ i, i < o → op' i = op i) ∧ (∀ i, i < l → any' i = any i) ∧ (∀ i, i < l → all' i = all i) ∧ v = any' l ||| all' l ∧ ∀ fuel, zt_Z n sd mt P Q tc (fuel + (k' - k)) 0 k o l op any all = zt_Z n sd mt P Q tc fuel 0 k' o l op' any' all') ∨ zt_Fl n sd mt P Q tc m f 0 k o l op any all) := by
  have hm : m ≤ 300 := h.1
  have stop : ∀ (k i : Nat) (acc : Int64) (op : Nat → Int32) (any all : Nat → Int64) (f : Nat), k ≤ m → i < k → acc = any l ||| all l → ¬ tc k = 38 → ¬ tc k = 124 → ∃ v w a t ff, zl_X1_readSaying_9 (zf_X1_readOne d) (nI o) tk pl (f + 1) acc (nI i) (nI k) (nI (tc k)) (-1) = some (v, w, a, t, ff) ∧ ((∃ k', k ≤ k' ∧ k' ≤ m ∧ a = nI k' ∧ t = nI (tc k') ∧ ff = -1 ∧ ¬ tc k' = 38 ∧ ¬ tc k' = 124 ∧ ∃ op' any' all', (∀ i, i < o → op' i = op i) ∧ (∀ i, i < l → any' i = any i) ∧ (∀ i, i < l → all' i = all i) ∧ v = any' l ||| all' l ∧ ∀ fuel, zt_Z n sd mt P Q tc (fuel + (k' - k)) 0 k o l op any all = zt_Z n sd mt P Q tc fuel 0 k' o l op' any' all') ∨ zt_Fl n sd mt P Q tc m ff 0 k o l op any all) := by
    intro k i acc op any all f hk hi ha hc hc2
    refine ⟨acc, nI i, nI k, nI (tc k), -1, ?_, Or.inl ⟨k, Nat.le_refl k, hk, rfl, rfl, rfl, hc, hc2, op, any, all, fun _ _ => rfl, fun _ _ => rfl, fun _ _ => rfl, ha, fun fuel => by rw [Nat.sub_self, Nat.add_zero]⟩⟩
    rw [zl_X1_readSaying_9, if_neg (show ¬ (300 : Int32) ≤ nI i from nI_ge (b := 300) (by omega) (by decide)), zt_if0, Option.bind_some, if_pos rfl, if_neg (show ¬ nI (tc k) = (124 : Int32) from zt_nIne (h.2.2.2.2.2.2.1 k).1 (c := 124) (by decide) hc2)]
  intro g
  induction g with
  | zero =>
    intro k i acc op any all fc h1 h2 h3 h4 h5 h6 h7
    obtain ⟨f, rfl⟩ : ∃ f, fc = f + 1 := ⟨fc - 1, by omega⟩
    have ek : k = m := by omega
    have hc : ¬ tc k = 124 := by rw [ek, h.2.2.2.2.1]; decide
    exact stop k i acc op any all f h3 h4 h6 h7 hc
  | succ g ih =>
    intro k i acc op any all fc h1 h2 h3 h4 h5 h6 h7
    obtain ⟨f, rfl⟩ : ∃ f, fc = f + 1 + 1 := ⟨fc - 2, by omega⟩
    by_cases hc : tc k = 124
    · have hkm : k < m := zt_lt h h3 (by rw [hc]; decide)
      obtain ⟨v1, a1, t1, f1, e1, hcase⟩ := zt_both2 h ho hl H (k + 1) op (vp_updL any l (any l ||| all l)) (vp_updL all l (-1)) (by omega) h5
      have step : zl_X1_readSaying_9 (zf_X1_readOne d) (nI o) tk pl (f + 1 + 1) acc (nI i) (nI k) (nI (tc k)) (-1) = zl_X1_readSaying_9 (zf_X1_readOne d) (nI o) tk pl (f + 1) (acc ||| v1) (nI (i + 1)) a1 t1 f1 := by
        rw [zl_X1_readSaying_9, if_neg (show ¬ (300 : Int32) ≤ nI i from nI_ge (b := 300) (by omega) (by decide)), zt_if0, Option.bind_some, if_pos rfl, if_pos (show nI (tc k) = (124 : Int32) by rw [hc]; rfl), zt_adv h hkm, Option.bind_some]
        show ((zf_X1_readBoth (zf_X1_readOne d) (nI o) (nI (k + 1)) (nI (tc (k + 1))) (-1) tk pl).bind _) = _
        rw [e1, Option.bind_some]
        show zl_X1_readSaying_9 (zf_X1_readOne d) (nI o) tk pl (f + 1) (acc ||| v1) (nI i + 1) a1 t1 f1 = _
        rw [nI_1]
      rw [step]
      have zstep : ∀ fuel, zt_Z n sd mt P Q tc (fuel + (k + 1 - k)) 0 k o l op any all = zt_Z n sd mt P Q tc fuel 1 (k + 1) o l op (vp_updL any l (any l ||| all l)) (vp_updL all l (-1)) := fun fuel => by
        rw [show fuel + (k + 1 - k) = fuel + 1 by omega]
        exact zt_2or h (by omega) hc
      rcases hcase with ⟨k1, q1, q2, q3, q4, q5, q6, op1, any1, all1, r1, r2, r3, r4, r5⟩ | hf
      · subst q3 q4 q5
        have hop : o = 0 ∨ ¬ op1 (o - 1) = 33 := by
          rcases h5 with z | z
          · exact Or.inl z
          · by_cases o0 : o = 0
            · exact Or.inl o0
            · right
              rw [r1 (o - 1) (by omega)]
              exact z
        obtain ⟨v, w, a, t, ff, e2, hcase2⟩ := ih k1 (i + 1) (acc ||| v1) op1 any1 all1 (f + 1) (by omega) (by omega) q2 (by omega) hop (by rw [r2 l (Nat.le_refl l), r4, pk_uLs, pk_uLs, zt_m1a, h6]) q6
        have zs2 : ∀ fuel, zt_Z n sd mt P Q tc (fuel + (k1 - k)) 0 k o l op any all = zt_Z n sd mt P Q tc fuel 0 k1 o l op1 any1 all1 := fun fuel => by
          rw [show fuel + (k1 - k) = (fuel + (k1 - (k + 1))) + (k + 1 - k) by omega, zstep, r5]
        refine ⟨v, w, a, t, ff, e2, ?_⟩
        rcases hcase2 with ⟨k', s1, s2, s3, s4, s5, s6, s7, op', any', all', u2, u3, u4, u5, u6⟩ | hf2
        · refine Or.inl ⟨k', by omega, s2, s3, s4, s5, s6, s7, op', any', all', fun i hi => by rw [u2 i hi, r1 i hi], fun i hi => by rw [u3 i hi, r2 i (by omega), pk_uLn (by omega)], fun i hi => by rw [u4 i hi, r3 i hi, pk_uLn (by omega)], u5, fun fuel => ?_⟩
          rw [show fuel + (k' - k) = (fuel + (k' - k1)) + (k1 - k) by omega, zs2, u6]
        · exact Or.inr (zt_Fl_by (by omega) q2 zs2 hf2)
      · have hne := zt_Fl_ne h hf
        rw [zt_sayF hne]
        exact ⟨_, _, _, _, _, rfl, Or.inr (zt_Fl_by (by omega) (by omega) zstep hf)⟩
    · exact stop k i acc op any all (f + 1) h3 h4 h6 h7 hc
theorem zt_say2 (h : zt_St n mt tk pl P Q tc m) {d o l : Nat} (ho : o ≤ 8) (hl : l ≤ o) (H : zt_One n sd mt tk pl P Q tc m d o) (k : Nat) (op : Nat → Int32) (any all : Nat → Int64) (hk : k ≤ m) (h5 : o = 0 ∨ ¬ op (o - 1) = 33) (ha : any l = 0) (hb : all l = -1) : ∃ v a t f, zf_X1_readSaying (zf_X1_readOne d) (nI o) (nI k) (nI (tc k)) (-1) tk pl = some (v, a, t, f) ∧ ((∃ k', k < k' ∧ k' ≤ m ∧ a = nI k' ∧ t = nI (tc k') ∧ f = -1 ∧ ¬ tc k' = 38 ∧ ¬ tc k' = 124 ∧ ∃ op' any' all', (∀ i, i < o → op' i = op i) ∧ (∀ i, i < l → any' i = any i) ∧ (∀ i, i < l → all' i = all i) ∧ v = any' l ||| all' l ∧ ∀ fuel, zt_Z n sd mt P Q tc (fuel + (k' - k)) 1 k o l op any all = zt_Z n sd mt P Q tc fuel 0 k' o l op' any' all') ∨ zt_Fl n sd mt P Q tc m f 1 k o l op any all) := by
  have hm : m ≤ 300 := h.1
  obtain ⟨v1, a1, t1, f1, e1, hcase⟩ := zt_both2 h ho hl H k op any all hk h5
  unfold zf_X1_readSaying
  rw [e1, Option.bind_some]
  rcases hcase with ⟨k1, q1, q2, q3, q4, q5, q6, op1, any1, all1, r1, r2, r3, r4, r5⟩ | hf
  · subst q3 q4 q5
    have hop : o = 0 ∨ ¬ op1 (o - 1) = 33 := by
      rcases h5 with z | z
      · exact Or.inl z
      · by_cases o0 : o = 0
        · exact Or.inl o0
        · right
          rw [r1 (o - 1) (by omega)]
          exact z
    obtain ⟨v, w, a, t, ff, e2, hcase2⟩ := zt_sayL h ho hl H (m - k1) k1 0 v1 op1 any1 all1 zk_F (Nat.le_refl _) (by rw [zs_F]; omega) q2 (by omega) hop (by rw [r2 l (Nat.le_refl l), r4, ha, hb, zt_m1a, zt_0or]) q6
    refine ⟨v, a, t, ff, ?_, ?_⟩
    · show (zl_X1_readSaying_9 (zf_X1_readOne d) (nI o) tk pl zk_F v1 (nI 0) (nI k1) (nI (tc k1)) (-1)).bind _ = _
      rw [e2]
      rfl
    · rcases hcase2 with ⟨k', s1, s2, s3, s4, s5, s6, s7, op', any', all', u2, u3, u4, u5, u6⟩ | hf2
      · refine Or.inl ⟨k', by omega, s2, s3, s4, s5, s6, s7, op', any', all', fun i hi => by rw [u2 i hi, r1 i hi], fun i hi => by rw [u3 i hi, r2 i (by omega)], fun i hi => by rw [u4 i hi, r3 i hi], u5, fun fuel => ?_⟩
        rw [show fuel + (k' - k) = (fuel + (k' - k1)) + (k1 - k) by omega, r5, u6]
      · exact Or.inr (zt_Fl_by (by omega) q2 r5 hf2)
  · have hne := zt_Fl_ne h hf
    refine ⟨v1, a1, t1, f1, ?_, Or.inr hf⟩
    show (zl_X1_readSaying_9 (zf_X1_readOne d) (nI o) tk pl (4999 + 1) v1 (0 : Int32) a1 t1 f1).bind _ = _
    rw [zt_sayF hne]
    rfl
theorem zt_one (h : zt_St n mt tk pl P Q tc m) : ∀ d o, o ≤ 8 → 9 ≤ d + o → zt_One n sd mt tk pl P Q tc m d o := by
  intro d
  induction d with
  | zero => intro o h1 h2; omega
  | succ d ih =>
    intro o ho hd k l op any all hk hl
    have hm : m ≤ 300 := h.1
    have hv := h.2.2.2.2.2.2.1 k
    have e1 : nI o + (1 : Int32) = nI (o + 1) := nI_1 o
    rw [zf_X1_readOne, zt_if0, Option.bind_some, if_pos rfl, zt_bone _ hv.1 o (by omega), Option.bind_some, e1]
    cases hbo : zt_bo (tc k) o with
    | false =>
      rw [if_pos (show zs_o false = 0 from rfl), zt_fail h hk, Option.bind_some]
      refine ⟨_, _, _, _, rfl, Or.inr ⟨k, hk, rfl, fun fuel hfu => ?_⟩⟩
      obtain ⟨f, rfl⟩ : ∃ f, fuel = f + 1 := ⟨fuel - 1, by omega⟩
      have hP := h.2.2.2.2.2.2.2 k
      exact ⟨_, zt_1bad h ho hbo, nI_pos' (by omega), rfl⟩
    | true =>
      have hkm : k < m := zt_lt h hk (fun q => by rw [q] at hbo; revert hbo; unfold zt_bo; simp)
      rw [if_neg (show ¬ zs_o true = 0 by decide), zt_adv h hkm, Option.bind_some]
      by_cases c33 : tc k = 33
      · have ho8 : o < 8 := by
          rw [c33] at hbo
          unfold zt_bo at hbo
          rw [if_pos (Or.inl rfl)] at hbo
          exact of_decide_eq_true hbo
        rw [if_pos (show nI (tc k) = (33 : Int32) by rw [c33]; rfl)]
        obtain ⟨v, a, t, f, e2, hcase⟩ := ih (o + 1) (by omega) (by omega) (k + 1) l (upd op o 33) any all (by omega) (by omega)
        rw [e2, Option.bind_some]
        have zstep : ∀ fuel, zt_Z n sd mt P Q tc (fuel + (k + 1 - k)) 1 k o l op any all = zt_Z n sd mt P Q tc fuel 1 (k + 1) (o + 1) l (upd op o 33) any all := fun fuel => by
          rw [show fuel + (k + 1 - k) = fuel + 1 by omega]
          exact zt_1not h ho8 c33
        refine ⟨_, _, _, _, rfl, ?_⟩
        rcases hcase with ⟨k', q1, q2, q3, q4, q5, op', any', all', r1, r2, r3, r4⟩ | hf
        · refine Or.inl ⟨k', by omega, q2, q3, q4, q5, op', any', all', fun i hi => by rw [r1 i (by omega), pk_un (by omega)], r2, r3, fun fuel => ?_⟩
          have eE : zt_E op' (o + 1) v = zt_E op' o (v ^^^ (-1)) := by
            rw [zt_E, if_pos (by rw [r1 o (by omega), pk_us])]
          rw [show fuel + (k' - k) = (fuel + (k' - (k + 1))) + (k + 1 - k) by omega, zstep, r4, eE]
        · exact Or.inr (zt_Fl_by (by omega) (by omega) zstep hf)
      · rw [if_neg (show ¬ nI (tc k) = (33 : Int32) from zt_nIne hv.1 (c := 33) (by decide) c33)]
        by_cases c40 : tc k = 40
        · have ho8 : o < 8 := by
            rw [c40] at hbo
            unfold zt_bo at hbo
            rw [if_pos (Or.inr rfl)] at hbo
            exact of_decide_eq_true hbo
          rw [if_pos (show nI (tc k) = (40 : Int32) by rw [c40]; rfl)]
          have zstep : ∀ fuel, zt_Z n sd mt P Q tc (fuel + (k + 1 - k)) 1 k o l op any all = zt_Z n sd mt P Q tc fuel 1 (k + 1) (o + 1) (l + 1) (upd op o 40) (vp_updL any (l + 1) 0) (vp_updL all (l + 1) (-1)) := fun fuel => by
            rw [show fuel + (k + 1 - k) = fuel + 1 by omega]
            exact zt_1open h ho8 (by omega) c40
          obtain ⟨v, a, t, f, e2, hcase⟩ := zt_say2 h (o := o + 1) (l := l + 1) (by omega) (by omega) (ih (o + 1) (by omega) (by omega)) (k + 1) (upd op o 40) (vp_updL any (l + 1) 0) (vp_updL all (l + 1) (-1)) (by omega) (Or.inr (by rw [Nat.add_sub_cancel, pk_us]; decide)) pk_uLs pk_uLs
          rw [e2, Option.bind_some]
          rcases hcase with ⟨k1, q1, q2, q3, q4, q5, q6, q7, op', any', all', r1, r2, r3, r4, r5⟩ | hf
          · subst q3 q4 q5
            have zs2 : ∀ fuel, zt_Z n sd mt P Q tc (fuel + (k1 - k)) 1 k o l op any all = zt_Z n sd mt P Q tc fuel 0 k1 (o + 1) (l + 1) op' any' all' := fun fuel => by
              rw [show fuel + (k1 - k) = (fuel + (k1 - (k + 1))) + (k + 1 - k) by omega, zstep, r5]
            by_cases c41 : tc k1 = 41
            · have hk1 : k1 < m := zt_lt h q2 (by rw [c41]; decide)
              have ee := zt_expY h (k := k1) (c := 41) hk1 c41
              have ee' : zf_X1_expect (41 : Int32) (nI k1) (nI (tc k1)) (-1) tk pl = some (nI (k1 + 1), nI (tc (k1 + 1)), -1) := ee
              rw [ee', Option.bind_some]
              refine ⟨_, _, _, _, rfl, Or.inl ⟨k1 + 1, by omega, by omega, rfl, rfl, rfl, op', any', all', fun i hi => by rw [r1 i (by omega), pk_un (by omega)], fun i hi => by rw [r2 i (by omega), pk_uLn (by omega)], fun i hi => by rw [r3 i (by omega), pk_uLn (by omega)], fun fuel => ?_⟩⟩
              rw [show fuel + (k1 + 1 - k) = (fuel + 1) + (k1 - k) by omega, zs2, zt_2close h (by omega) (by omega) c41, r4]
            · have ee := zt_expN h (k := k1) (c := 41) q2 c41 (by decide)
              have ee' : zf_X1_expect (41 : Int32) (nI k1) (nI (tc k1)) (-1) tk pl = some (nI k1, nI (tc k1), nI (P k1)) := ee
              rw [ee', Option.bind_some]
              refine ⟨_, _, _, _, rfl, Or.inr (zt_Fl_by (by omega) q2 zs2 ⟨k1, q2, rfl, fun fuel hfu => ?_⟩)⟩
              obtain ⟨f, rfl⟩ : ∃ f, fuel = f + 1 := ⟨fuel - 1, by omega⟩
              have hP := h.2.2.2.2.2.2.2 k1
              refine ⟨_, zt_2end h (by omega) q6 q7 (Or.inl c41), ?_, rfl⟩
              show 0 ≤ (if l + 1 = 0 then (-1 : Int32) else nI (P k1))
              rw [if_neg (by omega)]
              exact nI_pos' (by omega)
          · have hne := zt_Fl_ne h hf
            rw [zt_expF hne, Option.bind_some]
            exact ⟨_, _, _, _, rfl, Or.inr (zt_Fl_by (by omega) (by omega) zstep hf)⟩
        · rw [if_neg (show ¬ nI (tc k) = (40 : Int32) from zt_nIne hv.1 (c := 40) (by decide) c40), zt_isLetter _ hv.1, Option.bind_some]
          suffices hs : ∃ a t f, (if zs_o (decide (97 ≤ tc k) && decide (tc k ≤ 102)) = 0 then (if nI (tc k) = (49 : Int32) then some ((-1 : Int64), nI (k + 1), nI (tc (k + 1)), (-1 : Int32)) else some ((0 : Int64), nI (k + 1), nI (tc (k + 1)), (-1 : Int32))) else zk_gd (zk_in (nI (tc k) - (97 : Int32)) 6) (some (zk_LS (nI (tc k) - (97 : Int32)).toNatClampNeg, nI (k + 1), nI (tc (k + 1)), (-1 : Int32)))) = some (zt_val (tc k), a, t, f) ∧ a = nI (k + 1) ∧ t = nI (tc (k + 1)) ∧ f = -1 by
            obtain ⟨a, t, f, e2, q3, q4, q5⟩ := hs
            refine ⟨_, _, _, _, e2, Or.inl ⟨k + 1, by omega, by omega, q3, q4, q5, op, any, all, fun _ _ => rfl, fun _ _ => rfl, fun _ _ => rfl, fun fuel => ?_⟩⟩
            rw [show fuel + (k + 1 - k) = fuel + 1 by omega]
            exact zt_1leaf h ho (by omega) hbo c33 c40
          unfold zt_val
          unfold zt_bo at hbo
          rw [if_neg (by omega)] at hbo
          by_cases c48 : tc k = 48
          · rw [c48, if_pos (show zs_o (decide (97 ≤ 48) && decide (48 ≤ 102)) = 0 from rfl), if_neg (show ¬ nI 48 = (49 : Int32) by decide), if_pos rfl]
            exact ⟨_, _, _, rfl, rfl, rfl, rfl⟩
          · by_cases c49 : tc k = 49
            · rw [c49, if_pos (show zs_o (decide (97 ≤ 49) && decide (49 ≤ 102)) = 0 from rfl), if_pos (show nI 49 = (49 : Int32) from rfl), if_neg (by decide), if_pos rfl]
              exact ⟨_, _, _, rfl, rfl, rfl, rfl⟩
            · have hle : 97 ≤ tc k ∧ tc k ≤ 102 := by
                simp [c48, c49] at hbo
                exact hbo
              have e97 : nI (tc k) - (97 : Int32) = nI (tc k - 97) := pk_sub (b := 97) hle.1
              rw [decide_eq_true hle.1, decide_eq_true hle.2, if_neg (show ¬ zs_o (true && true) = 0 by decide), if_neg c48, if_neg c49, e97, zs_zin (n := tc k - 97) (by omega) (by omega), nI_clamp (by omega)]
              exact ⟨_, _, _, rfl, rfl, rfl, rfl⟩
/-- a SAYING of its own -/
theorem zt_top (h : zt_St n mt tk pl P Q tc m) (sd : Int64) {k : Nat} (hk : k ≤ m) (op : Nat → Int32) (any all : Nat → Int64) : ∃ v a t f, zf_X1_readSaying (zf_X1_readOne 10) (0 : Int32) (nI k) (nI (tc k)) (-1) tk pl = some (v, a, t, f) ∧ ((∃ k', k < k' ∧ k' ≤ m ∧ a = nI k' ∧ t = nI (tc k') ∧ f = -1 ∧ ∃ op' any' all', zf_X5_saying (nI n) (nI (P k)) (nI (Q k)) (zt_r (tc k)) sd mt op any all = some ((-1 : Int32), nI (P k'), nI (Q k'), zt_r (tc k'), nI 0, nI 0, v, op', any', all')) ∨ (¬ f = -1 ∧ ∃ j, j ≤ m ∧ f = nI (P j) ∧ ∃ r, zf_X5_saying (nI n) (nI (P k)) (nI (Q k)) (zt_r (tc k)) sd mt op any all = some r ∧ 0 ≤ r.1 ∧ r.2.1 = nI (P j))) := by
  have hm : m ≤ 300 := h.1
  obtain ⟨v, a, t, f, e2, hcase⟩ := zt_say2 (sd := sd) h (o := 0) (l := 0) (by omega) (Nat.le_refl 0) (zt_one h 10 0 (by omega) (by omega)) k op (vp_updL any 0 0) (vp_updL all 0 (-1)) hk (Or.inl rfl) pk_uLs pk_uLs
  have e2' : zf_X1_readSaying (zf_X1_readOne 10) (0 : Int32) (nI k) (nI (tc k)) (-1) tk pl = some (v, a, t, f) := e2
  have hsay : ∀ r, zt_Z n sd mt P Q tc 5000 1 k 0 0 op (vp_updL any 0 0) (vp_updL all 0 (-1)) = some r → zf_X5_saying (nI n) (nI (P k)) (nI (Q k)) (zt_r (tc k)) sd mt op any all = some r := by
    intro r hr
    have hr' : zl_X5_saying_28 (nI n) sd mt zk_F (1 : Int32) (nI (P k)) (nI (Q k)) (zt_r (tc k)) (0 : Int32) (0 : Int32) op (vp_updL any (0 : Int32).toNatClampNeg (0 : Int64)) (vp_updL all (0 : Int32).toNatClampNeg (-1 : Int64)) = some r := hr
    unfold zf_X5_saying
    rw [hr']
    rfl
  refine ⟨v, a, t, f, e2', ?_⟩
  rcases hcase with ⟨k1, q1, q2, q3, q4, q5, q6, q7, op', any', all', r1, r2, r3, r4, r5⟩ | hf
  · refine Or.inl ⟨k1, q1, q2, q3, q4, q5, op', any', all', hsay _ ?_⟩
    rw [show 5000 = (4999 - (k1 - k) + 1) + (k1 - k) by omega, r5, zt_2end h (by omega) q6 q7 (Or.inr rfl), r4]
    rfl
  · have hne := zt_Fl_ne h hf
    obtain ⟨j, j1, j2, j3⟩ := hf
    obtain ⟨r, s1, s2, s3⟩ := j3 5000 (by omega)
    exact Or.inr ⟨hne, j, j1, j2, r, hsay r s1, s2, s3⟩
end
