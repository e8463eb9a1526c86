def zs_ini (s : Int64) (o : Nat) : Nat := if zs_bit s o then 0 else 1000
/-- letters below l have been changed -/
def zs_rel (c : Nat → Nat) (s : Int64) (l : Nat) (old : Nat → Nat) : Prop := ∀ w, w < 64 → (∃ o, o < 64 ∧ w ^^^ o < 2 ^ l ∧ old w = zs_ini s o + zs_sum c (w ^^^ o)) ∧ ∀ o, o < 64 → w ^^^ o < 2 ^ l → old w ≤ zs_ini s o + zs_sum c (w ^^^ o)
theorem zs_lo : ∀ l, l < 6 → ∀ x, x < 64 → x < 2 ^ (l + 1) → x.testBit l = false → x < 2 ^ l := by decide +kernel
theorem zs_hi : ∀ l, l < 6 → ∀ x, x < 64 → x < 2 ^ (l + 1) → x.testBit l = true → x ^^^ 2 ^ l < 2 ^ l := by decide +kernel
theorem zs_up : ∀ l, l < 6 → ∀ x, x < 64 → x < 2 ^ l → x ^^^ 2 ^ l < 2 ^ (l + 1) ∧ (x ^^^ 2 ^ l).testBit l = true := by decide +kernel
theorem zs_x64 {a b : Nat} (ha : a < 64) (hb : b < 64) : a ^^^ b < 64 := Nat.xor_lt_two_pow (n := 6) ha hb
theorem zs_x3 (w o l : Nat) : (w ^^^ 2 ^ l) ^^^ o = (w ^^^ o) ^^^ 2 ^ l := by rw [Nat.xor_assoc, Nat.xor_comm (2 ^ l) o, ← Nat.xor_assoc]
theorem zs_rel_0 (c : Nat → Nat) (s : Int64) : zs_rel c s 0 (zs_ini s) := by
  have h0 : zs_sum c 0 = 0 := zs_len0 false c
  intro w hw
  refine ⟨⟨w, hw, by rw [Nat.xor_self]; decide, by rw [Nat.xor_self, h0]; rfl⟩, fun o ho h => ?_⟩
  have e : w ^^^ o = 0 := by omega
  rw [e, h0, zs_xor0 e]
  exact Nat.le_refl _
theorem zs_rel_s {c : Nat → Nat} {s : Int64} {l : Nat} {old : Nat → Nat} (hl : l < 6) (h : zs_rel c s l old) : zs_rel c s (l + 1) (fun x => min (old x) (old (x ^^^ 2 ^ l) + c l)) := by
  have hp : 2 ^ (l + 1) = 2 * 2 ^ l := by rw [Nat.pow_succ]; omega
  intro w hw
  have hw' := zs_xl hw hl
  obtain ⟨⟨o1, a1, a2, a3⟩, a4⟩ := h w hw
  obtain ⟨⟨o2, b1, b2, b3⟩, b4⟩ := h _ hw'
  refine ⟨?_, fun o ho hx => ?_⟩
  · by_cases hc : old w ≤ old (w ^^^ 2 ^ l) + c l
    · exact ⟨o1, a1, by omega, by show min _ _ = _; omega⟩
    · have hx2 := zs_x64 hw b1
      have hx3 := zs_x64 hw' b1
      have e : w ^^^ o2 = ((w ^^^ 2 ^ l) ^^^ o2) ^^^ 2 ^ l := by rw [zs_x3, zs_xx]
      obtain ⟨u1, u2⟩ := zs_up l hl _ hx3 b2
      refine ⟨o2, b1, by rw [e]; exact u1, ?_⟩
      have e2 : zs_sum c (w ^^^ o2) = zs_sum c ((w ^^^ 2 ^ l) ^^^ o2) + c l := by
        rw [e, zs_sum_tz hl u2, zs_xx]
      show min _ _ = _
      omega
  · have hx2 := zs_x64 hw ho
    by_cases hb : (w ^^^ o).testBit l = true
    · have h1 := zs_hi l hl _ hx2 hx hb
      have h2 := b4 o ho (by rw [zs_x3]; exact h1)
      rw [zs_x3] at h2
      have h3 := zs_sum_tz (c := c) hl hb
      show min _ _ ≤ _
      omega
    · have h1 := zs_lo l hl _ hx2 hx (ts_nt hb)
      have h2 := a4 o ho h1
      show min _ _ ≤ _
      omega
theorem zs_rel_le {c : Nat → Nat} {s : Int64} {l : Nat} {old : Nat → Nat} (h : zs_rel c s l old) {x : Nat} (hx : x < 64) : old x ≤ 1000 := by
  have h1 := (h x hx).2 x hx (by rw [Nat.xor_self]; exact Nat.two_pow_pos l)
  have h0 : zs_sum c 0 = 0 := zs_len0 false c
  rw [Nat.xor_self, h0] at h1
  have h2 : zs_ini s x ≤ 1000 := by
    unfold zs_ini
    by_cases hb : zs_bit s x = true
    · rw [if_pos hb]; omega
    · rw [if_neg hb]; omega
  omega
theorem zs_rel_6 {c : Nat → Nat} (hc : ∀ l, l < 6 → c l ≤ 9) {s : Int64} {old : Nat → Nat} (h : zs_rel c s 6 old) {o0 : Nat} (h0 : o0 < 64) (hb0 : zs_bit s o0 = true) {w : Nat} (hw : w < 64) : zs_far false c s w = old w := by
  obtain ⟨⟨o, a1, a2, a3⟩, a4⟩ := h w hw
  have h1 := a4 o0 h0 (zs_x64 hw h0)
  have h2 := zs_sum_le hc (w ^^^ o0)
  have hi0 : zs_ini s o0 = 0 := by unfold zs_ini; rw [if_pos hb0]
  have hbo : zs_bit s o = true := by
    by_cases hb : zs_bit s o = true
    · exact hb
    · have : zs_ini s o = 1000 := by unfold zs_ini; rw [if_neg hb]
      omega
  have hio : zs_ini s o = 0 := by unfold zs_ini; rw [if_pos hbo]
  refine zs_far_is a1 hbo ?_ (fun q hq hbq => ?_)
  · show zs_sum c (w ^^^ o) = old w
    omega
  · have := a4 q hq (zs_x64 hw hq)
    have hiq : zs_ini s q = 0 := by unfold zs_ini; rw [if_pos hbq]
    show old w ≤ zs_sum c (w ^^^ q)
    omega
theorem zs_ex {s : Int64} (h : ¬ s = 0) : ∃ o, o < 64 ∧ zs_bit s o = true := by
  apply Classical.byContradiction
  intro hn
  apply h
  apply zs_ext
  intro w hw
  rw [zs_bit_0]
  exact ts_nt (fun q => hn ⟨w, hw, q⟩)
theorem zs_row {al : Bool} {me : Int32} (hme : me = zs_o al) {c : Nat → Nat} {costs : Nat → Int32} (hc : ∀ l, l < 6 → c l ≤ 9 ∧ costs l = nI (c l)) (s : Int64) (f : Nat → Int64) : ∃ g, zf_X0_findFars s 64 me costs f = some g ∧ ∀ w, w < 64 → g w = lN (zs_far al c s w) := by
  unfold zf_X0_findFars
  by_cases hs : s = 0
  · rw [if_pos ((lg_cmp_eq _ _).mpr hs)]
    obtain ⟨g, h1, h2⟩ := zs_fill 0 f
    rw [h1]
    refine ⟨g, rfl, fun w hw => ?_⟩
    rw [h2 w hw, zs_far_0 (fun o _ => by rw [hs]; exact zs_bit_0 o)]
    rfl
  · rw [if_neg (fun q => hs ((lg_cmp_eq _ _).mp q))]
    obtain ⟨o0, ho0, hb0⟩ := zs_ex hs
    cases al with
    | true =>
      rw [hme, if_neg (show ¬ zs_o true = 0 by decide), Option.bind_some]
      obtain ⟨r, h1, h2⟩ := zs_marks s 1 f
      rw [h1, Option.bind_some, if_neg (show ¬ zs_o true = 0 by decide)]
      refine ⟨r.2, rfl, fun w hw => ?_⟩
      rw [h2 w hw]
      by_cases hb : zs_bit s w = true
      · rw [if_pos hb, zs_far_is hw hb (m := 0) (by rw [Nat.xor_self, zs_len0]) (fun _ _ _ => Nat.zero_le _)]
        rfl
      · rw [if_neg hb, zs_far_is ho0 hb0 (m := 1)]
        · rfl
        · show (if w ^^^ o0 = 0 then 0 else 1) = 1
          rw [if_neg (fun q => hb (by rw [zs_xor0 q]; exact hb0))]
        · intro o ho hbo
          show 1 ≤ (if w ^^^ o = 0 then 0 else 1)
          rw [if_neg (fun q => hb (by rw [zs_xor0 q]; exact hbo))]
          exact Nat.le_refl 1
    | false =>
      rw [hme, if_pos (show zs_o false = 0 from rfl), Option.bind_some]
      obtain ⟨r, h1, h2⟩ := zs_marks s 1000 f
      rw [h1, Option.bind_some, if_pos (show zs_o false = 0 from rfl)]
      have h := zs_for (fun n (a : Nat → Int64) i => zl_X0_findFars_73 costs 64 n (nI i) a) 6 (fun i a => i ≤ 6 ∧ ∃ old, zs_rel c s i old ∧ ∀ x, x < 64 → a x = lN (old x)) (fun r => ∃ old, zs_rel c s 6 old ∧ ∀ x, x < 64 → r.2 x = lN (old x)) (by
        intro n a ha
        refine ⟨(nI 6, a), ?_, ha.2⟩
        show zl_X0_findFars_73 costs 64 (n + 1) (nI 6) a = _
        rw [zl_X0_findFars_73, if_pos (show (6 : Int32) ≤ nI 6 by decide)]) (by
        intro n i a hi ha
        right
        obtain ⟨-, old, hr, ho⟩ := ha
        obtain ⟨g, g1, g2⟩ := zs_spread (l := i) (cc := c i) hi (hc i hi).1 (old := old) (fun x hx => by have := zs_rel_le hr hx; omega) ho
        refine ⟨g, ?_, by omega, _, zs_rel_s hi hr, g2⟩
        show zl_X0_findFars_73 costs 64 (n + 1) (nI i) a = zl_X0_findFars_73 costs 64 n (nI (i + 1)) g
        rw [zl_X0_findFars_73, if_neg (show ¬ (6 : Int32) ≤ nI i from nI_ge hi (by decide)), zs_zin hi (by omega), zs_shl1 i (by omega), nI_clamp (by omega), (hc i hi).2, g1]
        show zl_X0_findFars_73 costs 64 n (nI i + 1) g = _
        rw [nI_1])
      obtain ⟨r2, k1, old, k2, k3⟩ := h 6 0 r.2 zk_F (by omega) (by rw [zs_F]; omega) ⟨by omega, zs_ini s, zs_rel_0 c s, fun x hx => by
        rw [h2 x hx]
        unfold zs_ini
        by_cases hb : zs_bit s x = true
        · rw [if_pos hb, if_pos hb]; rfl
        · rw [if_neg hb, if_neg hb]; rfl⟩
      have k1' : zl_X0_findFars_73 costs 64 zk_F (0 : Int32) r.2 = some r2 := k1
      rw [k1']
      refine ⟨r2.2, rfl, fun w hw => ?_⟩
      rw [k3 w hw, zs_rel_6 (fun l hl => (hc l hl).1) k2 ho0 hb0 hw]
theorem zs_fars {al : Bool} {me : Int32} (hme : me = zs_o al) {c : Nat → Nat} {costs : Nat → Int32} (hc : ∀ l, l < 6 → c l ≤ 9 ∧ costs l = nI (c l)) {k : Nat} (hk : k ≤ 7) (says : Nat → Int64) (lens : Nat → Int32) (F : Nat → Nat → Int64) : ∃ g, zf_X4_findFars (nI k) says me costs lens F = some g ∧ (∀ x, x < 64 → g.1 x = nI (zs_len al c x)) ∧ ∀ i, i < k → ∀ w, w < 64 → g.2 i w = lN (zs_far al c (says i) w) := by
  obtain ⟨g1, e1, e2⟩ := zs_lengths hme (f := lens) hc
  have h := zs_for (fun n (a : Nat → Nat → Int64) i => zl_X4_findFars_9 (nI k) says me costs n (nI i) a) k (fun i a => i ≤ k ∧ ∀ j, j < i → ∀ w, w < 64 → a j w = lN (zs_far al c (says j) w)) (fun r => ∀ j, j < k → ∀ w, w < 64 → r.2 j w = lN (zs_far al c (says j) w)) (by
    intro n a ha
    refine ⟨(nI k, a), ?_, ha.2⟩
    show zl_X4_findFars_9 (nI k) says me costs (n + 1) (nI k) a = _
    rw [zl_X4_findFars_9, if_pos (nI_le (Nat.le_refl _) (by omega))]) (by
    intro n i a hi ha
    right
    obtain ⟨g, q1, q2⟩ := zs_row hme hc (says i) (a i)
    refine ⟨zk_upr a i g, ?_, by omega, fun j hj w hw => ?_⟩
    · show zl_X4_findFars_9 (nI k) says me costs (n + 1) (nI i) a = zl_X4_findFars_9 (nI k) says me costs n (nI (i + 1)) _
      rw [zl_X4_findFars_9, if_neg (nI_ge hi (by omega)), zs_zin (by omega) (by omega), nI_clamp (by omega), q1]
      show zl_X4_findFars_9 (nI k) says me costs n (nI i + 1) (zk_upr a i g) = _
      rw [nI_1]
    · unfold zk_upr
      by_cases e : j = i
      · subst e; rw [if_pos rfl]; exact q2 w hw
      · rw [if_neg e]; exact ha.2 j (by omega) w hw)
  obtain ⟨r, h1, h2⟩ := h k 0 F zk_F (by omega) (by rw [zs_F]; omega) ⟨by omega, fun j hj => absurd hj (by omega)⟩
  have h1' : zl_X4_findFars_9 (nI k) says me costs zk_F (0 : Int32) F = some r := h1
  refine ⟨(g1, r.2), ?_, e2, h2⟩
  unfold zf_X4_findFars
  rw [e1, Option.bind_some, h1']
  rfl
theorem zp_measure : zh_measure zi_Inv := by
  intro v_sm_asked v_sm_traced v_tx_length f_tx_bytes f_tx_tokens f_tx_places v_rd_at v_rd_token v_rd_fault v_td_laws v_td_there v_td_sayers f_td_says f_td_weights v_sp_laws v_sp_there v_sp_sayers f_sp_says f_sp_weights v_ds_alike f_ds_costs f_ds_lengths f_sm_fars f_sm_common f_sm_others f_sm_scale v_md_length v_md_laws v_md_sayers v_md_there v_md_question v_md_measure v_md_trace v_md_readLaws v_md_readSayers v_md_readThere v_md_begin v_md_end v_md_sort v_md_open v_md_level v_md_said f_md_text f_md_weight f_md_says f_md_cost f_md_readWeight f_md_readSays f_md_opened f_md_any f_md_all f_md_burdens f_md_best f_md_own f_md_truth x0 hI
  obtain ⟨n, k, c, al, h1, h2, h3, h4, h5, ⟨s1, s2, s3, s4⟩, ⟨d1, d2, d3, d4⟩, h7, h8⟩ := id hI
  have hcc : ∀ l, l < 6 → c l ≤ 9 ∧ f_ds_costs l = nI (c l) := fun l hl => ⟨(d3 l hl).1, (d3 l hl).2.1⟩
  unfold zf_X4_measure zf_X5_measure
  have hin := zs_in2 x0 1 (by omega)
  have hl1 : (lN 1 : Int64) = 1 := rfl
  rw [hl1] at hin
  rcases hin with ⟨j, hj, ej, q⟩ | ⟨q3, q4⟩
  · obtain ⟨b, eb⟩ : ∃ b : Bool, x0 = zs_o b := by
      rcases (show j = 0 ∨ j = 1 by omega) with rfl | rfl
      · exact ⟨false, ej⟩
      · exact ⟨true, ej⟩
    have hh : (if x0 = 0 then some (Sum.inl () : Unit ⊕ (Int32 × Int32 × (Nat → Int32) × (Nat → Nat → Int64))) else if x0 = (1 : Int32) then some (Sum.inl ()) else some (Sum.inr ((-1 : Int32), v_ds_alike, f_ds_lengths, f_sm_fars))) = some (Sum.inl ()) := by
      cases b with
      | false => rw [if_pos (show x0 = 0 from eb)]
      | true => rw [if_neg (by rw [eb]; decide), if_pos (show x0 = 1 from eb)]
    have hw : (if v_ds_alike = 0 then some (0 : Int32) else some (1 : Int32)) = some v_md_measure := by
      rw [d1, d2]; cases al <;> rfl
    rw [q, hh, Option.bind_some, Option.bind_some, if_neg (show ¬ (1 : Int32) = 0 by decide)]
    show ∃ (v1 : Int32 × Int32 × (Nat → Int32) × (Nat → Nat → Int64)) (v2 : Int32 × Int32), ((if v_ds_alike = 0 then some (0 : Int32) else some (1 : Int32)).bind _) = some v1 ∧ _
    rw [hw, Option.bind_some]
    obtain ⟨g, g1, g2, g3⟩ := zs_fars (al := b) (me := x0) eb hcc s1 f_td_says f_ds_lengths f_sm_fars
    have key : (if x0 = (1 : Int32) then (zf_X4_findFars v_td_sayers f_td_says (1 : Int32) f_ds_costs f_ds_lengths f_sm_fars).bind (fun v5 => some (v_md_measure, (1 : Int32), v5.1, v5.2)) else (zf_X4_findFars v_td_sayers f_td_says (0 : Int32) f_ds_costs f_ds_lengths f_sm_fars).bind (fun v4 => some (v_md_measure, (0 : Int32), v4.1, v4.2))) = some (v_md_measure, x0, g.1, g.2) := by
      rw [s2]
      cases b with
      | true =>
        have ex : x0 = 1 := eb
        subst ex
        rw [if_pos rfl, g1]; rfl
      | false =>
        have ex : x0 = 0 := eb
        subst ex
        rw [if_neg (by decide), g1]; rfl
    refine ⟨_, _, key, rfl, rfl, n, k, c, b, h1, h2, h3, h4, h5, ⟨s1, s2, s3, s4⟩, ⟨eb, eb, d3, g2⟩, g3, h8⟩
  · rw [q4, Option.bind_some, if_pos rfl]
    have a0 : ¬ x0 = 0 := fun q => by rw [q] at q3; have : (0 : Int32).toInt = 0 := rfl; omega
    have a1 : ¬ x0 = 1 := fun q => by rw [q] at q3; have : (1 : Int32).toInt = 1 := rfl; omega
    rw [if_neg a0, if_neg a1]
    exact ⟨_, _, rfl, rfl, rfl, hI⟩
