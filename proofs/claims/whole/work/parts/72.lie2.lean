theorem zs_tm2 : ∀ a, a < 64 → ∀ b, b < 64 → nI (64 * a + b) / 64 = nI a ∧ nI (64 * a + b) - nI (64 * a + b) / 64 * 64 = nI b := by decide +kernel
theorem zs_tm {t : Nat} (h : t < 4096) : nI t / 64 = nI (t / 64) ∧ nI t - nI t / 64 * 64 = nI (t % 64) := by
  have h1 := zs_tm2 (t / 64) (by omega) (t % 64) (by omega)
  rw [show 64 * (t / 64) + t % 64 = t by omega] at h1
  exact h1
def zs_ok (t : Nat) : Bool := decide ((t / 64) &&& (t % 64) = 0)
theorem zs_ok_iff (t : Nat) : (nI (t / 64) &&& nI (t % 64) = 0) ↔ zs_ok t = true := by
  unfold zs_ok
  have h : (t / 64) &&& (t % 64) < 64 := Nat.lt_of_le_of_lt Nat.and_le_right (by omega)
  rw [nx_and, decide_eq_true_eq, show (0 : Int32) = nI 0 from rfl, nI_eq (by omega) (by omega)]
def zs_bl (L : Nat → Nat) (T0 : Nat) : Nat → Nat × Int32
  | 0 => (T0, -9)
  | i + 1 => if zs_ok i = true ∧ L i < (zs_bl L T0 i).1 then (L i, nI i) else zs_bl L T0 i
theorem zs_bl_0 {L : Nat → Nat} {T0 i : Nat} (h : (zs_bl L T0 i).1 = 0) : ∀ m, zs_bl L T0 (i + m) = zs_bl L T0 i
  | 0 => rfl
  | m + 1 => by
    have ih := zs_bl_0 h m
    show (if zs_ok (i + m) = true ∧ L (i + m) < (zs_bl L T0 (i + m)).1 then _ else zs_bl L T0 (i + m)) = _
    rw [ih, if_neg (fun q => by omega)]
theorem zs_bl_le {L : Nat → Nat} {T0 : Nat} (h0 : T0 ≤ 54) : ∀ i, (zs_bl L T0 i).1 ≤ 54
  | 0 => h0
  | i + 1 => by
    have ih := zs_bl_le (L := L) h0 i
    show (if zs_ok i = true ∧ L i < (zs_bl L T0 i).1 then (L i, nI i) else zs_bl L T0 i).1 ≤ 54
    by_cases q : zs_ok i = true ∧ L i < (zs_bl L T0 i).1
    · rw [if_pos q]; show L i ≤ 54; omega
    · rw [if_neg q]; exact ih
theorem zs_lie46 {i : Nat} (hi : i < 7) {x1 : Int32} {there : Int64} {wts lens : Nat → Int32} {fars : Nat → Nat → Int64} {v7 : Int32 × (Nat → Int64)} {M : Nat → Int64} {F : Nat → Nat} (hF : ∀ w, F w ≤ 54) (hf : ∀ w, w < 64 → fars i w = lN (F w)) (hM : ∀ t, t < 4096 → ∀ f, ∃ g, zf_X4_mergedWithTerm (wts i) x1 (nI (t / 64)) (nI (t % 64)) there lens v7.2 f = some (M t, g)) {T0 : Nat} (h0 : T0 ≤ 54) (f : Nat → Int64) : ∃ r, zl_X4_bestLie_46 (nI i) x1 there wts lens fars v7 zk_F (lN T0) (-9 : Int32) (0 : Int32) f = some r ∧ r.1 = lN (zs_bl (fun t => zs_loss (M t) F 64) T0 4096).1 ∧ r.2.1 = (zs_bl (fun t => zs_loss (M t) F 64) T0 4096).2 := by
  generalize hL : (fun t => zs_loss (M t) F 64) = L
  have hL2 : ∀ t, zs_loss (M t) F 64 = L t := fun t => congrFun hL t
  have hL3 : ∀ t, L t ≤ 54 := fun t => by rw [← hL2]; exact zs_loss_le hF 64
  have h := zs_for (fun n (a : Int64 × Int32 × (Nat → Int64)) t => zl_X4_bestLie_46 (nI i) x1 there wts lens fars v7 n a.1 a.2.1 (nI t) a.2.2) 4096 (fun t a => t ≤ 4096 ∧ a.1 = lN (zs_bl L T0 t).1 ∧ a.2.1 = (zs_bl L T0 t).2) (fun r => r.1 = lN (zs_bl L T0 4096).1 ∧ r.2.1 = (zs_bl L T0 4096).2) (by
    intro n a ha
    refine ⟨(a.1, a.2.1, nI 4096, a.2.2), ?_, ha.2⟩
    show zl_X4_bestLie_46 _ _ _ _ _ _ _ (n + 1) a.1 a.2.1 (nI 4096) a.2.2 = _
    rw [zl_X4_bestLie_46, if_pos (show (4096 : Int32) ≤ nI 4096 by decide)]) (by
    intro n t a ht ha
    have b1 := zs_bl_le (L := L) h0 t
    show (∃ r, zl_X4_bestLie_46 (nI i) x1 there wts lens fars v7 (n + 1) a.1 a.2.1 (nI t) a.2.2 = some r ∧ _) ∨ (∃ a' : Int64 × Int32 × (Nat → Int64), zl_X4_bestLie_46 (nI i) x1 there wts lens fars v7 (n + 1) a.1 a.2.1 (nI t) a.2.2 = zl_X4_bestLie_46 (nI i) x1 there wts lens fars v7 n a'.1 a'.2.1 (nI (t + 1)) a'.2.2 ∧ t + 1 ≤ 4096 ∧ a'.1 = lN (if zs_ok t = true ∧ L t < (zs_bl L T0 t).1 then (L t, nI t) else zs_bl L T0 t).1 ∧ a'.2.1 = (if zs_ok t = true ∧ L t < (zs_bl L T0 t).1 then (L t, nI t) else zs_bl L T0 t).2)
    rw [zl_X4_bestLie_46, if_neg (show ¬ (4096 : Int32) ≤ nI t from nI_ge ht (by decide)), ha.2.1, ha.2.2]
    by_cases hz : (zs_bl L T0 t).1 = 0
    · left
      rw [if_pos ((lg_cmp_le _ _).mpr (show lN (zs_bl L T0 t).1 ≤ (0 : Int64) by rw [hz]; decide))]
      have e := zs_bl_0 hz (4096 - t)
      rw [show t + (4096 - t) = 4096 by omega] at e
      exact ⟨_, rfl, by rw [e], by rw [e]⟩
    · right
      rw [if_neg (fun z => by
        have h9 := (lg_cmp_le _ _).mp z
        have h8 := (pk_lLE (a := (zs_bl L T0 t).1) (b := 0) (by omega) (by omega)).mp h9
        omega), (zs_tm ht).2, (zs_tm ht).1, ← nI_1]
      show ∃ a' : Int64 × Int32 × (Nat → Int64), (if (nI (t / 64) &&& nI (t % 64)) = 0 then zk_gd (zk_in (nI i) 7) _ else zl_X4_bestLie_46 (nI i) x1 there wts lens fars v7 n (lN (zs_bl L T0 t).1) (zs_bl L T0 t).2 (nI t + 1) a.2.2) = _ ∧ _
      by_cases hok : zs_ok t = true
      · obtain ⟨g, hg⟩ := hM t ht a.2.2
        have b2 := hL3 t
        rw [if_pos ((zs_ok_iff t).mpr hok), zs_zin (n := i) hi (by omega), nI_clamp (n := i) (by omega), hg]
        show ∃ a' : Int64 × Int32 × (Nat → Int64), ((zf_X4_lossOf (nI i) (M t) fars).bind _) = _ ∧ _
        rw [zs_loss4 hi (M t) hF hf, hL2, Option.bind_some]
        by_cases hlt : L t < (zs_bl L T0 t).1
        · rw [if_neg (fun z => by
            have h9 := (lg_cmp_ge _ _).mp z
            have h8 := (pk_lLE (by omega) (by omega)).mp h9
            omega)]
          simp only [if_pos (And.intro hok hlt)]
          exact ⟨(lN (L t), nI t, g), rfl, by omega, rfl, rfl⟩
        · rw [if_pos ((lg_cmp_ge _ _).mpr ((pk_lLE (by omega) (by omega)).mpr (by omega)))]
          simp only [if_neg (show ¬ (zs_ok t = true ∧ L t < (zs_bl L T0 t).1) from fun z => hlt z.2)]
          exact ⟨(lN (zs_bl L T0 t).1, (zs_bl L T0 t).2, g), rfl, by omega, rfl, rfl⟩
      · rw [if_neg (fun z => hok ((zs_ok_iff t).mp z))]
        simp only [if_neg (show ¬ (zs_ok t = true ∧ L t < (zs_bl L T0 t).1) from fun z => hok z.1)]
        exact ⟨(lN (zs_bl L T0 t).1, (zs_bl L T0 t).2, a.2.2), rfl, by omega, rfl, rfl⟩)
  obtain ⟨r, h1, h2⟩ := h 4096 0 (lN T0, (-9 : Int32), f) zk_F (by omega) (by rw [zs_F]; omega) ⟨by omega, rfl, rfl⟩
  exact ⟨r, h1, h2⟩
theorem zs_lie95 {i k way : Nat} (hi : i < k) (hk : k ≤ 7) {x2 : Int32} (hx2 : ¬ (2 : Int32) ≤ x2) {there : Int64} {me : Int32} {mwt mcost : Nat → Int32} {v12 : Int32 × (Nat → Int32)} {M : Nat → Int64} {F : Nat → Nat} (hF : ∀ w, F w ≤ 54) (hf : ∀ w, w < 64 → v12.2 w = nI (F w)) {P : (Nat → Int32) → Prop} (hM : ∀ t, t < 4096 → ∀ bu best own, P bu → ∃ G b2 o2, zf_X5_laysTerm (nI i) (nI (t / 64)) (nI (t % 64)) me mwt mcost bu = some G ∧ P G ∧ zf_X5_mergedBy (nI way) (nI k) there G best own = some (M t, b2, o2)) {T0 : Nat} (h0 : T0 ≤ 54) (bu best own : Nat → Int32) (hP : P bu) : ∃ r, zl_X5_lie_95 (nI i) (nI way) x2 (nI k) there me mwt mcost v12 zk_F (nI T0) (-9 : Int32) (0 : Int32) bu best own = some r ∧ r.1 = nI (zs_bl (fun t => zs_loss (M t) F 64) T0 4096).1 ∧ r.2.1 = (zs_bl (fun t => zs_loss (M t) F 64) T0 4096).2 := by
  generalize hL : (fun t => zs_loss (M t) F 64) = L
  have hL2 : ∀ t, zs_loss (M t) F 64 = L t := fun t => congrFun hL t
  have hL3 : ∀ t, L t ≤ 54 := fun t => by rw [← hL2]; exact zs_loss_le hF 64
  have h := zs_for (fun n (a : Int32 × Int32 × (Nat → Int32) × (Nat → Int32) × (Nat → Int32)) t => zl_X5_lie_95 (nI i) (nI way) x2 (nI k) there me mwt mcost v12 n a.1 a.2.1 (nI t) a.2.2.1 a.2.2.2.1 a.2.2.2.2) 4096 (fun t a => t ≤ 4096 ∧ P a.2.2.1 ∧ a.1 = nI (zs_bl L T0 t).1 ∧ a.2.1 = (zs_bl L T0 t).2) (fun r => r.1 = nI (zs_bl L T0 4096).1 ∧ r.2.1 = (zs_bl L T0 4096).2) (by
    intro n a ha
    refine ⟨(a.1, a.2.1, nI 4096, a.2.2.1, a.2.2.2.1, a.2.2.2.2), ?_, ha.2.2⟩
    show zl_X5_lie_95 _ _ _ _ _ _ _ _ _ (n + 1) a.1 a.2.1 (nI 4096) a.2.2.1 a.2.2.2.1 a.2.2.2.2 = _
    rw [zl_X5_lie_95, if_pos (show (4096 : Int32) ≤ nI 4096 by decide)]) (by
    intro n t a ht ha
    have b1 := zs_bl_le (L := L) h0 t
    right
    show ∃ a' : Int32 × Int32 × (Nat → Int32) × (Nat → Int32) × (Nat → Int32), zl_X5_lie_95 (nI i) (nI way) x2 (nI k) there me mwt mcost v12 (n + 1) a.1 a.2.1 (nI t) a.2.2.1 a.2.2.2.1 a.2.2.2.2 = zl_X5_lie_95 (nI i) (nI way) x2 (nI k) there me mwt mcost v12 n a'.1 a'.2.1 (nI (t + 1)) a'.2.2.1 a'.2.2.2.1 a'.2.2.2.2 ∧ t + 1 ≤ 4096 ∧ P a'.2.2.1 ∧ a'.1 = nI (if zs_ok t = true ∧ L t < (zs_bl L T0 t).1 then (L t, nI t) else zs_bl L T0 t).1 ∧ a'.2.1 = (if zs_ok t = true ∧ L t < (zs_bl L T0 t).1 then (L t, nI t) else zs_bl L T0 t).2
    rw [zl_X5_lie_95, if_neg (show ¬ (4096 : Int32) ≤ nI t from nI_ge ht (by decide)), if_neg hx2, ha.2.2.1, ha.2.2.2, (zs_tm ht).2, (zs_tm ht).1, ← nI_1]
    show ∃ a' : Int32 × Int32 × (Nat → Int32) × (Nat → Int32) × (Nat → Int32), (if (nI (t / 64) &&& nI (t % 64)) = 0 then _ else zl_X5_lie_95 (nI i) (nI way) x2 (nI k) there me mwt mcost v12 n (nI (zs_bl L T0 t).1) (zs_bl L T0 t).2 (nI t + 1) a.2.2.1 a.2.2.2.1 a.2.2.2.2) = _ ∧ _
    by_cases hok : zs_ok t = true
    · obtain ⟨G, b2, o2, g1, g2, g3⟩ := hM t ht a.2.2.1 a.2.2.2.1 a.2.2.2.2 ha.2.1
      have bb := hL3 t
      rw [if_pos ((zs_ok_iff t).mpr hok), g1, Option.bind_some, g3, Option.bind_some, zs_loss5 (M t) hF hf, hL2, Option.bind_some]
      by_cases hlt : L t < (zs_bl L T0 t).1
      · rw [if_neg (nI_ge hlt (by omega))]
        simp only [if_pos (And.intro hok hlt)]
        exact ⟨(nI (L t), nI t, G, b2, o2), rfl, by omega, g2, rfl, rfl⟩
      · rw [if_pos (nI_le (by omega) (by omega))]
        simp only [if_neg (show ¬ (zs_ok t = true ∧ L t < (zs_bl L T0 t).1) from fun z => hlt z.2)]
        exact ⟨(nI (zs_bl L T0 t).1, (zs_bl L T0 t).2, G, b2, o2), rfl, by omega, g2, rfl, rfl⟩
    · rw [if_neg (fun z => hok ((zs_ok_iff t).mp z))]
      simp only [if_neg (show ¬ (zs_ok t = true ∧ L t < (zs_bl L T0 t).1) from fun z => hok z.1)]
      exact ⟨(nI (zs_bl L T0 t).1, (zs_bl L T0 t).2, a.2.2.1, a.2.2.2.1, a.2.2.2.2), rfl, by omega, ha.2.1, rfl, rfl⟩)
  obtain ⟨r, h1, h2⟩ := h 4096 0 (nI T0, (-9 : Int32), bu, best, own) zk_F (by omega) (by rw [zs_F]; omega) ⟨by omega, hP, rfl, rfl⟩
  exact ⟨r, h1, h2⟩
theorem zs_lie95_2 {i k way : Nat} {there : Int64} {me : Int32} {mwt mcost : Nat → Int32} {v12 : Int32 × (Nat → Int32)} (x : Int32) (bu best own : Nat → Int32) : ∃ r, zl_X5_lie_95 (nI i) (nI way) (2 : Int32) (nI k) there me mwt mcost v12 zk_F x (-9 : Int32) (0 : Int32) bu best own = some r := by
  refine ⟨(x, -9, 0, bu, best, own), ?_⟩
  show zl_X5_lie_95 _ _ _ _ _ _ _ _ _ (4999 + 1) _ _ _ _ _ _ = _
  rw [zl_X5_lie_95, if_neg (show ¬ (4096 : Int32) ≤ 0 by decide), if_pos (show (2 : Int32) ≤ 2 by decide)]
theorem zs_lieEnd (bl : Nat × Int32) {r4 : Int64 × Int32 × Int32 × (Nat → Int64)} {r9 : Int32 × Int32 × Int32 × (Nat → Int32) × (Nat → Int32) × (Nat → Int32)} (a2 : r4.1 = lN bl.1) (a3 : r4.2.1 = bl.2) (b2 : r9.1 = nI bl.1) (b3 : r9.2.1 = bl.2) {x2 : Int32} {j : Nat} (hj : j < 2) (ej : x2 = nI j) (u1 : Int32) (u2 u3 : Nat → Int64) (ot2 r42 : Nat → Int64) (w1 : Int32) (tr : Nat → Int32) : ∃ (v : Int32) (r : (Nat → Int64) × (Nat → Int64)) (q : (Nat → Int32) × (Nat → Int32) × (Nat → Int32) × (Nat → Int32)), (if x2 = (2 : Int32) then some (u1, u2, u3) else if x2 = (1 : Int32) then (some ((if (1 : Int32) = 0 then r4.2.1 else if r4.2.1 = -9 then r4.2.1 else r4.1.toInt32, ot2, r42) : Int32 × (Nat → Int64) × (Nat → Int64))).bind (fun v6 => some (v6.1, v6.2.1, v6.2.2)) else (some ((if (0 : Int32) = 0 then r4.2.1 else if r4.2.1 = -9 then r4.2.1 else r4.1.toInt32, ot2, r42) : Int32 × (Nat → Int64) × (Nat → Int64))).bind (fun v5 => some (v5.1, v5.2.1, v5.2.2))) = some (v, r) ∧ (if x2 = (2 : Int32) then some (w1, r9.2.2.2.1, r9.2.2.2.2.1, r9.2.2.2.2.2, tr) else if r9.2.1 = (-9 : Int32) then some ((-9 : Int32), r9.2.2.2.1, r9.2.2.2.2.1, r9.2.2.2.2.2, tr) else if x2 = 0 then some (r9.2.1, r9.2.2.2.1, r9.2.2.2.2.1, r9.2.2.2.2.2, tr) else some (r9.1, r9.2.2.2.1, r9.2.2.2.2.1, r9.2.2.2.2.2, tr)) = some (v, q) := by
  rw [a2, a3, b2, b3, lN_i]
  rcases (show j = 0 ∨ j = 1 by omega) with z | z
  · have ex : x2 = 0 := by rw [ej, z]; rfl
    rw [ex, if_neg (show ¬ (0 : Int32) = 2 by decide), if_neg (show ¬ (0 : Int32) = 1 by decide), if_neg (show ¬ (0 : Int32) = 2 by decide), if_pos (show (0 : Int32) = 0 from rfl), if_pos (show (0 : Int32) = 0 from rfl)]
    by_cases z2 : bl.2 = -9
    · rw [if_pos z2, z2]
      exact ⟨_, _, _, rfl, rfl⟩
    · rw [if_neg z2]
      exact ⟨_, _, _, rfl, rfl⟩
  · have ex : x2 = 1 := by rw [ej, z]; rfl
    rw [ex, if_neg (show ¬ (1 : Int32) = 2 by decide), if_pos (show (1 : Int32) = 1 from rfl), if_neg (show ¬ (1 : Int32) = 2 by decide), if_neg (show ¬ (1 : Int32) = 0 by decide), if_neg (show ¬ (1 : Int32) = 0 by decide)]
    by_cases z2 : bl.2 = -9
    · rw [if_pos z2, if_pos z2, z2]
      exact ⟨_, _, _, rfl, rfl⟩
    · rw [if_neg z2, if_neg z2]
      exact ⟨_, _, _, rfl, rfl⟩
theorem zp_lie : zh_lie zi_Inv := by
  intro v_sm_asked v_sm_traced v_tx_length f_tx_bytes f_tx_tokens f_tx_places v_rd_at v_rd_token v_rd_fault v_td_laws v_td_there v_td_sayers f_td_says f_td_weights v_sp_laws v_sp_there v_sp_sayers f_sp_says f_sp_weights v_ds_alike f_ds_costs f_ds_lengths f_sm_fars f_sm_common f_sm_others f_sm_scale v_md_length v_md_laws v_md_sayers v_md_there v_md_question v_md_measure v_md_trace v_md_readLaws v_md_readSayers v_md_readThere v_md_begin v_md_end v_md_sort v_md_open v_md_level v_md_said f_md_text f_md_weight f_md_says f_md_cost f_md_readWeight f_md_readSays f_md_opened f_md_any f_md_all f_md_burdens f_md_best f_md_own f_md_truth x0 x1 x2 hI
  obtain ⟨n, k, c, al, h1, h2, h3, h4, h5, ⟨s1, s2, s3, s4⟩, ⟨d1, d2, d3, d4⟩, h7, h8⟩ := id hI
  have hm : ∀ l, l < 6 → c l ≤ 9 ∧ f_md_cost l = nI (c l) := fun l hl => ⟨(d3 l hl).1, (d3 l hl).2.2⟩
  have hc : ∀ l, l < 6 → c l ≤ 9 := fun l hl => (hm l hl).1
  have hme : v_md_measure = zs_o al := d2
  suffices hs : ∃ v r q, zf_X4_lie x0 x1 x2 v_td_there v_td_sayers f_td_weights f_ds_lengths f_sm_fars f_sm_others f_sm_scale = some (v, r) ∧ zf_X5_lie x0 x1 x2 v_md_sayers v_md_there v_md_measure f_md_weight f_md_says f_md_cost f_md_burdens f_md_best f_md_own f_md_truth = some (v, q) by
    obtain ⟨v, r, q, e1, e2⟩ := hs
    exact ⟨_, _, e1, e2, rfl, hI⟩
  rw [s2, s3, h5]
  unfold zf_X4_lie zf_X5_lie
  rcases zs_isSayer x0 s1 with ⟨i, hi, e, q1, q2⟩ | ⟨q1, q2⟩
  · rw [q1, q2, Option.bind_some, Option.bind_some, if_neg (show ¬ (1 : Int32) = 0 by decide), if_neg (show ¬ (1 : Int32) = 0 by decide)]
    rcases zs_isWay x1 with ⟨way, hw, ew, q3, q4⟩ | ⟨q3, q4⟩
    · rw [q3, q4, Option.bind_some, Option.bind_some, if_neg (show ¬ (1 : Int32) = 0 by decide), if_neg (show ¬ (1 : Int32) = 0 by decide)]
      have hin := zs_in2 x2 2 (by omega)
      have hl2 : (lN 2 : Int64) = 2 := rfl
      rw [hl2] at hin
      rcases hin with ⟨j, hj, ej, q⟩ | ⟨q5, q6⟩
      · rw [q, Option.bind_some, if_neg (show ¬ (1 : Int32) = 0 by decide), e, ew]
        obtain ⟨wt, hwt⟩ := zs_wts s4
        have hb := zs_bur s1 hc (wts := f_td_weights) (fars := f_sm_fars) (wt := wt) (fun i hi => ⟨(hwt i hi).2.1, (hwt i hi).2.2.1⟩) h7
        obtain ⟨v, sc, e1, e2⟩ := zs_merged4 hw s1 v_md_there (b := fun i w => wt i * zs_far al c (f_td_says i) w) hb f_sm_scale
        obtain ⟨G, e3, e4⟩ := zs_laysAll hme hm s1 (fun i hi => (hwt i hi).2.2.2) f_md_says f_md_burdens
        have e4' : ∀ i, i < k → ∀ w, w < 64 → G (64 * i + w) = nI (wt i * zs_far al c (f_td_says i) w) := fun i hi w hw => by rw [e4 i hi w hw, (s4 i hi).1]
        obtain ⟨r5, e5, e6⟩ := zs_merged5 hw s1 v_md_there (g := G) (b := fun i w => wt i * zs_far al c (f_td_says i) w) e4' (fun i hi w hw => (hb i hi w hw).2) f_md_best f_md_own
        have ev : r5.1 = v := zs_minx e6 e2
        obtain ⟨tr, t1, t2⟩ := zs_truth hme hm (i := i) (by omega) f_md_says f_md_truth
        have hF : ∀ w, zs_far al c (f_td_says i) w ≤ 54 := fun w => zs_far_le hc _ _
        have t2' : ∀ w, w < 64 → tr.2 w = nI (zs_far al c (f_td_says i) w) := fun w hw => by rw [t2 w hw, (s4 i hi).1]
        have l4 := zs_loss4 (i := i) (by omega) v hF (h7 i hi)
        have l5 := zs_loss5 v hF t2'
        have l0 : zs_loss v (zs_far al c (f_td_says i)) 64 ≤ 54 := zs_loss_le hF 64
        have hpos : ¬ x2 < 0 := by rw [ej]; exact nI_pos (by omega)
        have hle2 : x2 ≤ (2 : Int32) := by rw [ej]; exact nI_le (b := 2) hj (by omega)
        rw [if_neg hpos, if_pos hle2, e1, e3, Option.bind_some, Option.bind_some, l4, t1, Option.bind_some, Option.bind_some, e5, Option.bind_some, ev, l5, Option.bind_some]
        rcases (show j = 2 ∨ j < 2 by omega) with ej2 | ej2
        · have ex : x2 = 2 := by rw [ej, ej2]; rfl
          obtain ⟨r9, h9⟩ := zs_lie95_2 (i := i) (k := k) (way := way) (there := v_md_there) (me := v_md_measure) (mwt := f_md_weight) (mcost := f_md_cost) (v12 := tr) (nI (zs_loss v (zs_far al c (f_td_says i)) 64)) G r5.2.1 r5.2.2
          rw [ex, if_pos (show (2 : Int32) = 2 from rfl), h9, Option.bind_some, if_pos (show (2 : Int32) = 2 from rfl), lN_i]
          exact ⟨_, _, _, rfl, rfl⟩
        · obtain ⟨ot, V, o1, o2⟩ := zs_others4 hw s1 hi (b := fun i w => wt i * zs_far al c (f_td_says i) w) hb f_sm_others
          have hT : ∀ t, ∃ M : Int64, t < 4096 → ∀ w, w < 64 → (zs_bit M w = true ↔ zs_isMin (zs_bit v_md_there) (fun w => zs_tj way (zs_To way (fun j => wt j * zs_far al c (f_td_says j) w) i k) (wt i * zs_len al c (zs_wr (t / 64) (t % 64) w))) 64 w) := by
            intro t
            by_cases q : t < 4096
            · obtain ⟨M, g, m1, m2⟩ := zs_term4 hc d4 hw (nn := k - 1) (s := t / 64) (t := t % 64) (wt := wt i) (by omega) (by omega) (by omega) (hwt i hi).2.1 o2 v_md_there (fun _ => 0)
              exact ⟨M, fun _ => m2⟩
            · exact ⟨0, fun z => absurd z q⟩
          obtain ⟨M, hM⟩ : ∃ M : Nat → Int64, ∀ t, t < 4096 → ∀ w, w < 64 → (zs_bit (M t) w = true ↔ zs_isMin (zs_bit v_md_there) (fun w => zs_tj way (zs_To way (fun j => wt j * zs_far al c (f_td_says j) w) i k) (wt i * zs_len al c (zs_wr (t / 64) (t % 64) w))) 64 w) := ⟨fun t => (hT t).choose, fun t => (hT t).choose_spec⟩
          have hM4 : ∀ t, t < 4096 → ∀ f, ∃ g, zf_X4_mergedWithTerm (f_td_weights i) (nI way) (nI (t / 64)) (nI (t % 64)) v_md_there f_ds_lengths ot.2 f = some (M t, g) := by
            intro t ht f
            obtain ⟨M', g, m1, m2⟩ := zs_term4 hc d4 hw (nn := k - 1) (s := t / 64) (t := t % 64) (wt := wt i) (by omega) (by omega) (by omega) (hwt i hi).2.1 o2 v_md_there f
            have : M' = M t := zs_minx m2 (hM t ht)
            subst this
            rw [(hwt i hi).2.2.1]
            exact ⟨g, m1⟩
          obtain ⟨r4, a1, a2, a3⟩ := zs_lie46 (i := i) (by omega) (x1 := nI way) (there := v_md_there) (wts := f_td_weights) (lens := f_ds_lengths) (fars := f_sm_fars) (v7 := ot) (M := M) hF (h7 i hi) hM4 l0 sc
          have hM5 : ∀ t, t < 4096 → ∀ bu best own, (∀ j, j < k → ¬ j = i → ∀ w, w < 64 → bu (64 * j + w) = nI (wt j * zs_far al c (f_td_says j) w)) → ∃ G b2 o2, zf_X5_laysTerm (nI i) (nI (t / 64)) (nI (t % 64)) v_md_measure f_md_weight f_md_cost bu = some G ∧ (∀ j, j < k → ¬ j = i → ∀ w, w < 64 → G (64 * j + w) = nI (wt j * zs_far al c (f_td_says j) w)) ∧ zf_X5_mergedBy (nI way) (nI k) v_md_there G best own = some (M t, b2, o2) := by
            intro t ht bu best own hbu
            obtain ⟨G', g1, g2, g3⟩ := zs_laysTerm hme hm (i := i) (wt := wt i) (s := t / 64) (t := t % 64) (by omega) (hwt i hi).2.2.2 (by omega) (by omega) bu
            have hG : ∀ j, j < k → ¬ j = i → ∀ w, w < 64 → G' (64 * j + w) = nI (wt j * zs_far al c (f_td_says j) w) := fun j hj hne w hw => by rw [g3 _ (by omega)]; exact hbu j hj hne w hw
            obtain ⟨r, f1, f2⟩ := zs_merged5 hw s1 v_md_there (g := G') (b := fun j w => if j = i then wt i * zs_len al c (zs_wr (t / 64) (t % 64) w) else wt j * zs_far al c (f_td_says j) w) (by
              intro j hj w hw
              by_cases q : j = i
              · subst q; simp only [if_pos]; exact g2 w hw
              · simp only [if_neg q]; exact hG j hj q w hw) (by
              intro j hj w hw
              by_cases q : j = i
              · simp only [if_pos q]; exact Nat.mul_le_mul (hwt i hi).2.1 (zs_len_le hc _)
              · simp only [if_neg q]; exact (hb j hj w hw).2) best own
            have er : r.1 = M t := by
              apply zs_minx f2
              intro w hw
              rw [hM t ht w hw]
              apply zs_isMin_congr
              intro o ho
              show _ = zs_To way (fun j => if j = i then wt i * zs_len al c (zs_wr (t / 64) (t % 64) o) else wt j * zs_far al c (f_td_says j) o) 7 k
              rw [zs_To_one way _ i 7 k hi s1]
              simp only [if_pos]
              rw [zs_To_congr way (b := fun j => if j = i then wt i * zs_len al c (zs_wr (t / 64) (t % 64) o) else wt j * zs_far al c (f_td_says j) o) (b2 := fun j => wt j * zs_far al c (f_td_says j) o) i k (fun j hj hne => if_neg hne)]
            exact ⟨G', r.2.1, r.2.2, g1, hG, by rw [← er]; exact f1⟩
          obtain ⟨r9, b1, b2, b3⟩ := zs_lie95 (i := i) (way := way) hi s1 (x2 := x2) (by rw [ej]; exact nI_ge ej2 (by decide)) (there := v_md_there) (me := v_md_measure) (mwt := f_md_weight) (mcost := f_md_cost) (v12 := tr) (M := M) hF t2' (P := fun bu => ∀ j, j < k → ¬ j = i → ∀ w, w < 64 → bu (64 * j + w) = nI (wt j * zs_far al c (f_td_says j) w)) hM5 l0 G r5.2.1 r5.2.2 (fun j hj _ w hw => e4' j hj w hw)
          have bl54 := zs_bl_le (L := fun t => zs_loss (M t) (zs_far al c (f_td_says i)) 64) l0 4096
          have hb4 : ∀ x3, zf_X4_bestLie (nI i) (nI way) (lN (zs_loss v (zs_far al c (f_td_says i)) 64)) x3 v_md_there (nI k) f_td_weights f_ds_lengths f_sm_fars f_sm_others sc = some (if x3 = 0 then r4.2.1 else if r4.2.1 = -9 then r4.2.1 else r4.1.toInt32, ot.2, r4.2.2.2) := by
            intro x3
            unfold zf_X4_bestLie
            rw [o1, Option.bind_some, a1, Option.bind_some]
            by_cases z1 : x3 = 0
            · rw [if_pos z1, if_pos z1]
            · rw [if_neg z1, if_neg z1]
              by_cases z2 : r4.2.1 = -9
              · rw [if_pos z2, if_pos z2]
              · rw [if_neg z2, if_neg z2]
          rw [b1, Option.bind_some, hb4, hb4]
          exact zs_lieEnd _ a2 a3 b2 b3 ej2 ej _ _ _ _ _ _ _
      · rw [q6, Option.bind_some, if_pos (show (0 : Int32) = 0 from rfl)]
        by_cases z1 : x2 < 0
        · rw [if_pos z1]; exact ⟨_, _, _, rfl, rfl⟩
        · rw [Int32.lt_iff_toInt_lt] at z1
          have z0 : (0 : Int32).toInt = 0 := rfl
          have z2 : (2 : Int32).toInt = 2 := rfl
          have z3 : ¬ x2 ≤ (2 : Int32) := by rw [Int32.le_iff_toInt_le, z2]; omega
          rw [if_neg (by rw [Int32.lt_iff_toInt_lt]; exact z1), if_neg z3]
          exact ⟨_, _, _, rfl, rfl⟩
    · rw [q3, q4]
      exact ⟨_, _, _, rfl, rfl⟩
  · rw [q1, q2]
    exact ⟨_, _, _, rfl, rfl⟩
