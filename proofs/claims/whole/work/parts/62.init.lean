theorem zs_pop1 : ∀ x, x < 64 → zs_pop (nI x).toInt64 = zs_sum (fun _ => 1) x := by decide +kernel
theorem zs_fillI : ∃ g, zf_J7_fill_53178 (1 : Int32) 6 (fun _ => (0 : Int32)) = some g ∧ ∀ w, w < 6 → g w = 1 := by
  have h := zs_for (fun n (a : Nat → Int32) i => zl_J7_fill_53178_5 1 6 (nI 6) n (nI i) a) 6 (fun i a => i ≤ 6 ∧ ∀ x, x < i → a x = 1) (fun r => ∀ x, x < 6 → r.2 x = 1) (by
    intro n a ha
    refine ⟨(nI 6, a), ?_, ha.2⟩
    show zl_J7_fill_53178_5 1 6 (nI 6) (n + 1) (nI 6) a = _
    rw [zl_J7_fill_53178_5, if_pos (nI_le (Nat.le_refl _) (by decide))]) (by
    intro n i a hi ha
    right
    refine ⟨upd a i 1, ?_, by omega, fun x hx => ?_⟩
    · show zl_J7_fill_53178_5 1 6 (nI 6) (n + 1) (nI i) a = zl_J7_fill_53178_5 1 6 (nI 6) n (nI (i + 1)) _
      rw [zl_J7_fill_53178_5, if_neg (nI_ge hi (by decide)), zs_zin hi (by omega)]
      show zl_J7_fill_53178_5 1 6 (nI 6) n (nI i + 1) (upd a (nI i).toNatClampNeg 1) = _
      rw [nI_1, nI_clamp (by omega)]
    · by_cases e : x = i
      · subst e; rw [pk_us]
      · rw [pk_un e]; exact ha.2 x (by omega))
  obtain ⟨r, h1, h2⟩ := h 6 0 (fun _ => (0 : Int32)) zk_F (by omega) (by rw [zs_F]; omega) ⟨by omega, fun x hx => absurd hx (by omega)⟩
  refine ⟨r.2, ?_, h2⟩
  unfold zf_J7_fill_53178
  show (zl_J7_fill_53178_5 1 6 (nI 6) zk_F (nI 0) (fun _ => (0 : Int32))).bind (fun v7 => some v7.2) = some r.2
  have h1' : zl_J7_fill_53178_5 1 6 (nI 6) zk_F (nI 0) (fun _ => (0 : Int32)) = some r := h1
  rw [h1']
  rfl
theorem zp_init : zh_init zi_Inv := by
  obtain ⟨g, g1, g2⟩ := zs_fillI
  have h := zs_for (fun n (a : Nat → Int32) i => zl_X0_init_35 n (nI i) a) 64 (fun i a => i ≤ 64 ∧ ∀ x, x < i → a x = nI (zs_sum (fun _ => 1) x)) (fun r => ∀ x, x < 64 → r.2 x = nI (zs_sum (fun _ => 1) x)) (by
    intro n a ha
    refine ⟨(nI 64, a), ?_, ha.2⟩
    show zl_X0_init_35 (n + 1) (nI 64) a = _
    rw [zl_X0_init_35, if_pos (show (64 : Int32) ≤ nI 64 by decide)]) (by
    intro n i a hi ha
    right
    refine ⟨upd a i (nI (zs_sum (fun _ => 1) i)), ?_, by omega, fun x hx => ?_⟩
    · show zl_X0_init_35 (n + 1) (nI i) a = zl_X0_init_35 n (nI (i + 1)) _
      rw [zl_X0_init_35, if_neg (show ¬ (64 : Int32) ≤ nI i from nI_ge hi (by decide)), zs_bc i (by omega), Option.bind_some, zs_zin hi (by omega), zs_pop1 i hi]
      show zl_X0_init_35 n (nI i + 1) (upd a (nI i).toNatClampNeg _) = _
      rw [nI_1, nI_clamp (by omega)]
    · by_cases e : x = i
      · subst e; rw [pk_us]
      · rw [pk_un e]; exact ha.2 x (by omega))
  obtain ⟨r, h1, h2⟩ := h 64 0 (fun _ => (0 : Int32)) zk_F (by omega) (by rw [zs_F]; omega) ⟨by omega, fun x hx => absurd hx (by omega)⟩
  have h1' : zl_X0_init_35 zk_F (0 : Int32) (fun _ => (0 : Int32)) = some r := h1
  refine ⟨(g, r.2), ?_, 0, 0, fun _ => 1, false, rfl, rfl, ⟨by omega, rfl, rfl, fun j hj => absurd hj (by omega)⟩, rfl, rfl, ⟨by omega, rfl, rfl, fun i hi => absurd hi (by omega)⟩, ⟨rfl, rfl, fun l hl => ⟨by show 1 ≤ 9; omega, g2 l hl, ?_⟩, h2⟩, fun i hi => absurd hi (by omega), fun t ht => ?_⟩
  · unfold zf_X4_init zf_X0_init
    rw [g1, Option.bind_some, h1']
    rfl
  · match l, hl with
    | 0, _ => rfl
    | 1, _ => rfl
    | 2, _ => rfl
    | 3, _ => rfl
    | 4, _ => rfl
    | 5, _ => rfl
    | l + 6, hl => exact absurd hl (by omega)
  · have e : t = 0 := by omega
    subst e
    rfl
