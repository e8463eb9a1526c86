/-! lies: one term of one sayer -/
def zs_wr (s t w : Nat) : Nat := (s &&& (63 - w)) ||| (t &&& w)
theorem zs_wr_lt {s t w : Nat} (hs : s < 64) (ht : t < 64) : zs_wr s t w < 64 := by
  unfold zs_wr
  have h1 : s &&& (63 - w) < 64 := Nat.lt_of_le_of_lt Nat.and_le_left hs
  have h2 : t &&& w < 64 := Nat.lt_of_le_of_lt Nat.and_le_left ht
  exact Nat.or_lt_two_pow (n := 6) h1 h2
theorem zs_wr1 : ∀ s, s < 64 → ∀ w, w < 64 → nI s &&& (nI w ^^^ (-1 : Int32)) = nI (s &&& (63 - w)) := by decide +kernel
theorem zs_wrong {s t w : Nat} (hs : s < 64) (hw : w < 64) : (nI s &&& (nI w ^^^ (-1 : Int32))) ||| (nI t &&& nI w) = nI (zs_wr s t w) := by
  rw [zs_wr1 s hs w hw, nx_and, fa_or]; rfl
theorem zs_term29 {c : Nat → Nat} {mcost : Nat → Int32} {x : Nat} (hx : x < 64) (hm : ∀ l, l < 6 → c l ≤ 9 ∧ mcost l = nI (c l)) : ∃ r, zl_X5_laysTerm_29 mcost (nI x) zk_F (0 : Int32) (0 : Int32) = some r ∧ r.1 = nI (zs_sum c x) := by
  have h := zs_for (fun n (s : Int32) i => zl_X5_laysTerm_29 mcost (nI x) n s (nI i)) 6 (fun i s => i ≤ 6 ∧ s = nI (zs_sumn c x i)) (fun r => r.1 = nI (zs_sum c x)) (by
    intro n s hs
    refine ⟨(s, nI 6), ?_, by rw [← zs_sumn6]; exact hs.2⟩
    show zl_X5_laysTerm_29 mcost (nI x) (n + 1) s (nI 6) = _
    rw [zl_X5_laysTerm_29, if_pos (show (6 : Int32) ≤ nI 6 by decide)]) (by
    intro n i s hi hs
    right
    have hbit := zs_has (nI x).toInt64 (w := i) (by omega)
    rw [zs_ib _ (by omega) (by omega)] at hbit
    refine ⟨nI (zs_sumn c x (i + 1)), ?_, by omega, rfl⟩
    show zl_X5_laysTerm_29 mcost (nI x) (n + 1) s (nI i) = zl_X5_laysTerm_29 mcost (nI x) n _ (nI (i + 1))
    rw [zl_X5_laysTerm_29, if_neg (show ¬ (6 : Int32) ≤ nI i from nI_ge hi (by decide)), hbit, Option.bind_some, hs.2, zs_sumn]
    by_cases hc : x.testBit i = true
    · rw [if_pos hc, if_neg (show ¬ (1 : Int32) = 0 by decide), zs_zin (by omega) (by omega), hc]
      show zl_X5_laysTerm_29 _ _ n (nI _ + mcost (nI i).toNatClampNeg) (nI i + 1) = _
      rw [nI_clamp (by omega), (hm i hi).2, nI_add, nI_1]
      rfl
    · rw [if_neg hc, if_pos rfl, ts_nt hc]
      show zl_X5_laysTerm_29 _ _ n (nI _ + 0) (nI i + 1) = _
      rw [show (0 : Int32) = nI 0 from rfl, nI_add, nI_1]
      rfl)
  obtain ⟨r, h1, h2⟩ := h 6 0 0 zk_F (by omega) (by rw [zs_F]; omega) ⟨by omega, rfl⟩
  exact ⟨r, h1, h2⟩
theorem zs_laysTerm {al : Bool} {me : Int32} (hme : me = zs_o al) {c : Nat → Nat} {mcost mwt : Nat → Int32} (hm : ∀ l, l < 6 → c l ≤ 9 ∧ mcost l = nI (c l)) {i wt s t : Nat} (hi : i < 7) (hwt : mwt i = nI wt) (hs : s < 64) (ht : t < 64) (f : Nat → Int32) : ∃ g, zf_X5_laysTerm (nI i) (nI s) (nI t) me mwt mcost f = some g ∧ (∀ w, w < 64 → g (64 * i + w) = nI (wt * zs_len al c (zs_wr s t w))) ∧ ∀ p, (p < 64 * i ∨ 64 * i + 64 ≤ p) → g p = f p := by
  have h := zs_for (fun n (a : Nat → Int32) w => zl_X5_laysTerm_3 (nI i) (nI s) (nI t) me mwt mcost n (nI w) a) 64 (fun w a => w ≤ 64 ∧ (∀ v, v < w → a (64 * i + v) = nI (wt * zs_len al c (zs_wr s t v))) ∧ ∀ p, (p < 64 * i ∨ 64 * i + 64 ≤ p) → a p = f p) (fun r => (∀ v, v < 64 → r.2 (64 * i + v) = nI (wt * zs_len al c (zs_wr s t v))) ∧ ∀ p, (p < 64 * i ∨ 64 * i + 64 ≤ p) → r.2 p = f p) (by
    intro n a ha
    refine ⟨(nI 64, a), ?_, ha.2⟩
    show zl_X5_laysTerm_3 _ _ _ _ _ _ (n + 1) (nI 64) a = _
    rw [zl_X5_laysTerm_3, if_pos (show (64 : Int32) ≤ nI 64 by decide)]) (by
    intro n w a hw ha
    right
    refine ⟨upd a (64 * i + w) (nI (wt * zs_len al c (zs_wr s t w))), ?_, by omega, fun v hv => ?_, fun p hp => ?_⟩
    · show zl_X5_laysTerm_3 _ _ _ _ _ _ (n + 1) (nI w) a = zl_X5_laysTerm_3 (nI i) (nI s) (nI t) me mwt mcost n (nI (w + 1)) _
      have hx : zs_wr s t w < 64 := zs_wr_lt hs ht
      obtain ⟨r, r1, r2⟩ := zs_term29 hx hm
      rw [zl_X5_laysTerm_3, if_neg (show ¬ (64 : Int32) ≤ nI w from nI_ge hw (by decide)), zs_wrong hs hw, zs_64, zs_zin (n := i) hi (by omega), zs_zin (n := 64 * i + w) (by omega) (by omega), nI_clamp (n := 64 * i + w) (by omega), nI_clamp (n := i) (by omega), hwt, ← nI_1]
      show ((zl_X5_laysTerm_29 mcost (nI (zs_wr s t w)) zk_F (0 : Int32) (0 : Int32)).bind _) = _
      rw [r1, Option.bind_some, hme, r2]
      unfold zs_len
      cases al with
      | false =>
        show zl_X5_laysTerm_3 _ _ _ _ _ _ n (nI w + 1) (upd a (64 * i + w) (nI wt * nI (zs_sum c (zs_wr s t w)))) = _
        rw [pk_mul]
        rfl
      | true =>
        by_cases e : zs_wr s t w = 0
        · rw [e]
          show zl_X5_laysTerm_3 _ _ _ _ _ _ n (nI w + 1) (upd a (64 * i + w) (nI wt * (0 : Int32))) = _
          rw [show (0 : Int32) = nI 0 from rfl, pk_mul]
          rfl
        · have e2 : ¬ nI (zs_wr s t w) = 0 := fun q => e ((nI_eq (a := zs_wr s t w) (b := 0) (by omega) (by omega)).mp q)
          show (if nI (zs_wr s t w) = 0 then _ else zl_X5_laysTerm_3 _ _ _ _ _ _ n (nI w + 1) (upd a (64 * i + w) (nI wt * (1 : Int32)))) = _
          rw [if_neg e2, show (1 : Int32) = nI 1 from rfl, pk_mul]
          show _ = zl_X5_laysTerm_3 _ _ _ _ _ _ n (nI w + nI 1) (upd a (64 * i + w) (nI (wt * (if zs_wr s t w = 0 then 0 else 1))))
          rw [if_neg e]
    · unfold upd
      by_cases e : v = w
      · subst e; rw [if_pos rfl]
      · rw [if_neg (by omega)]; exact ha.2.1 v (by omega)
    · unfold upd
      rw [if_neg (by omega)]
      exact ha.2.2 p hp)
  obtain ⟨r, h1, h2, h3⟩ := h 64 0 f zk_F (by omega) (by rw [zs_F]; omega) ⟨by omega, fun j hj => absurd hj (by omega), fun _ _ => rfl⟩
  have h1' : zl_X5_laysTerm_3 (nI i) (nI s) (nI t) me mwt mcost zk_F (0 : Int32) f = some r := h1
  refine ⟨r.2, ?_, h2, h3⟩
  unfold zf_X5_laysTerm
  rw [h1']
  rfl
def zs_loss (M : Int64) (F : Nat → Nat) : Nat → Nat
  | 0 => 0
  | n + 1 => if zs_bit M n then max (zs_loss M F n) (F n) else zs_loss M F n
theorem zs_loss_le {M : Int64} {F : Nat → Nat} {B : Nat} (hF : ∀ w, F w ≤ B) : ∀ n, zs_loss M F n ≤ B
  | 0 => Nat.zero_le _
  | n + 1 => by
    have h1 := zs_loss_le (M := M) hF n
    have h2 := hF n
    unfold zs_loss
    by_cases e : zs_bit M n = true
    · rw [if_pos e]; omega
    · rw [if_neg e]; exact h1
theorem zs_loss4 {i : Nat} (hi : i < 7) (M : Int64) {fars : Nat → Nat → Int64} {F : Nat → Nat} (hF : ∀ w, F w ≤ 54) (hf : ∀ w, w < 64 → fars i w = lN (F w)) : zf_X4_lossOf (nI i) M fars = some (lN (zs_loss M F 64)) := by
  have h := zs_for (fun n (a : Int64) w => zl_X4_lossOf_6 (nI i) M fars n a (nI w)) 64 (fun w a => w ≤ 64 ∧ a = lN (zs_loss M F w)) (fun r => r.1 = lN (zs_loss M F 64)) (by
    intro n a ha
    refine ⟨(a, nI 64), ?_, ha.2⟩
    show zl_X4_lossOf_6 _ _ _ (n + 1) a (nI 64) = _
    rw [zl_X4_lossOf_6, if_pos (show (64 : Int32) ≤ nI 64 by decide)]) (by
    intro n w a hw ha
    right
    refine ⟨lN (zs_loss M F (w + 1)), ?_, by omega, rfl⟩
    have b1 := hF w
    have b2 := zs_loss_le (M := M) hF w
    show zl_X4_lossOf_6 _ _ _ (n + 1) a (nI w) = zl_X4_lossOf_6 (nI i) M fars n (lN (if zs_bit M w = true then max (zs_loss M F w) (F w) else zs_loss M F w)) (nI (w + 1))
    rw [zl_X4_lossOf_6, if_neg (show ¬ (64 : Int32) ≤ nI w from nI_ge hw (by decide)), zs_isIn M hw, Option.bind_some, zs_zin (n := i) hi (by omega), zs_zin (n := w) hw (by omega), nI_clamp (n := i) (by omega), nI_clamp (n := w) (by omega), hf w hw, ha.2, ← nI_1]
    by_cases e : zs_bit M w = true
    · simp only [if_pos e]
      show zl_X4_lossOf_6 _ _ _ n (if lN (F w) < lN (zs_loss M F w) then lN (zs_loss M F w) else lN (F w)) (nI w + 1) = _
      by_cases q : F w < zs_loss M F w
      · rw [if_pos ((pk_lLT (by omega) (by omega)).mpr q), Nat.max_eq_left (by omega)]
      · rw [if_neg (fun z => q ((pk_lLT (by omega) (by omega)).mp z)), Nat.max_eq_right (by omega)]
    · simp only [if_neg e]
      rfl)
  obtain ⟨r, h1, h2⟩ := h 64 0 (0 : Int64) zk_F (by omega) (by rw [zs_F]; omega) ⟨by omega, rfl⟩
  have h1' : zl_X4_lossOf_6 (nI i) M fars zk_F (0 : Int64) (0 : Int32) = some r := h1
  unfold zf_X4_lossOf
  rw [h1', Option.bind_some, h2]
theorem zs_loss5 (M : Int64) {tr : Nat → Int32} {F : Nat → Nat} (hF : ∀ w, F w ≤ 54) (hf : ∀ w, w < 64 → tr w = nI (F w)) : zf_X5_loss M tr = some (nI (zs_loss M F 64)) := by
  have h := zs_for (fun n (a : Int32) w => zl_X5_loss_5 M tr n a (nI w)) 64 (fun w a => w ≤ 64 ∧ a = nI (zs_loss M F w)) (fun r => r.1 = nI (zs_loss M F 64)) (by
    intro n a ha
    refine ⟨(a, nI 64), ?_, ha.2⟩
    show zl_X5_loss_5 _ _ (n + 1) a (nI 64) = _
    rw [zl_X5_loss_5, if_pos (show (64 : Int32) ≤ nI 64 by decide)]) (by
    intro n w a hw ha
    right
    refine ⟨nI (zs_loss M F (w + 1)), ?_, by omega, rfl⟩
    have b1 := hF w
    have b2 := zs_loss_le (M := M) hF w
    show zl_X5_loss_5 _ _ (n + 1) a (nI w) = zl_X5_loss_5 M tr n (nI (if zs_bit M w = true then max (zs_loss M F w) (F w) else zs_loss M F w)) (nI (w + 1))
    rw [zl_X5_loss_5, if_neg (show ¬ (64 : Int32) ≤ nI w from nI_ge hw (by decide)), zs_has M hw, Option.bind_some, zs_zin (n := w) hw (by omega), nI_clamp (n := w) (by omega), hf w hw, ha.2, ← nI_1]
    by_cases e : zs_bit M w = true
    · simp only [if_pos e]
      show (if nI (F w) ≤ nI (zs_loss M F w) then zl_X5_loss_5 _ _ n (nI (zs_loss M F w)) (nI w + 1) else zl_X5_loss_5 _ _ n (nI (F w)) (nI w + 1)) = _
      by_cases q : F w ≤ zs_loss M F w
      · rw [if_pos (nI_le q (by omega)), Nat.max_eq_left q]
      · rw [if_neg (nI_ge (by omega) (by omega)), Nat.max_eq_right (by omega)]
    · simp only [if_neg e]
      rfl)
  obtain ⟨r, h1, h2⟩ := h 64 0 (0 : Int32) zk_F (by omega) (by rw [zs_F]; omega) ⟨by omega, rfl⟩
  have h1' : zl_X5_loss_5 M tr zk_F (0 : Int32) (0 : Int32) = some r := h1
  unfold zf_X5_loss
  rw [h1', Option.bind_some, h2]
theorem zs_truth {al : Bool} {me : Int32} (hme : me = zs_o al) {c : Nat → Nat} {mcost : Nat → Int32} (hm : ∀ l, l < 6 → c l ≤ 9 ∧ mcost l = nI (c l)) {i : Nat} (hi : i < 7) (says : Nat → Int64) (f : Nat → Int32) : ∃ r, zl_X5_lie_41 (nI i) me says mcost zk_F (0 : Int32) f = some r ∧ ∀ w, w < 64 → r.2 w = nI (zs_far al c (says i) w) := by
  have h := zs_for (fun n (a : Nat → Int32) w => zl_X5_lie_41 (nI i) me says mcost n (nI w) a) 64 (fun w a => w ≤ 64 ∧ ∀ v, v < w → a v = nI (zs_far al c (says i) v)) (fun r => ∀ v, v < 64 → r.2 v = nI (zs_far al c (says i) v)) (by
    intro n a ha
    refine ⟨(nI 64, a), ?_, ha.2⟩
    show zl_X5_lie_41 _ _ _ _ (n + 1) (nI 64) a = _
    rw [zl_X5_lie_41, if_pos (show (64 : Int32) ≤ nI 64 by decide)]) (by
    intro n w a hw ha
    right
    refine ⟨upd a w (nI (zs_far al c (says i) w)), ?_, by omega, fun v hv => ?_⟩
    · show zl_X5_lie_41 _ _ _ _ (n + 1) (nI w) a = zl_X5_lie_41 (nI i) me says mcost n (nI (w + 1)) _
      rw [zl_X5_lie_41, if_neg (show ¬ (64 : Int32) ≤ nI w from nI_ge hw (by decide)), zs_zin (n := i) hi (by omega), nI_clamp (n := i) (by omega), zs_farOf hme _ hw hm, zs_zin (n := w) hw (by omega), nI_clamp (n := w) (by omega), ← nI_1]
      rfl
    · unfold upd
      by_cases e : v = w
      · subst e; rw [if_pos rfl]
      · rw [if_neg e]; exact ha.2 v (by omega))
  obtain ⟨r, h1, h2⟩ := h 64 0 f zk_F (by omega) (by rw [zs_F]; omega) ⟨by omega, fun j hj => absurd hj (by omega)⟩
  exact ⟨r, h1, h2⟩
theorem zs_term4 {al : Bool} {c : Nat → Nat} (hc : ∀ l, l < 6 → c l ≤ 9) {lens : Nat → Int32} (hl : ∀ x, x < 64 → lens x = nI (zs_len al c x)) {way nn s t wt : Nat} (hw2 : way ≤ 2) (hn : nn < 7) (hs : s < 64) (ht : t < 64) (hwt : wt ≤ 9) {To V : Nat → Nat} {oth : Nat → Int64} (ho : ∀ w, w < 64 → oth w = lN (V w) ∧ zs_St way nn (To w) (V w)) (there : Int64) (f : Nat → Int64) : ∃ M g, zf_X4_mergedWithTerm (nI wt) (nI way) (nI s) (nI t) there lens oth f = some (M, g) ∧ ∀ w, w < 64 → (zs_bit M w = true ↔ zs_isMin (zs_bit there) (fun w => zs_tj way (To w) (wt * zs_len al c (zs_wr s t w))) 64 w) := by
  have hle : ∀ x, wt * zs_len al c x ≤ 486 := fun x => Nat.mul_le_mul hwt (zs_len_le hc x)
  have hV : ∀ w, ∃ V', w < 64 → zf_X4_joined (nI way) (oth w) (lN (wt * zs_len al c (zs_wr s t w))) = some (lN V') ∧ zs_St way (nn + 1) (zs_tj way (To w) (wt * zs_len al c (zs_wr s t w))) V' := by
    intro w
    by_cases q : w < 64
    · obtain ⟨V', j1, j2⟩ := zs_join hw2 hn (ho w q).2 (hle (zs_wr s t w))
      exact ⟨V', fun _ => ⟨by rw [(ho w q).1]; exact j1, j2⟩⟩
    · exact ⟨0, fun z => absurd z q⟩
  obtain ⟨V', hV'⟩ : ∃ V' : Nat → Nat, ∀ w, w < 64 → zf_X4_joined (nI way) (oth w) (lN (wt * zs_len al c (zs_wr s t w))) = some (lN (V' w)) ∧ zs_St way (nn + 1) (zs_tj way (To w) (wt * zs_len al c (zs_wr s t w))) (V' w) := ⟨fun w => (hV w).choose, fun w => (hV w).choose_spec⟩
  have h := zs_for (fun n (a : Nat → Int64) w => zl_X4_mergedWithTerm_3 (nI wt) (nI way) (nI s) (nI t) lens oth n (nI w) a) 64 (fun i a => i ≤ 64 ∧ ∀ w, w < i → a w = lN (V' w)) (fun r => ∀ w, w < 64 → r.2 w = lN (V' w)) (by
    intro n a ha
    refine ⟨(nI 64, a), ?_, ha.2⟩
    show zl_X4_mergedWithTerm_3 _ _ _ _ _ _ (n + 1) (nI 64) a = _
    rw [zl_X4_mergedWithTerm_3, if_pos (show (64 : Int32) ≤ nI 64 by decide)]) (by
    intro n i a hi ha
    right
    have hx : zs_wr s t i < 64 := zs_wr_lt hs ht
    have hxl := hle (zs_wr s t i)
    refine ⟨vp_updL a i (lN (V' i)), ?_, by omega, fun w hw => ?_⟩
    · show zl_X4_mergedWithTerm_3 _ _ _ _ _ _ (n + 1) (nI i) a = zl_X4_mergedWithTerm_3 (nI wt) (nI way) (nI s) (nI t) lens oth n (nI (i + 1)) _
      rw [zl_X4_mergedWithTerm_3, if_neg (show ¬ (64 : Int32) ≤ nI i from nI_ge hi (by decide)), zs_wrong hs hi, zs_zin (n := i) hi (by omega), nI_clamp (n := i) (by omega), ← nI_1]
      show zk_gd (zk_in (nI (zs_wr s t i)) 64) ((zf_X4_joined (nI way) (oth i) ((nI wt * (lens (nI (zs_wr s t i)).toNatClampNeg)).toInt64)).bind _) = _
      rw [zs_zin (n := zs_wr s t i) hx (by omega), nI_clamp (n := zs_wr s t i) (by omega), hl _ hx, pk_mul, nI_l (by omega), (hV' i hi).1]
      rfl
    · unfold vp_updL
      by_cases e : w = i
      · subst e; rw [if_pos rfl]
      · rw [if_neg e]; exact ha.2 w (by omega))
  obtain ⟨r, h1, h2⟩ := h 64 0 f zk_F (by omega) (by rw [zs_F]; omega) ⟨by omega, fun j hj => absurd hj (by omega)⟩
  have h1' : zl_X4_mergedWithTerm_3 (nI wt) (nI way) (nI s) (nI t) lens oth zk_F (0 : Int32) f = some r := h1
  obtain ⟨m, e3, e4⟩ := zs_least4 there V' (fun w hw => zs_St_lt (by omega) (hV' w hw).2) h2
  refine ⟨m, r.2, ?_, ?_⟩
  · unfold zf_X4_mergedWithTerm
    rw [h1', Option.bind_some, e3, Option.bind_some]
  · intro w hw
    rw [e4 w hw]
    exact zs_minle (fun a o ha ho => zs_St_le (hV' a ha).2 (hV' o ho).2)
theorem zs_others4 {way k i : Nat} (hw : way ≤ 2) (hk : k ≤ 7) (hi : i < k) {wts : Nat → Int32} {fars : Nat → Nat → Int64} {b : Nat → Nat → Nat} (hb : ∀ i, i < k → ∀ w, w < 64 → zf_X4_burdenOf (nI i) (nI w) wts fars = some (lN (b i w)) ∧ b i w ≤ 486) (f : Nat → Int64) : ∃ r, ∃ V : Nat → Nat, zl_X4_bestLie_3 (nI i) (nI way) (nI k) wts fars zk_F (0 : Int32) f = some r ∧ ∀ w, w < 64 → r.2 w = lN (V w) ∧ zs_St way (k - 1) (zs_To way (fun j => b j w) i k) (V w) := by
  have hlo : ∀ j, j < 7 → (nI j = nI i ↔ j = i) := fun j hj => nI_eq (by omega) (by omega)
  have hV : ∀ w, ∃ V, w < 64 → zf_X4_weighed (nI way) (nI w) (nI i) (nI k) wts fars = some (lN V) ∧ zs_St way (k - 1) (zs_To way (fun j => b j w) i k) V := by
    intro w
    by_cases q : w < 64
    · obtain ⟨V, e1, e2⟩ := zs_weighed (w := w) (b := fun i => b i w) hw hk hlo (fun i hi => hb i hi w q)
      rw [show zs_cn i k = k - 1 by unfold zs_cn; rw [if_pos hi]] at e2
      exact ⟨V, fun _ => ⟨e1, e2⟩⟩
    · exact ⟨0, fun z => absurd z q⟩
  obtain ⟨V, hV⟩ : ∃ V : Nat → Nat, ∀ w, w < 64 → zf_X4_weighed (nI way) (nI w) (nI i) (nI k) wts fars = some (lN (V w)) ∧ zs_St way (k - 1) (zs_To way (fun j => b j w) i k) (V w) := ⟨fun w => (hV w).choose, fun w => (hV w).choose_spec⟩
  have h := zs_for (fun n (a : Nat → Int64) w => zl_X4_bestLie_3 (nI i) (nI way) (nI k) wts fars n (nI w) a) 64 (fun i a => i ≤ 64 ∧ ∀ w, w < i → a w = lN (V w)) (fun r => ∀ w, w < 64 → r.2 w = lN (V w)) (by
    intro n a ha
    refine ⟨(nI 64, a), ?_, ha.2⟩
    show zl_X4_bestLie_3 _ _ _ _ _ (n + 1) (nI 64) a = _
    rw [zl_X4_bestLie_3, if_pos (show (64 : Int32) ≤ nI 64 by decide)]) (by
    intro n j a hj ha
    right
    refine ⟨vp_updL a j (lN (V j)), ?_, by omega, fun w hw => ?_⟩
    · show zl_X4_bestLie_3 _ _ _ _ _ (n + 1) (nI j) a = zl_X4_bestLie_3 (nI i) (nI way) (nI k) wts fars n (nI (j + 1)) _
      rw [zl_X4_bestLie_3, if_neg (show ¬ (64 : Int32) ≤ nI j from nI_ge hj (by decide)), (hV j hj).1, Option.bind_some, zs_zin hj (by omega), nI_clamp (by omega)]
      show zl_X4_bestLie_3 _ _ _ _ _ n (nI j + 1) _ = _
      rw [nI_1]
    · unfold vp_updL
      by_cases e : w = j
      · subst e; rw [if_pos rfl]
      · rw [if_neg e]; exact ha.2 w (by omega))
  obtain ⟨r, h1, h2⟩ := h 64 0 f zk_F (by omega) (by rw [zs_F]; omega) ⟨by omega, fun j hj => absurd hj (by omega)⟩
  exact ⟨r, V, h1, fun w hw => ⟨h2 w hw, (hV w hw).2⟩⟩
