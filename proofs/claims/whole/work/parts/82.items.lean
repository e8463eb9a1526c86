/-! ITEMS -/
def zt_rel (s : Nat) (says : Nat → Int64) (wts : Nat → Int32) (rs : Nat → Int64) (rw : Nat → Int32) : Prop := ∀ i, i < s → says i = rs i ∧ ∃ w, 1 ≤ w ∧ w ≤ 9 ∧ wts i = nI w ∧ rw i = nI w
theorem zt_rel_s {s w : Nat} {says rs : Nat → Int64} {wts rw : Nat → Int32} (h : zt_rel s says wts rs rw) (v : Int64) (h1 : 1 ≤ w) (h2 : w ≤ 9) : zt_rel (s + 1) (vp_updL says s v) (upd wts s (nI w)) (vp_updL rs s v) (upd rw s (nI w)) := by
  intro i hi
  by_cases e : i = s
  · subst e
    rw [pk_uLs, pk_uLs, pk_us, pk_us]
    exact ⟨rfl, w, h1, h2, rfl, rfl⟩
  · rw [pk_uLn e, pk_uLn e, pk_un e, pk_un e]
    exact h i (by omega)
theorem zt_sayFault {f : Int32} (hf : ¬ f = -1) (x a t : Int32) (tk pl : Nat → Int32) : zf_X1_readSaying (zf_X1_readOne 10) x a t f tk pl = some (0, a, t, f) := by
  have h1 : zf_X1_readOne 10 x a t f tk pl = some (0, a, t, f) := by
    show zf_X1_readOne (9 + 1) x a t f tk pl = _
    rw [zf_X1_readOne, zt_if1 hf, Option.bind_some, if_neg (show ¬ (1 : Int32) = 0 by decide), zt_failF hf]
    rfl
  have h2 : zf_X1_readBoth (zf_X1_readOne 10) x a t f tk pl = some (0, a, t, f) := by
    unfold zf_X1_readBoth
    rw [h1, Option.bind_some]
    show (zl_X1_readBoth_9 (zf_X1_readOne 10) x tk pl (4999 + 1) 0 (0 : Int32) a t f).bind _ = _
    rw [zt_bothF hf]
    rfl
  unfold zf_X1_readSaying
  rw [h2, Option.bind_some]
  show (zl_X1_readSaying_9 (zf_X1_readOne 10) x tk pl (4999 + 1) 0 (0 : Int32) a t f).bind _ = _
  rw [zt_sayF hf]
  rfl
theorem zt_wc : ∀ c, c < 260 → (nI c - (48 : Int32) < (1 : Int32) ↔ c < 49) ∧ (nI c - (48 : Int32) ≤ (9 : Int32) ↔ c ≤ 57) := by decide +kernel
theorem zt_w5 : ∀ c, c < 260 → zt_v c = true → zf_X5_in (zt_r c).toInt64 (49 : Int64) (57 : Int64) = some (zs_o (decide (49 ≤ c) && decide (c ≤ 57))) := by decide +kernel
theorem zt_w5v : ∀ c, c < 58 → 49 ≤ c → zt_r c - (48 : Int32) = nI (c - 48) ∧ nI c - (48 : Int32) = nI (c - 48) := by decide +kernel
def zt_Y (n : Nat) (mt : Nat → Int32) (P Q tc : Nat → Nat) (fr k a s : Nat) (th : Int64) (w8 w9 : Int32) (w10 : Int64) (rw : Nat → Int32) (rs : Nat → Int64) (op : Nat → Int32) (any all : Nat → Int64) : Option ((Int32 × Int32 × Int64 × Int32 × Int32 × Int32 × Int32 × Int32 × Int64 × (Nat → Int32) × (Nat → Int64) × (Nat → Int32) × (Nat → Int64) × (Nat → Int64)) ⊕ (Int32 × Int32 × Int32 × Int64 × Int32 × Int32 × Int32 × Int32 × Int32 × Int64 × (Nat → Int32) × (Nat → Int64) × (Nat → Int32) × (Nat → Int64) × (Nat → Int64))) := zl_X5_fault_26 (nI n) mt fr (nI a) (nI s) th (nI (P k)) (nI (Q k)) (zt_r (tc k)) w8 w9 w10 rw rs op any all
section
variable {n : Nat} {mt tk pl : Nat → Int32} {P Q tc : Nat → Nat} {m : Nat}
/-- the part behind the weight: a SAYING and ; -/
theorem zt_tail (h : zt_St n mt tk pl P Q tc m) (sd : Int64) {k : Nat} (hk : k ≤ m) (op : Nat → Int32) (any all : Nat → Int64) : ∃ v a t f, zf_X1_readSaying (zf_X1_readOne 10) (0 : Int32) (nI k) (nI (tc k)) (-1) tk pl = some (v, a, t, f) ∧ ∃ a2 t2 f2, zf_X1_expect (59 : Int32) a t f tk pl = some (a2, t2, f2) ∧ ∃ r, zf_X5_saying (nI n) (nI (P k)) (nI (Q k)) (zt_r (tc k)) sd mt op any all = some r ∧ ((∃ k', k < k' ∧ k' < m ∧ a2 = nI (k' + 1) ∧ t2 = nI (tc (k' + 1)) ∧ f2 = -1 ∧ ¬ 0 ≤ r.1 ∧ r.2.2.1 = nI (Q k') ∧ r.2.2.2.1 = (59 : Int32) ∧ r.2.2.2.2.2.2.1 = v) ∨ (¬ f2 = -1 ∧ ∃ j, j ≤ m ∧ f2 = nI (P j) ∧ r.2.1 = nI (P j) ∧ (0 ≤ r.1 ∨ (¬ 0 ≤ r.1 ∧ ¬ r.2.2.2.1 = (59 : Int32))))) := by
  obtain ⟨v, a, t, f, e1, hcase⟩ := zt_top h sd hk op any all
  refine ⟨v, a, t, f, e1, ?_⟩
  rcases hcase with ⟨k', q1, q2, q3, q4, q5, op', any', all', q6⟩ | ⟨hne, j, j1, j2, r, j3, j4, j5⟩
  · subst q3 q4 q5
    have hv := h.2.2.2.2.2.2.1 k'
    have hr := (zt_rq _ hv.1 hv.2).2.2.2.2.2.2.1
    have hn0 : ¬ (0 : Int32) ≤ (-1 : Int32) := by decide
    by_cases c59 : tc k' = 59
    · have hk' : k' < m := zt_lt h q2 (by rw [c59]; decide)
      exact ⟨_, _, _, zt_expY h (c := 59) hk' c59, _, q6, Or.inl ⟨k', q1, hk', rfl, rfl, rfl, hn0, rfl, hr.mpr c59, rfl⟩⟩
    · exact ⟨_, _, _, zt_expN h (c := 59) q2 c59 (by decide), _, q6, Or.inr ⟨zt_Pne (h.2.2.2.2.2.2.2 k'), k', q2, rfl, rfl, Or.inr ⟨hn0, fun z => c59 (hr.mp z)⟩⟩⟩
  · exact ⟨_, _, _, zt_expF hne 59 a t tk pl, r, j3, Or.inr ⟨hne, j, j1, j2, j5, Or.inl j4⟩⟩
theorem zt_item (h : zt_St n mt tk pl P Q tc m) {k a s : Nat} (hk : k < m) (ha : a ≤ 3) (hs : s ≤ 7) (there : Int64) {says rs : Nat → Int64} {wts rw : Nat → Int32} (hrel : zt_rel s says wts rs rw) (w8 w9 : Int32) (w10 : Int64) (op : Nat → Int32) (any all : Nat → Int64) :
    ∃ a1 t1 f la th sy says' wts', zf_X1_readItem (nI k) (nI (tc k)) (-1) tk pl (nI a) there (nI s) says wts = some (a1, t1, f, la, th, sy, says', wts') ∧
      ((∃ k' a' s', k < k' ∧ k' ≤ m ∧ a1 = nI k' ∧ t1 = nI (tc k') ∧ f = -1 ∧ a' ≤ 3 ∧ s' ≤ 7 ∧ la = nI a' ∧ sy = nI s' ∧ ∃ u8 u9 u10 rw' rs' op' any' all', zt_rel s' says' wts' rs' rw' ∧ ∀ fr, zt_Y n mt P Q tc (fr + 1) k a s there w8 w9 w10 rw rs op any all = zt_Y n mt P Q tc fr k' a' s' th u8 u9 u10 rw' rs' op' any' all') ∨
       (¬ f = -1 ∧ ∃ j, j ≤ m ∧ f = nI (P j) ∧ ∀ fr, ∃ u, zt_Y n mt P Q tc (fr + 1) k a s there w8 w9 w10 rw rs op any all = some (Sum.inr u) ∧ u.1 = nI (P j))) := by
  have hm : m ≤ 300 := h.1
  have hv := h.2.2.2.2.2.2.1 k
  have hr := zt_rq _ hv.1 hv.2
  have hn258 : ¬ tc k = 258 := h.2.2.2.2.2.1 k hk
  have hr0 : ¬ zt_r (tc k) = 0 := fun z => hn258 (hr.2.2.2.2.2.2.2.2.2.mp z)
  have hPk := zt_Pne (h.2.2.2.2.2.2.2 k)
  unfold zf_X1_readItem
  by_cases c256 : tc k = 256
  · have hr76 : zt_r (tc k) = 76 := hr.2.2.2.2.2.2.2.1.mpr c256
    rw [if_pos (show nI (tc k) = (256 : Int32) by rw [c256]; rfl)]
    by_cases a3 : a = 3
    · rw [if_pos (show (3 : Int32) ≤ nI a by rw [a3]; decide), if_neg (show ¬ nI (tc k) = (257 : Int32) by rw [c256]; decide), zt_fail h (by omega), Option.bind_some]
      refine ⟨_, _, _, _, _, _, _, _, rfl, Or.inr ⟨hPk, k, by omega, rfl, fun fr => ?_⟩⟩
      unfold zt_Y
      rw [zl_X5_fault_26, if_neg hr0, if_pos hr76, Option.bind_some, if_neg (show ¬ (1 : Int32) = 0 by decide), if_pos (show (3 : Int32) ≤ nI a by rw [a3]; decide), Option.bind_some]
      exact ⟨_, rfl, rfl⟩
    · have hn3 : ¬ (3 : Int32) ≤ nI a := nI_ge (b := 3) (by omega) (by decide)
      rw [if_neg hn3, zt_adv h hk, Option.bind_some]
      obtain ⟨v, a0, t0, f0, e1, a2, t2, f2, e2, r, e3, hcase⟩ := zt_tail h w10 (k := k + 1) (by omega) op any all
      show ∃ a1 t1 f la th sy says' wts', ((zf_X1_readSaying (zf_X1_readOne 10) (0 : Int32) (nI (k + 1)) (nI (tc (k + 1))) (-1) tk pl).bind _) = some (a1, t1, f, la, th, sy, says', wts') ∧ _
      rw [e1, Option.bind_some]
      show ∃ a1 t1 f la th sy says' wts', ((zf_X1_expect (59 : Int32) a0 t0 f0 tk pl).bind (fun v22 => some (v22.1, v22.2.1, v22.2.2, nI a + 1, there &&& v, nI s, says, wts))) = some (a1, t1, f, la, th, sy, says', wts') ∧ _
      rw [e2, Option.bind_some, nI_1]
      refine ⟨_, _, _, _, _, _, _, _, rfl, ?_⟩
      rcases hcase with ⟨k', q1, q2, q3, q4, q5, q6, q7, q8, q9⟩ | ⟨hne, j, j1, j2, j3, j4⟩
      · refine Or.inl ⟨k' + 1, a + 1, s, by omega, by omega, q3, q4, q5, by omega, hs, rfl, rfl, r.2.2.2.2.1, r.2.2.2.2.2.1, r.2.2.2.2.2.2.1, rw, rs, r.2.2.2.2.2.2.2.1, r.2.2.2.2.2.2.2.2.1, r.2.2.2.2.2.2.2.2.2, hrel, fun fr => ?_⟩
        unfold zt_Y
        rw [zl_X5_fault_26, if_neg hr0, if_pos hr76, Option.bind_some, if_neg (show ¬ (1 : Int32) = 0 by decide), if_neg hn3, Option.bind_some]
        show ((zf_X5_token (nI n) (nI (Q k)) mt).bind _) = _
        rw [h.2.2.1 k, Option.bind_some, if_neg (show ¬ (1 : Int32) = 0 by decide), Option.bind_some]
        show ((zf_X5_saying (nI n) (nI (P (k + 1))) (nI (Q (k + 1))) (zt_r (tc (k + 1))) w10 mt op any all).bind _) = _
        rw [e3, Option.bind_some, if_neg q6, if_pos q8, if_neg (show ¬ (1 : Int32) = 0 by decide), q7, h.2.2.1 k', q9]
        show zl_X5_fault_26 (nI n) mt fr (nI a + 1) (nI s) (there &&& v) _ _ _ _ _ _ _ _ _ _ _ = _
        rw [nI_1]
      · refine Or.inr ⟨hne, j, j1, j2, fun fr => ?_⟩
        unfold zt_Y
        rw [zl_X5_fault_26, if_neg hr0, if_pos hr76, Option.bind_some, if_neg (show ¬ (1 : Int32) = 0 by decide), if_neg hn3, Option.bind_some]
        show ∃ u, ((zf_X5_token (nI n) (nI (Q k)) mt).bind _) = some (Sum.inr u) ∧ _
        rw [h.2.2.1 k, Option.bind_some, if_neg (show ¬ (1 : Int32) = 0 by decide), Option.bind_some]
        show ∃ u, ((zf_X5_saying (nI n) (nI (P (k + 1))) (nI (Q (k + 1))) (zt_r (tc (k + 1))) w10 mt op any all).bind _) = some (Sum.inr u) ∧ _
        rw [e3, Option.bind_some]
        rcases j4 with j4 | ⟨j4, j5⟩
        · rw [if_pos j4]
          exact ⟨_, rfl, j3⟩
        · rw [if_neg j4, if_neg j5]
          exact ⟨_, rfl, j3⟩
  · have hr76 : ¬ zt_r (tc k) = 76 := fun z => c256 (hr.2.2.2.2.2.2.2.1.mp z)
    rw [if_neg (show ¬ nI (tc k) = (256 : Int32) from zt_nIne hv.1 (c := 256) (by decide) c256)]
    by_cases c257 : tc k = 257
    · have hr83 : zt_r (tc k) = 83 := hr.2.2.2.2.2.2.2.2.1.mpr c257
      rw [if_pos (show nI (tc k) = (257 : Int32) by rw [c257]; rfl)]
      by_cases s7 : s = 7
      · rw [if_pos (show (7 : Int32) ≤ nI s by rw [s7]; decide), zt_fail h (by omega), Option.bind_some]
        refine ⟨_, _, _, _, _, _, _, _, rfl, Or.inr ⟨hPk, k, by omega, rfl, fun fr => ?_⟩⟩
        unfold zt_Y
        rw [zl_X5_fault_26, if_neg hr0, if_neg hr76, Option.bind_some, if_pos rfl, if_pos hr83, if_neg (show ¬ nI s < (7 : Int32) by rw [s7]; decide), Option.bind_some]
        exact ⟨_, rfl, rfl⟩
      · have hn7 : ¬ (7 : Int32) ≤ nI s := nI_ge (b := 7) (by omega) (by decide)
        have hl7 : nI s < (7 : Int32) := nI_lt (b := 7) (by omega) (by decide)
        have hv1 := h.2.2.2.2.2.2.1 (k + 1)
        have hw1 := zt_wc _ hv1.1
        have hw5 := zt_w5 _ hv1.1 hv1.2
        rw [if_neg hn7, zt_adv h hk, Option.bind_some]
        have refTo : ∀ fr, zt_Y n mt P Q tc (fr + 1) k a s there w8 w9 w10 rw rs op any all = (if (0 : Int32) = 0 then (zf_X5_in (zt_r (tc (k + 1))).toInt64 (49 : Int64) (57 : Int64)).bind (fun v32 => if v32 = 0 then some (Sum.inr (nI (P (k + 1)), nI a, nI s, there, nI (P (k + 1)), nI (Q (k + 1)), zt_r (tc (k + 1)), w8, w9, w10, rw, rs, op, any, all)) else zk_gd (zk_in (nI s) 7) ((zf_X5_token (nI n) (nI (Q (k + 1))) mt).bind (fun v34 => some (Sum.inl (v34.1, v34.2.1, v34.2.2, upd rw (nI s).toNatClampNeg (zt_r (tc (k + 1)) - (48 : Int32))))))) else some (Sum.inl (nI (P (k + 1)), nI (Q (k + 1)), zt_r (tc (k + 1)), rw))).bind (fun v20 => zk_su v20 (fun u21 => (zf_X5_saying (nI n) u21.1 u21.2.1 u21.2.2.1 w10 mt op any all).bind (fun v22 => if 0 ≤ v22.1 then some (Sum.inr (v22.2.1, nI a, nI s, there, v22.2.1, v22.2.2.1, v22.2.2.2.1, v22.2.2.2.2.1, v22.2.2.2.2.2.1, v22.2.2.2.2.2.2.1, u21.2.2.2, rs, v22.2.2.2.2.2.2.2.1, v22.2.2.2.2.2.2.2.2.1, v22.2.2.2.2.2.2.2.2.2)) else if v22.2.2.2.1 = (59 : Int32) then (if (0 : Int32) = 0 then zk_gd (zk_in (nI s) 7) (zk_lt (nI s + (1 : Int32)) (fun y24 => (zf_X5_token (nI n) v22.2.2.1 mt).bind (fun v25 => zl_X5_fault_26 (nI n) mt fr (nI a) y24 there v25.1 v25.2.1 v25.2.2 v22.2.2.2.2.1 v22.2.2.2.2.2.1 v22.2.2.2.2.2.2.1 u21.2.2.2 (vp_updL rs (nI s).toNatClampNeg v22.2.2.2.2.2.2.1) v22.2.2.2.2.2.2.2.1 v22.2.2.2.2.2.2.2.2.1 v22.2.2.2.2.2.2.2.2.2))) else zk_lt (there &&& v22.2.2.2.2.2.2.1) (fun y26 => zk_lt (nI a + (1 : Int32)) (fun y27 => (zf_X5_token (nI n) v22.2.2.1 mt).bind (fun v28 => zl_X5_fault_26 (nI n) mt fr y27 (nI s) y26 v28.1 v28.2.1 v28.2.2 v22.2.2.2.2.1 v22.2.2.2.2.2.1 v22.2.2.2.2.2.2.1 u21.2.2.2 rs v22.2.2.2.2.2.2.2.1 v22.2.2.2.2.2.2.2.2.1 v22.2.2.2.2.2.2.2.2.2)))) else some (Sum.inr (v22.2.1, nI a, nI s, there, v22.2.1, v22.2.2.1, v22.2.2.2.1, v22.2.2.2.2.1, v22.2.2.2.2.2.1, v22.2.2.2.2.2.2.1, u21.2.2.2, rs, v22.2.2.2.2.2.2.2.1, v22.2.2.2.2.2.2.2.2.1, v22.2.2.2.2.2.2.2.2.2)))) (fun r37 => some (Sum.inr r37))) := by
          intro fr
          unfold zt_Y
          rw [zl_X5_fault_26, if_neg hr0, if_neg hr76, Option.bind_some, if_pos (show (0 : Int32) = 0 from rfl), if_pos hr83, if_pos hl7, Option.bind_some]
          show ((zf_X5_token (nI n) (nI (Q k)) mt).bind _) = _
          rw [h.2.2.1 k, Option.bind_some]
        by_cases cw : 49 ≤ tc (k + 1) ∧ tc (k + 1) ≤ 57
        · have hk1 : k + 1 < m := zt_lt h (by omega) (by omega)
          have hwv := zt_w5v _ (show tc (k + 1) < 58 by omega) cw.1
          have ew : zf_X1_readWeight (nI (k + 1)) (nI (tc (k + 1))) (-1) tk pl = some (nI (tc (k + 1) - 48), nI (k + 2), nI (tc (k + 2)), -1) := by
            unfold zf_X1_readWeight
            show (if nI (tc (k + 1)) - (48 : Int32) < (1 : Int32) then _ else if nI (tc (k + 1)) - (48 : Int32) ≤ (9 : Int32) then _ else _) = _
            rw [if_neg (fun z => by have := hw1.1.mp z; omega), if_pos (hw1.2.mpr cw.2), zt_adv h hk1, hwv.2]
            rfl
          obtain ⟨v, a0, t0, f0, e1, a2, t2, f2, e2, r, e3, hcase⟩ := zt_tail h w10 (k := k + 2) (by omega) op any all
          show ∃ a1 t1 f la th sy says' wts', ((zf_X1_readWeight (nI (k + 1)) (nI (tc (k + 1))) (-1) tk pl).bind _) = some (a1, t1, f, la, th, sy, says', wts') ∧ _
          rw [ew, Option.bind_some]
          show ∃ a1 t1 f la th sy says' wts', ((zf_X1_readSaying (zf_X1_readOne 10) (0 : Int32) (nI (k + 2)) (nI (tc (k + 2))) (-1) tk pl).bind _) = some (a1, t1, f, la, th, sy, says', wts') ∧ _
          rw [e1, Option.bind_some]
          unfold zf_X3_addSayer
          rw [if_neg hn7, zs_zin (n := s) (by omega) (by omega), nI_clamp (by omega)]
          show ∃ a1 t1 f la th sy says' wts', ((zf_X1_expect (59 : Int32) a0 t0 f0 tk pl).bind (fun v7 => some (v7.1, v7.2.1, v7.2.2, nI a, there, nI s + 1, vp_updL says s v, upd wts s (nI (tc (k + 1) - 48))))) = some (a1, t1, f, la, th, sy, says', wts') ∧ _
          rw [e2, Option.bind_some, nI_1]
          refine ⟨_, _, _, _, _, _, _, _, rfl, ?_⟩
          have refTo2 : ∀ fr, zt_Y n mt P Q tc (fr + 1) k a s there w8 w9 w10 rw rs op any all = (if 0 ≤ r.1 then some (Sum.inr (r.2.1, nI a, nI s, there, r.2.1, r.2.2.1, r.2.2.2.1, r.2.2.2.2.1, r.2.2.2.2.2.1, r.2.2.2.2.2.2.1, upd rw s (nI (tc (k + 1) - 48)), rs, r.2.2.2.2.2.2.2.1, r.2.2.2.2.2.2.2.2.1, r.2.2.2.2.2.2.2.2.2)) else if r.2.2.2.1 = (59 : Int32) then (zf_X5_token (nI n) r.2.2.1 mt).bind (fun v25 => zl_X5_fault_26 (nI n) mt fr (nI a) (nI (s + 1)) there v25.1 v25.2.1 v25.2.2 r.2.2.2.2.1 r.2.2.2.2.2.1 r.2.2.2.2.2.2.1 (upd rw s (nI (tc (k + 1) - 48))) (vp_updL rs s r.2.2.2.2.2.2.1) r.2.2.2.2.2.2.2.1 r.2.2.2.2.2.2.2.2.1 r.2.2.2.2.2.2.2.2.2) else some (Sum.inr (r.2.1, nI a, nI s, there, r.2.1, r.2.2.1, r.2.2.2.1, r.2.2.2.2.1, r.2.2.2.2.2.1, r.2.2.2.2.2.2.1, upd rw s (nI (tc (k + 1) - 48)), rs, r.2.2.2.2.2.2.2.1, r.2.2.2.2.2.2.2.2.1, r.2.2.2.2.2.2.2.2.2))) := by
            intro fr
            rw [refTo fr, if_pos (show (0 : Int32) = 0 from rfl), hw5, Option.bind_some, decide_eq_true cw.1, decide_eq_true cw.2, if_neg (show ¬ zs_o (true && true) = 0 by decide), zs_zin (n := s) (by omega) (by omega), zk_gd_t, h.2.2.1 (k + 1), Option.bind_some, Option.bind_some, nI_clamp (by omega), hwv.1]
            show ((zf_X5_saying (nI n) (nI (P (k + 2))) (nI (Q (k + 2))) (zt_r (tc (k + 2))) w10 mt op any all).bind _) = _
            rw [e3, Option.bind_some, if_pos (show (0 : Int32) = 0 from rfl)]
            show (if 0 ≤ r.1 then _ else if r.2.2.2.1 = (59 : Int32) then ((zf_X5_token (nI n) r.2.2.1 mt).bind (fun v25 => zl_X5_fault_26 (nI n) mt fr (nI a) (nI s + 1) there v25.1 v25.2.1 v25.2.2 _ _ _ _ _ _ _ _)) else _) = _
            rw [nI_1]
          rcases hcase with ⟨k', q1, q2, q3, q4, q5, q6, q7, q8, q9⟩ | ⟨hne, j, j1, j2, j3, j4⟩
          · refine Or.inl ⟨k' + 1, a, s + 1, by omega, by omega, q3, q4, q5, ha, by omega, rfl, rfl, r.2.2.2.2.1, r.2.2.2.2.2.1, r.2.2.2.2.2.2.1, upd rw s (nI (tc (k + 1) - 48)), vp_updL rs s v, r.2.2.2.2.2.2.2.1, r.2.2.2.2.2.2.2.2.1, r.2.2.2.2.2.2.2.2.2, zt_rel_s hrel v (by omega) (by omega), fun fr => ?_⟩
            rw [refTo2 fr, if_neg q6, if_pos q8, q7, h.2.2.1 k', q9]
            rfl
          · refine Or.inr ⟨hne, j, j1, j2, fun fr => ?_⟩
            rw [refTo2 fr]
            rcases j4 with j4 | ⟨j4, j5⟩
            · rw [if_pos j4]
              exact ⟨_, rfl, j3⟩
            · rw [if_neg j4, if_neg j5]
              exact ⟨_, rfl, j3⟩
        · have hPk1 := zt_Pne (h.2.2.2.2.2.2.2 (k + 1))
          have ew : zf_X1_readWeight (nI (k + 1)) (nI (tc (k + 1))) (-1) tk pl = some (0, nI (k + 1), nI (tc (k + 1)), nI (P (k + 1))) := by
            unfold zf_X1_readWeight
            show (if nI (tc (k + 1)) - (48 : Int32) < (1 : Int32) then _ else if nI (tc (k + 1)) - (48 : Int32) ≤ (9 : Int32) then _ else _) = _
            rw [zt_fail h (by omega)]
            by_cases z1 : tc (k + 1) < 49
            · rw [if_pos (hw1.1.mpr z1)]
              rfl
            · rw [if_neg (fun z => z1 (hw1.1.mp z)), if_neg (fun z => by have := hw1.2.mp z; omega)]
              rfl
          show ∃ a1 t1 f la th sy says' wts', ((zf_X1_readWeight (nI (k + 1)) (nI (tc (k + 1))) (-1) tk pl).bind _) = some (a1, t1, f, la, th, sy, says', wts') ∧ _
          rw [ew, Option.bind_some]
          show ∃ a1 t1 f la th sy says' wts', ((zf_X1_readSaying (zf_X1_readOne 10) (0 : Int32) (nI (k + 1)) (nI (tc (k + 1))) (nI (P (k + 1))) tk pl).bind _) = some (a1, t1, f, la, th, sy, says', wts') ∧ _
          rw [zt_sayFault hPk1, Option.bind_some]
          unfold zf_X3_addSayer
          rw [if_neg hn7, zs_zin (n := s) (by omega) (by omega), nI_clamp (by omega)]
          show ∃ a1 t1 f la th sy says' wts', ((zf_X1_expect (59 : Int32) (nI (k + 1)) (nI (tc (k + 1))) (nI (P (k + 1))) tk pl).bind _) = some (a1, t1, f, la, th, sy, says', wts') ∧ _
          rw [zt_expF hPk1, Option.bind_some]
          refine ⟨_, _, _, _, _, _, _, _, rfl, Or.inr ⟨hPk1, k + 1, by omega, rfl, fun fr => ?_⟩⟩
          have hd : (decide (49 ≤ tc (k + 1)) && decide (tc (k + 1) ≤ 57)) = false := by
            rw [Bool.and_eq_false_iff, decide_eq_false_iff_not, decide_eq_false_iff_not]
            omega
          rw [refTo fr, if_pos (show (0 : Int32) = 0 from rfl), hw5, Option.bind_some, hd, if_pos (show zs_o false = 0 from rfl), Option.bind_some]
          exact ⟨_, rfl, rfl⟩
    · rw [if_neg (show ¬ nI (tc k) = (257 : Int32) from zt_nIne hv.1 (c := 257) (by decide) c257), zt_fail h (by omega), Option.bind_some]
      refine ⟨_, _, _, _, _, _, _, _, rfl, Or.inr ⟨hPk, k, by omega, rfl, fun fr => ?_⟩⟩
      unfold zt_Y
      rw [zl_X5_fault_26, if_neg hr0, if_neg hr76, Option.bind_some, if_pos rfl, if_neg (fun z => c257 (hr.2.2.2.2.2.2.2.2.1.mp z)), Option.bind_some]
      exact ⟨_, rfl, rfl⟩
theorem zt_items (h : zt_St n mt tk pl P Q tc m) {v2 : Int32 × Int32 × Int32 × (Nat → Int32) × (Nat → Int32)} (hv2 : v2.2.2.2.1 = tk ∧ v2.2.2.2.2 = pl) : ∀ (g k i a s : Nat) (there : Int64) (says rs : Nat → Int64) (wts rw : Nat → Int32) (w8 w9 : Int32) (w10 : Int64) (op : Nat → Int32) (any all : Nat → Int64) (fc fr : Nat), m - k ≤ g → g + 1 < fc → g + 1 < fr → k ≤ m → i ≤ k → a ≤ 3 → s ≤ 7 → zt_rel s says wts rs rw →
    ∃ i' a1 t1 f la th sy says' wts', zl_X1_readItems_10 v2 fc (nI i) (nI k) (nI (tc k)) (-1) (nI a) there (nI s) says wts = some (i', a1, t1, f, la, th, sy, says', wts') ∧
      ((f = -1 ∧ ∃ a' s', a' ≤ 3 ∧ s' ≤ 7 ∧ la = nI a' ∧ sy = nI s' ∧ ∃ u, zt_Y n mt P Q tc fr k a s there w8 w9 w10 rw rs op any all = some (Sum.inl u) ∧ u.1 = nI a' ∧ u.2.1 = nI s' ∧ u.2.2.1 = th ∧ zt_rel s' says' wts' u.2.2.2.2.2.2.2.2.2.2.1 u.2.2.2.2.2.2.2.2.2.1) ∨
       (¬ f = -1 ∧ ∃ j, j ≤ m ∧ f = nI (P j) ∧ ∃ u, zt_Y n mt P Q tc fr k a s there w8 w9 w10 rw rs op any all = some (Sum.inr u) ∧ u.1 = nI (P j))) := by
  have hm : m ≤ 300 := h.1
  have atEnd : ∀ (k i a s : Nat) (there : Int64) (says rs : Nat → Int64) (wts rw : Nat → Int32) (w8 w9 : Int32) (w10 : Int64) (op : Nat → Int32) (any all : Nat → Int64) (f0 g0 : Nat), tc k = 258 → a ≤ 3 → s ≤ 7 → zt_rel s says wts rs rw →
    ∃ i' a1 t1 f la th sy says' wts', zl_X1_readItems_10 v2 (f0 + 1) (nI i) (nI k) (nI (tc k)) (-1) (nI a) there (nI s) says wts = some (i', a1, t1, f, la, th, sy, says', wts') ∧
      ((f = -1 ∧ ∃ a' s', a' ≤ 3 ∧ s' ≤ 7 ∧ la = nI a' ∧ sy = nI s' ∧ ∃ u, zt_Y n mt P Q tc (g0 + 1) k a s there w8 w9 w10 rw rs op any all = some (Sum.inl u) ∧ u.1 = nI a' ∧ u.2.1 = nI s' ∧ u.2.2.1 = th ∧ zt_rel s' says' wts' u.2.2.2.2.2.2.2.2.2.2.1 u.2.2.2.2.2.2.2.2.2.1) ∨
       (¬ f = -1 ∧ ∃ j, j ≤ m ∧ f = nI (P j) ∧ ∃ u, zt_Y n mt P Q tc (g0 + 1) k a s there w8 w9 w10 rw rs op any all = some (Sum.inr u) ∧ u.1 = nI (P j))) := by
    intro k i a s there says rs wts rw w8 w9 w10 op any all f0 g0 hc ha hs hrel
    have hv := h.2.2.2.2.2.2.1 k
    have hr := (zt_rq _ hv.1 hv.2).2.2.2.2.2.2.2.2.2.mpr hc
    refine ⟨nI i, nI k, nI (tc k), -1, nI a, there, nI s, says, wts, ?_, Or.inl ⟨rfl, a, s, ha, hs, rfl, rfl, ?_⟩⟩
    · rw [zl_X1_readItems_10]
      by_cases q : (300 : Int32) ≤ nI i
      · rw [if_pos q]
      · rw [if_neg q, zt_if0, Option.bind_some, if_pos rfl, if_pos (show nI (tc k) = (258 : Int32) by rw [hc]; rfl)]
    · unfold zt_Y
      rw [zl_X5_fault_26, if_pos hr]
      exact ⟨_, rfl, rfl, rfl, rfl, hrel⟩
  intro g
  induction g with
  | zero =>
    intro k i a s there says rs wts rw w8 w9 w10 op any all fc fr h1 h2 h2' h3 h4 ha hs hrel
    obtain ⟨f0, rfl⟩ : ∃ f0, fc = f0 + 1 := ⟨fc - 1, by omega⟩
    obtain ⟨g0, rfl⟩ : ∃ g0, fr = g0 + 1 := ⟨fr - 1, by omega⟩
    have ek : k = m := by omega
    exact atEnd k i a s there says rs wts rw w8 w9 w10 op any all f0 g0 (by rw [ek]; exact h.2.2.2.2.1) ha hs hrel
  | succ g ih =>
    intro k i a s there says rs wts rw w8 w9 w10 op any all fc fr h1 h2 h2' h3 h4 ha hs hrel
    obtain ⟨f0, rfl⟩ : ∃ f0, fc = f0 + 1 := ⟨fc - 1, by omega⟩
    obtain ⟨g0, rfl⟩ : ∃ g0, fr = g0 + 1 := ⟨fr - 1, by omega⟩
    by_cases hc : tc k = 258
    · exact atEnd k i a s there says rs wts rw w8 w9 w10 op any all f0 g0 hc ha hs hrel
    · have hkm : k < m := zt_lt h h3 hc
      obtain ⟨a1, t1, f, la, th, sy, says', wts', e1, hcase⟩ := zt_item h hkm ha hs there hrel w8 w9 w10 op any all
      have step : zl_X1_readItems_10 v2 (f0 + 1) (nI i) (nI k) (nI (tc k)) (-1) (nI a) there (nI s) says wts = zl_X1_readItems_10 v2 f0 (nI (i + 1)) a1 t1 f la th sy says' wts' := by
        rw [zl_X1_readItems_10, if_neg (show ¬ (300 : Int32) ≤ nI i from nI_ge (b := 300) (by omega) (by decide)), zt_if0, Option.bind_some, if_pos rfl, if_neg (show ¬ nI (tc k) = (258 : Int32) from zt_nIne (h.2.2.2.2.2.2.1 k).1 (c := 258) (by decide) hc), hv2.1, hv2.2, e1, Option.bind_some]
        show zl_X1_readItems_10 v2 f0 (nI i + 1) a1 t1 f la th sy says' wts' = _
        rw [nI_1]
      rw [step]
      rcases hcase with ⟨k', a', s', q1, q2, q3, q4, q5, q6, q7, q8, q9, u8, u9, u10, rw', rs', op', any', all', q10, q11⟩ | ⟨hne, j, j1, j2, j3⟩
      · subst q3 q4 q5 q8 q9
        rw [q11 g0]
        exact ih k' (i + 1) a' s' th says' rs' wts' rw' u8 u9 u10 op' any' all' f0 g0 (by omega) (by omega) (by omega) q2 (by omega) q6 q7 q10
      · obtain ⟨u, j4, j5⟩ := j3 g0
        obtain ⟨f00, rfl⟩ : ∃ f00, f0 = f00 + 1 := ⟨f0 - 1, by omega⟩
        refine ⟨nI (i + 1), a1, t1, f, la, th, sy, says', wts', ?_, Or.inr ⟨hne, j, j1, j2, u, j4, j5⟩⟩
        rw [zl_X1_readItems_10]
        by_cases q : (300 : Int32) ≤ nI (i + 1)
        · rw [if_pos q]
        · rw [if_neg q, zt_if1 hne, Option.bind_some, if_neg (show ¬ (1 : Int32) = 0 by decide)]
end
