/-! reading: single steps of class and reference -/
def zt_bo (c o : Nat) : Bool := if c = 33 ∨ c = 40 then decide (o < 8) else (decide (c = 48) || (decide (c = 49) || (decide (97 ≤ c) && decide (c ≤ 102))))
def zt_val (c : Nat) : Int64 := if c = 48 then 0 else if c = 49 then -1 else zk_LS (c - 97)
def zt_E (op : Nat → Int32) : Nat → Int64 → Int64 × Nat
  | 0, v => (v, 0)
  | o + 1, v => if op o = 33 then zt_E op o (v ^^^ (-1)) else (v, o + 1)
theorem zt_E_no {op : Nat → Int32} {o : Nat} (h : o = 0 ∨ ¬ op (o - 1) = 33) (v : Int64) : zt_E op o v = (v, o) := by
  cases o with
  | zero => rfl
  | succ o =>
    rcases h with h | h
    · omega
    · rw [Nat.add_sub_cancel] at h
      rw [zt_E, if_neg h]
theorem zt_endsL (op : Nat → Int32) : ∀ (o : Nat) (v : Int64) (fuel : Nat), o ≤ 9 → o < fuel → zl_X5_ends_2 op fuel v (nI o) = some ((zt_E op o v).1, nI (zt_E op o v).2) := by
  intro o
  induction o with
  | zero =>
    intro v fuel h1 h2
    obtain ⟨f, rfl⟩ : ∃ f, fuel = f + 1 := ⟨fuel - 1, by omega⟩
    rw [zl_X5_ends_2, if_pos (by decide)]
    rfl
  | succ o ih =>
    intro v fuel h1 h2
    obtain ⟨f, rfl⟩ : ∃ f, fuel = f + 1 := ⟨fuel - 1, by omega⟩
    have e1 : nI (o + 1) - (1 : Int32) = nI o := nI_pred o
    rw [zl_X5_ends_2, if_neg (nI_nle (by omega) (by omega)), e1, zs_zin (n := o) (by omega) (by omega), nI_clamp (by omega), zk_gd_t, zt_E]
    by_cases q : op o = 33
    · rw [if_pos q, if_pos q]
      exact ih (v ^^^ (-1)) f (by omega) (by omega)
    · rw [if_neg q, if_neg q]
theorem zt_ends (op : Nat → Int32) (all : Nat → Int64) (v : Int64) {o l : Nat} (ho : o ≤ 9) (hl : l < 9) : zf_X5_ends v (nI o) (nI l) op all = some (nI (zt_E op o v).2, vp_updL all l (all l &&& (zt_E op o v).1)) := by
  unfold zf_X5_ends
  rw [zt_endsL op o v zk_F ho (by rw [zs_F]; omega), Option.bind_some, zs_zin (n := l) hl (by omega), nI_clamp (by omega)]
  rfl
theorem zt_lettered : ∀ l, l < 6 → zf_X5_lettered (nI l) = some (zk_LS l) := by decide +kernel
theorem zt_bone : ∀ c, c < 260 → ∀ o, o < 9 → zf_X1_beginsOne (nI c) (nI o) = some (zs_o (zt_bo c o)) := by decide +kernel
theorem zt_opens : ∀ c, c < 260 → zt_v c = true → (if zt_r c = (33 : Int32) then some (1 : Int32) else if zt_r c = (40 : Int32) then some (1 : Int32) else some (0 : Int32)) = some (zs_o (decide (c = 33) || decide (c = 40))) := by decide +kernel
theorem zt_inAF : ∀ c, c < 260 → zt_v c = true → zf_X5_in (zt_r c).toInt64 (97 : Int64) (102 : Int64) = some (zs_o (decide (97 ≤ c) && decide (c ≤ 102))) := by decide +kernel
theorem zt_is31 : ∀ c, c < 260 → zt_v c = true → ∀ o, o < 9 → (if zs_o (decide (97 ≤ c) && decide (c ≤ 102)) = 0 then (if zt_r c = (48 : Int32) then some (1 : Int32) else if zt_r c = (49 : Int32) then some (1 : Int32) else if zs_o (decide (c = 33) || decide (c = 40)) = 0 then some (0 : Int32) else if (8 : Int32) ≤ nI o then some (0 : Int32) else some (1 : Int32)) else some (1 : Int32)) = some (zs_o (zt_bo c o)) := by decide +kernel
theorem zt_rqA : ∀ c, c < 260 → zt_v c = true → (zt_r c = 38 ↔ c = 38) ∧ (zt_r c = 124 ↔ c = 124) ∧ (zt_r c = 41 ↔ c = 41) ∧ (zt_r c = 40 ↔ c = 40) := by decide +kernel
theorem zt_rqB : ∀ c, c < 260 → zt_v c = true → (zt_r c = 48 ↔ c = 48) ∧ (zt_r c = 49 ↔ c = 49) ∧ (zt_r c = 59 ↔ c = 59) := by decide +kernel
theorem zt_rqC : ∀ c, c < 260 → zt_v c = true → (zt_r c = 76 ↔ c = 256) ∧ (zt_r c = 83 ↔ c = 257) ∧ (zt_r c = 0 ↔ c = 258) := by decide +kernel
theorem zt_rq (c : Nat) (h : c < 260) (hv : zt_v c = true) : (zt_r c = 38 ↔ c = 38) ∧ (zt_r c = 124 ↔ c = 124) ∧ (zt_r c = 41 ↔ c = 41) ∧ (zt_r c = 40 ↔ c = 40) ∧ (zt_r c = 48 ↔ c = 48) ∧ (zt_r c = 49 ↔ c = 49) ∧ (zt_r c = 59 ↔ c = 59) ∧ (zt_r c = 76 ↔ c = 256) ∧ (zt_r c = 83 ↔ c = 257) ∧ (zt_r c = 0 ↔ c = 258) := by
  obtain ⟨a1, a2, a3, a4⟩ := zt_rqA c h hv
  obtain ⟨b1, b2, b3⟩ := zt_rqB c h hv
  exact ⟨a1, a2, a3, a4, b1, b2, b3, zt_rqC c h hv⟩
theorem zt_r97 : ∀ c, c < 103 → 97 ≤ c → zt_r c - (97 : Int32) = nI (c - 97) := by decide +kernel
theorem zt_Pne {p : Nat} (hp : p ≤ 300) : ¬ nI p = (-1 : Int32) := fun q => by
  have h1 := nI_toInt (n := p) (by omega)
  rw [q] at h1
  have h2 : (-1 : Int32).toInt = -1 := rfl
  omega
theorem zt_if0 : zf_X1_isFaulty (-1) = some 0 := by
  unfold zf_X1_isFaulty
  rw [if_pos rfl]
theorem zt_if1 {f : Int32} (hf : ¬ f = -1) : zf_X1_isFaulty f = some 1 := by
  unfold zf_X1_isFaulty
  rw [if_neg hf]
theorem zt_failF {f : Int32} (hf : ¬ f = -1) (a : Int32) (pl : Nat → Int32) : zf_X1_fail a f pl = some f := by
  unfold zf_X1_fail
  rw [if_neg hf]
theorem zt_expF {f : Int32} (hf : ¬ f = -1) (x a t : Int32) (tk pl : Nat → Int32) : zf_X1_expect x a t f tk pl = some (a, t, f) := by
  unfold zf_X1_expect
  rw [zt_if1 hf, Option.bind_some, if_neg (show ¬ (1 : Int32) = 0 by decide), zt_failF hf]
  rfl
section
variable {n : Nat} {mt tk pl : Nat → Int32} {P Q tc : Nat → Nat} {m : Nat}
theorem zt_adv (h : zt_St n mt tk pl P Q tc m) {k : Nat} (hk : k < m) : zf_X1_advance (nI k) (nI (tc k)) tk = some (nI (k + 1), nI (tc (k + 1))) := by
  obtain ⟨h1, h2, h3, h4, h5, h6, h7, h8⟩ := h
  unfold zf_X1_advance
  rw [if_neg (show ¬ nI (tc k) = (258 : Int32) from zt_nIne (h7 k).1 (c := 258) (by decide) (h6 k hk)), if_neg (show ¬ (300 : Int32) ≤ nI k from nI_ge (b := 300) (by omega) (by decide))]
  show zk_gd (zk_in (nI k + 1) 301) (some (nI k + 1, tk (nI k + 1).toNatClampNeg)) = _
  rw [nI_1, zs_zin (n := k + 1) (by omega) (by omega), nI_clamp (by omega), (h4 (k + 1) (by omega)).1]
  rfl
theorem zt_fail (h : zt_St n mt tk pl P Q tc m) {k : Nat} (hk : k ≤ m) : zf_X1_fail (nI k) (-1) pl = some (nI (P k)) := by
  obtain ⟨h1, h2, h3, h4, h5, h6, h7, h8⟩ := h
  unfold zf_X1_fail
  rw [if_pos rfl, zs_zin (n := k) (by omega) (by omega), nI_clamp (by omega), (h4 k hk).2]
  rfl
theorem zt_expY (h : zt_St n mt tk pl P Q tc m) {k c : Nat} (hk : k < m) (hc : tc k = c) : zf_X1_expect (nI c) (nI k) (nI (tc k)) (-1) tk pl = some (nI (k + 1), nI (tc (k + 1)), -1) := by
  unfold zf_X1_expect
  rw [zt_if0, Option.bind_some, if_pos rfl, if_pos (by rw [hc]), zt_adv h hk]
  rfl
theorem zt_expN (h : zt_St n mt tk pl P Q tc m) {k c : Nat} (hk : k ≤ m) (hc : ¬ tc k = c) (hc2 : c < 260) : zf_X1_expect (nI c) (nI k) (nI (tc k)) (-1) tk pl = some (nI k, nI (tc k), nI (P k)) := by
  unfold zf_X1_expect
  rw [zt_if0, Option.bind_some, if_pos rfl, if_neg (zt_nIne (h.2.2.2.2.2.2.1 k).1 hc2 hc), zt_fail h hk]
  rfl
theorem zt_lt (h : zt_St n mt tk pl P Q tc m) {k : Nat} (hk : k ≤ m) (hc : ¬ tc k = 258) : k < m := by
  rcases Nat.lt_or_ge k m with q | q
  · exact q
  · have e : k = m := by omega
    rw [e] at hc
    exact absurd h.2.2.2.2.1 hc
end
/-- the reference's loop at TOKEN k -/
def zt_Z (n : Nat) (sd : Int64) (mt : Nat → Int32) (P Q tc : Nat → Nat) (fuel : Nat) (w : Int32) (k o l : Nat) (op : Nat → Int32) (any all : Nat → Int64) : Option (Int32 × Int32 × Int32 × Int32 × Int32 × Int32 × Int64 × (Nat → Int32) × (Nat → Int64) × (Nat → Int64)) := zl_X5_saying_28 (nI n) sd mt fuel w (nI (P k)) (nI (Q k)) (zt_r (tc k)) (nI o) (nI l) op any all
section
variable {n : Nat} {mt tk pl : Nat → Int32} {P Q tc : Nat → Nat} {m : Nat} {sd : Int64}
theorem zt_1bad (h : zt_St n mt tk pl P Q tc m) {k o l f : Nat} {op : Nat → Int32} {any all : Nat → Int64} (ho : o ≤ 8) (hc : zt_bo (tc k) o = false) : zt_Z n sd mt P Q tc (f + 1) 1 k o l op any all = some (nI (P k), nI (P k), nI (Q k), zt_r (tc k), nI o, nI l, sd, op, any, all) := by
  have hv := h.2.2.2.2.2.2.1 k
  unfold zt_Z
  rw [zl_X5_saying_28, if_neg (show ¬ (1 : Int32) = 0 by decide), zt_opens _ hv.1 hv.2, Option.bind_some, zt_inAF _ hv.1 hv.2, Option.bind_some, zt_is31 _ hv.1 hv.2 o (by omega), Option.bind_some, hc, if_pos (show zs_o false = 0 from rfl)]
theorem zt_1leaf (h : zt_St n mt tk pl P Q tc m) {k o l f : Nat} {op : Nat → Int32} {any all : Nat → Int64} (ho : o ≤ 8) (hl : l ≤ 8) (hc : zt_bo (tc k) o = true) (h1 : ¬ tc k = 33) (h2 : ¬ tc k = 40) : zt_Z n sd mt P Q tc (f + 1) 1 k o l op any all = zt_Z n sd mt P Q tc f 0 (k + 1) (zt_E op o (zt_val (tc k))).2 l op any (vp_updL all l (all l &&& (zt_E op o (zt_val (tc k))).1)) := by
  have hv := h.2.2.2.2.2.2.1 k
  have hr := zt_rq _ hv.1 hv.2
  unfold zt_Z
  rw [zl_X5_saying_28, if_neg (show ¬ (1 : Int32) = 0 by decide), zt_opens _ hv.1 hv.2, Option.bind_some, zt_inAF _ hv.1 hv.2, Option.bind_some, zt_is31 _ hv.1 hv.2 o (by omega), Option.bind_some, hc, if_neg (show ¬ zs_o true = 0 by decide), decide_eq_false h1, decide_eq_false h2, if_pos (show zs_o (false || false) = 0 from rfl)]
  unfold zt_val
  by_cases c48 : tc k = 48
  · rw [if_pos (hr.2.2.2.2.1.mpr c48), if_pos c48, zt_ends op all _ (by omega) (by omega), Option.bind_some, h.2.2.1 k]
    rfl
  · rw [if_neg (fun q => c48 (hr.2.2.2.2.1.mp q)), if_neg c48]
    by_cases c49 : tc k = 49
    · rw [if_pos (hr.2.2.2.2.2.1.mpr c49), if_pos c49, zt_ends op all _ (by omega) (by omega), Option.bind_some, h.2.2.1 k]
      rfl
    · have hle : 97 ≤ tc k ∧ tc k ≤ 102 := by
        unfold zt_bo at hc
        rw [if_neg (by omega)] at hc
        simp at hc
        omega
      rw [if_neg (fun q => c49 (hr.2.2.2.2.2.1.mp q)), if_neg c49, zt_r97 _ (by omega) (by omega), zt_lettered _ (by omega), Option.bind_some, zt_ends op all _ (by omega) (by omega), Option.bind_some, h.2.2.1 k]
      rfl
theorem zt_1not (h : zt_St n mt tk pl P Q tc m) {k o l f : Nat} {op : Nat → Int32} {any all : Nat → Int64} (ho : o < 8) (hc : tc k = 33) : zt_Z n sd mt P Q tc (f + 1) 1 k o l op any all = zt_Z n sd mt P Q tc f 1 (k + 1) (o + 1) l (upd op o 33) any all := by
  have hv := h.2.2.2.2.2.2.1 k
  have hbo : zt_bo (tc k) o = true := by
    rw [hc]; unfold zt_bo; rw [if_pos (Or.inl rfl), decide_eq_true ho]
  unfold zt_Z
  rw [zl_X5_saying_28, if_neg (show ¬ (1 : Int32) = 0 by decide), zt_opens _ hv.1 hv.2, Option.bind_some, zt_inAF _ hv.1 hv.2, Option.bind_some, zt_is31 _ hv.1 hv.2 o (by omega), Option.bind_some, hbo, if_neg (show ¬ zs_o true = 0 by decide), h.2.2.1 k, hc, if_neg (by decide), zs_zin (n := o) (by omega) (by omega), nI_clamp (by omega)]
  have e33 : zt_r 33 = 33 := by decide
  rw [zk_gd_t, zs_zl, e33, if_neg (show ¬ (33 : Int32) = (40 : Int32) by decide), Option.bind_some, nI_1]
theorem zt_1open (h : zt_St n mt tk pl P Q tc m) {k o l f : Nat} {op : Nat → Int32} {any all : Nat → Int64} (ho : o < 8) (hl : l < 8) (hc : tc k = 40) : zt_Z n sd mt P Q tc (f + 1) 1 k o l op any all = zt_Z n sd mt P Q tc f 1 (k + 1) (o + 1) (l + 1) (upd op o 40) (vp_updL any (l + 1) 0) (vp_updL all (l + 1) (-1)) := by
  have hv := h.2.2.2.2.2.2.1 k
  have hbo : zt_bo (tc k) o = true := by
    rw [hc]; unfold zt_bo; rw [if_pos (Or.inr rfl), decide_eq_true ho]
  unfold zt_Z
  rw [zl_X5_saying_28, if_neg (show ¬ (1 : Int32) = 0 by decide), zt_opens _ hv.1 hv.2, Option.bind_some, zt_inAF _ hv.1 hv.2, Option.bind_some, zt_is31 _ hv.1 hv.2 o (by omega), Option.bind_some, hbo, if_neg (show ¬ zs_o true = 0 by decide), h.2.2.1 k, hc, if_neg (by decide), zs_zin (n := o) (by omega) (by omega), nI_clamp (by omega)]
  have e40 : zt_r 40 = 40 := by decide
  rw [zk_gd_t, zs_zl, e40, if_pos (show (40 : Int32) = (40 : Int32) from rfl), zs_zl, nI_1, nI_1, zs_zin (n := l + 1) (by omega) (by omega), nI_clamp (by omega), zk_gd_t, Option.bind_some]
theorem zt_2and (h : zt_St n mt tk pl P Q tc m) {k o l f : Nat} {op : Nat → Int32} {any all : Nat → Int64} (hc : tc k = 38) : zt_Z n sd mt P Q tc (f + 1) 0 k o l op any all = zt_Z n sd mt P Q tc f 1 (k + 1) o l op any all := by
  have hv := h.2.2.2.2.2.2.1 k
  have hr := zt_rq _ hv.1 hv.2
  unfold zt_Z
  rw [zl_X5_saying_28, if_pos rfl, if_pos (hr.1.mpr hc), h.2.2.1 k]
  rfl
theorem zt_2or (h : zt_St n mt tk pl P Q tc m) {k o l f : Nat} {op : Nat → Int32} {any all : Nat → Int64} (hl : l ≤ 8) (hc : tc k = 124) : zt_Z n sd mt P Q tc (f + 1) 0 k o l op any all = zt_Z n sd mt P Q tc f 1 (k + 1) o l op (vp_updL any l (any l ||| all l)) (vp_updL all l (-1)) := by
  have hv := h.2.2.2.2.2.2.1 k
  have hr := zt_rq _ hv.1 hv.2
  unfold zt_Z
  rw [zl_X5_saying_28, if_pos rfl, if_neg (fun q => by have := hr.1.mp q; omega), if_pos (hr.2.1.mpr hc), h.2.2.1 k, zs_zin (n := l) (by omega) (by omega), nI_clamp (by omega)]
  rfl
theorem zt_2close (h : zt_St n mt tk pl P Q tc m) {k o l f : Nat} {op : Nat → Int32} {any all : Nat → Int64} (ho : o ≤ 8) (hl : l < 8) (hc : tc k = 41) : zt_Z n sd mt P Q tc (f + 1) 0 k (o + 1) (l + 1) op any all = zt_Z n sd mt P Q tc f 0 (k + 1) (zt_E op o (any (l + 1) ||| all (l + 1))).2 l op any (vp_updL all l (all l &&& (zt_E op o (any (l + 1) ||| all (l + 1))).1)) := by
  have hv := h.2.2.2.2.2.2.1 k
  have hr := zt_rq _ hv.1 hv.2
  have e1 : nI (l + 1) - (1 : Int32) = nI l := nI_pred l
  have e2 : nI (o + 1) - (1 : Int32) = nI o := nI_pred o
  unfold zt_Z
  rw [zl_X5_saying_28, if_pos rfl, if_neg (fun q => by have := hr.1.mp q; omega), if_neg (fun q => by have := hr.2.1.mp q; omega), if_pos (hr.2.2.1.mpr hc), if_neg (nI_nle (by omega) (by omega)), e1, e2, zs_zin (n := l + 1) (by omega) (by omega), nI_clamp (by omega), zk_gd_t]
  show (((zf_X5_ends (any (l + 1) ||| all (l + 1)) (nI o) (nI l) op all).bind _)).bind _ = _
  rw [zt_ends op all _ (by omega) (by omega), Option.bind_some, h.2.2.1 k]
  rfl
theorem zt_2end (h : zt_St n mt tk pl P Q tc m) {k o l f : Nat} {op : Nat → Int32} {any all : Nat → Int64} (hl : l ≤ 8) (h1 : ¬ tc k = 38) (h2 : ¬ tc k = 124) (h3 : ¬ tc k = 41 ∨ l = 0) : zt_Z n sd mt P Q tc (f + 1) 0 k o l op any all = some (if l = 0 then -1 else nI (P k), nI (P k), nI (Q k), zt_r (tc k), nI o, nI l, any 0 ||| all 0, op, any, all) := by
  have hv := h.2.2.2.2.2.2.1 k
  have hr := zt_rq _ hv.1 hv.2
  have e0 : (0 : Int32).toNatClampNeg = 0 := rfl
  unfold zt_Z
  rw [zl_X5_saying_28, if_pos rfl, if_neg (fun q => h1 (hr.1.mp q)), if_neg (fun q => h2 (hr.2.1.mp q)), e0]
  by_cases l0 : l = 0
  · subst l0
    have hx : (if zt_r (tc k) = (41 : Int32) then (if nI 0 ≤ 0 then some (Sum.inr ()) else zk_gd (zk_in (nI 0) 9) (zk_lt (any (nI 0).toNatClampNeg ||| all (nI 0).toNatClampNeg) (fun y17 => zk_lt (nI 0 - (1 : Int32)) (fun y18 => zk_lt (nI o - (1 : Int32)) (fun y19 => (zf_X5_ends y17 y19 y18 op all).bind (fun v20 => (zf_X5_token (nI n) (nI (Q k)) mt).bind (fun v21 => some (Sum.inl (y17, v21.1, v21.2.1, v21.2.2, v20.1, y18, v20.2))))))))) else some (Sum.inr ())) = (some (Sum.inr ()) : Option ((Int64 × Int32 × Int32 × Int32 × Int32 × Int32 × (Nat → Int64)) ⊕ Unit)) := by
      by_cases q : zt_r (tc k) = (41 : Int32)
      · rw [if_pos q, if_pos (show nI 0 ≤ 0 by decide)]
      · rw [if_neg q]
    rw [hx, Option.bind_some]
    show (if nI 0 ≤ 0 then some ((-1 : Int32), nI (P k), nI (Q k), zt_r (tc k), nI o, nI 0, any 0 ||| all 0, op, any, all) else some (nI (P k), nI (P k), nI (Q k), zt_r (tc k), nI o, nI 0, any 0 ||| all 0, op, any, all)) = _
    rw [if_pos (show nI 0 ≤ 0 by decide), if_pos rfl]
  · have c : ¬ tc k = 41 := by omega
    rw [if_neg (show ¬ zt_r (tc k) = (41 : Int32) from fun q => c (hr.2.2.1.mp q)), if_neg l0, Option.bind_some]
    show (if nI l ≤ 0 then some ((-1 : Int32), nI (P k), nI (Q k), zt_r (tc k), nI o, nI l, any 0 ||| all 0, op, any, all) else some (nI (P k), nI (P k), nI (Q k), zt_r (tc k), nI o, nI l, any 0 ||| all 0, op, any, all)) = _
    rw [if_neg (nI_nle (by omega) (by omega))]
end
