/-! ===== BEGIN words of one list among another's, by their places ===== -/
theorem goodIn_r {big : List Cond} (ws : List Cond) (ps : List Nat) (hp : ws = ps.filterMap (fun i => big[i]?)) (h : ws.all goodWord = true) : GoodIn big ws := by
  intro w hw
  have h1 := List.all_eq_true.mp h w hw
  rw [hp] at hw
  obtain ⟨i, -, hi⟩ := List.mem_filterMap.mp hw
  have hm : w ∈ big := by first | exact List.mem_of_getElem? hi | exact List.getElem?_mem hi
  exact ⟨hm, good_of_word h1⟩
theorem goodIn_app {big a b : List Cond} (ha : GoodIn big a) (hb : GoodIn big b) : GoodIn big (a ++ b) := fun w h => (List.mem_append.mp h).elim (ha w) (hb w)
theorem goodIn_ca {big a b : List Cond} {c : Cond} (ha : GoodIn big (c :: a)) (hb : GoodIn big b) : GoodIn big (c :: (a ++ b)) := fun w h => (List.mem_cons.mp h).elim (fun e => ha w (List.mem_cons.mpr (Or.inl e))) (fun h => (List.mem_append.mp h).elim (fun h => ha w (List.mem_cons.mpr (Or.inr h))) (hb w))
theorem goodIn_sub {big ws : List Cond} (hm : ∀ w ∈ ws, w ∈ big) (h : ws.all goodWord = true) : GoodIn big ws := fun w hw => ⟨hm w hw, good_of_word (List.all_eq_true.mp h w hw)⟩
/-! ===== END ===== -/

/-! ===== BEGIN new T[n][m]: the outer array a place, the inner ones among the pooled ===== -/
/-- f, but v at every address of l -/
def vr_up {α : Type} (f : Nat → α) (l : List Nat) (v : α) : Nat → α := fun a => if a ∈ l then v else f a
theorem vr_up_in {α : Type} {f : Nat → α} {l : List Nat} {v : α} {a : Nat} (h : a ∈ l) : vr_up f l v a = v := if_pos h
theorem vr_up_ne {α : Type} {f : Nat → α} {l : List Nat} {v : α} {a : Nat} (h : a ∉ l) : vr_up f l v a = f a := if_neg h
theorem vr_rows {L l : List Nat} {f : Nat → va_E} {e : va_E} (h : ∀ a, a ∈ l → a ∉ L) : va_pl L f ++ l.map (fun a => (a, e)) = va_pl (L ++ l) (vr_up f l e) := by
  unfold va_pl
  rw [List.map_append]
  congr 1
  · apply List.map_congr_left
    intro a ha
    rw [vr_up_ne (fun q => h a q ha)]
  · apply List.map_congr_left
    intro a ha
    rw [vr_up_in ha]
theorem vr_lay {X rows : va_W} {x : Nat × va_E} {pl : va_W} {D : va_G} {cl : List vw_C} {H : Heap} (hP : va_P D cl (((X ++ pl) ++ [x]) ++ rows) H) : va_P D cl ((X ++ [x]) ++ (pl ++ rows)) H := by
  rw [List.append_assoc (X ++ pl)] at hP
  have h := va_P.swap hP
  rw [← List.append_assoc X] at h
  have h2 := va_P.swap h
  rw [List.append_assoc (X ++ [x])] at h2
  exact h2
theorem vr_layD {X rows : va_W} {x : Nat × va_E} {pl : va_W} {A : Nat → Prop} (hD : va_D A (((X ++ pl) ++ [x]) ++ rows)) : va_D A ((X ++ [x]) ++ (pl ++ rows)) := by
  rw [List.append_assoc (X ++ pl)] at hD
  have h := va_D.swap hD
  rw [← List.append_assoc X] at h
  have h2 := va_D.swap h
  rw [List.append_assoc (X ++ [x])] at h2
  exact h2
theorem vr_outer (c : ClassId) (N h0 : Nat) : ∀ i : Nat, Jvm.Free.Multi.outerC c N h0 i = arrV c N (fun j => va_rf (if j < i then some (h0 + 1 + j) else none))
  | 0 => by
    show ({ cls := c, slots := Array.replicate N .null, vm := .none } : Cell) = _
    rw [arrV_new]
    refine congrArg (arrV c N) (funext fun j => ?_)
    simp [va_rf]
  | i + 1 => by
    show (Jvm.Free.Multi.outerC c N h0 i).setSlot i (.ref (h0 + 1 + i)) = _
    rw [vr_outer c N h0 i, arrV_store]
    refine congrArg (arrV c N) (funext fun j => ?_)
    by_cases e : j = i
    · subst e
      simp [updV, va_rf]
    · by_cases h : j < i
      · simp [updV, e, h, Nat.lt_succ_of_lt h]
      · simp [updV, e, h, show ¬ j < i + 1 by omega]
def zk_AOA (ty : FieldType) (U : State) : Prop := (Cond.arrayOver (.array ty)).before #[] U = true
theorem zk_AOA.use {ty : FieldType} {A : Array Value} {U : State} (h : zk_AOA ty U) : (Cond.arrayOver (.array ty)).before A U = true := h
section VGM
variable {p : Program} {l : Launch} {e : Env} {R : Room} {s : State} {m : MethodId} {args : Array Value} {below : List Frame} {meth : Method} {c : Code} {H : Heap} {locs : List Loc} {cells slots : Nat} {Q : State → Prop}
variable {cc : ByteArray} {pc : Nat} {ls : Array Slot} {rest : List Value} {D : va_G} {cl : List vw_C} {A : Nat → Prop} {a : Nat} {tys : List (ClassId × FieldType)} {ws : va_W} {H0 : Heap}
theorem zk_mna {X : va_W} {L : List Nat} {f : Nat → va_E} {cc : ByteArray} (hexec : p.tables.exec = Jvm.exec) (hb : c.code = cc) {own : String} {index : Nat} {ty : FieldType} {cy : ClassId} (hown : s.vm.findClass own = some m.cls) (hclink : (Cond.classLink own index ("[" ++ (FieldType.array ty).toString)).before args s = true) (hover : zk_AOA ty s) (harr : (Cond.arrayClass ty).before args s = true) (hcy : s.vm.findClass (FieldType.array ty).toString = some cy)
    (hK : va_K D cl tys s) (hP : va_P D cl (X ++ va_pl L f) H) (hD : va_D A (X ++ va_pl L f)) (hS : va_S A H0 H locs) (hA : ∀ q, H0.size ≤ q → A q) {n k : Int32} {N' K' : Nat} {z : vp_A} (hn : ¬ n < 0) (hk : ¬ k < 0) (hN : n.toNatClampNeg = N') (hM : k.toNatClampNeg = K')
    (hb1 : N' * 4 ≤ 536870912) (hb2 : K' * componentBytes ty ≤ 536870912) (hb3 : K' ≤ 536870912) (hdf : fits ty (defaultValue ty) = true) (hdd : (defaultValue ty).isDefault = true) (hcells : cells + (1 + N') ≤ R.cells) (hslots : slots + (N' + N' * K') ≤ R.slots) (hz : ∀ c : ClassId, Jvm.Free.Multi.innerC c K' (defaultValue ty) = vp_cell c z) (hdg : decode cc pc = .ok (.multianewarray index 2, 4))
    (kk : ∀ (q : Nat) (r : Nat → Nat) (cA : ClassId) (H1 : Heap), (∀ i j : Nat, i < N' → j < N' → r i = r j → i = j) → (∀ i : Nat, i < N' → r i ∉ L) → va_K D cl (tys ++ [(cA, .array ty)]) s →
      va_P D cl ((X ++ [(q, .inl (cA, N', .inr (.inr (.inr (.inr (fun i => if i < N' then some (r i) else none))))))]) ++ va_pl (L ++ (List.range N').map r) (vr_up f ((List.range N').map r) (.inl (cy, z)))) H1 → va_D A ((X ++ [(q, .inl (cA, N', .inr (.inr (.inr (.inr (fun i => if i < N' then some (r i) else none))))))]) ++ va_pl (L ++ (List.range N').map r) (vr_up f ((List.range N').map r) (.inl (cy, z)))) → va_S A H0 H1 locs →
      W p l e R s m args below meth c H1 locs (cells + 1 + N') (slots + N' + N' * K') Q (F0 m (pc + 4) ls (.ref q :: rest))) : W p l e R s m args below meth c H locs cells slots Q (F0 m pc ls (.int k :: .int n :: rest)) := by
  subst hN
  subst hM
  intro T hT Xs
  obtain ⟨vm₁, cA, comp, -, fA, fC, hO, -, X', step⟩ := Xs.multianewarray2F hexec hown hclink (zk_AOA.use hover) harr (g := F0 m pc ls (.int k :: .int n :: rest)) rfl (by rw [hb]; exact hdg) rfl hn hk hb1 hb2 hb3 hdf hdd hcells hslots
  have ec : some cy = some comp := hcy.symm.trans fC
  cases ec
  generalize hF : Jvm.Free.Multi.fill (T.setVm vm₁) cA cy n.toNatClampNeg k.toNatClampNeg (defaultValue ty) n.toNatClampNeg = F at X' step
  have hTh : (T.setVm vm₁).heap = H := hT
  obtain ⟨f1, f2, -, -⟩ := Jvm.Free.Multi.fill_facts (T.setVm vm₁) cA cy n.toNatClampNeg k.toNatClampNeg (defaultValue ty) n.toNatClampNeg
  rw [hF, hTh] at f1 f2
  have hold : ∀ x : Nat, x < H.size → F.heap[x]? = H[x]? := fun x hx => by
    have := Jvm.Free.Multi.fill_old (T.setVm vm₁) cA cy n.toNatClampNeg k.toNatClampNeg (defaultValue ty) (a := x) (by rw [hTh]; exact hx) n.toNatClampNeg
    rw [hF, hTh] at this
    exact this
  have hrow : ∀ j : Nat, j < n.toNatClampNeg → F.heap[H.size + 1 + j]? = some (vp_cell cy z) := fun j hj => by
    have := Jvm.Free.Multi.fill_inner (T.setVm vm₁) cA cy n.toNatClampNeg k.toNatClampNeg (defaultValue ty) n.toNatClampNeg j hj
    rw [hF, hTh, hz] at this
    exact this
  have hout : Jvm.Free.Multi.outerC cA n.toNatClampNeg H.size n.toNatClampNeg = vp_cell cA (n.toNatClampNeg, .inr (.inr (.inr (.inr (fun i => if i < n.toNatClampNeg then some (H.size + 1 + i) else none))))) := by
    rw [vp_cell_q]
    exact vr_outer cA n.toNatClampNeg H.size n.toNatClampNeg
  rw [hout] at f2
  have hlt : ∀ a, a ∈ L → a < H.size := fun a ha => by
    obtain ⟨k9, hk9⟩ := va_pl_get (X := X) (f := f) ha
    exact (hP k9 _ hk9).lt
  have hnl : ∀ i : Nat, i < n.toNatClampNeg → H.size + 1 + i ∉ L := fun i _ h => by
    have := hlt _ h
    omega
  have hnm : ∀ a, a ∈ (List.range n.toNatClampNeg).map (fun i => H.size + 1 + i) → a ∉ L := fun a ha h => by
    obtain ⟨i, -, rfl⟩ := List.mem_map.mp ha
    have := hlt _ h
    omega
  have hP0 : va_P D cl (X ++ va_pl L f) F.heap := hP.kept (fun k9 x hx => hold x.1 ((hP k9 x hx).lt))
  have hP1 : va_P D cl ((X ++ va_pl L f) ++ [(H.size, .inl (cA, n.toNatClampNeg, .inr (.inr (.inr (.inr (fun i => if i < n.toNatClampNeg then some (H.size + 1 + i) else none))))))]) F.heap := hP0.app (fun k9 x hx => by
    have h0 : k9 < 1 := (List.getElem?_eq_some_iff.mp hx).1
    rw [show k9 = 0 by omega] at hx
    cases hx
    exact f2)
  have hP2 : va_P D cl (((X ++ va_pl L f) ++ [(H.size, .inl (cA, n.toNatClampNeg, .inr (.inr (.inr (.inr (fun i => if i < n.toNatClampNeg then some (H.size + 1 + i) else none))))))]) ++ ((List.range n.toNatClampNeg).map (fun i => H.size + 1 + i)).map (fun a => (a, .inl (cy, z)))) F.heap := hP1.app (fun k9 x hx => by
    obtain ⟨a, ha, rfl⟩ := List.mem_map.mp (List.mem_of_getElem? hx)
    obtain ⟨i, hi, rfl⟩ := List.mem_map.mp ha
    exact hrow i (List.mem_range.mp hi))
  have hD2 : va_D A (((X ++ va_pl L f) ++ [(H.size, .inl (cA, n.toNatClampNeg, .inr (.inr (.inr (.inr (fun i => if i < n.toNatClampNeg then some (H.size + 1 + i) else none))))))]) ++ ((List.range n.toNatClampNeg).map (fun i => H.size + 1 + i)).map (fun a => (a, .inl (cy, z)))) := by
    have hD1 := hD.push (e := .inl (cA, n.toNatClampNeg, .inr (.inr (.inr (.inr (fun i => if i < n.toNatClampNeg then some (H.size + 1 + i) else none)))))) hP rfl (hA _ hS.1)
    generalize hW1 : (X ++ va_pl L f) ++ [(H.size, .inl (cA, n.toNatClampNeg, .inr (.inr (.inr (.inr (fun i => if i < n.toNatClampNeg then some (H.size + 1 + i) else none))))))] = W1 at hD1 hP1 ⊢
    have hle : ∀ (k9 : Nat) (x : Nat × va_E), W1[k9]? = some x → x.1 ≤ H.size := fun k9 x hx => by
      rw [← hW1] at hx
      by_cases hl : k9 < (X ++ va_pl L f).length
      · rw [List.getElem?_append_left hl] at hx
        exact Nat.le_of_lt ((hP k9 x hx).lt)
      · rw [List.getElem?_append_right (by omega)] at hx
        have h0 : k9 - (X ++ va_pl L f).length < 1 := (List.getElem?_eq_some_iff.mp hx).1
        rw [show k9 - (X ++ va_pl L f).length = 0 by omega] at hx
        cases hx
        exact Nat.le_refl _
    have hr : ∀ (k9 : Nat) (x : Nat × va_E), (((List.range n.toNatClampNeg).map (fun i => H.size + 1 + i)).map (fun a => ((a, .inl (cy, z)) : Nat × va_E)))[k9]? = some x → x.1 = H.size + 1 + k9 := fun k9 x hx => by
      rw [List.getElem?_map, List.getElem?_map] at hx
      by_cases h9 : k9 < n.toNatClampNeg
      · rw [List.getElem?_range h9] at hx
        cases hx
        rfl
      · have hn0 : (List.range n.toNatClampNeg)[k9]? = none := List.getElem?_eq_none (by rw [List.length_range]; omega)
        rw [hn0] at hx
        cases hx
    refine ⟨fun i j x y hi hj hxy => ?_, fun k9 x hx => ?_⟩
    · by_cases h1 : i < W1.length <;> by_cases h2 : j < W1.length
      · rw [List.getElem?_append_left h1] at hi
        rw [List.getElem?_append_left h2] at hj
        exact hD1.1 i j x y hi hj hxy
      · rw [List.getElem?_append_left h1] at hi
        rw [List.getElem?_append_right (by omega)] at hj
        have := hle _ _ hi
        have := hr _ _ hj
        omega
      · rw [List.getElem?_append_right (by omega)] at hi
        rw [List.getElem?_append_left h2] at hj
        have := hle _ _ hj
        have := hr _ _ hi
        omega
      · rw [List.getElem?_append_right (by omega)] at hi hj
        have := hr _ _ hi
        have := hr _ _ hj
        omega
    · by_cases h1 : k9 < W1.length
      · rw [List.getElem?_append_left h1] at hx
        exact hD1.2 k9 x hx
      · rw [List.getElem?_append_right (by omega)] at hx
        have := hr _ _ hx
        exact hA _ (by have := hS.1; omega)
  have hAr : ArrOfT s cA (.array ty) := fun N9 z9 => by
    obtain ⟨-, k9, hk9, cm9, hkk9⟩ := (hO 0 0 0).1
    exact ⟨(fun q hq => by cases hq), k9, hk9, cm9, hkk9⟩
  have hK2 : va_K D cl (tys ++ [(cA, .array ty)]) s := ⟨hK.1, fun k9 x hx => by
    by_cases hl : k9 < tys.length
    · rw [List.getElem?_append_left hl] at hx
      exact hK.2 k9 x hx
    · rw [List.getElem?_append_right (by omega)] at hx
      have h0 : k9 - tys.length < 1 := (List.getElem?_eq_some_iff.mp hx).1
      rw [show k9 - tys.length = 0 by omega] at hx
      cases hx
      exact ⟨hAr, fA⟩⟩
  obtain ⟨t, a1, b1⟩ := kk H.size (fun i => H.size + 1 + i) cA F.heap (fun i j _ _ h => by have h9 : H.size + 1 + i = H.size + 1 + j := h; omega) hnl hK2 (by rw [← vr_rows hnm]; exact vr_lay hP2) (by rw [← vr_rows hnm]; exact vr_layD hD2) ⟨by rw [f1]; have := hS.1; omega, fun x h1 h2 => (hold x (Nat.lt_of_lt_of_le h1 hS.1)).trans (hS.2.1 x h1 h2), hS.2.2⟩ F rfl X'
  refine ⟨t, step t ?_, b1⟩
  have e : T.heap.size = H.size := by rw [hT]
  rw [e]
  exact a1
end VGM
/-! ===== END ===== -/

/-! ===== BEGIN printed: names, fields, word lists, decode rows ===== -/
def RX0 : String := "SayingsMerged$Distances"
def TX0 : u_T := fun k => match k with
  | 0 => ("SayingsMerged$Distances", "costs", "[I", true)
  | 1 => ("SayingsMerged$Distances", "alike", "Z", false)
  | _ => ("SayingsMerged$Distances", "lengths", "[I", true)
def tyX0 : Nat → FieldType := fun k => match k with
  | 0 => .array .int
  | 1 => .boolean
  | _ => .array .int
abbrev wsX00 : List Cond := u_ws RX0 TX0 3
theorem nmX0 : ∀ a, a < 3 → ∀ b, b < 3 → a ≠ b → (TX0 a).2.1 ≠ (TX0 b).2.1 := by decide +kernel
theorem tyX0_ok : ∀ k, k < 3 → parseFieldDescriptor (TX0 k).2.2.1 = some (tyX0 k) := by decide +kernel
abbrev cX0_init : ByteArray := prog_2_method_1_code
def yX0_init : MethodName := ⟨RX0, "<init>", "()V"⟩
abbrev cX0_findLengths : ByteArray := prog_2_method_2_code
def yX0_findLengths : MethodName := ⟨RX0, "findLengths", "()V"⟩
abbrev cX0_findFars : ByteArray := prog_2_method_3_code
def yX0_findFars : MethodName := ⟨RX0, "findFars", "(J[J)V"⟩
abbrev cX0_spread : ByteArray := prog_2_method_4_code
def yX0_spread : MethodName := ⟨RX0, "spread", "([JII)V"⟩
def RX1 : String := "SayingsMerged$Reader"
def TX1 : u_T := fun k => match k with
  | 0 => ("SayingsMerged$Reader", "text", "LSayingsMerged$Text;", true)
  | 1 => ("SayingsMerged$Reader", "at", "I", false)
  | 2 => ("SayingsMerged$Reader", "token", "I", false)
  | _ => ("SayingsMerged$Reader", "fault", "I", false)
def tyX1 : Nat → FieldType := fun k => match k with
  | 0 => .object "SayingsMerged$Text"
  | 1 => .int
  | 2 => .int
  | _ => .int
abbrev wsX10 : List Cond := u_ws RX1 TX1 4
theorem nmX1 : ∀ a, a < 4 → ∀ b, b < 4 → a ≠ b → (TX1 a).2.1 ≠ (TX1 b).2.1 := by decide +kernel
theorem tyX1_ok : ∀ k, k < 4 → parseFieldDescriptor (TX1 k).2.2.1 = some (tyX1 k) := by decide +kernel
abbrev cX1_init : ByteArray := prog_3_method_1_code
def yX1_init : MethodName := ⟨RX1, "<init>", "(LSayingsMerged$Text;)V"⟩
abbrev cX1_isFaulty : ByteArray := prog_3_method_2_code
def yX1_isFaulty : MethodName := ⟨RX1, "isFaulty", "()Z"⟩
abbrev cX1_readItems : ByteArray := prog_3_method_3_code
def yX1_readItems : MethodName := ⟨RX1, "readItems", "(LSayingsMerged$Told;)V"⟩
abbrev cX1_readQuestion : ByteArray := prog_3_method_4_code
def yX1_readQuestion : MethodName := ⟨RX1, "readQuestion", "()J"⟩
abbrev cX1_readItem : ByteArray := prog_3_method_5_code
def yX1_readItem : MethodName := ⟨RX1, "readItem", "(LSayingsMerged$Told;)V"⟩
abbrev cX1_readWeight : ByteArray := prog_3_method_6_code
def yX1_readWeight : MethodName := ⟨RX1, "readWeight", "()I"⟩
abbrev cX1_readSaying : ByteArray := prog_3_method_7_code
def yX1_readSaying : MethodName := ⟨RX1, "readSaying", "(I)J"⟩
abbrev cX1_readBoth : ByteArray := prog_3_method_8_code
def yX1_readBoth : MethodName := ⟨RX1, "readBoth", "(I)J"⟩
abbrev cX1_readOne : ByteArray := prog_3_method_9_code
def yX1_readOne : MethodName := ⟨RX1, "readOne", "(I)J"⟩
abbrev cX1_beginsOne : ByteArray := prog_3_method_10_code
def yX1_beginsOne : MethodName := ⟨RX1, "beginsOne", "(II)Z"⟩
abbrev cX1_expect : ByteArray := prog_3_method_11_code
def yX1_expect : MethodName := ⟨RX1, "expect", "(I)V"⟩
abbrev cX1_fail : ByteArray := prog_3_method_12_code
def yX1_fail : MethodName := ⟨RX1, "fail", "()V"⟩
abbrev cX1_begin : ByteArray := prog_3_method_13_code
def yX1_begin : MethodName := ⟨RX1, "begin", "()V"⟩
abbrev cX1_advance : ByteArray := prog_3_method_14_code
def yX1_advance : MethodName := ⟨RX1, "advance", "()V"⟩
def RX2 : String := "SayingsMerged$Text"
def TX2 : u_T := fun k => match k with
  | 0 => ("SayingsMerged$Text", "bytes", "[I", true)
  | 1 => ("SayingsMerged$Text", "length", "I", false)
  | 2 => ("SayingsMerged$Text", "tokens", "[I", true)
  | _ => ("SayingsMerged$Text", "places", "[I", true)
def tyX2 : Nat → FieldType := fun k => match k with
  | 0 => .array .int
  | 1 => .int
  | 2 => .array .int
  | _ => .array .int
abbrev wsX20 : List Cond := u_ws RX2 TX2 4
theorem nmX2 : ∀ a, a < 4 → ∀ b, b < 4 → a ≠ b → (TX2 a).2.1 ≠ (TX2 b).2.1 := by decide +kernel
theorem tyX2_ok : ∀ k, k < 4 → parseFieldDescriptor (TX2 k).2.2.1 = some (tyX2 k) := by decide +kernel
abbrev cX2_init : ByteArray := prog_4_method_1_code
def yX2_init : MethodName := ⟨RX2, "<init>", "()V"⟩
abbrev cX2_append : ByteArray := prog_4_method_2_code
def yX2_append : MethodName := ⟨RX2, "append", "(I)V"⟩
abbrev cX2_findTokens : ByteArray := prog_4_method_3_code
def yX2_findTokens : MethodName := ⟨RX2, "findTokens", "()V"⟩
abbrev cX2_beginsToken : ByteArray := prog_4_method_4_code
def yX2_beginsToken : MethodName := ⟨RX2, "beginsToken", "(I)Z"⟩
abbrev cX2_tokenAt : ByteArray := prog_4_method_5_code
def yX2_tokenAt : MethodName := ⟨RX2, "tokenAt", "(I)I"⟩
abbrev cX2_wordAt : ByteArray := prog_4_method_6_code
def yX2_wordAt : MethodName := ⟨RX2, "wordAt", "(I)I"⟩
abbrev cX2_isSmall : ByteArray := prog_4_method_7_code
def yX2_isSmall : MethodName := ⟨RX2, "isSmall", "(I)Z"⟩
abbrev cX2_isSign : ByteArray := prog_4_method_8_code
def yX2_isSign : MethodName := ⟨RX2, "isSign", "(I)Z"⟩
def RX3 : String := "SayingsMerged$Told"
def TX3 : u_T := fun k => match k with
  | 0 => ("SayingsMerged$Told", "laws", "I", false)
  | 1 => ("SayingsMerged$Told", "there", "J", false)
  | 2 => ("SayingsMerged$Told", "sayers", "I", false)
  | 3 => ("SayingsMerged$Told", "says", "[J", true)
  | _ => ("SayingsMerged$Told", "weights", "[I", true)
def tyX3 : Nat → FieldType := fun k => match k with
  | 0 => .int
  | 1 => .long
  | 2 => .int
  | 3 => .array .long
  | _ => .array .int
abbrev wsX30 : List Cond := u_ws RX3 TX3 5
theorem nmX3 : ∀ a, a < 5 → ∀ b, b < 5 → a ≠ b → (TX3 a).2.1 ≠ (TX3 b).2.1 := by decide +kernel
theorem tyX3_ok : ∀ k, k < 5 → parseFieldDescriptor (TX3 k).2.2.1 = some (tyX3 k) := by decide +kernel
abbrev cX3_init : ByteArray := prog_5_method_1_code
def yX3_init : MethodName := ⟨RX3, "<init>", "()V"⟩
abbrev cX3_empty : ByteArray := prog_5_method_2_code
def yX3_empty : MethodName := ⟨RX3, "empty", "()V"⟩
abbrev cX3_addLaw : ByteArray := prog_5_method_3_code
def yX3_addLaw : MethodName := ⟨RX3, "addLaw", "(J)V"⟩
abbrev cX3_addSayer : ByteArray := prog_5_method_4_code
def yX3_addSayer : MethodName := ⟨RX3, "addSayer", "(IJ)V"⟩
abbrev cX3_allWeights : ByteArray := prog_5_method_5_code
def yX3_allWeights : MethodName := ⟨RX3, "allWeights", "()I"⟩
abbrev cX3_saidByOthers : ByteArray := prog_5_method_6_code
def yX3_saidByOthers : MethodName := ⟨RX3, "saidByOthers", "(I)J"⟩
def RX4 : String := "SayingsMerged"
def TX4 : u_T := fun k => match k with
  | 0 => ("SayingsMerged", "text", "LSayingsMerged$Text;", true)
  | 1 => ("SayingsMerged", "reader", "LSayingsMerged$Reader;", true)
  | 2 => ("SayingsMerged", "told", "LSayingsMerged$Told;", false)
  | 3 => ("SayingsMerged", "spare", "LSayingsMerged$Told;", false)
  | 4 => ("SayingsMerged", "asked", "J", false)
  | 5 => ("SayingsMerged", "distances", "LSayingsMerged$Distances;", true)
  | 6 => ("SayingsMerged", "fars", "[[J", true)
  | 7 => ("SayingsMerged", "common", "[J", true)
  | 8 => ("SayingsMerged", "others", "[J", true)
  | 9 => ("SayingsMerged", "scale", "[J", true)
  | _ => ("SayingsMerged", "traced", "J", false)
def tyX4 : Nat → FieldType := fun k => match k with
  | 0 => .object "SayingsMerged$Text"
  | 1 => .object "SayingsMerged$Reader"
  | 2 => .object "SayingsMerged$Told"
  | 3 => .object "SayingsMerged$Told"
  | 4 => .long
  | 5 => .object "SayingsMerged$Distances"
  | 6 => .array (.array .long)
  | 7 => .array .long
  | 8 => .array .long
  | 9 => .array .long
  | _ => .long
abbrev wsX40 : List Cond := u_ws RX4 TX4 11
theorem nmX4 : ∀ a, a < 11 → ∀ b, b < 11 → a ≠ b → (TX4 a).2.1 ≠ (TX4 b).2.1 := by decide +kernel
theorem tyX4_ok : ∀ k, k < 11 → parseFieldDescriptor (TX4 k).2.2.1 = some (tyX4 k) := by decide +kernel
abbrev cX4_init : ByteArray := prog_1_method_1_code
def yX4_init : MethodName := ⟨RX4, "<init>", "()V"⟩
abbrev cX4_type : ByteArray := prog_1_method_2_code
def yX4_type : MethodName := ⟨RX4, "type", "(JI)I"⟩
abbrev cX4_clear : ByteArray := prog_1_method_3_code
def yX4_clear : MethodName := ⟨RX4, "clear", "()I"⟩
abbrev cX4_tell : ByteArray := prog_1_method_4_code
def yX4_tell : MethodName := ⟨RX4, "tell", "()I"⟩
abbrev cX4_question : ByteArray := prog_1_method_5_code
def yX4_question : MethodName := ⟨RX4, "question", "()I"⟩
abbrev cX4_worlds : ByteArray := prog_1_method_6_code
def yX4_worlds : MethodName := ⟨RX4, "worlds", "(II)J"⟩
abbrev cX4_cost : ByteArray := prog_1_method_7_code
def yX4_cost : MethodName := ⟨RX4, "cost", "(II)I"⟩
abbrev cX4_measure : ByteArray := prog_1_method_8_code
def yX4_measure : MethodName := ⟨RX4, "measure", "(I)I"⟩
abbrev cX4_apart : ByteArray := prog_1_method_9_code
def yX4_apart : MethodName := ⟨RX4, "apart", "(II)I"⟩
abbrev cX4_burden : ByteArray := prog_1_method_10_code
def yX4_burden : MethodName := ⟨RX4, "burden", "(II)I"⟩
abbrev cX4_merged : ByteArray := prog_1_method_11_code
def yX4_merged : MethodName := ⟨RX4, "merged", "(I)J"⟩
abbrev cX4_value : ByteArray := prog_1_method_12_code
def yX4_value : MethodName := ⟨RX4, "value", "(II)I"⟩
abbrev cX4_held : ByteArray := prog_1_method_13_code
def yX4_held : MethodName := ⟨RX4, "held", "(I)I"⟩
abbrev cX4_changed : ByteArray := prog_1_method_14_code
def yX4_changed : MethodName := ⟨RX4, "changed", "(II)J"⟩
abbrev cX4_quarrels : ByteArray := prog_1_method_15_code
def yX4_quarrels : MethodName := ⟨RX4, "quarrels", "(I)I"⟩
abbrev cX4_sets : ByteArray := prog_1_method_16_code
def yX4_sets : MethodName := ⟨RX4, "sets", "(II)I"⟩
abbrev cX4_free : ByteArray := prog_1_method_17_code
def yX4_free : MethodName := ⟨RX4, "free", "()I"⟩
abbrev cX4_share : ByteArray := prog_1_method_18_code
def yX4_share : MethodName := ⟨RX4, "share", "(II)I"⟩
abbrev cX4_lie : ByteArray := prog_1_method_19_code
def yX4_lie : MethodName := ⟨RX4, "lie", "(III)I"⟩
abbrev cX4_worth : ByteArray := prog_1_method_20_code
def yX4_worth : MethodName := ⟨RX4, "worth", "(II)I"⟩
abbrev cX4_count : ByteArray := prog_1_method_21_code
def yX4_count : MethodName := ⟨RX4, "count", "(I)I"⟩
abbrev cX4_trace : ByteArray := prog_1_method_22_code
def yX4_trace : MethodName := ⟨RX4, "trace", "()J"⟩
abbrev cX4_isSayer : ByteArray := prog_1_method_23_code
def yX4_isSayer : MethodName := ⟨RX4, "isSayer", "(I)Z"⟩
abbrev cX4_isWorld : ByteArray := prog_1_method_24_code
def yX4_isWorld : MethodName := ⟨RX4, "isWorld", "(I)Z"⟩
abbrev cX4_isWay : ByteArray := prog_1_method_25_code
def yX4_isWay : MethodName := ⟨RX4, "isWay", "(I)Z"⟩
abbrev cX4_isLetter : ByteArray := prog_1_method_26_code
def yX4_isLetter : MethodName := ⟨RX4, "isLetter", "(I)Z"⟩
abbrev cX4_findFars : ByteArray := prog_1_method_27_code
def yX4_findFars : MethodName := ⟨RX4, "findFars", "()V"⟩
abbrev cX4_burdenOf : ByteArray := prog_1_method_28_code
def yX4_burdenOf : MethodName := ⟨RX4, "burdenOf", "(II)J"⟩
abbrev cX4_least : ByteArray := prog_1_method_29_code
def yX4_least : MethodName := ⟨RX4, "least", "(J[J)J"⟩
abbrev cX4_isIn : ByteArray := prog_1_method_30_code
def yX4_isIn : MethodName := ⟨RX4, "isIn", "(JI)Z"⟩
abbrev cX4_goneAlong : ByteArray := prog_1_method_31_code
def yX4_goneAlong : MethodName := ⟨RX4, "goneAlong", "(JJ)J"⟩
abbrev cX4_mergedBy : ByteArray := prog_1_method_32_code
def yX4_mergedBy : MethodName := ⟨RX4, "mergedBy", "(I)J"⟩
abbrev cX4_weighed : ByteArray := prog_1_method_33_code
def yX4_weighed : MethodName := ⟨RX4, "weighed", "(III)J"⟩
abbrev cX4_joined : ByteArray := prog_1_method_34_code
def yX4_joined : MethodName := ⟨RX4, "joined", "(IJJ)J"⟩
abbrev cX4_putIntoRow : ByteArray := prog_1_method_35_code
def yX4_putIntoRow : MethodName := ⟨RX4, "putIntoRow", "(JJ)J"⟩
abbrev cX4_lossOf : ByteArray := prog_1_method_36_code
def yX4_lossOf : MethodName := ⟨RX4, "lossOf", "(IJ)J"⟩
abbrev cX4_bestLie : ByteArray := prog_1_method_37_code
def yX4_bestLie : MethodName := ⟨RX4, "bestLie", "(IIJZ)I"⟩
abbrev cX4_mergedWithTerm : ByteArray := prog_1_method_38_code
def yX4_mergedWithTerm : MethodName := ⟨RX4, "mergedWithTerm", "(IIII)J"⟩
abbrev cX4_setsOfSayers : ByteArray := prog_1_method_39_code
def yX4_setsOfSayers : MethodName := ⟨RX4, "setsOfSayers", "()I"⟩
abbrev cX4_findCommon : ByteArray := prog_1_method_40_code
def yX4_findCommon : MethodName := ⟨RX4, "findCommon", "()V"⟩
abbrev cX4_isQuarrel : ByteArray := prog_1_method_41_code
def yX4_isQuarrel : MethodName := ⟨RX4, "isQuarrel", "(I)Z"⟩
abbrev cX4_isListed : ByteArray := prog_1_method_42_code
def yX4_isListed : MethodName := ⟨RX4, "isListed", "(II)Z"⟩
abbrev cX4_isLeastQuarrel : ByteArray := prog_1_method_43_code
def yX4_isLeastQuarrel : MethodName := ⟨RX4, "isLeastQuarrel", "(I)Z"⟩
abbrev cX4_isGreatestAgreed : ByteArray := prog_1_method_44_code
def yX4_isGreatestAgreed : MethodName := ⟨RX4, "isGreatestAgreed", "(I)Z"⟩
abbrev cX4_ordersTurnedBy : ByteArray := prog_1_method_45_code
def yX4_ordersTurnedBy : MethodName := ⟨RX4, "ordersTurnedBy", "(I)I"⟩
abbrev cX4_commonDivisor : ByteArray := prog_1_method_46_code
def yX4_commonDivisor : MethodName := ⟨RX4, "commonDivisor", "(II)I"⟩
abbrev cX4_sayerWorth : ByteArray := prog_1_method_47_code
def yX4_sayerWorth : MethodName := ⟨RX4, "sayerWorth", "(I)I"⟩
abbrev cX4_weightyWorth : ByteArray := prog_1_method_48_code
def yX4_weightyWorth : MethodName := ⟨RX4, "weightyWorth", "(I)I"⟩
abbrev cX4_loneWorth : ByteArray := prog_1_method_49_code
def yX4_loneWorth : MethodName := ⟨RX4, "loneWorth", "(I)I"⟩
abbrev cX4_firmWorth : ByteArray := prog_1_method_50_code
def yX4_firmWorth : MethodName := ⟨RX4, "firmWorth", "(I)I"⟩
def RX5 : String := "SayingsMergedModel"
def TX5 : u_T := fun k => match k with
  | 0 => ("SayingsMergedModel", "length", "I", false)
  | 1 => ("SayingsMergedModel", "text", "[B", true)
  | 2 => ("SayingsMergedModel", "laws", "I", false)
  | 3 => ("SayingsMergedModel", "sayers", "I", false)
  | 4 => ("SayingsMergedModel", "there", "J", false)
  | 5 => ("SayingsMergedModel", "question", "J", false)
  | 6 => ("SayingsMergedModel", "weight", "[I", true)
  | 7 => ("SayingsMergedModel", "says", "[J", true)
  | 8 => ("SayingsMergedModel", "cost", "[I", true)
  | 9 => ("SayingsMergedModel", "measure", "I", false)
  | 10 => ("SayingsMergedModel", "trace", "J", false)
  | 11 => ("SayingsMergedModel", "readLaws", "I", false)
  | 12 => ("SayingsMergedModel", "readSayers", "I", false)
  | 13 => ("SayingsMergedModel", "readThere", "J", false)
  | 14 => ("SayingsMergedModel", "readWeight", "[I", true)
  | 15 => ("SayingsMergedModel", "readSays", "[J", true)
  | 16 => ("SayingsMergedModel", "begin", "I", false)
  | 17 => ("SayingsMergedModel", "end", "I", false)
  | 18 => ("SayingsMergedModel", "sort", "I", false)
  | 19 => ("SayingsMergedModel", "open", "I", false)
  | 20 => ("SayingsMergedModel", "opened", "[I", true)
  | 21 => ("SayingsMergedModel", "level", "I", false)
  | 22 => ("SayingsMergedModel", "any", "[J", true)
  | 23 => ("SayingsMergedModel", "all", "[J", true)
  | 24 => ("SayingsMergedModel", "said", "J", false)
  | 25 => ("SayingsMergedModel", "burdens", "[I", true)
  | 26 => ("SayingsMergedModel", "best", "[I", true)
  | 27 => ("SayingsMergedModel", "own", "[I", true)
  | _ => ("SayingsMergedModel", "truth", "[I", true)
def tyX5 : Nat → FieldType := fun k => match k with
  | 0 => .int
  | 1 => .array .byte
  | 2 => .int
  | 3 => .int
  | 4 => .long
  | 5 => .long
  | 6 => .array .int
  | 7 => .array .long
  | 8 => .array .int
  | 9 => .int
  | 10 => .long
  | 11 => .int
  | 12 => .int
  | 13 => .long
  | 14 => .array .int
  | 15 => .array .long
  | 16 => .int
  | 17 => .int
  | 18 => .int
  | 19 => .int
  | 20 => .array .int
  | 21 => .int
  | 22 => .array .long
  | 23 => .array .long
  | 24 => .long
  | 25 => .array .int
  | 26 => .array .int
  | 27 => .array .int
  | _ => .array .int
abbrev wsX50 : List Cond := u_ws RX5 TX5 29
theorem nmX5 : ∀ a, a < 29 → ∀ b, b < 29 → a ≠ b → (TX5 a).2.1 ≠ (TX5 b).2.1 := by decide +kernel
theorem tyX5_ok : ∀ k, k < 29 → parseFieldDescriptor (TX5 k).2.2.1 = some (tyX5 k) := by decide +kernel
abbrev cX5_init : ByteArray := prog_7_method_1_code
def yX5_init : MethodName := ⟨RX5, "<init>", "()V"⟩
abbrev cX5_in : ByteArray := prog_7_method_2_code
def yX5_in : MethodName := ⟨RX5, "in", "(JJJ)Z"⟩
abbrev cX5_has : ByteArray := prog_7_method_3_code
def yX5_has : MethodName := ⟨RX5, "has", "(JI)Z"⟩
abbrev cX5_many : ByteArray := prog_7_method_4_code
def yX5_many : MethodName := ⟨RX5, "many", "(J)I"⟩
abbrev cX5_type : ByteArray := prog_7_method_5_code
def yX5_type : MethodName := ⟨RX5, "type", "(JI)I"⟩
abbrev cX5_clear : ByteArray := prog_7_method_6_code
def yX5_clear : MethodName := ⟨RX5, "clear", "()I"⟩
abbrev cX5_isLow : ByteArray := prog_7_method_7_code
def yX5_isLow : MethodName := ⟨RX5, "isLow", "(I)Z"⟩
abbrev cX5_isWord : ByteArray := prog_7_method_8_code
def yX5_isWord : MethodName := ⟨RX5, "isWord", "(III)Z"⟩
abbrev cX5_token : ByteArray := prog_7_method_9_code
def yX5_token : MethodName := ⟨RX5, "token", "()V"⟩
abbrev cX5_lettered : ByteArray := prog_7_method_10_code
def yX5_lettered : MethodName := ⟨RX5, "lettered", "(I)J"⟩
abbrev cX5_saying : ByteArray := prog_7_method_11_code
def yX5_saying : MethodName := ⟨RX5, "saying", "()I"⟩
abbrev cX5_ends : ByteArray := prog_7_method_12_code
def yX5_ends : MethodName := ⟨RX5, "ends", "(J)V"⟩
abbrev cX5_fault : ByteArray := prog_7_method_13_code
def yX5_fault : MethodName := ⟨RX5, "fault", "()I"⟩
abbrev cX5_tell : ByteArray := prog_7_method_14_code
def yX5_tell : MethodName := ⟨RX5, "tell", "()I"⟩
abbrev cX5_question : ByteArray := prog_7_method_15_code
def yX5_question : MethodName := ⟨RX5, "question", "()I"⟩
abbrev cX5_isSayer : ByteArray := prog_7_method_16_code
def yX5_isSayer : MethodName := ⟨RX5, "isSayer", "(I)Z"⟩
abbrev cX5_isWorld : ByteArray := prog_7_method_17_code
def yX5_isWorld : MethodName := ⟨RX5, "isWorld", "(I)Z"⟩
abbrev cX5_worlds : ByteArray := prog_7_method_18_code
def yX5_worlds : MethodName := ⟨RX5, "worlds", "(II)J"⟩
abbrev cX5_cost : ByteArray := prog_7_method_19_code
def yX5_cost : MethodName := ⟨RX5, "cost", "(II)I"⟩
abbrev cX5_measure : ByteArray := prog_7_method_20_code
def yX5_measure : MethodName := ⟨RX5, "measure", "(I)I"⟩
abbrev cX5_apartOf : ByteArray := prog_7_method_21_code
def yX5_apartOf : MethodName := ⟨RX5, "apartOf", "(II)I"⟩
abbrev cX5_apart : ByteArray := prog_7_method_22_code
def yX5_apart : MethodName := ⟨RX5, "apart", "(II)I"⟩
abbrev cX5_farOf : ByteArray := prog_7_method_23_code
def yX5_farOf : MethodName := ⟨RX5, "farOf", "(IJ)I"⟩
abbrev cX5_burden : ByteArray := prog_7_method_24_code
def yX5_burden : MethodName := ⟨RX5, "burden", "(II)I"⟩
abbrev cX5_lays : ByteArray := prog_7_method_25_code
def yX5_lays : MethodName := ⟨RX5, "lays", "(IJ)V"⟩
abbrev cX5_laysAll : ByteArray := prog_7_method_26_code
def yX5_laysAll : MethodName := ⟨RX5, "laysAll", "()V"⟩
abbrev cX5_sumOf : ByteArray := prog_7_method_27_code
def yX5_sumOf : MethodName := ⟨RX5, "sumOf", "(I)I"⟩
abbrev cX5_worstOf : ByteArray := prog_7_method_28_code
def yX5_worstOf : MethodName := ⟨RX5, "worstOf", "(I)I"⟩
abbrev cX5_rows : ByteArray := prog_7_method_29_code
def yX5_rows : MethodName := ⟨RX5, "rows", "(II)V"⟩
abbrev cX5_against : ByteArray := prog_7_method_30_code
def yX5_against : MethodName := ⟨RX5, "against", "()I"⟩
abbrev cX5_mergedBy : ByteArray := prog_7_method_31_code
def yX5_mergedBy : MethodName := ⟨RX5, "mergedBy", "(I)J"⟩
abbrev cX5_merged : ByteArray := prog_7_method_32_code
def yX5_merged : MethodName := ⟨RX5, "merged", "(I)J"⟩
abbrev cX5_value : ByteArray := prog_7_method_33_code
def yX5_value : MethodName := ⟨RX5, "value", "(II)I"⟩
abbrev cX5_held : ByteArray := prog_7_method_34_code
def yX5_held : MethodName := ⟨RX5, "held", "(I)I"⟩
abbrev cX5_nearest : ByteArray := prog_7_method_35_code
def yX5_nearest : MethodName := ⟨RX5, "nearest", "(JJ)J"⟩
abbrev cX5_changed : ByteArray := prog_7_method_36_code
def yX5_changed : MethodName := ⟨RX5, "changed", "(II)J"⟩
abbrev cX5_isQuarrel : ByteArray := prog_7_method_37_code
def yX5_isQuarrel : MethodName := ⟨RX5, "isQuarrel", "(I)Z"⟩
abbrev cX5_isSet : ByteArray := prog_7_method_38_code
def yX5_isSet : MethodName := ⟨RX5, "isSet", "(I)Z"⟩
abbrev cX5_quarrels : ByteArray := prog_7_method_39_code
def yX5_quarrels : MethodName := ⟨RX5, "quarrels", "(I)I"⟩
abbrev cX5_isTold : ByteArray := prog_7_method_40_code
def yX5_isTold : MethodName := ⟨RX5, "isTold", "(II)Z"⟩
abbrev cX5_sets : ByteArray := prog_7_method_41_code
def yX5_sets : MethodName := ⟨RX5, "sets", "(II)I"⟩
abbrev cX5_free : ByteArray := prog_7_method_42_code
def yX5_free : MethodName := ⟨RX5, "free", "()I"⟩
abbrev cX5_orders : ByteArray := prog_7_method_43_code
def yX5_orders : MethodName := ⟨RX5, "orders", "(I)I"⟩
abbrev cX5_share : ByteArray := prog_7_method_44_code
def yX5_share : MethodName := ⟨RX5, "share", "(II)I"⟩
abbrev cX5_loss : ByteArray := prog_7_method_45_code
def yX5_loss : MethodName := ⟨RX5, "loss", "(J)I"⟩
abbrev cX5_laysTerm : ByteArray := prog_7_method_46_code
def yX5_laysTerm : MethodName := ⟨RX5, "laysTerm", "(III)V"⟩
abbrev cX5_lie : ByteArray := prog_7_method_47_code
def yX5_lie : MethodName := ⟨RX5, "lie", "(III)I"⟩
abbrev cX5_plain : ByteArray := prog_7_method_48_code
def yX5_plain : MethodName := ⟨RX5, "plain", "(I)I"⟩
abbrev cX5_weighty : ByteArray := prog_7_method_49_code
def yX5_weighty : MethodName := ⟨RX5, "weighty", "(I)I"⟩
abbrev cX5_worth : ByteArray := prog_7_method_50_code
def yX5_worth : MethodName := ⟨RX5, "worth", "(II)I"⟩
abbrev cX5_count : ByteArray := prog_7_method_51_code
def yX5_count : MethodName := ⟨RX5, "count", "(I)I"⟩
abbrev cX5_trace : ByteArray := prog_7_method_52_code
def yX5_trace : MethodName := ⟨RX5, "trace", "()J"⟩
def RJ6 : String := "java/lang/Integer"
def TJ6 : u_T := fun k => match k with
  | _ => ("", "", "", false)
def tyJ6 : Nat → FieldType := fun k => match k with
  | _ => .int
abbrev wsJ60 : List Cond := u_ws RJ6 TJ6 0
theorem nmJ6 : ∀ a, a < 0 → ∀ b, b < 0 → a ≠ b → (TJ6 a).2.1 ≠ (TJ6 b).2.1 := by decide +kernel
theorem tyJ6_ok : ∀ k, k < 0 → parseFieldDescriptor (TJ6 k).2.2.1 = some (tyJ6 k) := by decide +kernel
abbrev cJ6_numberOfTrailingZeros_0f7a4 : ByteArray := prog_8_method_48_code
def yJ6_numberOfTrailingZeros_0f7a4 : MethodName := ⟨RJ6, "numberOfTrailingZeros", "(I)I"⟩
abbrev cJ6_bitCount_0f7a4 : ByteArray := prog_8_method_49_code
def yJ6_bitCount_0f7a4 : MethodName := ⟨RJ6, "bitCount", "(I)I"⟩
def RJ13 : String := "java/lang/Long"
def TJ13 : u_T := fun k => match k with
  | _ => ("", "", "", false)
def tyJ13 : Nat → FieldType := fun k => match k with
  | _ => .int
abbrev wsJ130 : List Cond := u_ws RJ13 TJ13 0
theorem nmJ13 : ∀ a, a < 0 → ∀ b, b < 0 → a ≠ b → (TJ13 a).2.1 ≠ (TJ13 b).2.1 := by decide +kernel
theorem tyJ13_ok : ∀ k, k < 0 → parseFieldDescriptor (TJ13 k).2.2.1 = some (tyJ13 k) := by decide +kernel
abbrev cJ13_bitCount_95d88 : ByteArray := prog_9_method_50_code
def yJ13_bitCount_95d88 : MethodName := ⟨RJ13, "bitCount", "(J)I"⟩
def RJ9 : String := "java/lang/Math"
def TJ9 : u_T := fun k => match k with
  | _ => ("", "", "", false)
def tyJ9 : Nat → FieldType := fun k => match k with
  | _ => .int
abbrev wsJ90 : List Cond := u_ws RJ9 TJ9 0
theorem nmJ9 : ∀ a, a < 0 → ∀ b, b < 0 → a ≠ b → (TJ9 a).2.1 ≠ (TJ9 b).2.1 := by decide +kernel
theorem tyJ9_ok : ∀ k, k < 0 → parseFieldDescriptor (TJ9 k).2.2.1 = some (tyJ9 k) := by decide +kernel
abbrev cJ9_max_f86c9 : ByteArray := prog_10_method_66_code
def yJ9_max_f86c9 : MethodName := ⟨RJ9, "max", "(JJ)J"⟩
abbrev cJ9_min_f86c9 : ByteArray := prog_10_method_70_code
def yJ9_min_f86c9 : MethodName := ⟨RJ9, "min", "(JJ)J"⟩
def RJ7 : String := "java/util/Arrays"
def TJ7 : u_T := fun k => match k with
  | _ => ("", "", "", false)
def tyJ7 : Nat → FieldType := fun k => match k with
  | _ => .int
abbrev wsJ70 : List Cond := u_ws RJ7 TJ7 0
theorem nmJ7 : ∀ a, a < 0 → ∀ b, b < 0 → a ≠ b → (TJ7 a).2.1 ≠ (TJ7 b).2.1 := by decide +kernel
theorem tyJ7_ok : ∀ k, k < 0 → parseFieldDescriptor (TJ7 k).2.2.1 = some (tyJ7 k) := by decide +kernel
abbrev cJ7_fill_d0a16 : ByteArray := prog_11_method_101_code
def yJ7_fill_d0a16 : MethodName := ⟨RJ7, "fill", "([JJ)V"⟩
abbrev cJ7_fill_53178 : ByteArray := prog_11_method_103_code
def yJ7_fill_53178 : MethodName := ⟨RJ7, "fill", "([II)V"⟩
def RL : String := "SayingsMergedLaw"
abbrev cL_law : ByteArray := code
def yL_law : MethodName := ⟨RL, "law", "([I)Z"⟩
def wsJ7_fill_53178 : List Cond := .code yJ7_fill_53178 cJ7_fill_53178 4 none :: ([])
def wsJ6_bitCount_0f7a4 : List Cond := .code yJ6_bitCount_0f7a4 cJ6_bitCount_0f7a4 1 (some .int) :: ([.constant RJ6 265 (1431655765), .constant RJ6 266 (858993459), .constant RJ6 267 (252645135)])
def wsX0_init : List Cond := .code yX0_init cX0_init 2 none :: ([.methodLink RX0 3 objectInit, .instanceMethod objectInit, .code objectInit ⟨#[0xb1]⟩ 1 none, .arrayClass .int, .fieldLink RX0 9 "SayingsMerged$Distances" "costs" "[I", .fieldLink RX0 21 "SayingsMerged$Distances" "alike" "Z", .fieldLink RX0 25 "SayingsMerged$Distances" "lengths" "[I", .methodLink RX0 15 yJ7_fill_53178, .static yJ7_fill_53178, .initialized RJ7, .code yJ7_fill_53178 cJ7_fill_53178 4 none, .methodLink RX0 28 yJ6_bitCount_0f7a4, .static yJ6_bitCount_0f7a4, .initialized RJ6, .code yJ6_bitCount_0f7a4 cJ6_bitCount_0f7a4 1 (some .int), .constant RJ6 265 (1431655765), .constant RJ6 266 (858993459), .constant RJ6 267 (252645135)] ++ wsX00)
def wsJ6_numberOfTrailingZeros_0f7a4 : List Cond := .code yJ6_numberOfTrailingZeros_0f7a4 cJ6_numberOfTrailingZeros_0f7a4 2 (some .int) :: ([.constant RJ6 264 (65536)])
def wsX0_findLengths : List Cond := .code yX0_findLengths cX0_findLengths 3 none :: ([.fieldLink RX0 25 "SayingsMerged$Distances" "lengths" "[I", .fieldLink RX0 21 "SayingsMerged$Distances" "alike" "Z", .fieldLink RX0 9 "SayingsMerged$Distances" "costs" "[I", .methodLink RX0 34 yJ6_numberOfTrailingZeros_0f7a4, .static yJ6_numberOfTrailingZeros_0f7a4, .initialized RJ6, .code yJ6_numberOfTrailingZeros_0f7a4 cJ6_numberOfTrailingZeros_0f7a4 2 (some .int), .constant RJ6 264 (65536)] ++ wsX00)
def wsJ7_fill_d0a16 : List Cond := .code yJ7_fill_d0a16 cJ7_fill_d0a16 5 none :: ([])
def wsX4_isIn : List Cond := .code yX4_isIn cX4_isIn 3 (some .boolean) :: ([])
def wsX0_spread : List Cond := .code yX0_spread cX0_spread 4 none :: ([.methodLink RX0 50 Lib.MathLoose.min_long.x, .static Lib.MathLoose.min_long.x, .initialized "java/lang/Math", .code Lib.MathLoose.min_long.x Lib.MathLoose.min_long.code 4 (some .long)])
def wsX0_findFars : List Cond := .code yX0_findFars cX0_findFars 7 none :: ([.fieldLink RX0 21 "SayingsMerged$Distances" "alike" "Z", .constantLong RX0 40 (1000), .fieldLink RX0 9 "SayingsMerged$Distances" "costs" "[I", .methodLink RX0 37 yJ7_fill_d0a16, .static yJ7_fill_d0a16, .initialized RJ7, .code yJ7_fill_d0a16 cJ7_fill_d0a16 5 none, .static yX4_isIn, .initialized RX4, .code yX4_isIn cX4_isIn 3 (some .boolean), .methodLink RX0 46 yX0_spread, .static yX0_spread, .initialized RX0, .code yX0_spread cX0_spread 4 none, .methodLink RX0 50 Lib.MathLoose.min_long.x, .static Lib.MathLoose.min_long.x, .initialized "java/lang/Math", .code Lib.MathLoose.min_long.x Lib.MathLoose.min_long.code 4 (some .long)] ++ wsX00)
def wsX1_init : List Cond := .code yX1_init cX1_init 2 none :: ([.methodLink RX1 3 objectInit, .instanceMethod objectInit, .code objectInit ⟨#[0xb1]⟩ 1 none, .fieldLink RX1 9 "SayingsMerged$Reader" "text" "LSayingsMerged$Text;", .fieldLink RX1 15 "SayingsMerged$Reader" "at" "I", .fieldLink RX1 19 "SayingsMerged$Reader" "token" "I", .fieldLink RX1 22 "SayingsMerged$Reader" "fault" "I"] ++ wsX10)
def wsX1_isFaulty : List Cond := .code yX1_isFaulty cX1_isFaulty 1 (some .boolean) :: ([.fieldLink RX1 22 "SayingsMerged$Reader" "fault" "I"] ++ wsX10)
def wsX3_empty : List Cond := .code yX3_empty cX3_empty 1 none :: ([.fieldLink RX3 9 "SayingsMerged$Told" "laws" "I", .constantLong RX3 15 (-1), .fieldLink RX3 17 "SayingsMerged$Told" "there" "J", .fieldLink RX3 21 "SayingsMerged$Told" "sayers" "I"] ++ wsX30)
def wsX2_isSmall : List Cond := .code yX2_isSmall cX2_isSmall 2 (some .boolean) :: ([.fieldLink RX2 15 "SayingsMerged$Text" "length" "I", .fieldLink RX2 9 "SayingsMerged$Text" "bytes" "[I"] ++ wsX20)
def wsX2_beginsToken : List Cond := .code yX2_beginsToken cX2_beginsToken 2 (some .boolean) :: ([.fieldLink RX2 9 "SayingsMerged$Text" "bytes" "[I", .methodLink RX2 33 yX2_isSmall, .instanceMethod yX2_isSmall, .selects RX2 yX2_isSmall yX2_isSmall, .initialized RX2, .code yX2_isSmall cX2_isSmall 2 (some .boolean), .fieldLink RX2 15 "SayingsMerged$Text" "length" "I"] ++ wsX20)
def wsX4_isLetter : List Cond := .code yX4_isLetter cX4_isLetter 1 (some .boolean) :: ([])
def wsX2_wordAt : List Cond := .code yX2_wordAt cX2_wordAt 3 (some .int) :: ([.fieldLink RX2 15 "SayingsMerged$Text" "length" "I", .fieldLink RX2 9 "SayingsMerged$Text" "bytes" "[I", .methodLink RX2 33 yX2_isSmall, .instanceMethod yX2_isSmall, .selects RX2 yX2_isSmall yX2_isSmall, .initialized RX2, .code yX2_isSmall cX2_isSmall 2 (some .boolean), .static yX4_isLetter, .initialized RX4, .code yX4_isLetter cX4_isLetter 1 (some .boolean)] ++ wsX20)
def wsX2_isSign : List Cond := .code yX2_isSign cX2_isSign 1 (some .boolean) :: ([])
def wsX2_tokenAt : List Cond := .code yX2_tokenAt cX2_tokenAt 2 (some .int) :: ([.fieldLink RX2 9 "SayingsMerged$Text" "bytes" "[I", .methodLink RX2 33 yX2_isSmall, .instanceMethod yX2_isSmall, .selects RX2 yX2_isSmall yX2_isSmall, .initialized RX2, .code yX2_isSmall cX2_isSmall 2 (some .boolean), .fieldLink RX2 15 "SayingsMerged$Text" "length" "I", .methodLink RX2 36 yX2_wordAt, .instanceMethod yX2_wordAt, .selects RX2 yX2_wordAt yX2_wordAt, .code yX2_wordAt cX2_wordAt 3 (some .int), .static yX4_isLetter, .initialized RX4, .code yX4_isLetter cX4_isLetter 1 (some .boolean), .methodLink RX2 39 yX2_isSign, .static yX2_isSign, .code yX2_isSign cX2_isSign 1 (some .boolean)] ++ wsX20)
def wsX2_findTokens_r1 : List Cond := [Cond.fieldLink RX2 15 "SayingsMerged$Text" "length" "I", Cond.fieldLink RX2 19 "SayingsMerged$Text" "tokens" "[I", Cond.fieldLink RX2 22 "SayingsMerged$Text" "places" "[I", Cond.methodLink RX2 25 yX2_beginsToken, Cond.instanceMethod yX2_beginsToken, Cond.selects RX2 yX2_beginsToken yX2_beginsToken, Cond.initialized RX2, Cond.code yX2_beginsToken cX2_beginsToken 2 (some .boolean), Cond.fieldLink RX2 9 "SayingsMerged$Text" "bytes" "[I", Cond.methodLink RX2 33 yX2_isSmall, Cond.instanceMethod yX2_isSmall, Cond.selects RX2 yX2_isSmall yX2_isSmall, Cond.code yX2_isSmall cX2_isSmall 2 (some .boolean), Cond.methodLink RX2 29 yX2_tokenAt, Cond.instanceMethod yX2_tokenAt, Cond.selects RX2 yX2_tokenAt yX2_tokenAt, Cond.code yX2_tokenAt cX2_tokenAt 2 (some .int), Cond.methodLink RX2 36 yX2_wordAt, Cond.instanceMethod yX2_wordAt, Cond.selects RX2 yX2_wordAt yX2_wordAt, Cond.code yX2_wordAt cX2_wordAt 3 (some .int), Cond.static yX4_isLetter, Cond.initialized RX4, Cond.code yX4_isLetter cX4_isLetter 1 (some .boolean)]
def wsX2_findTokens_r2 : List Cond := [Cond.methodLink RX2 39 yX2_isSign, Cond.static yX2_isSign, Cond.code yX2_isSign cX2_isSign 1 (some .boolean)]
def wsX2_findTokens : List Cond := .code yX2_findTokens cX2_findTokens 3 none :: ((wsX2_findTokens_r1 ++ wsX2_findTokens_r2) ++ wsX20)
def wsX1_begin_r1 : List Cond := [Cond.fieldLink RX1 9 "SayingsMerged$Reader" "text" "LSayingsMerged$Text;", Cond.fieldLink RX1 15 "SayingsMerged$Reader" "at" "I", Cond.fieldLink RX1 19 "SayingsMerged$Reader" "token" "I", Cond.fieldLink RX1 22 "SayingsMerged$Reader" "fault" "I", Cond.methodLink RX1 99 yX2_findTokens, Cond.instanceMethod yX2_findTokens, Cond.selects RX2 yX2_findTokens yX2_findTokens, Cond.initialized RX2, Cond.code yX2_findTokens cX2_findTokens 3 none, Cond.fieldLink RX2 15 "SayingsMerged$Text" "length" "I", Cond.fieldLink RX2 19 "SayingsMerged$Text" "tokens" "[I", Cond.fieldLink RX2 22 "SayingsMerged$Text" "places" "[I", Cond.methodLink RX2 25 yX2_beginsToken, Cond.instanceMethod yX2_beginsToken, Cond.selects RX2 yX2_beginsToken yX2_beginsToken, Cond.code yX2_beginsToken cX2_beginsToken 2 (some .boolean), Cond.fieldLink RX2 9 "SayingsMerged$Text" "bytes" "[I", Cond.methodLink RX2 33 yX2_isSmall, Cond.instanceMethod yX2_isSmall, Cond.selects RX2 yX2_isSmall yX2_isSmall, Cond.code yX2_isSmall cX2_isSmall 2 (some .boolean), Cond.methodLink RX2 29 yX2_tokenAt, Cond.instanceMethod yX2_tokenAt, Cond.selects RX2 yX2_tokenAt yX2_tokenAt]
def wsX1_begin_r2 : List Cond := [Cond.code yX2_tokenAt cX2_tokenAt 2 (some .int), Cond.methodLink RX2 36 yX2_wordAt, Cond.instanceMethod yX2_wordAt, Cond.selects RX2 yX2_wordAt yX2_wordAt, Cond.code yX2_wordAt cX2_wordAt 3 (some .int), Cond.static yX4_isLetter, Cond.initialized RX4, Cond.code yX4_isLetter cX4_isLetter 1 (some .boolean), Cond.methodLink RX2 39 yX2_isSign, Cond.static yX2_isSign, Cond.code yX2_isSign cX2_isSign 1 (some .boolean)]
def wsX1_begin : List Cond := .code yX1_begin cX1_begin 1 none :: ((wsX1_begin_r1 ++ wsX1_begin_r2) ++ wsX10 ++ wsX20)
def wsX1_advance : List Cond := .code yX1_advance cX1_advance 1 none :: ([.fieldLink RX1 19 "SayingsMerged$Reader" "token" "I", .fieldLink RX1 15 "SayingsMerged$Reader" "at" "I", .fieldLink RX1 9 "SayingsMerged$Reader" "text" "LSayingsMerged$Text;"] ++ wsX10 ++ wsX20)
def wsX1_beginsOne : List Cond := .code yX1_beginsOne cX1_beginsOne 2 (some .boolean) :: ([.static yX4_isLetter, .initialized RX4, .code yX4_isLetter cX4_isLetter 1 (some .boolean)])
def wsX1_fail : List Cond := .code yX1_fail cX1_fail 1 none :: ([.fieldLink RX1 22 "SayingsMerged$Reader" "fault" "I", .fieldLink RX1 9 "SayingsMerged$Reader" "text" "LSayingsMerged$Text;", .fieldLink RX1 15 "SayingsMerged$Reader" "at" "I"] ++ wsX10 ++ wsX20)
def wsX1_expect : List Cond := .code yX1_expect cX1_expect 2 none :: ([.fieldLink RX1 19 "SayingsMerged$Reader" "token" "I", .methodLink RX1 33 yX1_isFaulty, .instanceMethod yX1_isFaulty, .selects RX1 yX1_isFaulty yX1_isFaulty, .initialized RX1, .code yX1_isFaulty cX1_isFaulty 1 (some .boolean), .fieldLink RX1 22 "SayingsMerged$Reader" "fault" "I", .methodLink RX1 70 yX1_fail, .instanceMethod yX1_fail, .selects RX1 yX1_fail yX1_fail, .code yX1_fail cX1_fail 1 none, .fieldLink RX1 9 "SayingsMerged$Reader" "text" "LSayingsMerged$Text;", .fieldLink RX1 15 "SayingsMerged$Reader" "at" "I", .methodLink RX1 52 yX1_advance, .instanceMethod yX1_advance, .selects RX1 yX1_advance yX1_advance, .code yX1_advance cX1_advance 1 none] ++ wsX10 ++ wsX20)
def wsX1_readBoth_r1 : List Cond := [Cond.fieldLink RX1 19 "SayingsMerged$Reader" "token" "I", Cond.methodLink RX1 76 yX1_readOne, Cond.instanceMethod yX1_readOne, Cond.selects RX1 yX1_readOne yX1_readOne, Cond.initialized RX1, Cond.methodLink RX1 33 yX1_isFaulty, Cond.instanceMethod yX1_isFaulty, Cond.selects RX1 yX1_isFaulty yX1_isFaulty, Cond.code yX1_isFaulty cX1_isFaulty 1 (some .boolean), Cond.fieldLink RX1 22 "SayingsMerged$Reader" "fault" "I", Cond.methodLink RX1 52 yX1_advance, Cond.instanceMethod yX1_advance, Cond.selects RX1 yX1_advance yX1_advance, Cond.code yX1_advance cX1_advance 1 none, Cond.fieldLink RX1 15 "SayingsMerged$Reader" "at" "I", Cond.fieldLink RX1 9 "SayingsMerged$Reader" "text" "LSayingsMerged$Text;", Cond.code yX1_readOne cX1_readOne 5 (some .long), Cond.constantLong RX1 83 (-1), Cond.methodLink RX1 79 yX1_beginsOne, Cond.static yX1_beginsOne, Cond.code yX1_beginsOne cX1_beginsOne 2 (some .boolean), Cond.static yX4_isLetter, Cond.initialized RX4, Cond.code yX4_isLetter cX4_isLetter 1 (some .boolean)]
def wsX1_readBoth_r2 : List Cond := [Cond.methodLink RX1 70 yX1_fail, Cond.instanceMethod yX1_fail, Cond.selects RX1 yX1_fail yX1_fail, Cond.code yX1_fail cX1_fail 1 none, Cond.methodLink RX1 41 yX1_readSaying, Cond.instanceMethod yX1_readSaying, Cond.selects RX1 yX1_readSaying yX1_readSaying, Cond.methodLink RX1 45 yX1_expect, Cond.instanceMethod yX1_expect, Cond.selects RX1 yX1_expect yX1_expect, Cond.code yX1_expect cX1_expect 2 none, Cond.code yX1_readSaying cX1_readSaying 5 (some .long), Cond.methodLink RX1 73 yX1_readBoth, Cond.instanceMethod yX1_readBoth, Cond.selects RX1 yX1_readBoth yX1_readBoth]
def wsX1_readBoth : List Cond := .code yX1_readBoth cX1_readBoth 5 (some .long) :: ((wsX1_readBoth_r1 ++ wsX1_readBoth_r2) ++ wsX10 ++ wsX20)
def wsX1_readOne_r1 : List Cond := [Cond.fieldLink RX1 19 "SayingsMerged$Reader" "token" "I", Cond.constantLong RX1 83 (-1), Cond.methodLink RX1 33 yX1_isFaulty, Cond.instanceMethod yX1_isFaulty, Cond.selects RX1 yX1_isFaulty yX1_isFaulty, Cond.initialized RX1, Cond.code yX1_isFaulty cX1_isFaulty 1 (some .boolean), Cond.fieldLink RX1 22 "SayingsMerged$Reader" "fault" "I", Cond.methodLink RX1 79 yX1_beginsOne, Cond.static yX1_beginsOne, Cond.code yX1_beginsOne cX1_beginsOne 2 (some .boolean), Cond.static yX4_isLetter, Cond.initialized RX4, Cond.code yX4_isLetter cX4_isLetter 1 (some .boolean), Cond.methodLink RX1 70 yX1_fail, Cond.instanceMethod yX1_fail, Cond.selects RX1 yX1_fail yX1_fail, Cond.code yX1_fail cX1_fail 1 none, Cond.fieldLink RX1 9 "SayingsMerged$Reader" "text" "LSayingsMerged$Text;", Cond.fieldLink RX1 15 "SayingsMerged$Reader" "at" "I", Cond.methodLink RX1 52 yX1_advance, Cond.instanceMethod yX1_advance, Cond.selects RX1 yX1_advance yX1_advance, Cond.code yX1_advance cX1_advance 1 none]
def wsX1_readOne_r2 : List Cond := [Cond.methodLink RX1 76 yX1_readOne, Cond.instanceMethod yX1_readOne, Cond.selects RX1 yX1_readOne yX1_readOne, Cond.methodLink RX1 41 yX1_readSaying, Cond.instanceMethod yX1_readSaying, Cond.selects RX1 yX1_readSaying yX1_readSaying, Cond.methodLink RX1 45 yX1_expect, Cond.instanceMethod yX1_expect, Cond.selects RX1 yX1_expect yX1_expect, Cond.code yX1_expect cX1_expect 2 none, Cond.code yX1_readBoth cX1_readBoth 5 (some .long), Cond.code yX1_readSaying cX1_readSaying 5 (some .long), Cond.methodLink RX1 73 yX1_readBoth, Cond.instanceMethod yX1_readBoth, Cond.selects RX1 yX1_readBoth yX1_readBoth]
def wsX1_readOne : List Cond := .code yX1_readOne cX1_readOne 5 (some .long) :: ((wsX1_readOne_r1 ++ wsX1_readOne_r2) ++ wsX10 ++ wsX20)
def wsX1_readSaying_r1 : List Cond := [Cond.fieldLink RX1 19 "SayingsMerged$Reader" "token" "I", Cond.methodLink RX1 73 yX1_readBoth, Cond.instanceMethod yX1_readBoth, Cond.selects RX1 yX1_readBoth yX1_readBoth, Cond.initialized RX1, Cond.methodLink RX1 33 yX1_isFaulty, Cond.instanceMethod yX1_isFaulty, Cond.selects RX1 yX1_isFaulty yX1_isFaulty, Cond.code yX1_isFaulty cX1_isFaulty 1 (some .boolean), Cond.fieldLink RX1 22 "SayingsMerged$Reader" "fault" "I", Cond.methodLink RX1 52 yX1_advance, Cond.instanceMethod yX1_advance, Cond.selects RX1 yX1_advance yX1_advance, Cond.code yX1_advance cX1_advance 1 none, Cond.fieldLink RX1 15 "SayingsMerged$Reader" "at" "I", Cond.fieldLink RX1 9 "SayingsMerged$Reader" "text" "LSayingsMerged$Text;", Cond.code yX1_readBoth cX1_readBoth 5 (some .long), Cond.methodLink RX1 76 yX1_readOne, Cond.instanceMethod yX1_readOne, Cond.selects RX1 yX1_readOne yX1_readOne, Cond.code yX1_readOne cX1_readOne 5 (some .long), Cond.constantLong RX1 83 (-1), Cond.methodLink RX1 79 yX1_beginsOne, Cond.static yX1_beginsOne]
def wsX1_readSaying_r2 : List Cond := [Cond.code yX1_beginsOne cX1_beginsOne 2 (some .boolean), Cond.static yX4_isLetter, Cond.initialized RX4, Cond.code yX4_isLetter cX4_isLetter 1 (some .boolean), Cond.methodLink RX1 70 yX1_fail, Cond.instanceMethod yX1_fail, Cond.selects RX1 yX1_fail yX1_fail, Cond.code yX1_fail cX1_fail 1 none, Cond.methodLink RX1 41 yX1_readSaying, Cond.instanceMethod yX1_readSaying, Cond.selects RX1 yX1_readSaying yX1_readSaying, Cond.methodLink RX1 45 yX1_expect, Cond.instanceMethod yX1_expect, Cond.selects RX1 yX1_expect yX1_expect, Cond.code yX1_expect cX1_expect 2 none]
def wsX1_readSaying : List Cond := .code yX1_readSaying cX1_readSaying 5 (some .long) :: ((wsX1_readSaying_r1 ++ wsX1_readSaying_r2) ++ wsX10 ++ wsX20)
def wsX3_addLaw : List Cond := .code yX3_addLaw cX3_addLaw 3 none :: ([.fieldLink RX3 9 "SayingsMerged$Told" "laws" "I", .fieldLink RX3 17 "SayingsMerged$Told" "there" "J"] ++ wsX30)
def wsX1_readWeight : List Cond := .code yX1_readWeight cX1_readWeight 2 (some .int) :: ([.fieldLink RX1 19 "SayingsMerged$Reader" "token" "I", .methodLink RX1 70 yX1_fail, .instanceMethod yX1_fail, .selects RX1 yX1_fail yX1_fail, .initialized RX1, .code yX1_fail cX1_fail 1 none, .fieldLink RX1 22 "SayingsMerged$Reader" "fault" "I", .fieldLink RX1 9 "SayingsMerged$Reader" "text" "LSayingsMerged$Text;", .fieldLink RX1 15 "SayingsMerged$Reader" "at" "I", .methodLink RX1 52 yX1_advance, .instanceMethod yX1_advance, .selects RX1 yX1_advance yX1_advance, .code yX1_advance cX1_advance 1 none] ++ wsX10 ++ wsX20)
def wsX3_addSayer : List Cond := .code yX3_addSayer cX3_addSayer 4 none :: ([.fieldLink RX3 21 "SayingsMerged$Told" "sayers" "I", .fieldLink RX3 28 "SayingsMerged$Told" "weights" "[I", .fieldLink RX3 24 "SayingsMerged$Told" "says" "[J"] ++ wsX30)
def wsX1_readItem_r1 : List Cond := [Cond.fieldLink RX1 19 "SayingsMerged$Reader" "token" "I", Cond.methodLink RX1 52 yX1_advance, Cond.instanceMethod yX1_advance, Cond.selects RX1 yX1_advance yX1_advance, Cond.initialized RX1, Cond.code yX1_advance cX1_advance 1 none, Cond.fieldLink RX1 15 "SayingsMerged$Reader" "at" "I", Cond.fieldLink RX1 9 "SayingsMerged$Reader" "text" "LSayingsMerged$Text;", Cond.methodLink RX1 41 yX1_readSaying, Cond.instanceMethod yX1_readSaying, Cond.selects RX1 yX1_readSaying yX1_readSaying, Cond.code yX1_readSaying cX1_readSaying 5 (some .long), Cond.methodLink RX1 73 yX1_readBoth, Cond.instanceMethod yX1_readBoth, Cond.selects RX1 yX1_readBoth yX1_readBoth, Cond.methodLink RX1 33 yX1_isFaulty, Cond.instanceMethod yX1_isFaulty, Cond.selects RX1 yX1_isFaulty yX1_isFaulty, Cond.code yX1_isFaulty cX1_isFaulty 1 (some .boolean), Cond.fieldLink RX1 22 "SayingsMerged$Reader" "fault" "I", Cond.code yX1_readBoth cX1_readBoth 5 (some .long), Cond.methodLink RX1 76 yX1_readOne, Cond.instanceMethod yX1_readOne, Cond.selects RX1 yX1_readOne yX1_readOne]
def wsX1_readItem_r2 : List Cond := [Cond.code yX1_readOne cX1_readOne 5 (some .long), Cond.constantLong RX1 83 (-1), Cond.methodLink RX1 79 yX1_beginsOne, Cond.static yX1_beginsOne, Cond.code yX1_beginsOne cX1_beginsOne 2 (some .boolean), Cond.static yX4_isLetter, Cond.initialized RX4, Cond.code yX4_isLetter cX4_isLetter 1 (some .boolean), Cond.methodLink RX1 70 yX1_fail, Cond.instanceMethod yX1_fail, Cond.selects RX1 yX1_fail yX1_fail, Cond.code yX1_fail cX1_fail 1 none, Cond.methodLink RX1 45 yX1_expect, Cond.instanceMethod yX1_expect, Cond.selects RX1 yX1_expect yX1_expect, Cond.code yX1_expect cX1_expect 2 none, Cond.methodLink RX1 55 yX3_addLaw, Cond.instanceMethod yX3_addLaw, Cond.selects RX3 yX3_addLaw yX3_addLaw, Cond.initialized RX3, Cond.code yX3_addLaw cX3_addLaw 3 none, Cond.fieldLink RX3 9 "SayingsMerged$Told" "laws" "I", Cond.fieldLink RX3 17 "SayingsMerged$Told" "there" "J", Cond.methodLink RX1 62 yX1_readWeight]
def wsX1_readItem_r3 : List Cond := [Cond.instanceMethod yX1_readWeight, Cond.selects RX1 yX1_readWeight yX1_readWeight, Cond.code yX1_readWeight cX1_readWeight 2 (some .int), Cond.methodLink RX1 66 yX3_addSayer, Cond.instanceMethod yX3_addSayer, Cond.selects RX3 yX3_addSayer yX3_addSayer, Cond.code yX3_addSayer cX3_addSayer 4 none, Cond.fieldLink RX3 21 "SayingsMerged$Told" "sayers" "I", Cond.fieldLink RX3 28 "SayingsMerged$Told" "weights" "[I", Cond.fieldLink RX3 24 "SayingsMerged$Told" "says" "[J"]
def wsX1_readItem : List Cond := .code yX1_readItem cX1_readItem 3 none :: ((wsX1_readItem_r1 ++ (wsX1_readItem_r2 ++ wsX1_readItem_r3)) ++ wsX10 ++ wsX30 ++ wsX20)
def wsX1_readItems_r1 : List Cond := [Cond.fieldLink RX1 19 "SayingsMerged$Reader" "token" "I", Cond.methodLink RX1 25 yX3_empty, Cond.instanceMethod yX3_empty, Cond.selects RX3 yX3_empty yX3_empty, Cond.initialized RX3, Cond.code yX3_empty cX3_empty 1 none, Cond.fieldLink RX3 9 "SayingsMerged$Told" "laws" "I", Cond.constantLong RX3 15 (-1), Cond.fieldLink RX3 17 "SayingsMerged$Told" "there" "J", Cond.fieldLink RX3 21 "SayingsMerged$Told" "sayers" "I", Cond.methodLink RX1 30 yX1_begin, Cond.instanceMethod yX1_begin, Cond.selects RX1 yX1_begin yX1_begin, Cond.initialized RX1, Cond.code yX1_begin cX1_begin 1 none, Cond.fieldLink RX1 9 "SayingsMerged$Reader" "text" "LSayingsMerged$Text;", Cond.fieldLink RX1 15 "SayingsMerged$Reader" "at" "I", Cond.fieldLink RX1 22 "SayingsMerged$Reader" "fault" "I", Cond.methodLink RX1 99 yX2_findTokens, Cond.instanceMethod yX2_findTokens, Cond.selects RX2 yX2_findTokens yX2_findTokens, Cond.initialized RX2, Cond.code yX2_findTokens cX2_findTokens 3 none, Cond.fieldLink RX2 15 "SayingsMerged$Text" "length" "I"]
def wsX1_readItems_r2 : List Cond := [Cond.fieldLink RX2 19 "SayingsMerged$Text" "tokens" "[I", Cond.fieldLink RX2 22 "SayingsMerged$Text" "places" "[I", Cond.methodLink RX2 25 yX2_beginsToken, Cond.instanceMethod yX2_beginsToken, Cond.selects RX2 yX2_beginsToken yX2_beginsToken, Cond.code yX2_beginsToken cX2_beginsToken 2 (some .boolean), Cond.fieldLink RX2 9 "SayingsMerged$Text" "bytes" "[I", Cond.methodLink RX2 33 yX2_isSmall, Cond.instanceMethod yX2_isSmall, Cond.selects RX2 yX2_isSmall yX2_isSmall, Cond.code yX2_isSmall cX2_isSmall 2 (some .boolean), Cond.methodLink RX2 29 yX2_tokenAt, Cond.instanceMethod yX2_tokenAt, Cond.selects RX2 yX2_tokenAt yX2_tokenAt, Cond.code yX2_tokenAt cX2_tokenAt 2 (some .int), Cond.methodLink RX2 36 yX2_wordAt, Cond.instanceMethod yX2_wordAt, Cond.selects RX2 yX2_wordAt yX2_wordAt, Cond.code yX2_wordAt cX2_wordAt 3 (some .int), Cond.static yX4_isLetter, Cond.initialized RX4, Cond.code yX4_isLetter cX4_isLetter 1 (some .boolean), Cond.methodLink RX2 39 yX2_isSign, Cond.static yX2_isSign]
def wsX1_readItems_r3 : List Cond := [Cond.code yX2_isSign cX2_isSign 1 (some .boolean), Cond.methodLink RX1 33 yX1_isFaulty, Cond.instanceMethod yX1_isFaulty, Cond.selects RX1 yX1_isFaulty yX1_isFaulty, Cond.code yX1_isFaulty cX1_isFaulty 1 (some .boolean), Cond.methodLink RX1 37 yX1_readItem, Cond.instanceMethod yX1_readItem, Cond.selects RX1 yX1_readItem yX1_readItem, Cond.code yX1_readItem cX1_readItem 3 none, Cond.methodLink RX1 52 yX1_advance, Cond.instanceMethod yX1_advance, Cond.selects RX1 yX1_advance yX1_advance, Cond.code yX1_advance cX1_advance 1 none, Cond.methodLink RX1 41 yX1_readSaying, Cond.instanceMethod yX1_readSaying, Cond.selects RX1 yX1_readSaying yX1_readSaying, Cond.code yX1_readSaying cX1_readSaying 5 (some .long), Cond.methodLink RX1 73 yX1_readBoth, Cond.instanceMethod yX1_readBoth, Cond.selects RX1 yX1_readBoth yX1_readBoth, Cond.code yX1_readBoth cX1_readBoth 5 (some .long), Cond.methodLink RX1 76 yX1_readOne, Cond.instanceMethod yX1_readOne, Cond.selects RX1 yX1_readOne yX1_readOne]
def wsX1_readItems_r4 : List Cond := [Cond.code yX1_readOne cX1_readOne 5 (some .long), Cond.constantLong RX1 83 (-1), Cond.methodLink RX1 79 yX1_beginsOne, Cond.static yX1_beginsOne, Cond.code yX1_beginsOne cX1_beginsOne 2 (some .boolean), Cond.methodLink RX1 70 yX1_fail, Cond.instanceMethod yX1_fail, Cond.selects RX1 yX1_fail yX1_fail, Cond.code yX1_fail cX1_fail 1 none, Cond.methodLink RX1 45 yX1_expect, Cond.instanceMethod yX1_expect, Cond.selects RX1 yX1_expect yX1_expect, Cond.code yX1_expect cX1_expect 2 none, Cond.methodLink RX1 55 yX3_addLaw, Cond.instanceMethod yX3_addLaw, Cond.selects RX3 yX3_addLaw yX3_addLaw, Cond.code yX3_addLaw cX3_addLaw 3 none, Cond.methodLink RX1 62 yX1_readWeight, Cond.instanceMethod yX1_readWeight, Cond.selects RX1 yX1_readWeight yX1_readWeight, Cond.code yX1_readWeight cX1_readWeight 2 (some .int), Cond.methodLink RX1 66 yX3_addSayer, Cond.instanceMethod yX3_addSayer, Cond.selects RX3 yX3_addSayer yX3_addSayer]
def wsX1_readItems_r5 : List Cond := [Cond.code yX3_addSayer cX3_addSayer 4 none, Cond.fieldLink RX3 28 "SayingsMerged$Told" "weights" "[I", Cond.fieldLink RX3 24 "SayingsMerged$Told" "says" "[J"]
def wsX1_readItems : List Cond := .code yX1_readItems cX1_readItems 3 none :: ((wsX1_readItems_r1 ++ (wsX1_readItems_r2 ++ (wsX1_readItems_r3 ++ (wsX1_readItems_r4 ++ wsX1_readItems_r5)))) ++ wsX10 ++ wsX30 ++ wsX20)
def wsX1_readQuestion_r1 : List Cond := [Cond.methodLink RX1 30 yX1_begin, Cond.instanceMethod yX1_begin, Cond.selects RX1 yX1_begin yX1_begin, Cond.initialized RX1, Cond.code yX1_begin cX1_begin 1 none, Cond.fieldLink RX1 9 "SayingsMerged$Reader" "text" "LSayingsMerged$Text;", Cond.fieldLink RX1 15 "SayingsMerged$Reader" "at" "I", Cond.fieldLink RX1 19 "SayingsMerged$Reader" "token" "I", Cond.fieldLink RX1 22 "SayingsMerged$Reader" "fault" "I", Cond.methodLink RX1 99 yX2_findTokens, Cond.instanceMethod yX2_findTokens, Cond.selects RX2 yX2_findTokens yX2_findTokens, Cond.initialized RX2, Cond.code yX2_findTokens cX2_findTokens 3 none, Cond.fieldLink RX2 15 "SayingsMerged$Text" "length" "I", Cond.fieldLink RX2 19 "SayingsMerged$Text" "tokens" "[I", Cond.fieldLink RX2 22 "SayingsMerged$Text" "places" "[I", Cond.methodLink RX2 25 yX2_beginsToken, Cond.instanceMethod yX2_beginsToken, Cond.selects RX2 yX2_beginsToken yX2_beginsToken, Cond.code yX2_beginsToken cX2_beginsToken 2 (some .boolean), Cond.fieldLink RX2 9 "SayingsMerged$Text" "bytes" "[I", Cond.methodLink RX2 33 yX2_isSmall, Cond.instanceMethod yX2_isSmall]
def wsX1_readQuestion_r2 : List Cond := [Cond.selects RX2 yX2_isSmall yX2_isSmall, Cond.code yX2_isSmall cX2_isSmall 2 (some .boolean), Cond.methodLink RX2 29 yX2_tokenAt, Cond.instanceMethod yX2_tokenAt, Cond.selects RX2 yX2_tokenAt yX2_tokenAt, Cond.code yX2_tokenAt cX2_tokenAt 2 (some .int), Cond.methodLink RX2 36 yX2_wordAt, Cond.instanceMethod yX2_wordAt, Cond.selects RX2 yX2_wordAt yX2_wordAt, Cond.code yX2_wordAt cX2_wordAt 3 (some .int), Cond.static yX4_isLetter, Cond.initialized RX4, Cond.code yX4_isLetter cX4_isLetter 1 (some .boolean), Cond.methodLink RX2 39 yX2_isSign, Cond.static yX2_isSign, Cond.code yX2_isSign cX2_isSign 1 (some .boolean), Cond.methodLink RX1 41 yX1_readSaying, Cond.instanceMethod yX1_readSaying, Cond.selects RX1 yX1_readSaying yX1_readSaying, Cond.code yX1_readSaying cX1_readSaying 5 (some .long), Cond.methodLink RX1 73 yX1_readBoth, Cond.instanceMethod yX1_readBoth, Cond.selects RX1 yX1_readBoth yX1_readBoth, Cond.methodLink RX1 33 yX1_isFaulty]
def wsX1_readQuestion_r3 : List Cond := [Cond.instanceMethod yX1_isFaulty, Cond.selects RX1 yX1_isFaulty yX1_isFaulty, Cond.code yX1_isFaulty cX1_isFaulty 1 (some .boolean), Cond.methodLink RX1 52 yX1_advance, Cond.instanceMethod yX1_advance, Cond.selects RX1 yX1_advance yX1_advance, Cond.code yX1_advance cX1_advance 1 none, Cond.code yX1_readBoth cX1_readBoth 5 (some .long), Cond.methodLink RX1 76 yX1_readOne, Cond.instanceMethod yX1_readOne, Cond.selects RX1 yX1_readOne yX1_readOne, Cond.code yX1_readOne cX1_readOne 5 (some .long), Cond.constantLong RX1 83 (-1), Cond.methodLink RX1 79 yX1_beginsOne, Cond.static yX1_beginsOne, Cond.code yX1_beginsOne cX1_beginsOne 2 (some .boolean), Cond.methodLink RX1 70 yX1_fail, Cond.instanceMethod yX1_fail, Cond.selects RX1 yX1_fail yX1_fail, Cond.code yX1_fail cX1_fail 1 none, Cond.methodLink RX1 45 yX1_expect, Cond.instanceMethod yX1_expect, Cond.selects RX1 yX1_expect yX1_expect, Cond.code yX1_expect cX1_expect 2 none]
def wsX1_readQuestion : List Cond := .code yX1_readQuestion cX1_readQuestion 3 (some .long) :: ((wsX1_readQuestion_r1 ++ (wsX1_readQuestion_r2 ++ wsX1_readQuestion_r3)) ++ wsX10 ++ wsX20)
def wsX2_init : List Cond := .code yX2_init cX2_init 1 none :: ([.methodLink RX2 3 objectInit, .instanceMethod objectInit, .code objectInit ⟨#[0xb1]⟩ 1 none, .arrayClass .int, .fieldLink RX2 9 "SayingsMerged$Text" "bytes" "[I", .fieldLink RX2 15 "SayingsMerged$Text" "length" "I", .fieldLink RX2 19 "SayingsMerged$Text" "tokens" "[I", .fieldLink RX2 22 "SayingsMerged$Text" "places" "[I"] ++ wsX20)
def wsX2_append : List Cond := .code yX2_append cX2_append 2 none :: ([.fieldLink RX2 15 "SayingsMerged$Text" "length" "I", .fieldLink RX2 9 "SayingsMerged$Text" "bytes" "[I"] ++ wsX20)
def wsX3_init : List Cond := .code yX3_init cX3_init 1 none :: ([.methodLink RX3 3 objectInit, .instanceMethod objectInit, .code objectInit ⟨#[0xb1]⟩ 1 none, .fieldLink RX3 9 "SayingsMerged$Told" "laws" "I", .constantLong RX3 15 (-1), .fieldLink RX3 17 "SayingsMerged$Told" "there" "J", .fieldLink RX3 21 "SayingsMerged$Told" "sayers" "I", .arrayClass .long, .fieldLink RX3 24 "SayingsMerged$Told" "says" "[J", .arrayClass .int, .fieldLink RX3 28 "SayingsMerged$Told" "weights" "[I"] ++ wsX30)
def wsX3_allWeights : List Cond := .code yX3_allWeights cX3_allWeights 3 (some .int) :: ([.fieldLink RX3 21 "SayingsMerged$Told" "sayers" "I", .fieldLink RX3 28 "SayingsMerged$Told" "weights" "[I"] ++ wsX30)
def wsX3_saidByOthers : List Cond := .code yX3_saidByOthers cX3_saidByOthers 5 (some .long) :: ([.fieldLink RX3 21 "SayingsMerged$Told" "sayers" "I", .fieldLink RX3 24 "SayingsMerged$Told" "says" "[J"] ++ wsX30)
def wsX4_init_r1 : List Cond := [Cond.methodLink RX4 3 objectInit, Cond.instanceMethod objectInit, Cond.code objectInit ⟨#[0xb1]⟩ 1 none, Cond.classLink RX4 9 RX2, Cond.instantiable RX2 4, Cond.initialized RX2, Cond.fieldLink RX4 12 "SayingsMerged" "text" "LSayingsMerged$Text;", Cond.classLink RX4 16 RX1, Cond.instantiable RX1 4, Cond.initialized RX1, Cond.fieldLink RX4 21 "SayingsMerged" "reader" "LSayingsMerged$Reader;", Cond.classLink RX4 25 RX3, Cond.instantiable RX3 5, Cond.initialized RX3, Cond.fieldLink RX4 28 "SayingsMerged" "told" "LSayingsMerged$Told;", Cond.fieldLink RX4 32 "SayingsMerged" "spare" "LSayingsMerged$Told;", Cond.constantLong RX4 35 (-1), Cond.fieldLink RX4 37 "SayingsMerged" "asked" "J", Cond.classLink RX4 41 RX0, Cond.instantiable RX0 3, Cond.initialized RX0, Cond.fieldLink RX4 44 "SayingsMerged" "distances" "LSayingsMerged$Distances;", Cond.classLink RX4 48 "[[J", Cond.arrayClass .long]
def wsX4_init_r2 : List Cond := [Cond.fieldLink RX4 50 "SayingsMerged" "fars" "[[J", Cond.fieldLink RX4 53 "SayingsMerged" "common" "[J", Cond.fieldLink RX4 57 "SayingsMerged" "others" "[J", Cond.fieldLink RX4 60 "SayingsMerged" "scale" "[J", Cond.fieldLink RX4 63 "SayingsMerged" "traced" "J", Cond.methodLink RX4 11 yX2_init, Cond.instanceMethod yX2_init, Cond.code yX2_init cX2_init 1 none, Cond.methodLink RX2 3 objectInit, Cond.arrayClass .int, Cond.fieldLink RX2 9 "SayingsMerged$Text" "bytes" "[I", Cond.fieldLink RX2 15 "SayingsMerged$Text" "length" "I", Cond.fieldLink RX2 19 "SayingsMerged$Text" "tokens" "[I", Cond.fieldLink RX2 22 "SayingsMerged$Text" "places" "[I", Cond.methodLink RX4 18 yX1_init, Cond.instanceMethod yX1_init, Cond.code yX1_init cX1_init 2 none, Cond.methodLink RX1 3 objectInit, Cond.fieldLink RX1 9 "SayingsMerged$Reader" "text" "LSayingsMerged$Text;", Cond.fieldLink RX1 15 "SayingsMerged$Reader" "at" "I", Cond.fieldLink RX1 19 "SayingsMerged$Reader" "token" "I", Cond.fieldLink RX1 22 "SayingsMerged$Reader" "fault" "I", Cond.methodLink RX4 27 yX3_init, Cond.instanceMethod yX3_init]
def wsX4_init_r3 : List Cond := [Cond.code yX3_init cX3_init 1 none, Cond.methodLink RX3 3 objectInit, Cond.fieldLink RX3 9 "SayingsMerged$Told" "laws" "I", Cond.constantLong RX3 15 (-1), Cond.fieldLink RX3 17 "SayingsMerged$Told" "there" "J", Cond.fieldLink RX3 21 "SayingsMerged$Told" "sayers" "I", Cond.fieldLink RX3 24 "SayingsMerged$Told" "says" "[J", Cond.fieldLink RX3 28 "SayingsMerged$Told" "weights" "[I", Cond.methodLink RX4 43 yX0_init, Cond.instanceMethod yX0_init, Cond.code yX0_init cX0_init 2 none, Cond.methodLink RX0 3 objectInit, Cond.fieldLink RX0 9 "SayingsMerged$Distances" "costs" "[I", Cond.fieldLink RX0 21 "SayingsMerged$Distances" "alike" "Z", Cond.fieldLink RX0 25 "SayingsMerged$Distances" "lengths" "[I", Cond.methodLink RX0 15 yJ7_fill_53178, Cond.static yJ7_fill_53178, Cond.initialized RJ7, Cond.code yJ7_fill_53178 cJ7_fill_53178 4 none, Cond.methodLink RX0 28 yJ6_bitCount_0f7a4, Cond.static yJ6_bitCount_0f7a4, Cond.initialized RJ6, Cond.code yJ6_bitCount_0f7a4 cJ6_bitCount_0f7a4 1 (some .int), Cond.constant RJ6 265 (1431655765)]
def wsX4_init_r4 : List Cond := [Cond.constant RJ6 266 (858993459), Cond.constant RJ6 267 (252645135)]
def wsX4_init : List Cond := .code yX4_init cX4_init 1 none :: ((wsX4_init_r1 ++ (wsX4_init_r2 ++ (wsX4_init_r3 ++ wsX4_init_r4))) ++ wsX20 ++ wsX40 ++ wsX10 ++ wsX30 ++ wsX00)
def wsX4_type : List Cond := .code yX4_type cX4_type 5 (some .int) :: ([.fieldLink RX4 12 "SayingsMerged" "text" "LSayingsMerged$Text;", .methodLink RX4 70 yX2_append, .instanceMethod yX2_append, .selects RX2 yX2_append yX2_append, .initialized RX2, .code yX2_append cX2_append 2 none, .fieldLink RX2 15 "SayingsMerged$Text" "length" "I", .fieldLink RX2 9 "SayingsMerged$Text" "bytes" "[I"] ++ wsX40 ++ wsX20)
def wsX4_clear : List Cond := .code yX4_clear cX4_clear 2 (some .int) :: ([.fieldLink RX4 12 "SayingsMerged" "text" "LSayingsMerged$Text;"] ++ wsX40 ++ wsX20)
def wsX4_setsOfSayers : List Cond := .code yX4_setsOfSayers cX4_setsOfSayers 1 (some .int) :: ([.fieldLink RX4 28 "SayingsMerged" "told" "LSayingsMerged$Told;"] ++ wsX40 ++ wsX30)
def wsX4_findCommon : List Cond := .code yX4_findCommon cX4_findCommon 3 none :: ([.fieldLink RX4 53 "SayingsMerged" "common" "[J", .fieldLink RX4 28 "SayingsMerged" "told" "LSayingsMerged$Told;", .methodLink RX4 148 yX4_setsOfSayers, .instanceMethod yX4_setsOfSayers, .selects RX4 yX4_setsOfSayers yX4_setsOfSayers, .initialized RX4, .code yX4_setsOfSayers cX4_setsOfSayers 1 (some .int), .methodLink RX4 239 yJ6_numberOfTrailingZeros_0f7a4, .static yJ6_numberOfTrailingZeros_0f7a4, .initialized RJ6, .code yJ6_numberOfTrailingZeros_0f7a4 cJ6_numberOfTrailingZeros_0f7a4 2 (some .int), .constant RJ6 264 (65536)] ++ wsX40 ++ wsX30)
def wsX4_findFars_r1 : List Cond := [Cond.fieldLink RX4 44 "SayingsMerged" "distances" "LSayingsMerged$Distances;", Cond.fieldLink RX4 28 "SayingsMerged" "told" "LSayingsMerged$Told;", Cond.fieldLink RX4 50 "SayingsMerged" "fars" "[[J", Cond.methodLink RX4 206 yX0_findLengths, Cond.instanceMethod yX0_findLengths, Cond.selects RX0 yX0_findLengths yX0_findLengths, Cond.initialized RX0, Cond.code yX0_findLengths cX0_findLengths 3 none, Cond.fieldLink RX0 25 "SayingsMerged$Distances" "lengths" "[I", Cond.fieldLink RX0 21 "SayingsMerged$Distances" "alike" "Z", Cond.fieldLink RX0 9 "SayingsMerged$Distances" "costs" "[I", Cond.methodLink RX0 34 yJ6_numberOfTrailingZeros_0f7a4, Cond.static yJ6_numberOfTrailingZeros_0f7a4, Cond.initialized RJ6, Cond.code yJ6_numberOfTrailingZeros_0f7a4 cJ6_numberOfTrailingZeros_0f7a4 2 (some .int), Cond.constant RJ6 264 (65536), Cond.methodLink RX4 209 yX0_findFars, Cond.instanceMethod yX0_findFars, Cond.selects RX0 yX0_findFars yX0_findFars, Cond.code yX0_findFars cX0_findFars 7 none, Cond.constantLong RX0 40 (1000), Cond.methodLink RX0 37 yJ7_fill_d0a16, Cond.static yJ7_fill_d0a16, Cond.initialized RJ7]
def wsX4_findFars_r2 : List Cond := [Cond.code yJ7_fill_d0a16 cJ7_fill_d0a16 5 none, Cond.static yX4_isIn, Cond.initialized RX4, Cond.code yX4_isIn cX4_isIn 3 (some .boolean), Cond.methodLink RX0 46 yX0_spread, Cond.static yX0_spread, Cond.code yX0_spread cX0_spread 4 none, Cond.methodLink RX0 50 Lib.MathLoose.min_long.x, Cond.static Lib.MathLoose.min_long.x, Cond.initialized "java/lang/Math", Cond.code Lib.MathLoose.min_long.x Lib.MathLoose.min_long.code 4 (some .long)]
def wsX4_findFars : List Cond := .code yX4_findFars cX4_findFars 2 none :: ((wsX4_findFars_r1 ++ wsX4_findFars_r2) ++ wsX40 ++ wsX30 ++ wsX00)
def wsX4_tell_r1 : List Cond := [Cond.fieldLink RX4 21 "SayingsMerged" "reader" "LSayingsMerged$Reader;", Cond.fieldLink RX4 32 "SayingsMerged" "spare" "LSayingsMerged$Told;", Cond.fieldLink RX4 28 "SayingsMerged" "told" "LSayingsMerged$Told;", Cond.fieldLink RX4 12 "SayingsMerged" "text" "LSayingsMerged$Text;", Cond.methodLink RX4 74 yX1_readItems, Cond.instanceMethod yX1_readItems, Cond.selects RX1 yX1_readItems yX1_readItems, Cond.initialized RX1, Cond.code yX1_readItems cX1_readItems 3 none, Cond.fieldLink RX1 19 "SayingsMerged$Reader" "token" "I", Cond.methodLink RX1 25 yX3_empty, Cond.instanceMethod yX3_empty, Cond.selects RX3 yX3_empty yX3_empty, Cond.initialized RX3, Cond.code yX3_empty cX3_empty 1 none, Cond.fieldLink RX3 9 "SayingsMerged$Told" "laws" "I", Cond.constantLong RX3 15 (-1), Cond.fieldLink RX3 17 "SayingsMerged$Told" "there" "J", Cond.fieldLink RX3 21 "SayingsMerged$Told" "sayers" "I", Cond.methodLink RX1 30 yX1_begin, Cond.instanceMethod yX1_begin, Cond.selects RX1 yX1_begin yX1_begin, Cond.code yX1_begin cX1_begin 1 none, Cond.fieldLink RX1 9 "SayingsMerged$Reader" "text" "LSayingsMerged$Text;"]
def wsX4_tell_r2 : List Cond := [Cond.fieldLink RX1 15 "SayingsMerged$Reader" "at" "I", Cond.fieldLink RX1 22 "SayingsMerged$Reader" "fault" "I", Cond.methodLink RX1 99 yX2_findTokens, Cond.instanceMethod yX2_findTokens, Cond.selects RX2 yX2_findTokens yX2_findTokens, Cond.initialized RX2, Cond.code yX2_findTokens cX2_findTokens 3 none, Cond.fieldLink RX2 15 "SayingsMerged$Text" "length" "I", Cond.fieldLink RX2 19 "SayingsMerged$Text" "tokens" "[I", Cond.fieldLink RX2 22 "SayingsMerged$Text" "places" "[I", Cond.methodLink RX2 25 yX2_beginsToken, Cond.instanceMethod yX2_beginsToken, Cond.selects RX2 yX2_beginsToken yX2_beginsToken, Cond.code yX2_beginsToken cX2_beginsToken 2 (some .boolean), Cond.fieldLink RX2 9 "SayingsMerged$Text" "bytes" "[I", Cond.methodLink RX2 33 yX2_isSmall, Cond.instanceMethod yX2_isSmall, Cond.selects RX2 yX2_isSmall yX2_isSmall, Cond.code yX2_isSmall cX2_isSmall 2 (some .boolean), Cond.methodLink RX2 29 yX2_tokenAt, Cond.instanceMethod yX2_tokenAt, Cond.selects RX2 yX2_tokenAt yX2_tokenAt, Cond.code yX2_tokenAt cX2_tokenAt 2 (some .int), Cond.methodLink RX2 36 yX2_wordAt]
def wsX4_tell_r3 : List Cond := [Cond.instanceMethod yX2_wordAt, Cond.selects RX2 yX2_wordAt yX2_wordAt, Cond.code yX2_wordAt cX2_wordAt 3 (some .int), Cond.static yX4_isLetter, Cond.initialized RX4, Cond.code yX4_isLetter cX4_isLetter 1 (some .boolean), Cond.methodLink RX2 39 yX2_isSign, Cond.static yX2_isSign, Cond.code yX2_isSign cX2_isSign 1 (some .boolean), Cond.methodLink RX1 33 yX1_isFaulty, Cond.instanceMethod yX1_isFaulty, Cond.selects RX1 yX1_isFaulty yX1_isFaulty, Cond.code yX1_isFaulty cX1_isFaulty 1 (some .boolean), Cond.methodLink RX1 37 yX1_readItem, Cond.instanceMethod yX1_readItem, Cond.selects RX1 yX1_readItem yX1_readItem, Cond.code yX1_readItem cX1_readItem 3 none, Cond.methodLink RX1 52 yX1_advance, Cond.instanceMethod yX1_advance, Cond.selects RX1 yX1_advance yX1_advance, Cond.code yX1_advance cX1_advance 1 none, Cond.methodLink RX1 41 yX1_readSaying, Cond.instanceMethod yX1_readSaying, Cond.selects RX1 yX1_readSaying yX1_readSaying]
def wsX4_tell_r4 : List Cond := [Cond.code yX1_readSaying cX1_readSaying 5 (some .long), Cond.methodLink RX1 73 yX1_readBoth, Cond.instanceMethod yX1_readBoth, Cond.selects RX1 yX1_readBoth yX1_readBoth, Cond.code yX1_readBoth cX1_readBoth 5 (some .long), Cond.methodLink RX1 76 yX1_readOne, Cond.instanceMethod yX1_readOne, Cond.selects RX1 yX1_readOne yX1_readOne, Cond.code yX1_readOne cX1_readOne 5 (some .long), Cond.constantLong RX1 83 (-1), Cond.methodLink RX1 79 yX1_beginsOne, Cond.static yX1_beginsOne, Cond.code yX1_beginsOne cX1_beginsOne 2 (some .boolean), Cond.methodLink RX1 70 yX1_fail, Cond.instanceMethod yX1_fail, Cond.selects RX1 yX1_fail yX1_fail, Cond.code yX1_fail cX1_fail 1 none, Cond.methodLink RX1 45 yX1_expect, Cond.instanceMethod yX1_expect, Cond.selects RX1 yX1_expect yX1_expect, Cond.code yX1_expect cX1_expect 2 none, Cond.methodLink RX1 55 yX3_addLaw, Cond.instanceMethod yX3_addLaw, Cond.selects RX3 yX3_addLaw yX3_addLaw]
def wsX4_tell_r5 : List Cond := [Cond.code yX3_addLaw cX3_addLaw 3 none, Cond.methodLink RX1 62 yX1_readWeight, Cond.instanceMethod yX1_readWeight, Cond.selects RX1 yX1_readWeight yX1_readWeight, Cond.code yX1_readWeight cX1_readWeight 2 (some .int), Cond.methodLink RX1 66 yX3_addSayer, Cond.instanceMethod yX3_addSayer, Cond.selects RX3 yX3_addSayer yX3_addSayer, Cond.code yX3_addSayer cX3_addSayer 4 none, Cond.fieldLink RX3 28 "SayingsMerged$Told" "weights" "[I", Cond.fieldLink RX3 24 "SayingsMerged$Told" "says" "[J", Cond.methodLink RX4 78 yX1_isFaulty, Cond.methodLink RX4 85 yX4_findCommon, Cond.instanceMethod yX4_findCommon, Cond.selects RX4 yX4_findCommon yX4_findCommon, Cond.code yX4_findCommon cX4_findCommon 3 none, Cond.fieldLink RX4 53 "SayingsMerged" "common" "[J", Cond.methodLink RX4 148 yX4_setsOfSayers, Cond.instanceMethod yX4_setsOfSayers, Cond.selects RX4 yX4_setsOfSayers yX4_setsOfSayers, Cond.code yX4_setsOfSayers cX4_setsOfSayers 1 (some .int), Cond.methodLink RX4 239 yJ6_numberOfTrailingZeros_0f7a4, Cond.static yJ6_numberOfTrailingZeros_0f7a4, Cond.initialized RJ6]
def wsX4_tell_r6 : List Cond := [Cond.code yJ6_numberOfTrailingZeros_0f7a4 cJ6_numberOfTrailingZeros_0f7a4 2 (some .int), Cond.constant RJ6 264 (65536), Cond.methodLink RX4 88 yX4_findFars, Cond.instanceMethod yX4_findFars, Cond.selects RX4 yX4_findFars yX4_findFars, Cond.code yX4_findFars cX4_findFars 2 none, Cond.fieldLink RX4 44 "SayingsMerged" "distances" "LSayingsMerged$Distances;", Cond.fieldLink RX4 50 "SayingsMerged" "fars" "[[J", Cond.methodLink RX4 206 yX0_findLengths, Cond.instanceMethod yX0_findLengths, Cond.selects RX0 yX0_findLengths yX0_findLengths, Cond.initialized RX0, Cond.code yX0_findLengths cX0_findLengths 3 none, Cond.fieldLink RX0 25 "SayingsMerged$Distances" "lengths" "[I", Cond.fieldLink RX0 21 "SayingsMerged$Distances" "alike" "Z", Cond.fieldLink RX0 9 "SayingsMerged$Distances" "costs" "[I", Cond.methodLink RX0 34 yJ6_numberOfTrailingZeros_0f7a4, Cond.methodLink RX4 209 yX0_findFars, Cond.instanceMethod yX0_findFars, Cond.selects RX0 yX0_findFars yX0_findFars, Cond.code yX0_findFars cX0_findFars 7 none, Cond.constantLong RX0 40 (1000), Cond.methodLink RX0 37 yJ7_fill_d0a16, Cond.static yJ7_fill_d0a16]
def wsX4_tell_r7 : List Cond := [Cond.initialized RJ7, Cond.code yJ7_fill_d0a16 cJ7_fill_d0a16 5 none, Cond.static yX4_isIn, Cond.code yX4_isIn cX4_isIn 3 (some .boolean), Cond.methodLink RX0 46 yX0_spread, Cond.static yX0_spread, Cond.code yX0_spread cX0_spread 4 none, Cond.methodLink RX0 50 Lib.MathLoose.min_long.x, Cond.static Lib.MathLoose.min_long.x, Cond.initialized "java/lang/Math", Cond.code Lib.MathLoose.min_long.x Lib.MathLoose.min_long.code 4 (some .long)]
def wsX4_tell : List Cond := .code yX4_tell cX4_tell 2 (some .int) :: ((wsX4_tell_r1 ++ (wsX4_tell_r2 ++ (wsX4_tell_r3 ++ (wsX4_tell_r4 ++ (wsX4_tell_r5 ++ (wsX4_tell_r6 ++ wsX4_tell_r7)))))) ++ wsX40 ++ wsX10 ++ wsX20 ++ wsX30 ++ wsX00)
def wsX4_question_r1 : List Cond := [Cond.fieldLink RX4 21 "SayingsMerged" "reader" "LSayingsMerged$Reader;", Cond.fieldLink RX4 37 "SayingsMerged" "asked" "J", Cond.fieldLink RX4 12 "SayingsMerged" "text" "LSayingsMerged$Text;", Cond.methodLink RX4 97 yX1_readQuestion, Cond.instanceMethod yX1_readQuestion, Cond.selects RX1 yX1_readQuestion yX1_readQuestion, Cond.initialized RX1, Cond.code yX1_readQuestion cX1_readQuestion 3 (some .long), Cond.methodLink RX1 30 yX1_begin, Cond.instanceMethod yX1_begin, Cond.selects RX1 yX1_begin yX1_begin, Cond.code yX1_begin cX1_begin 1 none, Cond.fieldLink RX1 9 "SayingsMerged$Reader" "text" "LSayingsMerged$Text;", Cond.fieldLink RX1 15 "SayingsMerged$Reader" "at" "I", Cond.fieldLink RX1 19 "SayingsMerged$Reader" "token" "I", Cond.fieldLink RX1 22 "SayingsMerged$Reader" "fault" "I", Cond.methodLink RX1 99 yX2_findTokens, Cond.instanceMethod yX2_findTokens, Cond.selects RX2 yX2_findTokens yX2_findTokens, Cond.initialized RX2, Cond.code yX2_findTokens cX2_findTokens 3 none, Cond.fieldLink RX2 15 "SayingsMerged$Text" "length" "I", Cond.fieldLink RX2 19 "SayingsMerged$Text" "tokens" "[I", Cond.fieldLink RX2 22 "SayingsMerged$Text" "places" "[I"]
def wsX4_question_r2 : List Cond := [Cond.methodLink RX2 25 yX2_beginsToken, Cond.instanceMethod yX2_beginsToken, Cond.selects RX2 yX2_beginsToken yX2_beginsToken, Cond.code yX2_beginsToken cX2_beginsToken 2 (some .boolean), Cond.fieldLink RX2 9 "SayingsMerged$Text" "bytes" "[I", Cond.methodLink RX2 33 yX2_isSmall, Cond.instanceMethod yX2_isSmall, Cond.selects RX2 yX2_isSmall yX2_isSmall, Cond.code yX2_isSmall cX2_isSmall 2 (some .boolean), Cond.methodLink RX2 29 yX2_tokenAt, Cond.instanceMethod yX2_tokenAt, Cond.selects RX2 yX2_tokenAt yX2_tokenAt, Cond.code yX2_tokenAt cX2_tokenAt 2 (some .int), Cond.methodLink RX2 36 yX2_wordAt, Cond.instanceMethod yX2_wordAt, Cond.selects RX2 yX2_wordAt yX2_wordAt, Cond.code yX2_wordAt cX2_wordAt 3 (some .int), Cond.static yX4_isLetter, Cond.initialized RX4, Cond.code yX4_isLetter cX4_isLetter 1 (some .boolean), Cond.methodLink RX2 39 yX2_isSign, Cond.static yX2_isSign, Cond.code yX2_isSign cX2_isSign 1 (some .boolean), Cond.methodLink RX1 41 yX1_readSaying]
def wsX4_question_r3 : List Cond := [Cond.instanceMethod yX1_readSaying, Cond.selects RX1 yX1_readSaying yX1_readSaying, Cond.code yX1_readSaying cX1_readSaying 5 (some .long), Cond.methodLink RX1 73 yX1_readBoth, Cond.instanceMethod yX1_readBoth, Cond.selects RX1 yX1_readBoth yX1_readBoth, Cond.methodLink RX1 33 yX1_isFaulty, Cond.instanceMethod yX1_isFaulty, Cond.selects RX1 yX1_isFaulty yX1_isFaulty, Cond.code yX1_isFaulty cX1_isFaulty 1 (some .boolean), Cond.methodLink RX1 52 yX1_advance, Cond.instanceMethod yX1_advance, Cond.selects RX1 yX1_advance yX1_advance, Cond.code yX1_advance cX1_advance 1 none, Cond.code yX1_readBoth cX1_readBoth 5 (some .long), Cond.methodLink RX1 76 yX1_readOne, Cond.instanceMethod yX1_readOne, Cond.selects RX1 yX1_readOne yX1_readOne, Cond.code yX1_readOne cX1_readOne 5 (some .long), Cond.constantLong RX1 83 (-1), Cond.methodLink RX1 79 yX1_beginsOne, Cond.static yX1_beginsOne, Cond.code yX1_beginsOne cX1_beginsOne 2 (some .boolean), Cond.methodLink RX1 70 yX1_fail]
def wsX4_question_r4 : List Cond := [Cond.instanceMethod yX1_fail, Cond.selects RX1 yX1_fail yX1_fail, Cond.code yX1_fail cX1_fail 1 none, Cond.methodLink RX1 45 yX1_expect, Cond.instanceMethod yX1_expect, Cond.selects RX1 yX1_expect yX1_expect, Cond.code yX1_expect cX1_expect 2 none, Cond.methodLink RX4 78 yX1_isFaulty]
def wsX4_question : List Cond := .code yX4_question cX4_question 3 (some .int) :: ((wsX4_question_r1 ++ (wsX4_question_r2 ++ (wsX4_question_r3 ++ wsX4_question_r4))) ++ wsX40 ++ wsX10 ++ wsX20)
def wsX4_isSayer : List Cond := .code yX4_isSayer cX4_isSayer 2 (some .boolean) :: ([.fieldLink RX4 28 "SayingsMerged" "told" "LSayingsMerged$Told;"] ++ wsX40 ++ wsX30)
def wsX4_worlds : List Cond := .code yX4_worlds cX4_worlds 3 (some .long) :: ([.fieldLink RX4 28 "SayingsMerged" "told" "LSayingsMerged$Told;", .fieldLink RX4 37 "SayingsMerged" "asked" "J", .methodLink RX4 104 yX4_isSayer, .instanceMethod yX4_isSayer, .selects RX4 yX4_isSayer yX4_isSayer, .initialized RX4, .code yX4_isSayer cX4_isSayer 2 (some .boolean)] ++ wsX40 ++ wsX30)
def wsX4_cost_r1 : List Cond := [Cond.fieldLink RX4 44 "SayingsMerged" "distances" "LSayingsMerged$Distances;", Cond.methodLink RX4 88 yX4_findFars, Cond.instanceMethod yX4_findFars, Cond.selects RX4 yX4_findFars yX4_findFars, Cond.initialized RX4, Cond.code yX4_findFars cX4_findFars 2 none, Cond.fieldLink RX4 28 "SayingsMerged" "told" "LSayingsMerged$Told;", Cond.fieldLink RX4 50 "SayingsMerged" "fars" "[[J", Cond.methodLink RX4 206 yX0_findLengths, Cond.instanceMethod yX0_findLengths, Cond.selects RX0 yX0_findLengths yX0_findLengths, Cond.initialized RX0, Cond.code yX0_findLengths cX0_findLengths 3 none, Cond.fieldLink RX0 25 "SayingsMerged$Distances" "lengths" "[I", Cond.fieldLink RX0 21 "SayingsMerged$Distances" "alike" "Z", Cond.fieldLink RX0 9 "SayingsMerged$Distances" "costs" "[I", Cond.methodLink RX0 34 yJ6_numberOfTrailingZeros_0f7a4, Cond.static yJ6_numberOfTrailingZeros_0f7a4, Cond.initialized RJ6, Cond.code yJ6_numberOfTrailingZeros_0f7a4 cJ6_numberOfTrailingZeros_0f7a4 2 (some .int), Cond.constant RJ6 264 (65536), Cond.methodLink RX4 209 yX0_findFars, Cond.instanceMethod yX0_findFars, Cond.selects RX0 yX0_findFars yX0_findFars]
def wsX4_cost_r2 : List Cond := [Cond.code yX0_findFars cX0_findFars 7 none, Cond.constantLong RX0 40 (1000), Cond.methodLink RX0 37 yJ7_fill_d0a16, Cond.static yJ7_fill_d0a16, Cond.initialized RJ7, Cond.code yJ7_fill_d0a16 cJ7_fill_d0a16 5 none, Cond.static yX4_isIn, Cond.code yX4_isIn cX4_isIn 3 (some .boolean), Cond.methodLink RX0 46 yX0_spread, Cond.static yX0_spread, Cond.code yX0_spread cX0_spread 4 none, Cond.methodLink RX0 50 Lib.MathLoose.min_long.x, Cond.static Lib.MathLoose.min_long.x, Cond.initialized "java/lang/Math", Cond.code Lib.MathLoose.min_long.x Lib.MathLoose.min_long.code 4 (some .long)]
def wsX4_cost : List Cond := .code yX4_cost cX4_cost 4 (some .int) :: ((wsX4_cost_r1 ++ wsX4_cost_r2) ++ wsX40 ++ wsX00 ++ wsX30)
def wsX4_measure_r1 : List Cond := [Cond.fieldLink RX4 44 "SayingsMerged" "distances" "LSayingsMerged$Distances;", Cond.methodLink RX4 88 yX4_findFars, Cond.instanceMethod yX4_findFars, Cond.selects RX4 yX4_findFars yX4_findFars, Cond.initialized RX4, Cond.code yX4_findFars cX4_findFars 2 none, Cond.fieldLink RX4 28 "SayingsMerged" "told" "LSayingsMerged$Told;", Cond.fieldLink RX4 50 "SayingsMerged" "fars" "[[J", Cond.methodLink RX4 206 yX0_findLengths, Cond.instanceMethod yX0_findLengths, Cond.selects RX0 yX0_findLengths yX0_findLengths, Cond.initialized RX0, Cond.code yX0_findLengths cX0_findLengths 3 none, Cond.fieldLink RX0 25 "SayingsMerged$Distances" "lengths" "[I", Cond.fieldLink RX0 21 "SayingsMerged$Distances" "alike" "Z", Cond.fieldLink RX0 9 "SayingsMerged$Distances" "costs" "[I", Cond.methodLink RX0 34 yJ6_numberOfTrailingZeros_0f7a4, Cond.static yJ6_numberOfTrailingZeros_0f7a4, Cond.initialized RJ6, Cond.code yJ6_numberOfTrailingZeros_0f7a4 cJ6_numberOfTrailingZeros_0f7a4 2 (some .int), Cond.constant RJ6 264 (65536), Cond.methodLink RX4 209 yX0_findFars, Cond.instanceMethod yX0_findFars, Cond.selects RX0 yX0_findFars yX0_findFars]
def wsX4_measure_r2 : List Cond := [Cond.code yX0_findFars cX0_findFars 7 none, Cond.constantLong RX0 40 (1000), Cond.methodLink RX0 37 yJ7_fill_d0a16, Cond.static yJ7_fill_d0a16, Cond.initialized RJ7, Cond.code yJ7_fill_d0a16 cJ7_fill_d0a16 5 none, Cond.static yX4_isIn, Cond.code yX4_isIn cX4_isIn 3 (some .boolean), Cond.methodLink RX0 46 yX0_spread, Cond.static yX0_spread, Cond.code yX0_spread cX0_spread 4 none, Cond.methodLink RX0 50 Lib.MathLoose.min_long.x, Cond.static Lib.MathLoose.min_long.x, Cond.initialized "java/lang/Math", Cond.code Lib.MathLoose.min_long.x Lib.MathLoose.min_long.code 4 (some .long)]
def wsX4_measure : List Cond := .code yX4_measure cX4_measure 3 (some .int) :: ((wsX4_measure_r1 ++ wsX4_measure_r2) ++ wsX40 ++ wsX00 ++ wsX30)
def wsX4_isWorld : List Cond := .code yX4_isWorld cX4_isWorld 1 (some .boolean) :: ([])
def wsX4_apart : List Cond := .code yX4_apart cX4_apart 3 (some .int) :: ([.fieldLink RX4 44 "SayingsMerged" "distances" "LSayingsMerged$Distances;", .methodLink RX4 119 yX4_isWorld, .static yX4_isWorld, .initialized RX4, .code yX4_isWorld cX4_isWorld 1 (some .boolean)] ++ wsX40 ++ wsX00)
def wsX4_burdenOf : List Cond := .code yX4_burdenOf cX4_burdenOf 3 (some .long) :: ([.fieldLink RX4 28 "SayingsMerged" "told" "LSayingsMerged$Told;", .fieldLink RX4 50 "SayingsMerged" "fars" "[[J"] ++ wsX40 ++ wsX30)
def wsX4_burden : List Cond := .code yX4_burden cX4_burden 3 (some .int) :: ([.methodLink RX4 104 yX4_isSayer, .instanceMethod yX4_isSayer, .selects RX4 yX4_isSayer yX4_isSayer, .initialized RX4, .code yX4_isSayer cX4_isSayer 2 (some .boolean), .fieldLink RX4 28 "SayingsMerged" "told" "LSayingsMerged$Told;", .methodLink RX4 119 yX4_isWorld, .static yX4_isWorld, .code yX4_isWorld cX4_isWorld 1 (some .boolean), .methodLink RX4 125 yX4_burdenOf, .instanceMethod yX4_burdenOf, .selects RX4 yX4_burdenOf yX4_burdenOf, .code yX4_burdenOf cX4_burdenOf 3 (some .long), .fieldLink RX4 50 "SayingsMerged" "fars" "[[J"] ++ wsX40 ++ wsX30)
def wsX4_isWay : List Cond := .code yX4_isWay cX4_isWay 1 (some .boolean) :: ([])
def wsX4_putIntoRow : List Cond := .code yX4_putIntoRow cX4_putIntoRow 9 (some .long) :: ([.constantLong RX4 233 (511)])
def wsX4_joined : List Cond := .code yX4_joined cX4_joined 5 (some .long) :: ([.methodLink RX4 225 Lib.MathLoose.max_long.x, .static Lib.MathLoose.max_long.x, .initialized "java/lang/Math", .code Lib.MathLoose.max_long.x Lib.MathLoose.max_long.code 4 (some .long), .methodLink RX4 230 yX4_putIntoRow, .static yX4_putIntoRow, .initialized RX4, .code yX4_putIntoRow cX4_putIntoRow 9 (some .long), .constantLong RX4 233 (511)])
def wsX4_weighed : List Cond := .code yX4_weighed cX4_weighed 7 (some .long) :: ([.fieldLink RX4 28 "SayingsMerged" "told" "LSayingsMerged$Told;", .methodLink RX4 125 yX4_burdenOf, .instanceMethod yX4_burdenOf, .selects RX4 yX4_burdenOf yX4_burdenOf, .initialized RX4, .code yX4_burdenOf cX4_burdenOf 3 (some .long), .fieldLink RX4 50 "SayingsMerged" "fars" "[[J", .methodLink RX4 221 yX4_joined, .static yX4_joined, .code yX4_joined cX4_joined 5 (some .long), .methodLink RX4 225 Lib.MathLoose.max_long.x, .static Lib.MathLoose.max_long.x, .initialized "java/lang/Math", .code Lib.MathLoose.max_long.x Lib.MathLoose.max_long.code 4 (some .long), .methodLink RX4 230 yX4_putIntoRow, .static yX4_putIntoRow, .code yX4_putIntoRow cX4_putIntoRow 9 (some .long), .constantLong RX4 233 (511)] ++ wsX40 ++ wsX30)
def wsX4_least : List Cond := .code yX4_least cX4_least 8 (some .long) :: ([.constantLong RX4 215 (9223372036854775807), .methodLink RX4 217 yX4_isIn, .static yX4_isIn, .initialized RX4, .code yX4_isIn cX4_isIn 3 (some .boolean)])
def wsX4_mergedBy_r1 : List Cond := [Cond.fieldLink RX4 60 "SayingsMerged" "scale" "[J", Cond.fieldLink RX4 28 "SayingsMerged" "told" "LSayingsMerged$Told;", Cond.methodLink RX4 136 yX4_weighed, Cond.instanceMethod yX4_weighed, Cond.selects RX4 yX4_weighed yX4_weighed, Cond.initialized RX4, Cond.code yX4_weighed cX4_weighed 7 (some .long), Cond.methodLink RX4 125 yX4_burdenOf, Cond.instanceMethod yX4_burdenOf, Cond.selects RX4 yX4_burdenOf yX4_burdenOf, Cond.code yX4_burdenOf cX4_burdenOf 3 (some .long), Cond.fieldLink RX4 50 "SayingsMerged" "fars" "[[J", Cond.methodLink RX4 221 yX4_joined, Cond.static yX4_joined, Cond.code yX4_joined cX4_joined 5 (some .long), Cond.methodLink RX4 225 Lib.MathLoose.max_long.x, Cond.static Lib.MathLoose.max_long.x, Cond.initialized "java/lang/Math", Cond.code Lib.MathLoose.max_long.x Lib.MathLoose.max_long.code 4 (some .long), Cond.methodLink RX4 230 yX4_putIntoRow, Cond.static yX4_putIntoRow, Cond.code yX4_putIntoRow cX4_putIntoRow 9 (some .long), Cond.constantLong RX4 233 (511), Cond.methodLink RX4 140 yX4_least]
def wsX4_mergedBy_r2 : List Cond := [Cond.static yX4_least, Cond.code yX4_least cX4_least 8 (some .long), Cond.constantLong RX4 215 (9223372036854775807), Cond.methodLink RX4 217 yX4_isIn, Cond.static yX4_isIn, Cond.code yX4_isIn cX4_isIn 3 (some .boolean)]
def wsX4_mergedBy : List Cond := .code yX4_mergedBy cX4_mergedBy 3 (some .long) :: ((wsX4_mergedBy_r1 ++ wsX4_mergedBy_r2) ++ wsX40 ++ wsX30)
def wsX4_merged_r1 : List Cond := [Cond.methodLink RX4 129 yX4_isWay, Cond.static yX4_isWay, Cond.initialized RX4, Cond.code yX4_isWay cX4_isWay 1 (some .boolean), Cond.methodLink RX4 132 yX4_mergedBy, Cond.instanceMethod yX4_mergedBy, Cond.selects RX4 yX4_mergedBy yX4_mergedBy, Cond.code yX4_mergedBy cX4_mergedBy 3 (some .long), Cond.fieldLink RX4 60 "SayingsMerged" "scale" "[J", Cond.fieldLink RX4 28 "SayingsMerged" "told" "LSayingsMerged$Told;", Cond.methodLink RX4 136 yX4_weighed, Cond.instanceMethod yX4_weighed, Cond.selects RX4 yX4_weighed yX4_weighed, Cond.code yX4_weighed cX4_weighed 7 (some .long), Cond.methodLink RX4 125 yX4_burdenOf, Cond.instanceMethod yX4_burdenOf, Cond.selects RX4 yX4_burdenOf yX4_burdenOf, Cond.code yX4_burdenOf cX4_burdenOf 3 (some .long), Cond.fieldLink RX4 50 "SayingsMerged" "fars" "[[J", Cond.methodLink RX4 221 yX4_joined, Cond.static yX4_joined, Cond.code yX4_joined cX4_joined 5 (some .long), Cond.methodLink RX4 225 Lib.MathLoose.max_long.x, Cond.static Lib.MathLoose.max_long.x]
def wsX4_merged_r2 : List Cond := [Cond.initialized "java/lang/Math", Cond.code Lib.MathLoose.max_long.x Lib.MathLoose.max_long.code 4 (some .long), Cond.methodLink RX4 230 yX4_putIntoRow, Cond.static yX4_putIntoRow, Cond.code yX4_putIntoRow cX4_putIntoRow 9 (some .long), Cond.constantLong RX4 233 (511), Cond.methodLink RX4 140 yX4_least, Cond.static yX4_least, Cond.code yX4_least cX4_least 8 (some .long), Cond.constantLong RX4 215 (9223372036854775807), Cond.methodLink RX4 217 yX4_isIn, Cond.static yX4_isIn, Cond.code yX4_isIn cX4_isIn 3 (some .boolean)]
def wsX4_merged : List Cond := .code yX4_merged cX4_merged 2 (some .long) :: ((wsX4_merged_r1 ++ wsX4_merged_r2) ++ wsX40 ++ wsX30)
def wsX4_value_r1 : List Cond := [Cond.methodLink RX4 119 yX4_isWorld, Cond.static yX4_isWorld, Cond.initialized RX4, Cond.code yX4_isWorld cX4_isWorld 1 (some .boolean), Cond.methodLink RX4 136 yX4_weighed, Cond.instanceMethod yX4_weighed, Cond.selects RX4 yX4_weighed yX4_weighed, Cond.code yX4_weighed cX4_weighed 7 (some .long), Cond.fieldLink RX4 28 "SayingsMerged" "told" "LSayingsMerged$Told;", Cond.methodLink RX4 125 yX4_burdenOf, Cond.instanceMethod yX4_burdenOf, Cond.selects RX4 yX4_burdenOf yX4_burdenOf, Cond.code yX4_burdenOf cX4_burdenOf 3 (some .long), Cond.fieldLink RX4 50 "SayingsMerged" "fars" "[[J", Cond.methodLink RX4 221 yX4_joined, Cond.static yX4_joined, Cond.code yX4_joined cX4_joined 5 (some .long), Cond.methodLink RX4 225 Lib.MathLoose.max_long.x, Cond.static Lib.MathLoose.max_long.x, Cond.initialized "java/lang/Math", Cond.code Lib.MathLoose.max_long.x Lib.MathLoose.max_long.code 4 (some .long), Cond.methodLink RX4 230 yX4_putIntoRow, Cond.static yX4_putIntoRow, Cond.code yX4_putIntoRow cX4_putIntoRow 9 (some .long)]
def wsX4_value_r2 : List Cond := [Cond.constantLong RX4 233 (511)]
def wsX4_value : List Cond := .code yX4_value cX4_value 3 (some .int) :: ((wsX4_value_r1 ++ wsX4_value_r2) ++ wsX40 ++ wsX30)
def wsX4_held_r1 : List Cond := [Cond.fieldLink RX4 37 "SayingsMerged" "asked" "J", Cond.constantLong RX4 35 (-1), Cond.methodLink RX4 129 yX4_isWay, Cond.static yX4_isWay, Cond.initialized RX4, Cond.code yX4_isWay cX4_isWay 1 (some .boolean), Cond.methodLink RX4 132 yX4_mergedBy, Cond.instanceMethod yX4_mergedBy, Cond.selects RX4 yX4_mergedBy yX4_mergedBy, Cond.code yX4_mergedBy cX4_mergedBy 3 (some .long), Cond.fieldLink RX4 60 "SayingsMerged" "scale" "[J", Cond.fieldLink RX4 28 "SayingsMerged" "told" "LSayingsMerged$Told;", Cond.methodLink RX4 136 yX4_weighed, Cond.instanceMethod yX4_weighed, Cond.selects RX4 yX4_weighed yX4_weighed, Cond.code yX4_weighed cX4_weighed 7 (some .long), Cond.methodLink RX4 125 yX4_burdenOf, Cond.instanceMethod yX4_burdenOf, Cond.selects RX4 yX4_burdenOf yX4_burdenOf, Cond.code yX4_burdenOf cX4_burdenOf 3 (some .long), Cond.fieldLink RX4 50 "SayingsMerged" "fars" "[[J", Cond.methodLink RX4 221 yX4_joined, Cond.static yX4_joined, Cond.code yX4_joined cX4_joined 5 (some .long)]
def wsX4_held_r2 : List Cond := [Cond.methodLink RX4 225 Lib.MathLoose.max_long.x, Cond.static Lib.MathLoose.max_long.x, Cond.initialized "java/lang/Math", Cond.code Lib.MathLoose.max_long.x Lib.MathLoose.max_long.code 4 (some .long), Cond.methodLink RX4 230 yX4_putIntoRow, Cond.static yX4_putIntoRow, Cond.code yX4_putIntoRow cX4_putIntoRow 9 (some .long), Cond.constantLong RX4 233 (511), Cond.methodLink RX4 140 yX4_least, Cond.static yX4_least, Cond.code yX4_least cX4_least 8 (some .long), Cond.constantLong RX4 215 (9223372036854775807), Cond.methodLink RX4 217 yX4_isIn, Cond.static yX4_isIn, Cond.code yX4_isIn cX4_isIn 3 (some .boolean)]
def wsX4_held : List Cond := .code yX4_held cX4_held 2 (some .int) :: ((wsX4_held_r1 ++ wsX4_held_r2) ++ wsX40 ++ wsX30)
def wsX4_goneAlong : List Cond := .code yX4_goneAlong cX4_goneAlong 9 (some .long) :: ([.fieldLink RX4 60 "SayingsMerged" "scale" "[J", .fieldLink RX4 44 "SayingsMerged" "distances" "LSayingsMerged$Distances;", .methodLink RX4 217 yX4_isIn, .static yX4_isIn, .initialized RX4, .code yX4_isIn cX4_isIn 3 (some .boolean), .methodLink RX4 140 yX4_least, .static yX4_least, .code yX4_least cX4_least 8 (some .long), .constantLong RX4 215 (9223372036854775807)] ++ wsX40 ++ wsX00)
def wsX4_changed : List Cond := .code yX4_changed cX4_changed 3 (some .long) :: ([.fieldLink RX4 28 "SayingsMerged" "told" "LSayingsMerged$Told;", .fieldLink RX4 37 "SayingsMerged" "asked" "J", .fieldLink RX4 50 "SayingsMerged" "fars" "[[J", .constantLong RX4 35 (-1), .methodLink RX4 104 yX4_isSayer, .instanceMethod yX4_isSayer, .selects RX4 yX4_isSayer yX4_isSayer, .initialized RX4, .code yX4_isSayer cX4_isSayer 2 (some .boolean), .methodLink RX4 140 yX4_least, .static yX4_least, .code yX4_least cX4_least 8 (some .long), .constantLong RX4 215 (9223372036854775807), .methodLink RX4 217 yX4_isIn, .static yX4_isIn, .code yX4_isIn cX4_isIn 3 (some .boolean), .methodLink RX4 144 yX4_goneAlong, .instanceMethod yX4_goneAlong, .selects RX4 yX4_goneAlong yX4_goneAlong, .code yX4_goneAlong cX4_goneAlong 9 (some .long), .fieldLink RX4 60 "SayingsMerged" "scale" "[J", .fieldLink RX4 44 "SayingsMerged" "distances" "LSayingsMerged$Distances;"] ++ wsX40 ++ wsX30 ++ wsX00)
def wsX4_isQuarrel : List Cond := .code yX4_isQuarrel cX4_isQuarrel 2 (some .boolean) :: ([.fieldLink RX4 53 "SayingsMerged" "common" "[J"] ++ wsX40)
def wsX4_quarrels : List Cond := .code yX4_quarrels cX4_quarrels 2 (some .int) :: ([.methodLink RX4 148 yX4_setsOfSayers, .instanceMethod yX4_setsOfSayers, .selects RX4 yX4_setsOfSayers yX4_setsOfSayers, .initialized RX4, .code yX4_setsOfSayers cX4_setsOfSayers 1 (some .int), .fieldLink RX4 28 "SayingsMerged" "told" "LSayingsMerged$Told;", .methodLink RX4 152 yX4_isQuarrel, .instanceMethod yX4_isQuarrel, .selects RX4 yX4_isQuarrel yX4_isQuarrel, .code yX4_isQuarrel cX4_isQuarrel 2 (some .boolean), .fieldLink RX4 53 "SayingsMerged" "common" "[J"] ++ wsX40 ++ wsX30)
def wsX4_isLeastQuarrel : List Cond := .code yX4_isLeastQuarrel cX4_isLeastQuarrel 3 (some .boolean) :: ([.fieldLink RX4 28 "SayingsMerged" "told" "LSayingsMerged$Told;", .methodLink RX4 152 yX4_isQuarrel, .instanceMethod yX4_isQuarrel, .selects RX4 yX4_isQuarrel yX4_isQuarrel, .initialized RX4, .code yX4_isQuarrel cX4_isQuarrel 2 (some .boolean), .fieldLink RX4 53 "SayingsMerged" "common" "[J"] ++ wsX40 ++ wsX30)
def wsX4_isGreatestAgreed : List Cond := .code yX4_isGreatestAgreed cX4_isGreatestAgreed 3 (some .boolean) :: ([.fieldLink RX4 28 "SayingsMerged" "told" "LSayingsMerged$Told;", .methodLink RX4 152 yX4_isQuarrel, .instanceMethod yX4_isQuarrel, .selects RX4 yX4_isQuarrel yX4_isQuarrel, .initialized RX4, .code yX4_isQuarrel cX4_isQuarrel 2 (some .boolean), .fieldLink RX4 53 "SayingsMerged" "common" "[J"] ++ wsX40 ++ wsX30)
def wsX4_isListed : List Cond := .code yX4_isListed cX4_isListed 3 (some .boolean) :: ([.methodLink RX4 165 yX4_isLeastQuarrel, .instanceMethod yX4_isLeastQuarrel, .selects RX4 yX4_isLeastQuarrel yX4_isLeastQuarrel, .initialized RX4, .code yX4_isLeastQuarrel cX4_isLeastQuarrel 3 (some .boolean), .fieldLink RX4 28 "SayingsMerged" "told" "LSayingsMerged$Told;", .methodLink RX4 152 yX4_isQuarrel, .instanceMethod yX4_isQuarrel, .selects RX4 yX4_isQuarrel yX4_isQuarrel, .code yX4_isQuarrel cX4_isQuarrel 2 (some .boolean), .fieldLink RX4 53 "SayingsMerged" "common" "[J", .methodLink RX4 242 yX4_isGreatestAgreed, .instanceMethod yX4_isGreatestAgreed, .selects RX4 yX4_isGreatestAgreed yX4_isGreatestAgreed, .code yX4_isGreatestAgreed cX4_isGreatestAgreed 3 (some .boolean)] ++ wsX40 ++ wsX30)
def wsX4_sets_r1 : List Cond := [Cond.fieldLink RX4 28 "SayingsMerged" "told" "LSayingsMerged$Told;", Cond.methodLink RX4 148 yX4_setsOfSayers, Cond.instanceMethod yX4_setsOfSayers, Cond.selects RX4 yX4_setsOfSayers yX4_setsOfSayers, Cond.initialized RX4, Cond.code yX4_setsOfSayers cX4_setsOfSayers 1 (some .int), Cond.methodLink RX4 155 yJ6_bitCount_0f7a4, Cond.static yJ6_bitCount_0f7a4, Cond.initialized RJ6, Cond.code yJ6_bitCount_0f7a4 cJ6_bitCount_0f7a4 1 (some .int), Cond.constant RJ6 265 (1431655765), Cond.constant RJ6 266 (858993459), Cond.constant RJ6 267 (252645135), Cond.methodLink RX4 161 yX4_isListed, Cond.instanceMethod yX4_isListed, Cond.selects RX4 yX4_isListed yX4_isListed, Cond.code yX4_isListed cX4_isListed 3 (some .boolean), Cond.methodLink RX4 165 yX4_isLeastQuarrel, Cond.instanceMethod yX4_isLeastQuarrel, Cond.selects RX4 yX4_isLeastQuarrel yX4_isLeastQuarrel, Cond.code yX4_isLeastQuarrel cX4_isLeastQuarrel 3 (some .boolean), Cond.methodLink RX4 152 yX4_isQuarrel, Cond.instanceMethod yX4_isQuarrel, Cond.selects RX4 yX4_isQuarrel yX4_isQuarrel]
def wsX4_sets_r2 : List Cond := [Cond.code yX4_isQuarrel cX4_isQuarrel 2 (some .boolean), Cond.fieldLink RX4 53 "SayingsMerged" "common" "[J", Cond.methodLink RX4 242 yX4_isGreatestAgreed, Cond.instanceMethod yX4_isGreatestAgreed, Cond.selects RX4 yX4_isGreatestAgreed yX4_isGreatestAgreed, Cond.code yX4_isGreatestAgreed cX4_isGreatestAgreed 3 (some .boolean)]
def wsX4_sets : List Cond := .code yX4_sets cX4_sets 7 (some .int) :: ((wsX4_sets_r1 ++ wsX4_sets_r2) ++ wsX40 ++ wsX30)
def wsX4_free : List Cond := .code yX4_free cX4_free 3 (some .int) :: ([.methodLink RX4 148 yX4_setsOfSayers, .instanceMethod yX4_setsOfSayers, .selects RX4 yX4_setsOfSayers yX4_setsOfSayers, .initialized RX4, .code yX4_setsOfSayers cX4_setsOfSayers 1 (some .int), .fieldLink RX4 28 "SayingsMerged" "told" "LSayingsMerged$Told;", .methodLink RX4 165 yX4_isLeastQuarrel, .instanceMethod yX4_isLeastQuarrel, .selects RX4 yX4_isLeastQuarrel yX4_isLeastQuarrel, .code yX4_isLeastQuarrel cX4_isLeastQuarrel 3 (some .boolean), .methodLink RX4 152 yX4_isQuarrel, .instanceMethod yX4_isQuarrel, .selects RX4 yX4_isQuarrel yX4_isQuarrel, .code yX4_isQuarrel cX4_isQuarrel 2 (some .boolean), .fieldLink RX4 53 "SayingsMerged" "common" "[J"] ++ wsX40 ++ wsX30)
def wsX4_ordersTurnedBy : List Cond := .code yX4_ordersTurnedBy cX4_ordersTurnedBy 5 (some .int) :: ([.fieldLink RX4 171 "SayingsMerged" "ORDERS" "[I", .fieldLink RX4 28 "SayingsMerged" "told" "LSayingsMerged$Told;", .methodLink RX4 148 yX4_setsOfSayers, .instanceMethod yX4_setsOfSayers, .selects RX4 yX4_setsOfSayers yX4_setsOfSayers, .initialized RX4, .code yX4_setsOfSayers cX4_setsOfSayers 1 (some .int), .methodLink RX4 152 yX4_isQuarrel, .instanceMethod yX4_isQuarrel, .selects RX4 yX4_isQuarrel yX4_isQuarrel, .code yX4_isQuarrel cX4_isQuarrel 2 (some .boolean), .fieldLink RX4 53 "SayingsMerged" "common" "[J", .methodLink RX4 155 yJ6_bitCount_0f7a4, .static yJ6_bitCount_0f7a4, .initialized RJ6, .code yJ6_bitCount_0f7a4 cJ6_bitCount_0f7a4 1 (some .int), .constant RJ6 265 (1431655765), .constant RJ6 266 (858993459), .constant RJ6 267 (252645135)] ++ wsX40 ++ wsX30)
def wsX4_commonDivisor : List Cond := .code yX4_commonDivisor cX4_commonDivisor 6 (some .int) :: ([])
def wsX4_share_r1 : List Cond := [Cond.fieldLink RX4 171 "SayingsMerged" "ORDERS" "[I", Cond.fieldLink RX4 28 "SayingsMerged" "told" "LSayingsMerged$Told;", Cond.methodLink RX4 104 yX4_isSayer, Cond.instanceMethod yX4_isSayer, Cond.selects RX4 yX4_isSayer yX4_isSayer, Cond.initialized RX4, Cond.code yX4_isSayer cX4_isSayer 2 (some .boolean), Cond.methodLink RX4 168 yX4_ordersTurnedBy, Cond.instanceMethod yX4_ordersTurnedBy, Cond.selects RX4 yX4_ordersTurnedBy yX4_ordersTurnedBy, Cond.code yX4_ordersTurnedBy cX4_ordersTurnedBy 5 (some .int), Cond.methodLink RX4 148 yX4_setsOfSayers, Cond.instanceMethod yX4_setsOfSayers, Cond.selects RX4 yX4_setsOfSayers yX4_setsOfSayers, Cond.code yX4_setsOfSayers cX4_setsOfSayers 1 (some .int), Cond.methodLink RX4 152 yX4_isQuarrel, Cond.instanceMethod yX4_isQuarrel, Cond.selects RX4 yX4_isQuarrel yX4_isQuarrel, Cond.code yX4_isQuarrel cX4_isQuarrel 2 (some .boolean), Cond.fieldLink RX4 53 "SayingsMerged" "common" "[J", Cond.methodLink RX4 155 yJ6_bitCount_0f7a4, Cond.static yJ6_bitCount_0f7a4, Cond.initialized RJ6, Cond.code yJ6_bitCount_0f7a4 cJ6_bitCount_0f7a4 1 (some .int)]
def wsX4_share_r2 : List Cond := [Cond.constant RJ6 265 (1431655765), Cond.constant RJ6 266 (858993459), Cond.constant RJ6 267 (252645135), Cond.methodLink RX4 174 yX4_commonDivisor, Cond.static yX4_commonDivisor, Cond.code yX4_commonDivisor cX4_commonDivisor 6 (some .int)]
def wsX4_share : List Cond := .code yX4_share cX4_share 6 (some .int) :: ((wsX4_share_r1 ++ wsX4_share_r2) ++ wsX40 ++ wsX30)
def wsX4_lossOf : List Cond := .code yX4_lossOf cX4_lossOf 7 (some .long) :: ([.fieldLink RX4 50 "SayingsMerged" "fars" "[[J", .methodLink RX4 225 Lib.MathLoose.max_long.x, .static Lib.MathLoose.max_long.x, .initialized "java/lang/Math", .code Lib.MathLoose.max_long.x Lib.MathLoose.max_long.code 4 (some .long), .methodLink RX4 217 yX4_isIn, .static yX4_isIn, .initialized RX4, .code yX4_isIn cX4_isIn 3 (some .boolean)] ++ wsX40)
def wsX4_mergedWithTerm : List Cond := .code yX4_mergedWithTerm cX4_mergedWithTerm 7 (some .long) :: ([.fieldLink RX4 60 "SayingsMerged" "scale" "[J", .fieldLink RX4 57 "SayingsMerged" "others" "[J", .fieldLink RX4 44 "SayingsMerged" "distances" "LSayingsMerged$Distances;", .fieldLink RX4 28 "SayingsMerged" "told" "LSayingsMerged$Told;", .methodLink RX4 221 yX4_joined, .static yX4_joined, .initialized RX4, .code yX4_joined cX4_joined 5 (some .long), .methodLink RX4 225 Lib.MathLoose.max_long.x, .static Lib.MathLoose.max_long.x, .initialized "java/lang/Math", .code Lib.MathLoose.max_long.x Lib.MathLoose.max_long.code 4 (some .long), .methodLink RX4 230 yX4_putIntoRow, .static yX4_putIntoRow, .code yX4_putIntoRow cX4_putIntoRow 9 (some .long), .constantLong RX4 233 (511), .methodLink RX4 140 yX4_least, .static yX4_least, .code yX4_least cX4_least 8 (some .long), .constantLong RX4 215 (9223372036854775807), .methodLink RX4 217 yX4_isIn, .static yX4_isIn, .code yX4_isIn cX4_isIn 3 (some .boolean)] ++ wsX40 ++ wsX00 ++ wsX30)
def wsX4_bestLie_r1 : List Cond := [Cond.fieldLink RX4 57 "SayingsMerged" "others" "[J", Cond.fieldLink RX4 28 "SayingsMerged" "told" "LSayingsMerged$Told;", Cond.methodLink RX4 136 yX4_weighed, Cond.instanceMethod yX4_weighed, Cond.selects RX4 yX4_weighed yX4_weighed, Cond.initialized RX4, Cond.code yX4_weighed cX4_weighed 7 (some .long), Cond.methodLink RX4 125 yX4_burdenOf, Cond.instanceMethod yX4_burdenOf, Cond.selects RX4 yX4_burdenOf yX4_burdenOf, Cond.code yX4_burdenOf cX4_burdenOf 3 (some .long), Cond.fieldLink RX4 50 "SayingsMerged" "fars" "[[J", Cond.methodLink RX4 221 yX4_joined, Cond.static yX4_joined, Cond.code yX4_joined cX4_joined 5 (some .long), Cond.methodLink RX4 225 Lib.MathLoose.max_long.x, Cond.static Lib.MathLoose.max_long.x, Cond.initialized "java/lang/Math", Cond.code Lib.MathLoose.max_long.x Lib.MathLoose.max_long.code 4 (some .long), Cond.methodLink RX4 230 yX4_putIntoRow, Cond.static yX4_putIntoRow, Cond.code yX4_putIntoRow cX4_putIntoRow 9 (some .long), Cond.constantLong RX4 233 (511), Cond.methodLink RX4 235 yX4_mergedWithTerm]
def wsX4_bestLie_r2 : List Cond := [Cond.instanceMethod yX4_mergedWithTerm, Cond.selects RX4 yX4_mergedWithTerm yX4_mergedWithTerm, Cond.code yX4_mergedWithTerm cX4_mergedWithTerm 7 (some .long), Cond.fieldLink RX4 60 "SayingsMerged" "scale" "[J", Cond.fieldLink RX4 44 "SayingsMerged" "distances" "LSayingsMerged$Distances;", Cond.methodLink RX4 140 yX4_least, Cond.static yX4_least, Cond.code yX4_least cX4_least 8 (some .long), Cond.constantLong RX4 215 (9223372036854775807), Cond.methodLink RX4 217 yX4_isIn, Cond.static yX4_isIn, Cond.code yX4_isIn cX4_isIn 3 (some .boolean), Cond.methodLink RX4 178 yX4_lossOf, Cond.instanceMethod yX4_lossOf, Cond.selects RX4 yX4_lossOf yX4_lossOf, Cond.code yX4_lossOf cX4_lossOf 7 (some .long)]
def wsX4_bestLie : List Cond := .code yX4_bestLie cX4_bestLie 15 (some .int) :: ((wsX4_bestLie_r1 ++ wsX4_bestLie_r2) ++ wsX40 ++ wsX30 ++ wsX00)
def wsX4_lie_r1 : List Cond := [Cond.methodLink RX4 104 yX4_isSayer, Cond.instanceMethod yX4_isSayer, Cond.selects RX4 yX4_isSayer yX4_isSayer, Cond.initialized RX4, Cond.code yX4_isSayer cX4_isSayer 2 (some .boolean), Cond.fieldLink RX4 28 "SayingsMerged" "told" "LSayingsMerged$Told;", Cond.methodLink RX4 129 yX4_isWay, Cond.static yX4_isWay, Cond.code yX4_isWay cX4_isWay 1 (some .boolean), Cond.methodLink RX4 132 yX4_mergedBy, Cond.instanceMethod yX4_mergedBy, Cond.selects RX4 yX4_mergedBy yX4_mergedBy, Cond.code yX4_mergedBy cX4_mergedBy 3 (some .long), Cond.fieldLink RX4 60 "SayingsMerged" "scale" "[J", Cond.methodLink RX4 136 yX4_weighed, Cond.instanceMethod yX4_weighed, Cond.selects RX4 yX4_weighed yX4_weighed, Cond.code yX4_weighed cX4_weighed 7 (some .long), Cond.methodLink RX4 125 yX4_burdenOf, Cond.instanceMethod yX4_burdenOf, Cond.selects RX4 yX4_burdenOf yX4_burdenOf, Cond.code yX4_burdenOf cX4_burdenOf 3 (some .long), Cond.fieldLink RX4 50 "SayingsMerged" "fars" "[[J", Cond.methodLink RX4 221 yX4_joined]
def wsX4_lie_r2 : List Cond := [Cond.static yX4_joined, Cond.code yX4_joined cX4_joined 5 (some .long), Cond.methodLink RX4 225 Lib.MathLoose.max_long.x, Cond.static Lib.MathLoose.max_long.x, Cond.initialized "java/lang/Math", Cond.code Lib.MathLoose.max_long.x Lib.MathLoose.max_long.code 4 (some .long), Cond.methodLink RX4 230 yX4_putIntoRow, Cond.static yX4_putIntoRow, Cond.code yX4_putIntoRow cX4_putIntoRow 9 (some .long), Cond.constantLong RX4 233 (511), Cond.methodLink RX4 140 yX4_least, Cond.static yX4_least, Cond.code yX4_least cX4_least 8 (some .long), Cond.constantLong RX4 215 (9223372036854775807), Cond.methodLink RX4 217 yX4_isIn, Cond.static yX4_isIn, Cond.code yX4_isIn cX4_isIn 3 (some .boolean), Cond.methodLink RX4 178 yX4_lossOf, Cond.instanceMethod yX4_lossOf, Cond.selects RX4 yX4_lossOf yX4_lossOf, Cond.code yX4_lossOf cX4_lossOf 7 (some .long), Cond.methodLink RX4 182 yX4_bestLie, Cond.instanceMethod yX4_bestLie, Cond.selects RX4 yX4_bestLie yX4_bestLie]
def wsX4_lie_r3 : List Cond := [Cond.code yX4_bestLie cX4_bestLie 15 (some .int), Cond.fieldLink RX4 57 "SayingsMerged" "others" "[J", Cond.methodLink RX4 235 yX4_mergedWithTerm, Cond.instanceMethod yX4_mergedWithTerm, Cond.selects RX4 yX4_mergedWithTerm yX4_mergedWithTerm, Cond.code yX4_mergedWithTerm cX4_mergedWithTerm 7 (some .long), Cond.fieldLink RX4 44 "SayingsMerged" "distances" "LSayingsMerged$Distances;"]
def wsX4_lie : List Cond := .code yX4_lie cX4_lie 6 (some .int) :: ((wsX4_lie_r1 ++ (wsX4_lie_r2 ++ wsX4_lie_r3)) ++ wsX40 ++ wsX30 ++ wsX00)
def wsJ13_bitCount_95d88 : List Cond := .code yJ13_bitCount_95d88 cJ13_bitCount_95d88 2 (some .int) :: ([.constantLong RJ13 314 (6148914691236517205), .constantLong RJ13 316 (3689348814741910323), .constantLong RJ13 318 (1085102592571150095)])
def wsX4_sayerWorth : List Cond := .code yX4_sayerWorth cX4_sayerWorth 2 (some .int) :: ([.fieldLink RX4 63 "SayingsMerged" "traced" "J", .fieldLink RX4 28 "SayingsMerged" "told" "LSayingsMerged$Told;", .methodLink RX4 201 yJ13_bitCount_95d88, .static yJ13_bitCount_95d88, .initialized RJ13, .code yJ13_bitCount_95d88 cJ13_bitCount_95d88 2 (some .int), .constantLong RJ13 314 (6148914691236517205), .constantLong RJ13 316 (3689348814741910323), .constantLong RJ13 318 (1085102592571150095)] ++ wsX40 ++ wsX30)
def wsX4_weightyWorth : List Cond := .code yX4_weightyWorth cX4_weightyWorth 2 (some .int) :: ([.fieldLink RX4 63 "SayingsMerged" "traced" "J", .constantLong RX4 245 (10), .fieldLink RX4 28 "SayingsMerged" "told" "LSayingsMerged$Told;", .methodLink RX4 186 yX4_sayerWorth, .instanceMethod yX4_sayerWorth, .selects RX4 yX4_sayerWorth yX4_sayerWorth, .initialized RX4, .code yX4_sayerWorth cX4_sayerWorth 2 (some .int), .methodLink RX4 201 yJ13_bitCount_95d88, .static yJ13_bitCount_95d88, .initialized RJ13, .code yJ13_bitCount_95d88 cJ13_bitCount_95d88 2 (some .int), .constantLong RJ13 314 (6148914691236517205), .constantLong RJ13 316 (3689348814741910323), .constantLong RJ13 318 (1085102592571150095)] ++ wsX40 ++ wsX30)
def wsX4_loneWorth : List Cond := .code yX4_loneWorth cX4_loneWorth 2 (some .int) :: ([.fieldLink RX4 63 "SayingsMerged" "traced" "J", .constantLong RX4 247 (100), .fieldLink RX4 28 "SayingsMerged" "told" "LSayingsMerged$Told;", .methodLink RX4 186 yX4_sayerWorth, .instanceMethod yX4_sayerWorth, .selects RX4 yX4_sayerWorth yX4_sayerWorth, .initialized RX4, .code yX4_sayerWorth cX4_sayerWorth 2 (some .int), .methodLink RX4 201 yJ13_bitCount_95d88, .static yJ13_bitCount_95d88, .initialized RJ13, .code yJ13_bitCount_95d88 cJ13_bitCount_95d88 2 (some .int), .constantLong RJ13 314 (6148914691236517205), .constantLong RJ13 316 (3689348814741910323), .constantLong RJ13 318 (1085102592571150095), .methodLink RX4 249 yX3_saidByOthers, .instanceMethod yX3_saidByOthers, .selects RX3 yX3_saidByOthers yX3_saidByOthers, .initialized RX3, .code yX3_saidByOthers cX3_saidByOthers 5 (some .long), .fieldLink RX3 21 "SayingsMerged$Told" "sayers" "I", .fieldLink RX3 24 "SayingsMerged$Told" "says" "[J"] ++ wsX40 ++ wsX30)
def wsX4_firmWorth_r1 : List Cond := [Cond.fieldLink RX4 63 "SayingsMerged" "traced" "J", Cond.constantLong RX4 252 (1000), Cond.methodLink RX4 189 yX4_weightyWorth, Cond.instanceMethod yX4_weightyWorth, Cond.selects RX4 yX4_weightyWorth yX4_weightyWorth, Cond.initialized RX4, Cond.code yX4_weightyWorth cX4_weightyWorth 2 (some .int), Cond.constantLong RX4 245 (10), Cond.fieldLink RX4 28 "SayingsMerged" "told" "LSayingsMerged$Told;", Cond.methodLink RX4 186 yX4_sayerWorth, Cond.instanceMethod yX4_sayerWorth, Cond.selects RX4 yX4_sayerWorth yX4_sayerWorth, Cond.code yX4_sayerWorth cX4_sayerWorth 2 (some .int), Cond.methodLink RX4 201 yJ13_bitCount_95d88, Cond.static yJ13_bitCount_95d88, Cond.initialized RJ13, Cond.code yJ13_bitCount_95d88 cJ13_bitCount_95d88 2 (some .int), Cond.constantLong RJ13 314 (6148914691236517205), Cond.constantLong RJ13 316 (3689348814741910323), Cond.constantLong RJ13 318 (1085102592571150095), Cond.methodLink RX4 132 yX4_mergedBy, Cond.instanceMethod yX4_mergedBy, Cond.selects RX4 yX4_mergedBy yX4_mergedBy, Cond.code yX4_mergedBy cX4_mergedBy 3 (some .long)]
def wsX4_firmWorth_r2 : List Cond := [Cond.fieldLink RX4 60 "SayingsMerged" "scale" "[J", Cond.methodLink RX4 136 yX4_weighed, Cond.instanceMethod yX4_weighed, Cond.selects RX4 yX4_weighed yX4_weighed, Cond.code yX4_weighed cX4_weighed 7 (some .long), Cond.methodLink RX4 125 yX4_burdenOf, Cond.instanceMethod yX4_burdenOf, Cond.selects RX4 yX4_burdenOf yX4_burdenOf, Cond.code yX4_burdenOf cX4_burdenOf 3 (some .long), Cond.fieldLink RX4 50 "SayingsMerged" "fars" "[[J", Cond.methodLink RX4 221 yX4_joined, Cond.static yX4_joined, Cond.code yX4_joined cX4_joined 5 (some .long), Cond.methodLink RX4 225 Lib.MathLoose.max_long.x, Cond.static Lib.MathLoose.max_long.x, Cond.initialized "java/lang/Math", Cond.code Lib.MathLoose.max_long.x Lib.MathLoose.max_long.code 4 (some .long), Cond.methodLink RX4 230 yX4_putIntoRow, Cond.static yX4_putIntoRow, Cond.code yX4_putIntoRow cX4_putIntoRow 9 (some .long), Cond.constantLong RX4 233 (511), Cond.methodLink RX4 140 yX4_least, Cond.static yX4_least, Cond.code yX4_least cX4_least 8 (some .long)]
def wsX4_firmWorth_r3 : List Cond := [Cond.constantLong RX4 215 (9223372036854775807), Cond.methodLink RX4 217 yX4_isIn, Cond.static yX4_isIn, Cond.code yX4_isIn cX4_isIn 3 (some .boolean)]
def wsX4_firmWorth : List Cond := .code yX4_firmWorth cX4_firmWorth 2 (some .int) :: ((wsX4_firmWorth_r1 ++ (wsX4_firmWorth_r2 ++ wsX4_firmWorth_r3)) ++ wsX40 ++ wsX30)
def wsX4_worth_r1 : List Cond := [Cond.methodLink RX4 104 yX4_isSayer, Cond.instanceMethod yX4_isSayer, Cond.selects RX4 yX4_isSayer yX4_isSayer, Cond.initialized RX4, Cond.code yX4_isSayer cX4_isSayer 2 (some .boolean), Cond.fieldLink RX4 28 "SayingsMerged" "told" "LSayingsMerged$Told;", Cond.methodLink RX4 186 yX4_sayerWorth, Cond.instanceMethod yX4_sayerWorth, Cond.selects RX4 yX4_sayerWorth yX4_sayerWorth, Cond.code yX4_sayerWorth cX4_sayerWorth 2 (some .int), Cond.fieldLink RX4 63 "SayingsMerged" "traced" "J", Cond.methodLink RX4 201 yJ13_bitCount_95d88, Cond.static yJ13_bitCount_95d88, Cond.initialized RJ13, Cond.code yJ13_bitCount_95d88 cJ13_bitCount_95d88 2 (some .int), Cond.constantLong RJ13 314 (6148914691236517205), Cond.constantLong RJ13 316 (3689348814741910323), Cond.constantLong RJ13 318 (1085102592571150095), Cond.methodLink RX4 189 yX4_weightyWorth, Cond.instanceMethod yX4_weightyWorth, Cond.selects RX4 yX4_weightyWorth yX4_weightyWorth, Cond.code yX4_weightyWorth cX4_weightyWorth 2 (some .int), Cond.constantLong RX4 245 (10), Cond.methodLink RX4 192 yX4_loneWorth]
def wsX4_worth_r2 : List Cond := [Cond.instanceMethod yX4_loneWorth, Cond.selects RX4 yX4_loneWorth yX4_loneWorth, Cond.code yX4_loneWorth cX4_loneWorth 2 (some .int), Cond.constantLong RX4 247 (100), Cond.methodLink RX4 249 yX3_saidByOthers, Cond.instanceMethod yX3_saidByOthers, Cond.selects RX3 yX3_saidByOthers yX3_saidByOthers, Cond.initialized RX3, Cond.code yX3_saidByOthers cX3_saidByOthers 5 (some .long), Cond.fieldLink RX3 21 "SayingsMerged$Told" "sayers" "I", Cond.fieldLink RX3 24 "SayingsMerged$Told" "says" "[J", Cond.methodLink RX4 195 yX4_firmWorth, Cond.instanceMethod yX4_firmWorth, Cond.selects RX4 yX4_firmWorth yX4_firmWorth, Cond.code yX4_firmWorth cX4_firmWorth 2 (some .int), Cond.constantLong RX4 252 (1000), Cond.methodLink RX4 132 yX4_mergedBy, Cond.instanceMethod yX4_mergedBy, Cond.selects RX4 yX4_mergedBy yX4_mergedBy, Cond.code yX4_mergedBy cX4_mergedBy 3 (some .long), Cond.fieldLink RX4 60 "SayingsMerged" "scale" "[J", Cond.methodLink RX4 136 yX4_weighed, Cond.instanceMethod yX4_weighed, Cond.selects RX4 yX4_weighed yX4_weighed]
def wsX4_worth_r3 : List Cond := [Cond.code yX4_weighed cX4_weighed 7 (some .long), Cond.methodLink RX4 125 yX4_burdenOf, Cond.instanceMethod yX4_burdenOf, Cond.selects RX4 yX4_burdenOf yX4_burdenOf, Cond.code yX4_burdenOf cX4_burdenOf 3 (some .long), Cond.fieldLink RX4 50 "SayingsMerged" "fars" "[[J", Cond.methodLink RX4 221 yX4_joined, Cond.static yX4_joined, Cond.code yX4_joined cX4_joined 5 (some .long), Cond.methodLink RX4 225 Lib.MathLoose.max_long.x, Cond.static Lib.MathLoose.max_long.x, Cond.initialized "java/lang/Math", Cond.code Lib.MathLoose.max_long.x Lib.MathLoose.max_long.code 4 (some .long), Cond.methodLink RX4 230 yX4_putIntoRow, Cond.static yX4_putIntoRow, Cond.code yX4_putIntoRow cX4_putIntoRow 9 (some .long), Cond.constantLong RX4 233 (511), Cond.methodLink RX4 140 yX4_least, Cond.static yX4_least, Cond.code yX4_least cX4_least 8 (some .long), Cond.constantLong RX4 215 (9223372036854775807), Cond.methodLink RX4 217 yX4_isIn, Cond.static yX4_isIn, Cond.code yX4_isIn cX4_isIn 3 (some .boolean)]
def wsX4_worth : List Cond := .code yX4_worth cX4_worth 3 (some .int) :: ((wsX4_worth_r1 ++ (wsX4_worth_r2 ++ wsX4_worth_r3)) ++ wsX40 ++ wsX30)
def wsX4_count : List Cond := .code yX4_count cX4_count 2 (some .int) :: ([.fieldLink RX4 28 "SayingsMerged" "told" "LSayingsMerged$Told;", .fieldLink RX4 12 "SayingsMerged" "text" "LSayingsMerged$Text;", .methodLink RX4 198 yX3_allWeights, .instanceMethod yX3_allWeights, .selects RX3 yX3_allWeights yX3_allWeights, .initialized RX3, .code yX3_allWeights cX3_allWeights 3 (some .int), .fieldLink RX3 21 "SayingsMerged$Told" "sayers" "I", .fieldLink RX3 28 "SayingsMerged$Told" "weights" "[I", .methodLink RX4 201 yJ13_bitCount_95d88, .static yJ13_bitCount_95d88, .initialized RJ13, .code yJ13_bitCount_95d88 cJ13_bitCount_95d88 2 (some .int), .constantLong RJ13 314 (6148914691236517205), .constantLong RJ13 316 (3689348814741910323), .constantLong RJ13 318 (1085102592571150095)] ++ wsX40 ++ wsX30 ++ wsX20)
def wsX4_trace : List Cond := .code yX4_trace cX4_trace 1 (some .long) :: ([.fieldLink RX4 63 "SayingsMerged" "traced" "J"] ++ wsX40)
def wsX5_init : List Cond := .code yX5_init cX5_init 1 none :: ([.methodLink RX5 1 objectInit, .instanceMethod objectInit, .code objectInit ⟨#[0xb1]⟩ 1 none, .arrayClass .byte, .fieldLink RX5 7 "SayingsMergedModel" "text" "[B", .constantLong RX5 13 (-1), .fieldLink RX5 15 "SayingsMergedModel" "there" "J", .fieldLink RX5 19 "SayingsMergedModel" "question" "J", .arrayClass .int, .fieldLink RX5 22 "SayingsMergedModel" "weight" "[I", .arrayClass .long, .fieldLink RX5 26 "SayingsMergedModel" "says" "[J", .fieldLink RX5 30 "SayingsMergedModel" "cost" "[I", .fieldLink RX5 33 "SayingsMergedModel" "readWeight" "[I", .fieldLink RX5 36 "SayingsMergedModel" "readSays" "[J", .fieldLink RX5 39 "SayingsMergedModel" "opened" "[I", .fieldLink RX5 42 "SayingsMergedModel" "any" "[J", .fieldLink RX5 45 "SayingsMergedModel" "all" "[J", .fieldLink RX5 48 "SayingsMergedModel" "burdens" "[I", .fieldLink RX5 51 "SayingsMergedModel" "best" "[I", .fieldLink RX5 54 "SayingsMergedModel" "own" "[I", .fieldLink RX5 57 "SayingsMergedModel" "truth" "[I"] ++ wsX50)
def wsX5_in : List Cond := .code yX5_in cX5_in 6 (some .boolean) :: ([])
def wsX5_has : List Cond := .code yX5_has cX5_has 3 (some .boolean) :: ([])
def wsX5_many : List Cond := .code yX5_many cX5_many 4 (some .int) :: ([.methodLink RX5 60 yX5_has, .static yX5_has, .initialized RX5, .code yX5_has cX5_has 3 (some .boolean)])
def wsX5_type : List Cond := .code yX5_type cX5_type 5 (some .int) :: ([.constantLong RX5 64 (8), .fieldLink RX5 70 "SayingsMergedModel" "length" "I", .fieldLink RX5 7 "SayingsMergedModel" "text" "[B", .methodLink RX5 66 yX5_in, .static yX5_in, .initialized RX5, .code yX5_in cX5_in 6 (some .boolean)] ++ wsX50)
def wsX5_clear : List Cond := .code yX5_clear cX5_clear 2 (some .int) :: ([.fieldLink RX5 70 "SayingsMergedModel" "length" "I"] ++ wsX50)
def wsX5_isLow : List Cond := .code yX5_isLow cX5_isLow 2 (some .boolean) :: ([.fieldLink RX5 70 "SayingsMergedModel" "length" "I", .fieldLink RX5 7 "SayingsMergedModel" "text" "[B", .constantLong RX5 74 (97), .constantLong RX5 76 (122), .methodLink RX5 66 yX5_in, .static yX5_in, .initialized RX5, .code yX5_in cX5_in 6 (some .boolean)] ++ wsX50)
def wsX5_isWord : List Cond := .code yX5_isWord cX5_isWord 4 (some .boolean) :: ([.fieldLink RX5 78 "SayingsMergedModel" "end" "I", .fieldLink RX5 81 "SayingsMergedModel" "begin" "I", .fieldLink RX5 7 "SayingsMergedModel" "text" "[B"] ++ wsX50)
def wsX5_token : List Cond := .code yX5_token cX5_token 3 none :: ([.fieldLink RX5 78 "SayingsMergedModel" "end" "I", .fieldLink RX5 81 "SayingsMergedModel" "begin" "I", .fieldLink RX5 70 "SayingsMergedModel" "length" "I", .fieldLink RX5 7 "SayingsMergedModel" "text" "[B", .fieldLink RX5 84 "SayingsMergedModel" "sort" "I", .constantLong RX5 95 (48), .constantLong RX5 97 (57), .methodLink RX5 87 yX5_isLow, .instanceMethod yX5_isLow, .selects RX5 yX5_isLow yX5_isLow, .initialized RX5, .code yX5_isLow cX5_isLow 2 (some .boolean), .constantLong RX5 74 (97), .constantLong RX5 76 (122), .methodLink RX5 66 yX5_in, .static yX5_in, .code yX5_in cX5_in 6 (some .boolean), .methodLink RX5 91 yX5_isWord, .instanceMethod yX5_isWord, .selects RX5 yX5_isWord yX5_isWord, .code yX5_isWord cX5_isWord 4 (some .boolean)] ++ wsX50)
def wsX5_lettered : List Cond := .code yX5_lettered cX5_lettered 4 (some .long) :: ([.methodLink RX5 60 yX5_has, .static yX5_has, .initialized RX5, .code yX5_has cX5_has 3 (some .boolean)])
def wsX5_ends : List Cond := .code yX5_ends cX5_ends 5 none :: ([.fieldLink RX5 99 "SayingsMergedModel" "open" "I", .fieldLink RX5 39 "SayingsMergedModel" "opened" "[I", .constantLong RX5 13 (-1), .fieldLink RX5 45 "SayingsMergedModel" "all" "[J", .fieldLink RX5 102 "SayingsMergedModel" "level" "I"] ++ wsX50)
def wsX5_saying_r1 : List Cond := [Cond.fieldLink RX5 99 "SayingsMergedModel" "open" "I", Cond.fieldLink RX5 102 "SayingsMergedModel" "level" "I", Cond.fieldLink RX5 42 "SayingsMergedModel" "any" "[J", Cond.fieldLink RX5 45 "SayingsMergedModel" "all" "[J", Cond.constantLong RX5 13 (-1), Cond.fieldLink RX5 84 "SayingsMergedModel" "sort" "I", Cond.constantLong RX5 74 (97), Cond.constantLong RX5 105 (102), Cond.fieldLink RX5 81 "SayingsMergedModel" "begin" "I", Cond.fieldLink RX5 39 "SayingsMergedModel" "opened" "[I", Cond.fieldLink RX5 115 "SayingsMergedModel" "said" "J", Cond.methodLink RX5 66 yX5_in, Cond.static yX5_in, Cond.initialized RX5, Cond.code yX5_in cX5_in 6 (some .boolean), Cond.methodLink RX5 107 yX5_lettered, Cond.static yX5_lettered, Cond.code yX5_lettered cX5_lettered 4 (some .long), Cond.methodLink RX5 60 yX5_has, Cond.static yX5_has, Cond.code yX5_has cX5_has 3 (some .boolean), Cond.methodLink RX5 111 yX5_ends, Cond.instanceMethod yX5_ends, Cond.selects RX5 yX5_ends yX5_ends]
def wsX5_saying_r2 : List Cond := [Cond.code yX5_ends cX5_ends 5 none, Cond.methodLink RX5 118 yX5_token, Cond.instanceMethod yX5_token, Cond.selects RX5 yX5_token yX5_token, Cond.code yX5_token cX5_token 3 none, Cond.fieldLink RX5 78 "SayingsMergedModel" "end" "I", Cond.fieldLink RX5 70 "SayingsMergedModel" "length" "I", Cond.fieldLink RX5 7 "SayingsMergedModel" "text" "[B", Cond.constantLong RX5 95 (48), Cond.constantLong RX5 97 (57), Cond.methodLink RX5 87 yX5_isLow, Cond.instanceMethod yX5_isLow, Cond.selects RX5 yX5_isLow yX5_isLow, Cond.code yX5_isLow cX5_isLow 2 (some .boolean), Cond.constantLong RX5 76 (122), Cond.methodLink RX5 91 yX5_isWord, Cond.instanceMethod yX5_isWord, Cond.selects RX5 yX5_isWord yX5_isWord, Cond.code yX5_isWord cX5_isWord 4 (some .boolean)]
def wsX5_saying : List Cond := .code yX5_saying cX5_saying 4 (some .int) :: ((wsX5_saying_r1 ++ wsX5_saying_r2) ++ wsX50)
def wsX5_fault_r1 : List Cond := [Cond.fieldLink RX5 121 "SayingsMergedModel" "readLaws" "I", Cond.fieldLink RX5 124 "SayingsMergedModel" "readSayers" "I", Cond.constantLong RX5 13 (-1), Cond.fieldLink RX5 127 "SayingsMergedModel" "readThere" "J", Cond.fieldLink RX5 78 "SayingsMergedModel" "end" "I", Cond.fieldLink RX5 84 "SayingsMergedModel" "sort" "I", Cond.fieldLink RX5 81 "SayingsMergedModel" "begin" "I", Cond.constantLong RX5 130 (49), Cond.constantLong RX5 97 (57), Cond.fieldLink RX5 33 "SayingsMergedModel" "readWeight" "[I", Cond.fieldLink RX5 115 "SayingsMergedModel" "said" "J", Cond.fieldLink RX5 36 "SayingsMergedModel" "readSays" "[J", Cond.methodLink RX5 118 yX5_token, Cond.instanceMethod yX5_token, Cond.selects RX5 yX5_token yX5_token, Cond.initialized RX5, Cond.code yX5_token cX5_token 3 none, Cond.fieldLink RX5 70 "SayingsMergedModel" "length" "I", Cond.fieldLink RX5 7 "SayingsMergedModel" "text" "[B", Cond.constantLong RX5 95 (48), Cond.methodLink RX5 87 yX5_isLow, Cond.instanceMethod yX5_isLow, Cond.selects RX5 yX5_isLow yX5_isLow, Cond.code yX5_isLow cX5_isLow 2 (some .boolean)]
def wsX5_fault_r2 : List Cond := [Cond.constantLong RX5 74 (97), Cond.constantLong RX5 76 (122), Cond.methodLink RX5 66 yX5_in, Cond.static yX5_in, Cond.code yX5_in cX5_in 6 (some .boolean), Cond.methodLink RX5 91 yX5_isWord, Cond.instanceMethod yX5_isWord, Cond.selects RX5 yX5_isWord yX5_isWord, Cond.code yX5_isWord cX5_isWord 4 (some .boolean), Cond.methodLink RX5 132 yX5_saying, Cond.instanceMethod yX5_saying, Cond.selects RX5 yX5_saying yX5_saying, Cond.code yX5_saying cX5_saying 4 (some .int), Cond.fieldLink RX5 99 "SayingsMergedModel" "open" "I", Cond.fieldLink RX5 102 "SayingsMergedModel" "level" "I", Cond.fieldLink RX5 42 "SayingsMergedModel" "any" "[J", Cond.fieldLink RX5 45 "SayingsMergedModel" "all" "[J", Cond.constantLong RX5 105 (102), Cond.fieldLink RX5 39 "SayingsMergedModel" "opened" "[I", Cond.methodLink RX5 107 yX5_lettered, Cond.static yX5_lettered, Cond.code yX5_lettered cX5_lettered 4 (some .long), Cond.methodLink RX5 60 yX5_has, Cond.static yX5_has]
def wsX5_fault_r3 : List Cond := [Cond.code yX5_has cX5_has 3 (some .boolean), Cond.methodLink RX5 111 yX5_ends, Cond.instanceMethod yX5_ends, Cond.selects RX5 yX5_ends yX5_ends, Cond.code yX5_ends cX5_ends 5 none]
def wsX5_fault : List Cond := .code yX5_fault cX5_fault 3 (some .int) :: ((wsX5_fault_r1 ++ (wsX5_fault_r2 ++ wsX5_fault_r3)) ++ wsX50)
def wsX5_tell_r1 : List Cond := [Cond.fieldLink RX5 121 "SayingsMergedModel" "readLaws" "I", Cond.fieldLink RX5 139 "SayingsMergedModel" "laws" "I", Cond.fieldLink RX5 124 "SayingsMergedModel" "readSayers" "I", Cond.fieldLink RX5 142 "SayingsMergedModel" "sayers" "I", Cond.fieldLink RX5 127 "SayingsMergedModel" "readThere" "J", Cond.fieldLink RX5 15 "SayingsMergedModel" "there" "J", Cond.fieldLink RX5 22 "SayingsMergedModel" "weight" "[I", Cond.fieldLink RX5 33 "SayingsMergedModel" "readWeight" "[I", Cond.fieldLink RX5 26 "SayingsMergedModel" "says" "[J", Cond.fieldLink RX5 36 "SayingsMergedModel" "readSays" "[J", Cond.fieldLink RX5 70 "SayingsMergedModel" "length" "I", Cond.methodLink RX5 136 yX5_fault, Cond.instanceMethod yX5_fault, Cond.selects RX5 yX5_fault yX5_fault, Cond.initialized RX5, Cond.code yX5_fault cX5_fault 3 (some .int), Cond.constantLong RX5 13 (-1), Cond.fieldLink RX5 78 "SayingsMergedModel" "end" "I", Cond.fieldLink RX5 84 "SayingsMergedModel" "sort" "I", Cond.fieldLink RX5 81 "SayingsMergedModel" "begin" "I", Cond.constantLong RX5 130 (49), Cond.constantLong RX5 97 (57), Cond.fieldLink RX5 115 "SayingsMergedModel" "said" "J", Cond.methodLink RX5 118 yX5_token]
def wsX5_tell_r2 : List Cond := [Cond.instanceMethod yX5_token, Cond.selects RX5 yX5_token yX5_token, Cond.code yX5_token cX5_token 3 none, Cond.fieldLink RX5 7 "SayingsMergedModel" "text" "[B", Cond.constantLong RX5 95 (48), Cond.methodLink RX5 87 yX5_isLow, Cond.instanceMethod yX5_isLow, Cond.selects RX5 yX5_isLow yX5_isLow, Cond.code yX5_isLow cX5_isLow 2 (some .boolean), Cond.constantLong RX5 74 (97), Cond.constantLong RX5 76 (122), Cond.methodLink RX5 66 yX5_in, Cond.static yX5_in, Cond.code yX5_in cX5_in 6 (some .boolean), Cond.methodLink RX5 91 yX5_isWord, Cond.instanceMethod yX5_isWord, Cond.selects RX5 yX5_isWord yX5_isWord, Cond.code yX5_isWord cX5_isWord 4 (some .boolean), Cond.methodLink RX5 132 yX5_saying, Cond.instanceMethod yX5_saying, Cond.selects RX5 yX5_saying yX5_saying, Cond.code yX5_saying cX5_saying 4 (some .int), Cond.fieldLink RX5 99 "SayingsMergedModel" "open" "I", Cond.fieldLink RX5 102 "SayingsMergedModel" "level" "I"]
def wsX5_tell_r3 : List Cond := [Cond.fieldLink RX5 42 "SayingsMergedModel" "any" "[J", Cond.fieldLink RX5 45 "SayingsMergedModel" "all" "[J", Cond.constantLong RX5 105 (102), Cond.fieldLink RX5 39 "SayingsMergedModel" "opened" "[I", Cond.methodLink RX5 107 yX5_lettered, Cond.static yX5_lettered, Cond.code yX5_lettered cX5_lettered 4 (some .long), Cond.methodLink RX5 60 yX5_has, Cond.static yX5_has, Cond.code yX5_has cX5_has 3 (some .boolean), Cond.methodLink RX5 111 yX5_ends, Cond.instanceMethod yX5_ends, Cond.selects RX5 yX5_ends yX5_ends, Cond.code yX5_ends cX5_ends 5 none]
def wsX5_tell : List Cond := .code yX5_tell cX5_tell 3 (some .int) :: ((wsX5_tell_r1 ++ (wsX5_tell_r2 ++ wsX5_tell_r3)) ++ wsX50)
def wsX5_question_r1 : List Cond := [Cond.fieldLink RX5 78 "SayingsMergedModel" "end" "I", Cond.fieldLink RX5 84 "SayingsMergedModel" "sort" "I", Cond.fieldLink RX5 81 "SayingsMergedModel" "begin" "I", Cond.fieldLink RX5 115 "SayingsMergedModel" "said" "J", Cond.fieldLink RX5 19 "SayingsMergedModel" "question" "J", Cond.fieldLink RX5 70 "SayingsMergedModel" "length" "I", Cond.methodLink RX5 118 yX5_token, Cond.instanceMethod yX5_token, Cond.selects RX5 yX5_token yX5_token, Cond.initialized RX5, Cond.code yX5_token cX5_token 3 none, Cond.fieldLink RX5 7 "SayingsMergedModel" "text" "[B", Cond.constantLong RX5 95 (48), Cond.constantLong RX5 97 (57), Cond.methodLink RX5 87 yX5_isLow, Cond.instanceMethod yX5_isLow, Cond.selects RX5 yX5_isLow yX5_isLow, Cond.code yX5_isLow cX5_isLow 2 (some .boolean), Cond.constantLong RX5 74 (97), Cond.constantLong RX5 76 (122), Cond.methodLink RX5 66 yX5_in, Cond.static yX5_in, Cond.code yX5_in cX5_in 6 (some .boolean), Cond.methodLink RX5 91 yX5_isWord]
def wsX5_question_r2 : List Cond := [Cond.instanceMethod yX5_isWord, Cond.selects RX5 yX5_isWord yX5_isWord, Cond.code yX5_isWord cX5_isWord 4 (some .boolean), Cond.methodLink RX5 132 yX5_saying, Cond.instanceMethod yX5_saying, Cond.selects RX5 yX5_saying yX5_saying, Cond.code yX5_saying cX5_saying 4 (some .int), Cond.fieldLink RX5 99 "SayingsMergedModel" "open" "I", Cond.fieldLink RX5 102 "SayingsMergedModel" "level" "I", Cond.fieldLink RX5 42 "SayingsMergedModel" "any" "[J", Cond.fieldLink RX5 45 "SayingsMergedModel" "all" "[J", Cond.constantLong RX5 13 (-1), Cond.constantLong RX5 105 (102), Cond.fieldLink RX5 39 "SayingsMergedModel" "opened" "[I", Cond.methodLink RX5 107 yX5_lettered, Cond.static yX5_lettered, Cond.code yX5_lettered cX5_lettered 4 (some .long), Cond.methodLink RX5 60 yX5_has, Cond.static yX5_has, Cond.code yX5_has cX5_has 3 (some .boolean), Cond.methodLink RX5 111 yX5_ends, Cond.instanceMethod yX5_ends, Cond.selects RX5 yX5_ends yX5_ends, Cond.code yX5_ends cX5_ends 5 none]
def wsX5_question : List Cond := .code yX5_question cX5_question 2 (some .int) :: ((wsX5_question_r1 ++ wsX5_question_r2) ++ wsX50)
def wsX5_isSayer : List Cond := .code yX5_isSayer cX5_isSayer 2 (some .boolean) :: ([.fieldLink RX5 142 "SayingsMergedModel" "sayers" "I", .methodLink RX5 66 yX5_in, .static yX5_in, .initialized RX5, .code yX5_in cX5_in 6 (some .boolean)] ++ wsX50)
def wsX5_isWorld : List Cond := .code yX5_isWorld cX5_isWorld 1 (some .boolean) :: ([.constantLong RX5 145 (63), .methodLink RX5 66 yX5_in, .static yX5_in, .initialized RX5, .code yX5_in cX5_in 6 (some .boolean)])
def wsX5_worlds : List Cond := .code yX5_worlds cX5_worlds 3 (some .long) :: ([.fieldLink RX5 15 "SayingsMergedModel" "there" "J", .fieldLink RX5 19 "SayingsMergedModel" "question" "J", .fieldLink RX5 26 "SayingsMergedModel" "says" "[J", .methodLink RX5 147 yX5_isSayer, .instanceMethod yX5_isSayer, .selects RX5 yX5_isSayer yX5_isSayer, .initialized RX5, .code yX5_isSayer cX5_isSayer 2 (some .boolean), .fieldLink RX5 142 "SayingsMergedModel" "sayers" "I", .methodLink RX5 66 yX5_in, .static yX5_in, .code yX5_in cX5_in 6 (some .boolean)] ++ wsX50)
def wsX5_cost : List Cond := .code yX5_cost cX5_cost 4 (some .int) :: ([.constantLong RX5 150 (5), .constantLong RX5 152 (9), .fieldLink RX5 30 "SayingsMergedModel" "cost" "[I", .methodLink RX5 66 yX5_in, .static yX5_in, .initialized RX5, .code yX5_in cX5_in 6 (some .boolean)] ++ wsX50)
def wsX5_measure : List Cond := .code yX5_measure cX5_measure 3 (some .int) :: ([.fieldLink RX5 154 "SayingsMergedModel" "measure" "I", .methodLink RX5 66 yX5_in, .static yX5_in, .initialized RX5, .code yX5_in cX5_in 6 (some .boolean)] ++ wsX50)
def wsX5_apartOf : List Cond := .code yX5_apartOf cX5_apartOf 5 (some .int) :: ([.fieldLink RX5 30 "SayingsMergedModel" "cost" "[I", .fieldLink RX5 154 "SayingsMergedModel" "measure" "I", .methodLink RX5 60 yX5_has, .static yX5_has, .initialized RX5, .code yX5_has cX5_has 3 (some .boolean)] ++ wsX50)
def wsX5_apart : List Cond := .code yX5_apart cX5_apart 3 (some .int) :: ([.methodLink RX5 157 yX5_isWorld, .static yX5_isWorld, .initialized RX5, .code yX5_isWorld cX5_isWorld 1 (some .boolean), .constantLong RX5 145 (63), .methodLink RX5 66 yX5_in, .static yX5_in, .code yX5_in cX5_in 6 (some .boolean), .methodLink RX5 160 yX5_apartOf, .instanceMethod yX5_apartOf, .selects RX5 yX5_apartOf yX5_apartOf, .code yX5_apartOf cX5_apartOf 5 (some .int), .fieldLink RX5 30 "SayingsMergedModel" "cost" "[I", .fieldLink RX5 154 "SayingsMergedModel" "measure" "I", .methodLink RX5 60 yX5_has, .static yX5_has, .code yX5_has cX5_has 3 (some .boolean)] ++ wsX50)
def wsX5_farOf : List Cond := .code yX5_farOf cX5_farOf 6 (some .int) :: ([.methodLink RX5 60 yX5_has, .static yX5_has, .initialized RX5, .code yX5_has cX5_has 3 (some .boolean), .methodLink RX5 160 yX5_apartOf, .instanceMethod yX5_apartOf, .selects RX5 yX5_apartOf yX5_apartOf, .code yX5_apartOf cX5_apartOf 5 (some .int), .fieldLink RX5 30 "SayingsMergedModel" "cost" "[I", .fieldLink RX5 154 "SayingsMergedModel" "measure" "I"] ++ wsX50)
def wsX5_burden_r1 : List Cond := [Cond.fieldLink RX5 22 "SayingsMergedModel" "weight" "[I", Cond.fieldLink RX5 26 "SayingsMergedModel" "says" "[J", Cond.methodLink RX5 147 yX5_isSayer, Cond.instanceMethod yX5_isSayer, Cond.selects RX5 yX5_isSayer yX5_isSayer, Cond.initialized RX5, Cond.code yX5_isSayer cX5_isSayer 2 (some .boolean), Cond.fieldLink RX5 142 "SayingsMergedModel" "sayers" "I", Cond.methodLink RX5 66 yX5_in, Cond.static yX5_in, Cond.code yX5_in cX5_in 6 (some .boolean), Cond.methodLink RX5 157 yX5_isWorld, Cond.static yX5_isWorld, Cond.code yX5_isWorld cX5_isWorld 1 (some .boolean), Cond.constantLong RX5 145 (63), Cond.methodLink RX5 164 yX5_farOf, Cond.instanceMethod yX5_farOf, Cond.selects RX5 yX5_farOf yX5_farOf, Cond.code yX5_farOf cX5_farOf 6 (some .int), Cond.methodLink RX5 60 yX5_has, Cond.static yX5_has, Cond.code yX5_has cX5_has 3 (some .boolean), Cond.methodLink RX5 160 yX5_apartOf, Cond.instanceMethod yX5_apartOf]
def wsX5_burden_r2 : List Cond := [Cond.selects RX5 yX5_apartOf yX5_apartOf, Cond.code yX5_apartOf cX5_apartOf 5 (some .int), Cond.fieldLink RX5 30 "SayingsMergedModel" "cost" "[I", Cond.fieldLink RX5 154 "SayingsMergedModel" "measure" "I"]
def wsX5_burden : List Cond := .code yX5_burden cX5_burden 3 (some .int) :: ((wsX5_burden_r1 ++ wsX5_burden_r2) ++ wsX50)
def wsX5_lays : List Cond := .code yX5_lays cX5_lays 5 none :: ([.fieldLink RX5 48 "SayingsMergedModel" "burdens" "[I", .fieldLink RX5 22 "SayingsMergedModel" "weight" "[I", .methodLink RX5 164 yX5_farOf, .instanceMethod yX5_farOf, .selects RX5 yX5_farOf yX5_farOf, .initialized RX5, .code yX5_farOf cX5_farOf 6 (some .int), .methodLink RX5 60 yX5_has, .static yX5_has, .code yX5_has cX5_has 3 (some .boolean), .methodLink RX5 160 yX5_apartOf, .instanceMethod yX5_apartOf, .selects RX5 yX5_apartOf yX5_apartOf, .code yX5_apartOf cX5_apartOf 5 (some .int), .fieldLink RX5 30 "SayingsMergedModel" "cost" "[I", .fieldLink RX5 154 "SayingsMergedModel" "measure" "I"] ++ wsX50)
def wsX5_laysAll : List Cond := .code yX5_laysAll cX5_laysAll 2 none :: ([.fieldLink RX5 142 "SayingsMergedModel" "sayers" "I", .fieldLink RX5 26 "SayingsMergedModel" "says" "[J", .methodLink RX5 168 yX5_lays, .instanceMethod yX5_lays, .selects RX5 yX5_lays yX5_lays, .initialized RX5, .code yX5_lays cX5_lays 5 none, .fieldLink RX5 48 "SayingsMergedModel" "burdens" "[I", .fieldLink RX5 22 "SayingsMergedModel" "weight" "[I", .methodLink RX5 164 yX5_farOf, .instanceMethod yX5_farOf, .selects RX5 yX5_farOf yX5_farOf, .code yX5_farOf cX5_farOf 6 (some .int), .methodLink RX5 60 yX5_has, .static yX5_has, .code yX5_has cX5_has 3 (some .boolean), .methodLink RX5 160 yX5_apartOf, .instanceMethod yX5_apartOf, .selects RX5 yX5_apartOf yX5_apartOf, .code yX5_apartOf cX5_apartOf 5 (some .int), .fieldLink RX5 30 "SayingsMergedModel" "cost" "[I", .fieldLink RX5 154 "SayingsMergedModel" "measure" "I"] ++ wsX50)
def wsX5_sumOf : List Cond := .code yX5_sumOf cX5_sumOf 4 (some .int) :: ([.fieldLink RX5 142 "SayingsMergedModel" "sayers" "I", .fieldLink RX5 48 "SayingsMergedModel" "burdens" "[I"] ++ wsX50)
def wsX5_worstOf : List Cond := .code yX5_worstOf cX5_worstOf 4 (some .int) :: ([.fieldLink RX5 142 "SayingsMergedModel" "sayers" "I", .fieldLink RX5 48 "SayingsMergedModel" "burdens" "[I"] ++ wsX50)
def wsX5_rows : List Cond := .code yX5_rows cX5_rows 6 none :: ([.fieldLink RX5 54 "SayingsMergedModel" "own" "[I", .fieldLink RX5 142 "SayingsMergedModel" "sayers" "I", .fieldLink RX5 48 "SayingsMergedModel" "burdens" "[I", .methodLink RX5 172 yX5_sumOf, .instanceMethod yX5_sumOf, .selects RX5 yX5_sumOf yX5_sumOf, .initialized RX5, .code yX5_sumOf cX5_sumOf 4 (some .int), .methodLink RX5 176 yX5_worstOf, .instanceMethod yX5_worstOf, .selects RX5 yX5_worstOf yX5_worstOf, .code yX5_worstOf cX5_worstOf 4 (some .int)] ++ wsX50)
def wsX5_against : List Cond := .code yX5_against cX5_against 2 (some .int) :: ([.fieldLink RX5 54 "SayingsMergedModel" "own" "[I", .fieldLink RX5 51 "SayingsMergedModel" "best" "[I"] ++ wsX50)
def wsX5_mergedBy_r1 : List Cond := [Cond.fieldLink RX5 15 "SayingsMergedModel" "there" "J", Cond.fieldLink RX5 51 "SayingsMergedModel" "best" "[I", Cond.fieldLink RX5 54 "SayingsMergedModel" "own" "[I", Cond.methodLink RX5 60 yX5_has, Cond.static yX5_has, Cond.initialized RX5, Cond.code yX5_has cX5_has 3 (some .boolean), Cond.methodLink RX5 179 yX5_rows, Cond.instanceMethod yX5_rows, Cond.selects RX5 yX5_rows yX5_rows, Cond.code yX5_rows cX5_rows 6 none, Cond.fieldLink RX5 142 "SayingsMergedModel" "sayers" "I", Cond.fieldLink RX5 48 "SayingsMergedModel" "burdens" "[I", Cond.methodLink RX5 172 yX5_sumOf, Cond.instanceMethod yX5_sumOf, Cond.selects RX5 yX5_sumOf yX5_sumOf, Cond.code yX5_sumOf cX5_sumOf 4 (some .int), Cond.methodLink RX5 176 yX5_worstOf, Cond.instanceMethod yX5_worstOf, Cond.selects RX5 yX5_worstOf yX5_worstOf, Cond.code yX5_worstOf cX5_worstOf 4 (some .int), Cond.methodLink RX5 183 yX5_against, Cond.instanceMethod yX5_against, Cond.selects RX5 yX5_against yX5_against]
def wsX5_mergedBy_r2 : List Cond := [Cond.code yX5_against cX5_against 2 (some .int)]
def wsX5_mergedBy : List Cond := .code yX5_mergedBy cX5_mergedBy 7 (some .long) :: ((wsX5_mergedBy_r1 ++ wsX5_mergedBy_r2) ++ wsX50)
def wsX5_merged_r1 : List Cond := [Cond.constantLong RX5 186 (2), Cond.methodLink RX5 66 yX5_in, Cond.static yX5_in, Cond.initialized RX5, Cond.code yX5_in cX5_in 6 (some .boolean), Cond.methodLink RX5 188 yX5_laysAll, Cond.instanceMethod yX5_laysAll, Cond.selects RX5 yX5_laysAll yX5_laysAll, Cond.code yX5_laysAll cX5_laysAll 2 none, Cond.fieldLink RX5 142 "SayingsMergedModel" "sayers" "I", Cond.fieldLink RX5 26 "SayingsMergedModel" "says" "[J", Cond.methodLink RX5 168 yX5_lays, Cond.instanceMethod yX5_lays, Cond.selects RX5 yX5_lays yX5_lays, Cond.code yX5_lays cX5_lays 5 none, Cond.fieldLink RX5 48 "SayingsMergedModel" "burdens" "[I", Cond.fieldLink RX5 22 "SayingsMergedModel" "weight" "[I", Cond.methodLink RX5 164 yX5_farOf, Cond.instanceMethod yX5_farOf, Cond.selects RX5 yX5_farOf yX5_farOf, Cond.code yX5_farOf cX5_farOf 6 (some .int), Cond.methodLink RX5 60 yX5_has, Cond.static yX5_has, Cond.code yX5_has cX5_has 3 (some .boolean)]
def wsX5_merged_r2 : List Cond := [Cond.methodLink RX5 160 yX5_apartOf, Cond.instanceMethod yX5_apartOf, Cond.selects RX5 yX5_apartOf yX5_apartOf, Cond.code yX5_apartOf cX5_apartOf 5 (some .int), Cond.fieldLink RX5 30 "SayingsMergedModel" "cost" "[I", Cond.fieldLink RX5 154 "SayingsMergedModel" "measure" "I", Cond.methodLink RX5 191 yX5_mergedBy, Cond.instanceMethod yX5_mergedBy, Cond.selects RX5 yX5_mergedBy yX5_mergedBy, Cond.code yX5_mergedBy cX5_mergedBy 7 (some .long), Cond.fieldLink RX5 15 "SayingsMergedModel" "there" "J", Cond.fieldLink RX5 51 "SayingsMergedModel" "best" "[I", Cond.fieldLink RX5 54 "SayingsMergedModel" "own" "[I", Cond.methodLink RX5 179 yX5_rows, Cond.instanceMethod yX5_rows, Cond.selects RX5 yX5_rows yX5_rows, Cond.code yX5_rows cX5_rows 6 none, Cond.methodLink RX5 172 yX5_sumOf, Cond.instanceMethod yX5_sumOf, Cond.selects RX5 yX5_sumOf yX5_sumOf, Cond.code yX5_sumOf cX5_sumOf 4 (some .int), Cond.methodLink RX5 176 yX5_worstOf, Cond.instanceMethod yX5_worstOf, Cond.selects RX5 yX5_worstOf yX5_worstOf]
def wsX5_merged_r3 : List Cond := [Cond.code yX5_worstOf cX5_worstOf 4 (some .int), Cond.methodLink RX5 183 yX5_against, Cond.instanceMethod yX5_against, Cond.selects RX5 yX5_against yX5_against, Cond.code yX5_against cX5_against 2 (some .int)]
def wsX5_merged : List Cond := .code yX5_merged cX5_merged 2 (some .long) :: ((wsX5_merged_r1 ++ (wsX5_merged_r2 ++ wsX5_merged_r3)) ++ wsX50)
def wsX5_value_r1 : List Cond := [Cond.methodLink RX5 66 yX5_in, Cond.static yX5_in, Cond.initialized RX5, Cond.code yX5_in cX5_in 6 (some .boolean), Cond.methodLink RX5 157 yX5_isWorld, Cond.static yX5_isWorld, Cond.code yX5_isWorld cX5_isWorld 1 (some .boolean), Cond.constantLong RX5 145 (63), Cond.methodLink RX5 188 yX5_laysAll, Cond.instanceMethod yX5_laysAll, Cond.selects RX5 yX5_laysAll yX5_laysAll, Cond.code yX5_laysAll cX5_laysAll 2 none, Cond.fieldLink RX5 142 "SayingsMergedModel" "sayers" "I", Cond.fieldLink RX5 26 "SayingsMergedModel" "says" "[J", Cond.methodLink RX5 168 yX5_lays, Cond.instanceMethod yX5_lays, Cond.selects RX5 yX5_lays yX5_lays, Cond.code yX5_lays cX5_lays 5 none, Cond.fieldLink RX5 48 "SayingsMergedModel" "burdens" "[I", Cond.fieldLink RX5 22 "SayingsMergedModel" "weight" "[I", Cond.methodLink RX5 164 yX5_farOf, Cond.instanceMethod yX5_farOf, Cond.selects RX5 yX5_farOf yX5_farOf, Cond.code yX5_farOf cX5_farOf 6 (some .int)]
def wsX5_value_r2 : List Cond := [Cond.methodLink RX5 60 yX5_has, Cond.static yX5_has, Cond.code yX5_has cX5_has 3 (some .boolean), Cond.methodLink RX5 160 yX5_apartOf, Cond.instanceMethod yX5_apartOf, Cond.selects RX5 yX5_apartOf yX5_apartOf, Cond.code yX5_apartOf cX5_apartOf 5 (some .int), Cond.fieldLink RX5 30 "SayingsMergedModel" "cost" "[I", Cond.fieldLink RX5 154 "SayingsMergedModel" "measure" "I", Cond.methodLink RX5 172 yX5_sumOf, Cond.instanceMethod yX5_sumOf, Cond.selects RX5 yX5_sumOf yX5_sumOf, Cond.code yX5_sumOf cX5_sumOf 4 (some .int), Cond.methodLink RX5 176 yX5_worstOf, Cond.instanceMethod yX5_worstOf, Cond.selects RX5 yX5_worstOf yX5_worstOf, Cond.code yX5_worstOf cX5_worstOf 4 (some .int)]
def wsX5_value : List Cond := .code yX5_value cX5_value 3 (some .int) :: ((wsX5_value_r1 ++ wsX5_value_r2) ++ wsX50)
def wsX5_held_r1 : List Cond := [Cond.constantLong RX5 186 (2), Cond.fieldLink RX5 19 "SayingsMergedModel" "question" "J", Cond.constantLong RX5 13 (-1), Cond.methodLink RX5 66 yX5_in, Cond.static yX5_in, Cond.initialized RX5, Cond.code yX5_in cX5_in 6 (some .boolean), Cond.methodLink RX5 188 yX5_laysAll, Cond.instanceMethod yX5_laysAll, Cond.selects RX5 yX5_laysAll yX5_laysAll, Cond.code yX5_laysAll cX5_laysAll 2 none, Cond.fieldLink RX5 142 "SayingsMergedModel" "sayers" "I", Cond.fieldLink RX5 26 "SayingsMergedModel" "says" "[J", Cond.methodLink RX5 168 yX5_lays, Cond.instanceMethod yX5_lays, Cond.selects RX5 yX5_lays yX5_lays, Cond.code yX5_lays cX5_lays 5 none, Cond.fieldLink RX5 48 "SayingsMergedModel" "burdens" "[I", Cond.fieldLink RX5 22 "SayingsMergedModel" "weight" "[I", Cond.methodLink RX5 164 yX5_farOf, Cond.instanceMethod yX5_farOf, Cond.selects RX5 yX5_farOf yX5_farOf, Cond.code yX5_farOf cX5_farOf 6 (some .int), Cond.methodLink RX5 60 yX5_has]
def wsX5_held_r2 : List Cond := [Cond.static yX5_has, Cond.code yX5_has cX5_has 3 (some .boolean), Cond.methodLink RX5 160 yX5_apartOf, Cond.instanceMethod yX5_apartOf, Cond.selects RX5 yX5_apartOf yX5_apartOf, Cond.code yX5_apartOf cX5_apartOf 5 (some .int), Cond.fieldLink RX5 30 "SayingsMergedModel" "cost" "[I", Cond.fieldLink RX5 154 "SayingsMergedModel" "measure" "I", Cond.methodLink RX5 191 yX5_mergedBy, Cond.instanceMethod yX5_mergedBy, Cond.selects RX5 yX5_mergedBy yX5_mergedBy, Cond.code yX5_mergedBy cX5_mergedBy 7 (some .long), Cond.fieldLink RX5 15 "SayingsMergedModel" "there" "J", Cond.fieldLink RX5 51 "SayingsMergedModel" "best" "[I", Cond.fieldLink RX5 54 "SayingsMergedModel" "own" "[I", Cond.methodLink RX5 179 yX5_rows, Cond.instanceMethod yX5_rows, Cond.selects RX5 yX5_rows yX5_rows, Cond.code yX5_rows cX5_rows 6 none, Cond.methodLink RX5 172 yX5_sumOf, Cond.instanceMethod yX5_sumOf, Cond.selects RX5 yX5_sumOf yX5_sumOf, Cond.code yX5_sumOf cX5_sumOf 4 (some .int), Cond.methodLink RX5 176 yX5_worstOf]
def wsX5_held_r3 : List Cond := [Cond.instanceMethod yX5_worstOf, Cond.selects RX5 yX5_worstOf yX5_worstOf, Cond.code yX5_worstOf cX5_worstOf 4 (some .int), Cond.methodLink RX5 183 yX5_against, Cond.instanceMethod yX5_against, Cond.selects RX5 yX5_against yX5_against, Cond.code yX5_against cX5_against 2 (some .int)]
def wsX5_held : List Cond := .code yX5_held cX5_held 2 (some .int) :: ((wsX5_held_r1 ++ (wsX5_held_r2 ++ wsX5_held_r3)) ++ wsX50)
def wsX5_nearest : List Cond := .code yX5_nearest cX5_nearest 10 (some .long) :: ([.methodLink RX5 60 yX5_has, .static yX5_has, .initialized RX5, .code yX5_has cX5_has 3 (some .boolean), .methodLink RX5 164 yX5_farOf, .instanceMethod yX5_farOf, .selects RX5 yX5_farOf yX5_farOf, .code yX5_farOf cX5_farOf 6 (some .int), .methodLink RX5 160 yX5_apartOf, .instanceMethod yX5_apartOf, .selects RX5 yX5_apartOf yX5_apartOf, .code yX5_apartOf cX5_apartOf 5 (some .int), .fieldLink RX5 30 "SayingsMergedModel" "cost" "[I", .fieldLink RX5 154 "SayingsMergedModel" "measure" "I"] ++ wsX50)
def wsX5_changed_r1 : List Cond := [Cond.constantLong RX5 186 (2), Cond.fieldLink RX5 15 "SayingsMergedModel" "there" "J", Cond.fieldLink RX5 19 "SayingsMergedModel" "question" "J", Cond.fieldLink RX5 26 "SayingsMergedModel" "says" "[J", Cond.constantLong RX5 13 (-1), Cond.methodLink RX5 147 yX5_isSayer, Cond.instanceMethod yX5_isSayer, Cond.selects RX5 yX5_isSayer yX5_isSayer, Cond.initialized RX5, Cond.code yX5_isSayer cX5_isSayer 2 (some .boolean), Cond.fieldLink RX5 142 "SayingsMergedModel" "sayers" "I", Cond.methodLink RX5 66 yX5_in, Cond.static yX5_in, Cond.code yX5_in cX5_in 6 (some .boolean), Cond.methodLink RX5 194 yX5_nearest, Cond.instanceMethod yX5_nearest, Cond.selects RX5 yX5_nearest yX5_nearest, Cond.code yX5_nearest cX5_nearest 10 (some .long), Cond.methodLink RX5 60 yX5_has, Cond.static yX5_has, Cond.code yX5_has cX5_has 3 (some .boolean), Cond.methodLink RX5 164 yX5_farOf, Cond.instanceMethod yX5_farOf, Cond.selects RX5 yX5_farOf yX5_farOf]
def wsX5_changed_r2 : List Cond := [Cond.code yX5_farOf cX5_farOf 6 (some .int), Cond.methodLink RX5 160 yX5_apartOf, Cond.instanceMethod yX5_apartOf, Cond.selects RX5 yX5_apartOf yX5_apartOf, Cond.code yX5_apartOf cX5_apartOf 5 (some .int), Cond.fieldLink RX5 30 "SayingsMergedModel" "cost" "[I", Cond.fieldLink RX5 154 "SayingsMergedModel" "measure" "I"]
def wsX5_changed : List Cond := .code yX5_changed cX5_changed 6 (some .long) :: ((wsX5_changed_r1 ++ wsX5_changed_r2) ++ wsX50)
def wsX5_isQuarrel : List Cond := .code yX5_isQuarrel cX5_isQuarrel 5 (some .boolean) :: ([.fieldLink RX5 15 "SayingsMergedModel" "there" "J", .fieldLink RX5 142 "SayingsMergedModel" "sayers" "I", .fieldLink RX5 26 "SayingsMergedModel" "says" "[J", .constantLong RX5 13 (-1), .methodLink RX5 60 yX5_has, .static yX5_has, .initialized RX5, .code yX5_has cX5_has 3 (some .boolean)] ++ wsX50)
def wsX5_isSet : List Cond := .code yX5_isSet cX5_isSet 2 (some .boolean) :: ([.fieldLink RX5 142 "SayingsMergedModel" "sayers" "I", .methodLink RX5 66 yX5_in, .static yX5_in, .initialized RX5, .code yX5_in cX5_in 6 (some .boolean)] ++ wsX50)
def wsX5_quarrels : List Cond := .code yX5_quarrels cX5_quarrels 2 (some .int) :: ([.methodLink RX5 198 yX5_isSet, .instanceMethod yX5_isSet, .selects RX5 yX5_isSet yX5_isSet, .initialized RX5, .code yX5_isSet cX5_isSet 2 (some .boolean), .fieldLink RX5 142 "SayingsMergedModel" "sayers" "I", .methodLink RX5 66 yX5_in, .static yX5_in, .code yX5_in cX5_in 6 (some .boolean), .methodLink RX5 201 yX5_isQuarrel, .instanceMethod yX5_isQuarrel, .selects RX5 yX5_isQuarrel yX5_isQuarrel, .code yX5_isQuarrel cX5_isQuarrel 5 (some .boolean), .fieldLink RX5 15 "SayingsMergedModel" "there" "J", .fieldLink RX5 26 "SayingsMergedModel" "says" "[J", .constantLong RX5 13 (-1), .methodLink RX5 60 yX5_has, .static yX5_has, .code yX5_has cX5_has 3 (some .boolean)] ++ wsX50)
def wsX5_isTold : List Cond := .code yX5_isTold cX5_isTold 6 (some .boolean) :: ([.fieldLink RX5 142 "SayingsMergedModel" "sayers" "I", .methodLink RX5 201 yX5_isQuarrel, .instanceMethod yX5_isQuarrel, .selects RX5 yX5_isQuarrel yX5_isQuarrel, .initialized RX5, .code yX5_isQuarrel cX5_isQuarrel 5 (some .boolean), .fieldLink RX5 15 "SayingsMergedModel" "there" "J", .fieldLink RX5 26 "SayingsMergedModel" "says" "[J", .constantLong RX5 13 (-1), .methodLink RX5 60 yX5_has, .static yX5_has, .code yX5_has cX5_has 3 (some .boolean)] ++ wsX50)
def wsX5_sets : List Cond := .code yX5_sets cX5_sets 7 (some .int) :: ([.fieldLink RX5 142 "SayingsMergedModel" "sayers" "I", .methodLink RX5 66 yX5_in, .static yX5_in, .initialized RX5, .code yX5_in cX5_in 6 (some .boolean), .methodLink RX5 204 yX5_many, .static yX5_many, .code yX5_many cX5_many 4 (some .int), .methodLink RX5 60 yX5_has, .static yX5_has, .code yX5_has cX5_has 3 (some .boolean), .methodLink RX5 208 yX5_isTold, .instanceMethod yX5_isTold, .selects RX5 yX5_isTold yX5_isTold, .code yX5_isTold cX5_isTold 6 (some .boolean), .methodLink RX5 201 yX5_isQuarrel, .instanceMethod yX5_isQuarrel, .selects RX5 yX5_isQuarrel yX5_isQuarrel, .code yX5_isQuarrel cX5_isQuarrel 5 (some .boolean), .fieldLink RX5 15 "SayingsMergedModel" "there" "J", .fieldLink RX5 26 "SayingsMergedModel" "says" "[J", .constantLong RX5 13 (-1)] ++ wsX50)
def wsX5_free : List Cond := .code yX5_free cX5_free 3 (some .int) :: ([.fieldLink RX5 142 "SayingsMergedModel" "sayers" "I", .methodLink RX5 208 yX5_isTold, .instanceMethod yX5_isTold, .selects RX5 yX5_isTold yX5_isTold, .initialized RX5, .code yX5_isTold cX5_isTold 6 (some .boolean), .methodLink RX5 201 yX5_isQuarrel, .instanceMethod yX5_isQuarrel, .selects RX5 yX5_isQuarrel yX5_isQuarrel, .code yX5_isQuarrel cX5_isQuarrel 5 (some .boolean), .fieldLink RX5 15 "SayingsMergedModel" "there" "J", .fieldLink RX5 26 "SayingsMergedModel" "says" "[J", .constantLong RX5 13 (-1), .methodLink RX5 60 yX5_has, .static yX5_has, .code yX5_has cX5_has 3 (some .boolean)] ++ wsX50)
def wsX5_orders : List Cond := .code yX5_orders cX5_orders 3 (some .int) :: ([])
def wsX5_share_r1 : List Cond := [Cond.fieldLink RX5 142 "SayingsMergedModel" "sayers" "I", Cond.methodLink RX5 147 yX5_isSayer, Cond.instanceMethod yX5_isSayer, Cond.selects RX5 yX5_isSayer yX5_isSayer, Cond.initialized RX5, Cond.code yX5_isSayer cX5_isSayer 2 (some .boolean), Cond.methodLink RX5 66 yX5_in, Cond.static yX5_in, Cond.code yX5_in cX5_in 6 (some .boolean), Cond.methodLink RX5 60 yX5_has, Cond.static yX5_has, Cond.code yX5_has cX5_has 3 (some .boolean), Cond.methodLink RX5 201 yX5_isQuarrel, Cond.instanceMethod yX5_isQuarrel, Cond.selects RX5 yX5_isQuarrel yX5_isQuarrel, Cond.code yX5_isQuarrel cX5_isQuarrel 5 (some .boolean), Cond.fieldLink RX5 15 "SayingsMergedModel" "there" "J", Cond.fieldLink RX5 26 "SayingsMergedModel" "says" "[J", Cond.constantLong RX5 13 (-1), Cond.methodLink RX5 204 yX5_many, Cond.static yX5_many, Cond.code yX5_many cX5_many 4 (some .int), Cond.methodLink RX5 212 yX5_orders, Cond.static yX5_orders]
def wsX5_share_r2 : List Cond := [Cond.code yX5_orders cX5_orders 3 (some .int)]
def wsX5_share : List Cond := .code yX5_share cX5_share 8 (some .int) :: ((wsX5_share_r1 ++ wsX5_share_r2) ++ wsX50)
def wsX5_loss : List Cond := .code yX5_loss cX5_loss 5 (some .int) :: ([.fieldLink RX5 57 "SayingsMergedModel" "truth" "[I", .methodLink RX5 60 yX5_has, .static yX5_has, .initialized RX5, .code yX5_has cX5_has 3 (some .boolean)] ++ wsX50)
def wsX5_laysTerm : List Cond := .code yX5_laysTerm cX5_laysTerm 8 none :: ([.fieldLink RX5 30 "SayingsMergedModel" "cost" "[I", .fieldLink RX5 48 "SayingsMergedModel" "burdens" "[I", .fieldLink RX5 22 "SayingsMergedModel" "weight" "[I", .fieldLink RX5 154 "SayingsMergedModel" "measure" "I", .methodLink RX5 60 yX5_has, .static yX5_has, .initialized RX5, .code yX5_has cX5_has 3 (some .boolean)] ++ wsX50)
def wsX5_lie_r1 : List Cond := [Cond.constantLong RX5 186 (2), Cond.fieldLink RX5 57 "SayingsMergedModel" "truth" "[I", Cond.fieldLink RX5 26 "SayingsMergedModel" "says" "[J", Cond.methodLink RX5 147 yX5_isSayer, Cond.instanceMethod yX5_isSayer, Cond.selects RX5 yX5_isSayer yX5_isSayer, Cond.initialized RX5, Cond.code yX5_isSayer cX5_isSayer 2 (some .boolean), Cond.fieldLink RX5 142 "SayingsMergedModel" "sayers" "I", Cond.methodLink RX5 66 yX5_in, Cond.static yX5_in, Cond.code yX5_in cX5_in 6 (some .boolean), Cond.methodLink RX5 188 yX5_laysAll, Cond.instanceMethod yX5_laysAll, Cond.selects RX5 yX5_laysAll yX5_laysAll, Cond.code yX5_laysAll cX5_laysAll 2 none, Cond.methodLink RX5 168 yX5_lays, Cond.instanceMethod yX5_lays, Cond.selects RX5 yX5_lays yX5_lays, Cond.code yX5_lays cX5_lays 5 none, Cond.fieldLink RX5 48 "SayingsMergedModel" "burdens" "[I", Cond.fieldLink RX5 22 "SayingsMergedModel" "weight" "[I", Cond.methodLink RX5 164 yX5_farOf, Cond.instanceMethod yX5_farOf]
def wsX5_lie_r2 : List Cond := [Cond.selects RX5 yX5_farOf yX5_farOf, Cond.code yX5_farOf cX5_farOf 6 (some .int), Cond.methodLink RX5 60 yX5_has, Cond.static yX5_has, Cond.code yX5_has cX5_has 3 (some .boolean), Cond.methodLink RX5 160 yX5_apartOf, Cond.instanceMethod yX5_apartOf, Cond.selects RX5 yX5_apartOf yX5_apartOf, Cond.code yX5_apartOf cX5_apartOf 5 (some .int), Cond.fieldLink RX5 30 "SayingsMergedModel" "cost" "[I", Cond.fieldLink RX5 154 "SayingsMergedModel" "measure" "I", Cond.methodLink RX5 191 yX5_mergedBy, Cond.instanceMethod yX5_mergedBy, Cond.selects RX5 yX5_mergedBy yX5_mergedBy, Cond.code yX5_mergedBy cX5_mergedBy 7 (some .long), Cond.fieldLink RX5 15 "SayingsMergedModel" "there" "J", Cond.fieldLink RX5 51 "SayingsMergedModel" "best" "[I", Cond.fieldLink RX5 54 "SayingsMergedModel" "own" "[I", Cond.methodLink RX5 179 yX5_rows, Cond.instanceMethod yX5_rows, Cond.selects RX5 yX5_rows yX5_rows, Cond.code yX5_rows cX5_rows 6 none, Cond.methodLink RX5 172 yX5_sumOf, Cond.instanceMethod yX5_sumOf]
def wsX5_lie_r3 : List Cond := [Cond.selects RX5 yX5_sumOf yX5_sumOf, Cond.code yX5_sumOf cX5_sumOf 4 (some .int), Cond.methodLink RX5 176 yX5_worstOf, Cond.instanceMethod yX5_worstOf, Cond.selects RX5 yX5_worstOf yX5_worstOf, Cond.code yX5_worstOf cX5_worstOf 4 (some .int), Cond.methodLink RX5 183 yX5_against, Cond.instanceMethod yX5_against, Cond.selects RX5 yX5_against yX5_against, Cond.code yX5_against cX5_against 2 (some .int), Cond.methodLink RX5 215 yX5_loss, Cond.instanceMethod yX5_loss, Cond.selects RX5 yX5_loss yX5_loss, Cond.code yX5_loss cX5_loss 5 (some .int), Cond.methodLink RX5 218 yX5_laysTerm, Cond.instanceMethod yX5_laysTerm, Cond.selects RX5 yX5_laysTerm yX5_laysTerm, Cond.code yX5_laysTerm cX5_laysTerm 8 none]
def wsX5_lie : List Cond := .code yX5_lie cX5_lie 9 (some .int) :: ((wsX5_lie_r1 ++ (wsX5_lie_r2 ++ wsX5_lie_r3)) ++ wsX50)
def wsX5_plain : List Cond := .code yX5_plain cX5_plain 2 (some .int) :: ([.fieldLink RX5 222 "SayingsMergedModel" "trace" "J", .fieldLink RX5 15 "SayingsMergedModel" "there" "J", .fieldLink RX5 26 "SayingsMergedModel" "says" "[J", .methodLink RX5 204 yX5_many, .static yX5_many, .initialized RX5, .code yX5_many cX5_many 4 (some .int), .methodLink RX5 60 yX5_has, .static yX5_has, .code yX5_has cX5_has 3 (some .boolean)] ++ wsX50)
def wsX5_weighty : List Cond := .code yX5_weighty cX5_weighty 2 (some .int) :: ([.fieldLink RX5 222 "SayingsMergedModel" "trace" "J", .constantLong RX5 225 (10), .fieldLink RX5 22 "SayingsMergedModel" "weight" "[I", .methodLink RX5 227 yX5_plain, .instanceMethod yX5_plain, .selects RX5 yX5_plain yX5_plain, .initialized RX5, .code yX5_plain cX5_plain 2 (some .int), .fieldLink RX5 15 "SayingsMergedModel" "there" "J", .fieldLink RX5 26 "SayingsMergedModel" "says" "[J", .methodLink RX5 204 yX5_many, .static yX5_many, .code yX5_many cX5_many 4 (some .int), .methodLink RX5 60 yX5_has, .static yX5_has, .code yX5_has cX5_has 3 (some .boolean)] ++ wsX50)
def wsX5_worth_r1 : List Cond := [Cond.constantLong RX5 230 (3), Cond.fieldLink RX5 222 "SayingsMergedModel" "trace" "J", Cond.constantLong RX5 235 (100), Cond.fieldLink RX5 142 "SayingsMergedModel" "sayers" "I", Cond.fieldLink RX5 26 "SayingsMergedModel" "says" "[J", Cond.fieldLink RX5 15 "SayingsMergedModel" "there" "J", Cond.constantLong RX5 237 (1000), Cond.methodLink RX5 66 yX5_in, Cond.static yX5_in, Cond.initialized RX5, Cond.code yX5_in cX5_in 6 (some .boolean), Cond.methodLink RX5 147 yX5_isSayer, Cond.instanceMethod yX5_isSayer, Cond.selects RX5 yX5_isSayer yX5_isSayer, Cond.code yX5_isSayer cX5_isSayer 2 (some .boolean), Cond.methodLink RX5 227 yX5_plain, Cond.instanceMethod yX5_plain, Cond.selects RX5 yX5_plain yX5_plain, Cond.code yX5_plain cX5_plain 2 (some .int), Cond.methodLink RX5 204 yX5_many, Cond.static yX5_many, Cond.code yX5_many cX5_many 4 (some .int), Cond.methodLink RX5 60 yX5_has, Cond.static yX5_has]
def wsX5_worth_r2 : List Cond := [Cond.code yX5_has cX5_has 3 (some .boolean), Cond.methodLink RX5 232 yX5_weighty, Cond.instanceMethod yX5_weighty, Cond.selects RX5 yX5_weighty yX5_weighty, Cond.code yX5_weighty cX5_weighty 2 (some .int), Cond.constantLong RX5 225 (10), Cond.fieldLink RX5 22 "SayingsMergedModel" "weight" "[I", Cond.methodLink RX5 188 yX5_laysAll, Cond.instanceMethod yX5_laysAll, Cond.selects RX5 yX5_laysAll yX5_laysAll, Cond.code yX5_laysAll cX5_laysAll 2 none, Cond.methodLink RX5 168 yX5_lays, Cond.instanceMethod yX5_lays, Cond.selects RX5 yX5_lays yX5_lays, Cond.code yX5_lays cX5_lays 5 none, Cond.fieldLink RX5 48 "SayingsMergedModel" "burdens" "[I", Cond.methodLink RX5 164 yX5_farOf, Cond.instanceMethod yX5_farOf, Cond.selects RX5 yX5_farOf yX5_farOf, Cond.code yX5_farOf cX5_farOf 6 (some .int), Cond.methodLink RX5 160 yX5_apartOf, Cond.instanceMethod yX5_apartOf, Cond.selects RX5 yX5_apartOf yX5_apartOf, Cond.code yX5_apartOf cX5_apartOf 5 (some .int)]
def wsX5_worth_r3 : List Cond := [Cond.fieldLink RX5 30 "SayingsMergedModel" "cost" "[I", Cond.fieldLink RX5 154 "SayingsMergedModel" "measure" "I", Cond.methodLink RX5 191 yX5_mergedBy, Cond.instanceMethod yX5_mergedBy, Cond.selects RX5 yX5_mergedBy yX5_mergedBy, Cond.code yX5_mergedBy cX5_mergedBy 7 (some .long), Cond.fieldLink RX5 51 "SayingsMergedModel" "best" "[I", Cond.fieldLink RX5 54 "SayingsMergedModel" "own" "[I", Cond.methodLink RX5 179 yX5_rows, Cond.instanceMethod yX5_rows, Cond.selects RX5 yX5_rows yX5_rows, Cond.code yX5_rows cX5_rows 6 none, Cond.methodLink RX5 172 yX5_sumOf, Cond.instanceMethod yX5_sumOf, Cond.selects RX5 yX5_sumOf yX5_sumOf, Cond.code yX5_sumOf cX5_sumOf 4 (some .int), Cond.methodLink RX5 176 yX5_worstOf, Cond.instanceMethod yX5_worstOf, Cond.selects RX5 yX5_worstOf yX5_worstOf, Cond.code yX5_worstOf cX5_worstOf 4 (some .int), Cond.methodLink RX5 183 yX5_against, Cond.instanceMethod yX5_against, Cond.selects RX5 yX5_against yX5_against, Cond.code yX5_against cX5_against 2 (some .int)]
def wsX5_worth : List Cond := .code yX5_worth cX5_worth 6 (some .int) :: ((wsX5_worth_r1 ++ (wsX5_worth_r2 ++ wsX5_worth_r3)) ++ wsX50)
def wsX5_count : List Cond := .code yX5_count cX5_count 4 (some .int) :: ([.fieldLink RX5 142 "SayingsMergedModel" "sayers" "I", .fieldLink RX5 22 "SayingsMergedModel" "weight" "[I", .fieldLink RX5 139 "SayingsMergedModel" "laws" "I", .fieldLink RX5 70 "SayingsMergedModel" "length" "I", .fieldLink RX5 15 "SayingsMergedModel" "there" "J", .methodLink RX5 204 yX5_many, .static yX5_many, .initialized RX5, .code yX5_many cX5_many 4 (some .int), .methodLink RX5 60 yX5_has, .static yX5_has, .code yX5_has cX5_has 3 (some .boolean)] ++ wsX50)
def wsX5_trace : List Cond := .code yX5_trace cX5_trace 1 (some .long) :: ([.fieldLink RX5 222 "SayingsMergedModel" "trace" "J"] ++ wsX50)
def wsJ9_max_f86c9 : List Cond := .code yJ9_max_f86c9 cJ9_max_f86c9 4 (some .long) :: ([])
def wsJ9_min_f86c9 : List Cond := .code yJ9_min_f86c9 cJ9_min_f86c9 4 (some .long) :: ([])
abbrev vwCl : List vw_C := [(RX0, TX0, 3), (RX1, TX1, 4), (RX2, TX2, 4), (RX3, TX3, 5), (RX4, TX4, 11), (RX5, TX5, 29)]
