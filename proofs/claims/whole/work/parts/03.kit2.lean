def zk_F : Nat := 5000
def zk_su {α β γ : Type} (v : α ⊕ β) (f : α → Option γ) (g : β → Option γ) : Option γ := match v with
  | .inl a => f a
  | .inr b => g b
theorem zk_su_l {α β γ : Type} {a : α} {f : α → Option γ} {g : β → Option γ} {z : γ} (h : zk_su (Sum.inl a) f g = some z) : f a = some z := h
theorem zk_su_r {α β γ : Type} {b : β} {f : α → Option γ} {g : β → Option γ} {z : γ} (h : zk_su (Sum.inr b) f g = some z) : g b = some z := h
theorem zk_lt7 {i : Int32} (h : zk_in i 7 = true) : i.toNatClampNeg < 7 := Nat.not_le.mp fun q => zk_in_s h (Or.inr q)
def zk_upr (F : Nat → Nat → Int64) (j : Nat) (r : Nat → Int64) : Nat → Nat → Int64 := fun i => if i = j then r else F i
/-- a constructor: the cells that it makes lie at q 0, q 1 .. -/
def zk_Qn (D : va_G) (wc : va_W) (w1 : (Nat → Nat) → va_W) (sz : Nat) : Array Value → State → Outcome → State → Prop :=
  fun _ st oc t => (oc = .returned none ∧ ∃ q : Nat → Nat, va_P D vwCl (w1 q) t.heap ∧ va_D (va_A wc sz) (w1 q)) ∧ va_F (va_A wc sz) st t
def zk_CN (l : Launch) (D : va_G) (tL tO : Nat) (tys : List (ClassId × FieldType)) (y : MethodName) (ws : List Cond) (f n mc ms : Nat) (av : List Value) (wc : va_W) (w1 : (Nat → Nat) → va_W) : Prop :=
  ∀ sz : Nat, Met l y ws { frames := f, cells := mc, slots := ms, locals := n } (zk_Pc D tL tO tys av wc sz) (zk_Qn D wc w1 sz) mc ms (va_A wc sz)
section ZKN
variable {p : Program} {l : Launch} {e : Env} {R : Room} {s : State} {m : MethodId} {args : Array Value} {below : List Frame} {meth : Method} {c : Code} {H : Heap} {locs : List Loc} {cells slots mc ms : Nat} {Q : State → Prop}
variable {cc : ByteArray} {pc nL : Nat} {ls : Array Slot} {rest st0 : List Value} {D : va_G} {A : Nat → Prop} {ws wc wr : va_W} {w1 : (Nat → Nat) → va_W} {a : Array Value} {tL tO : Nat} {tys : List (ClassId × FieldType)}
theorem zk_goN (hr : va_Run p l e R s m args below meth c H locs cells slots mc ms (F0 m pc ls st0) rest (zk_Qn D wc w1 H.size a) (va_A wc H.size)) (hP : va_P D vwCl ws H) (hD : va_D A ws) (hS : va_S A s.heap H locs) (hA : ∀ q, s.heap.size ≤ q → A q) (isC isR : List Nat)
    (hC : isC.map (fun i => ws[i]?) = wc.map some) (hR : isR.map (fun i => ws[i]?) = wr.map some) (hn : va_nd isR = true) (hdis : ∀ i ∈ isR, i ∉ isC)
    (kk : ∀ (q : Nat → Nat) (H1 : Heap) (locs1 : List Loc), va_P D vwCl (wr ++ w1 q) H1 → va_D A (wr ++ w1 q) → va_S A s.heap H1 locs1 → W p l e R s m args below meth c H1 locs1 (cells + mc) (slots + ms) Q (F0 m (pc + 3) ls rest)) : W p l e R s m args below meth c H locs cells slots Q (F0 m pc ls st0) := by
  have hFc := va_free hD hS hA isC hC
  intro T hT X
  obtain ⟨v, st₀, t, T', L, h0, X', hL, e1, e2, ⟨⟨hv, q, hP1, hD1⟩, hz, hk⟩, st⟩ := hr T hT X
  cases hv
  rw [h0] at hz hk
  have hj := va_join (wr := wr) (w1 := w1 q) hP hD isC isR hC hR hn hdis hk hFc hP1 hD1
  have hS1 : va_S A s.heap t.heap (locs ++ L) := ⟨Nat.le_trans hS.1 hz, fun q h1 h2 => by rw [hk q (Nat.lt_of_lt_of_le h1 hS.1) (fun z => h2 (hFc q z))]; exact hS.2.1 q h1 h2, fun q hq => by
      rcases List.mem_append.mp hq with h | h
      · exact hS.2.2 q h
      · exact hFc _ (hL q h)⟩
  obtain ⟨t2, a1, b1⟩ := kk q t.heap (locs ++ L) hj.1 hj.2 hS1 T' e1 X'
  exact ⟨t2, st t2 a1, b1⟩
theorem zk_I {own : String} {index f n k maxL b : Nat} {y : MethodName} {bytes : ByteArray} {ws2 ws2' Ts : List Cond} {As : List Value} (hx : p.tables.exec = Jvm.exec) (hb : c.code = cc) (hml : c.maxLocals = nL) (hown : s.vm.findClass own = some m.cls) (hts : ∀ w ∈ Ts, w.before args s = true) (hK : va_K D vwCl tys s) (hG : zk_G tL tO A s s.heap) (hP : va_P D vwCl ws H) (hD : va_D A ws) (hS : va_S A s.heap H locs) (hA : ∀ q, s.heap.size ≤ q → A q)
    (hT : GoodIn Ts ws2) (hw : ws2 = Cond.code y bytes maxL none :: ws2') (hini : (Cond.initialized y.cls).before args s = true) (hl : (Cond.methodLink own index y).before args s = true) (hin : (Cond.instanceMethod y).before args s = true) (hy1 : y.name = "<init>") (hd : y.cls ≠ "java/lang/invoke/MethodHandle" ∧ y.cls ≠ "java/lang/invoke/VarHandle" ∧ (parseMethodDescriptor y.desc).map (fun d => d.parameters.length) = some k) (hRf : f + 1 ≤ R.frames) (hRl : 8 + (maxL + 11) + n ≤ R.locals) (hcs : cells + mc ≤ R.cells ∧ slots + ms ≤ R.slots)
    (hM : zk_CN l D tL tO tys y ws2 f n mc ms (.ref b :: As) wc w1) (hls : ls.size = nL) (hst : st0 = As.reverse ++ .ref b :: rest) (hn : As.length = k) (hW : (rest.map fun v => v.category).sum ≤ 8) (hdg : decode cc pc = .ok (.invokespecial index, 3))
    (isC : List Nat) (hC : isC.map (fun i => ws[i]?) = wc.map some) (hnC : va_nd isC = true) : va_Run p l e R s m args below meth c H locs cells slots mc ms (F0 m pc ls st0) rest (zk_Qn D wc w1 H.size (Value.ref b :: As).toArray) (va_A wc H.size) := by
  have hFc := va_free hD hS hA isC hC
  subst hst
  exact va_runI ⟨hx, hb, hml, hown, hts⟩ (hM H.size) (cwI k hts hT hw rfl rfl hini hl hin hy1 hd ⟨hRf, hRl⟩) ⟨zk_blind, zk_pre (zk_sub hP isC hC) ((hD.sub isC hnC hC).weaken (fun _ _ _ _ => trivial)) hK hG hS hFc⟩ rfl hn hls rfl (lv_room hW) hdg hcs
/-- a new array of a class that is known -/
theorem zk_newa (hexec : p.tables.exec = Jvm.exec) (hb : c.code = cc) {atype : ArrayType} (harr : (Cond.arrayClass (newarray.typeOf atype)).before args s = true) {ty : FieldType} (hty : newarray.typeOf atype = ty) (hK : va_K D vwCl tys s) (hP : va_P D vwCl ws H) (hD : va_D A ws) (hS : va_S A s.heap H locs) (hA : ∀ q, s.heap.size ≤ q → A q)
    {n : Int32} {N' : Nat} {a0 : vp_A} (ha : ∀ cA : ClassId, vp_cell cA a0 = arrV cA N' (fun _ => defaultValue ty)) (hn : ¬ n < 0) (hN : n.toNatClampNeg = N') (hbytes : N' * componentBytes ty ≤ 536870912) (hcells : cells + 1 ≤ R.cells) (hslots : slots + N' ≤ R.slots) (hdg : decode cc pc = .ok (.newarray atype, 2))
    (t0 : Nat) {c0 : ClassId} (ht : tys[t0]? = some (c0, ty)) (hra : ∀ c : ClassId, va_RA s c ty = (s.vm.findClass ("[" ++ ty.toString) = some c))
    (kk : ∀ (q : Nat) (H1 : Heap), va_P D vwCl (ws ++ [(q, .inl (c0, a0))]) H1 → va_D A (ws ++ [(q, .inl (c0, a0))]) → va_S A s.heap H1 locs →
      W p l e R s m args below meth c H1 locs (cells + 1) (slots + N') Q (F0 m (pc + 2) ls (.ref q :: rest))) : W p l e R s m args below meth c H locs cells slots Q (F0 m pc ls (.int n :: rest)) := by
  refine va_newa hexec hb harr hty hK hP hD hS hA ha hn hN hbytes hcells hslots hdg (fun q cA H1 hK1 hP1 hD1 hS1 => ?_)
  have h1 := (hK1.2 tys.length (cA, ty) (by simp)).2
  have h2 := (hK.2 t0 (c0, ty) ht).2
  rw [hra] at h1 h2
  have e0 : cA = c0 := Option.some.inj (h1.symm.trans h2)
  subst e0
  exact kk q H1 hP1 hD1 hS1
/-- new long[7][64] -/
theorem zk_mn7 (hexec : p.tables.exec = Jvm.exec) (hb : c.code = cc) {own : String} {index : Nat} (hown : s.vm.findClass own = some m.cls) (hclink : (Cond.classLink own index "[[J").before args s = true) (hover : zk_AOA .long s) (harr : (Cond.arrayClass .long).before args s = true) (hK : va_K D vwCl tys s) (hP : va_P D vwCl ws H) (hD : va_D A ws) (hS : va_S A s.heap H locs) (hA : ∀ q, s.heap.size ≤ q → A q)
    (t1 t3 : Nat) {cJ cQ : ClassId} (ht1 : tys[t1]? = some (cJ, .long)) (ht3 : tys[t3]? = some (cQ, .array .long)) (hcells : cells + 8 ≤ R.cells) (hslots : slots + 455 ≤ R.slots) (hdg : decode cc pc = .ok (.multianewarray index 2, 4))
    (kk : ∀ (q : Nat) (r : Nat → Nat) (H1 : Heap), va_P D vwCl (ws ++ [(q, .inl (cQ, 7, .inr (.inr (.inr (.inr (fun i => if i < 7 then some (r i) else none)))))), (r 0, .inl (cJ, 64, .inr (.inl (fun _ => 0)))), (r 1, .inl (cJ, 64, .inr (.inl (fun _ => 0)))), (r 2, .inl (cJ, 64, .inr (.inl (fun _ => 0)))), (r 3, .inl (cJ, 64, .inr (.inl (fun _ => 0)))), (r 4, .inl (cJ, 64, .inr (.inl (fun _ => 0)))), (r 5, .inl (cJ, 64, .inr (.inl (fun _ => 0)))), (r 6, .inl (cJ, 64, .inr (.inl (fun _ => 0))))]) H1 →
      va_D A (ws ++ [(q, .inl (cQ, 7, .inr (.inr (.inr (.inr (fun i => if i < 7 then some (r i) else none)))))), (r 0, .inl (cJ, 64, .inr (.inl (fun _ => 0)))), (r 1, .inl (cJ, 64, .inr (.inl (fun _ => 0)))), (r 2, .inl (cJ, 64, .inr (.inl (fun _ => 0)))), (r 3, .inl (cJ, 64, .inr (.inl (fun _ => 0)))), (r 4, .inl (cJ, 64, .inr (.inl (fun _ => 0)))), (r 5, .inl (cJ, 64, .inr (.inl (fun _ => 0)))), (r 6, .inl (cJ, 64, .inr (.inl (fun _ => 0))))]) → va_S A s.heap H1 locs →
      W p l e R s m args below meth c H1 locs (cells + 8) (slots + 455) Q (F0 m (pc + 4) ls (.ref q :: rest))) : W p l e R s m args below meth c H locs cells slots Q (F0 m pc ls (.int 64 :: .int 7 :: rest)) := by
  have hcy : s.vm.findClass (FieldType.array FieldType.long).toString = some cJ := (hK.2 t1 _ ht1).2
  have hP' : va_P D vwCl (ws ++ va_pl [] (fun _ => .inr (0, []))) H := by unfold va_pl; rw [List.map_nil, List.append_nil]; exact hP
  have hD' : va_D A (ws ++ va_pl [] (fun _ => .inr (0, []))) := by unfold va_pl; rw [List.map_nil, List.append_nil]; exact hD
  refine zk_mna (ty := .long) (cy := cJ) (N' := 7) (K' := 64) (z := (64, .inr (.inl (fun _ => 0)))) hexec hb hown hclink hover harr hcy hK hP' hD' hS hA (by decide) (by decide) (by decide) (by decide) (by decide) (by decide) (by decide) rfl rfl hcells hslots ?_ hdg (fun q r cA H1 hri hrl hK1 hP1 hD1 hS1 => ?_)
  · intro c9
    show ({ cls := c9, slots := Array.replicate 64 (defaultValue .long), vm := .none } : Cell) = _
    rw [arrV_new]
    rfl
  · have h1 := (hK1.2 tys.length (cA, .array .long) (by simp)).2
    have h2 := (hK.2 t3 (cQ, .array .long) ht3).2
    have e0 : cA = cQ := Option.some.inj ((show s.vm.findClass ("[" ++ (FieldType.array FieldType.long).toString) = some cA from h1).symm.trans h2)
    subst e0
    have e1 : va_pl ([] ++ (List.range 7).map r) (vr_up (fun _ => .inr (0, [])) ((List.range 7).map r) (.inl (cJ, 64, .inr (.inl (fun _ => 0))))) = ([(r 0, .inl (cJ, 64, .inr (.inl (fun _ => 0)))), (r 1, .inl (cJ, 64, .inr (.inl (fun _ => 0)))), (r 2, .inl (cJ, 64, .inr (.inl (fun _ => 0)))), (r 3, .inl (cJ, 64, .inr (.inl (fun _ => 0)))), (r 4, .inl (cJ, 64, .inr (.inl (fun _ => 0)))), (r 5, .inl (cJ, 64, .inr (.inl (fun _ => 0)))), (r 6, .inl (cJ, 64, .inr (.inl (fun _ => 0))))] : va_W) := by
      rw [show List.range 7 = [0, 1, 2, 3, 4, 5, 6] from rfl]
      simp [va_pl, vr_up]
    rw [e1, List.append_assoc] at hP1 hD1
    exact kk q r H1 hP1 hD1 hS1
end ZKN
section ZKO
variable {l : Launch} {D : va_G} {tL tO : Nat} {tys : List (ClassId × FieldType)} {y : MethodName} {ws ws' : List Cond} {f n maxL mc ms : Nat} {av : List Value} {wc : va_W} {w1 : (Nat → Nat) → va_W} {cc : ByteArray}
theorem zk_of_n (hy : plainName y.cls = true) (hw : ws = Cond.code y cc maxL none :: ws') (hav : (lg_sl av).length ≤ maxL) (hyn : y.name = "<init>")
    (body : ∀ (p : Program) (e : Env) (R : Room) (s : State) (m : MethodId) (args : Array Value) (below : List Frame) (meth : Method) (c : Code) (A : Nat → Prop) (Q : State → Prop) (ls : Array Slot),
      p.tables.exec = Jvm.exec → c.code = cc → c.maxLocals = maxL → f ≤ R.frames → n ≤ R.locals → (mc ≤ R.cells ∧ ms ≤ R.slots) → meth.name = "<init>" → (∀ w ∈ ws, w.before args s = true) → s.vm.findClass y.cls = some m.cls → va_P D vwCl wc s.heap → va_K D vwCl tys s → va_D A wc → (∀ q, s.heap.size ≤ q → A q) → va_S A s.heap s.heap [] → zk_G tL tO A s s.heap → lv_has ls maxL (lv_args 0 av) →
      (∀ (q : Nat → Nat) (H : Heap) (locs : List Loc) (pc : Nat) (ls : Array Slot), va_P D vwCl (w1 q) H → va_D A (w1 q) → va_S A s.heap H locs → decode cc pc = .ok (.return_, 1) → W p l e R s m args below meth c H locs mc ms Q (F0 m pc ls [])) →
      W p l e R s m args below meth c s.heap [] 0 0 Q (F0 m 0 ls [])) : zk_CN l D tL tO tys y ws f n mc ms av wc w1 := by
  intro sz
  refine Met.ofW (cc := cc) (maxL := maxL) (ret := none) hy hw ?_
  intro p e s m args below meth c s₁ B hml hv
  obtain ⟨rfl, hsz, hP, hK, hD0, hG⟩ := hv
  subst hsz
  have hx := B.exec
  have hb := B.bytes
  have hr := B.returns
  have hts := atoms_spec (ws := ws) B.pre
  have hown : s.vm.findClass y.cls = some m.cls := findClass_of_methodNamed B.named
  have hlocks := B.notSynchronized
  have hin : meth.name = "<init>" := by rw [← hyn]; exact (name_of_methodNamed B.named B.method).1
  have hl := lv_entry av (n := maxL) hav
  rw [lg_entry_eq]
  refine body p e _ s m _ below meth c (va_A wc s.heap.size) _ _ hx hb hml (Nat.le_refl _) (Nat.le_refl _) ⟨Nat.le_refl _, Nat.le_refl _⟩ hin hts hown hP hK (hD0.self (sz := s.heap.size)) (fun q h => Or.inr h) va_S.rf hG hl ?_
  intro q H locs pc ls hP1 hD1 hS1 hdg
  exact W.vret hx hb hr (fun t ht hW => ⟨⟨rfl, q, by rw [ht]; exact hP1, hD1⟩, hS1.F ht⟩) hS1.2.2 hdg
end ZKO
