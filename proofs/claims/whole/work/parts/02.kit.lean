/-! my own rows: a contract whose answer and world are told outright (a pure function of the text decides them), and what a call of it gives -/
def zk_nw : List Cond := [.fieldLinkNest "SayingsMerged" 66 "SayingsMerged$Text" "length" "I" "SayingsMerged", .fieldLinkNest "SayingsMerged$Reader" 102 "SayingsMerged$Text" "tokens" "[I" "SayingsMerged", .fieldLinkNest "SayingsMerged$Reader" 93 "SayingsMerged$Text" "places" "[I" "SayingsMerged", .fieldLinkNest "SayingsMerged" 82 "SayingsMerged$Reader" "fault" "I" "SayingsMerged", .fieldLinkNest "SayingsMerged" 91 "SayingsMerged$Told" "laws" "I" "SayingsMerged", .fieldLinkNest "SayingsMerged$Reader" 49 "SayingsMerged$Told" "laws" "I" "SayingsMerged", .fieldLinkNest "SayingsMerged" 101 "SayingsMerged$Told" "there" "J" "SayingsMerged", .fieldLinkNest "SayingsMerged" 94 "SayingsMerged$Told" "sayers" "I" "SayingsMerged", .fieldLinkNest "SayingsMerged$Reader" 59 "SayingsMerged$Told" "sayers" "I" "SayingsMerged", .fieldLinkNest "SayingsMerged" 108 "SayingsMerged$Told" "says" "[J" "SayingsMerged", .fieldLinkNest "SayingsMerged" 212 "SayingsMerged$Told" "weights" "[I" "SayingsMerged", .fieldLinkNest "SayingsMerged" 111 "SayingsMerged$Distances" "costs" "[I" "SayingsMerged", .fieldLinkNest "SayingsMerged" 115 "SayingsMerged$Distances" "alike" "Z" "SayingsMerged", .fieldLinkNest "SayingsMerged" 122 "SayingsMerged$Distances" "lengths" "[I" "SayingsMerged", .methodLinkNest "SayingsMerged$Text" 42 yX4_isLetter "SayingsMerged", .methodLinkNest "SayingsMerged$Reader" 85 yX4_isLetter "SayingsMerged", .fieldLinkNest "SayingsMerged$Reader" 89 "SayingsMerged" "LETTER_SO" "[J" "SayingsMerged", .methodLinkNest "SayingsMerged$Distances" 42 yX4_isIn "SayingsMerged"]
def zk_isN (w : Cond) : Bool := match w with
  | .fieldLinkNest .. => true
  | .methodLinkNest .. => true
  | _ => false
theorem zk_nw_is : ∀ w ∈ zk_nw, zk_isN w = true := by decide +kernel
theorem zk_warm {w : Cond} (h : zk_isN w = true) {s U : State} (hW : s.WarmedH U.vm) (hZ : va_Nw w s) : va_Nw w U := by
  cases w <;> first | exact va_Nw.warmF hW hZ | exact va_Nw.warmM hW hZ | (simp [zk_isN] at h)
theorem zk_same {w : Cond} (h : zk_isN w = true) {u U : State} (hv : u.vm = U.vm) (hZ : va_Nw w u) : va_Nw w U := by
  cases w <;> first | exact va_Nw.same rfl hv hZ | (simp [zk_isN] at h)
/-- the two static arrays -/
def zk_LS : Nat → Int64 := fun j => match j with
  | 0 => -6148914691236517206
  | 1 => -3689348814741910324
  | 2 => -1085102592571150096
  | 3 => -71777214294589696
  | 4 => -281470681808896
  | _ => -4294967296
def zk_OR : Nat → Int32 := fun j => match j with
  | 0 => 1
  | 1 => 1
  | 2 => 2
  | 3 => 6
  | 4 => 24
  | 5 => 120
  | 6 => 720
  | _ => 5040
theorem zk_AOA.moved {ty : FieldType} {u U : State} (hvm : u.vm.Alike U.vm) (h : zk_AOA ty u) : zk_AOA ty U := by
  obtain ⟨comp, c, k, h1, h2, h3, h4, h5⟩ := Jvm.Stand.arrayOver_specB h
  obtain ⟨k', hk', he⟩ := hvm.2.2 _ _ h3
  have hi : (U.vm.classes.findIdx? fun (x : Class) => match x.kind with | .array component _ => component == comp | _ => false) = some c := by
    refine (va_idx_bare U.vm comp).symm.trans ?_
    have hbb : U.vm.bare = u.vm.bare := by first | exact hvm.bare_eq | exact hvm.bare_eq.symm
    rw [hbb]
    exact (va_idx_bare u.vm comp).trans h2
  have hkind : k'.kind = .array comp (.array ty) := by rw [he]; exact h4
  have f1 : U.vm.findClass (FieldType.array ty).toString = some comp := by rw [hvm.findClass]; exact h1
  have f2 : U.vm.findClass ("[" ++ (FieldType.array ty).toString) = some c := by rw [hvm.findClass]; exact h5
  unfold zk_AOA Cond.before Cond.holds
  simp only [Cond.value]
  rw [f1, Option.bind_some]
  refine (congrArg (fun o : Option Nat => (o.bind (fun c => (U.vm.classes[c]?).map fun (k : Class) => match k.kind with | .array _ t => decide (t = FieldType.array ty) && decide (U.vm.findClass ("[" ++ (FieldType.array ty).toString) = some c) | _ => false) == some true)) hi).trans ?_
  simp [hk', hkind, f2]
def zk_G (tL tO : Nat) (A : Nat → Prop) (U : State) (H : Heap) : Prop :=
  (∀ w ∈ zk_nw, va_Nw w U) ∧ va_Z "SayingsMerged" "LETTER_SO" "[J" (.ref tL) A U H ∧ va_T .long tL 6 (fun j => .long (zk_LS j)) A U H ∧ va_Z "SayingsMerged" "ORDERS" "[I" (.ref tO) A U H ∧ va_T .int tO 8 (fun j => .int (zk_OR j)) A U H ∧ zk_AOA .long U
theorem zk_G.pass {tL tO : Nat} {A B : Nat → Prop} {s U : State} {H : Heap} {locs : List Loc} (h : zk_G tL tO A s s.heap) (hS : va_S A s.heap H locs) (hBA : ∀ q, B q → A q) (hU : U.heap = H) (hW : s.WarmedH U.vm) : zk_G tL tO B U U.heap := by
  obtain ⟨h1, h2, h3, h4, h5, h6⟩ := h
  rw [hU]
  have hk : ∀ a : Nat, a < s.heap.size → ¬ A a → H[a]? = s.heap[a]? := hS.2.1
  exact ⟨fun w hw => zk_warm (zk_nw_is w hw) hW (h1 w hw), ((h2.kept hk).narrow hBA).moved hW.alike, ((h3.kept hk).narrow hBA).moved hW.alike, ((h4.kept hk).narrow hBA).moved hW.alike, ((h5.kept hk).narrow hBA).moved hW.alike, h6.moved hW.alike⟩
abbrev zk_R (f n : Nat) : Room := { frames := f, cells := 0, slots := 0, locals := n }
abbrev zk_ty (cI cJ cB cQ : ClassId) : List (ClassId × FieldType) := [(cI, .int), (cJ, .long), (cB, .byte), (cQ, .array .long)]
def zk_Pc (D : va_G) (tL tO : Nat) (tys : List (ClassId × FieldType)) (av : List Value) (wc : va_W) (sz : Nat) : Array Value → State → Prop :=
  va_Pc av (fun U => U.heap.size = sz ∧ va_P D vwCl wc U.heap ∧ va_K D vwCl tys U ∧ va_D (fun _ => True) wc ∧ zk_G tL tO (va_A wc sz) U U.heap)
def zk_Qc (D : va_G) (rv : Option Value) (wc w1 : va_W) (sz : Nat) : Array Value → State → Outcome → State → Prop :=
  fun _ st oc t => (oc = .returned rv ∧ va_P D vwCl w1 t.heap ∧ va_D (va_A wc sz) w1) ∧ va_F (va_A wc sz) st t
/-- the contract: with these arguments over the cells wc it answers rv, and the cells are w1; nothing is made -/
def zk_CT (l : Launch) (D : va_G) (tL tO : Nat) (tys : List (ClassId × FieldType)) (y : MethodName) (ws : List Cond) (f n : Nat) (av : List Value) (rv : Option Value) (wc w1 : va_W) : Prop :=
  ∀ sz : Nat, Met l y ws (zk_R f n) (zk_Pc D tL tO tys av wc sz) (zk_Qc D rv wc w1 sz) 0 0 (va_A wc sz)
theorem zk_blind {D : va_G} {tL tO : Nat} {tys : List (ClassId × FieldType)} {av : List Value} {wc : va_W} {sz : Nat} : FrameBlind (zk_Pc D tL tO tys av wc sz) := by
  intro a U g mk q
  obtain ⟨q0, q1, qP, qK, qD, g1, g2, g3, g4, g5, g6⟩ := q
  refine ⟨q0, q1, qP, va_K.moved (u := U) (U := U.calling g mk a) (Vm.Alike.refl U.vm) qK, qD, fun w hw => zk_same (u := U) (U := U.calling g mk a) (zk_nw_is w hw) rfl (g1 w hw), ?_, ?_, ?_, ?_, ?_⟩
  · exact g2.moved (U := U.calling g mk a) (Vm.Alike.refl U.vm)
  · exact g3.moved (U := U.calling g mk a) (Vm.Alike.refl U.vm)
  · exact g4.moved (U := U.calling g mk a) (Vm.Alike.refl U.vm)
  · exact g5.moved (U := U.calling g mk a) (Vm.Alike.refl U.vm)
  · exact g6.moved (U := U.calling g mk a) (Vm.Alike.refl U.vm)
theorem zk_sub {D : va_G} {cl : List vw_C} {ws ws' : va_W} {H : Heap} (h : va_P D cl ws H) (is : List Nat) (hs : is.map (fun i => ws[i]?) = ws'.map some) : va_P D cl ws' H := by
  intro k q hk
  have h1 : (is.map (fun i => ws[i]?))[k]? = some (some q) := by rw [hs, List.getElem?_map, hk]; rfl
  rw [List.getElem?_map] at h1
  cases hi : is[k]? with
  | none => rw [hi] at h1; cases h1
  | some i => rw [hi] at h1; exact h i q (Option.some.inj h1)
/-- the pure words -/
def zk_gd {α : Type} (b : Bool) (k : Option α) : Option α := match b with
  | true => k
  | false => none
theorem zk_gd_s {α : Type} {b : Bool} {k : Option α} {z : α} (h : zk_gd b k = some z) : b = true ∧ k = some z := by
  cases b with
  | true => exact ⟨rfl, h⟩
  | false => cases h
theorem zk_gd_t {α : Type} (k : Option α) : zk_gd true k = k := rfl
theorem zk_ob {α β : Type} {o : Option α} {g : α → Option β} {z : β} (h : o.bind g = some z) : ∃ v, o = some v ∧ g v = some z := by
  cases o with
  | none => cases h
  | some v => exact ⟨v, rfl, h⟩
def zk_lt {α β : Type} (a : α) (k : α → Option β) : Option β := k a
theorem zk_lt_s {α β : Type} {a : α} {k : α → Option β} {z : β} (h : zk_lt a k = some z) : ∃ x, x = a ∧ k x = some z := ⟨a, rfl, h⟩
theorem zk_t {α : Type} {c : Prop} [Decidable c] {a b : Option α} {z : α} (h : c) (hf : (if c then a else b) = some z) : a = some z := by rwa [if_pos h] at hf
theorem zk_f {α : Type} {c : Prop} [Decidable c] {a b : Option α} {z : α} (h : ¬ c) (hf : (if c then a else b) = some z) : b = some z := by rwa [if_neg h] at hf
def zk_in (i : Int32) (n : Nat) : Bool := decide (0 ≤ i.toInt) && decide (i.toInt < (n : Int))
theorem zk_in_s {i : Int32} {n : Nat} (h : zk_in i n = true) : vp_in i n := by
  simp only [zk_in, Bool.and_eq_true, decide_eq_true_eq] at h
  exact vp_in_iff.mpr h
theorem zk_in_of {i : Int32} {n : Nat} (h : 0 ≤ i.toInt) (h2 : i.toInt < (n : Int)) : zk_in i n = true := by
  simp only [zk_in, Bool.and_eq_true, decide_eq_true_eq]
  exact ⟨h, h2⟩
def zk_nz (i : Int32) : Bool := decide (¬ i = 0)
theorem zk_nz_s {i : Int32} (h : zk_nz i = true) : ¬ i = 0 := of_decide_eq_true h
/-- a number that is a truth value -/
def zk_b (i : Int32) : Bool := decide (i = 0 ∨ i = 1)
theorem zk_b_s {i : Int32} (h : zk_b i = true) : narrow .boolean (.int i) = .int i ∧ fits .boolean (.int i) = true := by
  have h2 : i = 0 ∨ i = 1 := of_decide_eq_true h
  rcases h2 with rfl | rfl
  · exact ⟨rfl, rfl⟩
  · exact ⟨rfl, rfl⟩
/-- seven places -/
theorem zk_7 {P : Nat → Prop} (h0 : P 0) (h1 : P 1) (h2 : P 2) (h3 : P 3) (h4 : P 4) (h5 : P 5) (h6 : P 6) : ∀ j : Nat, j < 7 → P j := by
  intro j hj
  match j, hj with
  | 0, _ => exact h0
  | 1, _ => exact h1
  | 2, _ => exact h2
  | 3, _ => exact h3
  | 4, _ => exact h4
  | 5, _ => exact h5
  | 6, _ => exact h6
  | n + 7, hj => exact absurd hj (by omega)
section ZKW
variable {p : Program} {l : Launch} {e : Env} {R : Room} {s : State} {m : MethodId} {args : Array Value} {below : List Frame} {meth : Method} {c : Code} {H : Heap} {locs : List Loc} {cells slots : Nat} {Q : State → Prop}
variable {cc : ByteArray} {pc nL : Nat} {ls : Array Slot} {rest st0 : List Value} {D : va_G} {A : Nat → Prop} {ws wc wr w1 w2 : va_W} {rv : Option Value} {a : Array Value}
theorem zk_topi {x y : Int32} (h : y = x) (k : W p l e R s m args below meth c H locs cells slots Q (F0 m pc ls (.int y :: rest))) : W p l e R s m args below meth c H locs cells slots Q (F0 m pc ls (.int x :: rest)) := h ▸ k
theorem zk_topl {x y : Int64} (h : y = x) (k : W p l e R s m args below meth c H locs cells slots Q (F0 m pc ls (.long y :: rest))) : W p l e R s m args below meth c H locs cells slots Q (F0 m pc ls (.long x :: rest)) := h ▸ k
/-- behind a call: the cells put together anew, in the order asked for -/
theorem zk_go (hr : va_Run p l e R s m args below meth c H locs cells slots 0 0 (F0 m pc ls st0) rest (zk_Qc D rv wc w1 H.size a) (va_A wc H.size)) (hP : va_P D vwCl ws H) (hD : va_D A ws) (hS : va_S A s.heap H locs) (hA : ∀ q, s.heap.size ≤ q → A q) (isC isR isP : List Nat)
    (hC : isC.map (fun i => ws[i]?) = wc.map some) (hR : isR.map (fun i => ws[i]?) = wr.map some) (hn : va_nd isR = true) (hdis : ∀ i ∈ isR, i ∉ isC) (hp : isP.map (fun i => (wr ++ w1)[i]?) = w2.map some) (hnp : va_nd isP = true)
    (kk : ∀ (H1 : Heap) (locs1 : List Loc), va_P D vwCl w2 H1 → va_D A w2 → va_S A s.heap H1 locs1 → W p l e R s m args below meth c H1 locs1 cells slots Q (F0 m (pc + 3) ls (rv.toList ++ rest))) : W p l e R s m args below meth c H locs cells slots Q (F0 m pc ls st0) := by
  have hFc := va_free hD hS hA isC hC
  intro T hT X
  obtain ⟨v, st₀, t, T', L, h0, X', hL, e1, e2, ⟨⟨hv, hP1, hD1⟩, hz, hk⟩, st⟩ := hr T hT X
  cases hv
  rw [h0] at hz hk
  have hj := va_join (wr := wr) (w1 := w1) hP hD isC isR hC hR hn hdis hk hFc hP1 hD1
  have hS1 : va_S A s.heap t.heap (locs ++ L) := ⟨Nat.le_trans hS.1 hz, fun q h1 h2 => by rw [hk q (Nat.lt_of_lt_of_le h1 hS.1) (fun z => h2 (hFc q z))]; exact hS.2.1 q h1 h2, fun q hq => by
      rcases List.mem_append.mp hq with h | h
      · exact hS.2.2 q h
      · exact hFc _ (hL q h)⟩
  obtain ⟨t2, a1, b1⟩ := kk t.heap (locs ++ L) (zk_sub hj.1 isP hp) (hj.2.sub isP hnp hp) hS1 T' e1 X'
  exact ⟨t2, st t2 a1, b1⟩
/-- behind a call that leaves its cells as they were -/
theorem zk_goR (hr : va_Run p l e R s m args below meth c H locs cells slots 0 0 (F0 m pc ls st0) rest (zk_Qc D rv wc wc H.size a) (va_A wc H.size)) (hP : va_P D vwCl ws H) (hD : va_D A ws) (hS : va_S A s.heap H locs) (hA : ∀ q, s.heap.size ≤ q → A q) (isC : List Nat)
    (hC : isC.map (fun i => ws[i]?) = wc.map some)
    (kk : ∀ (H1 : Heap) (locs1 : List Loc), va_P D vwCl ws H1 → va_S A s.heap H1 locs1 → W p l e R s m args below meth c H1 locs1 cells slots Q (F0 m (pc + 3) ls (rv.toList ++ rest))) : W p l e R s m args below meth c H locs cells slots Q (F0 m pc ls st0) := by
  have hFc := va_free hD hS hA isC hC
  intro T hT X
  obtain ⟨v, st₀, t, T', L, h0, X', hL, e1, e2, ⟨⟨hv, hP1, hD1⟩, hz, hk⟩, st⟩ := hr T hT X
  cases hv
  rw [h0] at hz hk
  have hP2 : va_P D vwCl ws t.heap := by
    intro k q hq
    have hlt := (hP k q hq).lt
    by_cases hin : va_A wc H.size q.1
    · rcases hin with ⟨j, e9, hj⟩ | hbig
      · have h1 : (isC.map (fun i => ws[i]?))[j]? = some (some (q.1, e9)) := by rw [hC, List.getElem?_map, hj]; rfl
        rw [List.getElem?_map] at h1
        cases hi : isC[j]? with
        | none => rw [hi] at h1; cases h1
        | some i =>
          rw [hi] at h1
          have h2 : ws[i]? = some (q.1, e9) := Option.some.inj h1
          have hik := hD.1 i k _ q h2 hq rfl
          subst hik
          have h3 : q = (q.1, e9) := Option.some.inj (hq.symm.trans h2)
          rw [h3]
          exact hP1 j _ hj
      · exact absurd hlt (Nat.not_lt.mpr hbig)
    · exact (hP k q hq).kept (hk q.1 hlt hin)
  have hS1 : va_S A s.heap t.heap (locs ++ L) := ⟨Nat.le_trans hS.1 hz, fun q h1 h2 => by rw [hk q (Nat.lt_of_lt_of_le h1 hS.1) (fun z => h2 (hFc q z))]; exact hS.2.1 q h1 h2, fun q hq => by
      rcases List.mem_append.mp hq with h | h
      · exact hS.2.2 q h
      · exact hFc _ (hL q h)⟩
  obtain ⟨t2, a1, b1⟩ := kk t.heap (locs ++ L) hP2 hS1 T' e1 X'
  exact ⟨t2, st t2 a1, b1⟩
end ZKW
section ZKC
variable {p : Program} {l : Launch} {e : Env} {R : Room} {s : State} {m : MethodId} {args : Array Value} {below : List Frame} {meth : Method} {c : Code} {H : Heap} {locs : List Loc} {cells slots : Nat} {Q : State → Prop}
variable {cc : ByteArray} {pc nL : Nat} {ls : Array Slot} {rest st0 : List Value} {D : va_G} {A : Nat → Prop} {ws wc wr w1 w2 : va_W} {rv : Option Value} {tL tO : Nat} {tys : List (ClassId × FieldType)}
variable {own C host : String} {index f n k maxL b q0 ci : Nat} {y : MethodName} {bytes : ByteArray} {ret : Option FieldType} {ws2 ws2' Ts : List Cond} {fs As : List Value} {qc : vw_C}
theorem zk_pre {av : List Value} (hPc : va_P D vwCl wc H) (hDc : va_D (fun _ => True) wc) (hK : va_K D vwCl tys s) (hG : zk_G tL tO A s s.heap) (hS : va_S A s.heap H locs) (hFc : ∀ q, va_A wc H.size q → A q) : ∀ U : State, U.heap = H → s.WarmedH U.vm → zk_Pc D tL tO tys av wc H.size av.toArray U :=
  fun U hU hW => ⟨rfl, by rw [hU], by rw [hU]; exact hPc, va_K.moved hW.alike hK, hDc, hG.pass hS hFc hU hW⟩
theorem zk_V (hx : p.tables.exec = Jvm.exec) (hb : c.code = cc) (hml : c.maxLocals = nL) (hown : s.vm.findClass own = some m.cls) (hts : ∀ w ∈ Ts, w.before args s = true) (hK : va_K D vwCl tys s) (hG : zk_G tL tO A s s.heap) (hP : va_P D vwCl ws H) (hD : va_D A ws) (hS : va_S A s.heap H locs) (hA : ∀ q, s.heap.size ≤ q → A q)
    (hT : GoodIn Ts (wsV own index C y ws2)) (hw : ws2 = Cond.code y bytes maxL ret :: ws2') (hd : y.cls = C ∧ y.cls ≠ "java/lang/invoke/MethodHandle" ∧ y.cls ≠ "java/lang/invoke/VarHandle" ∧ (parseMethodDescriptor y.desc).map (fun d => d.parameters.length) = some k) (hRf : f + 1 ≤ R.frames) (hRl : 8 + (maxL + 11) + n ≤ R.locals) (hcs : cells ≤ R.cells ∧ slots ≤ R.slots)
    (hM : zk_CT l D tL tO tys y ws2 f n (.ref b :: As) rv wc w1) (hq : vwCl[ci]? = some qc) (hqC : qc.1 = C) (q0 : Nat) (he : ws[q0]? = some (b, .inr (ci, fs))) (hls : ls.size = nL) (hst : st0 = As.reverse ++ .ref b :: rest) (hn : As.length = k) (hW : (rest.map fun v => v.category).sum ≤ 8) (hdg : decode cc pc = .ok (.invokevirtual index, 3))
    (isC : List Nat) (hC : isC.map (fun i => ws[i]?) = wc.map some) (hnC : va_nd isC = true) : va_Run p l e R s m args below meth c H locs cells slots 0 0 (F0 m pc ls st0) rest (zk_Qc D rv wc w1 H.size (Value.ref b :: As).toArray) (va_A wc H.size) := by
  have hFc := va_free hD hS hA isC hC
  subst hst
  have hrc := va_recv hK hP hq he
  rw [hqC] at hrc
  exact va_runV ⟨hx, hb, hml, hown, hts⟩ (hM H.size) (cwV k hts hT hw rfl rfl hd ⟨hRf, hRl⟩) ⟨zk_blind, hrc, zk_pre (zk_sub hP isC hC) ((hD.sub isC hnC hC).weaken (fun _ _ _ _ => trivial)) hK hG hS hFc⟩ rfl hn hls rfl (lv_room hW) hdg hcs
theorem zk_S (hx : p.tables.exec = Jvm.exec) (hb : c.code = cc) (hml : c.maxLocals = nL) (hown : s.vm.findClass own = some m.cls) (hts : ∀ w ∈ Ts, w.before args s = true) (hK : va_K D vwCl tys s) (hG : zk_G tL tO A s s.heap) (hP : va_P D vwCl ws H) (hD : va_D A ws) (hS : va_S A s.heap H locs) (hA : ∀ q, s.heap.size ≤ q → A q)
    (hT : GoodIn Ts (va_wsS own index y ws2)) (hw : ws2 = Cond.code y bytes maxL ret :: ws2') (hd : y.cls ≠ "java/lang/invoke/MethodHandle" ∧ y.cls ≠ "java/lang/invoke/VarHandle" ∧ (parseMethodDescriptor y.desc).map (fun d => d.parameters.length) = some k) (hRf : f + 1 ≤ R.frames) (hRl : 8 + (maxL + 11) + n ≤ R.locals) (hcs : cells ≤ R.cells ∧ slots ≤ R.slots)
    (hM : zk_CT l D tL tO tys y ws2 f n As rv wc w1) (hls : ls.size = nL) (hst : st0 = As.reverse ++ rest) (hn : As.length = k) (hW : (rest.map fun v => v.category).sum ≤ 8) (hdg : decode cc pc = .ok (.invokestatic index, 3))
    (isC : List Nat) (hC : isC.map (fun i => ws[i]?) = wc.map some) (hnC : va_nd isC = true) : va_Run p l e R s m args below meth c H locs cells slots 0 0 (F0 m pc ls st0) rest (zk_Qc D rv wc w1 H.size As.toArray) (va_A wc H.size) := by
  have hFc := va_free hD hS hA isC hC
  subst hst
  exact va_runS ⟨hx, hb, hml, hown, hts⟩ (hM H.size) (va_cwS k hts hT hw rfl rfl hd ⟨hRf, hRl⟩) ⟨zk_blind, zk_pre (zk_sub hP isC hC) ((hD.sub isC hnC hC).weaken (fun _ _ _ _ => trivial)) hK hG hS hFc⟩ rfl hn hls rfl (lv_room hW) hdg hcs
theorem zk_SN (hx : p.tables.exec = Jvm.exec) (hb : c.code = cc) (hml : c.maxLocals = nL) (hown : s.vm.findClass own = some m.cls) (hts : ∀ w ∈ Ts, w.before args s = true) (hK : va_K D vwCl tys s) (hG : zk_G tL tO A s s.heap) (hP : va_P D vwCl ws H) (hD : va_D A ws) (hS : va_S A s.heap H locs) (hA : ∀ q, s.heap.size ≤ q → A q)
    (hT : GoodIn Ts ws2) (hnw : Cond.methodLinkNest own index y host ∈ zk_nw) (hst0 : (Cond.static y).before args s = true) (hini : (Cond.initialized y.cls).before args s = true) (hw : ws2 = Cond.code y bytes maxL ret :: ws2') (hd : y.cls ≠ "java/lang/invoke/MethodHandle" ∧ y.cls ≠ "java/lang/invoke/VarHandle" ∧ (parseMethodDescriptor y.desc).map (fun d => d.parameters.length) = some k) (hRf : f + 1 ≤ R.frames) (hRl : 8 + (maxL + 11) + n ≤ R.locals) (hcs : cells ≤ R.cells ∧ slots ≤ R.slots)
    (hM : zk_CT l D tL tO tys y ws2 f n As rv wc w1) (hls : ls.size = nL) (hst : st0 = As.reverse ++ rest) (hn : As.length = k) (hW : (rest.map fun v => v.category).sum ≤ 8) (hdg : decode cc pc = .ok (.invokestatic index, 3))
    (isC : List Nat) (hC : isC.map (fun i => ws[i]?) = wc.map some) (hnC : va_nd isC = true) : va_Run p l e R s m args below meth c H locs cells slots 0 0 (F0 m pc ls st0) rest (zk_Qc D rv wc w1 H.size As.toArray) (va_A wc H.size) := by
  have hFc := va_free hD hS hA isC hC
  subst hst
  exact va_runSN ⟨hx, hb, hml, hown, hts⟩ (hM H.size) ⟨va_cnB k hts hT hw rfl rfl (hG.1 _ hnw) hini hd ⟨hRf, hRl⟩, hst0, trivial⟩ ⟨zk_blind, zk_pre (zk_sub hP isC hC) ((hD.sub isC hnC hC).weaken (fun _ _ _ _ => trivial)) hK hG hS hFc⟩ rfl hn hls rfl (lv_room hW) hdg hcs
/-- a row of an array of arrays -/
theorem zk_aald (hexec : p.tables.exec = Jvm.exec) (hb : c.code = cc) (hK : va_K D vwCl tys s) (hP : va_P D vwCl ws H) (q0 t0 : Nat) {a : Nat} {cA : ClassId} {N : Nat} {r : Nat → Nat} (ha : ws[q0]? = some (a, .inl (cA, N, .inr (.inr (.inr (.inr (fun i => if i < N then some (r i) else none))))))) (ht : tys[t0]? = some (cA, .array .long)) {i : Int32} (hin : vp_in i N) (hdg : decode cc pc = .ok (.aaload, 1))
    (kk : W p l e R s m args below meth c H locs cells slots Q (F0 m (pc + 1) ls (.ref (r i.toNatClampNeg) :: rest))) : W p l e R s m args below meth c H locs cells slots Q (F0 m pc ls (.int i :: .ref a :: rest)) := by
  have hlt : i.toNatClampNeg < N := Nat.not_le.mp fun q => hin (Or.inr q)
  exact W.aald (v := .ref (r i.toNatClampNeg)) (ty := .array .long) hexec hb (hP q0 _ ha) ((hK.2 t0 _ ht).1 N (fun j => va_rf (if j < N then some (r j) else none))) rfl (fun q => by cases q) (by show ¬ (i < 0 ∨ (arrV _ _ _).slots.size ≤ _); rw [arrV_size]; exact hin) (by show (arrV _ _ _).slots[_]? = _; rw [arrV_read _ _ hlt]; simp [va_rf, hlt]) rfl rfl hdg kk
end ZKC
section ZKM
variable {l : Launch} {D : va_G} {tL tO : Nat} {tys : List (ClassId × FieldType)} {y : MethodName} {ws ws' : List Cond} {f n maxL : Nat} {av : List Value} {wc w1 : va_W} {cc : ByteArray}
/-- a method's body, out of its entry: the ambient facts, and how it ends -/
def zk_Body (l : Launch) (D : va_G) (tL tO : Nat) (tys : List (ClassId × FieldType)) (y : MethodName) (ws : List Cond) (f n maxL : Nat) (av : List Value) (wc w1 : va_W) (cc : ByteArray) (op : Instr) (pay : Prop) (out : List Value) : Prop :=
  ∀ (p : Program) (e : Env) (R : Room) (s : State) (m : MethodId) (args : Array Value) (below : List Frame) (meth : Method) (c : Code) (A : Nat → Prop) (Q : State → Prop) (ls : Array Slot),
    p.tables.exec = Jvm.exec → c.code = cc → c.maxLocals = maxL → f ≤ R.frames → n ≤ R.locals → (∀ w ∈ ws, w.before args s = true) → s.vm.findClass y.cls = some m.cls → va_P D vwCl wc s.heap → va_K D vwCl tys s → va_D A wc → (∀ q, s.heap.size ≤ q → A q) → va_S A s.heap s.heap [] → zk_G tL tO A s s.heap → lv_has ls maxL (lv_args 0 av) →
    (pay → ∀ (H : Heap) (locs : List Loc) (pc : Nat) (ls : Array Slot), va_P D vwCl w1 H → va_D A w1 → va_S A s.heap H locs → decode cc pc = .ok (op, 1) → W p l e R s m args below meth c H locs 0 0 Q (F0 m pc ls out)) →
    W p l e R s m args below meth c s.heap [] 0 0 Q (F0 m 0 ls [])
theorem zk_of_i {r : Int32} (hy : plainName y.cls = true) (hw : ws = Cond.code y cc maxL (some .int) :: ws') (hav : (lg_sl av).length ≤ maxL) (body : zk_Body l D tL tO tys y ws f n maxL av wc w1 cc .ireturn True [.int r]) : zk_CT l D tL tO tys y ws f n av (some (.int r)) wc w1 := by
  intro sz
  refine Met.ofW (cc := cc) (maxL := maxL) (ret := some .int) hy hw ?_
  intro p e s m args below meth c s₁ B hml hv
  obtain ⟨rfl, hsz, hP, hK, hD0, hG⟩ := hv
  subst hsz
  have hx := B.exec
  have hb := B.bytes
  have hr := B.returns
  have hts := atoms_spec (ws := ws) B.pre
  have hown : s.vm.findClass y.cls = some m.cls := findClass_of_methodNamed B.named
  have hlocks := B.notSynchronized
  have hl := lv_entry av (n := maxL) hav
  rw [lg_entry_eq]
  refine body p e _ s m _ below meth c (va_A wc s.heap.size) _ _ hx hb hml (Nat.le_refl _) (Nat.le_refl _) hts hown hP hK (hD0.self (sz := s.heap.size)) (fun q h => Or.inr h) va_S.rf hG hl ?_
  intro _ H locs pc ls hP1 hD1 hS1 hdg
  exact W.iret hx hb hr (fun t ht hW => ⟨⟨rfl, by rw [ht]; exact hP1, hD1⟩, hS1.F ht⟩) hS1.2.2 hdg
theorem zk_of_l {r : Int64} (hy : plainName y.cls = true) (hw : ws = Cond.code y cc maxL (some .long) :: ws') (hav : (lg_sl av).length ≤ maxL) (body : zk_Body l D tL tO tys y ws f n maxL av wc w1 cc .lreturn True [.long r]) : zk_CT l D tL tO tys y ws f n av (some (.long r)) wc w1 := by
  intro sz
  refine Met.ofW (cc := cc) (maxL := maxL) (ret := some .long) hy hw ?_
  intro p e s m args below meth c s₁ B hml hv
  obtain ⟨rfl, hsz, hP, hK, hD0, hG⟩ := hv
  subst hsz
  have hx := B.exec
  have hb := B.bytes
  have hr := B.returns
  have hts := atoms_spec (ws := ws) B.pre
  have hown : s.vm.findClass y.cls = some m.cls := findClass_of_methodNamed B.named
  have hlocks := B.notSynchronized
  have hl := lv_entry av (n := maxL) hav
  rw [lg_entry_eq]
  refine body p e _ s m _ below meth c (va_A wc s.heap.size) _ _ hx hb hml (Nat.le_refl _) (Nat.le_refl _) hts hown hP hK (hD0.self (sz := s.heap.size)) (fun q h => Or.inr h) va_S.rf hG hl ?_
  intro _ H locs pc ls hP1 hD1 hS1 hdg
  exact W.lret hx hb hr (fun t ht hW => ⟨⟨rfl, by rw [ht]; exact hP1, hD1⟩, hS1.F ht⟩) hS1.2.2 hdg
theorem zk_of_z {r : Int32} (hy : plainName y.cls = true) (hw : ws = Cond.code y cc maxL (some .boolean) :: ws') (hav : (lg_sl av).length ≤ maxL) (body : zk_Body l D tL tO tys y ws f n maxL av wc w1 cc .ireturn (narrow .boolean (.int r) = .int r) [.int r]) : zk_CT l D tL tO tys y ws f n av (some (.int r)) wc w1 := by
  intro sz
  refine Met.ofW (cc := cc) (maxL := maxL) (ret := some .boolean) hy hw ?_
  intro p e s m args below meth c s₁ B hml hv
  obtain ⟨rfl, hsz, hP, hK, hD0, hG⟩ := hv
  subst hsz
  have hx := B.exec
  have hb := B.bytes
  have hr := B.returns
  have hts := atoms_spec (ws := ws) B.pre
  have hown : s.vm.findClass y.cls = some m.cls := findClass_of_methodNamed B.named
  have hlocks := B.notSynchronized
  have hl := lv_entry av (n := maxL) hav
  rw [lg_entry_eq]
  refine body p e _ s m _ below meth c (va_A wc s.heap.size) _ _ hx hb hml (Nat.le_refl _) (Nat.le_refl _) hts hown hP hK (hD0.self (sz := s.heap.size)) (fun q h => Or.inr h) va_S.rf hG hl ?_
  intro hn H locs pc ls hP1 hD1 hS1 hdg
  exact W.zret hx hb hr hn (fun t ht hW => ⟨⟨rfl, by rw [ht]; exact hP1, hD1⟩, hS1.F ht⟩) hS1.2.2 hdg
theorem zk_of_v (hy : plainName y.cls = true) (hw : ws = Cond.code y cc maxL none :: ws') (hav : (lg_sl av).length ≤ maxL) (body : zk_Body l D tL tO tys y ws f n maxL av wc w1 cc .return_ True []) : zk_CT l D tL tO tys y ws f n av none wc w1 := by
  intro sz
  refine Met.ofW (cc := cc) (maxL := maxL) (ret := none) hy hw ?_
  intro p e s m args below meth c s₁ B hml hv
  obtain ⟨rfl, hsz, hP, hK, hD0, hG⟩ := hv
  subst hsz
  have hx := B.exec
  have hb := B.bytes
  have hr := B.returns
  have hts := atoms_spec (ws := ws) B.pre
  have hown : s.vm.findClass y.cls = some m.cls := findClass_of_methodNamed B.named
  have hlocks := B.notSynchronized
  have hl := lv_entry av (n := maxL) hav
  rw [lg_entry_eq]
  refine body p e _ s m _ below meth c (va_A wc s.heap.size) _ _ hx hb hml (Nat.le_refl _) (Nat.le_refl _) hts hown hP hK (hD0.self (sz := s.heap.size)) (fun q h => Or.inr h) va_S.rf hG hl ?_
  intro _ H locs pc ls hP1 hD1 hS1 hdg
  exact W.vret hx hb hr (fun t ht hW => ⟨⟨rfl, by rw [ht]; exact hP1, hD1⟩, hS1.F ht⟩) hS1.2.2 hdg
end ZKM
