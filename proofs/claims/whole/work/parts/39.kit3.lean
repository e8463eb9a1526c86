section ZKN
variable {p : Program} {l : Launch} {e : Env} {R : Room} {s : State} {m : MethodId} {args : Array Value} {below : List Frame} {meth : Method} {c : Code} {H : Heap} {locs : List Loc} {cells slots mc ms : Nat} {Q : State → Prop}
variable {cc : ByteArray} {pc nL : Nat} {ls : Array Slot} {rest st0 : List Value} {D : va_G} {A : Nat → Prop} {ws wc wr : va_W} {w1 : (Nat → Nat) → va_W} {a : Array Value} {tL tO : Nat} {tys : List (ClassId × FieldType)}
theorem zk_newI (hexec : p.tables.exec = Jvm.exec) (hb : c.code = cc) (harr : (Cond.arrayClass .int).before args s = true) (hK : va_K D vwCl tys s) (hP : va_P D vwCl ws H) (hD : va_D A ws) (hS : va_S A s.heap H locs) (hA : ∀ q, s.heap.size ≤ q → A q)
    (N : Nat) (hN : N < 4000) {n : Int32} (hn : n = nI N) (hcells : cells + 1 ≤ R.cells) (hslots : slots + N ≤ R.slots) (hdg : decode cc pc = .ok (.newarray .int, 2)) (t0 : Nat) {c0 : ClassId} (ht : tys[t0]? = some (c0, .int))
    (kk : ∀ (q : Nat) (H1 : Heap), va_P D vwCl (ws ++ [(q, .inl (c0, N, .inl (fun _ => 0)))]) H1 → va_D A (ws ++ [(q, .inl (c0, N, .inl (fun _ => 0)))]) → va_S A s.heap H1 locs →
      W p l e R s m args below meth c H1 locs (cells + 1) (slots + N) Q (F0 m (pc + 2) ls (.ref q :: rest))) : W p l e R s m args below meth c H locs cells slots Q (F0 m pc ls (.int n :: rest)) := by
  subst hn
  exact zk_newa (a0 := (N, .inl (fun _ => 0))) (N' := N) (atype := .int) (ty := .int) hexec hb harr rfl hK hP hD hS hA (fun _ => rfl) (nI_pos (by omega)) (nI_clamp (by omega)) (Nat.le_trans (Nat.mul_le_mul (Nat.le_of_lt hN) (show componentBytes .int ≤ 8 by decide)) (by decide)) hcells hslots hdg t0 ht (fun _ => rfl) kk
theorem zk_newJ (hexec : p.tables.exec = Jvm.exec) (hb : c.code = cc) (harr : (Cond.arrayClass .long).before args s = true) (hK : va_K D vwCl tys s) (hP : va_P D vwCl ws H) (hD : va_D A ws) (hS : va_S A s.heap H locs) (hA : ∀ q, s.heap.size ≤ q → A q)
    (N : Nat) (hN : N < 4000) {n : Int32} (hn : n = nI N) (hcells : cells + 1 ≤ R.cells) (hslots : slots + N ≤ R.slots) (hdg : decode cc pc = .ok (.newarray .long, 2)) (t0 : Nat) {c0 : ClassId} (ht : tys[t0]? = some (c0, .long))
    (kk : ∀ (q : Nat) (H1 : Heap), va_P D vwCl (ws ++ [(q, .inl (c0, N, .inr (.inl (fun _ => 0))))]) H1 → va_D A (ws ++ [(q, .inl (c0, N, .inr (.inl (fun _ => 0))))]) → va_S A s.heap H1 locs →
      W p l e R s m args below meth c H1 locs (cells + 1) (slots + N) Q (F0 m (pc + 2) ls (.ref q :: rest))) : W p l e R s m args below meth c H locs cells slots Q (F0 m pc ls (.int n :: rest)) := by
  subst hn
  exact zk_newa (a0 := (N, .inr (.inl (fun _ => 0)))) (N' := N) (atype := .long) (ty := .long) hexec hb harr rfl hK hP hD hS hA (fun _ => rfl) (nI_pos (by omega)) (nI_clamp (by omega)) (Nat.le_trans (Nat.mul_le_mul (Nat.le_of_lt hN) (show componentBytes .long ≤ 8 by decide)) (by decide)) hcells hslots hdg t0 ht (fun _ => rfl) kk
theorem zk_newB (hexec : p.tables.exec = Jvm.exec) (hb : c.code = cc) (harr : (Cond.arrayClass .byte).before args s = true) (hK : va_K D vwCl tys s) (hP : va_P D vwCl ws H) (hD : va_D A ws) (hS : va_S A s.heap H locs) (hA : ∀ q, s.heap.size ≤ q → A q)
    (N : Nat) (hN : N < 4000) {n : Int32} (hn : n = nI N) (hcells : cells + 1 ≤ R.cells) (hslots : slots + N ≤ R.slots) (hdg : decode cc pc = .ok (.newarray .byte, 2)) (t0 : Nat) {c0 : ClassId} (ht : tys[t0]? = some (c0, .byte))
    (kk : ∀ (q : Nat) (H1 : Heap), va_P D vwCl (ws ++ [(q, .inl (c0, N, .inl (fun _ => 0)))]) H1 → va_D A (ws ++ [(q, .inl (c0, N, .inl (fun _ => 0)))]) → va_S A s.heap H1 locs →
      W p l e R s m args below meth c H1 locs (cells + 1) (slots + N) Q (F0 m (pc + 2) ls (.ref q :: rest))) : W p l e R s m args below meth c H locs cells slots Q (F0 m pc ls (.int n :: rest)) := by
  subst hn
  exact zk_newa (a0 := (N, .inl (fun _ => 0))) (N' := N) (atype := .byte) (ty := .byte) hexec hb harr rfl hK hP hD hS hA (fun _ => rfl) (nI_pos (by omega)) (nI_clamp (by omega)) (Nat.le_trans (Nat.mul_le_mul (Nat.le_of_lt hN) (show componentBytes .byte ≤ 8 by decide)) (by decide)) hcells hslots hdg t0 ht (fun _ => rfl) kk
end ZKN
