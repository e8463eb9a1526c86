theorem hd_X2_init : yX2_init.cls ≠ "java/lang/invoke/MethodHandle" ∧ yX2_init.cls ≠ "java/lang/invoke/VarHandle" ∧ (parseMethodDescriptor yX2_init.desc).map (fun d => d.parameters.length) = some 0 := by decide +kernel
set_option maxHeartbeats 4000000 in
set_option maxRecDepth 100000 in
theorem zc_X2_init (l : Launch) (D : va_G) (tL tO : Nat) (cI cJ cB cQ : ClassId) (a_tx : Nat) : zk_CN l D tL tO (zk_ty cI cJ cB cQ) yX2_init wsX2_init 1 12 3 902 [.ref a_tx] [(a_tx, .inr (2, [.null, .int (0 : Int32), .null, .null]))] (fun q => [(a_tx, .inr (2, [.ref (q 0), .int (0 : Int32), .ref (q 1), .ref (q 2)])), ((q 0), .inl (cI, 300, .inl (fun _ => (0 : Int32)))), ((q 1), .inl (cI, 301, .inl (fun _ => (0 : Int32)))), ((q 2), .inl (cI, 301, .inl (fun _ => (0 : Int32))))]) := by
  refine zk_of_n (cc := cX2_init) (maxL := 1) (by decide) rfl (Nat.le_of_ble_eq_true rfl) rfl ?_
  intro p e R s m args below meth c A Q ls hx hb hml hRf hRl hcs hin hts hown hP hK hD hA hS hG hl hret
  have hl : lv_has ls 1 [(0, .ref a_tx)] := hl
  have hown : s.vm.findClass RX2 = some m.cls := hown
  have lk0 := hts (.methodLink RX2 3 objectInit) (by decide +kernel)
  have lk1 := hts (.instanceMethod objectInit) (by decide +kernel)
  have lk2 := hts (.code objectInit ⟨#[0xb1]⟩ 1 none) (by decide +kernel)
  have lk3 := hts (.arrayClass .int) (by decide +kernel)
  have lk4 := hts (.fieldLink RX2 9 "SayingsMerged$Text" "bytes" "[I") (by decide +kernel)
  have inX2 : ∀ w ∈ wsX20, w ∈ wsX2_init := by decide +kernel
  have lk6 := hts (.fieldLink RX2 15 "SayingsMerged$Text" "length" "I") (by decide +kernel)
  have lk7 := hts (.fieldLink RX2 19 "SayingsMerged$Text" "tokens" "[I") (by decide +kernel)
  have lk8 := hts (.fieldLink RX2 22 "SayingsMerged$Text" "places" "[I") (by decide +kernel)
  refine lv_aload_n hx hb dX2_init_0 rfl (lv_at hl 0 rfl) ?_
  refine W.objInit hx hb hown lk0 lk1 lk2 rfl (by rw [hml]; exact hl.1) rfl dX2_init_1 (Nat.le_trans (Nat.le_of_ble_eq_true rfl) hRf) (Nat.le_trans (Nat.le_of_ble_eq_true rfl) hRl) ?_
  refine W.eq (g2 := F0 m 4 ls []) rfl ?_
  refine lv_aload_n hx hb dX2_init_4 rfl (lv_at hl 0 rfl) ?_
  refine lv_sipush (v := (300 : Int32)) hx hb dX2_init_5 (by decide) ?_
  refine zk_newI hx hb lk3 hK hP hD hS hA 300 (by decide) rfl (Nat.le_trans (Nat.le_of_ble_eq_true rfl) hcs.1) (Nat.le_trans (Nat.le_of_ble_eq_true rfl) hcs.2) dX2_init_8 0 rfl (fun q1 H hP hD hS => ?_)
  have hP : va_P D vwCl [(a_tx, .inr (2, [.null, .int (0 : Int32), .null, .null])), (q1, .inl (cI, 300, .inl (fun _ => (0 : Int32))))] H := hP
  have hD : va_D A [(a_tx, .inr (2, [.null, .int (0 : Int32), .null, .null])), (q1, .inl (cI, 300, .inl (fun _ => (0 : Int32))))] := hD
  refine W.widen (k := 1) (n := 300) (Nat.le_of_ble_eq_true rfl) (Nat.le_of_ble_eq_true rfl) ?_
  refine va_putF (ci := 2) (v := .ref q1) (ty := .array .int) (C := RX2) (T := TX2) (N := 4) hx hb hts inX2 tyX2 tyX2_ok nmX2 hown hK hP hD hS 0 rfl rfl 0 (by decide) lk4 (fun _ h9 => h9) rfl hin rfl (by decide +kernel) rfl rfl (Nat.le_of_ble_eq_true rfl) dX2_init_10 (fun H locs hP hD hS => ?_)
  have hP : va_P D vwCl [(a_tx, .inr (2, [.ref q1, .int (0 : Int32), .null, .null])), (q1, .inl (cI, 300, .inl (fun _ => (0 : Int32))))] H := hP
  have hD : va_D A [(a_tx, .inr (2, [.ref q1, .int (0 : Int32), .null, .null])), (q1, .inl (cI, 300, .inl (fun _ => (0 : Int32))))] := hD
  refine lv_aload_n hx hb dX2_init_13 rfl (lv_at hl 0 rfl) ?_
  refine lv_iconst (v := (0 : Int32)) hx hb dX2_init_14 (by decide) ?_
  refine va_put (ci := 2) (v := .int (0 : Int32)) (ty := .int) (C := RX2) (T := TX2) (N := 4) hx hb hts inX2 tyX2 tyX2_ok nmX2 hown hK hP hD hS 0 rfl rfl 1 (by decide) lk6 (fun _ h9 => h9) rfl (by decide +kernel) rfl rfl (Nat.le_of_ble_eq_true rfl) dX2_init_15 (fun H locs hP hD hS => ?_)
  have hP : va_P D vwCl [(a_tx, .inr (2, [.ref q1, .int (0 : Int32), .null, .null])), (q1, .inl (cI, 300, .inl (fun _ => (0 : Int32))))] H := hP
  have hD : va_D A [(a_tx, .inr (2, [.ref q1, .int (0 : Int32), .null, .null])), (q1, .inl (cI, 300, .inl (fun _ => (0 : Int32))))] := hD
  refine lv_aload_n hx hb dX2_init_18 rfl (lv_at hl 0 rfl) ?_
  refine lv_sipush (v := (301 : Int32)) hx hb dX2_init_19 (by decide) ?_
  refine zk_newI hx hb lk3 hK hP hD hS hA 301 (by decide) rfl (Nat.le_trans (Nat.le_of_ble_eq_true rfl) hcs.1) (Nat.le_trans (Nat.le_of_ble_eq_true rfl) hcs.2) dX2_init_22 0 rfl (fun q2 H hP hD hS => ?_)
  have hP : va_P D vwCl [(a_tx, .inr (2, [.ref q1, .int (0 : Int32), .null, .null])), (q1, .inl (cI, 300, .inl (fun _ => (0 : Int32)))), (q2, .inl (cI, 301, .inl (fun _ => (0 : Int32))))] H := hP
  have hD : va_D A [(a_tx, .inr (2, [.ref q1, .int (0 : Int32), .null, .null])), (q1, .inl (cI, 300, .inl (fun _ => (0 : Int32)))), (q2, .inl (cI, 301, .inl (fun _ => (0 : Int32))))] := hD
  refine W.widen (k := 2) (n := 601) (Nat.le_of_ble_eq_true rfl) (Nat.le_of_ble_eq_true rfl) ?_
  refine va_putF (ci := 2) (v := .ref q2) (ty := .array .int) (C := RX2) (T := TX2) (N := 4) hx hb hts inX2 tyX2 tyX2_ok nmX2 hown hK hP hD hS 0 rfl rfl 2 (by decide) lk7 (fun _ h9 => h9) rfl hin rfl (by decide +kernel) rfl rfl (Nat.le_of_ble_eq_true rfl) dX2_init_24 (fun H locs hP hD hS => ?_)
  have hP : va_P D vwCl [(a_tx, .inr (2, [.ref q1, .int (0 : Int32), .ref q2, .null])), (q1, .inl (cI, 300, .inl (fun _ => (0 : Int32)))), (q2, .inl (cI, 301, .inl (fun _ => (0 : Int32))))] H := hP
  have hD : va_D A [(a_tx, .inr (2, [.ref q1, .int (0 : Int32), .ref q2, .null])), (q1, .inl (cI, 300, .inl (fun _ => (0 : Int32)))), (q2, .inl (cI, 301, .inl (fun _ => (0 : Int32))))] := hD
  refine lv_aload_n hx hb dX2_init_27 rfl (lv_at hl 0 rfl) ?_
  refine lv_sipush (v := (301 : Int32)) hx hb dX2_init_28 (by decide) ?_
  refine zk_newI hx hb lk3 hK hP hD hS hA 301 (by decide) rfl (Nat.le_trans (Nat.le_of_ble_eq_true rfl) hcs.1) (Nat.le_trans (Nat.le_of_ble_eq_true rfl) hcs.2) dX2_init_31 0 rfl (fun q3 H hP hD hS => ?_)
  have hP : va_P D vwCl [(a_tx, .inr (2, [.ref q1, .int (0 : Int32), .ref q2, .null])), (q1, .inl (cI, 300, .inl (fun _ => (0 : Int32)))), (q2, .inl (cI, 301, .inl (fun _ => (0 : Int32)))), (q3, .inl (cI, 301, .inl (fun _ => (0 : Int32))))] H := hP
  have hD : va_D A [(a_tx, .inr (2, [.ref q1, .int (0 : Int32), .ref q2, .null])), (q1, .inl (cI, 300, .inl (fun _ => (0 : Int32)))), (q2, .inl (cI, 301, .inl (fun _ => (0 : Int32)))), (q3, .inl (cI, 301, .inl (fun _ => (0 : Int32))))] := hD
  refine W.widen (k := 3) (n := 902) (Nat.le_of_ble_eq_true rfl) (Nat.le_of_ble_eq_true rfl) ?_
  refine va_putF (ci := 2) (v := .ref q3) (ty := .array .int) (C := RX2) (T := TX2) (N := 4) hx hb hts inX2 tyX2 tyX2_ok nmX2 hown hK hP hD hS 0 rfl rfl 3 (by decide) lk8 (fun _ h9 => h9) rfl hin rfl (by decide +kernel) rfl rfl (Nat.le_of_ble_eq_true rfl) dX2_init_33 (fun H locs hP hD hS => ?_)
  have hP : va_P D vwCl [(a_tx, .inr (2, [.ref q1, .int (0 : Int32), .ref q2, .ref q3])), (q1, .inl (cI, 300, .inl (fun _ => (0 : Int32)))), (q2, .inl (cI, 301, .inl (fun _ => (0 : Int32)))), (q3, .inl (cI, 301, .inl (fun _ => (0 : Int32))))] H := hP
  have hD : va_D A [(a_tx, .inr (2, [.ref q1, .int (0 : Int32), .ref q2, .ref q3])), (q1, .inl (cI, 300, .inl (fun _ => (0 : Int32)))), (q2, .inl (cI, 301, .inl (fun _ => (0 : Int32)))), (q3, .inl (cI, 301, .inl (fun _ => (0 : Int32))))] := hD
  exact hret (fun i => match i with | 0 => q1 | 1 => q2 | 2 => q3 | _ => 0) _ _ _ _ (zk_sub hP [0, 1, 2, 3] rfl) (hD.sub [0, 1, 2, 3] rfl rfl) hS dX2_init_36
theorem hd_X1_init : yX1_init.cls ≠ "java/lang/invoke/MethodHandle" ∧ yX1_init.cls ≠ "java/lang/invoke/VarHandle" ∧ (parseMethodDescriptor yX1_init.desc).map (fun d => d.parameters.length) = some 1 := by decide +kernel
set_option maxHeartbeats 4000000 in
set_option maxRecDepth 100000 in
theorem zc_X1_init (l : Launch) (D : va_G) (tL tO : Nat) (cI cJ cB cQ : ClassId) (a_rd a_tx : Nat) : zk_CN l D tL tO (zk_ty cI cJ cB cQ) yX1_init wsX1_init 1 12 0 0 [.ref a_rd, .ref a_tx] [(a_rd, .inr (1, [.null, .int (0 : Int32), .int (0 : Int32), .int (0 : Int32)]))] (fun q => [(a_rd, .inr (1, [.ref a_tx, .int (0 : Int32), .int (258 : Int32), .int (-1 : Int32)]))]) := by
  refine zk_of_n (cc := cX1_init) (maxL := 2) (by decide) rfl (Nat.le_of_ble_eq_true rfl) rfl ?_
  intro p e R s m args below meth c A Q ls hx hb hml hRf hRl hcs hin hts hown hP hK hD hA hS hG hl hret
  have hl : lv_has ls 2 [(0, .ref a_rd), (1, .ref a_tx)] := hl
  have hown : s.vm.findClass RX1 = some m.cls := hown
  have lk0 := hts (.methodLink RX1 3 objectInit) (by decide +kernel)
  have lk1 := hts (.instanceMethod objectInit) (by decide +kernel)
  have lk2 := hts (.code objectInit ⟨#[0xb1]⟩ 1 none) (by decide +kernel)
  have lk3 := hts (.fieldLink RX1 9 "SayingsMerged$Reader" "text" "LSayingsMerged$Text;") (by decide +kernel)
  have inX1 : ∀ w ∈ wsX10, w ∈ wsX1_init := by decide +kernel
  have lk5 := hts (.fieldLink RX1 15 "SayingsMerged$Reader" "at" "I") (by decide +kernel)
  have lk6 := hts (.fieldLink RX1 19 "SayingsMerged$Reader" "token" "I") (by decide +kernel)
  have lk7 := hts (.fieldLink RX1 22 "SayingsMerged$Reader" "fault" "I") (by decide +kernel)
  refine lv_aload_n hx hb dX1_init_0 rfl (lv_at hl 0 rfl) ?_
  refine W.objInit hx hb hown lk0 lk1 lk2 rfl (by rw [hml]; exact hl.1) rfl dX1_init_1 (Nat.le_trans (Nat.le_of_ble_eq_true rfl) hRf) (Nat.le_trans (Nat.le_of_ble_eq_true rfl) hRl) ?_
  refine W.eq (g2 := F0 m 4 ls []) rfl ?_
  refine lv_aload_n hx hb dX1_init_4 rfl (lv_at hl 0 rfl) ?_
  refine lv_aload_n hx hb dX1_init_5 rfl (lv_at hl 1 rfl) ?_
  refine va_putF (ci := 1) (v := .ref a_tx) (ty := .object "SayingsMerged$Text") (C := RX1) (T := TX1) (N := 4) hx hb hts inX1 tyX1 tyX1_ok nmX1 hown hK hP hD hS 0 rfl rfl 0 (by decide) lk3 (fun _ h9 => h9) rfl hin rfl (by decide +kernel) rfl rfl (Nat.le_of_ble_eq_true rfl) dX1_init_6 (fun H locs hP hD hS => ?_)
  have hP : va_P D vwCl [(a_rd, .inr (1, [.ref a_tx, .int (0 : Int32), .int (0 : Int32), .int (0 : Int32)]))] H := hP
  have hD : va_D A [(a_rd, .inr (1, [.ref a_tx, .int (0 : Int32), .int (0 : Int32), .int (0 : Int32)]))] := hD
  refine lv_aload_n hx hb dX1_init_9 rfl (lv_at hl 0 rfl) ?_
  refine lv_iconst (v := (0 : Int32)) hx hb dX1_init_10 (by decide) ?_
  refine va_put (ci := 1) (v := .int (0 : Int32)) (ty := .int) (C := RX1) (T := TX1) (N := 4) hx hb hts inX1 tyX1 tyX1_ok nmX1 hown hK hP hD hS 0 rfl rfl 1 (by decide) lk5 (fun _ h9 => h9) rfl (by decide +kernel) rfl rfl (Nat.le_of_ble_eq_true rfl) dX1_init_11 (fun H locs hP hD hS => ?_)
  have hP : va_P D vwCl [(a_rd, .inr (1, [.ref a_tx, .int (0 : Int32), .int (0 : Int32), .int (0 : Int32)]))] H := hP
  have hD : va_D A [(a_rd, .inr (1, [.ref a_tx, .int (0 : Int32), .int (0 : Int32), .int (0 : Int32)]))] := hD
  refine lv_aload_n hx hb dX1_init_14 rfl (lv_at hl 0 rfl) ?_
  refine lv_sipush (v := (258 : Int32)) hx hb dX1_init_15 (by decide) ?_
  refine va_put (ci := 1) (v := .int (258 : Int32)) (ty := .int) (C := RX1) (T := TX1) (N := 4) hx hb hts inX1 tyX1 tyX1_ok nmX1 hown hK hP hD hS 0 rfl rfl 2 (by decide) lk6 (fun _ h9 => h9) rfl (by decide +kernel) rfl rfl (Nat.le_of_ble_eq_true rfl) dX1_init_18 (fun H locs hP hD hS => ?_)
  have hP : va_P D vwCl [(a_rd, .inr (1, [.ref a_tx, .int (0 : Int32), .int (258 : Int32), .int (0 : Int32)]))] H := hP
  have hD : va_D A [(a_rd, .inr (1, [.ref a_tx, .int (0 : Int32), .int (258 : Int32), .int (0 : Int32)]))] := hD
  refine lv_aload_n hx hb dX1_init_21 rfl (lv_at hl 0 rfl) ?_
  refine lv_iconst (v := (-1 : Int32)) hx hb dX1_init_22 (by decide) ?_
  refine va_put (ci := 1) (v := .int (-1 : Int32)) (ty := .int) (C := RX1) (T := TX1) (N := 4) hx hb hts inX1 tyX1 tyX1_ok nmX1 hown hK hP hD hS 0 rfl rfl 3 (by decide) lk7 (fun _ h9 => h9) rfl (by decide +kernel) rfl rfl (Nat.le_of_ble_eq_true rfl) dX1_init_23 (fun H locs hP hD hS => ?_)
  have hP : va_P D vwCl [(a_rd, .inr (1, [.ref a_tx, .int (0 : Int32), .int (258 : Int32), .int (-1 : Int32)]))] H := hP
  have hD : va_D A [(a_rd, .inr (1, [.ref a_tx, .int (0 : Int32), .int (258 : Int32), .int (-1 : Int32)]))] := hD
  exact hret (fun _ => 0) _ _ _ _ (zk_sub hP [0] rfl) (hD.sub [0] rfl rfl) hS dX1_init_26
theorem hd_X3_init : yX3_init.cls ≠ "java/lang/invoke/MethodHandle" ∧ yX3_init.cls ≠ "java/lang/invoke/VarHandle" ∧ (parseMethodDescriptor yX3_init.desc).map (fun d => d.parameters.length) = some 0 := by decide +kernel
set_option maxHeartbeats 4000000 in
set_option maxRecDepth 100000 in
theorem zc_X3_init (l : Launch) (D : va_G) (tL tO : Nat) (cI cJ cB cQ : ClassId) (a_td : Nat) : zk_CN l D tL tO (zk_ty cI cJ cB cQ) yX3_init wsX3_init 1 12 2 14 [.ref a_td] [(a_td, .inr (3, [.int (0 : Int32), .long (0 : Int64), .int (0 : Int32), .null, .null]))] (fun q => [(a_td, .inr (3, [.int (0 : Int32), .long (-1 : Int64), .int (0 : Int32), .ref (q 0), .ref (q 1)])), ((q 0), .inl (cJ, 7, .inr (.inl (fun _ => (0 : Int64))))), ((q 1), .inl (cI, 7, .inl (fun _ => (0 : Int32))))]) := by
  refine zk_of_n (cc := cX3_init) (maxL := 1) (by decide) rfl (Nat.le_of_ble_eq_true rfl) rfl ?_
  intro p e R s m args below meth c A Q ls hx hb hml hRf hRl hcs hin hts hown hP hK hD hA hS hG hl hret
  have hl : lv_has ls 1 [(0, .ref a_td)] := hl
  have hown : s.vm.findClass RX3 = some m.cls := hown
  have lk0 := hts (.methodLink RX3 3 objectInit) (by decide +kernel)
  have lk1 := hts (.instanceMethod objectInit) (by decide +kernel)
  have lk2 := hts (.code objectInit ⟨#[0xb1]⟩ 1 none) (by decide +kernel)
  have lk3 := hts (.fieldLink RX3 9 "SayingsMerged$Told" "laws" "I") (by decide +kernel)
  have inX3 : ∀ w ∈ wsX30, w ∈ wsX3_init := by decide +kernel
  have lk5 := hts (.constantLong RX3 15 (-1)) (by decide +kernel)
  have lk6 := hts (.fieldLink RX3 17 "SayingsMerged$Told" "there" "J") (by decide +kernel)
  have lk7 := hts (.fieldLink RX3 21 "SayingsMerged$Told" "sayers" "I") (by decide +kernel)
  have lk8 := hts (.arrayClass .long) (by decide +kernel)
  have lk9 := hts (.fieldLink RX3 24 "SayingsMerged$Told" "says" "[J") (by decide +kernel)
  have lk10 := hts (.arrayClass .int) (by decide +kernel)
  have lk11 := hts (.fieldLink RX3 28 "SayingsMerged$Told" "weights" "[I") (by decide +kernel)
  refine lv_aload_n hx hb dX3_init_0 rfl (lv_at hl 0 rfl) ?_
  refine W.objInit hx hb hown lk0 lk1 lk2 rfl (by rw [hml]; exact hl.1) rfl dX3_init_1 (Nat.le_trans (Nat.le_of_ble_eq_true rfl) hRf) (Nat.le_trans (Nat.le_of_ble_eq_true rfl) hRl) ?_
  refine W.eq (g2 := F0 m 4 ls []) rfl ?_
  refine lv_aload_n hx hb dX3_init_4 rfl (lv_at hl 0 rfl) ?_
  refine lv_iconst (v := (0 : Int32)) hx hb dX3_init_5 (by decide) ?_
  refine va_put (ci := 3) (v := .int (0 : Int32)) (ty := .int) (C := RX3) (T := TX3) (N := 5) hx hb hts inX3 tyX3 tyX3_ok nmX3 hown hK hP hD hS 0 rfl rfl 0 (by decide) lk3 (fun _ h9 => h9) rfl (by decide +kernel) rfl rfl (Nat.le_of_ble_eq_true rfl) dX3_init_6 (fun H locs hP hD hS => ?_)
  have hP : va_P D vwCl [(a_td, .inr (3, [.int (0 : Int32), .long (0 : Int64), .int (0 : Int32), .null, .null]))] H := hP
  have hD : va_D A [(a_td, .inr (3, [.int (0 : Int32), .long (0 : Int64), .int (0 : Int32), .null, .null]))] := hD
  refine lv_aload_n hx hb dX3_init_9 rfl (lv_at hl 0 rfl) ?_
  refine lv_ldc2 hx hb hown lk5 dX3_init_10 ?_
  refine va_put (ci := 3) (v := .long (-1 : Int64)) (ty := .long) (C := RX3) (T := TX3) (N := 5) hx hb hts inX3 tyX3 tyX3_ok nmX3 hown hK hP hD hS 0 rfl rfl 1 (by decide) lk6 (fun _ h9 => h9) rfl (by decide +kernel) rfl rfl (Nat.le_of_ble_eq_true rfl) dX3_init_13 (fun H locs hP hD hS => ?_)
  have hP : va_P D vwCl [(a_td, .inr (3, [.int (0 : Int32), .long (-1 : Int64), .int (0 : Int32), .null, .null]))] H := hP
  have hD : va_D A [(a_td, .inr (3, [.int (0 : Int32), .long (-1 : Int64), .int (0 : Int32), .null, .null]))] := hD
  refine lv_aload_n hx hb dX3_init_16 rfl (lv_at hl 0 rfl) ?_
  refine lv_iconst (v := (0 : Int32)) hx hb dX3_init_17 (by decide) ?_
  refine va_put (ci := 3) (v := .int (0 : Int32)) (ty := .int) (C := RX3) (T := TX3) (N := 5) hx hb hts inX3 tyX3 tyX3_ok nmX3 hown hK hP hD hS 0 rfl rfl 2 (by decide) lk7 (fun _ h9 => h9) rfl (by decide +kernel) rfl rfl (Nat.le_of_ble_eq_true rfl) dX3_init_18 (fun H locs hP hD hS => ?_)
  have hP : va_P D vwCl [(a_td, .inr (3, [.int (0 : Int32), .long (-1 : Int64), .int (0 : Int32), .null, .null]))] H := hP
  have hD : va_D A [(a_td, .inr (3, [.int (0 : Int32), .long (-1 : Int64), .int (0 : Int32), .null, .null]))] := hD
  refine lv_aload_n hx hb dX3_init_21 rfl (lv_at hl 0 rfl) ?_
  refine lv_bipush (v := (7 : Int32)) hx hb dX3_init_22 (by decide) ?_
  refine zk_newJ hx hb lk8 hK hP hD hS hA 7 (by decide) rfl (Nat.le_trans (Nat.le_of_ble_eq_true rfl) hcs.1) (Nat.le_trans (Nat.le_of_ble_eq_true rfl) hcs.2) dX3_init_24 1 rfl (fun q1 H hP hD hS => ?_)
  have hP : va_P D vwCl [(a_td, .inr (3, [.int (0 : Int32), .long (-1 : Int64), .int (0 : Int32), .null, .null])), (q1, .inl (cJ, 7, .inr (.inl (fun _ => (0 : Int64)))))] H := hP
  have hD : va_D A [(a_td, .inr (3, [.int (0 : Int32), .long (-1 : Int64), .int (0 : Int32), .null, .null])), (q1, .inl (cJ, 7, .inr (.inl (fun _ => (0 : Int64)))))] := hD
  refine W.widen (k := 1) (n := 7) (Nat.le_of_ble_eq_true rfl) (Nat.le_of_ble_eq_true rfl) ?_
  refine va_putF (ci := 3) (v := .ref q1) (ty := .array .long) (C := RX3) (T := TX3) (N := 5) hx hb hts inX3 tyX3 tyX3_ok nmX3 hown hK hP hD hS 0 rfl rfl 3 (by decide) lk9 (fun _ h9 => h9) rfl hin rfl (by decide +kernel) rfl rfl (Nat.le_of_ble_eq_true rfl) dX3_init_26 (fun H locs hP hD hS => ?_)
  have hP : va_P D vwCl [(a_td, .inr (3, [.int (0 : Int32), .long (-1 : Int64), .int (0 : Int32), .ref q1, .null])), (q1, .inl (cJ, 7, .inr (.inl (fun _ => (0 : Int64)))))] H := hP
  have hD : va_D A [(a_td, .inr (3, [.int (0 : Int32), .long (-1 : Int64), .int (0 : Int32), .ref q1, .null])), (q1, .inl (cJ, 7, .inr (.inl (fun _ => (0 : Int64)))))] := hD
  refine lv_aload_n hx hb dX3_init_29 rfl (lv_at hl 0 rfl) ?_
  refine lv_bipush (v := (7 : Int32)) hx hb dX3_init_30 (by decide) ?_
  refine zk_newI hx hb lk10 hK hP hD hS hA 7 (by decide) rfl (Nat.le_trans (Nat.le_of_ble_eq_true rfl) hcs.1) (Nat.le_trans (Nat.le_of_ble_eq_true rfl) hcs.2) dX3_init_32 0 rfl (fun q2 H hP hD hS => ?_)
  have hP : va_P D vwCl [(a_td, .inr (3, [.int (0 : Int32), .long (-1 : Int64), .int (0 : Int32), .ref q1, .null])), (q1, .inl (cJ, 7, .inr (.inl (fun _ => (0 : Int64))))), (q2, .inl (cI, 7, .inl (fun _ => (0 : Int32))))] H := hP
  have hD : va_D A [(a_td, .inr (3, [.int (0 : Int32), .long (-1 : Int64), .int (0 : Int32), .ref q1, .null])), (q1, .inl (cJ, 7, .inr (.inl (fun _ => (0 : Int64))))), (q2, .inl (cI, 7, .inl (fun _ => (0 : Int32))))] := hD
  refine W.widen (k := 2) (n := 14) (Nat.le_of_ble_eq_true rfl) (Nat.le_of_ble_eq_true rfl) ?_
  refine va_putF (ci := 3) (v := .ref q2) (ty := .array .int) (C := RX3) (T := TX3) (N := 5) hx hb hts inX3 tyX3 tyX3_ok nmX3 hown hK hP hD hS 0 rfl rfl 4 (by decide) lk11 (fun _ h9 => h9) rfl hin rfl (by decide +kernel) rfl rfl (Nat.le_of_ble_eq_true rfl) dX3_init_34 (fun H locs hP hD hS => ?_)
  have hP : va_P D vwCl [(a_td, .inr (3, [.int (0 : Int32), .long (-1 : Int64), .int (0 : Int32), .ref q1, .ref q2])), (q1, .inl (cJ, 7, .inr (.inl (fun _ => (0 : Int64))))), (q2, .inl (cI, 7, .inl (fun _ => (0 : Int32))))] H := hP
  have hD : va_D A [(a_td, .inr (3, [.int (0 : Int32), .long (-1 : Int64), .int (0 : Int32), .ref q1, .ref q2])), (q1, .inl (cJ, 7, .inr (.inl (fun _ => (0 : Int64))))), (q2, .inl (cI, 7, .inl (fun _ => (0 : Int32))))] := hD
  exact hret (fun i => match i with | 0 => q1 | 1 => q2 | _ => 0) _ _ _ _ (zk_sub hP [0, 1, 2] rfl) (hD.sub [0, 1, 2] rfl rfl) hS dX3_init_37
def zl_X0_init_35  : Nat → (Int32) → (Nat → Int32) → Option (Int32 × (Nat → Int32))
  | 0, _, _ => none
  | n + 1, w4, w5 =>
    if (64 : Int32) ≤ w4 then
    some (w4, w5)
    else
    (zf_J6_bitCount_0f7a4 w4).bind (fun v6 =>
    zk_gd (zk_in w4 64)
    (zk_lt (w4 + 1) (fun y8 =>
    zl_X0_init_35 n y8 (upd w5 w4.toNatClampNeg v6))))
def zf_X0_init : Option ((Nat → Int32) × (Nat → Int32)) :=
  (zf_J7_fill_53178 (1 : Int32) 6 (fun _ => (0 : Int32))).bind (fun v2 =>
  (zl_X0_init_35 zk_F (0 : Int32) (fun _ => (0 : Int32))).bind (fun v10 =>
  some (v2, v10.2)))
theorem hd_X0_init : yX0_init.cls ≠ "java/lang/invoke/MethodHandle" ∧ yX0_init.cls ≠ "java/lang/invoke/VarHandle" ∧ (parseMethodDescriptor yX0_init.desc).map (fun d => d.parameters.length) = some 0 := by decide +kernel
set_option maxHeartbeats 4000000 in
set_option maxRecDepth 100000 in
theorem zc_X0_init (l : Launch) (D : va_G) (tL tO : Nat) (cI cJ cB cQ : ClassId) (a_ds : Nat) (z : (Nat → Int32) × (Nat → Int32)) (hf : zf_X0_init = some z) : zk_CN l D tL tO (zk_ty cI cJ cB cQ) yX0_init wsX0_init 1 23 2 70 [.ref a_ds] [(a_ds, .inr (0, [.null, .int (0 : Int32), .null]))] (fun q => [(a_ds, .inr (0, [.ref (q 0), .int (0 : Int32), .ref (q 1)])), ((q 0), .inl (cI, 6, .inl z.1)), ((q 1), .inl (cI, 64, .inl z.2))]) := by
  refine zk_of_n (cc := cX0_init) (maxL := 2) (by decide) rfl (Nat.le_of_ble_eq_true rfl) rfl ?_
  intro p e R s m args below meth c A Q ls hx hb hml hRf hRl hcs hin hts hown hP hK hD hA hS hG hl hret
  have hl : lv_has ls 2 [(0, .ref a_ds)] := hl
  have hown : s.vm.findClass RX0 = some m.cls := hown
  have lk0 := hts (.methodLink RX0 3 objectInit) (by decide +kernel)
  have lk1 := hts (.instanceMethod objectInit) (by decide +kernel)
  have lk2 := hts (.code objectInit ⟨#[0xb1]⟩ 1 none) (by decide +kernel)
  have lk3 := hts (.arrayClass .int) (by decide +kernel)
  have lk4 := hts (.fieldLink RX0 9 "SayingsMerged$Distances" "costs" "[I") (by decide +kernel)
  have inX0 : ∀ w ∈ wsX00, w ∈ wsX0_init := by decide +kernel
  have lk6 := hts (.fieldLink RX0 21 "SayingsMerged$Distances" "alike" "Z") (by decide +kernel)
  have lk7 := hts (.fieldLink RX0 25 "SayingsMerged$Distances" "lengths" "[I") (by decide +kernel)
  unfold zf_X0_init at hf
  refine lv_aload_n hx hb dX0_init_0 rfl (lv_at hl 0 rfl) ?_
  refine W.objInit hx hb hown lk0 lk1 lk2 rfl (by rw [hml]; exact hl.1) rfl dX0_init_1 (Nat.le_trans (Nat.le_of_ble_eq_true rfl) hRf) (Nat.le_trans (Nat.le_of_ble_eq_true rfl) hRl) ?_
  refine W.eq (g2 := F0 m 4 ls []) rfl ?_
  refine lv_aload_n hx hb dX0_init_4 rfl (lv_at hl 0 rfl) ?_
  refine lv_bipush (v := (6 : Int32)) hx hb dX0_init_5 (by decide) ?_
  refine zk_newI hx hb lk3 hK hP hD hS hA 6 (by decide) rfl (Nat.le_trans (Nat.le_of_ble_eq_true rfl) hcs.1) (Nat.le_trans (Nat.le_of_ble_eq_true rfl) hcs.2) dX0_init_7 0 rfl (fun q1 H hP hD hS => ?_)
  have hP : va_P D vwCl [(a_ds, .inr (0, [.null, .int (0 : Int32), .null])), (q1, .inl (cI, 6, .inl (fun _ => (0 : Int32))))] H := hP
  have hD : va_D A [(a_ds, .inr (0, [.null, .int (0 : Int32), .null])), (q1, .inl (cI, 6, .inl (fun _ => (0 : Int32))))] := hD
  refine W.widen (k := 1) (n := 6) (Nat.le_of_ble_eq_true rfl) (Nat.le_of_ble_eq_true rfl) ?_
  refine va_putF (ci := 0) (v := .ref q1) (ty := .array .int) (C := RX0) (T := TX0) (N := 3) hx hb hts inX0 tyX0 tyX0_ok nmX0 hown hK hP hD hS 0 rfl rfl 0 (by decide) lk4 (fun _ h9 => h9) rfl hin rfl (by decide +kernel) rfl rfl (Nat.le_of_ble_eq_true rfl) dX0_init_9 (fun H locs hP hD hS => ?_)
  have hP : va_P D vwCl [(a_ds, .inr (0, [.ref q1, .int (0 : Int32), .null])), (q1, .inl (cI, 6, .inl (fun _ => (0 : Int32))))] H := hP
  have hD : va_D A [(a_ds, .inr (0, [.ref q1, .int (0 : Int32), .null])), (q1, .inl (cI, 6, .inl (fun _ => (0 : Int32))))] := hD
  refine lv_aload_n hx hb dX0_init_12 rfl (lv_at hl 0 rfl) ?_
  refine va_get (ci := 0) (v := .ref q1) (C := RX0) (T := TX0) (N := 3) hx hb hts inX0 hown hK hP 0 rfl rfl 0 (by decide) lk4 (fun _ h9 => h9) rfl dX0_init_13 ?_
  refine lv_iconst (v := (1 : Int32)) hx hb dX0_init_16 (by decide) ?_
  obtain ⟨v2, hv2, hf⟩ := zk_ob hf
  refine zk_go (wr := [(a_ds, .inr (0, [.ref q1, .int (0 : Int32), .null]))]) (w2 := [(a_ds, .inr (0, [.ref q1, .int (0 : Int32), .null])), (q1, .inl (cI, 6, .inl v2))]) (zk_S (As := [.ref q1, .int (1 : Int32)]) (rest := []) hx hb hml hown hts hK hG hP hD hS hA gX0_init_J7_fill_53178 rfl hd_J7_fill_53178 (Nat.le_trans (Nat.le_of_ble_eq_true rfl) hRf) (Nat.le_trans (Nat.le_of_ble_eq_true rfl) hRl) ⟨Nat.le_trans (Nat.le_of_ble_eq_true rfl) hcs.1, Nat.le_trans (Nat.le_of_ble_eq_true rfl) hcs.2⟩ (zc_J7_fill_53178 l D tL tO cI cJ cB cQ q1 6 (1 : Int32) (fun _ => (0 : Int32)) v2 hv2) hl.1 rfl rfl (Nat.le_of_ble_eq_true rfl) dX0_init_17 [1] rfl rfl) hP hD hS hA [1] [0] [0, 1] rfl rfl rfl (by decide) rfl rfl (fun H locs hP hD hS => ?_)
  refine lv_aload_n hx hb dX0_init_20 rfl (lv_at hl 0 rfl) ?_
  refine lv_iconst (v := (0 : Int32)) hx hb dX0_init_21 (by decide) ?_
  refine va_put (ci := 0) (v := .int (0 : Int32)) (ty := .boolean) (C := RX0) (T := TX0) (N := 3) hx hb hts inX0 tyX0 tyX0_ok nmX0 hown hK hP hD hS 0 rfl rfl 1 (by decide) lk6 (fun _ h9 => h9) rfl (by decide +kernel) rfl rfl (Nat.le_of_ble_eq_true rfl) dX0_init_22 (fun H locs hP hD hS => ?_)
  have hP : va_P D vwCl [(a_ds, .inr (0, [.ref q1, .int (0 : Int32), .null])), (q1, .inl (cI, 6, .inl v2))] H := hP
  have hD : va_D A [(a_ds, .inr (0, [.ref q1, .int (0 : Int32), .null])), (q1, .inl (cI, 6, .inl v2))] := hD
  refine lv_aload_n hx hb dX0_init_25 rfl (lv_at hl 0 rfl) ?_
  refine lv_bipush (v := (64 : Int32)) hx hb dX0_init_26 (by decide) ?_
  refine zk_newI hx hb lk3 hK hP hD hS hA 64 (by decide) rfl (Nat.le_trans (Nat.le_of_ble_eq_true rfl) hcs.1) (Nat.le_trans (Nat.le_of_ble_eq_true rfl) hcs.2) dX0_init_28 0 rfl (fun q3 H hP hD hS => ?_)
  have hP : va_P D vwCl [(a_ds, .inr (0, [.ref q1, .int (0 : Int32), .null])), (q1, .inl (cI, 6, .inl v2)), (q3, .inl (cI, 64, .inl (fun _ => (0 : Int32))))] H := hP
  have hD : va_D A [(a_ds, .inr (0, [.ref q1, .int (0 : Int32), .null])), (q1, .inl (cI, 6, .inl v2)), (q3, .inl (cI, 64, .inl (fun _ => (0 : Int32))))] := hD
  refine W.widen (k := 2) (n := 70) (Nat.le_of_ble_eq_true rfl) (Nat.le_of_ble_eq_true rfl) ?_
  refine va_putF (ci := 0) (v := .ref q3) (ty := .array .int) (C := RX0) (T := TX0) (N := 3) hx hb hts inX0 tyX0 tyX0_ok nmX0 hown hK hP hD hS 0 rfl rfl 2 (by decide) lk7 (fun _ h9 => h9) rfl hin rfl (by decide +kernel) rfl rfl (Nat.le_of_ble_eq_true rfl) dX0_init_30 (fun H locs hP hD hS => ?_)
  have hP : va_P D vwCl [(a_ds, .inr (0, [.ref q1, .int (0 : Int32), .ref q3])), (q1, .inl (cI, 6, .inl v2)), (q3, .inl (cI, 64, .inl (fun _ => (0 : Int32))))] H := hP
  have hD : va_D A [(a_ds, .inr (0, [.ref q1, .int (0 : Int32), .ref q3])), (q1, .inl (cI, 6, .inl v2)), (q3, .inl (cI, 64, .inl (fun _ => (0 : Int32))))] := hD
  refine lv_iconst (v := (0 : Int32)) hx hb dX0_init_33 (by decide) ?_
  refine lv_istore_n (lv' := [(1, .int (0 : Int32)), (0, .ref a_ds)]) hx hb dX0_init_34 rfl hl (by decide) rfl (fun ls hl => ?_)
  have lp35 : ∀ (n : Nat) (w4 : Int32) (w5 : Nat → Int32) (z35 : Int32 × (Nat → Int32)) (H : Heap) (locs : List Loc) (ls : Array Slot), zl_X0_init_35 n w4 w5 = some z35 → va_P D vwCl [(a_ds, .inr (0, [.ref q1, .int (0 : Int32), .ref q3])), (q1, .inl (cI, 6, .inl v2)), (q3, .inl (cI, 64, .inl w5))] H → va_D A [(a_ds, .inr (0, [.ref q1, .int (0 : Int32), .ref q3])), (q1, .inl (cI, 6, .inl v2)), (q3, .inl (cI, 64, .inl w5))] → va_S A s.heap H locs → lv_has ls 2 [(0, .ref a_ds), (1, .int w4)] → (∀ (H : Heap) (locs : List Loc) (ls : Array Slot), va_P D vwCl [(a_ds, .inr (0, [.ref q1, .int (0 : Int32), .ref q3])), (q1, .inl (cI, 6, .inl v2)), (q3, .inl (cI, 64, .inl z35.2))] H → va_D A [(a_ds, .inr (0, [.ref q1, .int (0 : Int32), .ref q3])), (q1, .inl (cI, 6, .inl v2)), (q3, .inl (cI, 64, .inl z35.2))] → va_S A s.heap H locs → lv_has ls 2 [(0, .ref a_ds), (1, .int z35.1)] → W p l e R s m args below meth c H locs 2 70 Q (F0 m 57 ls [])) → W p l e R s m args below meth c H locs 2 70 Q (F0 m 35 ls []) := by
    intro n
    induction n with
    | zero => intro w4 w5 z35 H locs ls hf; exact absurd (show none = some z35 from hf) (by simp)
    | succ n ih =>
      intro w4 w5 z35 H locs ls hf hP hD hS hl hk
      rw [zl_X0_init_35] at hf
      refine lv_iload_n hx hb dX0_init_35 rfl (lv_at hl 1 rfl) ?_
      refine lv_bipush (v := (64 : Int32)) hx hb dX0_init_36 (by decide) ?_
      refine lv_icmp_ge (tgt := 57) hx hb dX0_init_38 (by decide) (fun c9 => ?_) (fun c9 => ?_)
      · have hf := zk_t c9 hf
        obtain rfl := Option.some.inj hf
        exact hk _ _ _ hP hD hS (lv_sub hl [0, 1] rfl)
      · have hf := zk_f c9 hf
        refine lv_aload_n hx hb dX0_init_41 rfl (lv_at hl 0 rfl) ?_
        refine va_get (ci := 0) (v := .ref q3) (C := RX0) (T := TX0) (N := 3) hx hb hts inX0 hown hK hP 0 rfl rfl 2 (by decide) lk7 (fun _ h9 => h9) rfl dX0_init_42 ?_
        refine lv_iload_n hx hb dX0_init_45 rfl (lv_at hl 1 rfl) ?_
        refine lv_iload_n hx hb dX0_init_46 rfl (lv_at hl 1 rfl) ?_
        obtain ⟨v6, hv6, hf⟩ := zk_ob hf
        refine zk_goR (zk_S (As := [.int w4]) (rest := [.int w4, .ref q3]) hx hb hml hown hts hK hG hP hD hS hA gX0_init_J6_bitCount_0f7a4 rfl hd_J6_bitCount_0f7a4 (Nat.le_trans (Nat.le_of_ble_eq_true rfl) hRf) (Nat.le_trans (Nat.le_of_ble_eq_true rfl) hRl) ⟨Nat.le_trans (Nat.le_of_ble_eq_true rfl) hcs.1, Nat.le_trans (Nat.le_of_ble_eq_true rfl) hcs.2⟩ (zc_J6_bitCount_0f7a4 l D tL tO cI cJ cB cQ w4 v6 hv6) hl.1 rfl rfl (Nat.le_of_ble_eq_true rfl) dX0_init_47 [] rfl rfl) hP hD hS hA [] rfl (fun H locs hP hS => ?_)
        obtain ⟨g7, hf⟩ := zk_gd_s hf
        refine va_iast hx hb hK hP hD hS 2 0 rfl rfl (zk_in_s g7) dX0_init_50 (fun H locs hP hD hS => ?_)
        have hP : va_P D vwCl [(a_ds, .inr (0, [.ref q1, .int (0 : Int32), .ref q3])), (q1, .inl (cI, 6, .inl v2)), (q3, .inl (cI, 64, .inl (upd w5 w4.toNatClampNeg v6)))] H := hP
        have hD : va_D A [(a_ds, .inr (0, [.ref q1, .int (0 : Int32), .ref q3])), (q1, .inl (cI, 6, .inl v2)), (q3, .inl (cI, 64, .inl (upd w5 w4.toNatClampNeg v6)))] := hD
        obtain ⟨y8, ey8, hf⟩ := zk_lt_s hf
        refine lv_iinc (v := y8) (lv' := [(1, .int y8), (0, .ref a_ds)]) hx hb dX0_init_51 hl (k := 1) rfl (by rw [ey8]; rfl) (by decide) rfl (fun ls hl => ?_)
        refine lv_goto (tgt := 35) hx hb dX0_init_54 (by decide) ?_
        exact ih y8 (upd w5 w4.toNatClampNeg v6) _ _ _ _ hf hP hD hS (lv_sub hl [1, 0] rfl) hk
  obtain ⟨v10, hv10, hf⟩ := zk_ob hf
  refine lp35 zk_F (0 : Int32) (fun _ => (0 : Int32)) v10 _ _ _ hv10 hP hD hS (lv_sub hl [1, 0] rfl) ?_
  intro H locs ls hP hD hS hl
  obtain rfl := Option.some.inj hf
  exact hret (fun i => match i with | 0 => q1 | 1 => q3 | _ => 0) _ _ _ _ (zk_sub hP [0, 1, 2] rfl) (hD.sub [0, 1, 2] rfl rfl) hS dX0_init_57
