def zf_X5_isSayer (x0 : Int32) (v_md_sayers : Int32) : Option (Int32) :=
  (zf_X5_in x0.toInt64 (0 : Int64) ((v_md_sayers - (1 : Int32)).toInt64)).bind (fun v1 =>
  zk_gd (zk_b v1) (some v1))
theorem hd_X5_isSayer : yX5_isSayer.cls = RX5 ∧ yX5_isSayer.cls ≠ "java/lang/invoke/MethodHandle" ∧ yX5_isSayer.cls ≠ "java/lang/invoke/VarHandle" ∧ (parseMethodDescriptor yX5_isSayer.desc).map (fun d => d.parameters.length) = some 1 := by decide +kernel
set_option maxHeartbeats 4000000 in
set_option maxRecDepth 100000 in
theorem zc_X5_isSayer (l : Launch) (D : va_G) (tL tO : Nat) (cI cJ cB cQ : ClassId) (a_md a_md_text a_md_weight a_md_says a_md_cost a_md_readWeight a_md_readSays a_md_opened a_md_any a_md_all a_md_burdens a_md_best a_md_own a_md_truth : Nat) (x0 : Int32) (v_md_length : Int32) (v_md_laws : Int32) (v_md_sayers : Int32) (v_md_there : Int64) (v_md_question : Int64) (v_md_measure : Int32) (v_md_trace : Int64) (v_md_readLaws : Int32) (v_md_readSayers : Int32) (v_md_readThere : Int64) (v_md_begin : Int32) (v_md_end : Int32) (v_md_sort : Int32) (v_md_open : Int32) (v_md_level : Int32) (v_md_said : Int64) (z : Int32) (hf : zf_X5_isSayer x0 v_md_sayers = some z) : zk_CT l D tL tO (zk_ty cI cJ cB cQ) yX5_isSayer wsX5_isSayer 1 25 [.ref a_md, .int x0] (some (.int z)) [(a_md, .inr (5, [.int v_md_length, .ref a_md_text, .int v_md_laws, .int v_md_sayers, .long v_md_there, .long v_md_question, .ref a_md_weight, .ref a_md_says, .ref a_md_cost, .int v_md_measure, .long v_md_trace, .int v_md_readLaws, .int v_md_readSayers, .long v_md_readThere, .ref a_md_readWeight, .ref a_md_readSays, .int v_md_begin, .int v_md_end, .int v_md_sort, .int v_md_open, .ref a_md_opened, .int v_md_level, .ref a_md_any, .ref a_md_all, .long v_md_said, .ref a_md_burdens, .ref a_md_best, .ref a_md_own, .ref a_md_truth]))] [(a_md, .inr (5, [.int v_md_length, .ref a_md_text, .int v_md_laws, .int v_md_sayers, .long v_md_there, .long v_md_question, .ref a_md_weight, .ref a_md_says, .ref a_md_cost, .int v_md_measure, .long v_md_trace, .int v_md_readLaws, .int v_md_readSayers, .long v_md_readThere, .ref a_md_readWeight, .ref a_md_readSays, .int v_md_begin, .int v_md_end, .int v_md_sort, .int v_md_open, .ref a_md_opened, .int v_md_level, .ref a_md_any, .ref a_md_all, .long v_md_said, .ref a_md_burdens, .ref a_md_best, .ref a_md_own, .ref a_md_truth]))] := by
  refine zk_of_z (cc := cX5_isSayer) (maxL := 2) (by decide) rfl (Nat.le_of_ble_eq_true rfl) ?_
  intro p e R s m args below meth c A Q ls hx hb hml hRf hRl hts hown hP hK hD hA hS hG hl hret
  have hl : lv_has ls 2 [(0, .ref a_md), (1, .int x0)] := hl
  have hown : s.vm.findClass RX5 = some m.cls := hown
  have hcs : 0 ≤ R.cells ∧ 0 ≤ R.slots := ⟨Nat.zero_le _, Nat.zero_le _⟩
  have lk0 := hts (.fieldLink RX5 142 "SayingsMergedModel" "sayers" "I") (by decide +kernel)
  have inX5 : ∀ w ∈ wsX50, w ∈ wsX5_isSayer := by decide +kernel
  unfold zf_X5_isSayer at hf
  refine lv_iload_n hx hb dX5_isSayer_0 rfl (lv_at hl 1 rfl) ?_
  refine lv_i2l hx hb dX5_isSayer_1 rfl ?_
  refine lv_lconst (v := (0 : Int64)) hx hb dX5_isSayer_2 (by decide) ?_
  refine lv_aload_n hx hb dX5_isSayer_3 rfl (lv_at hl 0 rfl) ?_
  refine va_get (ci := 5) (v := .int v_md_sayers) (C := RX5) (T := TX5) (N := 29) hx hb hts inX5 hown hK hP 0 rfl rfl 3 (by decide) lk0 (fun _ h9 => h9) rfl dX5_isSayer_4 ?_
  refine lv_iconst (v := (1 : Int32)) hx hb dX5_isSayer_7 (by decide) ?_
  refine lv_isub hx hb dX5_isSayer_8 ?_
  refine lv_i2l hx hb dX5_isSayer_9 rfl ?_
  obtain ⟨v1, hv1, hf⟩ := zk_ob hf
  refine zk_goR (zk_S (As := [.long x0.toInt64, .long (0 : Int64), .long ((v_md_sayers - (1 : Int32)).toInt64)]) (rest := []) hx hb hml hown hts hK hG hP hD hS hA gX5_isSayer_X5_in rfl hd_X5_in (Nat.le_trans (Nat.le_of_ble_eq_true rfl) hRf) (Nat.le_trans (Nat.le_of_ble_eq_true rfl) hRl) hcs (zc_X5_in l D tL tO cI cJ cB cQ x0.toInt64 (0 : Int64) ((v_md_sayers - (1 : Int32)).toInt64) v1 hv1) hl.1 rfl rfl (Nat.le_of_ble_eq_true rfl) dX5_isSayer_10 [] rfl rfl) hP hD hS hA [] rfl (fun H locs hP hS => ?_)
  obtain ⟨g2, hf⟩ := zk_gd_s hf
  obtain rfl := Option.some.inj hf
  exact hret (zk_b_s g2).1 _ _ _ _ hP hD hS dX5_isSayer_13
def zf_X5_worlds (x0 : Int32) (x1 : Int32) (v_md_sayers : Int32) (v_md_there : Int64) (v_md_question : Int64) (f_md_says : Nat → Int64) : Option (Int64) :=
  if x0 = 0 then
  some v_md_there
  else
  if x0 = (2 : Int32) then
  some v_md_question
  else
  if x0 = (1 : Int32) then
  (zf_X5_isSayer x1 v_md_sayers).bind (fun v1 =>
  if v1 = 0 then
  some (0 : Int64)
  else
  zk_gd (zk_in x1 7)
  (some (f_md_says x1.toNatClampNeg)))
  else
  some (0 : Int64)
theorem hd_X5_worlds : yX5_worlds.cls = RX5 ∧ yX5_worlds.cls ≠ "java/lang/invoke/MethodHandle" ∧ yX5_worlds.cls ≠ "java/lang/invoke/VarHandle" ∧ (parseMethodDescriptor yX5_worlds.desc).map (fun d => d.parameters.length) = some 2 := by decide +kernel
set_option maxHeartbeats 4000000 in
set_option maxRecDepth 100000 in
theorem zc_X5_worlds (l : Launch) (D : va_G) (tL tO : Nat) (cI cJ cB cQ : ClassId) (a_md a_md_text a_md_weight a_md_says a_md_cost a_md_readWeight a_md_readSays a_md_opened a_md_any a_md_all a_md_burdens a_md_best a_md_own a_md_truth : Nat) (x0 : Int32) (x1 : Int32) (v_md_length : Int32) (v_md_laws : Int32) (v_md_sayers : Int32) (v_md_there : Int64) (v_md_question : Int64) (v_md_measure : Int32) (v_md_trace : Int64) (v_md_readLaws : Int32) (v_md_readSayers : Int32) (v_md_readThere : Int64) (v_md_begin : Int32) (v_md_end : Int32) (v_md_sort : Int32) (v_md_open : Int32) (v_md_level : Int32) (v_md_said : Int64) (f_md_says : Nat → Int64) (z : Int64) (hf : zf_X5_worlds x0 x1 v_md_sayers v_md_there v_md_question f_md_says = some z) : zk_CT l D tL tO (zk_ty cI cJ cB cQ) yX5_worlds wsX5_worlds 2 46 [.ref a_md, .int x0, .int x1] (some (.long z)) [(a_md, .inr (5, [.int v_md_length, .ref a_md_text, .int v_md_laws, .int v_md_sayers, .long v_md_there, .long v_md_question, .ref a_md_weight, .ref a_md_says, .ref a_md_cost, .int v_md_measure, .long v_md_trace, .int v_md_readLaws, .int v_md_readSayers, .long v_md_readThere, .ref a_md_readWeight, .ref a_md_readSays, .int v_md_begin, .int v_md_end, .int v_md_sort, .int v_md_open, .ref a_md_opened, .int v_md_level, .ref a_md_any, .ref a_md_all, .long v_md_said, .ref a_md_burdens, .ref a_md_best, .ref a_md_own, .ref a_md_truth])), (a_md_says, .inl (cJ, 7, .inr (.inl f_md_says)))] [(a_md, .inr (5, [.int v_md_length, .ref a_md_text, .int v_md_laws, .int v_md_sayers, .long v_md_there, .long v_md_question, .ref a_md_weight, .ref a_md_says, .ref a_md_cost, .int v_md_measure, .long v_md_trace, .int v_md_readLaws, .int v_md_readSayers, .long v_md_readThere, .ref a_md_readWeight, .ref a_md_readSays, .int v_md_begin, .int v_md_end, .int v_md_sort, .int v_md_open, .ref a_md_opened, .int v_md_level, .ref a_md_any, .ref a_md_all, .long v_md_said, .ref a_md_burdens, .ref a_md_best, .ref a_md_own, .ref a_md_truth])), (a_md_says, .inl (cJ, 7, .inr (.inl f_md_says)))] := by
  refine zk_of_l (cc := cX5_worlds) (maxL := 3) (by decide) rfl (Nat.le_of_ble_eq_true rfl) ?_
  intro p e R s m args below meth c A Q ls hx hb hml hRf hRl hts hown hP hK hD hA hS hG hl hret
  have hl : lv_has ls 3 [(0, .ref a_md), (1, .int x0), (2, .int x1)] := hl
  have hown : s.vm.findClass RX5 = some m.cls := hown
  have hcs : 0 ≤ R.cells ∧ 0 ≤ R.slots := ⟨Nat.zero_le _, Nat.zero_le _⟩
  have lk0 := hts (.fieldLink RX5 26 "SayingsMergedModel" "says" "[J") (by decide +kernel)
  have inX5 : ∀ w ∈ wsX50, w ∈ wsX5_worlds := by decide +kernel
  have lk2 := hts (.fieldLink RX5 19 "SayingsMergedModel" "question" "J") (by decide +kernel)
  have lk3 := hts (.fieldLink RX5 15 "SayingsMergedModel" "there" "J") (by decide +kernel)
  unfold zf_X5_worlds at hf
  refine lv_iload_n hx hb dX5_worlds_0 rfl (lv_at hl 1 rfl) ?_
  refine lv_if_ne (tgt := 11) hx hb dX5_worlds_1 (by decide) (fun c6 => ?_) (fun c6 => ?_)
  · have hf := zk_f c6 hf
    refine lv_iload_n hx hb dX5_worlds_11 rfl (lv_at hl 1 rfl) ?_
    refine lv_iconst (v := (2 : Int32)) hx hb dX5_worlds_12 (by decide) ?_
    refine lv_icmp_ne (tgt := 23) hx hb dX5_worlds_13 (by decide) (fun c5 => ?_) (fun c5 => ?_)
    · have hf := zk_f c5 hf
      refine lv_iload_n hx hb dX5_worlds_23 rfl (lv_at hl 1 rfl) ?_
      refine lv_iconst (v := (1 : Int32)) hx hb dX5_worlds_24 (by decide) ?_
      refine lv_icmp_ne (tgt := 45) hx hb dX5_worlds_25 (by decide) (fun c4 => ?_) (fun c4 => ?_)
      · have hf := zk_f c4 hf
        refine lv_lconst (v := (0 : Int64)) hx hb dX5_worlds_45 (by decide) ?_
        obtain rfl := Option.some.inj hf
        exact hret trivial _ _ _ _ hP hD hS dX5_worlds_46
      · have hf := zk_t c4 hf
        refine lv_aload_n hx hb dX5_worlds_28 rfl (lv_at hl 0 rfl) ?_
        refine lv_iload_n hx hb dX5_worlds_29 rfl (lv_at hl 2 rfl) ?_
        obtain ⟨v1, hv1, hf⟩ := zk_ob hf
        refine zk_goR (zk_V (As := [.int x1]) (rest := []) hx hb hml hown hts hK hG hP hD hS hA gX5_worlds_X5_isSayer rfl hd_X5_isSayer (Nat.le_trans (Nat.le_of_ble_eq_true rfl) hRf) (Nat.le_trans (Nat.le_of_ble_eq_true rfl) hRl) hcs (zc_X5_isSayer l D tL tO cI cJ cB cQ a_md a_md_text a_md_weight a_md_says a_md_cost a_md_readWeight a_md_readSays a_md_opened a_md_any a_md_all a_md_burdens a_md_best a_md_own a_md_truth x1 v_md_length v_md_laws v_md_sayers v_md_there v_md_question v_md_measure v_md_trace v_md_readLaws v_md_readSayers v_md_readThere v_md_begin v_md_end v_md_sort v_md_open v_md_level v_md_said v1 hv1) rfl rfl 0 rfl hl.1 rfl rfl (Nat.le_of_ble_eq_true rfl) dX5_worlds_30 [0] rfl rfl) hP hD hS hA [0] rfl (fun H locs hP hS => ?_)
        refine lv_if_eq (tgt := 45) hx hb dX5_worlds_33 (by decide) (fun c3 => ?_) (fun c3 => ?_)
        · have hf := zk_t c3 hf
          refine lv_lconst (v := (0 : Int64)) hx hb dX5_worlds_45 (by decide) ?_
          obtain rfl := Option.some.inj hf
          exact hret trivial _ _ _ _ hP hD hS dX5_worlds_46
        · have hf := zk_f c3 hf
          refine lv_aload_n hx hb dX5_worlds_36 rfl (lv_at hl 0 rfl) ?_
          refine va_get (ci := 5) (v := .ref a_md_says) (C := RX5) (T := TX5) (N := 29) hx hb hts inX5 hown hK hP 0 rfl rfl 7 (by decide) lk0 (fun _ h9 => h9) rfl dX5_worlds_37 ?_
          refine lv_iload_n hx hb dX5_worlds_40 rfl (lv_at hl 2 rfl) ?_
          obtain ⟨g2, hf⟩ := zk_gd_s hf
          refine va_lald hx hb hK hP 1 1 rfl rfl (zk_in_s g2) dX5_worlds_41 ?_
          refine lv_goto (tgt := 46) hx hb dX5_worlds_42 (by decide) ?_
          obtain rfl := Option.some.inj hf
          exact hret trivial _ _ _ _ hP hD hS dX5_worlds_46
    · have hf := zk_t c5 hf
      refine lv_aload_n hx hb dX5_worlds_16 rfl (lv_at hl 0 rfl) ?_
      refine va_get (ci := 5) (v := .long v_md_question) (C := RX5) (T := TX5) (N := 29) hx hb hts inX5 hown hK hP 0 rfl rfl 5 (by decide) lk2 (fun _ h9 => h9) rfl dX5_worlds_17 ?_
      refine lv_goto (tgt := 46) hx hb dX5_worlds_20 (by decide) ?_
      obtain rfl := Option.some.inj hf
      exact hret trivial _ _ _ _ hP hD hS dX5_worlds_46
  · have hf := zk_t c6 hf
    refine lv_aload_n hx hb dX5_worlds_4 rfl (lv_at hl 0 rfl) ?_
    refine va_get (ci := 5) (v := .long v_md_there) (C := RX5) (T := TX5) (N := 29) hx hb hts inX5 hown hK hP 0 rfl rfl 4 (by decide) lk3 (fun _ h9 => h9) rfl dX5_worlds_5 ?_
    refine lv_goto (tgt := 46) hx hb dX5_worlds_8 (by decide) ?_
    obtain rfl := Option.some.inj hf
    exact hret trivial _ _ _ _ hP hD hS dX5_worlds_46
def zf_X5_cost (x0 : Int32) (x1 : Int32) (f_md_cost : Nat → Int32) : Option (Int32 × (Nat → Int32)) :=
  (zf_X5_in x0.toInt64 (0 : Int64) (5 : Int64)).bind (fun v1 =>
  if v1 = 0 then
  some ((-1 : Int32), f_md_cost)
  else
  (zf_X5_in x1.toInt64 (0 : Int64) (9 : Int64)).bind (fun v2 =>
  if v2 = 0 then
  some ((-1 : Int32), f_md_cost)
  else
  zk_gd (zk_in x0 6)
  (zk_lt (f_md_cost x0.toNatClampNeg) (fun y4 =>
  some (y4, upd f_md_cost x0.toNatClampNeg x1)))))
theorem hd_X5_cost : yX5_cost.cls = RX5 ∧ yX5_cost.cls ≠ "java/lang/invoke/MethodHandle" ∧ yX5_cost.cls ≠ "java/lang/invoke/VarHandle" ∧ (parseMethodDescriptor yX5_cost.desc).map (fun d => d.parameters.length) = some 2 := by decide +kernel
set_option maxHeartbeats 4000000 in
set_option maxRecDepth 100000 in
theorem zc_X5_cost (l : Launch) (D : va_G) (tL tO : Nat) (cI cJ cB cQ : ClassId) (a_md a_md_text a_md_weight a_md_says a_md_cost a_md_readWeight a_md_readSays a_md_opened a_md_any a_md_all a_md_burdens a_md_best a_md_own a_md_truth : Nat) (x0 : Int32) (x1 : Int32) (v_md_length : Int32) (v_md_laws : Int32) (v_md_sayers : Int32) (v_md_there : Int64) (v_md_question : Int64) (v_md_measure : Int32) (v_md_trace : Int64) (v_md_readLaws : Int32) (v_md_readSayers : Int32) (v_md_readThere : Int64) (v_md_begin : Int32) (v_md_end : Int32) (v_md_sort : Int32) (v_md_open : Int32) (v_md_level : Int32) (v_md_said : Int64) (f_md_cost : Nat → Int32) (z : Int32 × (Nat → Int32)) (hf : zf_X5_cost x0 x1 f_md_cost = some z) : zk_CT l D tL tO (zk_ty cI cJ cB cQ) yX5_cost wsX5_cost 1 25 [.ref a_md, .int x0, .int x1] (some (.int z.1)) [(a_md, .inr (5, [.int v_md_length, .ref a_md_text, .int v_md_laws, .int v_md_sayers, .long v_md_there, .long v_md_question, .ref a_md_weight, .ref a_md_says, .ref a_md_cost, .int v_md_measure, .long v_md_trace, .int v_md_readLaws, .int v_md_readSayers, .long v_md_readThere, .ref a_md_readWeight, .ref a_md_readSays, .int v_md_begin, .int v_md_end, .int v_md_sort, .int v_md_open, .ref a_md_opened, .int v_md_level, .ref a_md_any, .ref a_md_all, .long v_md_said, .ref a_md_burdens, .ref a_md_best, .ref a_md_own, .ref a_md_truth])), (a_md_cost, .inl (cI, 6, .inl f_md_cost))] [(a_md, .inr (5, [.int v_md_length, .ref a_md_text, .int v_md_laws, .int v_md_sayers, .long v_md_there, .long v_md_question, .ref a_md_weight, .ref a_md_says, .ref a_md_cost, .int v_md_measure, .long v_md_trace, .int v_md_readLaws, .int v_md_readSayers, .long v_md_readThere, .ref a_md_readWeight, .ref a_md_readSays, .int v_md_begin, .int v_md_end, .int v_md_sort, .int v_md_open, .ref a_md_opened, .int v_md_level, .ref a_md_any, .ref a_md_all, .long v_md_said, .ref a_md_burdens, .ref a_md_best, .ref a_md_own, .ref a_md_truth])), (a_md_cost, .inl (cI, 6, .inl z.2))] := by
  refine zk_of_i (cc := cX5_cost) (maxL := 4) (by decide) rfl (Nat.le_of_ble_eq_true rfl) ?_
  intro p e R s m args below meth c A Q ls hx hb hml hRf hRl hts hown hP hK hD hA hS hG hl hret
  have hl : lv_has ls 4 [(0, .ref a_md), (1, .int x0), (2, .int x1)] := hl
  have hown : s.vm.findClass RX5 = some m.cls := hown
  have hcs : 0 ≤ R.cells ∧ 0 ≤ R.slots := ⟨Nat.zero_le _, Nat.zero_le _⟩
  have lk0 := hts (.constantLong RX5 150 (5)) (by decide +kernel)
  have lk1 := hts (.constantLong RX5 152 (9)) (by decide +kernel)
  have lk2 := hts (.fieldLink RX5 30 "SayingsMergedModel" "cost" "[I") (by decide +kernel)
  have inX5 : ∀ w ∈ wsX50, w ∈ wsX5_cost := by decide +kernel
  unfold zf_X5_cost at hf
  refine lv_iload_n hx hb dX5_cost_0 rfl (lv_at hl 1 rfl) ?_
  refine lv_i2l hx hb dX5_cost_1 rfl ?_
  refine lv_lconst (v := (0 : Int64)) hx hb dX5_cost_2 (by decide) ?_
  refine lv_ldc2 hx hb hown lk0 dX5_cost_3 ?_
  obtain ⟨v1, hv1, hf⟩ := zk_ob hf
  refine zk_goR (zk_S (As := [.long x0.toInt64, .long (0 : Int64), .long (5 : Int64)]) (rest := []) hx hb hml hown hts hK hG hP hD hS hA gX5_cost_X5_in rfl hd_X5_in (Nat.le_trans (Nat.le_of_ble_eq_true rfl) hRf) (Nat.le_trans (Nat.le_of_ble_eq_true rfl) hRl) hcs (zc_X5_in l D tL tO cI cJ cB cQ x0.toInt64 (0 : Int64) (5 : Int64) v1 hv1) hl.1 rfl rfl (Nat.le_of_ble_eq_true rfl) dX5_cost_6 [] rfl rfl) hP hD hS hA [] rfl (fun H locs hP hS => ?_)
  refine lv_if_eq (tgt := 24) hx hb dX5_cost_9 (by decide) (fun c6 => ?_) (fun c6 => ?_)
  · have hf := zk_t c6 hf
    refine lv_iconst (v := (-1 : Int32)) hx hb dX5_cost_24 (by decide) ?_
    obtain rfl := Option.some.inj hf
    exact hret trivial _ _ _ _ hP hD hS dX5_cost_25
  · have hf := zk_f c6 hf
    refine lv_iload_n hx hb dX5_cost_12 rfl (lv_at hl 2 rfl) ?_
    refine lv_i2l hx hb dX5_cost_13 rfl ?_
    refine lv_lconst (v := (0 : Int64)) hx hb dX5_cost_14 (by decide) ?_
    refine lv_ldc2 hx hb hown lk1 dX5_cost_15 ?_
    obtain ⟨v2, hv2, hf⟩ := zk_ob hf
    refine zk_goR (zk_S (As := [.long x1.toInt64, .long (0 : Int64), .long (9 : Int64)]) (rest := []) hx hb hml hown hts hK hG hP hD hS hA gX5_cost_X5_in rfl hd_X5_in (Nat.le_trans (Nat.le_of_ble_eq_true rfl) hRf) (Nat.le_trans (Nat.le_of_ble_eq_true rfl) hRl) hcs (zc_X5_in l D tL tO cI cJ cB cQ x1.toInt64 (0 : Int64) (9 : Int64) v2 hv2) hl.1 rfl rfl (Nat.le_of_ble_eq_true rfl) dX5_cost_18 [] rfl rfl) hP hD hS hA [] rfl (fun H locs hP hS => ?_)
    refine lv_if_ne (tgt := 26) hx hb dX5_cost_21 (by decide) (fun c5 => ?_) (fun c5 => ?_)
    · have hf := zk_f c5 hf
      refine lv_aload_n hx hb dX5_cost_26 rfl (lv_at hl 0 rfl) ?_
      refine va_get (ci := 5) (v := .ref a_md_cost) (C := RX5) (T := TX5) (N := 29) hx hb hts inX5 hown hK hP 0 rfl rfl 8 (by decide) lk2 (fun _ h9 => h9) rfl dX5_cost_27 ?_
      refine lv_iload_n hx hb dX5_cost_30 rfl (lv_at hl 1 rfl) ?_
      obtain ⟨g3, hf⟩ := zk_gd_s hf
      refine va_iald hx hb hK hP 1 0 rfl rfl (zk_in_s g3) dX5_cost_31 ?_
      obtain ⟨y4, ey4, hf⟩ := zk_lt_s hf
      refine zk_topi ey4 ?_
      refine lv_istore_n (lv' := [(3, .int y4), (0, .ref a_md), (1, .int x0), (2, .int x1)]) hx hb dX5_cost_32 rfl hl (by decide) rfl (fun ls hl => ?_)
      refine lv_aload_n hx hb dX5_cost_33 rfl (lv_at hl 1 rfl) ?_
      refine va_get (ci := 5) (v := .ref a_md_cost) (C := RX5) (T := TX5) (N := 29) hx hb hts inX5 hown hK hP 0 rfl rfl 8 (by decide) lk2 (fun _ h9 => h9) rfl dX5_cost_34 ?_
      refine lv_iload_n hx hb dX5_cost_37 rfl (lv_at hl 2 rfl) ?_
      refine lv_iload_n hx hb dX5_cost_38 rfl (lv_at hl 3 rfl) ?_
      refine va_iast hx hb hK hP hD hS 1 0 rfl rfl (zk_in_s g3) dX5_cost_39 (fun H locs hP hD hS => ?_)
      have hP : va_P D vwCl [(a_md, .inr (5, [.int v_md_length, .ref a_md_text, .int v_md_laws, .int v_md_sayers, .long v_md_there, .long v_md_question, .ref a_md_weight, .ref a_md_says, .ref a_md_cost, .int v_md_measure, .long v_md_trace, .int v_md_readLaws, .int v_md_readSayers, .long v_md_readThere, .ref a_md_readWeight, .ref a_md_readSays, .int v_md_begin, .int v_md_end, .int v_md_sort, .int v_md_open, .ref a_md_opened, .int v_md_level, .ref a_md_any, .ref a_md_all, .long v_md_said, .ref a_md_burdens, .ref a_md_best, .ref a_md_own, .ref a_md_truth])), (a_md_cost, .inl (cI, 6, .inl (upd f_md_cost x0.toNatClampNeg x1)))] H := hP
      have hD : va_D A [(a_md, .inr (5, [.int v_md_length, .ref a_md_text, .int v_md_laws, .int v_md_sayers, .long v_md_there, .long v_md_question, .ref a_md_weight, .ref a_md_says, .ref a_md_cost, .int v_md_measure, .long v_md_trace, .int v_md_readLaws, .int v_md_readSayers, .long v_md_readThere, .ref a_md_readWeight, .ref a_md_readSays, .int v_md_begin, .int v_md_end, .int v_md_sort, .int v_md_open, .ref a_md_opened, .int v_md_level, .ref a_md_any, .ref a_md_all, .long v_md_said, .ref a_md_burdens, .ref a_md_best, .ref a_md_own, .ref a_md_truth])), (a_md_cost, .inl (cI, 6, .inl (upd f_md_cost x0.toNatClampNeg x1)))] := hD
      refine lv_iload_n hx hb dX5_cost_40 rfl (lv_at hl 0 rfl) ?_
      obtain rfl := Option.some.inj hf
      exact hret trivial _ _ _ _ hP hD hS dX5_cost_41
    · have hf := zk_t c5 hf
      refine lv_iconst (v := (-1 : Int32)) hx hb dX5_cost_24 (by decide) ?_
      obtain rfl := Option.some.inj hf
      exact hret trivial _ _ _ _ hP hD hS dX5_cost_25
def zf_X5_measure (x0 : Int32) (v_md_measure : Int32) : Option (Int32 × Int32) :=
  (zf_X5_in x0.toInt64 (0 : Int64) (1 : Int64)).bind (fun v1 =>
  if v1 = 0 then
  some ((-1 : Int32), v_md_measure)
  else
  some (v_md_measure, x0))
theorem hd_X5_measure : yX5_measure.cls = RX5 ∧ yX5_measure.cls ≠ "java/lang/invoke/MethodHandle" ∧ yX5_measure.cls ≠ "java/lang/invoke/VarHandle" ∧ (parseMethodDescriptor yX5_measure.desc).map (fun d => d.parameters.length) = some 1 := by decide +kernel
set_option maxHeartbeats 4000000 in
set_option maxRecDepth 100000 in
theorem zc_X5_measure (l : Launch) (D : va_G) (tL tO : Nat) (cI cJ cB cQ : ClassId) (a_md a_md_text a_md_weight a_md_says a_md_cost a_md_readWeight a_md_readSays a_md_opened a_md_any a_md_all a_md_burdens a_md_best a_md_own a_md_truth : Nat) (x0 : Int32) (v_md_length : Int32) (v_md_laws : Int32) (v_md_sayers : Int32) (v_md_there : Int64) (v_md_question : Int64) (v_md_measure : Int32) (v_md_trace : Int64) (v_md_readLaws : Int32) (v_md_readSayers : Int32) (v_md_readThere : Int64) (v_md_begin : Int32) (v_md_end : Int32) (v_md_sort : Int32) (v_md_open : Int32) (v_md_level : Int32) (v_md_said : Int64) (z : Int32 × Int32) (hf : zf_X5_measure x0 v_md_measure = some z) : zk_CT l D tL tO (zk_ty cI cJ cB cQ) yX5_measure wsX5_measure 1 25 [.ref a_md, .int x0] (some (.int z.1)) [(a_md, .inr (5, [.int v_md_length, .ref a_md_text, .int v_md_laws, .int v_md_sayers, .long v_md_there, .long v_md_question, .ref a_md_weight, .ref a_md_says, .ref a_md_cost, .int v_md_measure, .long v_md_trace, .int v_md_readLaws, .int v_md_readSayers, .long v_md_readThere, .ref a_md_readWeight, .ref a_md_readSays, .int v_md_begin, .int v_md_end, .int v_md_sort, .int v_md_open, .ref a_md_opened, .int v_md_level, .ref a_md_any, .ref a_md_all, .long v_md_said, .ref a_md_burdens, .ref a_md_best, .ref a_md_own, .ref a_md_truth]))] [(a_md, .inr (5, [.int v_md_length, .ref a_md_text, .int v_md_laws, .int v_md_sayers, .long v_md_there, .long v_md_question, .ref a_md_weight, .ref a_md_says, .ref a_md_cost, .int z.2, .long v_md_trace, .int v_md_readLaws, .int v_md_readSayers, .long v_md_readThere, .ref a_md_readWeight, .ref a_md_readSays, .int v_md_begin, .int v_md_end, .int v_md_sort, .int v_md_open, .ref a_md_opened, .int v_md_level, .ref a_md_any, .ref a_md_all, .long v_md_said, .ref a_md_burdens, .ref a_md_best, .ref a_md_own, .ref a_md_truth]))] := by
  refine zk_of_i (cc := cX5_measure) (maxL := 3) (by decide) rfl (Nat.le_of_ble_eq_true rfl) ?_
  intro p e R s m args below meth c A Q ls hx hb hml hRf hRl hts hown hP hK hD hA hS hG hl hret
  have hl : lv_has ls 3 [(0, .ref a_md), (1, .int x0)] := hl
  have hown : s.vm.findClass RX5 = some m.cls := hown
  have hcs : 0 ≤ R.cells ∧ 0 ≤ R.slots := ⟨Nat.zero_le _, Nat.zero_le _⟩
  have lk0 := hts (.fieldLink RX5 154 "SayingsMergedModel" "measure" "I") (by decide +kernel)
  have inX5 : ∀ w ∈ wsX50, w ∈ wsX5_measure := by decide +kernel
  unfold zf_X5_measure at hf
  refine lv_iload_n hx hb dX5_measure_0 rfl (lv_at hl 1 rfl) ?_
  refine lv_i2l hx hb dX5_measure_1 rfl ?_
  refine lv_lconst (v := (0 : Int64)) hx hb dX5_measure_2 (by decide) ?_
  refine lv_lconst (v := (1 : Int64)) hx hb dX5_measure_3 (by decide) ?_
  obtain ⟨v1, hv1, hf⟩ := zk_ob hf
  refine zk_goR (zk_S (As := [.long x0.toInt64, .long (0 : Int64), .long (1 : Int64)]) (rest := []) hx hb hml hown hts hK hG hP hD hS hA gX5_measure_X5_in rfl hd_X5_in (Nat.le_trans (Nat.le_of_ble_eq_true rfl) hRf) (Nat.le_trans (Nat.le_of_ble_eq_true rfl) hRl) hcs (zc_X5_in l D tL tO cI cJ cB cQ x0.toInt64 (0 : Int64) (1 : Int64) v1 hv1) hl.1 rfl rfl (Nat.le_of_ble_eq_true rfl) dX5_measure_4 [] rfl rfl) hP hD hS hA [] rfl (fun H locs hP hS => ?_)
  refine lv_if_ne (tgt := 12) hx hb dX5_measure_7 (by decide) (fun c2 => ?_) (fun c2 => ?_)
  · have hf := zk_f c2 hf
    refine lv_aload_n hx hb dX5_measure_12 rfl (lv_at hl 0 rfl) ?_
    refine va_get (ci := 5) (v := .int v_md_measure) (C := RX5) (T := TX5) (N := 29) hx hb hts inX5 hown hK hP 0 rfl rfl 9 (by decide) lk0 (fun _ h9 => h9) rfl dX5_measure_13 ?_
    refine lv_istore_n (lv' := [(2, .int v_md_measure), (0, .ref a_md), (1, .int x0)]) hx hb dX5_measure_16 rfl hl (by decide) rfl (fun ls hl => ?_)
    refine lv_aload_n hx hb dX5_measure_17 rfl (lv_at hl 1 rfl) ?_
    refine lv_iload_n hx hb dX5_measure_18 rfl (lv_at hl 2 rfl) ?_
    refine va_put (ci := 5) (v := .int x0) (ty := .int) (C := RX5) (T := TX5) (N := 29) hx hb hts inX5 tyX5 tyX5_ok nmX5 hown hK hP hD hS 0 rfl rfl 9 (by decide) lk0 (fun _ h9 => h9) rfl (by decide +kernel) rfl rfl (Nat.le_of_ble_eq_true rfl) dX5_measure_19 (fun H locs hP hD hS => ?_)
    have hP : va_P D vwCl [(a_md, .inr (5, [.int v_md_length, .ref a_md_text, .int v_md_laws, .int v_md_sayers, .long v_md_there, .long v_md_question, .ref a_md_weight, .ref a_md_says, .ref a_md_cost, .int x0, .long v_md_trace, .int v_md_readLaws, .int v_md_readSayers, .long v_md_readThere, .ref a_md_readWeight, .ref a_md_readSays, .int v_md_begin, .int v_md_end, .int v_md_sort, .int v_md_open, .ref a_md_opened, .int v_md_level, .ref a_md_any, .ref a_md_all, .long v_md_said, .ref a_md_burdens, .ref a_md_best, .ref a_md_own, .ref a_md_truth]))] H := hP
    have hD : va_D A [(a_md, .inr (5, [.int v_md_length, .ref a_md_text, .int v_md_laws, .int v_md_sayers, .long v_md_there, .long v_md_question, .ref a_md_weight, .ref a_md_says, .ref a_md_cost, .int x0, .long v_md_trace, .int v_md_readLaws, .int v_md_readSayers, .long v_md_readThere, .ref a_md_readWeight, .ref a_md_readSays, .int v_md_begin, .int v_md_end, .int v_md_sort, .int v_md_open, .ref a_md_opened, .int v_md_level, .ref a_md_any, .ref a_md_all, .long v_md_said, .ref a_md_burdens, .ref a_md_best, .ref a_md_own, .ref a_md_truth]))] := hD
    refine lv_iload_n hx hb dX5_measure_22 rfl (lv_at hl 0 rfl) ?_
    obtain rfl := Option.some.inj hf
    exact hret trivial _ _ _ _ hP hD hS dX5_measure_23
  · have hf := zk_t c2 hf
    refine lv_iconst (v := (-1 : Int32)) hx hb dX5_measure_10 (by decide) ?_
    obtain rfl := Option.some.inj hf
    exact hret trivial _ _ _ _ hP hD hS dX5_measure_11
def zl_X5_apartOf_5 (x0 : Int32) (x1 : Int32) (f_md_cost : Nat → Int32) : Nat → (Int32) → (Int32) → Option (Int32 × Int32)
  | 0, _, _ => none
  | n + 1, w1, w2 =>
    if (6 : Int32) ≤ w2 then
    some (w1, w2)
    else
    (zf_X5_has ((x0 ^^^ x1).toInt64) w2).bind (fun v3 =>
    if v3 = 0 then
    zk_lt (w1 + (0 : Int32)) (fun y4 =>
    zk_lt (w2 + 1) (fun y5 =>
    zl_X5_apartOf_5 x0 x1 f_md_cost n y4 y5))
    else
    zk_gd (zk_in w2 6)
    (zk_lt (w1 + (f_md_cost w2.toNatClampNeg)) (fun y7 =>
    zk_lt (w2 + 1) (fun y8 =>
    zl_X5_apartOf_5 x0 x1 f_md_cost n y7 y8))))
def zf_X5_apartOf (x0 : Int32) (x1 : Int32) (v_md_measure : Int32) (f_md_cost : Nat → Int32) : Option (Int32) :=
  (zl_X5_apartOf_5 x0 x1 f_md_cost zk_F (0 : Int32) (0 : Int32)).bind (fun v11 =>
  if v_md_measure = 0 then
  some v11.1
  else
  if x0 = x1 then
  some (0 : Int32)
  else
  some (1 : Int32))
theorem hd_X5_apartOf : yX5_apartOf.cls = RX5 ∧ yX5_apartOf.cls ≠ "java/lang/invoke/MethodHandle" ∧ yX5_apartOf.cls ≠ "java/lang/invoke/VarHandle" ∧ (parseMethodDescriptor yX5_apartOf.desc).map (fun d => d.parameters.length) = some 2 := by decide +kernel
set_option maxHeartbeats 4000000 in
set_option maxRecDepth 100000 in
theorem zc_X5_apartOf (l : Launch) (D : va_G) (tL tO : Nat) (cI cJ cB cQ : ClassId) (a_md a_md_text a_md_weight a_md_says a_md_cost a_md_readWeight a_md_readSays a_md_opened a_md_any a_md_all a_md_burdens a_md_best a_md_own a_md_truth : Nat) (x0 : Int32) (x1 : Int32) (v_md_length : Int32) (v_md_laws : Int32) (v_md_sayers : Int32) (v_md_there : Int64) (v_md_question : Int64) (v_md_measure : Int32) (v_md_trace : Int64) (v_md_readLaws : Int32) (v_md_readSayers : Int32) (v_md_readThere : Int64) (v_md_begin : Int32) (v_md_end : Int32) (v_md_sort : Int32) (v_md_open : Int32) (v_md_level : Int32) (v_md_said : Int64) (f_md_cost : Nat → Int32) (z : Int32) (hf : zf_X5_apartOf x0 x1 v_md_measure f_md_cost = some z) : zk_CT l D tL tO (zk_ty cI cJ cB cQ) yX5_apartOf wsX5_apartOf 1 22 [.ref a_md, .int x0, .int x1] (some (.int z)) [(a_md, .inr (5, [.int v_md_length, .ref a_md_text, .int v_md_laws, .int v_md_sayers, .long v_md_there, .long v_md_question, .ref a_md_weight, .ref a_md_says, .ref a_md_cost, .int v_md_measure, .long v_md_trace, .int v_md_readLaws, .int v_md_readSayers, .long v_md_readThere, .ref a_md_readWeight, .ref a_md_readSays, .int v_md_begin, .int v_md_end, .int v_md_sort, .int v_md_open, .ref a_md_opened, .int v_md_level, .ref a_md_any, .ref a_md_all, .long v_md_said, .ref a_md_burdens, .ref a_md_best, .ref a_md_own, .ref a_md_truth])), (a_md_cost, .inl (cI, 6, .inl f_md_cost))] [(a_md, .inr (5, [.int v_md_length, .ref a_md_text, .int v_md_laws, .int v_md_sayers, .long v_md_there, .long v_md_question, .ref a_md_weight, .ref a_md_says, .ref a_md_cost, .int v_md_measure, .long v_md_trace, .int v_md_readLaws, .int v_md_readSayers, .long v_md_readThere, .ref a_md_readWeight, .ref a_md_readSays, .int v_md_begin, .int v_md_end, .int v_md_sort, .int v_md_open, .ref a_md_opened, .int v_md_level, .ref a_md_any, .ref a_md_all, .long v_md_said, .ref a_md_burdens, .ref a_md_best, .ref a_md_own, .ref a_md_truth])), (a_md_cost, .inl (cI, 6, .inl f_md_cost))] := by
  refine zk_of_i (cc := cX5_apartOf) (maxL := 5) (by decide) rfl (Nat.le_of_ble_eq_true rfl) ?_
  intro p e R s m args below meth c A Q ls hx hb hml hRf hRl hts hown hP hK hD hA hS hG hl hret
  have hl : lv_has ls 5 [(0, .ref a_md), (1, .int x0), (2, .int x1)] := hl
  have hown : s.vm.findClass RX5 = some m.cls := hown
  have hcs : 0 ≤ R.cells ∧ 0 ≤ R.slots := ⟨Nat.zero_le _, Nat.zero_le _⟩
  have lk0 := hts (.fieldLink RX5 30 "SayingsMergedModel" "cost" "[I") (by decide +kernel)
  have inX5 : ∀ w ∈ wsX50, w ∈ wsX5_apartOf := by decide +kernel
  have lk2 := hts (.fieldLink RX5 154 "SayingsMergedModel" "measure" "I") (by decide +kernel)
  unfold zf_X5_apartOf at hf
  refine lv_iconst (v := (0 : Int32)) hx hb dX5_apartOf_0 (by decide) ?_
  refine lv_istore_n (lv' := [(3, .int (0 : Int32)), (0, .ref a_md), (1, .int x0), (2, .int x1)]) hx hb dX5_apartOf_1 rfl hl (by decide) rfl (fun ls hl => ?_)
  refine lv_iconst (v := (0 : Int32)) hx hb dX5_apartOf_2 (by decide) ?_
  refine lv_istore (lv' := [(4, .int (0 : Int32)), (3, .int (0 : Int32)), (0, .ref a_md), (1, .int x0), (2, .int x1)]) hx hb dX5_apartOf_3 hl (by decide) rfl (fun ls hl => ?_)
  have lp5 : ∀ (n : Nat) (w1 : Int32) (w2 : Int32) (z5 : Int32 × Int32) (H : Heap) (locs : List Loc) (ls : Array Slot), zl_X5_apartOf_5 x0 x1 f_md_cost n w1 w2 = some z5 → va_P D vwCl [(a_md, .inr (5, [.int v_md_length, .ref a_md_text, .int v_md_laws, .int v_md_sayers, .long v_md_there, .long v_md_question, .ref a_md_weight, .ref a_md_says, .ref a_md_cost, .int v_md_measure, .long v_md_trace, .int v_md_readLaws, .int v_md_readSayers, .long v_md_readThere, .ref a_md_readWeight, .ref a_md_readSays, .int v_md_begin, .int v_md_end, .int v_md_sort, .int v_md_open, .ref a_md_opened, .int v_md_level, .ref a_md_any, .ref a_md_all, .long v_md_said, .ref a_md_burdens, .ref a_md_best, .ref a_md_own, .ref a_md_truth])), (a_md_cost, .inl (cI, 6, .inl f_md_cost))] H → va_D A [(a_md, .inr (5, [.int v_md_length, .ref a_md_text, .int v_md_laws, .int v_md_sayers, .long v_md_there, .long v_md_question, .ref a_md_weight, .ref a_md_says, .ref a_md_cost, .int v_md_measure, .long v_md_trace, .int v_md_readLaws, .int v_md_readSayers, .long v_md_readThere, .ref a_md_readWeight, .ref a_md_readSays, .int v_md_begin, .int v_md_end, .int v_md_sort, .int v_md_open, .ref a_md_opened, .int v_md_level, .ref a_md_any, .ref a_md_all, .long v_md_said, .ref a_md_burdens, .ref a_md_best, .ref a_md_own, .ref a_md_truth])), (a_md_cost, .inl (cI, 6, .inl f_md_cost))] → va_S A s.heap H locs → lv_has ls 5 [(0, .ref a_md), (1, .int x0), (2, .int x1), (3, .int w1), (4, .int w2)] → (∀ (H : Heap) (locs : List Loc) (ls : Array Slot), va_P D vwCl [(a_md, .inr (5, [.int v_md_length, .ref a_md_text, .int v_md_laws, .int v_md_sayers, .long v_md_there, .long v_md_question, .ref a_md_weight, .ref a_md_says, .ref a_md_cost, .int v_md_measure, .long v_md_trace, .int v_md_readLaws, .int v_md_readSayers, .long v_md_readThere, .ref a_md_readWeight, .ref a_md_readSays, .int v_md_begin, .int v_md_end, .int v_md_sort, .int v_md_open, .ref a_md_opened, .int v_md_level, .ref a_md_any, .ref a_md_all, .long v_md_said, .ref a_md_burdens, .ref a_md_best, .ref a_md_own, .ref a_md_truth])), (a_md_cost, .inl (cI, 6, .inl f_md_cost))] H → va_D A [(a_md, .inr (5, [.int v_md_length, .ref a_md_text, .int v_md_laws, .int v_md_sayers, .long v_md_there, .long v_md_question, .ref a_md_weight, .ref a_md_says, .ref a_md_cost, .int v_md_measure, .long v_md_trace, .int v_md_readLaws, .int v_md_readSayers, .long v_md_readThere, .ref a_md_readWeight, .ref a_md_readSays, .int v_md_begin, .int v_md_end, .int v_md_sort, .int v_md_open, .ref a_md_opened, .int v_md_level, .ref a_md_any, .ref a_md_all, .long v_md_said, .ref a_md_burdens, .ref a_md_best, .ref a_md_own, .ref a_md_truth])), (a_md_cost, .inl (cI, 6, .inl f_md_cost))] → va_S A s.heap H locs → lv_has ls 5 [(0, .ref a_md), (1, .int x0), (2, .int x1), (3, .int z5.1), (4, .int z5.2)] → W p l e R s m args below meth c H locs 0 0 Q (F0 m 44 ls [])) → W p l e R s m args below meth c H locs 0 0 Q (F0 m 5 ls []) := by
    intro n
    induction n with
    | zero => intro w1 w2 z5 H locs ls hf; exact absurd (show none = some z5 from hf) (by simp)
    | succ n ih =>
      intro w1 w2 z5 H locs ls hf hP hD hS hl hk
      rw [zl_X5_apartOf_5] at hf
      refine lv_iload hx hb dX5_apartOf_5 (lv_at hl 4 rfl) ?_
      refine lv_bipush (v := (6 : Int32)) hx hb dX5_apartOf_7 (by decide) ?_
      refine lv_icmp_ge (tgt := 44) hx hb dX5_apartOf_9 (by decide) (fun c10 => ?_) (fun c10 => ?_)
      · have hf := zk_t c10 hf
        obtain rfl := Option.some.inj hf
        exact hk _ _ _ hP hD hS (lv_sub hl [0, 1, 2, 3, 4] rfl)
      · have hf := zk_f c10 hf
        refine lv_iload_n hx hb dX5_apartOf_12 rfl (lv_at hl 3 rfl) ?_
        refine lv_iload_n hx hb dX5_apartOf_13 rfl (lv_at hl 1 rfl) ?_
        refine lv_iload_n hx hb dX5_apartOf_14 rfl (lv_at hl 2 rfl) ?_
        refine lv_ixor hx hb dX5_apartOf_15 ?_
        refine lv_i2l hx hb dX5_apartOf_16 rfl ?_
        refine lv_iload hx hb dX5_apartOf_17 (lv_at hl 4 rfl) ?_
        obtain ⟨v3, hv3, hf⟩ := zk_ob hf
        refine zk_goR (zk_S (As := [.long ((x0 ^^^ x1).toInt64), .int w2]) (rest := [.int w1]) hx hb hml hown hts hK hG hP hD hS hA gX5_apartOf_X5_has rfl hd_X5_has (Nat.le_trans (Nat.le_of_ble_eq_true rfl) hRf) (Nat.le_trans (Nat.le_of_ble_eq_true rfl) hRl) hcs (zc_X5_has l D tL tO cI cJ cB cQ ((x0 ^^^ x1).toInt64) w2 v3 hv3) hl.1 rfl rfl (Nat.le_of_ble_eq_true rfl) dX5_apartOf_19 [] rfl rfl) hP hD hS hA [] rfl (fun H locs hP hS => ?_)
        refine lv_if_eq (tgt := 35) hx hb dX5_apartOf_22 (by decide) (fun c9 => ?_) (fun c9 => ?_)
        · have hf := zk_t c9 hf
          refine lv_iconst (v := (0 : Int32)) hx hb dX5_apartOf_35 (by decide) ?_
          refine lv_iadd hx hb dX5_apartOf_36 ?_
          obtain ⟨y4, ey4, hf⟩ := zk_lt_s hf
          refine zk_topi ey4 ?_
          refine lv_istore_n (lv' := [(3, .int y4), (0, .ref a_md), (1, .int x0), (2, .int x1), (4, .int w2)]) hx hb dX5_apartOf_37 rfl hl (by decide) rfl (fun ls hl => ?_)
          obtain ⟨y5, ey5, hf⟩ := zk_lt_s hf
          refine lv_iinc (v := y5) (lv' := [(4, .int y5), (3, .int y4), (0, .ref a_md), (1, .int x0), (2, .int x1)]) hx hb dX5_apartOf_38 hl (k := 4) rfl (by rw [ey5]; rfl) (by decide) rfl (fun ls hl => ?_)
          refine lv_goto (tgt := 5) hx hb dX5_apartOf_41 (by decide) ?_
          exact ih y4 y5 _ _ _ _ hf hP hD hS (lv_sub hl [2, 3, 4, 1, 0] rfl) hk
        · have hf := zk_f c9 hf
          refine lv_aload_n hx hb dX5_apartOf_25 rfl (lv_at hl 0 rfl) ?_
          refine va_get (ci := 5) (v := .ref a_md_cost) (C := RX5) (T := TX5) (N := 29) hx hb hts inX5 hown hK hP 0 rfl rfl 8 (by decide) lk0 (fun _ h9 => h9) rfl dX5_apartOf_26 ?_
          refine lv_iload hx hb dX5_apartOf_29 (lv_at hl 4 rfl) ?_
          obtain ⟨g6, hf⟩ := zk_gd_s hf
          refine va_iald hx hb hK hP 1 0 rfl rfl (zk_in_s g6) dX5_apartOf_31 ?_
          refine lv_goto (tgt := 36) hx hb dX5_apartOf_32 (by decide) ?_
          refine lv_iadd hx hb dX5_apartOf_36 ?_
          obtain ⟨y7, ey7, hf⟩ := zk_lt_s hf
          refine zk_topi ey7 ?_
          refine lv_istore_n (lv' := [(3, .int y7), (0, .ref a_md), (1, .int x0), (2, .int x1), (4, .int w2)]) hx hb dX5_apartOf_37 rfl hl (by decide) rfl (fun ls hl => ?_)
          obtain ⟨y8, ey8, hf⟩ := zk_lt_s hf
          refine lv_iinc (v := y8) (lv' := [(4, .int y8), (3, .int y7), (0, .ref a_md), (1, .int x0), (2, .int x1)]) hx hb dX5_apartOf_38 hl (k := 4) rfl (by rw [ey8]; rfl) (by decide) rfl (fun ls hl => ?_)
          refine lv_goto (tgt := 5) hx hb dX5_apartOf_41 (by decide) ?_
          exact ih y7 y8 _ _ _ _ hf hP hD hS (lv_sub hl [2, 3, 4, 1, 0] rfl) hk
  obtain ⟨v11, hv11, hf⟩ := zk_ob hf
  refine lp5 zk_F (0 : Int32) (0 : Int32) v11 _ _ _ hv11 hP hD hS (lv_sub hl [2, 3, 4, 1, 0] rfl) ?_
  intro H locs ls hP hD hS hl
  refine lv_aload_n hx hb dX5_apartOf_44 rfl (lv_at hl 0 rfl) ?_
  refine va_get (ci := 5) (v := .int v_md_measure) (C := RX5) (T := TX5) (N := 29) hx hb hts inX5 hown hK hP 0 rfl rfl 9 (by decide) lk2 (fun _ h9 => h9) rfl dX5_apartOf_45 ?_
  refine lv_if_ne (tgt := 55) hx hb dX5_apartOf_48 (by decide) (fun c13 => ?_) (fun c13 => ?_)
  · have hf := zk_f c13 hf
    refine lv_iload_n hx hb dX5_apartOf_55 rfl (lv_at hl 1 rfl) ?_
    refine lv_iload_n hx hb dX5_apartOf_56 rfl (lv_at hl 2 rfl) ?_
    refine lv_icmp_ne (tgt := 64) hx hb dX5_apartOf_57 (by decide) (fun c12 => ?_) (fun c12 => ?_)
    · have hf := zk_f c12 hf
      refine lv_iconst (v := (1 : Int32)) hx hb dX5_apartOf_64 (by decide) ?_
      obtain rfl := Option.some.inj hf
      exact hret trivial _ _ _ _ hP hD hS dX5_apartOf_65
    · have hf := zk_t c12 hf
      refine lv_iconst (v := (0 : Int32)) hx hb dX5_apartOf_60 (by decide) ?_
      refine lv_goto (tgt := 65) hx hb dX5_apartOf_61 (by decide) ?_
      obtain rfl := Option.some.inj hf
      exact hret trivial _ _ _ _ hP hD hS dX5_apartOf_65
  · have hf := zk_t c13 hf
    refine lv_iload_n hx hb dX5_apartOf_51 rfl (lv_at hl 3 rfl) ?_
    refine lv_goto (tgt := 65) hx hb dX5_apartOf_52 (by decide) ?_
    obtain rfl := Option.some.inj hf
    exact hret trivial _ _ _ _ hP hD hS dX5_apartOf_65
def zf_X5_apart (x0 : Int32) (x1 : Int32) (v_md_measure : Int32) (f_md_cost : Nat → Int32) : Option (Int32) :=
  (zf_X5_isWorld x0).bind (fun v1 =>
  if v1 = 0 then
  some (-1 : Int32)
  else
  (zf_X5_isWorld x1).bind (fun v2 =>
  if v2 = 0 then
  some (-1 : Int32)
  else
  (zf_X5_apartOf x0 x1 v_md_measure f_md_cost).bind (fun v3 =>
  some v3)))
theorem hd_X5_apart : yX5_apart.cls = RX5 ∧ yX5_apart.cls ≠ "java/lang/invoke/MethodHandle" ∧ yX5_apart.cls ≠ "java/lang/invoke/VarHandle" ∧ (parseMethodDescriptor yX5_apart.desc).map (fun d => d.parameters.length) = some 2 := by decide +kernel
set_option maxHeartbeats 4000000 in
set_option maxRecDepth 100000 in
theorem zc_X5_apart (l : Launch) (D : va_G) (tL tO : Nat) (cI cJ cB cQ : ClassId) (a_md a_md_text a_md_weight a_md_says a_md_cost a_md_readWeight a_md_readSays a_md_opened a_md_any a_md_all a_md_burdens a_md_best a_md_own a_md_truth : Nat) (x0 : Int32) (x1 : Int32) (v_md_length : Int32) (v_md_laws : Int32) (v_md_sayers : Int32) (v_md_there : Int64) (v_md_question : Int64) (v_md_measure : Int32) (v_md_trace : Int64) (v_md_readLaws : Int32) (v_md_readSayers : Int32) (v_md_readThere : Int64) (v_md_begin : Int32) (v_md_end : Int32) (v_md_sort : Int32) (v_md_open : Int32) (v_md_level : Int32) (v_md_said : Int64) (f_md_cost : Nat → Int32) (z : Int32) (hf : zf_X5_apart x0 x1 v_md_measure f_md_cost = some z) : zk_CT l D tL tO (zk_ty cI cJ cB cQ) yX5_apart wsX5_apart 2 46 [.ref a_md, .int x0, .int x1] (some (.int z)) [(a_md, .inr (5, [.int v_md_length, .ref a_md_text, .int v_md_laws, .int v_md_sayers, .long v_md_there, .long v_md_question, .ref a_md_weight, .ref a_md_says, .ref a_md_cost, .int v_md_measure, .long v_md_trace, .int v_md_readLaws, .int v_md_readSayers, .long v_md_readThere, .ref a_md_readWeight, .ref a_md_readSays, .int v_md_begin, .int v_md_end, .int v_md_sort, .int v_md_open, .ref a_md_opened, .int v_md_level, .ref a_md_any, .ref a_md_all, .long v_md_said, .ref a_md_burdens, .ref a_md_best, .ref a_md_own, .ref a_md_truth])), (a_md_cost, .inl (cI, 6, .inl f_md_cost))] [(a_md, .inr (5, [.int v_md_length, .ref a_md_text, .int v_md_laws, .int v_md_sayers, .long v_md_there, .long v_md_question, .ref a_md_weight, .ref a_md_says, .ref a_md_cost, .int v_md_measure, .long v_md_trace, .int v_md_readLaws, .int v_md_readSayers, .long v_md_readThere, .ref a_md_readWeight, .ref a_md_readSays, .int v_md_begin, .int v_md_end, .int v_md_sort, .int v_md_open, .ref a_md_opened, .int v_md_level, .ref a_md_any, .ref a_md_all, .long v_md_said, .ref a_md_burdens, .ref a_md_best, .ref a_md_own, .ref a_md_truth])), (a_md_cost, .inl (cI, 6, .inl f_md_cost))] := by
  refine zk_of_i (cc := cX5_apart) (maxL := 3) (by decide) rfl (Nat.le_of_ble_eq_true rfl) ?_
  intro p e R s m args below meth c A Q ls hx hb hml hRf hRl hts hown hP hK hD hA hS hG hl hret
  have hl : lv_has ls 3 [(0, .ref a_md), (1, .int x0), (2, .int x1)] := hl
  have hown : s.vm.findClass RX5 = some m.cls := hown
  have hcs : 0 ≤ R.cells ∧ 0 ≤ R.slots := ⟨Nat.zero_le _, Nat.zero_le _⟩
  unfold zf_X5_apart at hf
  refine lv_iload_n hx hb dX5_apart_0 rfl (lv_at hl 1 rfl) ?_
  obtain ⟨v1, hv1, hf⟩ := zk_ob hf
  refine zk_goR (zk_S (As := [.int x0]) (rest := []) hx hb hml hown hts hK hG hP hD hS hA gX5_apart_X5_isWorld rfl hd_X5_isWorld (Nat.le_trans (Nat.le_of_ble_eq_true rfl) hRf) (Nat.le_trans (Nat.le_of_ble_eq_true rfl) hRl) hcs (zc_X5_isWorld l D tL tO cI cJ cB cQ x0 v1 hv1) hl.1 rfl rfl (Nat.le_of_ble_eq_true rfl) dX5_apart_1 [] rfl rfl) hP hD hS hA [] rfl (fun H locs hP hS => ?_)
  refine lv_if_eq (tgt := 23) hx hb dX5_apart_4 (by decide) (fun c5 => ?_) (fun c5 => ?_)
  · have hf := zk_t c5 hf
    refine lv_iconst (v := (-1 : Int32)) hx hb dX5_apart_23 (by decide) ?_
    obtain rfl := Option.some.inj hf
    exact hret trivial _ _ _ _ hP hD hS dX5_apart_24
  · have hf := zk_f c5 hf
    refine lv_iload_n hx hb dX5_apart_7 rfl (lv_at hl 2 rfl) ?_
    obtain ⟨v2, hv2, hf⟩ := zk_ob hf
    refine zk_goR (zk_S (As := [.int x1]) (rest := []) hx hb hml hown hts hK hG hP hD hS hA gX5_apart_X5_isWorld rfl hd_X5_isWorld (Nat.le_trans (Nat.le_of_ble_eq_true rfl) hRf) (Nat.le_trans (Nat.le_of_ble_eq_true rfl) hRl) hcs (zc_X5_isWorld l D tL tO cI cJ cB cQ x1 v2 hv2) hl.1 rfl rfl (Nat.le_of_ble_eq_true rfl) dX5_apart_8 [] rfl rfl) hP hD hS hA [] rfl (fun H locs hP hS => ?_)
    refine lv_if_eq (tgt := 23) hx hb dX5_apart_11 (by decide) (fun c4 => ?_) (fun c4 => ?_)
    · have hf := zk_t c4 hf
      refine lv_iconst (v := (-1 : Int32)) hx hb dX5_apart_23 (by decide) ?_
      obtain rfl := Option.some.inj hf
      exact hret trivial _ _ _ _ hP hD hS dX5_apart_24
    · have hf := zk_f c4 hf
      refine lv_aload_n hx hb dX5_apart_14 rfl (lv_at hl 0 rfl) ?_
      refine lv_iload_n hx hb dX5_apart_15 rfl (lv_at hl 1 rfl) ?_
      refine lv_iload_n hx hb dX5_apart_16 rfl (lv_at hl 2 rfl) ?_
      obtain ⟨v3, hv3, hf⟩ := zk_ob hf
      refine zk_goR (zk_V (As := [.int x0, .int x1]) (rest := []) hx hb hml hown hts hK hG hP hD hS hA gX5_apart_X5_apartOf rfl hd_X5_apartOf (Nat.le_trans (Nat.le_of_ble_eq_true rfl) hRf) (Nat.le_trans (Nat.le_of_ble_eq_true rfl) hRl) hcs (zc_X5_apartOf l D tL tO cI cJ cB cQ a_md a_md_text a_md_weight a_md_says a_md_cost a_md_readWeight a_md_readSays a_md_opened a_md_any a_md_all a_md_burdens a_md_best a_md_own a_md_truth x0 x1 v_md_length v_md_laws v_md_sayers v_md_there v_md_question v_md_measure v_md_trace v_md_readLaws v_md_readSayers v_md_readThere v_md_begin v_md_end v_md_sort v_md_open v_md_level v_md_said f_md_cost v3 hv3) rfl rfl 0 rfl hl.1 rfl rfl (Nat.le_of_ble_eq_true rfl) dX5_apart_17 [0, 1] rfl rfl) hP hD hS hA [0, 1] rfl (fun H locs hP hS => ?_)
      refine lv_goto (tgt := 24) hx hb dX5_apart_20 (by decide) ?_
      obtain rfl := Option.some.inj hf
      exact hret trivial _ _ _ _ hP hD hS dX5_apart_24
def zl_X5_farOf_6 (x0 : Int32) (x1 : Int64) (v_md_measure : Int32) (f_md_cost : Nat → Int32) : Nat → (Int32) → (Int32) → Option (Int32 × Int32)
  | 0, _, _ => none
  | n + 1, w1, w2 =>
    if (64 : Int32) ≤ w2 then
    some (w1, w2)
    else
    (zf_X5_has x1 w2).bind (fun v3 =>
    if v3 = 0 then
    zk_lt (w2 + 1) (fun y4 =>
    zl_X5_farOf_6 x0 x1 v_md_measure f_md_cost n w1 y4)
    else
    if w1 < 0 then
    (zf_X5_apartOf x0 w2 v_md_measure f_md_cost).bind (fun v5 =>
    zk_lt (w2 + 1) (fun y6 =>
    zl_X5_farOf_6 x0 x1 v_md_measure f_md_cost n v5 y6))
    else
    (zf_X5_apartOf x0 w2 v_md_measure f_md_cost).bind (fun v7 =>
    if w1 ≤ v7 then
    zk_lt (w2 + 1) (fun y8 =>
    zl_X5_farOf_6 x0 x1 v_md_measure f_md_cost n w1 y8)
    else
    (zf_X5_apartOf x0 w2 v_md_measure f_md_cost).bind (fun v9 =>
    zk_lt (w2 + 1) (fun y10 =>
    zl_X5_farOf_6 x0 x1 v_md_measure f_md_cost n v9 y10))))
def zf_X5_farOf (x0 : Int32) (x1 : Int64) (v_md_measure : Int32) (f_md_cost : Nat → Int32) : Option (Int32) :=
  (zl_X5_farOf_6 x0 x1 v_md_measure f_md_cost zk_F (-1 : Int32) (0 : Int32)).bind (fun v15 =>
  if 0 ≤ v15.1 then
  some v15.1
  else
  some (0 : Int32))
theorem hd_X5_farOf : yX5_farOf.cls = RX5 ∧ yX5_farOf.cls ≠ "java/lang/invoke/MethodHandle" ∧ yX5_farOf.cls ≠ "java/lang/invoke/VarHandle" ∧ (parseMethodDescriptor yX5_farOf.desc).map (fun d => d.parameters.length) = some 2 := by decide +kernel
set_option maxHeartbeats 4000000 in
set_option maxRecDepth 100000 in
theorem zc_X5_farOf (l : Launch) (D : va_G) (tL tO : Nat) (cI cJ cB cQ : ClassId) (a_md a_md_text a_md_weight a_md_says a_md_cost a_md_readWeight a_md_readSays a_md_opened a_md_any a_md_all a_md_burdens a_md_best a_md_own a_md_truth : Nat) (x0 : Int32) (x1 : Int64) (v_md_length : Int32) (v_md_laws : Int32) (v_md_sayers : Int32) (v_md_there : Int64) (v_md_question : Int64) (v_md_measure : Int32) (v_md_trace : Int64) (v_md_readLaws : Int32) (v_md_readSayers : Int32) (v_md_readThere : Int64) (v_md_begin : Int32) (v_md_end : Int32) (v_md_sort : Int32) (v_md_open : Int32) (v_md_level : Int32) (v_md_said : Int64) (f_md_cost : Nat → Int32) (z : Int32) (hf : zf_X5_farOf x0 x1 v_md_measure f_md_cost = some z) : zk_CT l D tL tO (zk_ty cI cJ cB cQ) yX5_farOf wsX5_farOf 2 46 [.ref a_md, .int x0, .long x1] (some (.int z)) [(a_md, .inr (5, [.int v_md_length, .ref a_md_text, .int v_md_laws, .int v_md_sayers, .long v_md_there, .long v_md_question, .ref a_md_weight, .ref a_md_says, .ref a_md_cost, .int v_md_measure, .long v_md_trace, .int v_md_readLaws, .int v_md_readSayers, .long v_md_readThere, .ref a_md_readWeight, .ref a_md_readSays, .int v_md_begin, .int v_md_end, .int v_md_sort, .int v_md_open, .ref a_md_opened, .int v_md_level, .ref a_md_any, .ref a_md_all, .long v_md_said, .ref a_md_burdens, .ref a_md_best, .ref a_md_own, .ref a_md_truth])), (a_md_cost, .inl (cI, 6, .inl f_md_cost))] [(a_md, .inr (5, [.int v_md_length, .ref a_md_text, .int v_md_laws, .int v_md_sayers, .long v_md_there, .long v_md_question, .ref a_md_weight, .ref a_md_says, .ref a_md_cost, .int v_md_measure, .long v_md_trace, .int v_md_readLaws, .int v_md_readSayers, .long v_md_readThere, .ref a_md_readWeight, .ref a_md_readSays, .int v_md_begin, .int v_md_end, .int v_md_sort, .int v_md_open, .ref a_md_opened, .int v_md_level, .ref a_md_any, .ref a_md_all, .long v_md_said, .ref a_md_burdens, .ref a_md_best, .ref a_md_own, .ref a_md_truth])), (a_md_cost, .inl (cI, 6, .inl f_md_cost))] := by
  refine zk_of_i (cc := cX5_farOf) (maxL := 6) (by decide) rfl (Nat.le_of_ble_eq_true rfl) ?_
  intro p e R s m args below meth c A Q ls hx hb hml hRf hRl hts hown hP hK hD hA hS hG hl hret
  have hl : lv_has ls 6 [(0, .ref a_md), (1, .int x0), (2, .long x1)] := hl
  have hown : s.vm.findClass RX5 = some m.cls := hown
  have hcs : 0 ≤ R.cells ∧ 0 ≤ R.slots := ⟨Nat.zero_le _, Nat.zero_le _⟩
  unfold zf_X5_farOf at hf
  refine lv_iconst (v := (-1 : Int32)) hx hb dX5_farOf_0 (by decide) ?_
  refine lv_istore (lv' := [(4, .int (-1 : Int32)), (0, .ref a_md), (1, .int x0), (2, .long x1)]) hx hb dX5_farOf_1 hl (by decide) rfl (fun ls hl => ?_)
  refine lv_iconst (v := (0 : Int32)) hx hb dX5_farOf_3 (by decide) ?_
  refine lv_istore (lv' := [(5, .int (0 : Int32)), (4, .int (-1 : Int32)), (0, .ref a_md), (1, .int x0), (2, .long x1)]) hx hb dX5_farOf_4 hl (by decide) rfl (fun ls hl => ?_)
  have lp6 : ∀ (n : Nat) (w1 : Int32) (w2 : Int32) (z6 : Int32 × Int32) (H : Heap) (locs : List Loc) (ls : Array Slot), zl_X5_farOf_6 x0 x1 v_md_measure f_md_cost n w1 w2 = some z6 → va_P D vwCl [(a_md, .inr (5, [.int v_md_length, .ref a_md_text, .int v_md_laws, .int v_md_sayers, .long v_md_there, .long v_md_question, .ref a_md_weight, .ref a_md_says, .ref a_md_cost, .int v_md_measure, .long v_md_trace, .int v_md_readLaws, .int v_md_readSayers, .long v_md_readThere, .ref a_md_readWeight, .ref a_md_readSays, .int v_md_begin, .int v_md_end, .int v_md_sort, .int v_md_open, .ref a_md_opened, .int v_md_level, .ref a_md_any, .ref a_md_all, .long v_md_said, .ref a_md_burdens, .ref a_md_best, .ref a_md_own, .ref a_md_truth])), (a_md_cost, .inl (cI, 6, .inl f_md_cost))] H → va_D A [(a_md, .inr (5, [.int v_md_length, .ref a_md_text, .int v_md_laws, .int v_md_sayers, .long v_md_there, .long v_md_question, .ref a_md_weight, .ref a_md_says, .ref a_md_cost, .int v_md_measure, .long v_md_trace, .int v_md_readLaws, .int v_md_readSayers, .long v_md_readThere, .ref a_md_readWeight, .ref a_md_readSays, .int v_md_begin, .int v_md_end, .int v_md_sort, .int v_md_open, .ref a_md_opened, .int v_md_level, .ref a_md_any, .ref a_md_all, .long v_md_said, .ref a_md_burdens, .ref a_md_best, .ref a_md_own, .ref a_md_truth])), (a_md_cost, .inl (cI, 6, .inl f_md_cost))] → va_S A s.heap H locs → lv_has ls 6 [(0, .ref a_md), (1, .int x0), (2, .long x1), (4, .int w1), (5, .int w2)] → (∀ (H : Heap) (locs : List Loc) (ls : Array Slot), va_P D vwCl [(a_md, .inr (5, [.int v_md_length, .ref a_md_text, .int v_md_laws, .int v_md_sayers, .long v_md_there, .long v_md_question, .ref a_md_weight, .ref a_md_says, .ref a_md_cost, .int v_md_measure, .long v_md_trace, .int v_md_readLaws, .int v_md_readSayers, .long v_md_readThere, .ref a_md_readWeight, .ref a_md_readSays, .int v_md_begin, .int v_md_end, .int v_md_sort, .int v_md_open, .ref a_md_opened, .int v_md_level, .ref a_md_any, .ref a_md_all, .long v_md_said, .ref a_md_burdens, .ref a_md_best, .ref a_md_own, .ref a_md_truth])), (a_md_cost, .inl (cI, 6, .inl f_md_cost))] H → va_D A [(a_md, .inr (5, [.int v_md_length, .ref a_md_text, .int v_md_laws, .int v_md_sayers, .long v_md_there, .long v_md_question, .ref a_md_weight, .ref a_md_says, .ref a_md_cost, .int v_md_measure, .long v_md_trace, .int v_md_readLaws, .int v_md_readSayers, .long v_md_readThere, .ref a_md_readWeight, .ref a_md_readSays, .int v_md_begin, .int v_md_end, .int v_md_sort, .int v_md_open, .ref a_md_opened, .int v_md_level, .ref a_md_any, .ref a_md_all, .long v_md_said, .ref a_md_burdens, .ref a_md_best, .ref a_md_own, .ref a_md_truth])), (a_md_cost, .inl (cI, 6, .inl f_md_cost))] → va_S A s.heap H locs → lv_has ls 6 [(0, .ref a_md), (1, .int x0), (2, .long x1), (4, .int z6.1), (5, .int z6.2)] → W p l e R s m args below meth c H locs 0 0 Q (F0 m 54 ls [])) → W p l e R s m args below meth c H locs 0 0 Q (F0 m 6 ls []) := by
    intro n
    induction n with
    | zero => intro w1 w2 z6 H locs ls hf; exact absurd (show none = some z6 from hf) (by simp)
    | succ n ih =>
      intro w1 w2 z6 H locs ls hf hP hD hS hl hk
      rw [zl_X5_farOf_6] at hf
      refine lv_iload hx hb dX5_farOf_6 (lv_at hl 4 rfl) ?_
      refine lv_bipush (v := (64 : Int32)) hx hb dX5_farOf_8 (by decide) ?_
      refine lv_icmp_ge (tgt := 54) hx hb dX5_farOf_10 (by decide) (fun c14 => ?_) (fun c14 => ?_)
      · have hf := zk_t c14 hf
        obtain rfl := Option.some.inj hf
        exact hk _ _ _ hP hD hS (lv_sub hl [0, 1, 2, 3, 4] rfl)
      · have hf := zk_f c14 hf
        refine lv_lload_n hx hb dX5_farOf_13 rfl (lv_at hl 2 rfl) ?_
        refine lv_iload hx hb dX5_farOf_14 (lv_at hl 4 rfl) ?_
        obtain ⟨v3, hv3, hf⟩ := zk_ob hf
        refine zk_goR (zk_S (As := [.long x1, .int w2]) (rest := []) hx hb hml hown hts hK hG hP hD hS hA gX5_farOf_X5_has rfl hd_X5_has (Nat.le_trans (Nat.le_of_ble_eq_true rfl) hRf) (Nat.le_trans (Nat.le_of_ble_eq_true rfl) hRl) hcs (zc_X5_has l D tL tO cI cJ cB cQ x1 w2 v3 hv3) hl.1 rfl rfl (Nat.le_of_ble_eq_true rfl) dX5_farOf_16 [] rfl rfl) hP hD hS hA [] rfl (fun H locs hP hS => ?_)
        refine lv_if_eq (tgt := 48) hx hb dX5_farOf_19 (by decide) (fun c13 => ?_) (fun c13 => ?_)
        · have hf := zk_t c13 hf
          obtain ⟨y4, ey4, hf⟩ := zk_lt_s hf
          refine lv_iinc (v := y4) (lv' := [(5, .int y4), (0, .ref a_md), (1, .int x0), (2, .long x1), (4, .int w1)]) hx hb dX5_farOf_48 hl (k := 4) rfl (by rw [ey4]; rfl) (by decide) rfl (fun ls hl => ?_)
          refine lv_goto (tgt := 6) hx hb dX5_farOf_51 (by decide) ?_
          exact ih w1 y4 _ _ _ _ hf hP hD hS (lv_sub hl [1, 2, 3, 4, 0] rfl) hk
        · have hf := zk_f c13 hf
          refine lv_iload hx hb dX5_farOf_22 (lv_at hl 3 rfl) ?_
          refine lv_if_lt (tgt := 39) hx hb dX5_farOf_24 (by decide) (fun c12 => ?_) (fun c12 => ?_)
          · have hf := zk_t c12 hf
            refine lv_aload_n hx hb dX5_farOf_39 rfl (lv_at hl 0 rfl) ?_
            refine lv_iload_n hx hb dX5_farOf_40 rfl (lv_at hl 1 rfl) ?_
            refine lv_iload hx hb dX5_farOf_41 (lv_at hl 4 rfl) ?_
            obtain ⟨v5, hv5, hf⟩ := zk_ob hf
            refine zk_goR (zk_V (As := [.int x0, .int w2]) (rest := []) hx hb hml hown hts hK hG hP hD hS hA gX5_farOf_X5_apartOf rfl hd_X5_apartOf (Nat.le_trans (Nat.le_of_ble_eq_true rfl) hRf) (Nat.le_trans (Nat.le_of_ble_eq_true rfl) hRl) hcs (zc_X5_apartOf l D tL tO cI cJ cB cQ a_md a_md_text a_md_weight a_md_says a_md_cost a_md_readWeight a_md_readSays a_md_opened a_md_any a_md_all a_md_burdens a_md_best a_md_own a_md_truth x0 w2 v_md_length v_md_laws v_md_sayers v_md_there v_md_question v_md_measure v_md_trace v_md_readLaws v_md_readSayers v_md_readThere v_md_begin v_md_end v_md_sort v_md_open v_md_level v_md_said f_md_cost v5 hv5) rfl rfl 0 rfl hl.1 rfl rfl (Nat.le_of_ble_eq_true rfl) dX5_farOf_43 [0, 1] rfl rfl) hP hD hS hA [0, 1] rfl (fun H locs hP hS => ?_)
            refine lv_istore (lv' := [(4, .int v5), (0, .ref a_md), (1, .int x0), (2, .long x1), (5, .int w2)]) hx hb dX5_farOf_46 hl (by decide) rfl (fun ls hl => ?_)
            obtain ⟨y6, ey6, hf⟩ := zk_lt_s hf
            refine lv_iinc (v := y6) (lv' := [(5, .int y6), (4, .int v5), (0, .ref a_md), (1, .int x0), (2, .long x1)]) hx hb dX5_farOf_48 hl (k := 4) rfl (by rw [ey6]; rfl) (by decide) rfl (fun ls hl => ?_)
            refine lv_goto (tgt := 6) hx hb dX5_farOf_51 (by decide) ?_
            exact ih v5 y6 _ _ _ _ hf hP hD hS (lv_sub hl [2, 3, 4, 1, 0] rfl) hk
          · have hf := zk_f c12 hf
            refine lv_aload_n hx hb dX5_farOf_27 rfl (lv_at hl 0 rfl) ?_
            refine lv_iload_n hx hb dX5_farOf_28 rfl (lv_at hl 1 rfl) ?_
            refine lv_iload hx hb dX5_farOf_29 (lv_at hl 4 rfl) ?_
            obtain ⟨v7, hv7, hf⟩ := zk_ob hf
            refine zk_goR (zk_V (As := [.int x0, .int w2]) (rest := []) hx hb hml hown hts hK hG hP hD hS hA gX5_farOf_X5_apartOf rfl hd_X5_apartOf (Nat.le_trans (Nat.le_of_ble_eq_true rfl) hRf) (Nat.le_trans (Nat.le_of_ble_eq_true rfl) hRl) hcs (zc_X5_apartOf l D tL tO cI cJ cB cQ a_md a_md_text a_md_weight a_md_says a_md_cost a_md_readWeight a_md_readSays a_md_opened a_md_any a_md_all a_md_burdens a_md_best a_md_own a_md_truth x0 w2 v_md_length v_md_laws v_md_sayers v_md_there v_md_question v_md_measure v_md_trace v_md_readLaws v_md_readSayers v_md_readThere v_md_begin v_md_end v_md_sort v_md_open v_md_level v_md_said f_md_cost v7 hv7) rfl rfl 0 rfl hl.1 rfl rfl (Nat.le_of_ble_eq_true rfl) dX5_farOf_31 [0, 1] rfl rfl) hP hD hS hA [0, 1] rfl (fun H locs hP hS => ?_)
            refine lv_iload hx hb dX5_farOf_34 (lv_at hl 3 rfl) ?_
            refine lv_icmp_ge (tgt := 48) hx hb dX5_farOf_36 (by decide) (fun c11 => ?_) (fun c11 => ?_)
            · have hf := zk_t c11 hf
              obtain ⟨y8, ey8, hf⟩ := zk_lt_s hf
              refine lv_iinc (v := y8) (lv' := [(5, .int y8), (0, .ref a_md), (1, .int x0), (2, .long x1), (4, .int w1)]) hx hb dX5_farOf_48 hl (k := 4) rfl (by rw [ey8]; rfl) (by decide) rfl (fun ls hl => ?_)
              refine lv_goto (tgt := 6) hx hb dX5_farOf_51 (by decide) ?_
              exact ih w1 y8 _ _ _ _ hf hP hD hS (lv_sub hl [1, 2, 3, 4, 0] rfl) hk
            · have hf := zk_f c11 hf
              refine lv_aload_n hx hb dX5_farOf_39 rfl (lv_at hl 0 rfl) ?_
              refine lv_iload_n hx hb dX5_farOf_40 rfl (lv_at hl 1 rfl) ?_
              refine lv_iload hx hb dX5_farOf_41 (lv_at hl 4 rfl) ?_
              obtain ⟨v9, hv9, hf⟩ := zk_ob hf
              refine zk_goR (zk_V (As := [.int x0, .int w2]) (rest := []) hx hb hml hown hts hK hG hP hD hS hA gX5_farOf_X5_apartOf rfl hd_X5_apartOf (Nat.le_trans (Nat.le_of_ble_eq_true rfl) hRf) (Nat.le_trans (Nat.le_of_ble_eq_true rfl) hRl) hcs (zc_X5_apartOf l D tL tO cI cJ cB cQ a_md a_md_text a_md_weight a_md_says a_md_cost a_md_readWeight a_md_readSays a_md_opened a_md_any a_md_all a_md_burdens a_md_best a_md_own a_md_truth x0 w2 v_md_length v_md_laws v_md_sayers v_md_there v_md_question v_md_measure v_md_trace v_md_readLaws v_md_readSayers v_md_readThere v_md_begin v_md_end v_md_sort v_md_open v_md_level v_md_said f_md_cost v9 hv9) rfl rfl 0 rfl hl.1 rfl rfl (Nat.le_of_ble_eq_true rfl) dX5_farOf_43 [0, 1] rfl rfl) hP hD hS hA [0, 1] rfl (fun H locs hP hS => ?_)
              refine lv_istore (lv' := [(4, .int v9), (0, .ref a_md), (1, .int x0), (2, .long x1), (5, .int w2)]) hx hb dX5_farOf_46 hl (by decide) rfl (fun ls hl => ?_)
              obtain ⟨y10, ey10, hf⟩ := zk_lt_s hf
              refine lv_iinc (v := y10) (lv' := [(5, .int y10), (4, .int v9), (0, .ref a_md), (1, .int x0), (2, .long x1)]) hx hb dX5_farOf_48 hl (k := 4) rfl (by rw [ey10]; rfl) (by decide) rfl (fun ls hl => ?_)
              refine lv_goto (tgt := 6) hx hb dX5_farOf_51 (by decide) ?_
              exact ih v9 y10 _ _ _ _ hf hP hD hS (lv_sub hl [2, 3, 4, 1, 0] rfl) hk
  obtain ⟨v15, hv15, hf⟩ := zk_ob hf
  refine lp6 zk_F (-1 : Int32) (0 : Int32) v15 _ _ _ hv15 hP hD hS (lv_sub hl [2, 3, 4, 1, 0] rfl) ?_
  intro H locs ls hP hD hS hl
  refine lv_iload hx hb dX5_farOf_54 (lv_at hl 3 rfl) ?_
  refine lv_if_ge (tgt := 63) hx hb dX5_farOf_56 (by decide) (fun c16 => ?_) (fun c16 => ?_)
  · have hf := zk_t c16 hf
    refine lv_iload hx hb dX5_farOf_63 (lv_at hl 3 rfl) ?_
    obtain rfl := Option.some.inj hf
    exact hret trivial _ _ _ _ hP hD hS dX5_farOf_65
  · have hf := zk_f c16 hf
    refine lv_iconst (v := (0 : Int32)) hx hb dX5_farOf_59 (by decide) ?_
    refine lv_goto (tgt := 65) hx hb dX5_farOf_60 (by decide) ?_
    obtain rfl := Option.some.inj hf
    exact hret trivial _ _ _ _ hP hD hS dX5_farOf_65
def zf_X5_burden (x0 : Int32) (x1 : Int32) (v_md_sayers : Int32) (v_md_measure : Int32) (f_md_weight : Nat → Int32) (f_md_says : Nat → Int64) (f_md_cost : Nat → Int32) : Option (Int32) :=
  (zf_X5_isSayer x0 v_md_sayers).bind (fun v1 =>
  if v1 = 0 then
  some (-1 : Int32)
  else
  (zf_X5_isWorld x1).bind (fun v2 =>
  if v2 = 0 then
  some (-1 : Int32)
  else
  zk_gd (zk_in x0 7)
  ((zf_X5_farOf x1 (f_md_says x0.toNatClampNeg) v_md_measure f_md_cost).bind (fun v4 =>
  some ((f_md_weight x0.toNatClampNeg) * v4)))))
theorem hd_X5_burden : yX5_burden.cls = RX5 ∧ yX5_burden.cls ≠ "java/lang/invoke/MethodHandle" ∧ yX5_burden.cls ≠ "java/lang/invoke/VarHandle" ∧ (parseMethodDescriptor yX5_burden.desc).map (fun d => d.parameters.length) = some 2 := by decide +kernel
set_option maxHeartbeats 4000000 in
set_option maxRecDepth 100000 in
theorem zc_X5_burden (l : Launch) (D : va_G) (tL tO : Nat) (cI cJ cB cQ : ClassId) (a_md a_md_text a_md_weight a_md_says a_md_cost a_md_readWeight a_md_readSays a_md_opened a_md_any a_md_all a_md_burdens a_md_best a_md_own a_md_truth : Nat) (x0 : Int32) (x1 : Int32) (v_md_length : Int32) (v_md_laws : Int32) (v_md_sayers : Int32) (v_md_there : Int64) (v_md_question : Int64) (v_md_measure : Int32) (v_md_trace : Int64) (v_md_readLaws : Int32) (v_md_readSayers : Int32) (v_md_readThere : Int64) (v_md_begin : Int32) (v_md_end : Int32) (v_md_sort : Int32) (v_md_open : Int32) (v_md_level : Int32) (v_md_said : Int64) (f_md_weight : Nat → Int32) (f_md_says : Nat → Int64) (f_md_cost : Nat → Int32) (z : Int32) (hf : zf_X5_burden x0 x1 v_md_sayers v_md_measure f_md_weight f_md_says f_md_cost = some z) : zk_CT l D tL tO (zk_ty cI cJ cB cQ) yX5_burden wsX5_burden 3 71 [.ref a_md, .int x0, .int x1] (some (.int z)) [(a_md, .inr (5, [.int v_md_length, .ref a_md_text, .int v_md_laws, .int v_md_sayers, .long v_md_there, .long v_md_question, .ref a_md_weight, .ref a_md_says, .ref a_md_cost, .int v_md_measure, .long v_md_trace, .int v_md_readLaws, .int v_md_readSayers, .long v_md_readThere, .ref a_md_readWeight, .ref a_md_readSays, .int v_md_begin, .int v_md_end, .int v_md_sort, .int v_md_open, .ref a_md_opened, .int v_md_level, .ref a_md_any, .ref a_md_all, .long v_md_said, .ref a_md_burdens, .ref a_md_best, .ref a_md_own, .ref a_md_truth])), (a_md_weight, .inl (cI, 7, .inl f_md_weight)), (a_md_says, .inl (cJ, 7, .inr (.inl f_md_says))), (a_md_cost, .inl (cI, 6, .inl f_md_cost))] [(a_md, .inr (5, [.int v_md_length, .ref a_md_text, .int v_md_laws, .int v_md_sayers, .long v_md_there, .long v_md_question, .ref a_md_weight, .ref a_md_says, .ref a_md_cost, .int v_md_measure, .long v_md_trace, .int v_md_readLaws, .int v_md_readSayers, .long v_md_readThere, .ref a_md_readWeight, .ref a_md_readSays, .int v_md_begin, .int v_md_end, .int v_md_sort, .int v_md_open, .ref a_md_opened, .int v_md_level, .ref a_md_any, .ref a_md_all, .long v_md_said, .ref a_md_burdens, .ref a_md_best, .ref a_md_own, .ref a_md_truth])), (a_md_weight, .inl (cI, 7, .inl f_md_weight)), (a_md_says, .inl (cJ, 7, .inr (.inl f_md_says))), (a_md_cost, .inl (cI, 6, .inl f_md_cost))] := by
  refine zk_of_i (cc := cX5_burden) (maxL := 3) (by decide) rfl (Nat.le_of_ble_eq_true rfl) ?_
  intro p e R s m args below meth c A Q ls hx hb hml hRf hRl hts hown hP hK hD hA hS hG hl hret
  have hl : lv_has ls 3 [(0, .ref a_md), (1, .int x0), (2, .int x1)] := hl
  have hown : s.vm.findClass RX5 = some m.cls := hown
  have hcs : 0 ≤ R.cells ∧ 0 ≤ R.slots := ⟨Nat.zero_le _, Nat.zero_le _⟩
  have lk0 := hts (.fieldLink RX5 22 "SayingsMergedModel" "weight" "[I") (by decide +kernel)
  have inX5 : ∀ w ∈ wsX50, w ∈ wsX5_burden := by decide +kernel
  have lk2 := hts (.fieldLink RX5 26 "SayingsMergedModel" "says" "[J") (by decide +kernel)
  unfold zf_X5_burden at hf
  refine lv_aload_n hx hb dX5_burden_0 rfl (lv_at hl 0 rfl) ?_
  refine lv_iload_n hx hb dX5_burden_1 rfl (lv_at hl 1 rfl) ?_
  obtain ⟨v1, hv1, hf⟩ := zk_ob hf
  refine zk_goR (zk_V (As := [.int x0]) (rest := []) hx hb hml hown hts hK hG hP hD hS hA gX5_burden_X5_isSayer rfl hd_X5_isSayer (Nat.le_trans (Nat.le_of_ble_eq_true rfl) hRf) (Nat.le_trans (Nat.le_of_ble_eq_true rfl) hRl) hcs (zc_X5_isSayer l D tL tO cI cJ cB cQ a_md a_md_text a_md_weight a_md_says a_md_cost a_md_readWeight a_md_readSays a_md_opened a_md_any a_md_all a_md_burdens a_md_best a_md_own a_md_truth x0 v_md_length v_md_laws v_md_sayers v_md_there v_md_question v_md_measure v_md_trace v_md_readLaws v_md_readSayers v_md_readThere v_md_begin v_md_end v_md_sort v_md_open v_md_level v_md_said v1 hv1) rfl rfl 0 rfl hl.1 rfl rfl (Nat.le_of_ble_eq_true rfl) dX5_burden_2 [0] rfl rfl) hP hD hS hA [0] rfl (fun H locs hP hS => ?_)
  refine lv_if_eq (tgt := 36) hx hb dX5_burden_5 (by decide) (fun c6 => ?_) (fun c6 => ?_)
  · have hf := zk_t c6 hf
    refine lv_iconst (v := (-1 : Int32)) hx hb dX5_burden_36 (by decide) ?_
    obtain rfl := Option.some.inj hf
    exact hret trivial _ _ _ _ hP hD hS dX5_burden_37
  · have hf := zk_f c6 hf
    refine lv_iload_n hx hb dX5_burden_8 rfl (lv_at hl 2 rfl) ?_
    obtain ⟨v2, hv2, hf⟩ := zk_ob hf
    refine zk_goR (zk_S (As := [.int x1]) (rest := []) hx hb hml hown hts hK hG hP hD hS hA gX5_burden_X5_isWorld rfl hd_X5_isWorld (Nat.le_trans (Nat.le_of_ble_eq_true rfl) hRf) (Nat.le_trans (Nat.le_of_ble_eq_true rfl) hRl) hcs (zc_X5_isWorld l D tL tO cI cJ cB cQ x1 v2 hv2) hl.1 rfl rfl (Nat.le_of_ble_eq_true rfl) dX5_burden_9 [] rfl rfl) hP hD hS hA [] rfl (fun H locs hP hS => ?_)
    refine lv_if_eq (tgt := 36) hx hb dX5_burden_12 (by decide) (fun c5 => ?_) (fun c5 => ?_)
    · have hf := zk_t c5 hf
      refine lv_iconst (v := (-1 : Int32)) hx hb dX5_burden_36 (by decide) ?_
      obtain rfl := Option.some.inj hf
      exact hret trivial _ _ _ _ hP hD hS dX5_burden_37
    · have hf := zk_f c5 hf
      refine lv_aload_n hx hb dX5_burden_15 rfl (lv_at hl 0 rfl) ?_
      refine va_get (ci := 5) (v := .ref a_md_weight) (C := RX5) (T := TX5) (N := 29) hx hb hts inX5 hown hK hP 0 rfl rfl 6 (by decide) lk0 (fun _ h9 => h9) rfl dX5_burden_16 ?_
      refine lv_iload_n hx hb dX5_burden_19 rfl (lv_at hl 1 rfl) ?_
      obtain ⟨g3, hf⟩ := zk_gd_s hf
      refine va_iald hx hb hK hP 1 0 rfl rfl (zk_in_s g3) dX5_burden_20 ?_
      refine lv_aload_n hx hb dX5_burden_21 rfl (lv_at hl 0 rfl) ?_
      refine lv_iload_n hx hb dX5_burden_22 rfl (lv_at hl 2 rfl) ?_
      refine lv_aload_n hx hb dX5_burden_23 rfl (lv_at hl 0 rfl) ?_
      refine va_get (ci := 5) (v := .ref a_md_says) (C := RX5) (T := TX5) (N := 29) hx hb hts inX5 hown hK hP 0 rfl rfl 7 (by decide) lk2 (fun _ h9 => h9) rfl dX5_burden_24 ?_
      refine lv_iload_n hx hb dX5_burden_27 rfl (lv_at hl 1 rfl) ?_
      refine va_lald hx hb hK hP 2 1 rfl rfl (zk_in_s g3) dX5_burden_28 ?_
      obtain ⟨v4, hv4, hf⟩ := zk_ob hf
      refine zk_goR (zk_V (As := [.int x1, .long (f_md_says x0.toNatClampNeg)]) (rest := [.int (f_md_weight x0.toNatClampNeg)]) hx hb hml hown hts hK hG hP hD hS hA gX5_burden_X5_farOf rfl hd_X5_farOf (Nat.le_trans (Nat.le_of_ble_eq_true rfl) hRf) (Nat.le_trans (Nat.le_of_ble_eq_true rfl) hRl) hcs (zc_X5_farOf l D tL tO cI cJ cB cQ a_md a_md_text a_md_weight a_md_says a_md_cost a_md_readWeight a_md_readSays a_md_opened a_md_any a_md_all a_md_burdens a_md_best a_md_own a_md_truth x1 (f_md_says x0.toNatClampNeg) v_md_length v_md_laws v_md_sayers v_md_there v_md_question v_md_measure v_md_trace v_md_readLaws v_md_readSayers v_md_readThere v_md_begin v_md_end v_md_sort v_md_open v_md_level v_md_said f_md_cost v4 hv4) rfl rfl 0 rfl hl.1 rfl rfl (Nat.le_of_ble_eq_true rfl) dX5_burden_29 [0, 3] rfl rfl) hP hD hS hA [0, 3] rfl (fun H locs hP hS => ?_)
      refine lv_imul hx hb dX5_burden_32 ?_
      refine lv_goto (tgt := 37) hx hb dX5_burden_33 (by decide) ?_
      obtain rfl := Option.some.inj hf
      exact hret trivial _ _ _ _ hP hD hS dX5_burden_37
def zl_X5_lays_3 (x0 : Int32) (x1 : Int64) (v_md_measure : Int32) (f_md_weight : Nat → Int32) (f_md_cost : Nat → Int32) : Nat → (Int32) → (Nat → Int32) → Option (Int32 × (Nat → Int32))
  | 0, _, _ => none
  | n + 1, w1, w2 =>
    if (64 : Int32) ≤ w1 then
    some (w1, w2)
    else
    zk_gd (zk_in x0 7)
    ((zf_X5_farOf w1 x1 v_md_measure f_md_cost).bind (fun v4 =>
    zk_gd (zk_in (((64 : Int32) * x0) + w1) 448)
    (zk_lt (w1 + 1) (fun y6 =>
    zl_X5_lays_3 x0 x1 v_md_measure f_md_weight f_md_cost n y6 (upd w2 (((64 : Int32) * x0) + w1).toNatClampNeg ((f_md_weight x0.toNatClampNeg) * v4))))))
def zf_X5_lays (x0 : Int32) (x1 : Int64) (v_md_measure : Int32) (f_md_weight : Nat → Int32) (f_md_cost : Nat → Int32) (f_md_burdens : Nat → Int32) : Option (Nat → Int32) :=
  (zl_X5_lays_3 x0 x1 v_md_measure f_md_weight f_md_cost zk_F (0 : Int32) f_md_burdens).bind (fun v8 =>
  some v8.2)
theorem hd_X5_lays : yX5_lays.cls = RX5 ∧ yX5_lays.cls ≠ "java/lang/invoke/MethodHandle" ∧ yX5_lays.cls ≠ "java/lang/invoke/VarHandle" ∧ (parseMethodDescriptor yX5_lays.desc).map (fun d => d.parameters.length) = some 2 := by decide +kernel
set_option maxHeartbeats 4000000 in
set_option maxRecDepth 100000 in
theorem zc_X5_lays (l : Launch) (D : va_G) (tL tO : Nat) (cI cJ cB cQ : ClassId) (a_md a_md_text a_md_weight a_md_says a_md_cost a_md_readWeight a_md_readSays a_md_opened a_md_any a_md_all a_md_burdens a_md_best a_md_own a_md_truth : Nat) (x0 : Int32) (x1 : Int64) (v_md_length : Int32) (v_md_laws : Int32) (v_md_sayers : Int32) (v_md_there : Int64) (v_md_question : Int64) (v_md_measure : Int32) (v_md_trace : Int64) (v_md_readLaws : Int32) (v_md_readSayers : Int32) (v_md_readThere : Int64) (v_md_begin : Int32) (v_md_end : Int32) (v_md_sort : Int32) (v_md_open : Int32) (v_md_level : Int32) (v_md_said : Int64) (f_md_weight : Nat → Int32) (f_md_cost : Nat → Int32) (f_md_burdens : Nat → Int32) (z : Nat → Int32) (hf : zf_X5_lays x0 x1 v_md_measure f_md_weight f_md_cost f_md_burdens = some z) : zk_CT l D tL tO (zk_ty cI cJ cB cQ) yX5_lays wsX5_lays 3 71 [.ref a_md, .int x0, .long x1] none [(a_md, .inr (5, [.int v_md_length, .ref a_md_text, .int v_md_laws, .int v_md_sayers, .long v_md_there, .long v_md_question, .ref a_md_weight, .ref a_md_says, .ref a_md_cost, .int v_md_measure, .long v_md_trace, .int v_md_readLaws, .int v_md_readSayers, .long v_md_readThere, .ref a_md_readWeight, .ref a_md_readSays, .int v_md_begin, .int v_md_end, .int v_md_sort, .int v_md_open, .ref a_md_opened, .int v_md_level, .ref a_md_any, .ref a_md_all, .long v_md_said, .ref a_md_burdens, .ref a_md_best, .ref a_md_own, .ref a_md_truth])), (a_md_weight, .inl (cI, 7, .inl f_md_weight)), (a_md_cost, .inl (cI, 6, .inl f_md_cost)), (a_md_burdens, .inl (cI, 448, .inl f_md_burdens))] [(a_md, .inr (5, [.int v_md_length, .ref a_md_text, .int v_md_laws, .int v_md_sayers, .long v_md_there, .long v_md_question, .ref a_md_weight, .ref a_md_says, .ref a_md_cost, .int v_md_measure, .long v_md_trace, .int v_md_readLaws, .int v_md_readSayers, .long v_md_readThere, .ref a_md_readWeight, .ref a_md_readSays, .int v_md_begin, .int v_md_end, .int v_md_sort, .int v_md_open, .ref a_md_opened, .int v_md_level, .ref a_md_any, .ref a_md_all, .long v_md_said, .ref a_md_burdens, .ref a_md_best, .ref a_md_own, .ref a_md_truth])), (a_md_weight, .inl (cI, 7, .inl f_md_weight)), (a_md_cost, .inl (cI, 6, .inl f_md_cost)), (a_md_burdens, .inl (cI, 448, .inl z))] := by
  refine zk_of_v (cc := cX5_lays) (maxL := 5) (by decide) rfl (Nat.le_of_ble_eq_true rfl) ?_
  intro p e R s m args below meth c A Q ls hx hb hml hRf hRl hts hown hP hK hD hA hS hG hl hret
  have hl : lv_has ls 5 [(0, .ref a_md), (1, .int x0), (2, .long x1)] := hl
  have hown : s.vm.findClass RX5 = some m.cls := hown
  have hcs : 0 ≤ R.cells ∧ 0 ≤ R.slots := ⟨Nat.zero_le _, Nat.zero_le _⟩
  have lk0 := hts (.fieldLink RX5 48 "SayingsMergedModel" "burdens" "[I") (by decide +kernel)
  have inX5 : ∀ w ∈ wsX50, w ∈ wsX5_lays := by decide +kernel
  have lk2 := hts (.fieldLink RX5 22 "SayingsMergedModel" "weight" "[I") (by decide +kernel)
  unfold zf_X5_lays at hf
  refine lv_iconst (v := (0 : Int32)) hx hb dX5_lays_0 (by decide) ?_
  refine lv_istore (lv' := [(4, .int (0 : Int32)), (0, .ref a_md), (1, .int x0), (2, .long x1)]) hx hb dX5_lays_1 hl (by decide) rfl (fun ls hl => ?_)
  have lp3 : ∀ (n : Nat) (w1 : Int32) (w2 : Nat → Int32) (z3 : Int32 × (Nat → Int32)) (H : Heap) (locs : List Loc) (ls : Array Slot), zl_X5_lays_3 x0 x1 v_md_measure f_md_weight f_md_cost n w1 w2 = some z3 → va_P D vwCl [(a_md, .inr (5, [.int v_md_length, .ref a_md_text, .int v_md_laws, .int v_md_sayers, .long v_md_there, .long v_md_question, .ref a_md_weight, .ref a_md_says, .ref a_md_cost, .int v_md_measure, .long v_md_trace, .int v_md_readLaws, .int v_md_readSayers, .long v_md_readThere, .ref a_md_readWeight, .ref a_md_readSays, .int v_md_begin, .int v_md_end, .int v_md_sort, .int v_md_open, .ref a_md_opened, .int v_md_level, .ref a_md_any, .ref a_md_all, .long v_md_said, .ref a_md_burdens, .ref a_md_best, .ref a_md_own, .ref a_md_truth])), (a_md_weight, .inl (cI, 7, .inl f_md_weight)), (a_md_cost, .inl (cI, 6, .inl f_md_cost)), (a_md_burdens, .inl (cI, 448, .inl w2))] H → va_D A [(a_md, .inr (5, [.int v_md_length, .ref a_md_text, .int v_md_laws, .int v_md_sayers, .long v_md_there, .long v_md_question, .ref a_md_weight, .ref a_md_says, .ref a_md_cost, .int v_md_measure, .long v_md_trace, .int v_md_readLaws, .int v_md_readSayers, .long v_md_readThere, .ref a_md_readWeight, .ref a_md_readSays, .int v_md_begin, .int v_md_end, .int v_md_sort, .int v_md_open, .ref a_md_opened, .int v_md_level, .ref a_md_any, .ref a_md_all, .long v_md_said, .ref a_md_burdens, .ref a_md_best, .ref a_md_own, .ref a_md_truth])), (a_md_weight, .inl (cI, 7, .inl f_md_weight)), (a_md_cost, .inl (cI, 6, .inl f_md_cost)), (a_md_burdens, .inl (cI, 448, .inl w2))] → va_S A s.heap H locs → lv_has ls 5 [(0, .ref a_md), (1, .int x0), (2, .long x1), (4, .int w1)] → (∀ (H : Heap) (locs : List Loc) (ls : Array Slot), va_P D vwCl [(a_md, .inr (5, [.int v_md_length, .ref a_md_text, .int v_md_laws, .int v_md_sayers, .long v_md_there, .long v_md_question, .ref a_md_weight, .ref a_md_says, .ref a_md_cost, .int v_md_measure, .long v_md_trace, .int v_md_readLaws, .int v_md_readSayers, .long v_md_readThere, .ref a_md_readWeight, .ref a_md_readSays, .int v_md_begin, .int v_md_end, .int v_md_sort, .int v_md_open, .ref a_md_opened, .int v_md_level, .ref a_md_any, .ref a_md_all, .long v_md_said, .ref a_md_burdens, .ref a_md_best, .ref a_md_own, .ref a_md_truth])), (a_md_weight, .inl (cI, 7, .inl f_md_weight)), (a_md_cost, .inl (cI, 6, .inl f_md_cost)), (a_md_burdens, .inl (cI, 448, .inl z3.2))] H → va_D A [(a_md, .inr (5, [.int v_md_length, .ref a_md_text, .int v_md_laws, .int v_md_sayers, .long v_md_there, .long v_md_question, .ref a_md_weight, .ref a_md_says, .ref a_md_cost, .int v_md_measure, .long v_md_trace, .int v_md_readLaws, .int v_md_readSayers, .long v_md_readThere, .ref a_md_readWeight, .ref a_md_readSays, .int v_md_begin, .int v_md_end, .int v_md_sort, .int v_md_open, .ref a_md_opened, .int v_md_level, .ref a_md_any, .ref a_md_all, .long v_md_said, .ref a_md_burdens, .ref a_md_best, .ref a_md_own, .ref a_md_truth])), (a_md_weight, .inl (cI, 7, .inl f_md_weight)), (a_md_cost, .inl (cI, 6, .inl f_md_cost)), (a_md_burdens, .inl (cI, 448, .inl z3.2))] → va_S A s.heap H locs → lv_has ls 5 [(0, .ref a_md), (1, .int x0), (2, .long x1), (4, .int z3.1)] → W p l e R s m args below meth c H locs 0 0 Q (F0 m 42 ls [])) → W p l e R s m args below meth c H locs 0 0 Q (F0 m 3 ls []) := by
    intro n
    induction n with
    | zero => intro w1 w2 z3 H locs ls hf; exact absurd (show none = some z3 from hf) (by simp)
    | succ n ih =>
      intro w1 w2 z3 H locs ls hf hP hD hS hl hk
      rw [zl_X5_lays_3] at hf
      refine lv_iload hx hb dX5_lays_3 (lv_at hl 3 rfl) ?_
      refine lv_bipush (v := (64 : Int32)) hx hb dX5_lays_5 (by decide) ?_
      refine lv_icmp_ge (tgt := 42) hx hb dX5_lays_7 (by decide) (fun c7 => ?_) (fun c7 => ?_)
      · have hf := zk_t c7 hf
        obtain rfl := Option.some.inj hf
        exact hk _ _ _ hP hD hS (lv_sub hl [0, 1, 2, 3] rfl)
      · have hf := zk_f c7 hf
        refine lv_aload_n hx hb dX5_lays_10 rfl (lv_at hl 0 rfl) ?_
        refine va_get (ci := 5) (v := .ref a_md_burdens) (C := RX5) (T := TX5) (N := 29) hx hb hts inX5 hown hK hP 0 rfl rfl 25 (by decide) lk0 (fun _ h9 => h9) rfl dX5_lays_11 ?_
        refine lv_bipush (v := (64 : Int32)) hx hb dX5_lays_14 (by decide) ?_
        refine lv_iload_n hx hb dX5_lays_16 rfl (lv_at hl 1 rfl) ?_
        refine lv_imul hx hb dX5_lays_17 ?_
        refine lv_iload hx hb dX5_lays_18 (lv_at hl 3 rfl) ?_
        refine lv_iadd hx hb dX5_lays_20 ?_
        refine lv_aload_n hx hb dX5_lays_21 rfl (lv_at hl 0 rfl) ?_
        refine va_get (ci := 5) (v := .ref a_md_weight) (C := RX5) (T := TX5) (N := 29) hx hb hts inX5 hown hK hP 0 rfl rfl 6 (by decide) lk2 (fun _ h9 => h9) rfl dX5_lays_22 ?_
        refine lv_iload_n hx hb dX5_lays_25 rfl (lv_at hl 1 rfl) ?_
        obtain ⟨g3, hf⟩ := zk_gd_s hf
        refine va_iald hx hb hK hP 1 0 rfl rfl (zk_in_s g3) dX5_lays_26 ?_
        refine lv_aload_n hx hb dX5_lays_27 rfl (lv_at hl 0 rfl) ?_
        refine lv_iload hx hb dX5_lays_28 (lv_at hl 3 rfl) ?_
        refine lv_lload_n hx hb dX5_lays_30 rfl (lv_at hl 2 rfl) ?_
        obtain ⟨v4, hv4, hf⟩ := zk_ob hf
        refine zk_goR (zk_V (As := [.int w1, .long x1]) (rest := [.int (f_md_weight x0.toNatClampNeg), .int (((64 : Int32) * x0) + w1), .ref a_md_burdens]) hx hb hml hown hts hK hG hP hD hS hA gX5_lays_X5_farOf rfl hd_X5_farOf (Nat.le_trans (Nat.le_of_ble_eq_true rfl) hRf) (Nat.le_trans (Nat.le_of_ble_eq_true rfl) hRl) hcs (zc_X5_farOf l D tL tO cI cJ cB cQ a_md a_md_text a_md_weight a_md_says a_md_cost a_md_readWeight a_md_readSays a_md_opened a_md_any a_md_all a_md_burdens a_md_best a_md_own a_md_truth w1 x1 v_md_length v_md_laws v_md_sayers v_md_there v_md_question v_md_measure v_md_trace v_md_readLaws v_md_readSayers v_md_readThere v_md_begin v_md_end v_md_sort v_md_open v_md_level v_md_said f_md_cost v4 hv4) rfl rfl 0 rfl hl.1 rfl rfl (Nat.le_of_ble_eq_true rfl) dX5_lays_31 [0, 2] rfl rfl) hP hD hS hA [0, 2] rfl (fun H locs hP hS => ?_)
        refine lv_imul hx hb dX5_lays_34 ?_
        obtain ⟨g5, hf⟩ := zk_gd_s hf
        refine va_iast hx hb hK hP hD hS 3 0 rfl rfl (zk_in_s g5) dX5_lays_35 (fun H locs hP hD hS => ?_)
        have hP : va_P D vwCl [(a_md, .inr (5, [.int v_md_length, .ref a_md_text, .int v_md_laws, .int v_md_sayers, .long v_md_there, .long v_md_question, .ref a_md_weight, .ref a_md_says, .ref a_md_cost, .int v_md_measure, .long v_md_trace, .int v_md_readLaws, .int v_md_readSayers, .long v_md_readThere, .ref a_md_readWeight, .ref a_md_readSays, .int v_md_begin, .int v_md_end, .int v_md_sort, .int v_md_open, .ref a_md_opened, .int v_md_level, .ref a_md_any, .ref a_md_all, .long v_md_said, .ref a_md_burdens, .ref a_md_best, .ref a_md_own, .ref a_md_truth])), (a_md_weight, .inl (cI, 7, .inl f_md_weight)), (a_md_cost, .inl (cI, 6, .inl f_md_cost)), (a_md_burdens, .inl (cI, 448, .inl (upd w2 (((64 : Int32) * x0) + w1).toNatClampNeg ((f_md_weight x0.toNatClampNeg) * v4))))] H := hP
        have hD : va_D A [(a_md, .inr (5, [.int v_md_length, .ref a_md_text, .int v_md_laws, .int v_md_sayers, .long v_md_there, .long v_md_question, .ref a_md_weight, .ref a_md_says, .ref a_md_cost, .int v_md_measure, .long v_md_trace, .int v_md_readLaws, .int v_md_readSayers, .long v_md_readThere, .ref a_md_readWeight, .ref a_md_readSays, .int v_md_begin, .int v_md_end, .int v_md_sort, .int v_md_open, .ref a_md_opened, .int v_md_level, .ref a_md_any, .ref a_md_all, .long v_md_said, .ref a_md_burdens, .ref a_md_best, .ref a_md_own, .ref a_md_truth])), (a_md_weight, .inl (cI, 7, .inl f_md_weight)), (a_md_cost, .inl (cI, 6, .inl f_md_cost)), (a_md_burdens, .inl (cI, 448, .inl (upd w2 (((64 : Int32) * x0) + w1).toNatClampNeg ((f_md_weight x0.toNatClampNeg) * v4))))] := hD
        obtain ⟨y6, ey6, hf⟩ := zk_lt_s hf
        refine lv_iinc (v := y6) (lv' := [(4, .int y6), (0, .ref a_md), (1, .int x0), (2, .long x1)]) hx hb dX5_lays_36 hl (k := 3) rfl (by rw [ey6]; rfl) (by decide) rfl (fun ls hl => ?_)
        refine lv_goto (tgt := 3) hx hb dX5_lays_39 (by decide) ?_
        exact ih y6 (upd w2 (((64 : Int32) * x0) + w1).toNatClampNeg ((f_md_weight x0.toNatClampNeg) * v4)) _ _ _ _ hf hP hD hS (lv_sub hl [1, 2, 3, 0] rfl) hk
  obtain ⟨v8, hv8, hf⟩ := zk_ob hf
  refine lp3 zk_F (0 : Int32) f_md_burdens v8 _ _ _ hv8 hP hD hS (lv_sub hl [1, 2, 3, 0] rfl) ?_
  intro H locs ls hP hD hS hl
  obtain rfl := Option.some.inj hf
  exact hret trivial _ _ _ _ hP hD hS dX5_lays_42
def zl_X5_laysAll_2 (v_md_sayers : Int32) (v_md_measure : Int32) (f_md_weight : Nat → Int32) (f_md_says : Nat → Int64) (f_md_cost : Nat → Int32) : Nat → (Int32) → (Nat → Int32) → Option (Int32 × (Nat → Int32))
  | 0, _, _ => none
  | n + 1, w1, w2 =>
    if v_md_sayers ≤ w1 then
    some (w1, w2)
    else
    zk_gd (zk_in w1 7)
    ((zf_X5_lays w1 (f_md_says w1.toNatClampNeg) v_md_measure f_md_weight f_md_cost w2).bind (fun v4 =>
    zk_lt (w1 + 1) (fun y5 =>
    zl_X5_laysAll_2 v_md_sayers v_md_measure f_md_weight f_md_says f_md_cost n y5 v4)))
def zf_X5_laysAll (v_md_sayers : Int32) (v_md_measure : Int32) (f_md_weight : Nat → Int32) (f_md_says : Nat → Int64) (f_md_cost : Nat → Int32) (f_md_burdens : Nat → Int32) : Option (Nat → Int32) :=
  (zl_X5_laysAll_2 v_md_sayers v_md_measure f_md_weight f_md_says f_md_cost zk_F (0 : Int32) f_md_burdens).bind (fun v7 =>
  some v7.2)
theorem hd_X5_laysAll : yX5_laysAll.cls = RX5 ∧ yX5_laysAll.cls ≠ "java/lang/invoke/MethodHandle" ∧ yX5_laysAll.cls ≠ "java/lang/invoke/VarHandle" ∧ (parseMethodDescriptor yX5_laysAll.desc).map (fun d => d.parameters.length) = some 0 := by decide +kernel
set_option maxHeartbeats 4000000 in
set_option maxRecDepth 100000 in
theorem zc_X5_laysAll (l : Launch) (D : va_G) (tL tO : Nat) (cI cJ cB cQ : ClassId) (a_md a_md_text a_md_weight a_md_says a_md_cost a_md_readWeight a_md_readSays a_md_opened a_md_any a_md_all a_md_burdens a_md_best a_md_own a_md_truth : Nat) (v_md_length : Int32) (v_md_laws : Int32) (v_md_sayers : Int32) (v_md_there : Int64) (v_md_question : Int64) (v_md_measure : Int32) (v_md_trace : Int64) (v_md_readLaws : Int32) (v_md_readSayers : Int32) (v_md_readThere : Int64) (v_md_begin : Int32) (v_md_end : Int32) (v_md_sort : Int32) (v_md_open : Int32) (v_md_level : Int32) (v_md_said : Int64) (f_md_weight : Nat → Int32) (f_md_says : Nat → Int64) (f_md_cost : Nat → Int32) (f_md_burdens : Nat → Int32) (z : Nat → Int32) (hf : zf_X5_laysAll v_md_sayers v_md_measure f_md_weight f_md_says f_md_cost f_md_burdens = some z) : zk_CT l D tL tO (zk_ty cI cJ cB cQ) yX5_laysAll wsX5_laysAll 4 95 [.ref a_md] none [(a_md, .inr (5, [.int v_md_length, .ref a_md_text, .int v_md_laws, .int v_md_sayers, .long v_md_there, .long v_md_question, .ref a_md_weight, .ref a_md_says, .ref a_md_cost, .int v_md_measure, .long v_md_trace, .int v_md_readLaws, .int v_md_readSayers, .long v_md_readThere, .ref a_md_readWeight, .ref a_md_readSays, .int v_md_begin, .int v_md_end, .int v_md_sort, .int v_md_open, .ref a_md_opened, .int v_md_level, .ref a_md_any, .ref a_md_all, .long v_md_said, .ref a_md_burdens, .ref a_md_best, .ref a_md_own, .ref a_md_truth])), (a_md_weight, .inl (cI, 7, .inl f_md_weight)), (a_md_says, .inl (cJ, 7, .inr (.inl f_md_says))), (a_md_cost, .inl (cI, 6, .inl f_md_cost)), (a_md_burdens, .inl (cI, 448, .inl f_md_burdens))] [(a_md, .inr (5, [.int v_md_length, .ref a_md_text, .int v_md_laws, .int v_md_sayers, .long v_md_there, .long v_md_question, .ref a_md_weight, .ref a_md_says, .ref a_md_cost, .int v_md_measure, .long v_md_trace, .int v_md_readLaws, .int v_md_readSayers, .long v_md_readThere, .ref a_md_readWeight, .ref a_md_readSays, .int v_md_begin, .int v_md_end, .int v_md_sort, .int v_md_open, .ref a_md_opened, .int v_md_level, .ref a_md_any, .ref a_md_all, .long v_md_said, .ref a_md_burdens, .ref a_md_best, .ref a_md_own, .ref a_md_truth])), (a_md_weight, .inl (cI, 7, .inl f_md_weight)), (a_md_says, .inl (cJ, 7, .inr (.inl f_md_says))), (a_md_cost, .inl (cI, 6, .inl f_md_cost)), (a_md_burdens, .inl (cI, 448, .inl z))] := by
  refine zk_of_v (cc := cX5_laysAll) (maxL := 2) (by decide) rfl (Nat.le_of_ble_eq_true rfl) ?_
  intro p e R s m args below meth c A Q ls hx hb hml hRf hRl hts hown hP hK hD hA hS hG hl hret
  have hl : lv_has ls 2 [(0, .ref a_md)] := hl
  have hown : s.vm.findClass RX5 = some m.cls := hown
  have hcs : 0 ≤ R.cells ∧ 0 ≤ R.slots := ⟨Nat.zero_le _, Nat.zero_le _⟩
  have lk0 := hts (.fieldLink RX5 142 "SayingsMergedModel" "sayers" "I") (by decide +kernel)
  have inX5 : ∀ w ∈ wsX50, w ∈ wsX5_laysAll := by decide +kernel
  have lk2 := hts (.fieldLink RX5 26 "SayingsMergedModel" "says" "[J") (by decide +kernel)
  unfold zf_X5_laysAll at hf
  refine lv_iconst (v := (0 : Int32)) hx hb dX5_laysAll_0 (by decide) ?_
  refine lv_istore_n (lv' := [(1, .int (0 : Int32)), (0, .ref a_md)]) hx hb dX5_laysAll_1 rfl hl (by decide) rfl (fun ls hl => ?_)
  have lp2 : ∀ (n : Nat) (w1 : Int32) (w2 : Nat → Int32) (z2 : Int32 × (Nat → Int32)) (H : Heap) (locs : List Loc) (ls : Array Slot), zl_X5_laysAll_2 v_md_sayers v_md_measure f_md_weight f_md_says f_md_cost n w1 w2 = some z2 → va_P D vwCl [(a_md, .inr (5, [.int v_md_length, .ref a_md_text, .int v_md_laws, .int v_md_sayers, .long v_md_there, .long v_md_question, .ref a_md_weight, .ref a_md_says, .ref a_md_cost, .int v_md_measure, .long v_md_trace, .int v_md_readLaws, .int v_md_readSayers, .long v_md_readThere, .ref a_md_readWeight, .ref a_md_readSays, .int v_md_begin, .int v_md_end, .int v_md_sort, .int v_md_open, .ref a_md_opened, .int v_md_level, .ref a_md_any, .ref a_md_all, .long v_md_said, .ref a_md_burdens, .ref a_md_best, .ref a_md_own, .ref a_md_truth])), (a_md_weight, .inl (cI, 7, .inl f_md_weight)), (a_md_says, .inl (cJ, 7, .inr (.inl f_md_says))), (a_md_cost, .inl (cI, 6, .inl f_md_cost)), (a_md_burdens, .inl (cI, 448, .inl w2))] H → va_D A [(a_md, .inr (5, [.int v_md_length, .ref a_md_text, .int v_md_laws, .int v_md_sayers, .long v_md_there, .long v_md_question, .ref a_md_weight, .ref a_md_says, .ref a_md_cost, .int v_md_measure, .long v_md_trace, .int v_md_readLaws, .int v_md_readSayers, .long v_md_readThere, .ref a_md_readWeight, .ref a_md_readSays, .int v_md_begin, .int v_md_end, .int v_md_sort, .int v_md_open, .ref a_md_opened, .int v_md_level, .ref a_md_any, .ref a_md_all, .long v_md_said, .ref a_md_burdens, .ref a_md_best, .ref a_md_own, .ref a_md_truth])), (a_md_weight, .inl (cI, 7, .inl f_md_weight)), (a_md_says, .inl (cJ, 7, .inr (.inl f_md_says))), (a_md_cost, .inl (cI, 6, .inl f_md_cost)), (a_md_burdens, .inl (cI, 448, .inl w2))] → va_S A s.heap H locs → lv_has ls 2 [(0, .ref a_md), (1, .int w1)] → (∀ (H : Heap) (locs : List Loc) (ls : Array Slot), va_P D vwCl [(a_md, .inr (5, [.int v_md_length, .ref a_md_text, .int v_md_laws, .int v_md_sayers, .long v_md_there, .long v_md_question, .ref a_md_weight, .ref a_md_says, .ref a_md_cost, .int v_md_measure, .long v_md_trace, .int v_md_readLaws, .int v_md_readSayers, .long v_md_readThere, .ref a_md_readWeight, .ref a_md_readSays, .int v_md_begin, .int v_md_end, .int v_md_sort, .int v_md_open, .ref a_md_opened, .int v_md_level, .ref a_md_any, .ref a_md_all, .long v_md_said, .ref a_md_burdens, .ref a_md_best, .ref a_md_own, .ref a_md_truth])), (a_md_weight, .inl (cI, 7, .inl f_md_weight)), (a_md_says, .inl (cJ, 7, .inr (.inl f_md_says))), (a_md_cost, .inl (cI, 6, .inl f_md_cost)), (a_md_burdens, .inl (cI, 448, .inl z2.2))] H → va_D A [(a_md, .inr (5, [.int v_md_length, .ref a_md_text, .int v_md_laws, .int v_md_sayers, .long v_md_there, .long v_md_question, .ref a_md_weight, .ref a_md_says, .ref a_md_cost, .int v_md_measure, .long v_md_trace, .int v_md_readLaws, .int v_md_readSayers, .long v_md_readThere, .ref a_md_readWeight, .ref a_md_readSays, .int v_md_begin, .int v_md_end, .int v_md_sort, .int v_md_open, .ref a_md_opened, .int v_md_level, .ref a_md_any, .ref a_md_all, .long v_md_said, .ref a_md_burdens, .ref a_md_best, .ref a_md_own, .ref a_md_truth])), (a_md_weight, .inl (cI, 7, .inl f_md_weight)), (a_md_says, .inl (cJ, 7, .inr (.inl f_md_says))), (a_md_cost, .inl (cI, 6, .inl f_md_cost)), (a_md_burdens, .inl (cI, 448, .inl z2.2))] → va_S A s.heap H locs → lv_has ls 2 [(0, .ref a_md), (1, .int z2.1)] → W p l e R s m args below meth c H locs 0 0 Q (F0 m 27 ls [])) → W p l e R s m args below meth c H locs 0 0 Q (F0 m 2 ls []) := by
    intro n
    induction n with
    | zero => intro w1 w2 z2 H locs ls hf; exact absurd (show none = some z2 from hf) (by simp)
    | succ n ih =>
      intro w1 w2 z2 H locs ls hf hP hD hS hl hk
      rw [zl_X5_laysAll_2] at hf
      refine lv_iload_n hx hb dX5_laysAll_2 rfl (lv_at hl 1 rfl) ?_
      refine lv_aload_n hx hb dX5_laysAll_3 rfl (lv_at hl 0 rfl) ?_
      refine va_get (ci := 5) (v := .int v_md_sayers) (C := RX5) (T := TX5) (N := 29) hx hb hts inX5 hown hK hP 0 rfl rfl 3 (by decide) lk0 (fun _ h9 => h9) rfl dX5_laysAll_4 ?_
      refine lv_icmp_ge (tgt := 27) hx hb dX5_laysAll_7 (by decide) (fun c6 => ?_) (fun c6 => ?_)
      · have hf := zk_t c6 hf
        obtain rfl := Option.some.inj hf
        exact hk _ _ _ hP hD hS (lv_sub hl [0, 1] rfl)
      · have hf := zk_f c6 hf
        refine lv_aload_n hx hb dX5_laysAll_10 rfl (lv_at hl 0 rfl) ?_
        refine lv_iload_n hx hb dX5_laysAll_11 rfl (lv_at hl 1 rfl) ?_
        refine lv_aload_n hx hb dX5_laysAll_12 rfl (lv_at hl 0 rfl) ?_
        refine va_get (ci := 5) (v := .ref a_md_says) (C := RX5) (T := TX5) (N := 29) hx hb hts inX5 hown hK hP 0 rfl rfl 7 (by decide) lk2 (fun _ h9 => h9) rfl dX5_laysAll_13 ?_
        refine lv_iload_n hx hb dX5_laysAll_16 rfl (lv_at hl 1 rfl) ?_
        obtain ⟨g3, hf⟩ := zk_gd_s hf
        refine va_lald hx hb hK hP 2 1 rfl rfl (zk_in_s g3) dX5_laysAll_17 ?_
        obtain ⟨v4, hv4, hf⟩ := zk_ob hf
        refine zk_go (wr := [(a_md_says, .inl (cJ, 7, .inr (.inl f_md_says)))]) (w2 := [(a_md, .inr (5, [.int v_md_length, .ref a_md_text, .int v_md_laws, .int v_md_sayers, .long v_md_there, .long v_md_question, .ref a_md_weight, .ref a_md_says, .ref a_md_cost, .int v_md_measure, .long v_md_trace, .int v_md_readLaws, .int v_md_readSayers, .long v_md_readThere, .ref a_md_readWeight, .ref a_md_readSays, .int v_md_begin, .int v_md_end, .int v_md_sort, .int v_md_open, .ref a_md_opened, .int v_md_level, .ref a_md_any, .ref a_md_all, .long v_md_said, .ref a_md_burdens, .ref a_md_best, .ref a_md_own, .ref a_md_truth])), (a_md_weight, .inl (cI, 7, .inl f_md_weight)), (a_md_says, .inl (cJ, 7, .inr (.inl f_md_says))), (a_md_cost, .inl (cI, 6, .inl f_md_cost)), (a_md_burdens, .inl (cI, 448, .inl v4))]) (zk_V (As := [.int w1, .long (f_md_says w1.toNatClampNeg)]) (rest := []) hx hb hml hown hts hK hG hP hD hS hA gX5_laysAll_X5_lays rfl hd_X5_lays (Nat.le_trans (Nat.le_of_ble_eq_true rfl) hRf) (Nat.le_trans (Nat.le_of_ble_eq_true rfl) hRl) hcs (zc_X5_lays l D tL tO cI cJ cB cQ a_md a_md_text a_md_weight a_md_says a_md_cost a_md_readWeight a_md_readSays a_md_opened a_md_any a_md_all a_md_burdens a_md_best a_md_own a_md_truth w1 (f_md_says w1.toNatClampNeg) v_md_length v_md_laws v_md_sayers v_md_there v_md_question v_md_measure v_md_trace v_md_readLaws v_md_readSayers v_md_readThere v_md_begin v_md_end v_md_sort v_md_open v_md_level v_md_said f_md_weight f_md_cost w2 v4 hv4) rfl rfl 0 rfl hl.1 rfl rfl (Nat.le_of_ble_eq_true rfl) dX5_laysAll_18 [0, 1, 3, 4] rfl rfl) hP hD hS hA [0, 1, 3, 4] [2] [1, 2, 0, 3, 4] rfl rfl rfl (by decide) rfl rfl (fun H locs hP hD hS => ?_)
        obtain ⟨y5, ey5, hf⟩ := zk_lt_s hf
        refine lv_iinc (v := y5) (lv' := [(1, .int y5), (0, .ref a_md)]) hx hb dX5_laysAll_21 hl (k := 1) rfl (by rw [ey5]; rfl) (by decide) rfl (fun ls hl => ?_)
        refine lv_goto (tgt := 2) hx hb dX5_laysAll_24 (by decide) ?_
        exact ih y5 v4 _ _ _ _ hf hP hD hS (lv_sub hl [1, 0] rfl) hk
  obtain ⟨v7, hv7, hf⟩ := zk_ob hf
  refine lp2 zk_F (0 : Int32) f_md_burdens v7 _ _ _ hv7 hP hD hS (lv_sub hl [1, 0] rfl) ?_
  intro H locs ls hP hD hS hl
  obtain rfl := Option.some.inj hf
  exact hret trivial _ _ _ _ hP hD hS dX5_laysAll_27
