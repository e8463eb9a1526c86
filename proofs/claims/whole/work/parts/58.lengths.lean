/-! the class's table of lengths -/
def zs_tz (x : Nat) : Nat := if x.testBit 0 then 0 else if x.testBit 1 then 1 else if x.testBit 2 then 2 else if x.testBit 3 then 3 else if x.testBit 4 then 4 else if x.testBit 5 then 5 else 6
theorem zs_ntz : ∀ x, x < 128 → ¬ x = 0 → zf_J6_numberOfTrailingZeros_0f7a4 (nI x) = some (nI (zs_tz x)) := by decide +kernel
theorem zs_tz7 : ∀ x, x < 128 → ¬ x = 0 → zs_tz x < 7 ∧ x.testBit (zs_tz x) = true ∧ x ^^^ 2 ^ zs_tz x < x := by decide +kernel
theorem zs_tzk : ∀ k, k < 8 → ∀ x, x < 2 ^ k → ¬ x = 0 → zs_tz x < k := by decide +kernel
theorem zs_sum_tz {c : Nat → Nat} {x l : Nat} (hl : l < 6) (h : x.testBit l = true) : zs_sum c x = zs_sum c (x ^^^ 2 ^ l) + c l := by
  have hp : ∀ v, zs_pk true v = v := fun _ => rfl
  have hq : ∀ v, zs_pk false v = 0 := fun _ => rfl
  have e : ∀ j, (x ^^^ 2 ^ l).testBit j = (x.testBit j ^^ decide (l = j)) := fun j => by rw [Nat.testBit_xor, Nat.testBit_two_pow]
  unfold zs_sum
  simp only [e]
  match l, hl, h with
  | 0, _, h => (try simp [h, hp, hq]); (try omega)
  | 1, _, h => (try simp [h, hp, hq]); (try omega)
  | 2, _, h => (try simp [h, hp, hq]); (try omega)
  | 3, _, h => (try simp [h, hp, hq]); (try omega)
  | 4, _, h => (try simp [h, hp, hq]); (try omega)
  | 5, _, h => (try simp [h, hp, hq]); (try omega)
  | l + 6, hl, _ => exact absurd hl (by omega)
theorem zs_len0 (al : Bool) (c : Nat → Nat) : zs_len al c 0 = 0 := by
  cases al with
  | true => rfl
  | false => show zs_sum c 0 = 0; unfold zs_sum; simp [zs_pk]
theorem zs_lengths {al : Bool} {me : Int32} (hme : me = zs_o al) {c : Nat → Nat} {costs f : Nat → Int32} (hc : ∀ l, l < 6 → c l ≤ 9 ∧ costs l = nI (c l)) : ∃ g, zf_X0_findLengths me costs f = some g ∧ ∀ x, x < 64 → g x = nI (zs_len al c x) := by
  have h := zs_for (fun n (a : Nat → Int32) i => zl_X0_findLengths_9 me costs n (nI i) a) 64 (fun i a => i ≤ 64 ∧ 1 ≤ i ∧ ∀ x, x < i → a x = nI (zs_len al c x)) (fun r => ∀ x, x < 64 → r.2 x = nI (zs_len al c x)) (by
    intro n a ha
    refine ⟨(nI 64, a), ?_, ha.2.2⟩
    show zl_X0_findLengths_9 me costs (n + 1) (nI 64) a = _
    rw [zl_X0_findLengths_9, if_pos (show (64 : Int32) ≤ nI 64 by decide)]) (by
    intro n i a hi ha
    right
    obtain ⟨t1, t2, t3⟩ := zs_tz7 i (by omega) (by omega)
    have t4 := zs_tzk 6 (by omega) i (by omega) (by omega)
    show ∃ a', zl_X0_findLengths_9 me costs (n + 1) (nI i) a = zl_X0_findLengths_9 me costs n (nI (i + 1)) a' ∧ i + 1 ≤ 64 ∧ 1 ≤ i + 1 ∧ ∀ x, x < i + 1 → a' x = nI (zs_len al c x)
    have put : ∀ v : Nat, nI v = nI (zs_len al c i) → ∀ x, x < i + 1 → upd a (nI i).toNatClampNeg (nI v) x = nI (zs_len al c x) := by
      intro v hv x hx
      rw [nI_clamp (by omega)]
      by_cases e : x = i
      · subst e; rw [pk_us, hv]
      · rw [pk_un e]; exact ha.2.2 x (by omega)
    rw [zl_X0_findLengths_9, if_neg (show ¬ (64 : Int32) ≤ nI i from nI_ge hi (by decide)), zs_ntz i (by omega) (by omega), Option.bind_some, hme]
    cases al with
    | false =>
      rw [if_pos (show zs_o false = 0 from rfl), zs_bclr i (by omega) _ (by omega) t2, zs_zin (n := i ^^^ 2 ^ zs_tz i) (by omega) (by omega), zs_zin (n := zs_tz i) (by omega) (by omega), zs_zin (n := i) (by omega) (by omega)]
      refine ⟨_, ?_, by omega, by omega, put (zs_len false c (i ^^^ 2 ^ zs_tz i) + c (zs_tz i)) ?_⟩
      · show zl_X0_findLengths_9 _ _ n (nI i + 1) (upd a (nI i).toNatClampNeg (a (nI (i ^^^ 2 ^ zs_tz i)).toNatClampNeg + costs (nI (zs_tz i)).toNatClampNeg)) = _
        rw [nI_1, nI_clamp (n := i ^^^ 2 ^ zs_tz i) (by omega), nI_clamp (n := zs_tz i) (by omega), ha.2.2 _ t3, (hc _ t4).2, nI_add]
      · show nI (zs_sum c (i ^^^ 2 ^ zs_tz i) + c (zs_tz i)) = nI (zs_sum c i)
        rw [zs_sum_tz t4 t2]
    | true =>
      rw [if_neg (show ¬ zs_o true = 0 by decide), zs_zin (n := i) (by omega) (by omega)]
      refine ⟨_, ?_, by omega, by omega, put 1 ?_⟩
      · show zl_X0_findLengths_9 _ _ n (nI i + 1) (upd a (nI i).toNatClampNeg 1) = _
        rw [nI_1]; rfl
      · show nI 1 = nI (if i = 0 then 0 else 1)
        rw [if_neg (by omega)])
  obtain ⟨r, h1, h2⟩ := h 63 1 (upd f (0 : Int32).toNatClampNeg (0 : Int32)) zk_F (by omega) (by rw [zs_F]; omega) ⟨by omega, by omega, fun x hx => by
    have e : x = 0 := by omega
    subst e
    show upd f 0 0 0 = _
    rw [pk_us, zs_len0]; rfl⟩
  refine ⟨r.2, ?_, h2⟩
  unfold zf_X0_findLengths
  have h1' : zl_X0_findLengths_9 me costs zk_F (1 : Int32) (upd f (0 : Int32).toNatClampNeg (0 : Int32)) = some r := h1
  rw [h1', show zk_in (0 : Int32) 64 = true by decide]
  rfl
