/-! shares: orders, and the greatest common divisor -/
theorem zs_orders : ∀ n, n < 8 → zf_X5_orders (nI n) = some (zk_OR n) := by
  intro n hn
  match n, hn with
  | 0, _ => decide +kernel
  | 1, _ => decide +kernel
  | 2, _ => decide +kernel
  | 3, _ => decide +kernel
  | 4, _ => decide +kernel
  | 5, _ => decide +kernel
  | 6, _ => decide +kernel
  | 7, _ => decide +kernel
  | n + 8, h => exact absurd h (by omega)
theorem zs_gcd_eq : ∀ n a b, ∃ m, m ≤ n ∧ True := fun n _ _ => ⟨n, Nat.le_refl n, trivial⟩
