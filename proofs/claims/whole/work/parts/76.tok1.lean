/-! TOKENS of a text, in words of its bytes -/
def zt_low (b : Nat → Nat) (n j : Nat) : Bool := decide (j < n) && (decide (97 ≤ b j) && decide (b j ≤ 122))
def zt_nx (b : Nat → Nat) (n e : Nat) : Nat := e + fa_first (fun j => !decide (b (e + j) = 32)) (n - e)
def zt_we (b : Nat → Nat) (n p : Nat) : Nat := p + fa_first (fun j => !zt_low b n (p + j)) (n - p)
def zt_en (b : Nat → Nat) (n p : Nat) : Nat := if n ≤ p then n else if zt_low b n p then zt_we b n p else p + 1
def zt_sg (c : Nat) : Bool := (decide (48 ≤ c) && decide (c ≤ 57)) || (decide (c = 59) || (decide (c = 124) || (decide (c = 38) || (decide (c = 33) || (decide (c = 40) || decide (c = 41))))))
def zt_wd (b : Nat → Nat) (p s : Nat) : Nat := if s = 1 then (if b p ≤ 102 then b p else 259) else if s = 3 ∧ b (p + 1) = 97 ∧ b p = 108 ∧ b (p + 2) = 119 then 256 else if s = 3 ∧ b (p + 1) = 97 ∧ b p = 115 ∧ b (p + 2) = 121 then 257 else 259
def zt_tc (b : Nat → Nat) (n p : Nat) : Nat := if n ≤ p then 258 else if zt_low b n p then zt_wd b p (zt_we b n p - p) else if zt_sg (b p) then b p else 259
def zt_P (b : Nat → Nat) (n : Nat) : Nat → Nat
  | 0 => zt_nx b n 0
  | k + 1 => zt_nx b n (zt_en b n (zt_P b n k))
def zt_beg (b : Nat → Nat) (n j : Nat) : Bool := if zt_low b n j then (decide (j = 0) || !zt_low b n (j - 1)) else !decide (b j = 32)
/-- the reference's word for a TOKEN -/
def zt_r (c : Nat) : Int32 := if c = 256 then 76 else if c = 257 then 83 else if c = 258 then 0 else if c = 259 then 1 else nI c
def zt_v (c : Nat) : Bool := zt_sg c || (decide (97 ≤ c) && decide (c ≤ 102)) || (decide (256 ≤ c) && decide (c ≤ 259))
theorem zt_firstU (p : Nat → Bool) {n s : Nat} (hs : s ≤ n) (h1 : ∀ i, i < s → p i = false) (h2 : s < n → p s = true) : fa_first p n = s := by
  rcases Nat.lt_trichotomy (fa_first p n) s with q | q | q
  · have := fa_first_yes p n (by omega)
    rw [h1 _ q] at this
    cases this
  · exact q
  · have q2 := fa_first_le p n
    have := fa_first_no p n s q
    rw [h2 (by omega)] at this
    cases this
theorem zt_nx_1 {b : Nat → Nat} {n e : Nat} (he : e ≤ n) : e ≤ zt_nx b n e ∧ zt_nx b n e ≤ n := by
  have := fa_first_le (fun j => !decide (b (e + j) = 32)) (n - e)
  unfold zt_nx
  omega
theorem zt_nx_2 {b : Nat → Nat} {n e j : Nat} (h1 : e ≤ j) (h2 : j < zt_nx b n e) : b j = 32 := by
  have := fa_first_no (fun j => !decide (b (e + j) = 32)) (n - e) (j - e) (by unfold zt_nx at h2; omega)
  rw [show e + (j - e) = j by omega] at this
  simpa using this
theorem zt_nx_3 {b : Nat → Nat} {n e : Nat} (he : e ≤ n) (h : zt_nx b n e < n) : ¬ b (zt_nx b n e) = 32 := by
  have := fa_first_yes (fun j => !decide (b (e + j) = 32)) (n - e) (by unfold zt_nx at h; omega)
  have t2 : ¬ b (e + fa_first (fun j => !decide (b (e + j) = 32)) (n - e)) = 32 := by simpa using this
  exact t2
theorem zt_nxU {b : Nat → Nat} {n e p : Nat} (h1 : e ≤ p) (h2 : p ≤ n) (h3 : ∀ j, e ≤ j → j < p → b j = 32) (h4 : p < n → ¬ b p = 32) : zt_nx b n e = p := by
  have := zt_firstU (fun j => !decide (b (e + j) = 32)) (n := n - e) (s := p - e) (by omega) (fun i hi => by
    have := h3 (e + i) (by omega) (by omega)
    simp [this]) (fun q => by
    have := h4 (by omega)
    rw [show e + (p - e) = p by omega]
    simp [this])
  unfold zt_nx
  omega
theorem zt_low_lt {b : Nat → Nat} {n j : Nat} (h : zt_low b n j = true) : j < n := by
  unfold zt_low at h
  simp at h
  exact h.1
theorem zt_we_1 {b : Nat → Nat} {n p : Nat} (hp : p ≤ n) : p ≤ zt_we b n p ∧ zt_we b n p ≤ n := by
  have := fa_first_le (fun j => !zt_low b n (p + j)) (n - p)
  unfold zt_we
  omega
theorem zt_we_2 {b : Nat → Nat} {n p j : Nat} (h1 : p ≤ j) (h2 : j < zt_we b n p) : zt_low b n j = true := by
  have := fa_first_no (fun j => !zt_low b n (p + j)) (n - p) (j - p) (by unfold zt_we at h2; omega)
  rw [show p + (j - p) = j by omega] at this
  simpa using this
theorem zt_we_3 {b : Nat → Nat} {n p : Nat} (hp : p ≤ n) : zt_low b n (zt_we b n p) = false := by
  by_cases h : zt_we b n p < n
  · have := fa_first_yes (fun j => !zt_low b n (p + j)) (n - p) (by unfold zt_we at h; omega)
    have t2 : zt_low b n (p + fa_first (fun j => !zt_low b n (p + j)) (n - p)) = false := by simpa using this
    exact t2
  · cases q : zt_low b n (zt_we b n p) with
    | false => rfl
    | true => exact absurd (zt_low_lt q) h
theorem zt_weU {b : Nat → Nat} {n p q : Nat} (h1 : p ≤ q) (h2 : q ≤ n) (h3 : ∀ j, p ≤ j → j < q → zt_low b n j = true) (h4 : zt_low b n q = false) : zt_we b n p = q := by
  have := zt_firstU (fun j => !zt_low b n (p + j)) (n := n - p) (s := q - p) (by omega) (fun i hi => by
    have := h3 (p + i) (by omega) (by omega)
    simp [this]) (fun _ => by
    rw [show p + (q - p) = q by omega]
    simp [h4])
  unfold zt_we
  omega
theorem zt_we_gt {b : Nat → Nat} {n p : Nat} (h : zt_low b n p = true) : p < zt_we b n p := by
  have h0 := zt_low_lt h
  have h1 := zt_we_1 (b := b) (n := n) (p := p) (by omega)
  have h3 := zt_we_3 (b := b) (n := n) (p := p) (by omega)
  rcases Nat.lt_or_ge p (zt_we b n p) with q | q
  · exact q
  · have e : zt_we b n p = p := by omega
    rw [e, h] at h3
    cases h3
theorem zt_en_1 {b : Nat → Nat} {n p : Nat} (hp : p ≤ n) : p ≤ zt_en b n p ∧ zt_en b n p ≤ n ∧ (p < n → p < zt_en b n p) := by
  unfold zt_en
  by_cases h : n ≤ p
  · rw [if_pos h]; omega
  · rw [if_neg h]
    by_cases q : zt_low b n p = true
    · rw [if_pos q]
      have := zt_we_1 (b := b) hp
      have := zt_we_gt q
      omega
    · rw [if_neg q]; omega
theorem zt_P_le {b : Nat → Nat} {n : Nat} : ∀ k, zt_P b n k ≤ n
  | 0 => (zt_nx_1 (Nat.zero_le n)).2
  | k + 1 => (zt_nx_1 (zt_en_1 (zt_P_le k)).2.1).2
theorem zt_P_gt {b : Nat → Nat} {n k : Nat} (h : zt_P b n k < n) : zt_P b n k < zt_P b n (k + 1) := by
  have h1 := (zt_en_1 (b := b) (zt_P_le k)).2.2 h
  have h2 := (zt_nx_1 (b := b) (zt_en_1 (b := b) (zt_P_le (b := b) (n := n) k)).2.1).1
  show _ < zt_nx b n (zt_en b n (zt_P b n k))
  omega
theorem zt_blank {b : Nat → Nat} {n j : Nat} (h : b j = 32) : zt_low b n j = false := by
  unfold zt_low
  rw [h]
  simp
/-- no TOKEN begins between two -/
theorem zt_between {b : Nat → Nat} {n k j : Nat} (h0 : zt_P b n k < n) (h1 : zt_P b n k < j) (h2 : j < zt_P b n (k + 1)) : zt_beg b n j = false := by
  by_cases q : zt_en b n (zt_P b n k) ≤ j
  · have hb := zt_nx_2 (b := b) (n := n) q h2
    unfold zt_beg
    rw [if_neg (by rw [zt_blank hb]; decide), hb]
    decide
  · have hl : zt_low b n (zt_P b n k) = true := by
      cases hc : zt_low b n (zt_P b n k) with
      | true => rfl
      | false =>
        exfalso
        unfold zt_en at q
        rw [if_neg (by omega), if_neg (by rw [hc]; decide)] at q
        omega
    have he : zt_en b n (zt_P b n k) = zt_we b n (zt_P b n k) := by
      unfold zt_en
      rw [if_neg (by omega), if_pos hl]
    rw [he] at q
    have l1 := zt_we_2 (b := b) (n := n) (p := zt_P b n k) (j := j) (by omega) (by omega)
    have l2 := zt_we_2 (b := b) (n := n) (p := zt_P b n k) (j := j - 1) (by omega) (by omega)
    unfold zt_beg
    rw [if_pos l1, l2, decide_eq_false (by omega)]
    rfl
theorem zt_before {b : Nat → Nat} {n j : Nat} (h2 : j < zt_P b n 0) : zt_beg b n j = false := by
  have hb := zt_nx_2 (b := b) (n := n) (e := 0) (Nat.zero_le j) h2
  unfold zt_beg
  rw [if_neg (by rw [zt_blank hb]; decide), hb]
  decide
theorem zt_isBeg {b : Nat → Nat} {n k : Nat} (h : zt_P b n k < n) : zt_beg b n (zt_P b n k) = true := by
  have key : ∀ e, e ≤ n → zt_nx b n e < n → (e = 0 ∨ (0 < e ∧ (zt_low b n e = true → zt_low b n (e - 1) = false))) → zt_beg b n (zt_nx b n e) = true := by
    intro e he h1 h2
    have h3 := zt_nx_3 he h1
    have h4 := (zt_nx_1 (b := b) he).1
    unfold zt_beg
    by_cases q : zt_low b n (zt_nx b n e) = true
    · rw [if_pos q]
      by_cases e0 : zt_nx b n e = 0
      · rw [e0]; rfl
      · have : zt_low b n (zt_nx b n e - 1) = false := by
          by_cases e1 : zt_nx b n e = e
          · rcases h2 with z | ⟨z1, z2⟩
            · omega
            · rw [e1] at q ⊢
              exact z2 q
          · exact zt_blank (zt_nx_2 (b := b) (n := n) (e := e) (by omega) (by omega))
        rw [this, Bool.not_false, Bool.or_true]
    · rw [if_neg q, decide_eq_false h3]
      rfl
  cases k with
  | zero => exact key 0 (Nat.zero_le n) h (Or.inl rfl)
  | succ k =>
    have hl := zt_en_1 (b := b) (zt_P_le (b := b) (n := n) k)
    have hk : zt_P b n k < n := by
      have : zt_en b n (zt_P b n k) ≤ zt_P b n (k + 1) := (zt_nx_1 hl.2.1).1
      omega
    refine key _ hl.2.1 h (Or.inr ⟨by omega, fun q => ?_⟩)
    cases hc : zt_low b n (zt_P b n k) with
    | true =>
      exfalso
      have he : zt_en b n (zt_P b n k) = zt_we b n (zt_P b n k) := by
        unfold zt_en
        rw [if_neg (by omega), if_pos hc]
      rw [he, zt_we_3 (by omega)] at q
      cases q
    | false =>
      have he : zt_en b n (zt_P b n k) = zt_P b n k + 1 := by
        unfold zt_en
        rw [if_neg (by omega), if_neg (by rw [hc]; decide)]
      rw [he, Nat.add_sub_cancel, hc]
theorem zt_tc_v {b : Nat → Nat} {n p : Nat} : zt_tc b n p < 260 ∧ zt_v (zt_tc b n p) = true := by
  unfold zt_tc
  by_cases h : n ≤ p
  · rw [if_pos h]; exact ⟨by decide, by decide⟩
  · rw [if_neg h]
    by_cases q : zt_low b n p = true
    · rw [if_pos q]
      unfold zt_wd
      by_cases s1 : zt_we b n p - p = 1
      · rw [if_pos s1]
        by_cases s2 : b p ≤ 102
        · rw [if_pos s2]
          unfold zt_low at q
          simp at q
          refine ⟨by omega, ?_⟩
          unfold zt_v
          simp
          omega
        · rw [if_neg s2]; exact ⟨by decide, by decide⟩
      · rw [if_neg s1]
        by_cases s3 : zt_we b n p - p = 3 ∧ b (p + 1) = 97 ∧ b p = 108 ∧ b (p + 2) = 119
        · rw [if_pos s3]; exact ⟨by decide, by decide⟩
        · rw [if_neg s3]
          by_cases s4 : zt_we b n p - p = 3 ∧ b (p + 1) = 97 ∧ b p = 115 ∧ b (p + 2) = 121
          · rw [if_pos s4]; exact ⟨by decide, by decide⟩
          · rw [if_neg s4]; exact ⟨by decide, by decide⟩
    · rw [if_neg q]
      by_cases s : zt_sg (b p) = true
      · rw [if_pos s]
        refine ⟨?_, ?_⟩
        · unfold zt_sg at s
          simp at s
          omega
        · unfold zt_v
          rw [s]
          rfl
      · rw [if_neg s]; exact ⟨by decide, by decide⟩
theorem zt_tc_ne {b : Nat → Nat} {n p : Nat} (h : p < n) (hb : b p < 256) : ¬ zt_tc b n p = 258 := by
  unfold zt_tc zt_wd
  rw [if_neg (by omega)]
  intro q
  split at q
  · split at q
    · split at q <;> omega
    · split at q
      · omega
      · split at q <;> omega
  · split at q <;> omega
