/-! a fraction in least terms -/
def fr (a b : Nat) (what : Int) : Nat := (if what = 0 then a else b) / Nat.gcd a b
theorem gcd_step (x y : Nat) : Nat.gcd x y = Nat.gcd y (x % y) := by
  rw [Nat.gcd_comm x y, Nat.gcd_rec y x, Nat.gcd_comm]
theorem mod_half {x y m : Nat} (hy : 0 < y) (h : y < 2 ^ (m + 1)) (hr : 0 < x % y) : y % (x % y) < 2 ^ m := by
  have h1 : x % y < y := Nat.mod_lt _ hy
  have h2 : y % (x % y) < x % y := Nat.mod_lt _ hr
  have h3 : y % (x % y) ≤ y - (x % y) := by
    rw [Nat.mod_eq_sub_mod (by omega : y ≥ x % y)]
    exact Nat.mod_le _ _
  rw [Nat.pow_succ] at h
  omega
theorem i32_rm {x y : Nat} (hx : x < 2147483648) (hy : y < 2147483648) (h0 : 0 < y) : i32 (x : Int) - i32 (x : Int) / i32 (y : Int) * i32 (y : Int) = i32 ((x % y : Nat) : Int) := by
  rw [i32_rem (by omega) (by omega) (by omega) (by omega)]
  rfl
theorem c_gcd_lp {N : Nat} {M : am_M} : ∀ (m x y i n : Nat), x < 2147483648 → y < 2 ^ m → m ≤ 20 → i + 2 * m < 64 → 2 * m < n → f_X9_commonDivisor_7 N n (i32 (x : Int)) (i32 (y : Int)) (i32 (i : Int)) M = some (.ok (some (.int (i32 (Nat.gcd x y : Nat)))), M) := by
  have z : ∀ (x i n : Nat), x < 2147483648 → i < 64 → 0 < n → f_X9_commonDivisor_7 N n (i32 (x : Int)) (i32 ((0 : Nat) : Int)) (i32 (i : Int)) M = some (.ok (some (.int (i32 (Nat.gcd x 0 : Nat)))), M) := by
    intro x i n hx hi hn
    obtain ⟨n, rfl⟩ : ∃ k, n = k + 1 := ⟨n - 1, by omega⟩
    show f_X9_commonDivisor_7B N _ _ _ _ M = _
    unfold f_X9_commonDivisor_7B
    rw [show (64 : Int32) = i32 64 from rfl, if_neg (fun q => absurd ((i32_le (by omega) (by omega) (by omega) (by omega)).mp q) (by omega)), if_pos ((i32_le0 (by omega) (by omega)).mpr (by omega)), Nat.gcd_zero_right]
  have s : ∀ (x y i n : Nat), x < 2147483648 → y < 2147483648 → 0 < y → i < 64 → f_X9_commonDivisor_7 N (n + 1) (i32 (x : Int)) (i32 (y : Int)) (i32 (i : Int)) M = f_X9_commonDivisor_7 N n (i32 (y : Int)) (i32 ((x % y : Nat) : Int)) (i32 ((i + 1 : Nat) : Int)) M := by
    intro x y i n hx hy h0 hi
    show f_X9_commonDivisor_7B N _ _ _ _ M = _
    unfold f_X9_commonDivisor_7B
    rw [show (64 : Int32) = i32 64 from rfl, if_neg (fun q => absurd ((i32_le (by omega) (by omega) (by omega) (by omega)).mp q) (by omega)), if_neg (fun q => absurd ((i32_le0 (by omega) (by omega)).mp q) (by omega)), if_pos (fun q => absurd ((i32_eq0 (by omega) (by omega)).mp q) (by omega)), i32_rm hx hy h0, i32_s]
  have pw : ∀ m, m ≤ 20 → 2 ^ m ≤ 1048576 := fun m hm => Nat.pow_le_pow_right (by omega) hm
  intro m
  induction m with
  | zero =>
    intro x y i n hx hy _ hi hn
    have : y = 0 := by
      have : (2 : Nat) ^ 0 = 1 := rfl
      omega
    subst this
    exact z x i n hx (by omega) (by omega)
  | succ m ih =>
    intro x y i n hx hy hm hi hn
    have p := pw (m + 1) hm
    rcases Nat.eq_zero_or_pos y with h0 | h0
    · subst h0; exact z x i n hx (by omega) (by omega)
    · obtain ⟨n, rfl⟩ : ∃ k, n = k + 2 := ⟨n - 2, by omega⟩
      have hlt : x % y < y := Nat.mod_lt _ h0
      rw [s x y i (n + 1) hx (by omega) h0 (by omega), gcd_step x y]
      rcases Nat.eq_zero_or_pos (x % y) with h1 | h1
      · rw [h1]; exact z y (i + 1) (n + 1) (by omega) (by omega) (by omega)
      · rw [s y (x % y) (i + 1) n (by omega) (by omega) h1 (by omega), gcd_step y (x % y)]
        exact ih (x % y) (y % (x % y)) (i + 2) n (by omega) (mod_half h0 hy h1) (by omega) (by omega) (by omega)
theorem m_gcd_lp {N : Nat} {M : am_M} : ∀ (m x y n : Nat), x < 2147483648 → y < 2 ^ m → m ≤ 20 → 2 * m < n → f_X10_divisor_4 N n (i32 (x : Int)) (i32 (y : Int)) M = some (.ok (some (.int (i32 (Nat.gcd x y : Nat)))), M) := by
  have z : ∀ (x n : Nat), x < 2147483648 → 0 < n → f_X10_divisor_4 N n (i32 (x : Int)) (i32 ((0 : Nat) : Int)) M = some (.ok (some (.int (i32 (Nat.gcd x 0 : Nat)))), M) := by
    intro x n hx hn
    obtain ⟨n, rfl⟩ : ∃ k, n = k + 1 := ⟨n - 1, by omega⟩
    show f_X10_divisor_4B N _ _ _ M = _
    unfold f_X10_divisor_4B
    rw [if_pos ((i32_eq0 (by omega) (by omega)).mpr (by omega)), Nat.gcd_zero_right]
  have s : ∀ (x y n : Nat), x < 2147483648 → y < 2147483648 → 0 < y → f_X10_divisor_4 N (n + 1) (i32 (x : Int)) (i32 (y : Int)) M = f_X10_divisor_4 N n (i32 (y : Int)) (i32 ((x % y : Nat) : Int)) M := by
    intro x y n hx hy h0
    show f_X10_divisor_4B N _ _ _ M = _
    unfold f_X10_divisor_4B
    rw [if_neg (fun q => absurd ((i32_eq0 (by omega) (by omega)).mp q) (by omega)), if_pos (fun q => absurd ((i32_eq0 (by omega) (by omega)).mp q) (by omega)), i32_rm hx hy h0]
  have pw : ∀ m, m ≤ 20 → 2 ^ m ≤ 1048576 := fun m hm => Nat.pow_le_pow_right (by omega) hm
  intro m
  induction m with
  | zero =>
    intro x y n hx hy _ hn
    have : y = 0 := by
      have : (2 : Nat) ^ 0 = 1 := rfl
      omega
    subst this
    exact z x n hx (by omega)
  | succ m ih =>
    intro x y n hx hy hm hn
    have p := pw (m + 1) hm
    rcases Nat.eq_zero_or_pos y with h0 | h0
    · subst h0; exact z x n hx (by omega)
    · obtain ⟨n, rfl⟩ : ∃ k, n = k + 2 := ⟨n - 2, by omega⟩
      have hlt : x % y < y := Nat.mod_lt _ h0
      rw [s x y (n + 1) hx (by omega) h0, gcd_step x y]
      rcases Nat.eq_zero_or_pos (x % y) with h1 | h1
      · rw [h1]; exact z y (n + 1) (by omega) (by omega)
      · rw [s y (x % y) n (by omega) (by omega) h1, gcd_step y (x % y)]
        exact ih (x % y) (y % (x % y)) n (by omega) (mod_half h0 hy h1) (by omega) (by omega)
theorem c_frac {N : Nat} (hN : 102 ≤ N) {a b : Nat} {what : Int} {M : am_M} (ha : a < 2147483648) (hb : 1 ≤ b ∧ b ≤ 127) (hw : 0 ≤ what ∧ what ≤ 1) : f_X9_partOfFraction N (i32 (a : Int)) (i32 (b : Int)) (i32 what) M = some (.ok (some (.int (i32 (fr a b what : Nat)))), M) := by
  have g1 : 0 < Nat.gcd a b := Nat.gcd_pos_of_pos_right _ (by omega)
  have g2 : Nat.gcd a b ≤ b := Nat.gcd_le_right _ (by omega)
  have k : ∀ c : Nat, c < 2147483648 → f_X9_partOfFraction_9 N (i32 (a : Int)) (i32 (b : Int)) (i32 (c : Int)) M = some (.ok (some (.int (i32 (c / Nat.gcd a b : Nat)))), M) := by
    intro c hc
    unfold f_X9_partOfFraction_9 f_X9_commonDivisor
    have := c_gcd_lp (N := N) (M := M) 7 a b 0 N ha (by show b < 128; omega) (by omega) (by omega) (by omega)
    rw [show (0 : Int32) = i32 ((0 : Nat) : Int) from rfl, this]
    simp only [am_bi_i]
    rw [if_neg (fun q => absurd ((i32_le (by omega) (by omega) (by omega) (by omega)).mp q) (by omega)), if_pos (fun q => absurd ((i32_eq (by omega) (by omega) (by omega) (by omega)).mp q) (by omega)), i32_div (by omega) (by omega) (by omega) (by omega)]
    rfl
  unfold f_X9_partOfFraction fr
  by_cases h : what = 0
  · rw [if_pos ((i32_eq0 (by omega) (by omega)).mpr h), if_pos h]; exact k a ha
  · rw [if_neg (fun q => h ((i32_eq0 (by omega) (by omega)).mp q)), if_neg h]; exact k b (by omega)
theorem m_frac {N : Nat} (hN : 102 ≤ N) {a b : Nat} {what : Int} {M : am_M} (ha : a < 2147483648) (hb : 1 ≤ b ∧ b ≤ 127) (hw : 0 ≤ what ∧ what ≤ 1) : f_X10_fraction N (i32 (a : Int)) (i32 (b : Int)) (i32 what) M = some (.ok (some (.int (i32 (fr a b what : Nat)))), M) := by
  have g1 : 0 < Nat.gcd a b := Nat.gcd_pos_of_pos_right _ (by omega)
  have g2 : Nat.gcd a b ≤ b := Nat.gcd_le_right _ (by omega)
  have k : ∀ c : Nat, c < 2147483648 → f_X10_fraction_9 N (i32 (a : Int)) (i32 (b : Int)) (i32 (c : Int)) M = some (.ok (some (.int (i32 (c / Nat.gcd a b : Nat)))), M) := by
    intro c hc
    unfold f_X10_fraction_9 f_X10_divisor
    have := m_gcd_lp (N := N) (M := M) 7 a b N ha (by show b < 128; omega) (by omega) (by omega)
    rw [this]
    simp only [am_bi_i]
    rw [if_pos (fun q => absurd ((i32_eq0 (by omega) (by omega)).mp q) (by omega)), i32_div (by omega) (by omega) (by omega) (by omega)]
    rfl
  unfold f_X10_fraction fr
  by_cases h : what = 0
  · rw [if_pos ((i32_eq0 (by omega) (by omega)).mpr h), if_pos h]; exact k a ha
  · rw [if_neg (fun q => h ((i32_eq0 (by omega) (by omega)).mp q)), if_neg h]; exact k b (by omega)
