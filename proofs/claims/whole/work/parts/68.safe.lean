/-! cells from which no snow falls -/
def sfF (V : VL) (i : Nat) (a : Int) : Int := if fallV V (pkA V ((i % (V 0 0).toNat : Nat) : Int) ((i / (V 0 0).toNat : Nat) : Int) (V 0 2) 8) = 0 then a + 1 else a
def sfV (V : VL) (n : Nat) : Int := it (sfF V) 0 n
section SF
variable {N : Nat} {V : VL} {M0 : am_M}
theorem c_safe_x (hN : 102 ≤ N) (hV : VX V) (hR : RC V M0) (h6 : M0 51 6 = 0) {y : Nat} (hy : (y : Int) < V 0 1) {k4 : Int32 → Int32 → am_M → am_O} {Q : Except Nat (Option Value) → am_M → Prop}
    (hk : ∀ M, sC M0 M → wp (k4 (i32 (sfV V ((V 0 0).toNat * (y + 1)))) (i32 ((y + 1 : Nat) : Int)) M) Q) :
    ∀ (d j n : Nat) (M : am_M), j + d = (V 0 0).toNat → d < n → sC M0 M → wp (f_X9_safe_17 N (i32 (y : Int)) k4 n (i32 (sfV V ((V 0 0).toNat * y + j))) (i32 (j : Int)) M) Q := by
  have hw := hV.1.1
  have hh := hV.1.2.1
  intro d
  induction d with
  | zero =>
    intro j n M hj hn hs
    obtain ⟨n, rfl⟩ : ∃ k, n = k + 1 := ⟨n - 1, by omega⟩
    show wp (f_X9_safe_17B N _ _ _ _ _ M) _
    unfold f_X9_safe_17B
    rw [(hR.sC hs).1.1]
    refine wp_gd ((i32_le (by omega) (by omega) (by omega) (by omega)).mpr (by omega)) ?_
    rw [i32_s, show (V 0 0).toNat * y + j = (V 0 0).toNat * (y + 1) from by rw [Nat.mul_add]; omega]
    exact hk M hs
  | succ d ih =>
    intro j n M hj hn hs
    obtain ⟨n, rfl⟩ : ∃ k, n = k + 1 := ⟨n - 1, by omega⟩
    show wp (f_X9_safe_17B N _ _ _ _ _ M) _
    unfold f_X9_safe_17B
    rw [(hR.sC hs).1.1]
    refine wp_ng (fun q => absurd ((i32_le (by omega) (by omega) (by omega) (by omega)).mp q) (by omega)) ?_
    refine wp_ci (c_snows hN hV (hR.sC hs) (by rw [hs 51 6 (by omega)]; exact h6) (x := (j : Int)) (y := (y : Int)) (by omega) (by omega)) (fun v M1 h1 => ?_)
    have q := ih (j + 1) n M1 (by omega) (by omega) (hs.trans h1.2)
    have k1 : sfV V ((V 0 0).toNat * y + (j + 1)) = sfF V ((V 0 0).toNat * y + j) (sfV V ((V 0 0).toNat * y + j)) := rfl
    rw [k1] at q
    unfold sfF at q
    rw [Nat.mul_add_mod, Nat.mod_eq_of_lt (by omega : j < (V 0 0).toNat), Nat.mul_add_div (by omega : 0 < (V 0 0).toNat), Nat.div_eq_of_lt (by omega : j < (V 0 0).toNat), Nat.add_zero] at q
    rw [h1.1, i32_s, i32_1, i32_add]
    by_cases h : fallV V (pkA V (j : Int) (y : Int) (V 0 2) 8) = 0
    · rw [if_pos h] at q
      exact wp_gd h q
    · rw [if_neg h] at q
      exact wp_ng h q
theorem c_safe (hN : 102 ≤ N) (hV : VX V) (hR : RC V M0) (h6 : M0 51 6 = 0) : wp (f_X9_safe N M0) (rI fun v M' => v = i32 (sfV V ((V 0 0).toNat * (V 0 1).toNat)) ∧ sC M0 M') := by
  have hw := hV.1.1
  have hh := hV.1.2.1
  have lp : ∀ (d j n : Nat) (M : am_M), j + d = (V 0 1).toNat → d < n → sC M0 M → wp (f_X9_safe_4 N n (i32 (sfV V ((V 0 0).toNat * j))) (i32 (j : Int)) M) (rI fun v M' => v = i32 (sfV V ((V 0 0).toNat * (V 0 1).toNat)) ∧ sC M0 M') := by
    intro d
    induction d with
    | zero =>
      intro j n M hj hn hs
      obtain ⟨n, rfl⟩ : ∃ k, n = k + 1 := ⟨n - 1, by omega⟩
      show wp (f_X9_safe_4B N _ _ _ M) _
      unfold f_X9_safe_4B
      rw [(hR.sC hs).1.2.1]
      refine wp_gd ((i32_le (by omega) (by omega) (by omega) (by omega)).mpr (by omega)) (wp_i ⟨?_, hs⟩)
      rw [show (V 0 1).toNat = j from by omega]
    | succ d ih =>
      intro j n M hj hn hs
      obtain ⟨n, rfl⟩ : ∃ k, n = k + 1 := ⟨n - 1, by omega⟩
      show wp (f_X9_safe_4B N _ _ _ M) _
      unfold f_X9_safe_4B
      rw [(hR.sC hs).1.2.1]
      refine wp_ng (fun q => absurd ((i32_le (by omega) (by omega) (by omega) (by omega)).mp q) (by omega)) ?_
      exact c_safe_x hN hV hR h6 (y := j) (by omega) (fun M1 k1 => ih (j + 1) n M1 (by omega) (by omega) k1) (V 0 0).toNat 0 N M (by omega) (by omega) hs
  exact lp (V 0 1).toNat 0 N M0 (by omega) (by omega) sC.rfl
theorem m_safe_lp (hN : 102 ≤ N) (hV : VX V) (hR : RT V M0) (hE : EM V M0) : ∀ (d j n : Nat) (M : am_M), j + d = (V 0 0).toNat * (V 0 1).toNat → d < n → sM M0 M → wp (f_X10_safe_9 N n (i32 (sfV V j)) (i32 (j : Int)) M) (rI fun v M' => v = i32 (sfV V ((V 0 0).toNat * (V 0 1).toNat)) ∧ sM M0 M') := by
  have hw := hV.1.1
  have hh := hV.1.2.1
  have hwh : (V 0 0).toNat * (V 0 1).toNat ≤ 100 := Nat.mul_le_mul (by omega : (V 0 0).toNat ≤ 10) (by omega : (V 0 1).toNat ≤ 10)
  have ewh : i32 (V 0 0) * i32 (V 0 1) = i32 (((V 0 0).toNat * (V 0 1).toNat : Nat) : Int) := by
    rw [i32_mul, Int.natCast_mul]; congr 2 <;> omega
  intro d
  induction d with
  | zero =>
    intro j n M hj hn hs
    obtain ⟨n, rfl⟩ : ∃ k, n = k + 1 := ⟨n - 1, by omega⟩
    show wp (f_X10_safe_9B N _ _ _ M) _
    unfold f_X10_safe_9B
    rw [(hR.sM hs).1.1, (hR.sM hs).1.2.1, ewh]
    refine wp_gd ((i32_le (by omega) (by omega) (by omega) (by omega)).mpr (by omega)) (wp_i ⟨?_, hs⟩)
    rw [show (V 0 0).toNat * (V 0 1).toNat = j from by omega]
  | succ d ih =>
    intro j n M hj hn hs
    obtain ⟨n, rfl⟩ : ∃ k, n = k + 1 := ⟨n - 1, by omega⟩
    show wp (f_X10_safe_9B N _ _ _ M) _
    unfold f_X10_safe_9B
    have hpos : 0 < (V 0 0).toNat := by
      rcases Nat.eq_zero_or_pos (V 0 0).toNat with q | q
      · rw [q, Nat.zero_mul] at hj; omega
      · exact q
    have hlt : j < (V 0 0).toNat * (V 0 1).toNat := by omega
    have hdiv : j / (V 0 0).toNat < (V 0 1).toNat := Nat.div_lt_of_lt_mul hlt
    have hmod : j % (V 0 0).toNat < (V 0 0).toNat := Nat.mod_lt _ hpos
    have tn1 : ∀ a : Nat, a < (V 0 0).toNat → 0 ≤ (a : Int) ∧ (a : Int) < V 0 0 := fun a h => by omega
    have tn2 : ∀ a : Nat, a < (V 0 1).toNat → 0 ≤ (a : Int) ∧ (a : Int) < V 0 1 := fun a h => by omega
    have hRs := hR.sM hs
    rw [hRs.1.1, hRs.1.2.1, ewh]
    refine wp_ng (fun q => absurd ((i32_le (by omega) (by omega) (by omega) (by omega)).mp q) (by omega)) (wp_gd (fun q => absurd ((i32_eq0 (by omega) (by omega)).mp q) (by omega)) ?_)
    rw [show V 0 0 = (((V 0 0).toNat : Nat) : Int) from by omega, i32_rm (by omega) (by omega) hpos, i32_div (by omega) (by omega) (by omega) (by omega), show ((j : Int) / (((V 0 0).toNat : Nat) : Int)) = ((j / (V 0 0).toNat : Nat) : Int) from rfl, i32_10, i32_mul, i32_add, hRs.1.2.2.1]
    refine wp_cv (m_shoutF hN hV hRs (hE.sM hs) (x := ((j % (V 0 0).toNat : Nat) : Int)) (y := ((j / (V 0 0).toNat : Nat) : Int)) (tn1 _ hmod) (tn2 _ hdiv) hV.2.1.1) (fun M1 h1 => ?_)
    have q := ih (j + 1) n M1 (by omega) (by omega) (hs.trans h1.1.s)
    have k1 : sfV V (j + 1) = sfF V j (sfV V j) := rfl
    rw [k1] at q
    unfold sfF at q
    rw [h1.2, i32_s, i32_1, i32_0, i32_add, i32_add, Int.add_zero]
    by_cases h : fallV V (pkA V ((j % (V 0 0).toNat : Nat) : Int) ((j / (V 0 0).toNat : Nat) : Int) (V 0 2) 8) = 0
    · rw [if_pos h] at q
      exact wp_gd h q
    · rw [if_neg h] at q
      exact wp_ng h q
end SF
