/-! how many notes a song has -/
def bcI (p0 : Int32) : Int32 := (((((((p0 - (((p0.toUInt32 >>> ((1 : Int32).toUInt32 &&& Int32.toUInt32 31)).toInt32) &&& 1431655765)) &&& 858993459) + ((((p0 - (((p0.toUInt32 >>> ((1 : Int32).toUInt32 &&& Int32.toUInt32 31)).toInt32) &&& 1431655765)).toUInt32 >>> ((2 : Int32).toUInt32 &&& Int32.toUInt32 31)).toInt32) &&& 858993459)) + (((((p0 - (((p0.toUInt32 >>> ((1 : Int32).toUInt32 &&& Int32.toUInt32 31)).toInt32) &&& 1431655765)) &&& 858993459) + ((((p0 - (((p0.toUInt32 >>> ((1 : Int32).toUInt32 &&& Int32.toUInt32 31)).toInt32) &&& 1431655765)).toUInt32 >>> ((2 : Int32).toUInt32 &&& Int32.toUInt32 31)).toInt32) &&& 858993459)).toUInt32 >>> ((4 : Int32).toUInt32 &&& Int32.toUInt32 31)).toInt32)) &&& 252645135) + (((((((p0 - (((p0.toUInt32 >>> ((1 : Int32).toUInt32 &&& Int32.toUInt32 31)).toInt32) &&& 1431655765)) &&& 858993459) + ((((p0 - (((p0.toUInt32 >>> ((1 : Int32).toUInt32 &&& Int32.toUInt32 31)).toInt32) &&& 1431655765)).toUInt32 >>> ((2 : Int32).toUInt32 &&& Int32.toUInt32 31)).toInt32) &&& 858993459)) + (((((p0 - (((p0.toUInt32 >>> ((1 : Int32).toUInt32 &&& Int32.toUInt32 31)).toInt32) &&& 1431655765)) &&& 858993459) + ((((p0 - (((p0.toUInt32 >>> ((1 : Int32).toUInt32 &&& Int32.toUInt32 31)).toInt32) &&& 1431655765)).toUInt32 >>> ((2 : Int32).toUInt32 &&& Int32.toUInt32 31)).toInt32) &&& 858993459)).toUInt32 >>> ((4 : Int32).toUInt32 &&& Int32.toUInt32 31)).toInt32)) &&& 252645135).toUInt32 >>> ((8 : Int32).toUInt32 &&& Int32.toUInt32 31)).toInt32)) + ((((((((p0 - (((p0.toUInt32 >>> ((1 : Int32).toUInt32 &&& Int32.toUInt32 31)).toInt32) &&& 1431655765)) &&& 858993459) + ((((p0 - (((p0.toUInt32 >>> ((1 : Int32).toUInt32 &&& Int32.toUInt32 31)).toInt32) &&& 1431655765)).toUInt32 >>> ((2 : Int32).toUInt32 &&& Int32.toUInt32 31)).toInt32) &&& 858993459)) + (((((p0 - (((p0.toUInt32 >>> ((1 : Int32).toUInt32 &&& Int32.toUInt32 31)).toInt32) &&& 1431655765)) &&& 858993459) + ((((p0 - (((p0.toUInt32 >>> ((1 : Int32).toUInt32 &&& Int32.toUInt32 31)).toInt32) &&& 1431655765)).toUInt32 >>> ((2 : Int32).toUInt32 &&& Int32.toUInt32 31)).toInt32) &&& 858993459)).toUInt32 >>> ((4 : Int32).toUInt32 &&& Int32.toUInt32 31)).toInt32)) &&& 252645135) + (((((((p0 - (((p0.toUInt32 >>> ((1 : Int32).toUInt32 &&& Int32.toUInt32 31)).toInt32) &&& 1431655765)) &&& 858993459) + ((((p0 - (((p0.toUInt32 >>> ((1 : Int32).toUInt32 &&& Int32.toUInt32 31)).toInt32) &&& 1431655765)).toUInt32 >>> ((2 : Int32).toUInt32 &&& Int32.toUInt32 31)).toInt32) &&& 858993459)) + (((((p0 - (((p0.toUInt32 >>> ((1 : Int32).toUInt32 &&& Int32.toUInt32 31)).toInt32) &&& 1431655765)) &&& 858993459) + ((((p0 - (((p0.toUInt32 >>> ((1 : Int32).toUInt32 &&& Int32.toUInt32 31)).toInt32) &&& 1431655765)).toUInt32 >>> ((2 : Int32).toUInt32 &&& Int32.toUInt32 31)).toInt32) &&& 858993459)).toUInt32 >>> ((4 : Int32).toUInt32 &&& Int32.toUInt32 31)).toInt32)) &&& 252645135).toUInt32 >>> ((8 : Int32).toUInt32 &&& Int32.toUInt32 31)).toInt32)).toUInt32 >>> ((16 : Int32).toUInt32 &&& Int32.toUInt32 31)).toInt32)) &&& 63
def onI : Nat → Int32 → Int32 → Int32
  | 0, _, _ => -1
  | n + 1, v1, v2 => if v2 = 0 then v1 else onI n (v1 + 1) (v2 &&& (v2 - 1))
set_option maxRecDepth 100000 in
theorem bc_test : (List.range 4096).all (fun n => decide (bcI (i32 (n : Int)) = onI 14 0 (i32 (n : Int)))) = true := by decide +kernel
theorem bc_on {n : Nat} (h : n < 4096) : bcI (i32 (n : Int)) = onI 14 0 (i32 (n : Int)) := by
  have := List.all_eq_true.mp bc_test n (List.mem_range.mpr h)
  exact of_decide_eq_true this
theorem c_bitCount {N : Nat} {p : Int32} {M : am_M} : f_cJ6_bitCount N p M = some (.ok (some (.int (bcI p))), M) := rfl
theorem m_ones_lp {N : Nat} {M : am_M} : ∀ (k n : Nat) (a v r : Int32), k ≤ n → onI k a v = r → r ≠ -1 → f_X10_ones_4 N n a v M = some (.ok (some (.int r)), M) := by
  intro k
  induction k with
  | zero => intro n a v r hn hr h1; exact absurd hr.symm h1
  | succ k ih =>
    intro n a v r hn hr h1
    obtain ⟨n, rfl⟩ : ∃ m, n = m + 1 := ⟨n - 1, by omega⟩
    show f_X10_ones_4B N _ _ _ M = _
    unfold f_X10_ones_4B
    unfold onI at hr
    by_cases h : v = 0
    · rw [if_pos h] at hr ⊢
      rw [hr]
    · rw [if_neg h] at hr ⊢
      exact ih n _ _ r (by omega) hr h1
set_option maxRecDepth 100000 in
theorem bc_ge : (List.range 4096).all (fun n => decide (0 ≤ bcI (i32 (n : Int)))) = true := by decide +kernel
theorem m_ones {N : Nat} (hN : 14 ≤ N) {n : Nat} (h : n < 4096) {M : am_M} : f_X10_ones N (i32 (n : Int)) M = some (.ok (some (.int (bcI (i32 (n : Int))))), M) := by
  unfold f_X10_ones
  refine m_ones_lp 14 N 0 _ _ hN (bc_on h).symm ?_
  have := of_decide_eq_true (List.all_eq_true.mp bc_ge n (List.mem_range.mpr h))
  intro q
  rw [q] at this
  exact absurd this (by decide)
