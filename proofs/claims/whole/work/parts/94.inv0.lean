/-! at the start, what holds between calls holds -/
theorem m_start {N : Nat} (hN : 4200 ≤ N) : ∃ M1 M2, f_X10_clears N M0m = some (.ok none, M1) ∧ f_X10_sets N M1 = some (.ok none, M2) ∧ Inv M0c M2 := by
  have hm : ∀ a b, (a ≠ 0 ∨ b ≠ 8) → M0m a b = 0 := by
    intro a b w
    unfold M0m km_M
    split
    · show (bif Nat.beq 0 a && Nat.beq 8 b then _ else _) = _
      cases hq : (Nat.beq 0 a && Nat.beq 8 b) with
      | false => rfl
      | true =>
        simp only [Bool.and_eq_true] at hq
        have e1 := Nat.eq_of_beq_eq_true hq.1
        have e2 := Nat.eq_of_beq_eq_true hq.2
        omega
    · rfl
  have hm8 : M0m 0 8 = -1 := by decide +kernel
  generalize hX : am_up (am_up (am_up (am_up (am_up (am_up (am_up (am_up (am_up M0m 0 24 0) 0 25 0) 0 26 0) 0 27 0) 0 28 0) 0 29 0) 0 30 0) 0 31 20) 0 32 0 = X
  have xo : ∀ a b, (a ≠ 0 ∨ (b < 24 ∨ 32 < b)) → X a b = M0m a b := fun a b w => by rw [← hX, up_ne (by omega), up_ne (by omega), up_ne (by omega), up_ne (by omega), up_ne (by omega), up_ne (by omega), up_ne (by omega), up_ne (by omega), up_ne (by omega)]
  have x24 : X 0 24 = 0 := by rw [← hX, up_ne (by omega), up_ne (by omega), up_ne (by omega), up_ne (by omega), up_ne (by omega), up_ne (by omega), up_ne (by omega), up_ne (by omega), up_eq]
  have x25 : X 0 25 = 0 := by rw [← hX, up_ne (by omega), up_ne (by omega), up_ne (by omega), up_ne (by omega), up_ne (by omega), up_ne (by omega), up_ne (by omega), up_eq]
  have x26 : X 0 26 = 0 := by rw [← hX, up_ne (by omega), up_ne (by omega), up_ne (by omega), up_ne (by omega), up_ne (by omega), up_ne (by omega), up_eq]
  have x27 : X 0 27 = 0 := by rw [← hX, up_ne (by omega), up_ne (by omega), up_ne (by omega), up_ne (by omega), up_ne (by omega), up_eq]
  have x28 : X 0 28 = 0 := by rw [← hX, up_ne (by omega), up_ne (by omega), up_ne (by omega), up_ne (by omega), up_eq]
  have x29 : X 0 29 = 0 := by rw [← hX, up_ne (by omega), up_ne (by omega), up_ne (by omega), up_eq]
  have x30 : X 0 30 = 0 := by rw [← hX, up_ne (by omega), up_ne (by omega), up_eq]
  have x31 : X 0 31 = 20 := by rw [← hX, up_ne (by omega), up_eq]
  have x32 : X 0 32 = 0 := by rw [← hX, up_eq]
  obtain ⟨Y, e1, z1, z2⟩ := wp_vv (m_clr (N := N) 100 0 N X (by omega) (by omega) (fun c hc => by omega))
  have hR : RN V00 Y := ⟨⟨(z2 0 24 (by omega) (by omega)).trans x24, (z2 0 25 (by omega) (by omega)).trans x25, (z2 0 31 (by omega) (by omega)).trans x31, (z2 0 32 (by omega) (by omega)).trans x32⟩, ⟨(z2 0 27 (by omega) (by omega)).trans x27, (z2 0 28 (by omega) (by omega)).trans x28, (z2 0 29 (by omega) (by omega)).trans x29, (z2 0 26 (by omega) (by omega)).trans x26, (z2 0 30 (by omega) (by omega)).trans x30⟩, z1, fun j hj => absurd hj (show ¬ ((j : Int) < 0 * 5) by omega), fun i hi => absurd hi (show ¬ ((i : Int) < 0) by omega), fun j hj => absurd hj (show ¬ ((j : Int) < 0 * 2) by omega), fun i hi => absurd hi (show ¬ ((i : Int) < 0) by omega), fun i hi => absurd hi (show ¬ ((i : Int) < 0) by omega)⟩
  have hY : ∀ a b, a ≠ 3 → a ≠ 4 → (a ≠ 0 ∨ (b < 24 ∨ 32 < b)) → (a ≠ 0 ∨ b ≠ 8) → Y a b = 0 := fun a b q1 q2 q3 q4 => by rw [z2 a b q1 q2, xo a b q3, hm a b q4]
  obtain ⟨Z, e2, r1, r2, r3, r4⟩ := wp_vv (m_sets (N := N) (by omega) V00_X V00_Z hR (fun c _ => hY 21 c (by omega) (by omega) (by omega) (by omega)))
  have hZ : ∀ a b, a ≠ 3 → a ≠ 4 → (a < 10 ∨ 16 < a) → (a ≠ 0 ∨ (b < 24 ∧ b ≠ 8)) → Z a b = 0 := fun a b q1 q2 q3 q4 => by rw [r4 a b q3 (by omega), hY a b q1 q2 (by omega) (by omega)]
  have hZ8 : Z 0 8 = -1 := by rw [r4 0 8 (by omega) (by omega), z2 0 8 (by omega) (by omega), xo 0 8 (by omega), hm8]
  refine ⟨Y, Z, ?_, e2, V00, V00_X, ?_, r1, r2, fun _ => 0, 0, fun _ => V00, 0, ?_, ?_, ?_, ?_⟩
  · unfold f_X10_clears
    rw [hX]
    exact e1
  · exact ⟨⟨by decide +kernel, by decide +kernel, by decide +kernel, fun c _ => ⟨rfl, rfl⟩⟩, ⟨by decide +kernel, by decide +kernel⟩, ⟨by decide +kernel, by decide +kernel, by decide +kernel, fun j hj => absurd hj (show ¬ ((j : Int) < 0 * 5) by omega)⟩, ⟨by decide +kernel, by decide +kernel, by decide +kernel, fun j hj => absurd hj (show ¬ ((j : Int) < 0 * 3) by omega)⟩, ⟨by decide +kernel, by decide +kernel, by decide +kernel, fun j hj => absurd hj (show ¬ ((j : Int) < 0 * 2) by omega)⟩, ⟨by decide +kernel, by decide +kernel, by decide +kernel, fun j hj => absurd hj (show ¬ ((j : Int) < 0 * 3) by omega)⟩, ⟨by decide +kernel, by decide +kernel, by decide +kernel, fun j hj => absurd hj (show ¬ ((j : Int) < 0 * 2) by omega)⟩, ⟨by decide +kernel, by decide +kernel, by decide +kernel, fun j hj => absurd hj (show ¬ ((j : Int) < 0 * 4) by omega)⟩⟩
  · exact ⟨by omega, by decide +kernel, hZ 0 2 (by omega) (by omega) (by omega) (by omega), fun i hi => by omega⟩
  · refine ⟨?_, ?_, ?_, ?_, by decide +kernel⟩
    · rw [hZ8]; decide +kernel
    · rw [hZ 1 0 (by omega) (by omega) (by omega) (by omega)]; decide +kernel
    · rw [hZ 1 1 (by omega) (by omega) (by omega) (by omega)]; decide +kernel
    · rw [hZ 1 2 (by omega) (by omega) (by omega) (by omega)]; decide +kernel
  · exact ⟨by omega, by decide +kernel, r3, fun k hk => by omega⟩
  · unfold rdK
    decide +kernel
