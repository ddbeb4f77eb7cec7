/-! valley -/
section VA
variable {N : Nat} {V : VL} {Mc Mm : am_M} {T : Nat → Int} {n : Nat}
theorem V00_X : VX V00 := ⟨⟨⟨Int.le_refl 0, (by decide : (0 : Int) ≤ 10)⟩, ⟨Int.le_refl 0, (by decide : (0 : Int) ≤ 10)⟩, ⟨Int.le_refl 0, (by decide : (0 : Int) ≤ 20)⟩, fun c _ => ⟨⟨Int.le_refl 0, (by decide : (0 : Int) ≤ 9)⟩, Int.le_refl 0, (by decide : (0 : Int) ≤ 9)⟩⟩, ⟨⟨(by decide : (1 : Int) ≤ 20), (by decide : (20 : Int) ≤ 99)⟩, Int.le_refl 0, (by decide : (0 : Int) ≤ 2)⟩, ⟨⟨Int.le_refl 0, (by decide : (0 : Int) ≤ 5)⟩, ⟨Int.le_refl 0, (by decide : (0 : Int) ≤ 4)⟩, ⟨Int.le_refl 0, (by decide : (0 : Int) ≤ 4)⟩, ⟨Int.le_refl 0, (by decide : (0 : Int) ≤ 8)⟩, ⟨Int.le_refl 0, (by decide : (0 : Int) ≤ 8)⟩, ⟨Int.le_refl 0, (by decide : (0 : Int) ≤ 9)⟩⟩, fun i hi => absurd hi (show ¬ ((i : Int) < 0) by omega), fun i hi => absurd hi (show ¬ ((i : Int) < 0) by omega), fun i hi => absurd hi (show ¬ ((i : Int) < 0) by omega), fun i hi => absurd hi (show ¬ ((i : Int) < 0) by omega), fun i hi => absurd hi (show ¬ ((i : Int) < 0) by omega), fun i hi => absurd hi (show ¬ ((i : Int) < 0) by omega)⟩
theorem V00_Z : ZV V00 := ⟨rfl, rfl⟩
theorem c_clr : ∀ (d j m : Nat) (M : am_M), j + d = 100 → d < m → (∀ c, c < j → M 31 c = 0 ∧ M 32 c = 0) → wp (f_X2_clear_30_2 N m (i32 (j : Int)) M) (rV fun M' => (∀ c, c < 100 → M' 31 c = 0 ∧ M' 32 c = 0) ∧ M' 30 2 = 0 ∧ M' 33 3 = 0 ∧ ∀ a b, a ≠ 31 → a ≠ 32 → (a ≠ 30 ∨ b ≠ 2) → (a ≠ 33 ∨ b ≠ 3) → M' a b = M a b) := by
  intro d
  induction d with
  | zero =>
    intro j m M hj hm h
    obtain ⟨m, rfl⟩ : ∃ k, m = k + 1 := ⟨m - 1, by omega⟩
    show wp (f_X2_clear_30_2B N _ _ M) _
    unfold f_X2_clear_30_2B
    refine wp_gd ((i32_100le (by omega) (by omega)).mpr (by omega)) (wp_v ⟨fun c hc => ⟨?_, ?_⟩, ?_, ?_, fun a b w1 w2 w3 w4 => ?_⟩)
    · rw [up_ne (by omega), up_ne (by omega)]; exact (h c (by omega)).1
    · rw [up_ne (by omega), up_ne (by omega)]; exact (h c (by omega)).2
    · rw [up_ne (by omega), up_eq]
    · rw [up_eq]
    · rw [up_ne (by omega), up_ne (by omega)]
  | succ d ih =>
    intro j m M hj hm h
    obtain ⟨m, rfl⟩ : ∃ k, m = k + 1 := ⟨m - 1, by omega⟩
    show wp (f_X2_clear_30_2B N _ _ M) _
    unfold f_X2_clear_30_2B
    refine wp_ng (fun q => absurd ((i32_100le (by omega) (by omega)).mp q) (by omega)) (wp_gd (i32_in (by omega) (by omega) (by omega)) ?_)
    rw [i32_k (by omega), i32_s]
    refine wp_mv (ih (j + 1) m _ (by omega) (by omega) (fun c hc => ?_)) (fun M' q => ⟨q.1, q.2.1, q.2.2.1, fun a b w1 w2 w3 w4 => by rw [q.2.2.2 a b w1 w2 w3 w4, up_ne (by omega), up_ne (by omega)]⟩)
    by_cases hcj : c = j
    · rw [hcj]; exact ⟨by rw [up_ne (by omega), up_eq], by rw [up_eq]⟩
    · exact ⟨by rw [up_ne (by omega), up_ne (by omega)]; exact (h c (by omega)).1, by rw [up_ne (by omega), up_ne (by omega)]; exact (h c (by omega)).2⟩
/-- the reader's start -/
theorem c_read (hN : 602 ≤ N) (hT : TB T n) (hK : rdK Mc) (ht : ∀ i, i < n → Mc 1 i = i32 (sg (T i))) : wp (f_X5_readAll N (i32 (n : Int)) Mc) (rV fun M' => StC n (pl T n 61 0 V00 0).2 M' ∧ fK M' M' ∧ (∀ a b, a < 18 ∨ 34 < a → M' a b = Mc a b) ∧ rdK M' ∧ ((∃ b, (pl T n 61 0 V00 0).2 = .ok b) → RR (pl T n 61 0 V00 0).1 M')) := by
  have h600 := hT.1
  unfold f_X5_readAll f_X4_clear_19
  rw [am_bv_v]
  refine wp_cv (c_clr 100 0 N _ (by omega) (by omega) (fun c hc => by omega)) ?_
  rintro M1 ⟨z1, z2, z3, z4⟩
  have e6 : (if (600 : Int32) < i32 (n : Int) then 600 else i32 (n : Int)) = i32 (n : Int) := by
    rw [if_neg (fun q => by rw [show (600 : Int32) = i32 600 from rfl] at q; have := (i32_lt (by omega) (by omega) (by omega) (by omega)).mp q; omega)]
  rw [e6]
  generalize hX : am_up (am_up (am_up (am_up M1 18 2 0) 18 3 (-1)) 18 6 0) 18 5 (i32 (n : Int)) = X
  have x18 : ∀ a b, a ≠ 18 → X a b = M1 a b := fun a b w => by rw [← hX, up_ne (by omega), up_ne (by omega), up_ne (by omega), up_ne (by omega)]
  have hlow : ∀ a b, a < 18 ∨ 34 < a → X a b = Mc a b := fun a b w => by
    rw [x18 a b (by omega), z4 a b (by omega) (by omega) (by omega) (by omega)]
    rw [up_ne (by omega), up_ne (by omega), up_ne (by omega), up_ne (by omega), up_ne (by omega), up_ne (by omega), up_ne (by omega), up_ne (by omega), up_ne (by omega)]
  obtain ⟨r1, r2, r3, r4, r5, r6⟩ := hK
  have kk : ∀ a b, (a = 20 ∨ a = 22 ∨ a = 24 ∨ a = 26 ∨ a = 28 ∨ a = 33) → (b = 1 ∨ b = 2) → X a b = Mc a b := fun a b w1 w2 => by
    rw [x18 a b (by omega), z4 a b (by omega) (by omega) (by omega) (by omega)]
    rw [up_ne (by omega), up_ne (by omega), up_ne (by omega), up_ne (by omega), up_ne (by omega), up_ne (by omega), up_ne (by omega), up_ne (by omega), up_ne (by omega)]
  have hK' : rdK X := ⟨⟨(kk 20 1 (by omega) (by omega)).trans r1.1, (kk 20 2 (by omega) (by omega)).trans r1.2⟩, ⟨(kk 22 1 (by omega) (by omega)).trans r2.1, (kk 22 2 (by omega) (by omega)).trans r2.2⟩, ⟨(kk 24 1 (by omega) (by omega)).trans r3.1, (kk 24 2 (by omega) (by omega)).trans r3.2⟩, ⟨(kk 26 1 (by omega) (by omega)).trans r4.1, (kk 26 2 (by omega) (by omega)).trans r4.2⟩, ⟨(kk 28 1 (by omega) (by omega)).trans r5.1, (kk 28 2 (by omega) (by omega)).trans r5.2⟩, ⟨(kk 33 1 (by omega) (by omega)).trans r6.1, (kk 33 2 (by omega) (by omega)).trans r6.2⟩⟩
  have hP : PT T n X := ⟨by rw [← hX, up_eq], fun i hi => (hlow 1 i (by omega)).trans (ht i hi)⟩
  have hS : StC n (.ok 0) X := ⟨by omega, by rw [← hX, up_ne (by omega), up_ne (by omega), up_ne (by omega), up_eq], by rw [← hX, up_ne (by omega), up_ne (by omega), up_eq], by rw [← hX, up_ne (by omega), up_eq]; rfl⟩
  have hR : RR V00 X := by
    have g : ∀ a b, a ≠ 18 → a ≠ 31 → a ≠ 32 → (a ≠ 30 ∨ b ≠ 2) → (a ≠ 33 ∨ b ≠ 3) → X a b = (am_up (am_up (am_up (am_up (am_up (am_up (am_up (am_up (am_up Mc 19 0 0) 19 1 0) 19 2 20) 19 3 0) 20 3 0) 22 3 0) 24 3 0) 26 3 0) 28 3 0) a b := fun a b w1 w2 w3 w4 w5 => (x18 a b w1).trans (z4 a b w2 w3 w4 w5)
    refine ⟨⟨?_, ?_, (x18 30 2 (by omega)).trans z2, fun c hc => ⟨(x18 31 c (by omega)).trans (z1 c hc).1, (x18 32 c (by omega)).trans (z1 c hc).2⟩⟩, ⟨?_, ?_⟩, ⟨hK'.1.1, hK'.1.2, ?_, fun j hj => absurd hj (show ¬ ((j : Int) < 0 * 5) by omega)⟩, ⟨hK'.2.1.1, hK'.2.1.2, ?_, fun j hj => absurd hj (show ¬ ((j : Int) < 0 * 3) by omega)⟩, ⟨hK'.2.2.1.1, hK'.2.2.1.2, ?_, fun j hj => absurd hj (show ¬ ((j : Int) < 0 * 2) by omega)⟩, ⟨hK'.2.2.2.1.1, hK'.2.2.2.1.2, ?_, fun j hj => absurd hj (show ¬ ((j : Int) < 0 * 3) by omega)⟩, ⟨hK'.2.2.2.2.1.1, hK'.2.2.2.2.1.2, ?_, fun j hj => absurd hj (show ¬ ((j : Int) < 0 * 2) by omega)⟩, ⟨hK'.2.2.2.2.2.1, hK'.2.2.2.2.2.2, (x18 33 3 (by omega)).trans z3, fun j hj => absurd hj (show ¬ ((j : Int) < 0 * 4) by omega)⟩⟩
    · refine (g 19 0 (by omega) (by omega) (by omega) (by omega) (by omega)).trans ?_
      rw [up_ne (by omega), up_ne (by omega), up_ne (by omega), up_ne (by omega), up_ne (by omega), up_ne (by omega), up_ne (by omega), up_ne (by omega), up_eq]; rfl
    · refine (g 19 1 (by omega) (by omega) (by omega) (by omega) (by omega)).trans ?_
      rw [up_ne (by omega), up_ne (by omega), up_ne (by omega), up_ne (by omega), up_ne (by omega), up_ne (by omega), up_ne (by omega), up_eq]; rfl
    · refine (g 19 2 (by omega) (by omega) (by omega) (by omega) (by omega)).trans ?_
      rw [up_ne (by omega), up_ne (by omega), up_ne (by omega), up_ne (by omega), up_ne (by omega), up_ne (by omega), up_eq]; rfl
    · refine (g 19 3 (by omega) (by omega) (by omega) (by omega) (by omega)).trans ?_
      rw [up_ne (by omega), up_ne (by omega), up_ne (by omega), up_ne (by omega), up_ne (by omega), up_eq]; rfl
    · refine (g 20 3 (by omega) (by omega) (by omega) (by omega) (by omega)).trans ?_
      rw [up_ne (by omega), up_ne (by omega), up_ne (by omega), up_ne (by omega), up_eq]; rfl
    · refine (g 22 3 (by omega) (by omega) (by omega) (by omega) (by omega)).trans ?_
      rw [up_ne (by omega), up_ne (by omega), up_ne (by omega), up_eq]; rfl
    · refine (g 24 3 (by omega) (by omega) (by omega) (by omega) (by omega)).trans ?_
      rw [up_ne (by omega), up_ne (by omega), up_eq]; rfl
    · refine (g 26 3 (by omega) (by omega) (by omega) (by omega) (by omega)).trans ?_
      rw [up_ne (by omega), up_eq]; rfl
    · refine (g 28 3 (by omega) (by omega) (by omega) (by omega) (by omega)).trans ?_
      rw [up_eq]; rfl
  refine wp_mv (c_pl hN hT 60 0 N V00 0 X (by omega) (by omega) hP hS hR V00_X (fun _ => rfl)) (fun M' q => ⟨q.1, fK.rfl, fun a b w => ?_, ?_, q.2.2⟩)
  · rw [q.2.1 a b (by omega) (by omega) (by omega) (by omega) (by omega) (by omega) (by omega) (by omega) (by omega) (by omega)]; exact hlow a b w
  · have kq : ∀ a b, (a = 20 ∨ a = 22 ∨ a = 24 ∨ a = 26 ∨ a = 28 ∨ a = 33) → (b = 1 ∨ b = 2) → M' a b = X a b := fun a b w1 w2 => q.2.1 a b (by omega) (by omega) (by omega) (by omega) (by omega) (by omega) (by omega) (by omega) (by omega) (by omega)
    obtain ⟨r1, r2, r3, r4, r5, r6⟩ := hK'
    exact ⟨⟨(kq 20 1 (by omega) (by omega)).trans r1.1, (kq 20 2 (by omega) (by omega)).trans r1.2⟩, ⟨(kq 22 1 (by omega) (by omega)).trans r2.1, (kq 22 2 (by omega) (by omega)).trans r2.2⟩, ⟨(kq 24 1 (by omega) (by omega)).trans r3.1, (kq 24 2 (by omega) (by omega)).trans r3.2⟩, ⟨(kq 26 1 (by omega) (by omega)).trans r4.1, (kq 26 2 (by omega) (by omega)).trans r4.2⟩, ⟨(kq 28 1 (by omega) (by omega)).trans r5.1, (kq 28 2 (by omega) (by omega)).trans r5.2⟩, ⟨(kq 33 1 (by omega) (by omega)).trans r6.1, (kq 33 2 (by omega) (by omega)).trans r6.2⟩⟩
def TPk (M M' : am_M) : Prop := (M' 2 0 = M 19 0 ∧ M' 2 1 = M 19 1 ∧ M' 2 2 = M 19 2 ∧ M' 2 3 = M 19 3) ∧ (M' 3 3 = M 20 3 ∧ ∀ j, j < 25 → M' 4 j = M 21 j) ∧ (M' 5 3 = M 22 3 ∧ ∀ j, j < 12 → M' 6 j = M 23 j) ∧ (M' 7 3 = M 24 3 ∧ ∀ j, j < 8 → M' 8 j = M 25 j) ∧ (M' 9 3 = M 26 3 ∧ ∀ j, j < 24 → M' 10 j = M 27 j) ∧ (M' 11 3 = M 28 3 ∧ ∀ j, j < 16 → M' 12 j = M 29 j) ∧ ∀ a b, a ≠ 2 → a ≠ 4 → a ≠ 6 → a ≠ 8 → a ≠ 10 → a ≠ 12 → ((a ≠ 3 ∧ a ≠ 5 ∧ a ≠ 7 ∧ a ≠ 9 ∧ a ≠ 11) ∨ b ≠ 3) → M' a b = M a b
theorem tt_3 (M : am_M) : ∃ M', f_X8_take_3_20 N M = some (.ok none, M') ∧ M' 3 3 = M 20 3 ∧ (∀ j, j < 25 → M' 4 j = M 21 j) ∧ ∀ a b, a ≠ 4 → (a ≠ 3 ∨ b ≠ 3) → M' a b = M a b := by
  refine ⟨_, rfl, ?_, fun j hj => ?_, fun a b w1 w2 => ?_⟩
  · rw [up_eq]
  · rw [up_ne (by omega), upA_eq, cpyL (m := 25) (by decide) hj]
  · rw [up_ne (by omega), upA_ne (by omega)]
theorem tt_5 (M : am_M) : ∃ M', f_X8_take_5_22 N M = some (.ok none, M') ∧ M' 5 3 = M 22 3 ∧ (∀ j, j < 12 → M' 6 j = M 23 j) ∧ ∀ a b, a ≠ 6 → (a ≠ 5 ∨ b ≠ 3) → M' a b = M a b := by
  refine ⟨_, rfl, ?_, fun j hj => ?_, fun a b w1 w2 => ?_⟩
  · rw [up_eq]
  · rw [up_ne (by omega), upA_eq, cpyL (m := 12) (by decide) hj]
  · rw [up_ne (by omega), upA_ne (by omega)]
theorem tt_7 (M : am_M) : ∃ M', f_X8_take_7_24 N M = some (.ok none, M') ∧ M' 7 3 = M 24 3 ∧ (∀ j, j < 8 → M' 8 j = M 25 j) ∧ ∀ a b, a ≠ 8 → (a ≠ 7 ∨ b ≠ 3) → M' a b = M a b := by
  refine ⟨_, rfl, ?_, fun j hj => ?_, fun a b w1 w2 => ?_⟩
  · rw [up_eq]
  · rw [up_ne (by omega), upA_eq, cpyL (m := 8) (by decide) hj]
  · rw [up_ne (by omega), upA_ne (by omega)]
theorem tt_9 (M : am_M) : ∃ M', f_X8_take_9_26 N M = some (.ok none, M') ∧ M' 9 3 = M 26 3 ∧ (∀ j, j < 24 → M' 10 j = M 27 j) ∧ ∀ a b, a ≠ 10 → (a ≠ 9 ∨ b ≠ 3) → M' a b = M a b := by
  refine ⟨_, rfl, ?_, fun j hj => ?_, fun a b w1 w2 => ?_⟩
  · rw [up_eq]
  · rw [up_ne (by omega), upA_eq, cpyL (m := 24) (by decide) hj]
  · rw [up_ne (by omega), upA_ne (by omega)]
theorem tt_11 (M : am_M) : ∃ M', f_X8_take_11_28 N M = some (.ok none, M') ∧ M' 11 3 = M 28 3 ∧ (∀ j, j < 16 → M' 12 j = M 29 j) ∧ ∀ a b, a ≠ 12 → (a ≠ 11 ∨ b ≠ 3) → M' a b = M a b := by
  refine ⟨_, rfl, ?_, fun j hj => ?_, fun a b w1 w2 => ?_⟩
  · rw [up_eq]
  · rw [up_ne (by omega), upA_eq, cpyL (m := 16) (by decide) hj]
  · rw [up_ne (by omega), upA_ne (by omega)]
theorem c_take (M : am_M) : ∃ M', f_X4_take_2_19 N M = some (.ok none, M') ∧ TPk M M' := by
  unfold f_X4_take_2_19
  generalize hX : am_up (am_up (am_up (am_up M 2 0 (M 19 0)) 2 1 (M 19 1)) 2 2 (M 19 2)) 2 3 (M 19 3) = X
  have x2 : ∀ a b, a ≠ 2 → X a b = M a b := fun a b w => by rw [← hX, up_ne (by omega), up_ne (by omega), up_ne (by omega), up_ne (by omega)]
  have y0 : X 2 0 = M 19 0 := by rw [← hX, up_ne (by omega), up_ne (by omega), up_ne (by omega), up_eq]
  have y1 : X 2 1 = M 19 1 := by rw [← hX, up_ne (by omega), up_ne (by omega), up_eq]
  have y2 : X 2 2 = M 19 2 := by rw [← hX, up_ne (by omega), up_eq]
  have y3 : X 2 3 = M 19 3 := by rw [← hX, up_eq]
  obtain ⟨M1, q1, a1, b1, c1⟩ := tt_3 (N := N) X
  obtain ⟨M2, q2, a2, b2, c2⟩ := tt_5 (N := N) M1
  obtain ⟨M3, q3, a3, b3, c3⟩ := tt_7 (N := N) M2
  obtain ⟨M4, q4, a4, b4, c4⟩ := tt_9 (N := N) M3
  obtain ⟨M5, q5, a5, b5, c5⟩ := tt_11 (N := N) M4
  rw [q1, am_bv_v, q2, am_bv_v, q3, am_bv_v, q4, am_bv_v, q5, am_bv_v]
  have e : ∀ a b, a ≠ 4 → a ≠ 6 → a ≠ 8 → a ≠ 10 → a ≠ 12 → ((a ≠ 3 ∧ a ≠ 5 ∧ a ≠ 7 ∧ a ≠ 9 ∧ a ≠ 11) ∨ b ≠ 3) → M5 a b = X a b := fun a b w1 w2 w3 w4 w5 w6 => by rw [c5 a b (by omega) (by omega), c4 a b (by omega) (by omega), c3 a b (by omega) (by omega), c2 a b (by omega) (by omega), c1 a b (by omega) (by omega)]
  refine ⟨M5, rfl, ⟨?_, ?_, ?_, ?_⟩, ⟨?_, fun j hj => ?_⟩, ⟨?_, fun j hj => ?_⟩, ⟨?_, fun j hj => ?_⟩, ⟨?_, fun j hj => ?_⟩, ⟨?_, fun j hj => ?_⟩, fun a b w1 w2 w3 w4 w5 w6 w7 => ?_⟩
  · rw [e 2 0 (by omega) (by omega) (by omega) (by omega) (by omega) (by omega)]; exact y0
  · rw [e 2 1 (by omega) (by omega) (by omega) (by omega) (by omega) (by omega)]; exact y1
  · rw [e 2 2 (by omega) (by omega) (by omega) (by omega) (by omega) (by omega)]; exact y2
  · rw [e 2 3 (by omega) (by omega) (by omega) (by omega) (by omega) (by omega)]; exact y3
  · rw [c5 _ _ (by omega) (by omega), c4 _ _ (by omega) (by omega), c3 _ _ (by omega) (by omega), c2 _ _ (by omega) (by omega), a1, x2 _ _ (by omega)]
  · rw [c5 _ _ (by omega) (by omega), c4 _ _ (by omega) (by omega), c3 _ _ (by omega) (by omega), c2 _ _ (by omega) (by omega), b1 j hj, x2 _ _ (by omega)]
  · rw [c5 _ _ (by omega) (by omega), c4 _ _ (by omega) (by omega), c3 _ _ (by omega) (by omega), a2, c1 _ _ (by omega) (by omega), x2 _ _ (by omega)]
  · rw [c5 _ _ (by omega) (by omega), c4 _ _ (by omega) (by omega), c3 _ _ (by omega) (by omega), b2 j hj, c1 _ _ (by omega) (by omega), x2 _ _ (by omega)]
  · rw [c5 _ _ (by omega) (by omega), c4 _ _ (by omega) (by omega), a3, c2 _ _ (by omega) (by omega), c1 _ _ (by omega) (by omega), x2 _ _ (by omega)]
  · rw [c5 _ _ (by omega) (by omega), c4 _ _ (by omega) (by omega), b3 j hj, c2 _ _ (by omega) (by omega), c1 _ _ (by omega) (by omega), x2 _ _ (by omega)]
  · rw [c5 _ _ (by omega) (by omega), a4, c3 _ _ (by omega) (by omega), c2 _ _ (by omega) (by omega), c1 _ _ (by omega) (by omega), x2 _ _ (by omega)]
  · rw [c5 _ _ (by omega) (by omega), b4 j hj, c3 _ _ (by omega) (by omega), c2 _ _ (by omega) (by omega), c1 _ _ (by omega) (by omega), x2 _ _ (by omega)]
  · rw [a5, c4 _ _ (by omega) (by omega), c3 _ _ (by omega) (by omega), c2 _ _ (by omega) (by omega), c1 _ _ (by omega) (by omega), x2 _ _ (by omega)]
  · rw [b5 j hj, c4 _ _ (by omega) (by omega), c3 _ _ (by omega) (by omega), c2 _ _ (by omega) (by omega), c1 _ _ (by omega) (by omega), x2 _ _ (by omega)]
  · rw [e a b w2 w3 w4 w5 w6 w7, x2 a b w1]
/-- what was read counts -/
theorem RC_take {V' : VL} {M0 M M1 M2 : am_M} (hV : VX V') (hC : RC V M) (hR : RR V' M) (h1 : TPk M M1) (h2 : TK 13 30 M1 M2) : RC V' M2 := by
  have hns := hV.ns
  obtain ⟨p0, ⟨p1, p2⟩, ⟨p3, p4⟩, ⟨p5, p6⟩, ⟨p7, p8⟩, ⟨p9, p10⟩, p11⟩ := h1
  obtain ⟨t1, t2, t3, t4, t5⟩ := h2
  have u : ∀ a b, a < 13 → M2 a b = M1 a b := fun a b w => t5 a b (by omega) (by omega) (by omega) (by omega) (by omega)
  have v : ∀ a b, (13 ≤ a) → M1 a b = M a b := fun a b w => p11 a b (by omega) (by omega) (by omega) (by omega) (by omega) (by omega) (by omega)
  have k : ∀ a b, (a = 3 ∨ a = 5 ∨ a = 7 ∨ a = 9 ∨ a = 11) → b ≠ 3 → M1 a b = M a b := fun a b w1 w2 => p11 a b (by omega) (by omega) (by omega) (by omega) (by omega) (by omega) (by omega)
  obtain ⟨g1, g2, g3, g4, g5, g6, g7, g8⟩ := hR
  obtain ⟨f1, f2, f3, f4, f5, f6, f7, f8⟩ := hC
  refine ⟨⟨((u 2 0 (by omega)).trans p0.1).trans g1.1, ((u 2 1 (by omega)).trans p0.2.1).trans g1.2.1, (t2.trans (v 30 2 (by omega))).trans g1.2.2.1, fun c hc => ⟨((t1 c hc).1.trans (v 31 c (by omega))).trans (g1.2.2.2 c hc).1, ((t1 c hc).2.trans (v 32 c (by omega))).trans (g1.2.2.2 c hc).2⟩⟩, ⟨((u 2 2 (by omega)).trans p0.2.2.1).trans g2.1, ((u 2 3 (by omega)).trans p0.2.2.2).trans g2.2⟩, ?_, ?_, ?_, ?_, ?_, ?_⟩
  · exact ⟨((u 3 1 (by omega)).trans (k 3 1 (by omega) (by omega))).trans f3.1, ((u 3 2 (by omega)).trans (k 3 2 (by omega) (by omega))).trans f3.2.1, ((u 3 3 (by omega)).trans p1).trans g3.2.2.1, fun j hj => ((u 4 j (by omega)).trans (p2 j (by omega))).trans (g3.2.2.2 j hj)⟩
  · exact ⟨((u 5 1 (by omega)).trans (k 5 1 (by omega) (by omega))).trans f4.1, ((u 5 2 (by omega)).trans (k 5 2 (by omega) (by omega))).trans f4.2.1, ((u 5 3 (by omega)).trans p3).trans g4.2.2.1, fun j hj => ((u 6 j (by omega)).trans (p4 j (by omega))).trans (g4.2.2.2 j hj)⟩
  · exact ⟨((u 7 1 (by omega)).trans (k 7 1 (by omega) (by omega))).trans f5.1, ((u 7 2 (by omega)).trans (k 7 2 (by omega) (by omega))).trans f5.2.1, ((u 7 3 (by omega)).trans p5).trans g5.2.2.1, fun j hj => ((u 8 j (by omega)).trans (p6 j (by omega))).trans (g5.2.2.2 j hj)⟩
  · exact ⟨((u 9 1 (by omega)).trans (k 9 1 (by omega) (by omega))).trans f6.1, ((u 9 2 (by omega)).trans (k 9 2 (by omega) (by omega))).trans f6.2.1, ((u 9 3 (by omega)).trans p7).trans g6.2.2.1, fun j hj => ((u 10 j (by omega)).trans (p8 j (by omega))).trans (g6.2.2.2 j hj)⟩
  · exact ⟨((u 11 1 (by omega)).trans (k 11 1 (by omega) (by omega))).trans f7.1, ((u 11 2 (by omega)).trans (k 11 2 (by omega) (by omega))).trans f7.2.1, ((u 11 3 (by omega)).trans p9).trans g7.2.2.1, fun j hj => ((u 12 j (by omega)).trans (p10 j (by omega))).trans (g7.2.2.2 j hj)⟩
  · exact ⟨((t5 16 1 (by omega) (by omega) (by omega) (by omega) (by omega)).trans (v 16 1 (by omega))).trans f8.1, ((t5 16 2 (by omega) (by omega) (by omega) (by omega) (by omega)).trans (v 16 2 (by omega))).trans f8.2.1, (t3.trans (v 33 3 (by omega))).trans g8.2.2.1, fun j hj => ((t4 j (by omega)).trans (v 34 j (by omega))).trans (g8.2.2.2 j hj)⟩
/-! the reference -/
theorem m_clr : ∀ (d j m : Nat) (M : am_M), j + d = 100 → d < m → (∀ c, c < j → M 3 c = 0 ∧ M 4 c = 0) → wp (f_X10_clears_48 N m (i32 (j : Int)) M) (rV fun M' => (∀ c, c < 100 → M' 3 c = 0 ∧ M' 4 c = 0) ∧ ∀ a b, a ≠ 3 → a ≠ 4 → M' a b = M a b) := by
  intro d
  induction d with
  | zero =>
    intro j m M hj hm h
    obtain ⟨m, rfl⟩ : ∃ k, m = k + 1 := ⟨m - 1, by omega⟩
    show wp (f_X10_clears_48B N _ _ M) _
    unfold f_X10_clears_48B
    exact wp_gd ((i32_100le (by omega) (by omega)).mpr (by omega)) (wp_v ⟨fun c hc => h c (by omega), fun _ _ _ _ => rfl⟩)
  | succ d ih =>
    intro j m M hj hm h
    obtain ⟨m, rfl⟩ : ∃ k, m = k + 1 := ⟨m - 1, by omega⟩
    show wp (f_X10_clears_48B N _ _ M) _
    unfold f_X10_clears_48B
    refine wp_ng (fun q => absurd ((i32_100le (by omega) (by omega)).mp q) (by omega)) (wp_gd (i32_in (by omega) (by omega) (by omega)) ?_)
    rw [i32_k (by omega), i32_s]
    refine wp_mv (ih (j + 1) m _ (by omega) (by omega) (fun c hc => ?_)) (fun M' q => ⟨q.1, fun a b w1 w2 => by rw [q.2 a b w1 w2, up_ne (by omega), up_ne (by omega)]⟩)
    by_cases hcj : c = j
    · rw [hcj]; exact ⟨by rw [up_ne (by omega), up_eq], by rw [up_eq]⟩
    · exact ⟨by rw [up_ne (by omega), up_ne (by omega)]; exact (h c (by omega)).1, by rw [up_ne (by omega), up_ne (by omega)]; exact (h c (by omega)).2⟩
theorem m_cpy10 : ∀ (r j m : Nat) (M : am_M), j + r = 100 → r < m → wp (f_X10_copies_3_10_2 N 100 m (i32 (j : Int)) M) (rV fun M' => (∀ c, j ≤ c → c < 100 → M' 10 c = M 3 c) ∧ ∀ a b, a ≠ 10 ∨ b < j → M' a b = M a b) := by
  intro r
  induction r with
  | zero =>
    intro j m M hj hm
    obtain ⟨m, rfl⟩ : ∃ k, m = k + 1 := ⟨m - 1, by omega⟩
    show wp (f_X10_copies_3_10_2B N _ _ _ M) _
    unfold f_X10_copies_3_10_2B
    exact wp_gd (by rw [show (100 : Int32) = i32 100 from rfl]; exact (i32_le (by omega) (by omega) (by omega) (by omega)).mpr (by omega)) (wp_v ⟨fun c h1 h2 => by omega, fun _ _ _ => rfl⟩)
  | succ r ih =>
    intro j m M hj hm
    obtain ⟨m, rfl⟩ : ∃ k, m = k + 1 := ⟨m - 1, by omega⟩
    show wp (f_X10_copies_3_10_2B N _ _ _ M) _
    unfold f_X10_copies_3_10_2B
    refine wp_ng (fun q => by rw [show (100 : Int32) = i32 100 from rfl] at q; exact absurd ((i32_le (by omega) (by omega) (by omega) (by omega)).mp q) (by omega)) (wp_gd (i32_in (by omega) (by omega) (by omega)) ?_)
    rw [i32_k (by omega), i32_s]
    refine wp_mv (ih (j + 1) m _ (by omega) (by omega)) (fun M' q => ⟨fun c h1 h2 => ?_, fun a b w => by rw [q.2 a b (by omega), up_ne (by omega)]⟩)
    by_cases hcj : c = j
    · rw [hcj, q.2 10 j (by omega), up_eq]
    · rw [q.1 c (by omega) h2, up_ne (by omega)]
theorem m_cpy11 : ∀ (r j m : Nat) (M : am_M), j + r = 100 → r < m → wp (f_X10_copies_4_11_2 N 100 m (i32 (j : Int)) M) (rV fun M' => (∀ c, j ≤ c → c < 100 → M' 11 c = M 4 c) ∧ ∀ a b, a ≠ 11 ∨ b < j → M' a b = M a b) := by
  intro r
  induction r with
  | zero =>
    intro j m M hj hm
    obtain ⟨m, rfl⟩ : ∃ k, m = k + 1 := ⟨m - 1, by omega⟩
    show wp (f_X10_copies_4_11_2B N _ _ _ M) _
    unfold f_X10_copies_4_11_2B
    exact wp_gd (by rw [show (100 : Int32) = i32 100 from rfl]; exact (i32_le (by omega) (by omega) (by omega) (by omega)).mpr (by omega)) (wp_v ⟨fun c h1 h2 => by omega, fun _ _ _ => rfl⟩)
  | succ r ih =>
    intro j m M hj hm
    obtain ⟨m, rfl⟩ : ∃ k, m = k + 1 := ⟨m - 1, by omega⟩
    show wp (f_X10_copies_4_11_2B N _ _ _ M) _
    unfold f_X10_copies_4_11_2B
    refine wp_ng (fun q => by rw [show (100 : Int32) = i32 100 from rfl] at q; exact absurd ((i32_le (by omega) (by omega) (by omega) (by omega)).mp q) (by omega)) (wp_gd (i32_in (by omega) (by omega) (by omega)) ?_)
    rw [i32_k (by omega), i32_s]
    refine wp_mv (ih (j + 1) m _ (by omega) (by omega)) (fun M' q => ⟨fun c h1 h2 => ?_, fun a b w => by rw [q.2 a b (by omega), up_ne (by omega)]⟩)
    by_cases hcj : c = j
    · rw [hcj, q.2 11 j (by omega), up_eq]
    · rw [q.1 c (by omega) h2, up_ne (by omega)]
theorem m_cpy12 : ∀ (r j m : Nat) (M : am_M), j + r = 16 → r < m → wp (f_X10_copies_5_12_2 N 16 m (i32 (j : Int)) M) (rV fun M' => (∀ c, j ≤ c → c < 16 → M' 12 c = M 5 c) ∧ ∀ a b, a ≠ 12 ∨ b < j → M' a b = M a b) := by
  intro r
  induction r with
  | zero =>
    intro j m M hj hm
    obtain ⟨m, rfl⟩ : ∃ k, m = k + 1 := ⟨m - 1, by omega⟩
    show wp (f_X10_copies_5_12_2B N _ _ _ M) _
    unfold f_X10_copies_5_12_2B
    exact wp_gd (by rw [show (16 : Int32) = i32 16 from rfl]; exact (i32_le (by omega) (by omega) (by omega) (by omega)).mpr (by omega)) (wp_v ⟨fun c h1 h2 => by omega, fun _ _ _ => rfl⟩)
  | succ r ih =>
    intro j m M hj hm
    obtain ⟨m, rfl⟩ : ∃ k, m = k + 1 := ⟨m - 1, by omega⟩
    show wp (f_X10_copies_5_12_2B N _ _ _ M) _
    unfold f_X10_copies_5_12_2B
    refine wp_ng (fun q => by rw [show (16 : Int32) = i32 16 from rfl] at q; exact absurd ((i32_le (by omega) (by omega) (by omega) (by omega)).mp q) (by omega)) (wp_gd (i32_in (by omega) (by omega) (by omega)) ?_)
    rw [i32_k (by omega), i32_s]
    refine wp_mv (ih (j + 1) m _ (by omega) (by omega)) (fun M' q => ⟨fun c h1 h2 => ?_, fun a b w => by rw [q.2 a b (by omega), up_ne (by omega)]⟩)
    by_cases hcj : c = j
    · rw [hcj, q.2 12 j (by omega), up_eq]
    · rw [q.1 c (by omega) h2, up_ne (by omega)]
theorem m_cpy13 : ∀ (r j m : Nat) (M : am_M), j + r = 25 → r < m → wp (f_X10_copies_6_13_2 N 25 m (i32 (j : Int)) M) (rV fun M' => (∀ c, j ≤ c → c < 25 → M' 13 c = M 6 c) ∧ ∀ a b, a ≠ 13 ∨ b < j → M' a b = M a b) := by
  intro r
  induction r with
  | zero =>
    intro j m M hj hm
    obtain ⟨m, rfl⟩ : ∃ k, m = k + 1 := ⟨m - 1, by omega⟩
    show wp (f_X10_copies_6_13_2B N _ _ _ M) _
    unfold f_X10_copies_6_13_2B
    exact wp_gd (by rw [show (25 : Int32) = i32 25 from rfl]; exact (i32_le (by omega) (by omega) (by omega) (by omega)).mpr (by omega)) (wp_v ⟨fun c h1 h2 => by omega, fun _ _ _ => rfl⟩)
  | succ r ih =>
    intro j m M hj hm
    obtain ⟨m, rfl⟩ : ∃ k, m = k + 1 := ⟨m - 1, by omega⟩
    show wp (f_X10_copies_6_13_2B N _ _ _ M) _
    unfold f_X10_copies_6_13_2B
    refine wp_ng (fun q => by rw [show (25 : Int32) = i32 25 from rfl] at q; exact absurd ((i32_le (by omega) (by omega) (by omega) (by omega)).mp q) (by omega)) (wp_gd (i32_in (by omega) (by omega) (by omega)) ?_)
    rw [i32_k (by omega), i32_s]
    refine wp_mv (ih (j + 1) m _ (by omega) (by omega)) (fun M' q => ⟨fun c h1 h2 => ?_, fun a b w => by rw [q.2 a b (by omega), up_ne (by omega)]⟩)
    by_cases hcj : c = j
    · rw [hcj, q.2 13 j (by omega), up_eq]
    · rw [q.1 c (by omega) h2, up_ne (by omega)]
theorem m_cpy14 : ∀ (r j m : Nat) (M : am_M), j + r = 8 → r < m → wp (f_X10_copies_7_14_2 N 8 m (i32 (j : Int)) M) (rV fun M' => (∀ c, j ≤ c → c < 8 → M' 14 c = M 7 c) ∧ ∀ a b, a ≠ 14 ∨ b < j → M' a b = M a b) := by
  intro r
  induction r with
  | zero =>
    intro j m M hj hm
    obtain ⟨m, rfl⟩ : ∃ k, m = k + 1 := ⟨m - 1, by omega⟩
    show wp (f_X10_copies_7_14_2B N _ _ _ M) _
    unfold f_X10_copies_7_14_2B
    exact wp_gd (by rw [show (8 : Int32) = i32 8 from rfl]; exact (i32_le (by omega) (by omega) (by omega) (by omega)).mpr (by omega)) (wp_v ⟨fun c h1 h2 => by omega, fun _ _ _ => rfl⟩)
  | succ r ih =>
    intro j m M hj hm
    obtain ⟨m, rfl⟩ : ∃ k, m = k + 1 := ⟨m - 1, by omega⟩
    show wp (f_X10_copies_7_14_2B N _ _ _ M) _
    unfold f_X10_copies_7_14_2B
    refine wp_ng (fun q => by rw [show (8 : Int32) = i32 8 from rfl] at q; exact absurd ((i32_le (by omega) (by omega) (by omega) (by omega)).mp q) (by omega)) (wp_gd (i32_in (by omega) (by omega) (by omega)) ?_)
    rw [i32_k (by omega), i32_s]
    refine wp_mv (ih (j + 1) m _ (by omega) (by omega)) (fun M' q => ⟨fun c h1 h2 => ?_, fun a b w => by rw [q.2 a b (by omega), up_ne (by omega)]⟩)
    by_cases hcj : c = j
    · rw [hcj, q.2 14 j (by omega), up_eq]
    · rw [q.1 c (by omega) h2, up_ne (by omega)]
theorem m_cpy15 : ∀ (r j m : Nat) (M : am_M), j + r = 8 → r < m → wp (f_X10_copies_8_15_2 N 8 m (i32 (j : Int)) M) (rV fun M' => (∀ c, j ≤ c → c < 8 → M' 15 c = M 8 c) ∧ ∀ a b, a ≠ 15 ∨ b < j → M' a b = M a b) := by
  intro r
  induction r with
  | zero =>
    intro j m M hj hm
    obtain ⟨m, rfl⟩ : ∃ k, m = k + 1 := ⟨m - 1, by omega⟩
    show wp (f_X10_copies_8_15_2B N _ _ _ M) _
    unfold f_X10_copies_8_15_2B
    exact wp_gd (by rw [show (8 : Int32) = i32 8 from rfl]; exact (i32_le (by omega) (by omega) (by omega) (by omega)).mpr (by omega)) (wp_v ⟨fun c h1 h2 => by omega, fun _ _ _ => rfl⟩)
  | succ r ih =>
    intro j m M hj hm
    obtain ⟨m, rfl⟩ : ∃ k, m = k + 1 := ⟨m - 1, by omega⟩
    show wp (f_X10_copies_8_15_2B N _ _ _ M) _
    unfold f_X10_copies_8_15_2B
    refine wp_ng (fun q => by rw [show (8 : Int32) = i32 8 from rfl] at q; exact absurd ((i32_le (by omega) (by omega) (by omega) (by omega)).mp q) (by omega)) (wp_gd (i32_in (by omega) (by omega) (by omega)) ?_)
    rw [i32_k (by omega), i32_s]
    refine wp_mv (ih (j + 1) m _ (by omega) (by omega)) (fun M' q => ⟨fun c h1 h2 => ?_, fun a b w => by rw [q.2 a b (by omega), up_ne (by omega)]⟩)
    by_cases hcj : c = j
    · rw [hcj, q.2 15 j (by omega), up_eq]
    · rw [q.1 c (by omega) h2, up_ne (by omega)]
theorem m_cpy16 : ∀ (r j m : Nat) (M : am_M), j + r = 8 → r < m → wp (f_X10_copies_9_16_2 N 8 m (i32 (j : Int)) M) (rV fun M' => (∀ c, j ≤ c → c < 8 → M' 16 c = M 9 c) ∧ ∀ a b, a ≠ 16 ∨ b < j → M' a b = M a b) := by
  intro r
  induction r with
  | zero =>
    intro j m M hj hm
    obtain ⟨m, rfl⟩ : ∃ k, m = k + 1 := ⟨m - 1, by omega⟩
    show wp (f_X10_copies_9_16_2B N _ _ _ M) _
    unfold f_X10_copies_9_16_2B
    exact wp_gd (by rw [show (8 : Int32) = i32 8 from rfl]; exact (i32_le (by omega) (by omega) (by omega) (by omega)).mpr (by omega)) (wp_v ⟨fun c h1 h2 => by omega, fun _ _ _ => rfl⟩)
  | succ r ih =>
    intro j m M hj hm
    obtain ⟨m, rfl⟩ : ∃ k, m = k + 1 := ⟨m - 1, by omega⟩
    show wp (f_X10_copies_9_16_2B N _ _ _ M) _
    unfold f_X10_copies_9_16_2B
    refine wp_ng (fun q => by rw [show (8 : Int32) = i32 8 from rfl] at q; exact absurd ((i32_le (by omega) (by omega) (by omega) (by omega)).mp q) (by omega)) (wp_gd (i32_in (by omega) (by omega) (by omega)) ?_)
    rw [i32_k (by omega), i32_s]
    refine wp_mv (ih (j + 1) m _ (by omega) (by omega)) (fun M' q => ⟨fun c h1 h2 => ?_, fun a b w => by rw [q.2 a b (by omega), up_ne (by omega)]⟩)
    by_cases hcj : c = j
    · rw [hcj, q.2 16 j (by omega), up_eq]
    · rw [q.1 c (by omega) h2, up_ne (by omega)]
theorem m_sets (hN : 602 ≤ N) {V' : VL} (hV : VX V') (hZ : ZV V') {M : am_M} (hR : RN V' M) (h21 : ∀ c, c < 100 → M 21 c = 0) : wp (f_X10_sets N M) (rV fun M' => RT V' M' ∧ RF V' M' ∧ M' 0 65 = 0 ∧ ∀ a b, (a < 10 ∨ 16 < a) → (a ≠ 0 ∨ (b < 33 ∨ (42 < b ∧ b ≠ 60 ∧ b ≠ 65))) → M' a b = M a b) := by
  have hns := hV.ns
  unfold f_X10_sets
  generalize hX : am_up (am_up (am_up (am_up (am_up (am_up (am_up (am_up (am_up (am_up (am_up (am_up M 0 33 (M 0 24)) 0 34 (M 0 25)) 0 35 (M 0 26)) 0 36 (M 0 27)) 0 37 (M 0 28)) 0 38 (M 0 29)) 0 39 (M 0 30)) 0 40 (M 0 31)) 0 41 (M 0 32)) 0 42 0) 0 60 0) 0 65 0 = X
  have xo : ∀ a b, (a ≠ 0 ∨ (b < 33 ∨ (42 < b ∧ b ≠ 60 ∧ b ≠ 65))) → X a b = M a b := fun a b w => by rw [← hX, up_ne (by omega), up_ne (by omega), up_ne (by omega), up_ne (by omega), up_ne (by omega), up_ne (by omega), up_ne (by omega), up_ne (by omega), up_ne (by omega), up_ne (by omega), up_ne (by omega), up_ne (by omega)]
  have x33 : X 0 33 = M 0 24 := by rw [← hX, up_ne (by omega), up_ne (by omega), up_ne (by omega), up_ne (by omega), up_ne (by omega), up_ne (by omega), up_ne (by omega), up_ne (by omega), up_ne (by omega), up_ne (by omega), up_ne (by omega), up_eq]
  have x34 : X 0 34 = M 0 25 := by rw [← hX, up_ne (by omega), up_ne (by omega), up_ne (by omega), up_ne (by omega), up_ne (by omega), up_ne (by omega), up_ne (by omega), up_ne (by omega), up_ne (by omega), up_ne (by omega), up_eq]
  have x35 : X 0 35 = M 0 26 := by rw [← hX, up_ne (by omega), up_ne (by omega), up_ne (by omega), up_ne (by omega), up_ne (by omega), up_ne (by omega), up_ne (by omega), up_ne (by omega), up_ne (by omega), up_eq]
  have x36 : X 0 36 = M 0 27 := by rw [← hX, up_ne (by omega), up_ne (by omega), up_ne (by omega), up_ne (by omega), up_ne (by omega), up_ne (by omega), up_ne (by omega), up_ne (by omega), up_eq]
  have x37 : X 0 37 = M 0 28 := by rw [← hX, up_ne (by omega), up_ne (by omega), up_ne (by omega), up_ne (by omega), up_ne (by omega), up_ne (by omega), up_ne (by omega), up_eq]
  have x38 : X 0 38 = M 0 29 := by rw [← hX, up_ne (by omega), up_ne (by omega), up_ne (by omega), up_ne (by omega), up_ne (by omega), up_ne (by omega), up_eq]
  have x39 : X 0 39 = M 0 30 := by rw [← hX, up_ne (by omega), up_ne (by omega), up_ne (by omega), up_ne (by omega), up_ne (by omega), up_eq]
  have x40 : X 0 40 = M 0 31 := by rw [← hX, up_ne (by omega), up_ne (by omega), up_ne (by omega), up_ne (by omega), up_eq]
  have x41 : X 0 41 = M 0 32 := by rw [← hX, up_ne (by omega), up_ne (by omega), up_ne (by omega), up_eq]
  have x42 : X 0 42 = 0 := by rw [← hX, up_ne (by omega), up_ne (by omega), up_eq]
  have x60 : X 0 60 = 0 := by rw [← hX, up_ne (by omega), up_eq]
  have x65 : X 0 65 = 0 := by rw [← hX, up_eq]
  refine wp_cv (m_cpy10 100 0 N X (by omega) (by omega)) ?_
  rintro Y0 ⟨a0, b0⟩
  refine wp_cv (m_cpy11 100 0 N Y0 (by omega) (by omega)) ?_
  rintro Y1 ⟨a1, b1⟩
  refine wp_cv (m_cpy12 16 0 N Y1 (by omega) (by omega)) ?_
  rintro Y2 ⟨a2, b2⟩
  refine wp_cv (m_cpy13 25 0 N Y2 (by omega) (by omega)) ?_
  rintro Y3 ⟨a3, b3⟩
  refine wp_cv (m_cpy14 8 0 N Y3 (by omega) (by omega)) ?_
  rintro Y4 ⟨a4, b4⟩
  refine wp_cv (m_cpy15 8 0 N Y4 (by omega) (by omega)) ?_
  rintro Y5 ⟨a5, b5⟩
  refine wp_cv (m_cpy16 8 0 N Y5 (by omega) (by omega)) ?_
  rintro Y6 ⟨a6, b6⟩
  have yo : ∀ a b, (a < 10 ∨ 16 < a) → Y6 a b = X a b := fun a b w => by rw [b6 a b (by omega), b5 a b (by omega), b4 a b (by omega), b3 a b (by omega), b2 a b (by omega), b1 a b (by omega), b0 a b (by omega)]
  have y10 : ∀ c, c < 100 → Y6 10 c = M 3 c := fun c hc => by rw [b6 _ _ (by omega), b5 _ _ (by omega), b4 _ _ (by omega), b3 _ _ (by omega), b2 _ _ (by omega), b1 _ _ (by omega), a0 c (by omega) hc, xo _ _ (by omega)]
  have y11 : ∀ c, c < 100 → Y6 11 c = M 4 c := fun c hc => by rw [b6 _ _ (by omega), b5 _ _ (by omega), b4 _ _ (by omega), b3 _ _ (by omega), b2 _ _ (by omega), a1 c (by omega) hc, b0 _ _ (by omega), xo _ _ (by omega)]
  have y12 : ∀ c, c < 16 → Y6 12 c = M 5 c := fun c hc => by rw [b6 _ _ (by omega), b5 _ _ (by omega), b4 _ _ (by omega), b3 _ _ (by omega), a2 c (by omega) hc, b1 _ _ (by omega), b0 _ _ (by omega), xo _ _ (by omega)]
  have y13 : ∀ c, c < 25 → Y6 13 c = M 6 c := fun c hc => by rw [b6 _ _ (by omega), b5 _ _ (by omega), b4 _ _ (by omega), a3 c (by omega) hc, b2 _ _ (by omega), b1 _ _ (by omega), b0 _ _ (by omega), xo _ _ (by omega)]
  have y14 : ∀ c, c < 8 → Y6 14 c = M 7 c := fun c hc => by rw [b6 _ _ (by omega), b5 _ _ (by omega), a4 c (by omega) hc, b3 _ _ (by omega), b2 _ _ (by omega), b1 _ _ (by omega), b0 _ _ (by omega), xo _ _ (by omega)]
  have y15 : ∀ c, c < 8 → Y6 15 c = M 8 c := fun c hc => by rw [b6 _ _ (by omega), a5 c (by omega) hc, b4 _ _ (by omega), b3 _ _ (by omega), b2 _ _ (by omega), b1 _ _ (by omega), b0 _ _ (by omega), xo _ _ (by omega)]
  have y16 : ∀ c, c < 8 → Y6 16 c = M 9 c := fun c hc => by rw [a6 c (by omega) hc, b5 _ _ (by omega), b4 _ _ (by omega), b3 _ _ (by omega), b2 _ _ (by omega), b1 _ _ (by omega), b0 _ _ (by omega), xo _ _ (by omega)]
  obtain ⟨⟨h1, h2, h3, h4⟩, ⟨h5, h6, h7, h8, h9⟩, h10, h11, h12, h13, h14, h15⟩ := hR
  have w0 : ∀ b, Y6 0 b = X 0 b := fun b => yo 0 b (by omega)
  refine wp_v ⟨⟨⟨?_, ?_, ?_, ?_, ?_⟩, ⟨?_, ?_, ?_, ?_, ?_, ?_⟩, fun c hc => ?_, fun j hj => ?_, fun i hi => ⟨?_, ?_⟩, fun j hj => ?_, fun i hi => ⟨?_, ?_⟩, fun i hi => ?_, fun i hi => ?_⟩, fun c hc => ⟨?_, ?_⟩, ?_, fun a b q1 q2 => ?_⟩
  · rw [w0, x33]; exact h1
  · rw [w0, x34]; exact h2
  · rw [w0, x40]; exact h3
  · rw [w0, x41]; exact h4
  · rw [w0, x42, hZ.1]; rfl
  · rw [w0, x36]; exact h5
  · rw [w0, x37]; exact h6
  · rw [w0, x38]; exact h7
  · rw [w0, x35]; exact h8
  · rw [w0, x39]; exact h9
  · rw [w0, x60, hZ.2]; rfl
  · rw [y11 c hc]; exact (h10 c hc).2
  · rw [y13 j (by omega)]; exact h11 j hj
  · rw [y14 (2 * i) (by omega)]; exact (h12 i hi).1
  · rw [y14 (2 * i + 1) (by omega)]; exact (h12 i hi).2
  · rw [y15 j (by omega)]; exact h13 j hj
  · rw [y12 (2 * i) (by omega)]; exact (h14 i hi).1
  · rw [y12 (2 * i + 1) (by omega)]; exact (h14 i hi).2
  · rw [y16 i (by omega)]; exact h15 i hi
  · rw [hZ.2] at hi; exact absurd hi (by omega)
  · rw [y10 c hc]; exact (h10 c hc).1
  · rw [yo 21 c (by omega), xo 21 c (by omega)]; exact h21 c hc
  · rw [w0, x65]
  · rw [yo a b q1, xo a b q2]
theorem op_valley (hN : 4200 ≤ N) (h : Inv Mc Mm) (p1 : Int32) : OP1 (f_X9_valley N p1 Mc) (f_X10_valley N p1 Mm) 2 := by
  obtain ⟨V, hV, hC, hM, hF, hI⟩ := h
  have hMz := hM.z
  obtain ⟨T, tp, I, ni, ⟨t1, t2, t3, t4⟩, ⟨c1, c2, c3, c4, c5⟩, ⟨i1, i2, i3, i4⟩, hK⟩ := hI.z
  unfold f_X9_valley f_X10_valley
  rw [show am_up Mm 0 0 0 = M00 Mm from rfl, t2, show Mm 0 2 = i32 tp from (M00_n (by omega)).symm.trans t3]
  rcases btw_cs (N := N) p1 (lo := 0) (hi := tp) (by omega) (by omega) (M := Mc) (M2 := M00 Mm) with ⟨b1, _, x, rfl, hx⟩ | ⟨b1, b2⟩
  rotate_left
  · rw [show f_X9_needBetween N p1 0 (i32 tp) Mc = _ from b1, am_bvx_x]
    have hm : f_X10_valley_22 N p1 (M00 Mm) = some (.ok (some (.int 0)), am_up (am_up (M00 Mm) 0 0 1) 1 2 (M00 Mm 1 2 + 1)) := by
      unfold f_X10_valley_22 f_X10_valley_23
      rw [m_mayb (by decide) M00_0, am_bi_i, if_pos rfl]
    refine OP1.bad hV hC hM hF hI (k := 2) (by omega) rfl ?_
    rw [m_within] at b2
    by_cases q1 : p1 < 0
    · rw [if_pos q1]; exact hm
    · rw [if_neg q1]
      by_cases q2 : i32 tp < p1
      · rw [if_pos q2]; exact hm
      · rw [if_neg (show ¬ p1 < i32 0 from q1), if_neg q2] at b2
        injection b2 with b2
        injection b2 with b2 _
        injection b2 with b2
        injection b2 with b2
        injection b2 with b2
        exact absurd b2 (by decide)
  · obtain ⟨n, rfl⟩ : ∃ n : Nat, x = (n : Int) := ⟨x.toNat, by omega⟩
    have hT : TB T n := ⟨by omega, fun i hi => (t4 i (by omega)).1⟩
    rw [show f_X9_needBetween N (i32 (n : Int)) 0 (i32 tp) Mc = _ from b1, am_bvx_v, if_neg (fun q => absurd ((i32_lt0 (by omega) (by omega)).mp q) (by omega)), if_neg (fun q => absurd ((i32_lt (by omega) (by omega) (by omega) (by omega)).mp q) (by omega))]
    have hKz : rdK (am_up Mc 0 1 0) := by
      obtain ⟨r1, r2, r3, r4, r5, r6⟩ := hK
      exact ⟨⟨(up_ne (by omega)).trans r1.1, (up_ne (by omega)).trans r1.2⟩, ⟨(up_ne (by omega)).trans r2.1, (up_ne (by omega)).trans r2.2⟩, ⟨(up_ne (by omega)).trans r3.1, (up_ne (by omega)).trans r3.2⟩, ⟨(up_ne (by omega)).trans r4.1, (up_ne (by omega)).trans r4.2⟩, ⟨(up_ne (by omega)).trans r5.1, (up_ne (by omega)).trans r5.2⟩, ⟨(up_ne (by omega)).trans r6.1, (up_ne (by omega)).trans r6.2⟩⟩
    obtain ⟨M1, e1, hS1, _, hlow, hK1, hR1⟩ := wp_vv (c_read (N := N) (Mc := am_up Mc 0 1 0) (by omega) hT hKz (fun i hi => by rw [up_ne (by omega)]; exact (t4 i (by omega)).2.1))
    rw [e1, am_bv_v]
    have hl : ∀ a b, (a < 18 ∨ 34 < a) → (a ≠ 0 ∨ b ≠ 1) → M1 a b = Mc a b := fun a b w1 w2 => (hlow a b w1).trans (up_ne w2)
    have hl1 : M1 0 1 = 0 := (hlow 0 1 (by omega)).trans (up_eq _ _ _ _)
    have hC1 : RC V M1 := hC.of (fun a b w => hl a b (by omega) (by omega))
    have hpv := pl_V (T := T) (n := n) 61 0 V00 0 V00_X V00_Z (fun _ => rfl) (by omega)
    -- the reference reads
    have mm : ∀ {Q : Except Nat (Option Value) → am_M → Prop}, (∀ M', StM n (pl T n 61 0 V00 0).2 M' → ((∃ b, (pl T n 61 0 V00 0).2 = .ok b) → RN (pl T n 61 0 V00 0).1 M') → (∀ a b, (a < 3 ∨ 9 < a) → (a ≠ 0 ∨ (b ≠ 2 ∧ b ≠ 3 ∧ b ≠ 4 ∧ b ≠ 5 ∧ b ≠ 6 ∧ b ≠ 7 ∧ b ≠ 8 ∧ (b < 24 ∨ 32 < b))) → M' a b = M00 Mm a b) → M' 0 2 = 0 → wp (f_X10_valley_181 N M') Q) → wp (f_X10_valley_23 N (i32 (n : Int)) 1 (M00 Mm)) Q := by
      intro Q hQ
      unfold f_X10_valley_23 f_X10_begins f_X10_clears
      rw [m_may1 M00_0, am_bi_i, if_neg (show ¬ ((1 : Int32) = 0) by decide), am_bv_v]
      generalize hX : am_up (am_up (am_up (am_up (am_up (am_up (am_up (am_up (am_up (am_up (am_up (am_up (am_up (am_up (am_up (M00 Mm) 0 2 0) 0 8 (-1)) 0 3 (i32 (n : Int))) 0 4 0) 0 5 (-1)) 0 7 0) 0 24 0) 0 25 0) 0 26 0) 0 27 0) 0 28 0) 0 29 0) 0 30 0) 0 31 20) 0 32 0 = X
      have xo : ∀ a b, (a ≠ 0 ∨ (b ≠ 2 ∧ b ≠ 3 ∧ b ≠ 4 ∧ b ≠ 5 ∧ b ≠ 7 ∧ b ≠ 8 ∧ (b < 24 ∨ 32 < b))) → X a b = M00 Mm a b := fun a b w => by rw [← hX, up_ne (by omega), up_ne (by omega), up_ne (by omega), up_ne (by omega), up_ne (by omega), up_ne (by omega), up_ne (by omega), up_ne (by omega), up_ne (by omega), up_ne (by omega), up_ne (by omega), up_ne (by omega), up_ne (by omega), up_ne (by omega), up_ne (by omega)]
      have x2 : X 0 2 = 0 := by rw [← hX, up_ne (by omega), up_ne (by omega), up_ne (by omega), up_ne (by omega), up_ne (by omega), up_ne (by omega), up_ne (by omega), up_ne (by omega), up_ne (by omega), up_ne (by omega), up_ne (by omega), up_ne (by omega), up_ne (by omega), up_ne (by omega), up_eq]
      have x3 : X 0 3 = i32 (n : Int) := by rw [← hX, up_ne (by omega), up_ne (by omega), up_ne (by omega), up_ne (by omega), up_ne (by omega), up_ne (by omega), up_ne (by omega), up_ne (by omega), up_ne (by omega), up_ne (by omega), up_ne (by omega), up_ne (by omega), up_eq]
      have x4 : X 0 4 = 0 := by rw [← hX, up_ne (by omega), up_ne (by omega), up_ne (by omega), up_ne (by omega), up_ne (by omega), up_ne (by omega), up_ne (by omega), up_ne (by omega), up_ne (by omega), up_ne (by omega), up_ne (by omega), up_eq]
      have x5 : X 0 5 = -1 := by rw [← hX, up_ne (by omega), up_ne (by omega), up_ne (by omega), up_ne (by omega), up_ne (by omega), up_ne (by omega), up_ne (by omega), up_ne (by omega), up_ne (by omega), up_ne (by omega), up_eq]
      have x24 : X 0 24 = 0 := by rw [← hX, up_ne (by omega), up_ne (by omega), up_ne (by omega), up_ne (by omega), up_ne (by omega), up_ne (by omega), up_ne (by omega), up_ne (by omega), up_eq]
      have x25 : X 0 25 = 0 := by rw [← hX, up_ne (by omega), up_ne (by omega), up_ne (by omega), up_ne (by omega), up_ne (by omega), up_ne (by omega), up_ne (by omega), up_eq]
      have x26 : X 0 26 = 0 := by rw [← hX, up_ne (by omega), up_ne (by omega), up_ne (by omega), up_ne (by omega), up_ne (by omega), up_ne (by omega), up_eq]
      have x27 : X 0 27 = 0 := by rw [← hX, up_ne (by omega), up_ne (by omega), up_ne (by omega), up_ne (by omega), up_ne (by omega), up_eq]
      have x28 : X 0 28 = 0 := by rw [← hX, up_ne (by omega), up_ne (by omega), up_ne (by omega), up_ne (by omega), up_eq]
      have x29 : X 0 29 = 0 := by rw [← hX, up_ne (by omega), up_ne (by omega), up_ne (by omega), up_eq]
      have x30 : X 0 30 = 0 := by rw [← hX, up_ne (by omega), up_ne (by omega), up_eq]
      have x31 : X 0 31 = 20 := by rw [← hX, up_ne (by omega), up_eq]
      have x32 : X 0 32 = 0 := by rw [← hX, up_eq]
      refine wp_cv (m_clr 100 0 N X (by omega) (by omega) (fun c hc => by omega)) ?_
      rintro Y ⟨z1, z2⟩
      have hP : MT T n Y := ⟨(z2 0 3 (by omega) (by omega)).trans x3, fun i hi => by rw [z2 2 i (by omega) (by omega), xo 2 i (by omega)]; exact (t4 i (by omega)).2.2⟩
      have hS : StM n (.ok 0) Y := ⟨by omega, (z2 0 5 (by omega) (by omega)).trans x5, (z2 0 4 (by omega) (by omega)).trans x4⟩
      have hR : RN V00 Y := ⟨⟨(z2 0 24 (by omega) (by omega)).trans x24, (z2 0 25 (by omega) (by omega)).trans x25, (z2 0 31 (by omega) (by omega)).trans x31, (z2 0 32 (by omega) (by omega)).trans x32⟩, ⟨(z2 0 27 (by omega) (by omega)).trans x27, (z2 0 28 (by omega) (by omega)).trans x28, (z2 0 29 (by omega) (by omega)).trans x29, (z2 0 26 (by omega) (by omega)).trans x26, (z2 0 30 (by omega) (by omega)).trans x30⟩, z1, fun j hj => absurd hj (show ¬ ((j : Int) < 0 * 5) by omega), fun i hi => absurd hi (show ¬ ((i : Int) < 0) by omega), fun j hj => absurd hj (show ¬ ((j : Int) < 0 * 2) by omega), fun i hi => absurd hi (show ¬ ((i : Int) < 0) by omega), fun i hi => absurd hi (show ¬ ((i : Int) < 0) by omega)⟩
      refine m_pl (by omega) hT 60 0 N V00 0 Y (by omega) (by omega) hP hS hR V00_X (fun _ => rfl) (fun M' q1 q2 q3 => hQ M' q1 q3 (fun a b w1 w2 => ?_) ?_)
      · rw [q2 a b w1 (by omega), z2 a b (by omega) (by omega), xo a b (by omega)]
      · rw [q2 0 2 (by omega) (by omega), z2 0 2 (by omega) (by omega), x2]
    have hIR : ∀ (V' : VL) (A B : am_M) (f : Int32), (∀ a b, (a = 0 ∧ (b = 3 ∨ b = 4 ∨ b = 5)) ∨ (a = 51 ∧ b = 6) → A a b = Mc a b) → A 0 1 = 0 → A 0 2 = f → B 0 8 = f → B 0 2 = 0 → (∀ b, B 1 b = M00 Mm 1 b) → rdK A → (∃ I' ni', imR V' I' ni' A B) → IR V' A B := by
      intro V' A B f q1 q2 q3 q4 q5 q6 q7 q8
      obtain ⟨I', ni', q8⟩ := q8
      refine ⟨T, 0, I', ni', ⟨by omega, q2, q5, fun i hi => by omega⟩, ⟨q3.trans q4.symm, ?_, ?_, ?_, (q1 51 6 (by omega)).trans c5⟩, q8, q7⟩
      · rw [q1 0 3 (by omega), q6]; exact c2
      · rw [q1 0 4 (by omega), q6]; exact c3
      · rw [q1 0 5 (by omega), q6]; exact c4
    generalize hst : (pl T n 61 0 V00 0).2 = st at hS1 hR1 hpv mm
    generalize hVV : (pl T n 61 0 V00 0).1 = V' at hR1 hpv mm
    cases st with
    | error e =>
      obtain ⟨s1, s2, s3, s4, a, s5, s6⟩ := hS1
      rw [s3, s4, if_neg (fun q => by have := (i32_eq0 (by omega) (by omega)).mp q; omega)]
      have m1 : wp (f_X10_valley_23 N (i32 (n : Int)) 1 (M00 Mm)) (rI fun v M' => v = i32 (e.1 : Int) - 10 ∧ ((∀ a b, (a < 3 ∨ 9 < a) → (a ≠ 0 ∨ (b ≠ 2 ∧ b ≠ 3 ∧ b ≠ 4 ∧ b ≠ 5 ∧ b ≠ 6 ∧ b ≠ 7 ∧ b ≠ 8 ∧ (b < 24 ∨ 32 < b))) → M' a b = M00 Mm a b) ∧ M' 0 2 = 0 ∧ M' 0 8 = i32 (e.2 : Int))) := by
        refine mm (fun M' q1 q2 q3 q4 => ?_)
        obtain ⟨y1, y2, y3, y4, b, y5, y6⟩ := q1
        have hS' : StM n (.error e) (am_up M' 0 8 (M' 0 5)) := ⟨y1, y2, (up_ne (by omega)).trans y3, (up_ne (by omega)).trans y4, b, y5, (up_ne (by omega)).trans y6⟩
        unfold f_X10_valley_181 f_X10_result
        rw [m_fine hS' hT.1, am_bi_i, show stI (.error e : ST) = 0 from rfl, if_pos rfl, am_bi_i, show am_up M' 0 8 (M' 0 5) 0 6 = M' 0 6 from up_ne (by omega), y3, show am_up M' 0 8 (M' 0 5) 0 5 = M' 0 5 from up_ne (by omega), y4]
        refine wp_ng (fun q => by have := (i32_eq (b := -1) (by omega) (by omega) (by omega) (by omega)).mp q; omega) (wp_i ⟨rfl, fun a b w1 w2 => ?_, ?_, ?_⟩)
        · rw [up_ne (by omega)]; exact q3 a b w1 w2
        · rw [up_ne (by omega)]; exact q4
        · rw [up_eq]
      obtain ⟨v2, M2, e2, rfl, f2, g2, h2⟩ := wp_vi m1
      rw [e2]
      refine ⟨_, _, _, _, rfl, rfl, ⟨V, hV, hC1.of (fun a b w => up_ne (by omega)), hMz.of (fun a b w => f2 a b (by omega) (by omega)), hF.z.of (fun a b w => f2 a b (by omega) (by omega)), ?_⟩, Or.inl ⟨rfl, (f2 0 0 (by omega) (by omega)).trans M00_0⟩⟩
      refine hIR V _ M2 (i32 (e.2 : Int)) (fun a b w => (up_ne (by omega)).trans (hl a b (by omega) (by omega))) ((up_ne (by omega)).trans hl1) (up_eq _ _ _ _) h2 g2 (fun b => f2 1 b (by omega) (by omega)) ?_ ⟨I, ni, i1, ?_, (f2 0 65 (by omega) (by omega)).trans i3, fun k hk => ⟨(i4 k hk).1, (i4 k hk).2.1.fr (by omega) (fun a b w => (up_ne (by omega)).trans (hl a b (by omega) (by omega))), (i4 k hk).2.2.fr (fun b => f2 28 b (by omega) (by omega))⟩⟩
      · obtain ⟨r1, r2, r3, r4, r5, r6⟩ := hK1
        exact ⟨⟨(up_ne (by omega)).trans r1.1, (up_ne (by omega)).trans r1.2⟩, ⟨(up_ne (by omega)).trans r2.1, (up_ne (by omega)).trans r2.2⟩, ⟨(up_ne (by omega)).trans r3.1, (up_ne (by omega)).trans r3.2⟩, ⟨(up_ne (by omega)).trans r4.1, (up_ne (by omega)).trans r4.2⟩, ⟨(up_ne (by omega)).trans r5.1, (up_ne (by omega)).trans r5.2⟩, ⟨(up_ne (by omega)).trans r6.1, (up_ne (by omega)).trans r6.2⟩⟩
      · rw [up_ne (by omega), hl 0 10 (by omega) (by omega)]; exact i2
    | ok b =>
      obtain ⟨hV', hZ'⟩ := hpv b rfl
      have hR1' := hR1 ⟨b, rfl⟩
      have hns' := hV'.ns
      obtain ⟨s1, s2, s3, s4⟩ := hS1
      rw [s3, if_pos s2]
      obtain ⟨M3, e3, k3⟩ := c_take (N := N) (am_up M1 0 2 (-1))
      obtain ⟨M4, e4, k4⟩ := tk_13_30 (N := N) M3
      rw [e3, am_bv_v, e4, am_bv_v]
      have hRC : RC V' M4 := RC_take (M0 := Mc) hV' (hC1.of (fun a b w => up_ne (by omega)) : RC V (am_up M1 0 2 (-1))) (RC.of hR1' (fun a b w => up_ne (by omega)) : RR V' (am_up M1 0 2 (-1))) k3 k4
      have h33 : M4 3 3 = i32 (V' 0 5) := hRC.2.2.1.2.2.1
      rw [h33]
      have hM4 : ∀ a b, (a < 2 ∨ 17 < a) → (a ≠ 0 ∨ b ≠ 2) → M4 a b = M1 a b := fun a b w1 w2 => by
        rw [k4.2.2.2.2 a b (by omega) (by omega) (by omega) (by omega) (by omega), k3.2.2.2.2.2.2 a b (by omega) (by omega) (by omega) (by omega) (by omega) (by omega) (by omega), up_ne w2]
      have hM42 : M4 0 2 = -1 := by
        rw [k4.2.2.2.2 0 2 (by omega) (by omega) (by omega) (by omega) (by omega), k3.2.2.2.2.2.2 0 2 (by omega) (by omega) (by omega) (by omega) (by omega) (by omega) (by omega), up_eq]
      have m1 : wp (f_X10_valley_23 N (i32 (n : Int)) 1 (M00 Mm)) (rI fun v M' => v = i32 (V' 0 5) ∧ (RT V' M' ∧ RF V' M' ∧ M' 0 65 = 0 ∧ M' 0 2 = 0 ∧ M' 0 8 = -1 ∧ M' 0 0 = 0 ∧ ∀ b, M' 1 b = M00 Mm 1 b)) := by
        refine mm (fun M' q1 q2 q3 q4 => ?_)
        obtain ⟨y1, y2, y3⟩ := q1
        have hRN := q2 ⟨b, rfl⟩
        have hS' : StM n (.ok b) (am_up M' 0 8 (M' 0 5)) := ⟨y1, (up_ne (by omega)).trans y2, (up_ne (by omega)).trans y3⟩
        unfold f_X10_valley_181 f_X10_result
        rw [m_fine hS' hT.1, am_bi_i, show stI (.ok b : ST) = 1 from rfl, if_neg (show ¬ ((1 : Int32) = 0) by decide), am_bi_i, up_ne (by omega), y2, hRN.2.1.1, if_pos rfl]
        refine wp_cv (m_sets (by omega) hV' hZ' (hRN.of (fun a b w => up_ne (by omega))) (fun c hc => by rw [up_ne (by omega), q3 21 c (by omega) (by omega)]; exact (hF.z c hc).2)) ?_
        rintro M5 ⟨z1, z2, z3, z4⟩
        refine wp_i ⟨rfl, z1, z2, z3, ?_, ?_, ?_, fun b' => ?_⟩
        · rw [z4 0 2 (by omega) (by omega), up_ne (by omega)]; exact q4
        · rw [z4 0 8 (by omega) (by omega), up_eq]
        · rw [z4 0 0 (by omega) (by omega), up_ne (by omega), q3 0 0 (by omega) (by omega)]; exact M00_0
        · rw [z4 1 b' (by omega) (by omega), up_ne (by omega), q3 1 b' (by omega) (by omega)]
      obtain ⟨v2, M2, e2, rfl, z1, z2, z3, z5, z6, z7, z8⟩ := wp_vi m1
      rw [e2]
      refine ⟨_, _, _, _, rfl, rfl, ⟨V', hV', hRC.of (fun a b w => up_ne (by omega)), z1, z2, ?_⟩, Or.inl ⟨rfl, z7⟩⟩
      refine hIR V' _ M2 (-1) (fun a b w => by rw [up_ne (by omega), hM4 a b (by omega) (by omega)]; exact hl a b (by omega) (by omega)) (by rw [up_ne (by omega), hM4 0 1 (by omega) (by omega)]; exact hl1) (by rw [up_ne (by omega)]; exact hM42) z6 z5 z8 ?_ ⟨I, 0, by omega, up_eq _ _ _ _, z3, fun k hk => by omega⟩
      obtain ⟨r1, r2, r3, r4, r5, r6⟩ := hK1
      have u : ∀ a b, 17 < a → am_up M4 0 10 0 a b = M1 a b := fun a b w => by rw [up_ne (by omega), hM4 a b (by omega) (by omega)]
      exact ⟨⟨(u _ _ (by omega)).trans r1.1, (u _ _ (by omega)).trans r1.2⟩, ⟨(u _ _ (by omega)).trans r2.1, (u _ _ (by omega)).trans r2.2⟩, ⟨(u _ _ (by omega)).trans r3.1, (u _ _ (by omega)).trans r3.2⟩, ⟨(u _ _ (by omega)).trans r4.1, (u _ _ (by omega)).trans r4.2⟩, ⟨(u _ _ (by omega)).trans r5.1, (u _ _ (by omega)).trans r5.2⟩, ⟨(u _ _ (by omega)).trans r6.1, (u _ _ (by omega)).trans r6.2⟩⟩
end VA
