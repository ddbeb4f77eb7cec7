/-! calls that change the valley, the images, the tape -/
section OB
variable {N : Nat} {V : VL} {Mc Mm : am_M}
theorem OP0.set {o1 o2 : am_O} {X1 X2 : am_M} {w : Int32} (h1 : wp o1 (rI fun v M' => v = w ∧ M' = X1)) (h2 : wp o2 (rI fun v M' => v = w ∧ M' = X2)) (hi : Inv X1 X2) : OP0 o1 o2 := by
  obtain ⟨v1, M1, e1, rfl, rfl⟩ := wp_vi h1
  obtain ⟨v2, M2, e2, rfl, rfl⟩ := wp_vi h2
  exact ⟨_, _, _, e1, e2, hi⟩
theorem OP1.set {o1 o2 : am_O} {X1 X2 : am_M} {w : Int32} {x1 : Nat} (h1 : wp o1 (rI fun v M' => v = w ∧ M' = X1)) (h2 : wp o2 (rI fun v M' => v = w ∧ M' = X2)) (hi : Inv X1 X2) (h0 : X2 0 0 = 0) : OP1 o1 o2 x1 := by
  obtain ⟨v1, M1, e1, rfl, rfl⟩ := wp_vi h1
  obtain ⟨v2, M2, e2, rfl, rfl⟩ := wp_vi h2
  exact ⟨_, _, _, _, e1, e2, hi, Or.inl ⟨rfl, h0⟩⟩
theorem OP2.set {o1 o2 : am_O} {X1 X2 : am_M} {w : Int32} {x1 x2 : Nat} (h1 : wp o1 (rI fun v M' => v = w ∧ M' = X1)) (h2 : wp o2 (rI fun v M' => v = w ∧ M' = X2)) (hi : Inv X1 X2) (h0 : X2 0 0 = 0) : OP2 o1 o2 x1 x2 := by
  obtain ⟨v1, M1, e1, rfl, rfl⟩ := wp_vi h1
  obtain ⟨v2, M2, e2, rfl, rfl⟩ := wp_vi h2
  exact ⟨_, _, _, _, e1, e2, hi, Or.inl ⟨rfl, h0⟩⟩
theorem op_build (hN : 4200 ≤ N) (h : Inv Mc Mm) (p1 p2 : Int32) : OP1 (f_X9_build N p1 p2 Mc) (f_X10_build N p1 p2 Mm) 0 := by
  obtain ⟨V, hV, hC, hM, hF, hI⟩ := h
  have hw := hV.1.1
  have hh := hV.1.2.1
  have hns := hV.ns
  have hMz := hM.z
  have hE := hM.z.EM hV.1 hF.z
  unfold f_X9_build f_X10_build
  rw [show am_up Mm 0 0 0 = M00 Mm from rfl]
  rcases cell_cs (N := N) hV hC hM p1 p2 with ⟨c1, m1, x, y, rfl, rfl, hx, hy⟩ | ⟨c1, m1⟩
  rotate_left
  · rw [c1, am_bvx_x, m1, am_bi_i, if_pos rfl]
    exact OP1.bad hV hC hM hF hI (k := 0) (by omega) rfl rfl
  rw [c1, am_bvx_v, m1, am_bi_i, if_neg (show ¬ ((1 : Int32) = 0) by decide)]
  rw [cellI, c_cellOf, am_bi_i]
  have hc : 0 ≤ 10 * y + x ∧ 10 * y + x < 100 := by omega
  generalize 10 * y + x = c at hc
  have b6 := (hV.1.2.2.2 c.toNat (by omega)).1
  rw [i32_cl (by omega) (by omega), (hC.1.2.2.2 c.toNat (by omega)).1, (hF.z c.toNat (by omega)).1]
  by_cases h0 : V 6 c.toNat = 0
  · refine OP1.set (w := 1) (X1 := am_up Mc 14 c.toNat 5) (X2 := am_up (M00 Mm) 10 c.toNat 5) (wp_gd (i32_in (by omega) (by omega) (by omega)) (wp_gd ((i32_eq0 (by omega) (by omega)).mpr h0) (wp_gd (i32_in (by omega) (by omega) (by omega)) (wp_i ⟨rfl, rfl⟩)))) (wp_gd (i32_in (by omega) (by omega) (by omega)) (wp_gd ((i32_le0 (by omega) (by omega)).mpr (by omega)) (wp_gd (i32_in (by omega) (by omega) (by omega)) (wp_i ⟨rfl, rfl⟩)))) ?_ (by rw [up_ne (by omega)]; exact M00_0)
    have e6 : ∀ d, setC V 6 c.toNat 5 6 d = if d = c.toNat then 5 else V 6 d := by
      intro d
      unfold setC
      by_cases hd : d = c.toNat
      · rw [if_pos ⟨rfl, hd⟩, if_pos hd]
      · rw [if_neg (fun z => hd z.2), if_neg hd]
    have g := hV
    refine ⟨setC V 6 c.toNat 5, ⟨⟨g.1.1, g.1.2.1, g.1.2.2.1, fun d hd => ⟨?_, (g.1.2.2.2 d hd).2⟩⟩, g.2⟩, ?_, (hMz.of (fun a b w => up_ne (by omega)) : RT V _), fun d hd => ⟨?_, ?_⟩, ?_⟩
    · rw [e6]; have := (g.1.2.2.2 d hd).1; split <;> omega
    · obtain ⟨r1, r2, r3, r4, r5, r6, r7, r8⟩ := hC
      refine ⟨⟨(up_ne (by omega)).trans r1.1, (up_ne (by omega)).trans r1.2.1, (up_ne (by omega)).trans r1.2.2.1, fun d hd => ⟨?_, (up_ne (by omega)).trans (r1.2.2.2 d hd).2⟩⟩, ⟨(up_ne (by omega)).trans r2.1, (up_ne (by omega)).trans r2.2⟩, r3.of (fun a b w => up_ne (by omega)), r4.of (fun a b w => up_ne (by omega)), r5.of (fun a b w => up_ne (by omega)), r6.of (fun a b w => up_ne (by omega)), r7.of (fun a b w => up_ne (by omega)), r8.of (fun a b w => up_ne (by omega))⟩
      rw [e6]
      by_cases hd2 : d = c.toNat
      · rw [if_pos hd2, hd2, up_eq]; rfl
      · rw [if_neg hd2, up_ne (by omega)]; exact (r1.2.2.2 d hd).1
    · rw [e6]
      by_cases hd2 : d = c.toNat
      · rw [if_pos hd2, hd2, up_eq]; rfl
      · rw [if_neg hd2, up_ne (by omega)]; exact (hF.z d hd).1
    · rw [up_ne (by omega)]; exact (hF.z d hd).2
    · refine (hI.z.fr (fun a b w => up_ne (by omega)) (fun a b w => up_ne (by omega))).vv (fun a b w => ?_)
      unfold setC
      rw [if_neg (by omega)]
  · refine OP1.set (w := 0) (X1 := Mc) (X2 := M00 Mm) (wp_gd (i32_in (by omega) (by omega) (by omega)) (wp_ng (fun q => h0 ((i32_eq0 (by omega) (by omega)).mp q)) (wp_i ⟨rfl, rfl⟩))) (wp_gd (i32_in (by omega) (by omega) (by omega)) (wp_ng (fun q => h0 (by have := (i32_le0 (by omega) (by omega)).mp q; omega)) (wp_i ⟨rfl, rfl⟩))) ⟨V, hV, hC, hMz, hF.z, hI.z⟩ M00_0
theorem op_fell (hN : 4200 ≤ N) (h : Inv Mc Mm) (p1 p2 : Int32) : OP1 (f_X9_fell N p1 p2 Mc) (f_X10_fell N p1 p2 Mm) 0 := by
  obtain ⟨V, hV, hC, hM, hF, hI⟩ := h
  have hw := hV.1.1
  have hh := hV.1.2.1
  have hns := hV.ns
  have hMz := hM.z
  have hE := hM.z.EM hV.1 hF.z
  unfold f_X9_fell f_X10_fell
  rw [show am_up Mm 0 0 0 = M00 Mm from rfl]
  rcases cell_cs (N := N) hV hC hM p1 p2 with ⟨c1, m1, x, y, rfl, rfl, hx, hy⟩ | ⟨c1, m1⟩
  rotate_left
  · rw [c1, am_bvx_x, m1, am_bi_i, if_pos rfl]
    exact OP1.bad hV hC hM hF hI (k := 0) (by omega) rfl rfl
  rw [c1, am_bvx_v, m1, am_bi_i, if_neg (show ¬ ((1 : Int32) = 0) by decide)]
  rw [cellI, c_cellOf, am_bi_i]
  have hc : 0 ≤ 10 * y + x ∧ 10 * y + x < 100 := by omega
  generalize 10 * y + x = c at hc
  rw [i32_cl (by omega) (by omega), (hC.1.2.2.2 c.toNat (by omega)).2, hMz.2.2.1 c.toNat (by omega)]
  refine OP1.set (w := i32 (V 7 c.toNat)) (X1 := am_up Mc 15 c.toNat 0) (X2 := am_up (M00 Mm) 11 c.toNat 0) (wp_gd (i32_in (by omega) (by omega) (by omega)) (wp_i ⟨rfl, rfl⟩)) (wp_gd (i32_in (by omega) (by omega) (by omega)) (wp_i ⟨rfl, rfl⟩)) ?_ (by rw [up_ne (by omega)]; exact M00_0)
  have e7 : ∀ d, setC V 7 c.toNat 0 7 d = if d = c.toNat then 0 else V 7 d := by
    intro d
    unfold setC
    by_cases hd : d = c.toNat
    · rw [if_pos ⟨rfl, hd⟩, if_pos hd]
    · rw [if_neg (fun z => hd z.2), if_neg hd]
  have g := hV
  refine ⟨setC V 7 c.toNat 0, ⟨⟨g.1.1, g.1.2.1, g.1.2.2.1, fun d hd => ⟨(g.1.2.2.2 d hd).1, ?_⟩⟩, g.2⟩, ?_, ?_, fun d hd => ⟨(up_ne (by omega)).trans (hF.z d hd).1, (up_ne (by omega)).trans (hF.z d hd).2⟩, ?_⟩
  · rw [e7]; have := (g.1.2.2.2 d hd).2; split <;> omega
  · obtain ⟨r1, r2, r3, r4, r5, r6, r7, r8⟩ := hC
    refine ⟨⟨(up_ne (by omega)).trans r1.1, (up_ne (by omega)).trans r1.2.1, (up_ne (by omega)).trans r1.2.2.1, fun d hd => ⟨(up_ne (by omega)).trans (r1.2.2.2 d hd).1, ?_⟩⟩, ⟨(up_ne (by omega)).trans r2.1, (up_ne (by omega)).trans r2.2⟩, r3.of (fun a b w => up_ne (by omega)), r4.of (fun a b w => up_ne (by omega)), r5.of (fun a b w => up_ne (by omega)), r6.of (fun a b w => up_ne (by omega)), r7.of (fun a b w => up_ne (by omega)), r8.of (fun a b w => up_ne (by omega))⟩
    rw [e7]
    by_cases hd2 : d = c.toNat
    · rw [if_pos hd2, hd2, up_eq]; rfl
    · rw [if_neg hd2, up_ne (by omega)]; exact (r1.2.2.2 d hd).2
  · obtain ⟨r1, r2, r3, r4, r5, r6, r7, r8, r9⟩ := hMz
    have u : ∀ a b, a ≠ 11 → am_up (M00 Mm) 11 c.toNat 0 a b = M00 Mm a b := fun a b w => up_ne (by omega)
    refine ⟨⟨(u _ _ (by omega)).trans r1.1, (u _ _ (by omega)).trans r1.2.1, (u _ _ (by omega)).trans r1.2.2.1, (u _ _ (by omega)).trans r1.2.2.2.1, (u _ _ (by omega)).trans r1.2.2.2.2⟩, ⟨(u _ _ (by omega)).trans r2.1, (u _ _ (by omega)).trans r2.2.1, (u _ _ (by omega)).trans r2.2.2.1, (u _ _ (by omega)).trans r2.2.2.2.1, (u _ _ (by omega)).trans r2.2.2.2.2.1, (u _ _ (by omega)).trans r2.2.2.2.2.2⟩, fun d hd => ?_, fun j hj => (u _ _ (by omega)).trans (r4 j hj), fun i hi => ⟨(u _ _ (by omega)).trans (r5 i hi).1, (u _ _ (by omega)).trans (r5 i hi).2⟩, fun j hj => (u _ _ (by omega)).trans (r6 j hj), fun i hi => ⟨(u _ _ (by omega)).trans (r7 i hi).1, (u _ _ (by omega)).trans (r7 i hi).2⟩, fun i hi => (u _ _ (by omega)).trans (r8 i hi), fun i hi => ⟨(u _ _ (by omega)).trans (r9 i hi).1, (u _ _ (by omega)).trans (r9 i hi).2.1, (u _ _ (by omega)).trans (r9 i hi).2.2⟩⟩
    rw [e7]
    by_cases hd2 : d = c.toNat
    · rw [if_pos hd2, hd2, up_eq]; rfl
    · rw [if_neg hd2, up_ne (by omega)]; exact r3 d hd
  · refine (hI.z.fr (fun a b w => up_ne (by omega)) (fun a b w => up_ne (by omega))).vv (fun a b w => ?_)
    unfold setC
    rw [if_neg (by omega)]
theorem op_years (hN : 4200 ≤ N) (h : Inv Mc Mm) (p1 : Int32) : OP1 (f_X9_years N p1 Mc) (f_X10_years N p1 Mm) 2 := by
  obtain ⟨V, hV, hC, hM, hF, hI⟩ := h
  have hw := hV.1.1
  have hh := hV.1.2.1
  have hns := hV.ns
  have hMz := hM.z
  have hE := hM.z.EM hV.1 hF.z
  unfold f_X9_years f_X10_years
  rw [show am_up Mm 0 0 0 = M00 Mm from rfl]
  rcases (bt_0_20 p1 Mc (M00 Mm) : BT N p1 0 20 0 20 Mc (M00 Mm)) with ⟨c2, m2, n, rfl, hn⟩ | ⟨c2, m2⟩
  rotate_left
  · rw [c2, am_bvx_x, m2, am_bi_i, m_mayb (by decide) M00_0, am_bi_i, if_pos rfl]
    exact OP1.bad hV hC hM hF hI (k := 2) (by omega) rfl rfl
  rw [c2, am_bvx_v, m2, am_bi_i, m_may1 M00_0, am_bi_i, if_neg (show ¬ ((1 : Int32) = 0) by decide)]
  have hy := hV.1.2.2.1
  rw [hC.1.2.2.1, hMz.1.2.2.2.2, i32_add, i32_20]
  have ec : (if i32 (V 0 4 + n) < i32 20 then i32 (V 0 4 + n) else i32 20) = i32 (if V 0 4 + n ≤ 20 then V 0 4 + n else 20) := by
    by_cases hl : V 0 4 + n < 20
    · rw [if_pos ((i32_lt (by omega) (by omega) (by omega) (by omega)).mpr hl), if_pos (by omega)]
    · rw [if_neg (fun q => hl ((i32_lt (by omega) (by omega) (by omega) (by omega)).mp q))]
      by_cases h2 : V 0 4 + n ≤ 20
      · rw [if_pos h2, show V 0 4 + n = 20 from by omega]
      · rw [if_neg h2]
  rw [ec]
  refine OP1.set (w := i32 (if V 0 4 + n ≤ 20 then V 0 4 + n else 20)) (X1 := am_up Mc 13 2 (i32 (if V 0 4 + n ≤ 20 then V 0 4 + n else 20))) (X2 := am_up (M00 Mm) 0 42 (i32 (if V 0 4 + n ≤ 20 then V 0 4 + n else 20))) (wp_i ⟨rfl, rfl⟩) ?_ ?_ (by rw [up_ne (by omega)]; exact M00_0)
  · by_cases h2 : V 0 4 + n ≤ 20
    · rw [if_pos h2]; exact wp_gd ((i32_le (by omega) (by omega) (by omega) (by omega)).mpr h2) (wp_i ⟨rfl, rfl⟩)
    · rw [if_neg h2]; exact wp_ng (fun q => h2 ((i32_le (by omega) (by omega) (by omega) (by omega)).mp q)) (wp_i ⟨rfl, rfl⟩)
  · generalize hv : (if V 0 4 + n ≤ 20 then V 0 4 + n else 20) = v
    have hvB : 0 ≤ v ∧ v ≤ 20 := by rw [← hv]; split <;> omega
    have g := hV
    refine ⟨set0 V 4 v, ⟨⟨g.1.1, g.1.2.1, hvB, g.1.2.2.2⟩, g.2⟩, ?_, ?_, fun d hd => ⟨(up_ne (by omega)).trans (hF.z d hd).1, (up_ne (by omega)).trans (hF.z d hd).2⟩, ?_⟩
    · obtain ⟨r1, r2, r3, r4, r5, r6, r7, r8⟩ := hC
      exact ⟨⟨(up_ne (by omega)).trans r1.1, (up_ne (by omega)).trans r1.2.1, up_eq _ _ _ _, fun d hd => ⟨(up_ne (by omega)).trans (r1.2.2.2 d hd).1, (up_ne (by omega)).trans (r1.2.2.2 d hd).2⟩⟩, ⟨(up_ne (by omega)).trans r2.1, (up_ne (by omega)).trans r2.2⟩, r3.of (fun a b w => up_ne (by omega)), r4.of (fun a b w => up_ne (by omega)), r5.of (fun a b w => up_ne (by omega)), r6.of (fun a b w => up_ne (by omega)), r7.of (fun a b w => up_ne (by omega)), r8.of (fun a b w => up_ne (by omega))⟩
    · obtain ⟨r1, r2, r3, r4, r5, r6, r7, r8, r9⟩ := hMz
      have u : ∀ a b, (a ≠ 0 ∨ b ≠ 42) → am_up (M00 Mm) 0 42 (i32 v) a b = M00 Mm a b := fun a b w => up_ne w
      exact ⟨⟨(u _ _ (by omega)).trans r1.1, (u _ _ (by omega)).trans r1.2.1, (u _ _ (by omega)).trans r1.2.2.1, (u _ _ (by omega)).trans r1.2.2.2.1, up_eq _ _ _ _⟩, ⟨(u _ _ (by omega)).trans r2.1, (u _ _ (by omega)).trans r2.2.1, (u _ _ (by omega)).trans r2.2.2.1, (u _ _ (by omega)).trans r2.2.2.2.1, (u _ _ (by omega)).trans r2.2.2.2.2.1, (u _ _ (by omega)).trans r2.2.2.2.2.2⟩, fun d hd => (u _ _ (by omega)).trans (r3 d hd), fun j hj => (u _ _ (by omega)).trans (r4 j hj), fun i hi => ⟨(u _ _ (by omega)).trans (r5 i hi).1, (u _ _ (by omega)).trans (r5 i hi).2⟩, fun j hj => (u _ _ (by omega)).trans (r6 j hj), fun i hi => ⟨(u _ _ (by omega)).trans (r7 i hi).1, (u _ _ (by omega)).trans (r7 i hi).2⟩, fun i hi => (u _ _ (by omega)).trans (r8 i hi), fun i hi => ⟨(u _ _ (by omega)).trans (r9 i hi).1, (u _ _ (by omega)).trans (r9 i hi).2.1, (u _ _ (by omega)).trans (r9 i hi).2.2⟩⟩
    · refine (hI.z.fr (fun a b w => up_ne (by omega)) (fun a b w => up_ne (by omega))).vv (fun a b w => ?_)
      unfold set0
      rw [if_neg (by omega)]
theorem op_forget (h : Inv Mc Mm) : OP0 (f_X9_forget N Mc) (f_X10_forget N Mm) := by
  obtain ⟨V, hV, hC, hM, hF, hI⟩ := h
  have hMz := hM.z
  unfold f_X9_forget f_X10_forget
  rw [show am_up Mm 0 0 0 = M00 Mm from rfl, show Mc 16 3 = i32 (V 0 10) from hC.2.2.2.2.2.2.2.2.2.1, hM.2.1.2.2.2.2.2]
  refine OP0.set (wp_i ⟨rfl, rfl⟩) (wp_i ⟨rfl, rfl⟩) ?_
  have g := hV
  refine ⟨set0 V 10 0, ⟨g.1, g.2.1, ⟨g.2.2.1.1, g.2.2.1.2.1, g.2.2.1.2.2.1, g.2.2.1.2.2.2.1, g.2.2.1.2.2.2.2.1, Int.le_refl 0, (by decide : (0 : Int) ≤ 9)⟩, g.2.2.2.1, g.2.2.2.2.1, g.2.2.2.2.2.1, g.2.2.2.2.2.2.1, g.2.2.2.2.2.2.2.1, fun i hi => absurd hi (show ¬ ((i : Int) < 0) by omega)⟩, ?_, ?_, fun d hd => ⟨(up_ne (by omega)).trans (hF.z d hd).1, (up_ne (by omega)).trans (hF.z d hd).2⟩, ?_⟩
  · obtain ⟨r1, r2, r3, r4, r5, r6, r7, r8⟩ := hC
    exact ⟨(r1.of (fun a b w => up_ne (by omega)) : EC V _), ⟨(up_ne (by omega)).trans r2.1, (up_ne (by omega)).trans r2.2⟩, r3.of (fun a b w => up_ne (by omega)), r4.of (fun a b w => up_ne (by omega)), r5.of (fun a b w => up_ne (by omega)), r6.of (fun a b w => up_ne (by omega)), r7.of (fun a b w => up_ne (by omega)), ⟨(up_ne (by omega)).trans r8.1, (up_ne (by omega)).trans r8.2.1, up_eq _ _ _ _, fun j hj => absurd hj (show ¬ ((j : Int) < 0 * 4) by omega)⟩⟩
  · obtain ⟨r1, r2, r3, r4, r5, r6, r7, r8, r9⟩ := hMz
    have u : ∀ a b, (a ≠ 0 ∨ b ≠ 60) → am_up (M00 Mm) 0 60 0 a b = M00 Mm a b := fun a b w => up_ne w
    exact ⟨⟨(u _ _ (by omega)).trans r1.1, (u _ _ (by omega)).trans r1.2.1, (u _ _ (by omega)).trans r1.2.2.1, (u _ _ (by omega)).trans r1.2.2.2.1, (u _ _ (by omega)).trans r1.2.2.2.2⟩, ⟨(u _ _ (by omega)).trans r2.1, (u _ _ (by omega)).trans r2.2.1, (u _ _ (by omega)).trans r2.2.2.1, (u _ _ (by omega)).trans r2.2.2.2.1, (u _ _ (by omega)).trans r2.2.2.2.2.1, up_eq _ _ _ _⟩, fun d hd => (u _ _ (by omega)).trans (r3 d hd), fun j hj => (u _ _ (by omega)).trans (r4 j hj), fun i hi => ⟨(u _ _ (by omega)).trans (r5 i hi).1, (u _ _ (by omega)).trans (r5 i hi).2⟩, fun j hj => (u _ _ (by omega)).trans (r6 j hj), fun i hi => ⟨(u _ _ (by omega)).trans (r7 i hi).1, (u _ _ (by omega)).trans (r7 i hi).2⟩, fun i hi => (u _ _ (by omega)).trans (r8 i hi), fun i hi => absurd hi (show ¬ ((i : Int) < 0) by omega)⟩
  · refine (hI.z.fr (fun a b w => up_ne (by omega)) (fun a b w => up_ne (by omega))).vv (fun a b w => ?_)
    unfold set0
    rw [if_neg (by omega)]
theorem c_opn16 {k : Int} {M : am_M} (hk : 0 ≤ k ∧ k < 9) (h3 : M 16 3 = i32 k) (h2 : M 16 2 = i32 9) : f_X8_open_16 N M = some (.ok (some (.int (i32 k))), am_up M 16 3 (i32 (k + 1))) := by
  unfold f_X8_open_16 f_X8_isFull_16
  rw [h3, h2, if_pos ((i32_lt (by omega) (by omega) (by omega) (by omega)).mpr (by omega)), am_bi_i, if_pos rfl, h3, i32_1, i32_add, i32_sub, show k + 1 - 1 = k from by omega]
theorem c_put16 {k c : Int} {v : Int32} {M : am_M} (hk : 0 ≤ k ∧ k < 9) (hc : 0 ≤ c ∧ c < 4) (h3 : M 16 3 = i32 (k + 1)) (h1 : M 16 1 = i32 4) : f_X8_put_16 N (i32 k) (i32 c) v M = some (.ok none, am_up M 17 (4 * k.toNat + c.toNat) v) := by
  unfold f_X8_put_16 f_X8_has_16
  rw [if_neg (fun q => absurd ((i32_lt0 (by omega) (by omega)).mp q) (by omega)), h3, if_neg (fun q => absurd ((i32_le (by omega) (by omega) (by omega) (by omega)).mp q) (by omega)), if_neg (fun q => absurd ((i32_lt0 (by omega) (by omega)).mp q) (by omega)), h1, if_neg (fun q => absurd ((i32_le (by omega) (by omega) (by omega) (by omega)).mp q) (by omega)), am_bi_i, if_neg (by decide), h1, i32_mul, i32_add, if_pos (i32_in (by omega) (by omega) (by omega)), i32_cl (by omega) (by omega), show (k * 4 + c).toNat = 4 * k.toNat + c.toNat from by omega]
theorem op_book (hN : 4200 ≤ N) (h : Inv Mc Mm) (p1 p2 p3 p4 : Int32) : OP2 (f_X9_book N p1 p2 p3 p4 Mc) (f_X10_book N p1 p2 p3 p4 Mm) 0 2 := by
  obtain ⟨V, hV, hC, hM, hF, hI⟩ := h
  have hw := hV.1.1
  have hh := hV.1.2.1
  have hns := hV.ns
  have hMz := hM.z
  have hE := hM.z.EM hV.1 hF.z
  unfold f_X9_book f_X10_book
  rw [show am_up Mm 0 0 0 = M00 Mm from rfl]
  rcases cell_cs (N := N) hV hC hM p1 p2 with ⟨c1, m1, x, y, rfl, rfl, hx, hy⟩ | ⟨c1, m1⟩
  rotate_left
  · rw [c1, am_bvx_x, m1, am_bi_i, if_pos rfl]
    exact OP2.bad1 hV hC hM hF hI (k := 0) (by omega) rfl rfl
  rw [c1, am_bvx_v, m1, am_bi_i, if_neg (show ¬ ((1 : Int32) = 0) by decide)]
  rcases (bt_1_99 p3 Mc (M00 Mm) : BT N p3 1 99 1 99 Mc (M00 Mm)) with ⟨c2, m2, t, rfl, ht⟩ | ⟨c2, m2⟩
  rotate_left
  · rw [c2, am_bvx_x, m2, am_bi_i, if_pos rfl]
    unfold f_X10_book_41 f_X10_book_42
    rw [m_mayb (by decide) M00_0, am_bi_i, if_pos rfl]
    exact OP2.bad2 hV hC hM hF hI (k := 2) (by omega) rfl rfl
  rw [c2, am_bvx_v, m2, am_bi_i, if_neg (show ¬ ((1 : Int32) = 0) by decide)]
  rcases (bt_0_24 p4 Mc (M00 Mm) : BT N p4 0 24 0 24 Mc (M00 Mm)) with ⟨c3, m3, n, rfl, hn⟩ | ⟨c3, m3⟩
  rotate_left
  · rw [c3, am_bvx_x, m3, am_bi_i, if_pos rfl]
    unfold f_X10_book_41 f_X10_book_42
    rw [m_mayb (by decide) M00_0, am_bi_i, if_pos rfl]
    exact OP2.bad2 hV hC hM hF hI (k := 2) (by omega) rfl rfl
  rw [c3, am_bvx_v, m3, am_bi_i, if_neg (show ¬ ((1 : Int32) = 0) by decide)]
  unfold f_X10_book_42
  rw [m_may1 M00_0, am_bi_i, if_neg (show ¬ ((1 : Int32) = 0) by decide)]
  rw [cellI]
  have t0 : TbC 16 17 4 9 (V 0 10) (V 8) Mc := hC.2.2.2.2.2.2.2
  unfold f_X8_isFull_16
  rw [t0.2.2.1, t0.2.1, hMz.2.1.2.2.2.2.2]
  by_cases hfull : V 0 10 < 9
  · rw [if_pos ((i32_lt (by omega) (by omega) (by omega) (by omega)).mpr hfull), am_bi_i, if_pos rfl, c_opn16 (by omega) t0.2.2.1 t0.2.1, am_bi_i]
    rw [show (0 : Int32) = i32 0 from rfl, c_put16 (k := V 0 10) (c := 0) (by omega) (by omega) (up_eq _ _ _ _) (by rw [up_ne (by omega)]; exact t0.1), am_bv_v]
    rw [show (1 : Int32) = i32 1 from rfl, c_put16 (k := V 0 10) (c := 1) (by omega) (by omega) (by rw [up_ne (by omega), up_eq]) (by rw [up_ne (by omega), up_ne (by omega)]; exact t0.1), am_bv_v]
    rw [show (2 : Int32) = i32 2 from rfl, c_put16 (k := V 0 10) (c := 2) (by omega) (by omega) (by rw [up_ne (by omega), up_ne (by omega), up_eq]) (by rw [up_ne (by omega), up_ne (by omega), up_ne (by omega)]; exact t0.1), am_bv_v]
    rw [show (3 : Int32) = i32 3 from rfl, c_put16 (k := V 0 10) (c := 3) (by omega) (by omega) (by rw [up_ne (by omega), up_ne (by omega), up_ne (by omega), up_eq]) (by rw [up_ne (by omega), up_ne (by omega), up_ne (by omega), up_ne (by omega)]; exact t0.1), am_bv_v]
    rw [i32_mul, i32_add, i32_add, i32_add]
    rw [if_neg (fun q => by have := (i32_eq9 (by omega) (by omega)).mp q; omega), if_pos ⟨i32_in (by omega) (by omega) (by omega), i32_in (by omega) (by omega) (by omega), i32_in (by omega) (by omega) (by omega)⟩, i32_cl (by omega) (by omega), i32_cl (by omega) (by omega), i32_cl (by omega) (by omega), show (3 * V 0 10).toNat = 3 * (V 0 10).toNat from by omega, show (3 * V 0 10 + 1).toNat = 3 * (V 0 10).toNat + 1 from by omega, show (3 * V 0 10 + 2).toNat = 3 * (V 0 10).toNat + 2 from by omega]
    rw [show 4 * (V 0 10).toNat + (0 : Int).toNat = 4 * (V 0 10).toNat + 0 from rfl, show 4 * (V 0 10).toNat + (1 : Int).toNat = 4 * (V 0 10).toNat + 1 from rfl, show 4 * (V 0 10).toNat + (2 : Int).toNat = 4 * (V 0 10).toNat + 2 from rfl, show 4 * (V 0 10).toNat + (3 : Int).toNat = 4 * (V 0 10).toNat + 3 from rfl]
    refine OP2.set (w := i32 (V 0 10 + 1)) (wp_i ⟨by rw [up_ne (by omega), up_ne (by omega), up_ne (by omega), up_ne (by omega), up_eq], rfl⟩) (wp_i ⟨rfl, rfl⟩) ?_ (by rw [up_ne (by omega), up_ne (by omega), up_ne (by omega), up_ne (by omega)]; exact M00_0)
    have g := hV
    have e : ∀ i : Nat, (i : Int) < V 0 10 + 1 → i < (V 0 10).toNat ∨ i = (V 0 10).toNat := fun i hi => by omega
    have A0 : ∀ i, i < (V 0 10).toNat → apT V 8 10 4 [x, y, t, n] 8 (4 * i) = V 8 (4 * i) := fun i hi => apT_lo (by omega) (by omega)
    have A1 : ∀ i, i < (V 0 10).toNat → apT V 8 10 4 [x, y, t, n] 8 (4 * i + 1) = V 8 (4 * i + 1) := fun i hi => apT_lo (by omega) (by omega)
    have A2 : ∀ i, i < (V 0 10).toNat → apT V 8 10 4 [x, y, t, n] 8 (4 * i + 2) = V 8 (4 * i + 2) := fun i hi => apT_lo (by omega) (by omega)
    have A3 : ∀ i, i < (V 0 10).toNat → apT V 8 10 4 [x, y, t, n] 8 (4 * i + 3) = V 8 (4 * i + 3) := fun i hi => apT_lo (by omega) (by omega)
    have B0 : apT V 8 10 4 [x, y, t, n] 8 (4 * (V 0 10).toNat) = x := apT_hi (l := [x, y, t, n]) (i := 0) (by omega)
    have B1 : apT V 8 10 4 [x, y, t, n] 8 (4 * (V 0 10).toNat + 1) = y := apT_hi (l := [x, y, t, n]) (i := 1) (by omega)
    have B2 : apT V 8 10 4 [x, y, t, n] 8 (4 * (V 0 10).toNat + 2) = t := apT_hi (l := [x, y, t, n]) (i := 2) (by omega)
    have B3 : apT V 8 10 4 [x, y, t, n] 8 (4 * (V 0 10).toNat + 3) = n := apT_hi (l := [x, y, t, n]) (i := 3) (by omega)
    refine ⟨apT V 8 10 4 [x, y, t, n], ⟨g.1, g.2.1, ⟨g.2.2.1.1, g.2.2.1.2.1, g.2.2.1.2.2.1, g.2.2.1.2.2.2.1, g.2.2.1.2.2.2.2.1, show 0 ≤ V 0 10 + 1 by omega, show V 0 10 + 1 ≤ 9 by omega⟩, g.2.2.2.1, g.2.2.2.2.1, g.2.2.2.2.2.1, g.2.2.2.2.2.2.1, g.2.2.2.2.2.2.2.1, fun i hi => ?_⟩, ?_, ?_, fun d hd => ⟨?_, ?_⟩, ?_⟩
    · show (0 ≤ apT V 8 10 4 [x, y, t, n] 8 (4 * i) ∧ apT V 8 10 4 [x, y, t, n] 8 (4 * i) < V 0 0) ∧ (0 ≤ apT V 8 10 4 [x, y, t, n] 8 (4 * i + 1) ∧ apT V 8 10 4 [x, y, t, n] 8 (4 * i + 1) < V 0 1) ∧ (1 ≤ apT V 8 10 4 [x, y, t, n] 8 (4 * i + 2) ∧ apT V 8 10 4 [x, y, t, n] 8 (4 * i + 2) ≤ 99) ∧ (0 ≤ apT V 8 10 4 [x, y, t, n] 8 (4 * i + 3) ∧ apT V 8 10 4 [x, y, t, n] 8 (4 * i + 3) ≤ 24)
      rcases e i hi with hc | hc
      · rw [A0 i hc, A1 i hc, A2 i hc, A3 i hc]; exact hV.lin (by omega)
      · subst hc; rw [B0, B1, B2, B3]; omega
    · obtain ⟨r1, r2, r3, r4, r5, r6, r7, r8⟩ := hC
      have u : ∀ a b, a ≠ 16 → a ≠ 17 → am_up (am_up (am_up (am_up (am_up Mc 16 3 (i32 (V 0 10 + 1))) 17 (4 * (V 0 10).toNat + 0) (i32 x)) 17 (4 * (V 0 10).toNat + 1) (i32 y)) 17 (4 * (V 0 10).toNat + 2) (i32 t)) 17 (4 * (V 0 10).toNat + 3) (i32 n) a b = Mc a b := fun a b w1 w2 => by rw [up_ne (by omega), up_ne (by omega), up_ne (by omega), up_ne (by omega), up_ne (by omega)]
      refine ⟨(r1.of (fun a b w => u a b (by omega) (by omega)) : EC V _), ⟨(u _ _ (by omega) (by omega)).trans r2.1, (u _ _ (by omega) (by omega)).trans r2.2⟩, r3.of (fun a b w => u a b (by omega) (by omega)), r4.of (fun a b w => u a b (by omega) (by omega)), r5.of (fun a b w => u a b (by omega) (by omega)), r6.of (fun a b w => u a b (by omega) (by omega)), r7.of (fun a b w => u a b (by omega) (by omega)), ?_⟩
      refine r8.add (by omega) (by omega) [x, y, t, n] (by rw [up_ne (by omega), up_ne (by omega), up_ne (by omega), up_ne (by omega), up_ne (by omega)]) (by rw [up_ne (by omega), up_ne (by omega), up_ne (by omega), up_ne (by omega), up_ne (by omega)]) (by rw [up_ne (by omega), up_ne (by omega), up_ne (by omega), up_ne (by omega), up_eq]) (fun j hj => by rw [up_ne (by omega), up_ne (by omega), up_ne (by omega), up_ne (by omega), up_ne (by omega)]) (fun i hi => ?_)
      have hi' : i = 0 ∨ i = 1 ∨ i = 2 ∨ i = 3 := by omega
      rcases hi' with rfl | rfl | rfl | rfl
      · rw [show (4 : Int).toNat * (V 0 10).toNat + 0 = 4 * (V 0 10).toNat + 0 from rfl, up_ne (by omega), up_ne (by omega), up_ne (by omega), up_eq]; rfl
      · rw [show (4 : Int).toNat * (V 0 10).toNat + 1 = 4 * (V 0 10).toNat + 1 from rfl, up_ne (by omega), up_ne (by omega), up_eq]; rfl
      · rw [show (4 : Int).toNat * (V 0 10).toNat + 2 = 4 * (V 0 10).toNat + 2 from rfl, up_ne (by omega), up_eq]; rfl
      · rw [show (4 : Int).toNat * (V 0 10).toNat + 3 = 4 * (V 0 10).toNat + 3 from rfl, up_eq]; rfl
    · obtain ⟨r1, r2, r3, r4, r5, r6, r7, r8, r9⟩ := hMz
      have u : ∀ a b, (a ≠ 25 ∧ (a ≠ 0 ∨ b ≠ 60)) → am_up (am_up (am_up (am_up (M00 Mm) 25 (3 * (V 0 10).toNat) (i32 (10 * y + x))) 25 (3 * (V 0 10).toNat + 1) (i32 t)) 25 (3 * (V 0 10).toNat + 2) (i32 n)) 0 60 (i32 (V 0 10 + 1)) a b = M00 Mm a b := fun a b w => by rw [up_ne (by omega), up_ne (by omega), up_ne (by omega), up_ne (by omega)]
      refine ⟨⟨(u _ _ (by omega)).trans r1.1, (u _ _ (by omega)).trans r1.2.1, (u _ _ (by omega)).trans r1.2.2.1, (u _ _ (by omega)).trans r1.2.2.2.1, (u _ _ (by omega)).trans r1.2.2.2.2⟩, ⟨(u _ _ (by omega)).trans r2.1, (u _ _ (by omega)).trans r2.2.1, (u _ _ (by omega)).trans r2.2.2.1, (u _ _ (by omega)).trans r2.2.2.2.1, (u _ _ (by omega)).trans r2.2.2.2.2.1, up_eq _ _ _ _⟩, fun d hd => (u _ _ (by omega)).trans (r3 d hd), fun j hj => (u _ _ (by omega)).trans (r4 j hj), fun i hi => ⟨(u _ _ (by omega)).trans (r5 i hi).1, (u _ _ (by omega)).trans (r5 i hi).2⟩, fun j hj => (u _ _ (by omega)).trans (r6 j hj), fun i hi => ⟨(u _ _ (by omega)).trans (r7 i hi).1, (u _ _ (by omega)).trans (r7 i hi).2⟩, fun i hi => (u _ _ (by omega)).trans (r8 i hi), fun i hi => ?_⟩
      show _ = i32 (10 * apT V 8 10 4 [x, y, t, n] 8 (4 * i + 1) + apT V 8 10 4 [x, y, t, n] 8 (4 * i)) ∧ _ = i32 (apT V 8 10 4 [x, y, t, n] 8 (4 * i + 2)) ∧ _ = i32 (apT V 8 10 4 [x, y, t, n] 8 (4 * i + 3))
      rcases e i hi with hc | hc
      · rw [A0 i hc, A1 i hc, A2 i hc, A3 i hc]
        have z := r9 i (by omega)
        refine ⟨?_, ?_, ?_⟩
        · rw [up_ne (by omega), up_ne (by omega), up_ne (by omega), up_ne (by omega)]; exact z.1
        · rw [up_ne (by omega), up_ne (by omega), up_ne (by omega), up_ne (by omega)]; exact z.2.1
        · rw [up_ne (by omega), up_ne (by omega), up_ne (by omega), up_ne (by omega)]; exact z.2.2
      · subst hc
        rw [B0, B1, B2, B3]
        refine ⟨?_, ?_, ?_⟩
        · rw [up_ne (by omega), up_ne (by omega), up_ne (by omega), up_eq]
        · rw [up_ne (by omega), up_ne (by omega), up_eq]
        · rw [up_ne (by omega), up_eq]
    · rw [up_ne (by omega), up_ne (by omega), up_ne (by omega), up_ne (by omega)]; exact (hF.z d hd).1
    · rw [up_ne (by omega), up_ne (by omega), up_ne (by omega), up_ne (by omega)]; exact (hF.z d hd).2
    · refine (hI.z.fr (fun a b w => by rw [up_ne (by omega), up_ne (by omega), up_ne (by omega), up_ne (by omega), up_ne (by omega)]) (fun a b w => by rw [up_ne (by omega), up_ne (by omega), up_ne (by omega), up_ne (by omega)])).vv (fun a b w => ?_)
      unfold apT setT
      rw [if_neg (by omega), if_neg (by omega)]
  · rw [if_neg (fun q => hfull ((i32_lt (by omega) (by omega) (by omega) (by omega)).mp q)), am_bi_i, if_neg (by decide), if_pos ((i32_eq9 (by omega) (by omega)).mpr (by omega))]
    exact OP2.good hV hC hM hF hI (wp_i ⟨rfl, sC.rfl⟩) (wp_i ⟨rfl, sM.rfl⟩)
end OB
