/-! calls that change nothing but what is refused -/
def BT (N : Nat) (p l h : Int32) (lo hi : Int) (M M2 : am_M) : Prop :=
    (f_X9_needBetween N p l h M = some (.ok none, M) ∧ f_X10_within N p l h M2 = some (.ok (some (.int 1)), M2) ∧ ∃ x : Int, p = i32 x ∧ lo ≤ x ∧ x ≤ hi) ∨
    (f_X9_needBetween N p l h M = some (.error 2, am_up M 0 (3 + 2) (M 0 (3 + 2) + 1)) ∧ f_X10_within N p l h M2 = some (.ok (some (.int 0)), M2))
section OA
variable {N : Nat} {V : VL} {Mc Mm : am_M}
theorem m_mayb {M : am_M} {c : Int32} (hc : c ≠ 0) (h : M 0 0 = 0) : f_X10_may N 0 c 2 M = some (.ok (some (.int 0)), am_up (am_up M 0 0 c) 1 2 (M 1 2 + 1)) := m_may0 hc (k := 2) (by omega) h
theorem cellI {x y : Int} : (10 : Int32) * i32 y + i32 x = i32 (10 * y + x) := by rw [i32_10, i32_mul, i32_add]
theorem IR.h6 (h : IR V Mc Mm) : Mc 51 6 = 0 := by obtain ⟨T, tp, I, ni, _, hc, _⟩ := h; exact hc.2.2.2.2
theorem fog_c1 {p : Int32} {M : am_M} (h : f_X9_needBetween N p 0 9 M = some (.ok none, M)) : f_X9_needFog N p M = some (.ok none, M) := by unfold f_X9_needFog; rw [h]; rfl
theorem fog_c0 {p : Int32} {M M' : am_M} {e : Nat} (h : f_X9_needBetween N p 0 9 M = some (.error e, M')) : f_X9_needFog N p M = some (.error e, M') := by unfold f_X9_needFog; rw [h]; rfl
theorem law_c1 {p : Int32} {M : am_M} (h : f_X9_needBetween N p 0 2 M = some (.ok none, M)) : f_X9_needLaw N p M = some (.ok none, M) := by unfold f_X9_needLaw; rw [h]; rfl
theorem law_c0 {p : Int32} {M M' : am_M} {e : Nat} (h : f_X9_needBetween N p 0 2 M = some (.error e, M')) : f_X9_needLaw N p M = some (.error e, M') := by unfold f_X9_needLaw; rw [h]; rfl
theorem not_c1 {p : Int32} {M : am_M} (h : f_X9_needBetween N p 0 4095 M = some (.ok none, M)) : f_X9_needNotes N p M = some (.ok none, M) := by unfold f_X9_needNotes; rw [h]; rfl
theorem not_c0 {p : Int32} {M M' : am_M} {e : Nat} (h : f_X9_needBetween N p 0 4095 M = some (.error e, M')) : f_X9_needNotes N p M = some (.error e, M') := by unfold f_X9_needNotes; rw [h]; rfl
theorem fog_m1 {p : Int32} {M : am_M} (h : f_X10_within N p 0 9 M = some (.ok (some (.int 1)), M)) : f_X10_isFog N p M = some (.ok (some (.int 1)), M) := by unfold f_X10_isFog; rw [h]; rfl
theorem fog_m0 {p : Int32} {M : am_M} (h : f_X10_within N p 0 9 M = some (.ok (some (.int 0)), M)) : f_X10_isFog N p M = some (.ok (some (.int 0)), M) := by unfold f_X10_isFog; rw [h]; rfl
theorem not_m1 {p : Int32} {M : am_M} (h : f_X10_within N p 0 4095 M = some (.ok (some (.int 1)), M)) : f_X10_areNotes N p M = some (.ok (some (.int 1)), M) := by unfold f_X10_areNotes; rw [h]; rfl
theorem not_m0 {p : Int32} {M : am_M} (h : f_X10_within N p 0 4095 M = some (.ok (some (.int 0)), M)) : f_X10_areNotes N p M = some (.ok (some (.int 0)), M) := by unfold f_X10_areNotes; rw [h]; rfl
theorem bt_0_1 (p : Int32) (M M2 : am_M) : BT N p 0 1 0 1 M M2 := btw_cs (lo := 0) (hi := 1) p (by omega) (by omega)
theorem bt_0_2 (p : Int32) (M M2 : am_M) : BT N p 0 2 0 2 M M2 := btw_cs (lo := 0) (hi := 2) p (by omega) (by omega)
theorem bt_0_3 (p : Int32) (M M2 : am_M) : BT N p 0 3 0 3 M M2 := btw_cs (lo := 0) (hi := 3) p (by omega) (by omega)
theorem bt_0_4 (p : Int32) (M M2 : am_M) : BT N p 0 4 0 4 M M2 := btw_cs (lo := 0) (hi := 4) p (by omega) (by omega)
theorem bt_0_9 (p : Int32) (M M2 : am_M) : BT N p 0 9 0 9 M M2 := btw_cs (lo := 0) (hi := 9) p (by omega) (by omega)
theorem bt_0_10 (p : Int32) (M M2 : am_M) : BT N p 0 10 0 10 M M2 := btw_cs (lo := 0) (hi := 10) p (by omega) (by omega)
theorem bt_0_20 (p : Int32) (M M2 : am_M) : BT N p 0 20 0 20 M M2 := btw_cs (lo := 0) (hi := 20) p (by omega) (by omega)
theorem bt_0_24 (p : Int32) (M M2 : am_M) : BT N p 0 24 0 24 M M2 := btw_cs (lo := 0) (hi := 24) p (by omega) (by omega)
theorem bt_0_99 (p : Int32) (M M2 : am_M) : BT N p 0 99 0 99 M M2 := btw_cs (lo := 0) (hi := 99) p (by omega) (by omega)
theorem bt_0_4095 (p : Int32) (M M2 : am_M) : BT N p 0 4095 0 4095 M M2 := btw_cs (lo := 0) (hi := 4095) p (by omega) (by omega)
theorem bt_1_12 (p : Int32) (M M2 : am_M) : BT N p 1 12 1 12 M M2 := btw_cs (lo := 1) (hi := 12) p (by omega) (by omega)
theorem bt_1_99 (p : Int32) (M M2 : am_M) : BT N p 1 99 1 99 M M2 := btw_cs (lo := 1) (hi := 99) p (by omega) (by omega)
theorem op_snows (hN : 4200 ≤ N) (h : Inv Mc Mm) (p1 p2 : Int32) : OP1 (f_X9_snows N p1 p2 Mc) (f_X10_snows N p1 p2 Mm) 0 := by
  obtain ⟨V, hV, hC, hM, hF, hI⟩ := h
  have hw := hV.1.1
  have hh := hV.1.2.1
  have hns := hV.ns
  have hMz := hM.z
  have hE := hM.z.EM hV.1 hF.z
  unfold f_X9_snows f_X10_snows
  rw [show am_up Mm 0 0 0 = M00 Mm from rfl]
  rcases cell_cs (N := N) hV hC hM p1 p2 with ⟨c1, m1, x, y, rfl, rfl, hx, hy⟩ | ⟨c1, m1⟩
  rotate_left
  · rw [c1, am_bvx_x, m1, am_bi_i, if_pos rfl]
    exact OP1.bad hV hC hM hF hI (k := 0) (by omega) rfl rfl
  rw [c1, am_bvx_v, m1, am_bi_i, if_neg (show ¬ ((1 : Int32) = 0) by decide)]
  rw [cellI]
  refine OP1.good hV hC hM hF hI (wp_ci (c_snows (by omega) hV hC hI.h6 hx hy) (fun v M q => wp_i q)) ?_
  rw [hMz.1.2.2.1]
  exact wp_cv (m_shoutF (by omega) hV hMz hE hx hy hV.2.1.1) (fun M q => wp_i ⟨q.2, q.1.s⟩)
theorem op_hush (hN : 4200 ≤ N) (h : Inv Mc Mm) (p1 p2 : Int32) : OP1 (f_X9_hush N p1 p2 Mc) (f_X10_hush N p1 p2 Mm) 0 := by
  obtain ⟨V, hV, hC, hM, hF, hI⟩ := h
  have hw := hV.1.1
  have hh := hV.1.2.1
  have hns := hV.ns
  have hMz := hM.z
  have hE := hM.z.EM hV.1 hF.z
  unfold f_X9_hush f_X10_hush
  rw [show am_up Mm 0 0 0 = M00 Mm from rfl]
  rcases cell_cs (N := N) hV hC hM p1 p2 with ⟨c1, m1, x, y, rfl, rfl, hx, hy⟩ | ⟨c1, m1⟩
  rotate_left
  · rw [c1, am_bvx_x, m1, am_bi_i, if_pos rfl]
    exact OP1.bad hV hC hM hF hI (k := 0) (by omega) rfl rfl
  rw [c1, am_bvx_v, m1, am_bi_i, if_neg (show ¬ ((1 : Int32) = 0) by decide)]
  refine OP1.good hV hC hM hF hI (wp_ci (c_hush (by omega) hV hC hI.h6 hx hy) (fun v M q => wp_i q)) ?_
  have hb := huV_B hV (P := pkA V x y 99 8) (fun c => pkA_B hV.1 (by omega) c 8) (V 0 8).toNat (by omega)
  exact m_hush_lp (by omega) hV hMz hE hx hy 99 N (M00 Mm) (by omega) (by omega) (by omega) sM.rfl
theorem op_cell (hN : 4200 ≤ N) (h : Inv Mc Mm) (p1 p2 p3 : Int32) : OP2 (f_X9_cell N p1 p2 p3 Mc) (f_X10_cell N p1 p2 p3 Mm) 0 2 := by
  obtain ⟨V, hV, hC, hM, hF, hI⟩ := h
  have hw := hV.1.1
  have hh := hV.1.2.1
  have hns := hV.ns
  have hMz := hM.z
  have hE := hM.z.EM hV.1 hF.z
  unfold f_X9_cell f_X10_cell
  rw [show am_up Mm 0 0 0 = M00 Mm from rfl]
  rcases cell_cs (N := N) hV hC hM p1 p2 with ⟨c1, m1, x, y, rfl, rfl, hx, hy⟩ | ⟨c1, m1⟩
  rotate_left
  · rw [c1, am_bvx_x, m1, am_bi_i, if_pos rfl]
    exact OP2.bad1 hV hC hM hF hI (k := 0) (by omega) rfl rfl
  rw [c1, am_bvx_v, m1, am_bi_i, if_neg (show ¬ ((1 : Int32) = 0) by decide)]
  rcases (bt_0_1 p3 Mc (M00 Mm) : BT N p3 0 1 0 1 Mc (M00 Mm)) with ⟨c2, m2, w, rfl, hw⟩ | ⟨c2, m2⟩
  rotate_left
  · rw [c2, am_bvx_x, m2, am_bi_i, m_mayb (by decide) M00_0, am_bi_i, if_pos rfl]
    exact OP2.bad2 hV hC hM hF hI (k := 2) (by omega) rfl rfl
  rw [c2, am_bvx_v, m2, am_bi_i, m_may1 M00_0, am_bi_i, if_neg (show ¬ ((1 : Int32) = 0) by decide)]
  rw [cellI]
  have hc : 0 ≤ 10 * y + x ∧ 10 * y + x < 100 := by omega
  by_cases h0 : w = 0
  · rw [if_pos ((i32_eq0 (by omega) (by omega)).mpr h0), if_pos ((i32_eq0 (by omega) (by omega)).mpr h0), c_cellOf, am_bi_i]
    refine OP2.good hV hC hM hF hI (w := i32 (V 6 (10 * y + x).toNat)) (wp_gd (i32_in (by omega) (by omega) (by omega)) (wp_i ⟨?_, sC.rfl⟩)) (wp_gd (i32_in (by omega) (by omega) (by omega)) (wp_i ⟨?_, sM.rfl⟩))
    · rw [i32_cl (by omega) (by omega)]; exact (hC.1.2.2.2 _ (by omega)).1
    · rw [i32_cl (by omega) (by omega)]; exact (hF.z _ (by omega)).1
  · rw [if_neg (fun q => h0 ((i32_eq0 (by omega) (by omega)).mp q)), if_neg (fun q => h0 ((i32_eq0 (by omega) (by omega)).mp q)), c_cellOf, am_bi_i]
    refine OP2.good hV hC hM hF hI (w := i32 (V 7 (10 * y + x).toNat)) (wp_gd (i32_in (by omega) (by omega) (by omega)) (wp_i ⟨?_, sC.rfl⟩)) (wp_gd (i32_in (by omega) (by omega) (by omega)) (wp_i ⟨?_, sM.rfl⟩))
    · rw [i32_cl (by omega) (by omega)]; exact (hC.1.2.2.2 _ (by omega)).2
    · rw [i32_cl (by omega) (by omega)]; exact hMz.2.2.1 _ (by omega)
theorem op_echoes (hN : 4200 ≤ N) (h : Inv Mc Mm) (p1 p2 p3 : Int32) : OP2 (f_X9_echoes N p1 p2 p3 Mc) (f_X10_echoes N p1 p2 p3 Mm) 0 2 := by
  obtain ⟨V, hV, hC, hM, hF, hI⟩ := h
  have hw := hV.1.1
  have hh := hV.1.2.1
  have hns := hV.ns
  have hMz := hM.z
  have hE := hM.z.EM hV.1 hF.z
  unfold f_X9_echoes f_X10_echoes
  rw [show am_up Mm 0 0 0 = M00 Mm from rfl]
  rcases cell_cs (N := N) hV hC hM p1 p2 with ⟨c1, m1, x, y, rfl, rfl, hx, hy⟩ | ⟨c1, m1⟩
  rotate_left
  · rw [c1, am_bvx_x, m1, am_bi_i, if_pos rfl]
    exact OP2.bad1 hV hC hM hF hI (k := 0) (by omega) rfl rfl
  rw [c1, am_bvx_v, m1, am_bi_i, if_neg (show ¬ ((1 : Int32) = 0) by decide)]
  rcases (bt_0_9 p3 Mc (M00 Mm) : BT N p3 0 9 0 9 Mc (M00 Mm)) with ⟨c2, m2, g, rfl, hg⟩ | ⟨c2, m2⟩
  rotate_left
  · rw [fog_c0 c2, am_bvx_x, fog_m0 m2, am_bi_i, m_mayb (by decide) M00_0, am_bi_i, if_pos rfl]
    exact OP2.bad2 hV hC hM hF hI (k := 2) (by omega) rfl rfl
  rw [fog_c1 c2, am_bvx_v, fog_m1 m2, am_bi_i, m_may1 M00_0, am_bi_i, if_neg (show ¬ ((1 : Int32) = 0) by decide)]
  rw [cellI]
  exact OP2.good hV hC hM hF hI (wp_cv (c_shoutE (by omega) hV hC (fog := g) (by omega) hx hy) (fun M q => wp_i ⟨q.2.1.1, q.1⟩)) (wp_cv (m_shoutE (by omega) hV hMz hE (fog := g) (by omega) hx hy) (fun M q => wp_i ⟨q.2.1, q.1.s⟩))
theorem op_echo (hN : 4200 ≤ N) (h : Inv Mc Mm) (p1 p2 p3 p4 p5 : Int32) : OP2 (f_X9_echo N p1 p2 p3 p4 p5 Mc) (f_X10_echo N p1 p2 p3 p4 p5 Mm) 0 2 := by
  obtain ⟨V, hV, hC, hM, hF, hI⟩ := h
  have hw := hV.1.1
  have hh := hV.1.2.1
  have hns := hV.ns
  have hMz := hM.z
  have hE := hM.z.EM hV.1 hF.z
  unfold f_X9_echo f_X10_echo
  rw [show am_up Mm 0 0 0 = M00 Mm from rfl]
  rcases cell_cs (N := N) hV hC hM p1 p2 with ⟨c1, m1, x, y, rfl, rfl, hx, hy⟩ | ⟨c1, m1⟩
  rotate_left
  · rw [c1, am_bvx_x, m1, am_bi_i, if_pos rfl]
    exact OP2.bad1 hV hC hM hF hI (k := 0) (by omega) rfl rfl
  rw [c1, am_bvx_v, m1, am_bi_i, if_neg (show ¬ ((1 : Int32) = 0) by decide)]
  rcases (bt_0_9 p3 Mc (M00 Mm) : BT N p3 0 9 0 9 Mc (M00 Mm)) with ⟨c2, m2, g, rfl, hg⟩ | ⟨c2, m2⟩
  rotate_left
  · rw [fog_c0 c2, am_bvx_x, fog_m0 m2, am_bi_i, if_pos rfl]
    unfold f_X10_echo_38 f_X10_echo_39
    rw [m_mayb (by decide) M00_0, am_bi_i, if_pos rfl]
    exact OP2.bad2 hV hC hM hF hI (k := 2) (by omega) rfl rfl
  rw [fog_c1 c2, am_bvx_v, fog_m1 m2, am_bi_i, if_neg (show ¬ ((1 : Int32) = 0) by decide)]
  rcases (bt_0_3 p5 Mc (M00 Mm) : BT N p5 0 3 0 3 Mc (M00 Mm)) with ⟨c3, m3, w, rfl, hw⟩ | ⟨c3, m3⟩
  rotate_left
  · rw [c3, am_bvx_x, m3, am_bi_i, if_pos rfl]
    unfold f_X10_echo_38 f_X10_echo_39
    rw [m_mayb (by decide) M00_0, am_bi_i, if_pos rfl]
    exact OP2.bad2 hV hC hM hF hI (k := 2) (by omega) rfl rfl
  rw [c3, am_bvx_v, m3, am_bi_i, if_neg (show ¬ ((1 : Int32) = 0) by decide)]
  unfold f_X10_echo_39
  rw [m_may1 M00_0, am_bi_i, if_neg (show ¬ ((1 : Int32) = 0) by decide)]
  rw [cellI]
  have hES := shE_ok hV (x := x) (y := y) (fog := g) (by omega)
  obtain ⟨i, rfl, hi⟩ := i32_ex p4
  obtain ⟨k, rfl⟩ : ∃ k : Nat, w = (k : Int) := ⟨w.toNat, by omega⟩
  refine OP2.good hV hC hM hF hI (w := if 0 ≤ i ∧ i < (shE V x y (V 0 2) g 8).1 then (shE V x y (V 0 2) g 8).2 k i.toNat else -1) (wp_cv (c_shoutE (by omega) hV hC (fog := g) (by omega) hx hy) (fun M q => ?_)) (wp_cv (m_shoutE (by omega) hV hMz hE (fog := g) (by omega) hx hy) (fun M q => ?_))
  · rw [c_tell q.2.1 hES.2 (by omega), i32_toInt (by omega) (by omega), am_bi_i]
    exact wp_i ⟨rfl, q.1⟩
  · rw [q.2.1, i32_1, i32_sub, i32_0, m_within, am_bi_i]
    by_cases h1 : 0 ≤ i ∧ i < (shE V x y (V 0 2) g 8).1
    · rw [if_pos h1, if_neg (fun q => absurd ((i32_lt (by omega) (by omega) (by omega) (by omega)).mp q) (by omega)), if_neg (fun q => absurd ((i32_lt (by omega) (by omega) (by omega) (by omega)).mp q) (by omega))]
      refine wp_ng (by decide) ?_
      rw [i32_cl (by omega) (by omega)]
      have hq := q.2.2 k i.toNat (by omega) (by omega)
      have hk : k = 0 ∨ k = 1 ∨ k = 2 ∨ k = 3 := by omega
      rcases hk with rfl | rfl | rfl | rfl
      · exact wp_gd rfl (wp_gd (i32_in (by omega) (by omega) (by omega)) (wp_i ⟨hq, q.1.s⟩))
      · exact wp_ng (by decide) (wp_gd rfl (wp_gd (i32_in (by omega) (by omega) (by omega)) (wp_i ⟨hq, q.1.s⟩)))
      · exact wp_ng (by decide) (wp_ng (by decide) (wp_gd rfl (wp_gd (i32_in (by omega) (by omega) (by omega)) (wp_i ⟨hq, q.1.s⟩))))
      · exact wp_ng (by decide) (wp_ng (by decide) (wp_ng (by decide) (wp_gd (i32_in (by omega) (by omega) (by omega)) (wp_i ⟨hq, q.1.s⟩))))
    · rw [if_neg h1]
      refine wp_gd ?_ (wp_i ⟨rfl, q.1.s⟩)
      by_cases h2 : i < 0
      · rw [if_pos ((i32_lt (by omega) (by omega) (by omega) (by omega)).mpr h2)]; rfl
      · rw [if_neg (fun q => h2 ((i32_lt (by omega) (by omega) (by omega) (by omega)).mp q)), if_pos ((i32_lt (by omega) (by omega) (by omega) (by omega)).mpr (by omega))]; rfl
theorem op_count (hN : 4200 ≤ N) (h : Inv Mc Mm) (p1 p2 p3 p4 : Int32) : OP2 (f_X9_count N p1 p2 p3 p4 Mc) (f_X10_count N p1 p2 p3 p4 Mm) 0 2 := by
  obtain ⟨V, hV, hC, hM, hF, hI⟩ := h
  have hw := hV.1.1
  have hh := hV.1.2.1
  have hns := hV.ns
  have hMz := hM.z
  have hE := hM.z.EM hV.1 hF.z
  unfold f_X9_count f_X10_count
  rw [show am_up Mm 0 0 0 = M00 Mm from rfl]
  rcases cell_cs (N := N) hV hC hM p1 p2 with ⟨c1, m1, x, y, rfl, rfl, hx, hy⟩ | ⟨c1, m1⟩
  rotate_left
  · rw [c1, am_bvx_x, m1, am_bi_i, if_pos rfl]
    exact OP2.bad1 hV hC hM hF hI (k := 0) (by omega) rfl rfl
  rw [c1, am_bvx_v, m1, am_bi_i, if_neg (show ¬ ((1 : Int32) = 0) by decide)]
  rcases (bt_0_9 p3 Mc (M00 Mm) : BT N p3 0 9 0 9 Mc (M00 Mm)) with ⟨c2, m2, g, rfl, hg⟩ | ⟨c2, m2⟩
  rotate_left
  · rw [fog_c0 c2, am_bvx_x, fog_m0 m2, am_bi_i, if_pos rfl]
    unfold f_X10_count_38 f_X10_count_39
    rw [m_mayb (by decide) M00_0, am_bi_i, if_pos rfl]
    exact OP2.bad2 hV hC hM hF hI (k := 2) (by omega) rfl rfl
  rw [fog_c1 c2, am_bvx_v, fog_m1 m2, am_bi_i, if_neg (show ¬ ((1 : Int32) = 0) by decide)]
  rcases (bt_0_2 p4 Mc (M00 Mm) : BT N p4 0 2 0 2 Mc (M00 Mm)) with ⟨c3, m3, l, rfl, hl⟩ | ⟨c3, m3⟩
  rotate_left
  · rw [law_c0 c3, am_bvx_x, m3, am_bi_i, if_pos rfl]
    unfold f_X10_count_38 f_X10_count_39
    rw [m_mayb (by decide) M00_0, am_bi_i, if_pos rfl]
    exact OP2.bad2 hV hC hM hF hI (k := 2) (by omega) rfl rfl
  rw [law_c1 c3, am_bvx_v, m3, am_bi_i, if_neg (show ¬ ((1 : Int32) = 0) by decide)]
  unfold f_X10_count_39
  rw [m_may1 M00_0, am_bi_i, if_neg (show ¬ ((1 : Int32) = 0) by decide)]
  rw [cellI]
  have hES := shE_ok hV (x := x) (y := y) (fog := g) (by omega)
  refine OP2.good hV hC hM hF hI (w := i32 (cBy (shE V x y (V 0 2) g 8) l)) (wp_cv (c_shoutE (by omega) hV hC (fog := g) (by omega) hx hy) (fun M q => ?_)) ?_
  · rw [c_countBy (by omega) q.2.1 hES.1 hES.2 (by omega), am_bi_i]
    exact wp_i ⟨rfl, q.1⟩
  · rw [m_countOf (by omega) (ns := (V 0 8).toNat) (by omega) hV.1 hE (by rw [hMz.2.1.2.2.2.1]; congr 1; omega) hMz.1.2.2.1 (by omega) hx hy hV.2.1.1 (by omega), am_bi_i]
    exact wp_i ⟨rfl, shM_s⟩
theorem op_field (hN : 4200 ≤ N) (h : Inv Mc Mm) (p1 p2 : Int32) : OP2 (f_X9_field N p1 p2 Mc) (f_X10_field N p1 p2 Mm) 1 2 := by
  obtain ⟨V, hV, hC, hM, hF, hI⟩ := h
  have hw := hV.1.1
  have hh := hV.1.2.1
  have hns := hV.ns
  have hMz := hM.z
  have hE := hM.z.EM hV.1 hF.z
  unfold f_X9_field f_X10_field
  rw [show am_up Mm 0 0 0 = M00 Mm from rfl]
  rcases field_cs (N := N) (c := 1) hV hC hM p1 (by decide) with ⟨c1, m1, f, rfl, hf⟩ | ⟨c1, m1⟩
  rotate_left
  · rw [c1, am_bvx_x, m1, am_bi_i, if_pos rfl]
    exact OP2.bad1 hV hC hM hF hI (k := 1) (by omega) rfl rfl
  rw [c1, am_bvx_v, m1, am_bi_i, if_neg (show ¬ ((1 : Int32) = 0) by decide)]
  rcases (bt_0_4 p2 Mc (M00 Mm) : BT N p2 0 4 0 4 Mc (M00 Mm)) with ⟨c2, m2, w, rfl, hw⟩ | ⟨c2, m2⟩
  rotate_left
  · rw [c2, am_bvx_x, m2, am_bi_i, m_mayb (by decide) M00_0, am_bi_i, if_pos rfl]
    exact OP2.bad2 hV hC hM hF hI (k := 2) (by omega) rfl rfl
  rw [c2, am_bvx_v, m2, am_bi_i, m_may1 M00_0, am_bi_i, if_neg (show ¬ ((1 : Int32) = 0) by decide)]
  obtain ⟨k, rfl⟩ : ∃ k : Nat, w = (k : Int) := ⟨w.toNat, by omega⟩
  rw [c_at3 hC.2.2.1 (by omega) hf (by omega), am_bi_i, i32_5, i32_mul, i32_add]
  refine OP2.good hV hC hM hF hI (wp_i ⟨rfl, sC.rfl⟩) (wp_gd (i32_in (by omega) (by omega) (by omega)) (wp_i ⟨?_, sM.rfl⟩))
  rw [i32_cl (by omega) (by omega), show (5 * (f : Int) + (k : Int)).toNat = 5 * f + k from by omega]
  exact hMz.2.2.2.1 _ (by omega)
theorem op_most (hN : 4200 ≤ N) (h : Inv Mc Mm) (p1 p2 p3 p4 : Int32) : OP2 (f_X9_most N p1 p2 p3 p4 Mc) (f_X10_most N p1 p2 p3 p4 Mm) 1 2 := by
  obtain ⟨V, hV, hC, hM, hF, hI⟩ := h
  have hw := hV.1.1
  have hh := hV.1.2.1
  have hns := hV.ns
  have hMz := hM.z
  have hE := hM.z.EM hV.1 hF.z
  unfold f_X9_most f_X10_most f_X9_needSurvey f_X10_foundOf
  rw [show am_up Mm 0 0 0 = M00 Mm from rfl]
  rcases field_cs (N := N) (c := 1) hV hC hM p1 (by decide) with ⟨c1, m1, f, rfl, hf⟩ | ⟨c1, m1⟩
  rotate_left
  · rw [c1, am_bvx_x, am_bvx_x, m1, am_bi_i, if_pos rfl, am_bi_i]
    exact OP2.bad1 hV hC hM hF hI (k := 1) (by omega) rfl rfl
  rw [c1, am_bvx_v, m1, am_bi_i, if_neg (show ¬ ((1 : Int32) = 0) by decide)]
  rcases (bt_0_9 p2 Mc (M00 Mm) : BT N p2 0 9 0 9 Mc (M00 Mm)) with ⟨c2, m2, g, rfl, hg⟩ | ⟨c2, m2⟩
  rotate_left
  · rw [fog_c0 c2, am_bvx_x, am_bvx_x, fog_m0 m2, am_bi_i, if_pos rfl]
    unfold f_X10_foundOf_41 f_X10_foundOf_42
    rw [m_mayb (by decide) M00_0, am_bi_i, if_pos rfl, am_bi_i]
    exact OP2.bad2 hV hC hM hF hI (k := 2) (by omega) rfl rfl
  rw [fog_c1 c2, am_bvx_v, fog_m1 m2, am_bi_i, if_neg (show ¬ ((1 : Int32) = 0) by decide)]
  rcases (bt_0_2 p3 Mc (M00 Mm) : BT N p3 0 2 0 2 Mc (M00 Mm)) with ⟨c3, m3, l, rfl, hl⟩ | ⟨c3, m3⟩
  rotate_left
  · rw [law_c0 c3, am_bvx_x, am_bvx_x, m3, am_bi_i, if_pos rfl]
    unfold f_X10_foundOf_41 f_X10_foundOf_42
    rw [m_mayb (by decide) M00_0, am_bi_i, if_pos rfl, am_bi_i]
    exact OP2.bad2 hV hC hM hF hI (k := 2) (by omega) rfl rfl
  rw [law_c1 c3, am_bvx_v, am_bvx_v, m3, am_bi_i, if_neg (show ¬ ((1 : Int32) = 0) by decide)]
  rcases (bt_0_2 p4 Mc (M00 Mm) : BT N p4 0 2 0 2 Mc (M00 Mm)) with ⟨c4, m4, w, rfl, hw4⟩ | ⟨c4, m4⟩
  rotate_left
  · rw [c4, am_bvx_x, m4, am_bi_i, if_pos rfl]
    unfold f_X10_foundOf_41 f_X10_foundOf_42
    rw [m_mayb (by decide) M00_0, am_bi_i, if_pos rfl, am_bi_i]
    exact OP2.bad2 hV hC hM hF hI (k := 2) (by omega) rfl rfl
  rw [c4, am_bvx_v, m4, am_bi_i, if_neg (show ¬ ((1 : Int32) = 0) by decide)]
  unfold f_X10_foundOf_42
  rw [m_may1 M00_0, am_bi_i, if_neg (show ¬ ((1 : Int32) = 0) by decide)]
  have hb := sv_B (V := V) (f := f) (fog := g) (law := l) hV (by omega) hf
  have hb7 := hb.1.1
  refine OP2.good hV hC hM hF hI (w := i32 (if w = 0 then sv V f g l 0 else if w = 1 then (sv V f g l 1) else (sv V f g l 2))) (wp_cv (c_survey (by omega) hV hC (by omega) (by omega) hf) (fun M q => ?_)) (wp_ci (A := fun v M' => v = i32 (if w = 0 then sv V f g l 0 else if w = 1 then (sv V f g l 1) else (sv V f g l 2)) ∧ sM (M00 Mm) M') (wp_cv (m_findField (least := 0) (by omega) hV hMz hE (by omega) (by omega) hf (by omega)) (fun M q => ?_)) (fun v M q => wp_i q))
  · have q7 := q.2.2.2 (by rw [hb7]; omega)
    by_cases h0 : w = 0
    · rw [if_pos h0]; exact wp_gd ((i32_eq0 (by omega) (by omega)).mpr h0) (wp_i ⟨q7 0 (by omega), q.1.c⟩)
    · rw [if_neg h0]
      refine wp_ng (fun z => h0 ((i32_eq0 (by omega) (by omega)).mp z)) ?_
      by_cases h1 : w = 1
      · rw [if_pos h1]; exact wp_gd ((i32_eq1 (by omega) (by omega)).mpr h1) (wp_i ⟨q7 1 (by omega), q.1.c⟩)
      · rw [if_neg h1]; exact wp_ng (fun z => h1 ((i32_eq1 (by omega) (by omega)).mp z)) (wp_i ⟨q7 2 (by omega), q.1.c⟩)
  · have q7 := q.2.2.2.2 (by rw [hb7]; omega)
    rw [if_pos rfl] at q7
    have bnd := hb.1.2
    rw [q7.1, q7.2]
    by_cases h0 : w = 0
    · rw [if_pos h0]; exact wp_gd ((i32_eq0 (by omega) (by omega)).mpr h0) (wp_i ⟨rfl, q.1.s⟩)
    · rw [if_neg h0]
      refine wp_ng (fun z => h0 ((i32_eq0 (by omega) (by omega)).mp z)) ?_
      by_cases h1 : w = 1
      · rw [if_pos h1]
        refine wp_gd ((i32_eq1 (by omega) (by omega)).mpr h1) (wp_i ⟨?_, q.1.s⟩)
        rw [i32_10, i32_rem (by omega) (by omega) (by omega) (by omega)]
        congr 1
        omega
      · rw [if_neg h1]
        refine wp_ng (fun z => h1 ((i32_eq1 (by omega) (by omega)).mp z)) (wp_i ⟨?_, q.1.s⟩)
        rw [i32_10, i32_div (by omega) (by omega) (by omega) (by omega)]
        congr 1
        omega
theorem op_least (hN : 4200 ≤ N) (h : Inv Mc Mm) (p1 p2 p3 p4 : Int32) : OP2 (f_X9_least N p1 p2 p3 p4 Mc) (f_X10_least N p1 p2 p3 p4 Mm) 1 2 := by
  obtain ⟨V, hV, hC, hM, hF, hI⟩ := h
  have hw := hV.1.1
  have hh := hV.1.2.1
  have hns := hV.ns
  have hMz := hM.z
  have hE := hM.z.EM hV.1 hF.z
  unfold f_X9_least f_X10_least f_X9_needSurvey f_X10_foundOf
  rw [show am_up Mm 0 0 0 = M00 Mm from rfl]
  rcases field_cs (N := N) (c := 1) hV hC hM p1 (by decide) with ⟨c1, m1, f, rfl, hf⟩ | ⟨c1, m1⟩
  rotate_left
  · rw [c1, am_bvx_x, am_bvx_x, m1, am_bi_i, if_pos rfl, am_bi_i]
    exact OP2.bad1 hV hC hM hF hI (k := 1) (by omega) rfl rfl
  rw [c1, am_bvx_v, m1, am_bi_i, if_neg (show ¬ ((1 : Int32) = 0) by decide)]
  rcases (bt_0_9 p2 Mc (M00 Mm) : BT N p2 0 9 0 9 Mc (M00 Mm)) with ⟨c2, m2, g, rfl, hg⟩ | ⟨c2, m2⟩
  rotate_left
  · rw [fog_c0 c2, am_bvx_x, am_bvx_x, fog_m0 m2, am_bi_i, if_pos rfl]
    unfold f_X10_foundOf_41 f_X10_foundOf_42
    rw [m_mayb (by decide) M00_0, am_bi_i, if_pos rfl, am_bi_i]
    exact OP2.bad2 hV hC hM hF hI (k := 2) (by omega) rfl rfl
  rw [fog_c1 c2, am_bvx_v, fog_m1 m2, am_bi_i, if_neg (show ¬ ((1 : Int32) = 0) by decide)]
  rcases (bt_0_2 p3 Mc (M00 Mm) : BT N p3 0 2 0 2 Mc (M00 Mm)) with ⟨c3, m3, l, rfl, hl⟩ | ⟨c3, m3⟩
  rotate_left
  · rw [law_c0 c3, am_bvx_x, am_bvx_x, m3, am_bi_i, if_pos rfl]
    unfold f_X10_foundOf_41 f_X10_foundOf_42
    rw [m_mayb (by decide) M00_0, am_bi_i, if_pos rfl, am_bi_i]
    exact OP2.bad2 hV hC hM hF hI (k := 2) (by omega) rfl rfl
  rw [law_c1 c3, am_bvx_v, am_bvx_v, m3, am_bi_i, if_neg (show ¬ ((1 : Int32) = 0) by decide)]
  rcases (bt_0_2 p4 Mc (M00 Mm) : BT N p4 0 2 0 2 Mc (M00 Mm)) with ⟨c4, m4, w, rfl, hw4⟩ | ⟨c4, m4⟩
  rotate_left
  · rw [c4, am_bvx_x, m4, am_bi_i, if_pos rfl]
    unfold f_X10_foundOf_41 f_X10_foundOf_42
    rw [m_mayb (by decide) M00_0, am_bi_i, if_pos rfl, am_bi_i]
    exact OP2.bad2 hV hC hM hF hI (k := 2) (by omega) rfl rfl
  rw [c4, am_bvx_v, m4, am_bi_i, if_neg (show ¬ ((1 : Int32) = 0) by decide)]
  unfold f_X10_foundOf_42
  rw [m_may1 M00_0, am_bi_i, if_neg (show ¬ ((1 : Int32) = 0) by decide)]
  have hb := sv_B (V := V) (f := f) (fog := g) (law := l) hV (by omega) hf
  have hb7 := hb.1.1
  refine OP2.good hV hC hM hF hI (w := i32 (if w = 0 then sv V f g l 3 else if w = 1 then (sv V f g l 4) else (sv V f g l 5))) (wp_cv (c_survey (by omega) hV hC (by omega) (by omega) hf) (fun M q => ?_)) (wp_ci (A := fun v M' => v = i32 (if w = 0 then sv V f g l 3 else if w = 1 then (sv V f g l 4) else (sv V f g l 5)) ∧ sM (M00 Mm) M') (wp_cv (m_findField (least := 1) (by omega) hV hMz hE (by omega) (by omega) hf (by omega)) (fun M q => ?_)) (fun v M q => wp_i q))
  · have q7 := q.2.2.2 (by rw [hb7]; omega)
    by_cases h0 : w = 0
    · rw [if_pos h0]; exact wp_gd ((i32_eq0 (by omega) (by omega)).mpr h0) (wp_i ⟨q7 3 (by omega), q.1.c⟩)
    · rw [if_neg h0]
      refine wp_ng (fun z => h0 ((i32_eq0 (by omega) (by omega)).mp z)) ?_
      by_cases h1 : w = 1
      · rw [if_pos h1]; exact wp_gd ((i32_eq1 (by omega) (by omega)).mpr h1) (wp_i ⟨q7 4 (by omega), q.1.c⟩)
      · rw [if_neg h1]; exact wp_ng (fun z => h1 ((i32_eq1 (by omega) (by omega)).mp z)) (wp_i ⟨q7 5 (by omega), q.1.c⟩)
  · have q7 := q.2.2.2.2 (by rw [hb7]; omega)
    rw [if_neg (by decide)] at q7
    have bnd := hb.1.2
    rw [q7.1, q7.2]
    by_cases h0 : w = 0
    · rw [if_pos h0]; exact wp_gd ((i32_eq0 (by omega) (by omega)).mpr h0) (wp_i ⟨rfl, q.1.s⟩)
    · rw [if_neg h0]
      refine wp_ng (fun z => h0 ((i32_eq0 (by omega) (by omega)).mp z)) ?_
      by_cases h1 : w = 1
      · rw [if_pos h1]
        refine wp_gd ((i32_eq1 (by omega) (by omega)).mpr h1) (wp_i ⟨?_, q.1.s⟩)
        rw [i32_10, i32_rem (by omega) (by omega) (by omega) (by omega)]
        congr 1
        omega
      · rw [if_neg h1]
        refine wp_ng (fun z => h1 ((i32_eq1 (by omega) (by omega)).mp z)) (wp_i ⟨?_, q.1.s⟩)
        rw [i32_10, i32_div (by omega) (by omega) (by omega) (by omega)]
        congr 1
        omega
theorem op_mean (hN : 4200 ≤ N) (h : Inv Mc Mm) (p1 p2 p3 p4 : Int32) : OP2 (f_X9_mean N p1 p2 p3 p4 Mc) (f_X10_mean N p1 p2 p3 p4 Mm) 1 2 := by
  obtain ⟨V, hV, hC, hM, hF, hI⟩ := h
  have hw := hV.1.1
  have hh := hV.1.2.1
  have hns := hV.ns
  have hMz := hM.z
  have hE := hM.z.EM hV.1 hF.z
  unfold f_X9_mean f_X10_mean f_X9_needSurvey
  rw [show am_up Mm 0 0 0 = M00 Mm from rfl]
  rcases field_cs (N := N) (c := 1) hV hC hM p1 (by decide) with ⟨c1, m1, f, rfl, hf⟩ | ⟨c1, m1⟩
  rotate_left
  · rw [c1, am_bvx_x, am_bvx_x, m1, am_bi_i, if_pos rfl]
    exact OP2.bad1 hV hC hM hF hI (k := 1) (by omega) rfl rfl
  rw [c1, am_bvx_v, m1, am_bi_i, if_neg (show ¬ ((1 : Int32) = 0) by decide)]
  rcases (bt_0_9 p2 Mc (M00 Mm) : BT N p2 0 9 0 9 Mc (M00 Mm)) with ⟨c2, m2, g, rfl, hg⟩ | ⟨c2, m2⟩
  rotate_left
  · rw [fog_c0 c2, am_bvx_x, am_bvx_x, fog_m0 m2, am_bi_i, if_pos rfl]
    unfold f_X10_mean_46 f_X10_mean_47
    rw [m_mayb (by decide) M00_0, am_bi_i, if_pos rfl]
    exact OP2.bad2 hV hC hM hF hI (k := 2) (by omega) rfl rfl
  rw [fog_c1 c2, am_bvx_v, fog_m1 m2, am_bi_i, if_neg (show ¬ ((1 : Int32) = 0) by decide)]
  rcases (bt_0_2 p3 Mc (M00 Mm) : BT N p3 0 2 0 2 Mc (M00 Mm)) with ⟨c3, m3, l, rfl, hl⟩ | ⟨c3, m3⟩
  rotate_left
  · rw [law_c0 c3, am_bvx_x, am_bvx_x, m3, am_bi_i, if_pos rfl]
    unfold f_X10_mean_46 f_X10_mean_47
    rw [m_mayb (by decide) M00_0, am_bi_i, if_pos rfl]
    exact OP2.bad2 hV hC hM hF hI (k := 2) (by omega) rfl rfl
  rw [law_c1 c3, am_bvx_v, am_bvx_v, m3, am_bi_i, if_neg (show ¬ ((1 : Int32) = 0) by decide)]
  rcases (bt_0_1 p4 Mc (M00 Mm) : BT N p4 0 1 0 1 Mc (M00 Mm)) with ⟨c4, m4, w, rfl, hw4⟩ | ⟨c4, m4⟩
  rotate_left
  · rw [c4, am_bvx_x, m4, am_bi_i, if_pos rfl]
    unfold f_X10_mean_46 f_X10_mean_47
    rw [m_mayb (by decide) M00_0, am_bi_i, if_pos rfl]
    exact OP2.bad2 hV hC hM hF hI (k := 2) (by omega) rfl rfl
  rw [c4, am_bvx_v, m4, am_bi_i, if_neg (show ¬ ((1 : Int32) = 0) by decide)]
  unfold f_X10_mean_47
  rw [m_may1 M00_0, am_bi_i, if_neg (show ¬ ((1 : Int32) = 0) by decide)]
  have hb := sv_B (V := V) (f := f) (fog := g) (law := l) hV (by omega) hf
  have hb7 := hb.1.1
  have bnd := hb.1.2
  obtain ⟨A, hA⟩ : ∃ A : Nat, sv V f g l 6 = (A : Int) := ⟨(sv V f g l 6).toNat, by omega⟩
  obtain ⟨B, hB⟩ : ∃ B : Nat, sv V f g l 7 = (B : Int) := ⟨(sv V f g l 7).toNat, by omega⟩
  refine OP2.good hV hC hM hF hI (w := i32 (fr A B w : Nat)) (wp_cv (c_survey (by omega) hV hC (by omega) (by omega) hf) (fun M q => ?_)) (wp_cv (m_findField (least := 0) (by omega) hV hMz hE (by omega) (by omega) hf (by omega)) (fun M q => ?_))
  · rw [q.2.1, q.2.2.1, hA, hB, c_frac (by omega) (by omega) (by omega) (by omega), am_bi_i]
    exact wp_i ⟨rfl, q.1.c⟩
  · rw [q.2.1, q.2.2.1, hA, hB, m_frac (by omega) (by omega) (by omega) (by omega), am_bi_i]
    exact wp_i ⟨rfl, q.1.s⟩
theorem op_worth (hN : 4200 ≤ N) (h : Inv Mc Mm) (p1 p2 : Int32) : OP2 (f_X9_worth N p1 p2 Mc) (f_X10_worth N p1 p2 Mm) 1 2 := by
  obtain ⟨V, hV, hC, hM, hF, hI⟩ := h
  have hw := hV.1.1
  have hh := hV.1.2.1
  have hns := hV.ns
  have hMz := hM.z
  have hE := hM.z.EM hV.1 hF.z
  unfold f_X9_worth f_X10_worth
  rw [show am_up Mm 0 0 0 = M00 Mm from rfl]
  rcases field_cs (N := N) (c := 1) hV hC hM p1 (by decide) with ⟨c1, m1, f, rfl, hf⟩ | ⟨c1, m1⟩
  rotate_left
  · rw [c1, am_bvx_x, m1, am_bi_i, if_pos rfl]
    exact OP2.bad1 hV hC hM hF hI (k := 1) (by omega) rfl rfl
  rw [c1, am_bvx_v, m1, am_bi_i, if_neg (show ¬ ((1 : Int32) = 0) by decide)]
  rcases (bt_0_9 p2 Mc (M00 Mm) : BT N p2 0 9 0 9 Mc (M00 Mm)) with ⟨c2, m2, g, rfl, hg⟩ | ⟨c2, m2⟩
  rotate_left
  · rw [fog_c0 c2, am_bvx_x, fog_m0 m2, am_bi_i, m_mayb (by decide) M00_0, am_bi_i, if_pos rfl]
    exact OP2.bad2 hV hC hM hF hI (k := 2) (by omega) rfl rfl
  rw [fog_c1 c2, am_bvx_v, fog_m1 m2, am_bi_i, m_may1 M00_0, am_bi_i, if_neg (show ¬ ((1 : Int32) = 0) by decide)]
  rw [hC.law, hMz.law]
  exact OP2.good hV hC hM hF hI (wp_ci (c_worthBy (by omega) hV hC (by omega) hV.lw hf) (fun v M q => wp_i ⟨q.1, q.2.c⟩)) (wp_ci (m_worthBy (by omega) hV hMz hE (by omega) hV.lw hf) (fun v M q => wp_i ⟨q.1, q.2.s⟩))
theorem op_gain (hN : 4200 ≤ N) (h : Inv Mc Mm) (p1 p2 p3 : Int32) : OP2 (f_X9_gain N p1 p2 p3 Mc) (f_X10_gain N p1 p2 p3 Mm) 0 1 := by
  obtain ⟨V, hV, hC, hM, hF, hI⟩ := h
  have hw := hV.1.1
  have hh := hV.1.2.1
  have hns := hV.ns
  have hMz := hM.z
  have hE := hM.z.EM hV.1 hF.z
  unfold f_X9_gain f_X10_gain
  rw [show am_up Mm 0 0 0 = M00 Mm from rfl]
  rcases cell_cs (N := N) hV hC hM p1 p2 with ⟨c1, m1, x, y, rfl, rfl, hx, hy⟩ | ⟨c1, m1⟩
  rotate_left
  · rw [c1, am_bvx_x, m1, am_bi_i, if_pos rfl]
    exact OP2.bad1 hV hC hM hF hI (k := 0) (by omega) rfl rfl
  rw [c1, am_bvx_v, m1, am_bi_i, if_neg (show ¬ ((1 : Int32) = 0) by decide)]
  rcases field_cs (N := N) (c := 2) hV hC hM p3 (by decide) with ⟨c2, m2, f, rfl, hf⟩ | ⟨c2, m2⟩
  rotate_left
  · rw [c2, am_bvx_x, m2, am_bi_i, if_pos rfl]
    exact OP2.bad2 hV hC hM hF hI (k := 1) (by omega) rfl rfl
  rw [c2, am_bvx_v, m2, am_bi_i, if_neg (show ¬ ((1 : Int32) = 0) by decide), c_cellOf, am_bi_i]
  exact OP2.good hV hC hM hF hI (wp_ci (c_gain (by omega) hV hC (by omega) hf) (fun v M q => wp_i q)) (m_gain (by omega) hV hMz hF.z hx hy hf)
theorem op_building (hN : 4200 ≤ N) (h : Inv Mc Mm) (p1 p2 p3 : Int32) : OP2 (f_X9_building N p1 p2 p3 Mc) (f_X10_building N p1 p2 p3 Mm) 1 2 := by
  obtain ⟨V, hV, hC, hM, hF, hI⟩ := h
  have hw := hV.1.1
  have hh := hV.1.2.1
  have hns := hV.ns
  have hMz := hM.z
  have hE := hM.z.EM hV.1 hF.z
  unfold f_X9_building f_X10_building
  rw [show am_up Mm 0 0 0 = M00 Mm from rfl]
  rcases field_cs (N := N) (c := 1) hV hC hM p1 (by decide) with ⟨c1, m1, f, rfl, hf⟩ | ⟨c1, m1⟩
  rotate_left
  · rw [c1, am_bvx_x, m1, am_bi_i, if_pos rfl]
    exact OP2.bad1 hV hC hM hF hI (k := 1) (by omega) rfl rfl
  rw [c1, am_bvx_v, m1, am_bi_i, if_neg (show ¬ ((1 : Int32) = 0) by decide)]
  rcases (bt_0_24 p2 Mc (M00 Mm) : BT N p2 0 24 0 24 Mc (M00 Mm)) with ⟨c2, m2, n, rfl, hn⟩ | ⟨c2, m2⟩
  rotate_left
  · rw [c2, am_bvx_x, m2, am_bi_i, if_pos rfl]
    unfold f_X10_building_38 f_X10_building_39
    rw [m_mayb (by decide) M00_0, am_bi_i, if_pos rfl]
    exact OP2.bad2 hV hC hM hF hI (k := 2) (by omega) rfl rfl
  rw [c2, am_bvx_v, m2, am_bi_i, if_neg (show ¬ ((1 : Int32) = 0) by decide)]
  rcases (bt_0_1 p3 Mc (M00 Mm) : BT N p3 0 1 0 1 Mc (M00 Mm)) with ⟨c3, m3, w, rfl, hw⟩ | ⟨c3, m3⟩
  rotate_left
  · rw [c3, am_bvx_x, m3, am_bi_i, if_pos rfl]
    unfold f_X10_building_38 f_X10_building_39
    rw [m_mayb (by decide) M00_0, am_bi_i, if_pos rfl]
    exact OP2.bad2 hV hC hM hF hI (k := 2) (by omega) rfl rfl
  rw [c3, am_bvx_v, m3, am_bi_i, if_neg (show ¬ ((1 : Int32) = 0) by decide)]
  unfold f_X10_building_39
  rw [m_may1 M00_0, am_bi_i, if_neg (show ¬ ((1 : Int32) = 0) by decide)]
  have hp := pw_4 (n := (V 0 6).toNat) (by omega)
  rw [m_open (by omega) hV hMz hF.z, am_bi_i]
  refine OP2.good hV hC hM hF hI (w := if w = 0 then (if (blS V f n (2 ^ (V 0 6).toNat)).2 = -1 then -1 else i32 (blS V f n (2 ^ (V 0 6).toNat)).1) else i32 (blS V f n (2 ^ (V 0 6).toNat)).2) (wp_cv (c_bld (by omega) hV hC hf (by omega)) (fun M q => ?_)) (m_bld_lp (by omega) hV hMz hF.z hf (by omega) (by omega) (2 ^ (V 0 6).toNat) 0 N (M00 Mm) (by omega) (by omega) sM.rfl)
  by_cases h0 : w = 0
  · rw [if_pos h0]
    refine wp_gd ((i32_eq0 (by omega) (by omega)).mpr h0) (wp_i ⟨?_, q.1⟩)
    rw [q.2.1]
    by_cases hm : (blS V f n (2 ^ (V 0 6).toNat)).2 = -1
    · rw [if_pos hm, blS_m hV _ hm]; rfl
    · rw [if_neg hm]
  · rw [if_neg h0]
    exact wp_ng (fun z => h0 ((i32_eq0 (by omega) (by omega)).mp z)) (wp_i ⟨q.2.2, q.1⟩)
theorem op_rests (hN : 4200 ≤ N) (h : Inv Mc Mm) (p1 : Int32) : OP1 (f_X9_rests N p1 Mc) (f_X10_rests N p1 Mm) 2 := by
  obtain ⟨V, hV, hC, hM, hF, hI⟩ := h
  have hw := hV.1.1
  have hh := hV.1.2.1
  have hns := hV.ns
  have hMz := hM.z
  have hE := hM.z.EM hV.1 hF.z
  unfold f_X9_rests f_X10_rests
  rw [show am_up Mm 0 0 0 = M00 Mm from rfl]
  rcases (bt_0_1 p1 Mc (M00 Mm) : BT N p1 0 1 0 1 Mc (M00 Mm)) with ⟨c2, m2, w, rfl, hw⟩ | ⟨c2, m2⟩
  rotate_left
  · rw [c2, am_bvx_x, m2, am_bi_i, m_mayb (by decide) M00_0, am_bi_i, if_pos rfl]
    exact OP1.bad hV hC hM hF hI (k := 2) (by omega) rfl rfl
  rw [c2, am_bvx_v, m2, am_bi_i, m_may1 M00_0, am_bi_i, if_neg (show ¬ ((1 : Int32) = 0) by decide)]
  have hp := pw_4 (n := (V 0 6).toNat) (by omega)
  rw [m_open (by omega) hV hMz hF.z, am_bi_i]
  refine OP1.good hV hC hM hF hI (w := if w = 0 then i32 (rsS V (rows V)).1 else i32 (rsS V (rows V)).2) (wp_cv (c_rests (by omega) hV hC) (fun M q => ?_)) (m_rests_lp (by omega) hV hMz hF.z (by omega) (2 ^ (V 0 6).toNat) 0 N (M00 Mm) (by omega) (by omega) (fun _ _ _ _ => rfl) (fun s f q1 q2 q3 => by omega))
  by_cases h0 : w = 0
  · rw [if_pos h0]; exact wp_gd ((i32_eq0 (by omega) (by omega)).mpr h0) (wp_i ⟨q.2.1, q.1⟩)
  · rw [if_neg h0]; exact wp_ng (fun z => h0 ((i32_eq0 (by omega) (by omega)).mp z)) (wp_i ⟨q.2.2, q.1⟩)
theorem op_fair (hN : 4200 ≤ N) (h : Inv Mc Mm) (p1 p2 : Int32) : OP2 (f_X9_fair N p1 p2 Mc) (f_X10_fair N p1 p2 Mm) 1 2 := by
  obtain ⟨V, hV, hC, hM, hF, hI⟩ := h
  have hw := hV.1.1
  have hh := hV.1.2.1
  have hns := hV.ns
  have hMz := hM.z
  have hE := hM.z.EM hV.1 hF.z
  unfold f_X9_fair f_X10_fair
  rw [show am_up Mm 0 0 0 = M00 Mm from rfl]
  rcases field_cs (N := N) (c := 1) hV hC hM p1 (by decide) with ⟨c1, m1, f, rfl, hf⟩ | ⟨c1, m1⟩
  rotate_left
  · rw [c1, am_bvx_x, m1, am_bi_i, if_pos rfl]
    exact OP2.bad1 hV hC hM hF hI (k := 1) (by omega) rfl rfl
  rw [c1, am_bvx_v, m1, am_bi_i, if_neg (show ¬ ((1 : Int32) = 0) by decide)]
  rcases (bt_0_1 p2 Mc (M00 Mm) : BT N p2 0 1 0 1 Mc (M00 Mm)) with ⟨c2, m2, w, rfl, hw⟩ | ⟨c2, m2⟩
  rotate_left
  · rw [c2, am_bvx_x, m2, am_bi_i, m_mayb (by decide) M00_0, am_bi_i, if_pos rfl]
    exact OP2.bad2 hV hC hM hF hI (k := 2) (by omega) rfl rfl
  rw [c2, am_bvx_v, m2, am_bi_i, m_may1 M00_0, am_bi_i, if_neg (show ¬ ((1 : Int32) = 0) by decide)]
  exact OP2.good hV hC hM hF hI (wp_ci (c_fair (by omega) hV hC hf (by omega)) (fun v M q => wp_i q)) (m_fair_lp (by omega) hV hMz hE hf (by omega) (V 0 7).toNat 0 N (M00 Mm) (by omega) (by omega) sM.rfl)
theorem op_trade (hN : 4200 ≤ N) (h : Inv Mc Mm) (p1 p2 : Int32) : OP2 (f_X9_trade N p1 p2 Mc) (f_X10_trade N p1 p2 Mm) 1 2 := by
  obtain ⟨V, hV, hC, hM, hF, hI⟩ := h
  have hw := hV.1.1
  have hh := hV.1.2.1
  have hns := hV.ns
  have hMz := hM.z
  have hE := hM.z.EM hV.1 hF.z
  unfold f_X9_trade f_X10_trade
  rw [show am_up Mm 0 0 0 = M00 Mm from rfl]
  rcases field_cs (N := N) (c := 1) hV hC hM p1 (by decide) with ⟨c1, m1, f, rfl, hf⟩ | ⟨c1, m1⟩
  rotate_left
  · rw [c1, am_bvx_x, m1, am_bi_i, if_pos rfl]
    exact OP2.bad1 hV hC hM hF hI (k := 1) (by omega) rfl rfl
  rw [c1, am_bvx_v, m1, am_bi_i, if_neg (show ¬ ((1 : Int32) = 0) by decide)]
  rcases (bt_0_1 p2 Mc (M00 Mm) : BT N p2 0 1 0 1 Mc (M00 Mm)) with ⟨c2, m2, w, rfl, hw⟩ | ⟨c2, m2⟩
  rotate_left
  · rw [c2, am_bvx_x, m2, am_bi_i, m_mayb (by decide) M00_0, am_bi_i, if_pos rfl]
    exact OP2.bad2 hV hC hM hF hI (k := 2) (by omega) rfl rfl
  rw [c2, am_bvx_v, m2, am_bi_i, m_may1 M00_0, am_bi_i, if_neg (show ¬ ((1 : Int32) = 0) by decide)]
  exact OP2.good hV hC hM hF hI (wp_ci (c_trade (by omega) hV hC hf (by omega)) (fun v M q => wp_i q)) (m_trade_lp (by omega) hV hMz hE hf (by omega) (V 0 7).toNat 0 N (M00 Mm) (by omega) (by omega) sM.rfl)
theorem op_unlike (hN : 4200 ≤ N) (h : Inv Mc Mm) (p1 p2 : Int32) : OP1 (f_X9_unlike N p1 p2 Mc) (f_X10_unlike N p1 p2 Mm) 2 := by
  obtain ⟨V, hV, hC, hM, hF, hI⟩ := h
  have hw := hV.1.1
  have hh := hV.1.2.1
  have hns := hV.ns
  have hMz := hM.z
  have hE := hM.z.EM hV.1 hF.z
  unfold f_X9_unlike f_X10_unlike
  rw [show am_up Mm 0 0 0 = M00 Mm from rfl]
  rcases (bt_0_2 p1 Mc (M00 Mm) : BT N p1 0 2 0 2 Mc (M00 Mm)) with ⟨c2, m2, a, rfl, ha⟩ | ⟨c2, m2⟩
  rotate_left
  · rw [law_c0 c2, am_bvx_x, m2, am_bi_i, if_pos rfl]
    unfold f_X10_unlike_28 f_X10_unlike_29
    rw [m_mayb (by decide) M00_0, am_bi_i, if_pos rfl]
    exact OP1.bad hV hC hM hF hI (k := 2) (by omega) rfl rfl
  rw [law_c1 c2, am_bvx_v, m2, am_bi_i, if_neg (show ¬ ((1 : Int32) = 0) by decide)]
  rcases (bt_0_2 p2 Mc (M00 Mm) : BT N p2 0 2 0 2 Mc (M00 Mm)) with ⟨c3, m3, b, rfl, hb⟩ | ⟨c3, m3⟩
  rotate_left
  · rw [law_c0 c3, am_bvx_x, m3, am_bi_i, if_pos rfl]
    unfold f_X10_unlike_28 f_X10_unlike_29
    rw [m_mayb (by decide) M00_0, am_bi_i, if_pos rfl]
    exact OP1.bad hV hC hM hF hI (k := 2) (by omega) rfl rfl
  rw [law_c1 c3, am_bvx_v, m3, am_bi_i, if_neg (show ¬ ((1 : Int32) = 0) by decide)]
  unfold f_X10_unlike_29
  rw [m_may1 M00_0, am_bi_i, if_neg (show ¬ ((1 : Int32) = 0) by decide)]
  exact OP1.good hV hC hM hF hI (wp_ci (c_unlike (by omega) hV hC (by omega) (by omega)) (fun v M q => wp_i q)) (m_unlike_lp (by omega) hV hMz hE (by omega) (by omega) (V 0 5).toNat 0 N (M00 Mm) (by omega) (by omega) sM.rfl)
theorem op_heard (hN : 4200 ≤ N) (h : Inv Mc Mm) (p1 p2 p3 p4 : Int32) : OP2 (f_X9_heard N p1 p2 p3 p4 Mc) (f_X10_heard N p1 p2 p3 p4 Mm) 0 2 := by
  obtain ⟨V, hV, hC, hM, hF, hI⟩ := h
  have hw := hV.1.1
  have hh := hV.1.2.1
  have hns := hV.ns
  have hMz := hM.z
  have hE := hM.z.EM hV.1 hF.z
  unfold f_X9_heard f_X10_heard
  rw [show am_up Mm 0 0 0 = M00 Mm from rfl]
  rcases cell_cs (N := N) hV hC hM p1 p2 with ⟨c1, m1, x, y, rfl, rfl, hx, hy⟩ | ⟨c1, m1⟩
  rotate_left
  · rw [c1, am_bvx_x, m1, am_bi_i, if_pos rfl]
    exact OP2.bad1 hV hC hM hF hI (k := 0) (by omega) rfl rfl
  rw [c1, am_bvx_v, m1, am_bi_i, if_neg (show ¬ ((1 : Int32) = 0) by decide)]
  rcases (bt_0_4095 p3 Mc (M00 Mm) : BT N p3 0 4095 0 4095 Mc (M00 Mm)) with ⟨c2, m2, nt, rfl, hnt⟩ | ⟨c2, m2⟩
  rotate_left
  · rw [not_c0 c2, am_bvx_x, not_m0 m2, am_bi_i, if_pos rfl]
    unfold f_X10_heard_38 f_X10_heard_39
    rw [m_mayb (by decide) M00_0, am_bi_i, if_pos rfl]
    exact OP2.bad2 hV hC hM hF hI (k := 2) (by omega) rfl rfl
  rw [not_c1 c2, am_bvx_v, not_m1 m2, am_bi_i, if_neg (show ¬ ((1 : Int32) = 0) by decide)]
  rcases (bt_0_99 p4 Mc (M00 Mm) : BT N p4 0 99 0 99 Mc (M00 Mm)) with ⟨c3, m3, t, rfl, ht⟩ | ⟨c3, m3⟩
  rotate_left
  · rw [c3, am_bvx_x, m3, am_bi_i, if_pos rfl]
    unfold f_X10_heard_38 f_X10_heard_39
    rw [m_mayb (by decide) M00_0, am_bi_i, if_pos rfl]
    exact OP2.bad2 hV hC hM hF hI (k := 2) (by omega) rfl rfl
  rw [c3, am_bvx_v, m3, am_bi_i, if_neg (show ¬ ((1 : Int32) = 0) by decide)]
  unfold f_X10_heard_39
  rw [m_may1 M00_0, am_bi_i, if_neg (show ¬ ((1 : Int32) = 0) by decide)]
  rw [cellI]
  obtain ⟨k, rfl⟩ : ∃ k : Nat, t = (k : Int) := ⟨t.toNat, by omega⟩
  refine OP2.good hV hC hM hF hI (wp_cv (c_listen (by omega) hV hC hx hy) (fun M q => ?_)) (wp_cv (m_listens (by omega) hV hMz hE hx hy) (fun M q => ?_)) (w := i32 (song (al (shE V x y (V 0 2) 0 8) (shE V x y (V 0 2) 0 8).1) (i32 nt) k (sgk k)))
  · rw [c_song (by omega) (by omega) q.2.2.1, am_bi_i]; exact wp_i ⟨rfl, q.1⟩
  · rw [m_song (by omega) (by omega) q.2, am_bi_i]; exact wp_i ⟨rfl, q.1⟩
theorem op_loudest (hN : 4200 ≤ N) (h : Inv Mc Mm) (p1 p2 p3 p4 : Int32) : OP2 (f_X9_loudest N p1 p2 p3 p4 Mc) (f_X10_loudest N p1 p2 p3 p4 Mm) 0 2 := by
  obtain ⟨V, hV, hC, hM, hF, hI⟩ := h
  have hw := hV.1.1
  have hh := hV.1.2.1
  have hns := hV.ns
  have hMz := hM.z
  have hE := hM.z.EM hV.1 hF.z
  unfold f_X9_loudest f_X10_loudest
  rw [show am_up Mm 0 0 0 = M00 Mm from rfl]
  rcases cell_cs (N := N) hV hC hM p1 p2 with ⟨c1, m1, x, y, rfl, rfl, hx, hy⟩ | ⟨c1, m1⟩
  rotate_left
  · rw [c1, am_bvx_x, m1, am_bi_i, if_pos rfl]
    exact OP2.bad1 hV hC hM hF hI (k := 0) (by omega) rfl rfl
  rw [c1, am_bvx_v, m1, am_bi_i, if_neg (show ¬ ((1 : Int32) = 0) by decide)]
  rcases (bt_0_4095 p3 Mc (M00 Mm) : BT N p3 0 4095 0 4095 Mc (M00 Mm)) with ⟨c2, m2, nt, rfl, hnt⟩ | ⟨c2, m2⟩
  rotate_left
  · rw [not_c0 c2, am_bvx_x, not_m0 m2, am_bi_i, if_pos rfl]
    unfold f_X10_loudest_37 f_X10_loudest_38
    rw [m_mayb (by decide) M00_0, am_bi_i, if_pos rfl]
    exact OP2.bad2 hV hC hM hF hI (k := 2) (by omega) rfl rfl
  rw [not_c1 c2, am_bvx_v, not_m1 m2, am_bi_i, if_neg (show ¬ ((1 : Int32) = 0) by decide)]
  rcases (bt_0_1 p4 Mc (M00 Mm) : BT N p4 0 1 0 1 Mc (M00 Mm)) with ⟨c3, m3, w, rfl, hw⟩ | ⟨c3, m3⟩
  rotate_left
  · rw [c3, am_bvx_x, m3, am_bi_i, if_pos rfl]
    unfold f_X10_loudest_37 f_X10_loudest_38
    rw [m_mayb (by decide) M00_0, am_bi_i, if_pos rfl]
    exact OP2.bad2 hV hC hM hF hI (k := 2) (by omega) rfl rfl
  rw [c3, am_bvx_v, m3, am_bi_i, if_neg (show ¬ ((1 : Int32) = 0) by decide)]
  unfold f_X10_loudest_38
  rw [m_may1 M00_0, am_bi_i, if_neg (show ¬ ((1 : Int32) = 0) by decide)]
  rw [cellI]
  have hES := shE_ok hV (x := x) (y := y) (fog := 0) (by omega)
  have hA := al_alB hES.1 hES.2
  refine OP2.good hV hC hM hF hI (w := i32 (if w = 0 then (pk (al (shE V x y (V 0 2) 0 8) (shE V x y (V 0 2) 0 8).1) (i32 nt) 100).1 else (pk (al (shE V x y (V 0 2) 0 8) (shE V x y (V 0 2) 0 8).1) (i32 nt) 100).2)) (wp_cv (c_listen (by omega) hV hC hx hy) (fun M q => wp_cv (c_findPeak (by omega) hA q.2.2.1 q.2.2.2) (fun M' z => ?_))) (wp_cv (m_listens (by omega) hV hMz hE hx hy) (fun M q => wp_cv (m_findLoudest (by omega) hA q.2) (fun M' z => ?_)))
  · have hs : sC Mc M' := fun a b r => (z.1 a b (by omega)).trans (q.1 a b r)
    by_cases h0 : w = 0
    · rw [if_pos h0]; exact wp_gd ((i32_eq0 (by omega) (by omega)).mpr h0) (wp_i ⟨z.2.1, hs⟩)
    · rw [if_neg h0]; exact wp_ng (fun r => h0 ((i32_eq0 (by omega) (by omega)).mp r)) (wp_i ⟨z.2.2, hs⟩)
  · have hs : sM (M00 Mm) M' := fun a b r => (z.1 a b (by unfold mS at r; omega)).trans (q.1 a b r)
    by_cases h0 : w = 0
    · rw [if_pos h0]; exact wp_gd ((i32_eq0 (by omega) (by omega)).mpr h0) (wp_i ⟨z.2.1, hs⟩)
    · rw [if_neg h0]; exact wp_ng (fun r => h0 ((i32_eq0 (by omega) (by omega)).mp r)) (wp_i ⟨z.2.2, hs⟩)
theorem op_compose (hN : 4200 ≤ N) (h : Inv Mc Mm) (p1 p2 p3 : Int32) : OP2 (f_X9_compose N p1 p2 p3 Mc) (f_X10_compose N p1 p2 p3 Mm) 0 2 := by
  obtain ⟨V, hV, hC, hM, hF, hI⟩ := h
  have hw := hV.1.1
  have hh := hV.1.2.1
  have hns := hV.ns
  have hMz := hM.z
  have hE := hM.z.EM hV.1 hF.z
  unfold f_X9_compose f_X10_compose
  rw [show am_up Mm 0 0 0 = M00 Mm from rfl]
  rcases cell_cs (N := N) hV hC hM p1 p2 with ⟨c1, m1, x, y, rfl, rfl, hx, hy⟩ | ⟨c1, m1⟩
  rotate_left
  · rw [c1, am_bvx_x, m1, am_bi_i, if_pos rfl]
    exact OP2.bad1 hV hC hM hF hI (k := 0) (by omega) rfl rfl
  rw [c1, am_bvx_v, m1, am_bi_i, if_neg (show ¬ ((1 : Int32) = 0) by decide)]
  rcases (bt_1_12 p3 Mc (M00 Mm) : BT N p3 1 12 1 12 Mc (M00 Mm)) with ⟨c2, m2, k, rfl, hk⟩ | ⟨c2, m2⟩
  rotate_left
  · rw [c2, am_bvx_x, m2, am_bi_i, m_mayb (by decide) M00_0, am_bi_i, if_pos rfl]
    exact OP2.bad2 hV hC hM hF hI (k := 2) (by omega) rfl rfl
  rw [c2, am_bvx_v, m2, am_bi_i, m_may1 M00_0, am_bi_i, if_neg (show ¬ ((1 : Int32) = 0) by decide)]
  rw [cellI]
  have hES := shE_ok hV (x := x) (y := y) (fog := 0) (by omega)
  have hA := al_alB hES.1 hES.2
  refine OP2.good hV hC hM hF hI (w := i32 (cp (al (shE V x y (V 0 2) 0 8) (shE V x y (V 0 2) 0 8).1) k 4096).1) (wp_cv (c_listen (by omega) hV hC hx hy) (fun M q => wp_ci (c_best_lp (M0 := M) (by omega) hA 4096 0 N M (by omega) (by omega) q.2.2.1 q.2.2.2 (fun _ _ _ => rfl)) (fun v M' z => wp_i ⟨z.1, fun a b r => (z.2 a b (by omega)).trans (q.1 a b r)⟩))) (wp_cv (m_listens (by omega) hV hMz hE hx hy) (fun M q => wp_mi (m_best_lp (M0 := M) (by omega) hA 4096 0 N M (by omega) (by omega) q.2 (fun _ _ _ => rfl)) (fun v M' z => ⟨z.1, fun a b r => (z.2 a b (by unfold mS at r; omega)).trans (q.1 a b r)⟩)))
theorem op_explain (hN : 4200 ≤ N) (h : Inv Mc Mm) (p1 : Int32) : OP1 (f_X9_explain N p1 Mc) (f_X10_explain N p1 Mm) 2 := by
  obtain ⟨V, hV, hC, hM, hF, hI⟩ := h
  have hw := hV.1.1
  have hh := hV.1.2.1
  have hns := hV.ns
  have hMz := hM.z
  have hE := hM.z.EM hV.1 hF.z
  unfold f_X9_explain f_X10_explain
  rw [show am_up Mm 0 0 0 = M00 Mm from rfl]
  rcases (bt_0_3 p1 Mc (M00 Mm) : BT N p1 0 3 0 3 Mc (M00 Mm)) with ⟨c2, m2, w, rfl, hw⟩ | ⟨c2, m2⟩
  rotate_left
  · rw [c2, am_bvx_x, m2, am_bi_i, m_mayb (by decide) M00_0, am_bi_i, if_pos rfl]
    exact OP1.bad hV hC hM hF hI (k := 2) (by omega) rfl rfl
  rw [c2, am_bvx_v, m2, am_bi_i, m_may1 M00_0, am_bi_i, if_neg (show ¬ ((1 : Int32) = 0) by decide)]
  have hp := pw_8 (n := (V 0 9).toNat) (by omega)
  refine OP1.good hV hC hM hF hI (w := xpV V w) (wp_cv (c_sets (by omega) hV hC) (fun M q => ?_)) (wp_cv (m_so (by omega) hV hMz hF.z) (fun M q => ?_))
  · obtain ⟨q0, q1, q2, q3, q4⟩ := q
    unfold xpV
    rw [i32_toInt (by omega) (by omega)]
    have hk : w = 0 ∨ w = 1 ∨ w = 2 ∨ w = 3 := by omega
    rcases hk with rfl | rfl | rfl | rfl
    · exact wp_gd rfl (wp_i ⟨q1, q0⟩)
    · exact wp_ng (by decide) (wp_gd rfl (wp_i ⟨q2, q0⟩))
    · exact wp_ng (by decide) (wp_ng (by decide) (wp_gd rfl (wp_i ⟨q3, q0⟩)))
    · exact wp_ng (by decide) (wp_ng (by decide) (wp_ng (by decide) (wp_i ⟨q4, q0⟩)))
  · have hR1 := hMz.sM q.1
    have e := m_xp_lp (N := N) hV hR1 q.2 (what := w) (by omega) (2 ^ (V 0 9).toNat) 0 N (by omega) (by omega)
    rw [hR1.2.1.2.2.2.2.1, sh_pw (by omega)]
    exact wp_eqi e ⟨rfl, q.1⟩
theorem op_ask (hN : 4200 ≤ N) (h : Inv Mc Mm) (p1 : Int32) : OP1 (f_X9_ask N p1 Mc) (f_X10_ask N p1 Mm) 2 := by
  obtain ⟨V, hV, hC, hM, hF, hI⟩ := h
  have hw := hV.1.1
  have hh := hV.1.2.1
  have hns := hV.ns
  have hMz := hM.z
  have hE := hM.z.EM hV.1 hF.z
  unfold f_X9_ask f_X10_ask
  rw [show am_up Mm 0 0 0 = M00 Mm from rfl]
  rcases (bt_0_2 p1 Mc (M00 Mm) : BT N p1 0 2 0 2 Mc (M00 Mm)) with ⟨c2, m2, w, rfl, hw⟩ | ⟨c2, m2⟩
  rotate_left
  · rw [c2, am_bvx_x, m2, am_bi_i, m_mayb (by decide) M00_0, am_bi_i, if_pos rfl]
    exact OP1.bad hV hC hM hF hI (k := 2) (by omega) rfl rfl
  rw [c2, am_bvx_v, m2, am_bi_i, m_may1 M00_0, am_bi_i, if_neg (show ¬ ((1 : Int32) = 0) by decide)]
  have hp := pw_8 (n := (V 0 9).toNat) (by omega)
  have hwh : (V 0 0).toNat * (V 0 1).toNat ≤ 100 := Nat.mul_le_mul (show (V 0 0).toNat ≤ 10 by omega) (show (V 0 1).toNat ≤ 10 by omega)
  refine OP1.good hV hC hM hF hI (w := i32 (askV V w)) (wp_cv (c_q (by omega) hV hC) (fun M q => ?_)) (wp_cv (m_so (by omega) hV hMz hF.z) (fun M q => ?_))
  · unfold askV
    by_cases h0 : w = 0
    · rw [if_pos h0]; exact wp_gd ((i32_eq0 (by omega) (by omega)).mpr h0) (wp_i ⟨q.2.1, q.1⟩)
    · rw [if_neg h0]
      refine wp_ng (fun r => h0 ((i32_eq0 (by omega) (by omega)).mp r)) ?_
      by_cases h1 : w = 1
      · rw [if_pos h1]; exact wp_gd ((i32_eq1 (by omega) (by omega)).mpr h1) (wp_i ⟨q.2.2.1, q.1⟩)
      · rw [if_neg h1]; exact wp_ng (fun r => h1 ((i32_eq1 (by omega) (by omega)).mp r)) (wp_i ⟨q.2.2.2, q.1⟩)
  · have hB := xpS_B (V := V) (2 ^ (V 0 9).toNat)
    rw [q.2.1]
    by_cases h0 : (xpS V (2 ^ (V 0 9).toNat)).1 = 0
    · refine wp_gd ((i32_eq0 (by omega) (by omega)).mpr h0) (wp_i ⟨?_, q.1⟩)
      unfold askV
      rw [show qR V = (-1, -1, -1) from by unfold qR; rw [if_pos h0]]
      show (-1 : Int32) = i32 (if w = 0 then -1 else if w = 1 then -1 else -1)
      split
      · rfl
      · split <;> rfl
    · refine wp_ng (fun r => h0 ((i32_eq0 (by omega) (by omega)).mp r)) ?_
      exact wp_mi (m_ask_lp (by omega) hV (hMz.sM q.1) (hF.z.sM q.1) q.2 h0 (by omega) ((V 0 0).toNat * (V 0 1).toNat) 0 N M (by omega) (by omega) sM.rfl q.2) (fun v M' z => ⟨z.1, q.1.trans z.2⟩)
theorem op_deaf (hN : 4200 ≤ N) (h : Inv Mc Mm) (p1 p2 : Int32) : OP2 (f_X9_deaf N p1 p2 Mc) (f_X10_deaf N p1 p2 Mm) 1 2 := by
  obtain ⟨V, hV, hC, hM, hF, hI⟩ := h
  have hw := hV.1.1
  have hh := hV.1.2.1
  have hns := hV.ns
  have hMz := hM.z
  have hE := hM.z.EM hV.1 hF.z
  unfold f_X9_deaf f_X10_deaf
  rw [show am_up Mm 0 0 0 = M00 Mm from rfl]
  rcases field_cs (N := N) (c := 1) hV hC hM p1 (by decide) with ⟨c1, m1, f, rfl, hf⟩ | ⟨c1, m1⟩
  rotate_left
  · rw [c1, am_bvx_x, m1, am_bi_i, if_pos rfl]
    exact OP2.bad1 hV hC hM hF hI (k := 1) (by omega) rfl rfl
  rw [c1, am_bvx_v, m1, am_bi_i, if_neg (show ¬ ((1 : Int32) = 0) by decide)]
  rcases (bt_1_99 p2 Mc (M00 Mm) : BT N p2 1 99 1 99 Mc (M00 Mm)) with ⟨c2, m2, g, rfl, hg⟩ | ⟨c2, m2⟩
  rotate_left
  · rw [c2, am_bvx_x, m2, am_bi_i, m_mayb (by decide) M00_0, am_bi_i, if_pos rfl]
    exact OP2.bad2 hV hC hM hF hI (k := 2) (by omega) rfl rfl
  rw [c2, am_bvx_v, m2, am_bi_i, m_may1 M00_0, am_bi_i, if_neg (show ¬ ((1 : Int32) = 0) by decide)]
  have hb := hV.fld hf
  rw [i32_5, i32_mul, i32_1, i32_add]
  refine OP2.good hV hC hM hF hI (wp_ci (c_deaf (by omega) hV hC (by omega) hf) (fun v M q => wp_i q)) (wp_gd (i32_in (by omega) (by omega) (by omega)) ?_)
  rw [i32_cl (by omega) (by omega), show (5 * (f : Int) + 1).toNat = 5 * f + 1 from by omega, hMz.2.2.2.1 (5 * f + 1) (by omega)]
  have := m_deaf_y (N := N) (by omega) hV hMz hE (g := g) (by omega) hf (ny V f) 0 N (M00 Mm) (by omega) (by unfold ny; omega) sM.rfl
  rw [show V 1 (5 * f + 1) + ((0 : Nat) : Int) = V 1 (5 * f + 1) from by omega] at this
  exact this
theorem op_told (hN : 4200 ≤ N) (h : Inv Mc Mm) (p1 : Int32) : OP1 (f_X9_told N p1 Mc) (f_X10_told N p1 Mm) 2 := by
  obtain ⟨V, hV, hC, hM, hF, hI⟩ := h
  have hw := hV.1.1
  have hh := hV.1.2.1
  have hns := hV.ns
  have hMz := hM.z
  have hE := hM.z.EM hV.1 hF.z
  unfold f_X9_told f_X10_told
  rw [show am_up Mm 0 0 0 = M00 Mm from rfl]
  rcases (bt_0_10 p1 Mc (M00 Mm) : BT N p1 0 10 0 10 Mc (M00 Mm)) with ⟨c2, m2, w, rfl, hw⟩ | ⟨c2, m2⟩
  rotate_left
  · rw [c2, am_bvx_x, m2, am_bi_i, m_mayb (by decide) M00_0, am_bi_i, if_pos rfl]
    exact OP1.bad hV hC hM hF hI (k := 2) (by omega) rfl rfl
  rw [c2, am_bvx_v, m2, am_bi_i, m_may1 M00_0, am_bi_i, if_neg (show ¬ ((1 : Int32) = 0) by decide)]
  rw [i32_toInt (by omega) (by omega)]
  have hk : w = 0 ∨ w = 1 ∨ w = 2 ∨ w = 3 ∨ w = 4 ∨ w = 5 ∨ w = 6 ∨ w = 7 ∨ w = 8 ∨ w = 9 ∨ w = 10 := by omega
  rcases hk with rfl | rfl | rfl | rfl | rfl | rfl | rfl | rfl | rfl | rfl | rfl
  · exact OP1.good hV hC hM hF hI (wp_gd rfl (wp_i ⟨hC.1.1, sC.rfl⟩)) (wp_ng (by decide) (wp_gd rfl (wp_i ⟨hMz.1.1, sM.rfl⟩)))
  · exact OP1.good hV hC hM hF hI (wp_ng (by decide) (wp_gd rfl (wp_i ⟨hC.1.2.1, sC.rfl⟩))) (wp_ng (by decide) (wp_ng (by decide) (wp_gd rfl (wp_i ⟨hMz.1.2.1, sM.rfl⟩))))
  · exact OP1.good hV hC hM hF hI (wp_ng (by decide) (wp_ng (by decide) (wp_gd rfl (wp_i ⟨hC.2.2.1.2.2.1, sC.rfl⟩)))) (wp_ng (by decide) (wp_ng (by decide) (wp_ng (by decide) (wp_gd rfl (wp_i ⟨hMz.2.1.1, sM.rfl⟩)))))
  · exact OP1.good hV hC hM hF hI (wp_ng (by decide) (wp_ng (by decide) (wp_ng (by decide) (wp_gd rfl (wp_i ⟨hC.2.2.2.1.2.2.1, sC.rfl⟩))))) (wp_ng (by decide) (wp_ng (by decide) (wp_ng (by decide) (wp_ng (by decide) (wp_i ⟨hMz.2.1.2.1, sM.rfl⟩)))))
  · exact OP1.good hV hC hM hF hI (wp_ng (by decide) (wp_ng (by decide) (wp_ng (by decide) (wp_ng (by decide) (wp_gd rfl (wp_i ⟨hC.2.2.2.2.1.2.2.1, sC.rfl⟩)))))) (wp_gd (by decide) (wp_ng (by decide) (wp_gd rfl (wp_i ⟨hMz.2.1.2.2.1, sM.rfl⟩))))
  · exact OP1.good hV hC hM hF hI (wp_ng (by decide) (wp_ng (by decide) (wp_ng (by decide) (wp_ng (by decide) (wp_ng (by decide) (wp_gd rfl (wp_i ⟨hC.2.2.2.2.2.1.2.2.1, sC.rfl⟩))))))) (wp_gd (by decide) (wp_ng (by decide) (wp_ng (by decide) (wp_gd rfl (wp_i ⟨hMz.2.1.2.2.2.1, sM.rfl⟩)))))
  · exact OP1.good hV hC hM hF hI (wp_ng (by decide) (wp_ng (by decide) (wp_ng (by decide) (wp_ng (by decide) (wp_ng (by decide) (wp_ng (by decide) (wp_gd rfl (wp_i ⟨hC.2.2.2.2.2.2.1.2.2.1, sC.rfl⟩)))))))) (wp_gd (by decide) (wp_ng (by decide) (wp_ng (by decide) (wp_ng (by decide) (wp_gd rfl (wp_i ⟨hMz.2.1.2.2.2.2.1, sM.rfl⟩))))))
  · exact OP1.good hV hC hM hF hI (wp_ng (by decide) (wp_ng (by decide) (wp_ng (by decide) (wp_ng (by decide) (wp_ng (by decide) (wp_ng (by decide) (wp_ng (by decide) (wp_gd rfl (wp_i ⟨hC.2.1.1, sC.rfl⟩))))))))) (wp_gd (by decide) (wp_ng (by decide) (wp_ng (by decide) (wp_ng (by decide) (wp_ng (by decide) (wp_i ⟨hMz.1.2.2.1, sM.rfl⟩))))))
  · exact OP1.good hV hC hM hF hI (wp_ng (by decide) (wp_ng (by decide) (wp_ng (by decide) (wp_ng (by decide) (wp_ng (by decide) (wp_ng (by decide) (wp_ng (by decide) (wp_ng (by decide) (wp_gd rfl (wp_i ⟨hC.2.1.2, sC.rfl⟩)))))))))) (wp_gd (by decide) (wp_gd (by decide) (wp_gd rfl (wp_i ⟨hMz.1.2.2.2.1, sM.rfl⟩))))
  · exact OP1.good hV hC hM hF hI (wp_ng (by decide) (wp_ng (by decide) (wp_ng (by decide) (wp_ng (by decide) (wp_ng (by decide) (wp_ng (by decide) (wp_ng (by decide) (wp_ng (by decide) (wp_ng (by decide) (wp_gd rfl (wp_i ⟨hC.1.2.2.1, sC.rfl⟩))))))))))) (wp_gd (by decide) (wp_gd (by decide) (wp_ng (by decide) (wp_gd rfl (wp_i ⟨hMz.1.2.2.2.2, sM.rfl⟩)))))
  · exact OP1.good hV hC hM hF hI (wp_ng (by decide) (wp_ng (by decide) (wp_ng (by decide) (wp_ng (by decide) (wp_ng (by decide) (wp_ng (by decide) (wp_ng (by decide) (wp_ng (by decide) (wp_ng (by decide) (wp_ng (by decide) ((wp_i ⟨hC.2.2.2.2.2.2.2.2.2.1, sC.rfl⟩)))))))))))) (wp_gd (by decide) (wp_gd (by decide) (wp_ng (by decide) (wp_ng (by decide) (wp_i ⟨hMz.2.1.2.2.2.2.2, sM.rfl⟩)))))
theorem op_safe (hN : 4200 ≤ N) (h : Inv Mc Mm) : OP0 (f_X9_safe N Mc) (f_X10_safe N Mm) := by
  obtain ⟨V, hV, hC, hM, hF, hI⟩ := h
  have hw := hV.1.1
  have hh := hV.1.2.1
  have hns := hV.ns
  have hMz := hM.z
  have hE := hM.z.EM hV.1 hF.z
  have hwh : (V 0 0).toNat * (V 0 1).toNat ≤ 100 := Nat.mul_le_mul (show (V 0 0).toNat ≤ 10 by omega) (show (V 0 1).toNat ≤ 10 by omega)
  exact OP0.good hV hC hMz hF.z hI.z (c_safe (by omega) hV hC hI.h6) (m_safe_lp (by omega) hV hMz hE ((V 0 0).toNat * (V 0 1).toNat) 0 N (M00 Mm) (by omega) (by omega) sM.rfl)
theorem op_fault (h : Inv Mc Mm) : OP0 (f_X9_fault N Mc) (f_X10_fault N Mm) := by
  obtain ⟨V, hV, hC, hM, hF, hI⟩ := h
  unfold f_X9_fault f_X10_fault
  have e : Mc 0 2 = Mm 0 8 := by obtain ⟨T, tp, I, ni, _, hc, _⟩ := hI; exact hc.1
  rw [e]
  exact OP0.good hV hC hM.z hF.z hI.z (wp_i ⟨rfl, sC.rfl⟩) (wp_i ⟨rfl, sM.rfl⟩)
theorem op_status (h : Inv Mc Mm) (p1 : Int32) : OP0 (f_X9_status N p1 Mc) (f_X10_status N p1 Mm) := by
  obtain ⟨V, hV, hC, hM, hF, hI⟩ := h
  unfold f_X9_status f_X10_status
  have e : Mc 0 3 = Mm 1 0 ∧ Mc 0 4 = Mm 1 1 ∧ Mc 0 5 = Mm 1 2 := by obtain ⟨T, tp, I, ni, _, hc, _⟩ := hI; exact ⟨hc.2.1, hc.2.2.1, hc.2.2.2.1⟩
  rw [show am_up Mm 0 0 0 = M00 Mm from rfl]
  obtain ⟨x, rfl, hx⟩ := i32_ex p1
  have ht : (i32 x).toInt = x := i32_toInt (by omega) (by omega)
  rw [show f_X10_within N (i32 x) 0 2 (M00 Mm) = _ from m_within, am_bi_i]
  by_cases hb : 0 ≤ x ∧ x ≤ 2
  · rw [if_neg (fun q => absurd ((i32_lt0 (by omega) (by omega)).mp q) (by omega)), if_neg (fun q => absurd ((i32_2lt (by omega) (by omega)).mp q) (by omega)), if_neg (show ¬ ((1 : Int32) = 0) by decide)]
    have hk : x = 0 ∨ x = 1 ∨ x = 2 := by omega
    rcases hk with rfl | rfl | rfl
    · exact OP0.good hV hC hM.z hF.z hI.z (wp_gd rfl (wp_i ⟨e.1, sC.rfl⟩)) (wp_gd (i32_in (by omega) (by omega) (by omega)) (wp_i ⟨M00_n (by omega), sM.rfl⟩))
    · exact OP0.good hV hC hM.z hF.z hI.z (wp_ng (by decide) (wp_gd rfl (wp_i ⟨e.2.1, sC.rfl⟩))) (wp_gd (i32_in (by omega) (by omega) (by omega)) (wp_i ⟨M00_n (by omega), sM.rfl⟩))
    · exact OP0.good hV hC hM.z hF.z hI.z (wp_ng (by decide) (wp_ng (by decide) (wp_gd rfl (wp_i ⟨e.2.2, sC.rfl⟩)))) (wp_gd (i32_in (by omega) (by omega) (by omega)) (wp_i ⟨M00_n (by omega), sM.rfl⟩))
  · refine OP0.good hV hC hM.z hF.z hI.z (w := -1) (wp_ng (fun q => by rw [ht] at q; omega) (wp_ng (fun q => by rw [ht] at q; omega) (wp_ng (fun q => by rw [ht] at q; omega) (wp_i ⟨rfl, sC.rfl⟩)))) (wp_gd ?_ (wp_i ⟨rfl, sM.rfl⟩))
    by_cases h2 : x < 0
    · rw [if_pos ((i32_lt0 (by omega) (by omega)).mpr h2)]
    · rw [if_neg (fun q => h2 ((i32_lt0 (by omega) (by omega)).mp q)), if_pos ((i32_2lt (by omega) (by omega)).mpr (by omega))]
theorem op_sums (h : Inv Mc Mm) (p1 : Int32) : OP0 (f_X9_sums N p1 Mc) (f_X10_sums N p1 Mm) := by
  obtain ⟨V, hV, hC, hM, hF, hI⟩ := h
  unfold f_X9_sums f_X10_sums
  have e : ∃ a b : Int32, (Mc 0 10 = a ∧ Mm 0 65 = a) ∧ (Mc 0 1 = b ∧ Mm 0 2 = b) := by obtain ⟨T, tp, I, ni, ht, hc, hi, _⟩ := hI; exact ⟨_, _, ⟨hi.2.1, hi.2.2.1⟩, ht.2.1, ht.2.2.1⟩
  obtain ⟨a, b, ⟨e1, e2⟩, e3, e4⟩ := e
  rw [show am_up Mm 0 0 0 = M00 Mm from rfl, e1, e2, e3, e4]
  obtain ⟨x, rfl, hx⟩ := i32_ex p1
  rw [i32_toInt (by omega) (by omega)]
  by_cases h0 : x = 0
  · exact OP0.good hV hC hM.z hF.z hI.z (wp_gd h0 (wp_i ⟨rfl, sC.rfl⟩)) (wp_gd ((i32_eq0 (by omega) (by omega)).mpr h0) (wp_i ⟨rfl, sM.rfl⟩))
  · by_cases h1 : x = 1
    · exact OP0.good hV hC hM.z hF.z hI.z (wp_ng h0 (wp_gd h1 (wp_i ⟨rfl, sC.rfl⟩))) (wp_ng (fun q => h0 ((i32_eq0 (by omega) (by omega)).mp q)) (wp_gd ((i32_eq1 (by omega) (by omega)).mpr h1) (wp_i ⟨rfl, sM.rfl⟩)))
    · exact OP0.good hV hC hM.z hF.z hI.z (wp_ng h0 (wp_ng h1 (wp_i ⟨rfl, sC.rfl⟩))) (wp_ng (fun q => h0 ((i32_eq0 (by omega) (by omega)).mp q)) (wp_ng (fun q => h1 ((i32_eq1 (by omega) (by omega)).mp q)) (wp_i ⟨rfl, sM.rfl⟩)))
end OA
