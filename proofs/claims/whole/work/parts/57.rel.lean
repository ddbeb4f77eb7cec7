/-! THE TWO MEMORIES AND THE VALLEY -/
theorem am_bi_i (v : Int32) (M : am_M) (k : Int32 → am_M → am_O) : am_bi (some (.ok (some (.int v)), M)) k = k v M := rfl
theorem am_bv_v (M : am_M) (k : am_M → am_O) : am_bv (some (.ok none, M)) k = k M := rfl
theorem am_bix_i (v : Int32) (M : am_M) (k : Int32 → am_M → am_O) : am_bix (some (.ok (some (.int v)), M)) k = k v M := rfl
theorem am_bvx_v (M : am_M) (k : am_M → am_O) : am_bvx (some (.ok none, M)) k = k M := rfl
theorem am_bix_x (x : Nat) (M : am_M) (k : Int32 → am_M → am_O) : am_bix (some (.error x, M)) k = some (.error x, M) := rfl
theorem am_bvx_x (x : Nat) (M : am_M) (k : am_M → am_O) : am_bvx (some (.error x, M)) k = some (.error x, M) := rfl
def TbC (ob ar : Nat) (co li n : Int) (T : Nat → Int) (M : am_M) : Prop := M ob 1 = i32 co ∧ M ob 2 = i32 li ∧ M ob 3 = i32 n ∧ ∀ j : Nat, (j : Int) < n * co → M ar j = i32 (T j)
/-- bounds of all that a valley may be -/
def VX (V : VL) : Prop := VB V ∧ ((1 ≤ V 0 2 ∧ V 0 2 ≤ 99) ∧ (0 ≤ V 0 3 ∧ V 0 3 ≤ 2)) ∧
  ((0 ≤ V 0 5 ∧ V 0 5 ≤ 5) ∧ (0 ≤ V 0 6 ∧ V 0 6 ≤ 4) ∧ (0 ≤ V 0 7 ∧ V 0 7 ≤ 4) ∧ (0 ≤ V 0 8 ∧ V 0 8 ≤ 8) ∧ (0 ≤ V 0 9 ∧ V 0 9 ≤ 8) ∧ (0 ≤ V 0 10 ∧ V 0 10 ≤ 9)) ∧
  (∀ i : Nat, (i : Int) < V 0 5 → (0 ≤ V 1 (5 * i) ∧ V 1 (5 * i) ≤ V 1 (5 * i + 2) ∧ V 1 (5 * i + 2) < V 0 0) ∧ (0 ≤ V 1 (5 * i + 1) ∧ V 1 (5 * i + 1) ≤ V 1 (5 * i + 3) ∧ V 1 (5 * i + 3) < V 0 1) ∧ (1 ≤ V 1 (5 * i + 4) ∧ V 1 (5 * i + 4) ≤ 99)) ∧
  (∀ i : Nat, (i : Int) < V 0 6 → (0 ≤ V 2 (3 * i) ∧ V 2 (3 * i) < V 0 0) ∧ (0 ≤ V 2 (3 * i + 1) ∧ V 2 (3 * i + 1) < V 0 1) ∧ (0 ≤ V 2 (3 * i + 2) ∧ V 2 (3 * i + 2) ≤ 99)) ∧
  (∀ i : Nat, (i : Int) < V 0 7 → (0 ≤ V 3 (2 * i) ∧ V 3 (2 * i) ≤ 9) ∧ (1 ≤ V 3 (2 * i + 1) ∧ V 3 (2 * i + 1) ≤ 9)) ∧
  (∀ i : Nat, (i : Int) < V 0 8 → (0 ≤ V 4 (3 * i) ∧ V 4 (3 * i) < V 0 0) ∧ (0 ≤ V 4 (3 * i + 1) ∧ V 4 (3 * i + 1) < V 0 1) ∧ (1 ≤ V 4 (3 * i + 2) ∧ V 4 (3 * i + 2) ≤ 99)) ∧
  (∀ i : Nat, (i : Int) < V 0 9 → (0 ≤ V 5 (2 * i) ∧ V 5 (2 * i) < V 0 0) ∧ (0 ≤ V 5 (2 * i + 1) ∧ V 5 (2 * i + 1) < V 0 1)) ∧
  (∀ i : Nat, (i : Int) < V 0 10 → (0 ≤ V 8 (4 * i) ∧ V 8 (4 * i) < V 0 0) ∧ (0 ≤ V 8 (4 * i + 1) ∧ V 8 (4 * i + 1) < V 0 1) ∧ (1 ≤ V 8 (4 * i + 2) ∧ V 8 (4 * i + 2) ≤ 99) ∧ (0 ≤ V 8 (4 * i + 3) ∧ V 8 (4 * i + 3) ≤ 24))
/-- the class's tables -/
def RC (V : VL) (M : am_M) : Prop := EC V M ∧ (M 2 2 = i32 (V 0 2) ∧ M 2 3 = i32 (V 0 3)) ∧ TbC 3 4 5 5 (V 0 5) (V 1) M ∧ TbC 5 6 3 4 (V 0 6) (V 2) M ∧ TbC 7 8 2 4 (V 0 7) (V 3) M ∧ TbC 9 10 3 8 (V 0 8) (V 4) M ∧ TbC 11 12 2 8 (V 0 9) (V 5) M ∧ TbC 16 17 4 9 (V 0 10) (V 8) M
/-- the reference's tables (its faces aside) -/
def RT (V : VL) (M : am_M) : Prop := (M 0 33 = i32 (V 0 0) ∧ M 0 34 = i32 (V 0 1) ∧ M 0 40 = i32 (V 0 2) ∧ M 0 41 = i32 (V 0 3) ∧ M 0 42 = i32 (V 0 4)) ∧
  (M 0 36 = i32 (V 0 5) ∧ M 0 37 = i32 (V 0 6) ∧ M 0 38 = i32 (V 0 7) ∧ M 0 35 = i32 (V 0 8) ∧ M 0 39 = i32 (V 0 9) ∧ M 0 60 = i32 (V 0 10)) ∧
  (∀ c, c < 100 → M 11 c = i32 (V 7 c)) ∧
  (∀ j : Nat, (j : Int) < V 0 5 * 5 → M 13 j = i32 (V 1 j)) ∧
  (∀ i : Nat, (i : Int) < V 0 6 → M 14 (2 * i) = i32 (10 * V 2 (3 * i + 1) + V 2 (3 * i)) ∧ M 14 (2 * i + 1) = i32 (V 2 (3 * i + 2))) ∧
  (∀ j : Nat, (j : Int) < V 0 7 * 2 → M 15 j = i32 (V 3 j)) ∧
  (∀ i : Nat, (i : Int) < V 0 8 → M 12 (2 * i) = i32 (10 * V 4 (3 * i + 1) + V 4 (3 * i)) ∧ M 12 (2 * i + 1) = i32 (V 4 (3 * i + 2))) ∧
  (∀ i : Nat, (i : Int) < V 0 9 → M 16 i = i32 (10 * V 5 (2 * i + 1) + V 5 (2 * i))) ∧
  (∀ i : Nat, (i : Int) < V 0 10 → M 25 (3 * i) = i32 (10 * V 8 (4 * i + 1) + V 8 (4 * i)) ∧ M 25 (3 * i + 1) = i32 (V 8 (4 * i + 2)) ∧ M 25 (3 * i + 2) = i32 (V 8 (4 * i + 3)))
def RF (V : VL) (M : am_M) : Prop := ∀ c, c < 100 → M 10 c = i32 (V 6 c) ∧ M 21 c = 0
theorem RT.EM {V : VL} {M : am_M} (h : RT V M) (hB : VB V) (hf : RF V M) : EM V M := by
  refine ⟨h.1.1, h.1.2.1, h.1.2.2.2.2, fun c hc => ?_⟩
  have b := hB.2.2.2 c hc
  rw [(hf c hc).1, (hf c hc).2, h.2.2.1 c hc]
  refine ⟨fun q => ?_, fun _ => rfl, rfl⟩
  have := (i32_le0 (by omega) (by omega)).mp q
  rw [i32_0]; congr 1; omega
theorem TbC.sC {ob ar : Nat} {co li n : Int} {T : Nat → Int} {M M' : am_M} (h : TbC ob ar co li n T M) (q : sC M M') (h1 : ob < 51) (h2 : ar < 51) : TbC ob ar co li n T M' := by
  unfold TbC at *
  rw [q ob 1 (by omega), q ob 2 (by omega), q ob 3 (by omega)]
  refine ⟨h.1, h.2.1, h.2.2.1, fun j hj => ?_⟩
  rw [q ar j (by omega)]
  exact h.2.2.2 j hj
theorem RC.sC {V : VL} {M M' : am_M} (h : RC V M) (q : sC M M') : RC V M' := by
  obtain ⟨h1, h2, h3, h4, h5, h6, h7, h8⟩ := h
  exact ⟨h1.sC q, by rw [q 2 2 (by omega), q 2 3 (by omega)]; exact h2, h3.sC q (by omega) (by omega), h4.sC q (by omega) (by omega), h5.sC q (by omega) (by omega), h6.sC q (by omega) (by omega), h7.sC q (by omega) (by omega), h8.sC q (by omega) (by omega)⟩
theorem RT.of {V : VL} {M M' : am_M} (h : RT V M) (q : ∀ a b, (a = 0 ∧ 33 ≤ b ∧ (b ≤ 42 ∨ b = 60)) ∨ (11 ≤ a ∧ a ≤ 16) ∨ a = 25 → M' a b = M a b) : RT V M' := by
  obtain ⟨h1, h2, h3, h4, h5, h6, h7, h8, h9⟩ := h
  refine ⟨?_, ?_, fun c hc => ?_, fun c hc => ?_, fun c hc => ?_, fun c hc => ?_, fun c hc => ?_, fun c hc => ?_, fun c hc => ?_⟩
  · rw [q 0 33 (by omega), q 0 34 (by omega), q 0 40 (by omega), q 0 41 (by omega), q 0 42 (by omega)]; exact h1
  · rw [q 0 36 (by omega), q 0 37 (by omega), q 0 38 (by omega), q 0 35 (by omega), q 0 39 (by omega), q 0 60 (by omega)]; exact h2
  · rw [q 11 c (by omega)]; exact h3 c hc
  · rw [q 13 c (by omega)]; exact h4 c hc
  · rw [q 14 _ (by omega), q 14 _ (by omega)]; exact h5 c hc
  · rw [q 15 c (by omega)]; exact h6 c hc
  · rw [q 12 _ (by omega), q 12 _ (by omega)]; exact h7 c hc
  · rw [q 16 c (by omega)]; exact h8 c hc
  · rw [q 25 _ (by omega), q 25 _ (by omega), q 25 _ (by omega)]; exact h9 c hc
theorem RT.sM {V : VL} {M M' : am_M} (h : RT V M) (q : sM M M') : RT V M' := h.of (fun a b z => q a b (by unfold mS; omega))
theorem RF.sM {V : VL} {M M' : am_M} (h : RF V M) (q : sM M M') : RF V M' := fun c hc => by
  rw [q 10 c (by unfold mS; omega), q 21 c (by unfold mS; omega)]; exact h c hc
theorem c_at3 {N : Nat} {n : Int} {T : Nat → Int} {M : am_M} (h : TbC 3 4 5 5 n T M) (hn : 0 ≤ n ∧ n ≤ 5) {r k : Nat} (hr : (r : Int) < n) (hk : k < 5) : f_X8_at_3 N (i32 (r : Int)) (i32 (k : Int)) M = some (.ok (some (.int (i32 (T (5 * r + k))))), M) := by
  unfold f_X8_at_3 f_X8_has_3
  rw [h.1, h.2.2.1, if_neg (fun q => absurd ((i32_lt0 (by omega) (by omega)).mp q) (by omega)), if_neg (fun q => absurd ((i32_le (by omega) (by omega) (by omega) (by omega)).mp q) (by omega)), if_neg (fun q => absurd ((i32_lt0 (by omega) (by omega)).mp q) (by omega)), if_neg (fun q => absurd ((i32_le (by omega) (by omega) (by omega) (by omega)).mp q) (by omega))]
  simp only [am_bi_i]
  rw [if_neg (by decide), h.1, i32_mul, i32_add, if_pos (i32_in (by omega) (by omega) (by omega)), i32_cl (by omega) (by omega), h.2.2.2 _ (by omega), show ((r : Int) * 5 + (k : Int)).toNat = 5 * r + k from by omega]
theorem c_at5 {N : Nat} {n : Int} {T : Nat → Int} {M : am_M} (h : TbC 5 6 3 4 n T M) (hn : 0 ≤ n ∧ n ≤ 4) {r k : Nat} (hr : (r : Int) < n) (hk : k < 3) : f_X8_at_5 N (i32 (r : Int)) (i32 (k : Int)) M = some (.ok (some (.int (i32 (T (3 * r + k))))), M) := by
  unfold f_X8_at_5 f_X8_has_5
  rw [h.1, h.2.2.1, if_neg (fun q => absurd ((i32_lt0 (by omega) (by omega)).mp q) (by omega)), if_neg (fun q => absurd ((i32_le (by omega) (by omega) (by omega) (by omega)).mp q) (by omega)), if_neg (fun q => absurd ((i32_lt0 (by omega) (by omega)).mp q) (by omega)), if_neg (fun q => absurd ((i32_le (by omega) (by omega) (by omega) (by omega)).mp q) (by omega))]
  simp only [am_bi_i]
  rw [if_neg (by decide), h.1, i32_mul, i32_add, if_pos (i32_in (by omega) (by omega) (by omega)), i32_cl (by omega) (by omega), h.2.2.2 _ (by omega), show ((r : Int) * 3 + (k : Int)).toNat = 3 * r + k from by omega]
theorem c_at7 {N : Nat} {n : Int} {T : Nat → Int} {M : am_M} (h : TbC 7 8 2 4 n T M) (hn : 0 ≤ n ∧ n ≤ 4) {r k : Nat} (hr : (r : Int) < n) (hk : k < 2) : f_X8_at_7 N (i32 (r : Int)) (i32 (k : Int)) M = some (.ok (some (.int (i32 (T (2 * r + k))))), M) := by
  unfold f_X8_at_7 f_X8_has_7
  rw [h.1, h.2.2.1, if_neg (fun q => absurd ((i32_lt0 (by omega) (by omega)).mp q) (by omega)), if_neg (fun q => absurd ((i32_le (by omega) (by omega) (by omega) (by omega)).mp q) (by omega)), if_neg (fun q => absurd ((i32_lt0 (by omega) (by omega)).mp q) (by omega)), if_neg (fun q => absurd ((i32_le (by omega) (by omega) (by omega) (by omega)).mp q) (by omega))]
  simp only [am_bi_i]
  rw [if_neg (by decide), h.1, i32_mul, i32_add, if_pos (i32_in (by omega) (by omega) (by omega)), i32_cl (by omega) (by omega), h.2.2.2 _ (by omega), show ((r : Int) * 2 + (k : Int)).toNat = 2 * r + k from by omega]
theorem c_at9 {N : Nat} {n : Int} {T : Nat → Int} {M : am_M} (h : TbC 9 10 3 8 n T M) (hn : 0 ≤ n ∧ n ≤ 8) {r k : Nat} (hr : (r : Int) < n) (hk : k < 3) : f_X8_at_9 N (i32 (r : Int)) (i32 (k : Int)) M = some (.ok (some (.int (i32 (T (3 * r + k))))), M) := by
  unfold f_X8_at_9 f_X8_has_9
  rw [h.1, h.2.2.1, if_neg (fun q => absurd ((i32_lt0 (by omega) (by omega)).mp q) (by omega)), if_neg (fun q => absurd ((i32_le (by omega) (by omega) (by omega) (by omega)).mp q) (by omega)), if_neg (fun q => absurd ((i32_lt0 (by omega) (by omega)).mp q) (by omega)), if_neg (fun q => absurd ((i32_le (by omega) (by omega) (by omega) (by omega)).mp q) (by omega))]
  simp only [am_bi_i]
  rw [if_neg (by decide), h.1, i32_mul, i32_add, if_pos (i32_in (by omega) (by omega) (by omega)), i32_cl (by omega) (by omega), h.2.2.2 _ (by omega), show ((r : Int) * 3 + (k : Int)).toNat = 3 * r + k from by omega]
theorem c_at11 {N : Nat} {n : Int} {T : Nat → Int} {M : am_M} (h : TbC 11 12 2 8 n T M) (hn : 0 ≤ n ∧ n ≤ 8) {r k : Nat} (hr : (r : Int) < n) (hk : k < 2) : f_X8_at_11 N (i32 (r : Int)) (i32 (k : Int)) M = some (.ok (some (.int (i32 (T (2 * r + k))))), M) := by
  unfold f_X8_at_11 f_X8_has_11
  rw [h.1, h.2.2.1, if_neg (fun q => absurd ((i32_lt0 (by omega) (by omega)).mp q) (by omega)), if_neg (fun q => absurd ((i32_le (by omega) (by omega) (by omega) (by omega)).mp q) (by omega)), if_neg (fun q => absurd ((i32_lt0 (by omega) (by omega)).mp q) (by omega)), if_neg (fun q => absurd ((i32_le (by omega) (by omega) (by omega) (by omega)).mp q) (by omega))]
  simp only [am_bi_i]
  rw [if_neg (by decide), h.1, i32_mul, i32_add, if_pos (i32_in (by omega) (by omega) (by omega)), i32_cl (by omega) (by omega), h.2.2.2 _ (by omega), show ((r : Int) * 2 + (k : Int)).toNat = 2 * r + k from by omega]
theorem c_at16 {N : Nat} {n : Int} {T : Nat → Int} {M : am_M} (h : TbC 16 17 4 9 n T M) (hn : 0 ≤ n ∧ n ≤ 9) {r k : Nat} (hr : (r : Int) < n) (hk : k < 4) : f_X8_at_16 N (i32 (r : Int)) (i32 (k : Int)) M = some (.ok (some (.int (i32 (T (4 * r + k))))), M) := by
  unfold f_X8_at_16 f_X8_has_16
  rw [h.1, h.2.2.1, if_neg (fun q => absurd ((i32_lt0 (by omega) (by omega)).mp q) (by omega)), if_neg (fun q => absurd ((i32_le (by omega) (by omega) (by omega) (by omega)).mp q) (by omega)), if_neg (fun q => absurd ((i32_lt0 (by omega) (by omega)).mp q) (by omega)), if_neg (fun q => absurd ((i32_le (by omega) (by omega) (by omega) (by omega)).mp q) (by omega))]
  simp only [am_bi_i]
  rw [if_neg (by decide), h.1, i32_mul, i32_add, if_pos (i32_in (by omega) (by omega) (by omega)), i32_cl (by omega) (by omega), h.2.2.2 _ (by omega), show ((r : Int) * 4 + (k : Int)).toNat = 4 * r + k from by omega]
theorem c_cellAt5 {N : Nat} {n : Int} {T : Nat → Int} {M : am_M} (h : TbC 5 6 3 4 n T M) (hn : 0 ≤ n ∧ n ≤ 4) {r : Nat} (hr : (r : Int) < n) : f_X8_cellAt_5 N (i32 (r : Int)) M = some (.ok (some (.int (i32 (10 * T (3 * r + 1) + T (3 * r))))), M) := by
  unfold f_X8_cellAt_5
  have h0 := c_at5 (N := N) h hn hr (k := 0) (by omega)
  have h1 := c_at5 (N := N) h hn hr (k := 1) (by omega)
  rw [show (0 : Int32) = i32 ((0 : Nat) : Int) from rfl, show (1 : Int32) = i32 ((1 : Nat) : Int) from rfl, h0]
  simp only [am_bi_i]
  rw [h1]
  simp only [am_bi_i]
  unfold f_X9_cellOf
  simp only [am_bi_i]
  rw [i32_10, i32_mul, i32_add]
  congr 6
  show _ * _ + T (3 * r) = _
  omega
theorem c_cellAt9 {N : Nat} {n : Int} {T : Nat → Int} {M : am_M} (h : TbC 9 10 3 8 n T M) (hn : 0 ≤ n ∧ n ≤ 8) {r : Nat} (hr : (r : Int) < n) : f_X8_cellAt_9 N (i32 (r : Int)) M = some (.ok (some (.int (i32 (10 * T (3 * r + 1) + T (3 * r))))), M) := by
  unfold f_X8_cellAt_9
  have h0 := c_at9 (N := N) h hn hr (k := 0) (by omega)
  have h1 := c_at9 (N := N) h hn hr (k := 1) (by omega)
  rw [show (0 : Int32) = i32 ((0 : Nat) : Int) from rfl, show (1 : Int32) = i32 ((1 : Nat) : Int) from rfl, h0]
  simp only [am_bi_i]
  rw [h1]
  simp only [am_bi_i]
  unfold f_X9_cellOf
  simp only [am_bi_i]
  rw [i32_10, i32_mul, i32_add]
  congr 6
  show _ * _ + T (3 * r) = _
  omega
theorem c_cellAt11 {N : Nat} {n : Int} {T : Nat → Int} {M : am_M} (h : TbC 11 12 2 8 n T M) (hn : 0 ≤ n ∧ n ≤ 8) {r : Nat} (hr : (r : Int) < n) : f_X8_cellAt_11 N (i32 (r : Int)) M = some (.ok (some (.int (i32 (10 * T (2 * r + 1) + T (2 * r))))), M) := by
  unfold f_X8_cellAt_11
  have h0 := c_at11 (N := N) h hn hr (k := 0) (by omega)
  have h1 := c_at11 (N := N) h hn hr (k := 1) (by omega)
  rw [show (0 : Int32) = i32 ((0 : Nat) : Int) from rfl, show (1 : Int32) = i32 ((1 : Nat) : Int) from rfl, h0]
  simp only [am_bi_i]
  rw [h1]
  simp only [am_bi_i]
  unfold f_X9_cellOf
  simp only [am_bi_i]
  rw [i32_10, i32_mul, i32_add]
  congr 6
  show _ * _ + T (2 * r) = _
  omega
