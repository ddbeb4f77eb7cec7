/-! the clauses of a text -/
def setT (V : VL) (vr ix : Nat) (n : Int) (T : Nat → Int) : VL := fun a b => if a = 0 ∧ b = ix then n else if a = vr then T b else V a b
def apT (V : VL) (vr ix co : Nat) (l : List Int) : VL := setT V vr ix (V 0 ix + 1) (fun b => if co * (V 0 ix).toNat ≤ b then l.getD (b - co * (V 0 ix).toNat) 0 else V vr b)
def set0 (V : VL) (ix : Nat) (v : Int) : VL := fun a b => if a = 0 ∧ b = ix then v else V a b
def setC (V : VL) (vr c : Nat) (v : Int) : VL := fun a b => if a = vr ∧ b = c then v else V a b
def cl (T : Nat → Int) (n k : Nat) (V : VL) (st : ST) : VL × ST :=
  match k with
  | 0 => (set0 (set0 V 0 (rn T n st 2 10).1) 1 (rn T n (rn T n st 2 10).2 2 10).1, (rn T n (rn T n st 2 10).2 2 10).2)
  | 1 => (setC V 6 (10 * (rn T n (rn T n st 0 (V 0 0 - 1)).2 0 (V 0 1 - 1)).1 + (rn T n st 0 (V 0 0 - 1)).1).toNat (rn T n (rn T n (rn T n st 0 (V 0 0 - 1)).2 0 (V 0 1 - 1)).2 1 9).1, (rn T n (rn T n (rn T n st 0 (V 0 0 - 1)).2 0 (V 0 1 - 1)).2 1 9).2)
  | 2 => (setC V 7 (10 * (rn T n (rn T n st 0 (V 0 0 - 1)).2 0 (V 0 1 - 1)).1 + (rn T n st 0 (V 0 0 - 1)).1).toNat (rn T n (rn T n (rn T n st 0 (V 0 0 - 1)).2 0 (V 0 1 - 1)).2 1 9).1, (rn T n (rn T n (rn T n st 0 (V 0 0 - 1)).2 0 (V 0 1 - 1)).2 1 9).2)
  | 3 => (apT V 4 8 3 [(rn T n st 0 (V 0 0 - 1)).1, (rn T n (rn T n st 0 (V 0 0 - 1)).2 0 (V 0 1 - 1)).1, (rn T n (rn T n (rn T n st 0 (V 0 0 - 1)).2 0 (V 0 1 - 1)).2 1 99).1], (rn T n (rn T n (rn T n st 0 (V 0 0 - 1)).2 0 (V 0 1 - 1)).2 1 99).2)
  | 4 => (apT V 1 5 5 [(rn T n st 0 (V 0 0 - 1)).1, (rn T n (rn T n st 0 (V 0 0 - 1)).2 0 (V 0 1 - 1)).1, (rn T n (rn T n (rn T n st 0 (V 0 0 - 1)).2 0 (V 0 1 - 1)).2 (rn T n st 0 (V 0 0 - 1)).1 (V 0 0 - 1)).1, (rn T n (rn T n (rn T n (rn T n st 0 (V 0 0 - 1)).2 0 (V 0 1 - 1)).2 (rn T n st 0 (V 0 0 - 1)).1 (V 0 0 - 1)).2 (rn T n (rn T n st 0 (V 0 0 - 1)).2 0 (V 0 1 - 1)).1 (V 0 1 - 1)).1, (rn T n (rn T n (rn T n (rn T n (rn T n st 0 (V 0 0 - 1)).2 0 (V 0 1 - 1)).2 (rn T n st 0 (V 0 0 - 1)).1 (V 0 0 - 1)).2 (rn T n (rn T n st 0 (V 0 0 - 1)).2 0 (V 0 1 - 1)).1 (V 0 1 - 1)).2 1 99).1], (rn T n (rn T n (rn T n (rn T n (rn T n st 0 (V 0 0 - 1)).2 0 (V 0 1 - 1)).2 (rn T n st 0 (V 0 0 - 1)).1 (V 0 0 - 1)).2 (rn T n (rn T n st 0 (V 0 0 - 1)).2 0 (V 0 1 - 1)).1 (V 0 1 - 1)).2 1 99).2)
  | 5 => (apT V 2 6 3 [(rn T n st 0 (V 0 0 - 1)).1, (rn T n (rn T n st 0 (V 0 0 - 1)).2 0 (V 0 1 - 1)).1, (rn T n (rn T n (rn T n st 0 (V 0 0 - 1)).2 0 (V 0 1 - 1)).2 0 99).1], (rn T n (rn T n (rn T n st 0 (V 0 0 - 1)).2 0 (V 0 1 - 1)).2 0 99).2)
  | 6 => (apT V 3 7 2 [(rn T n st 0 9).1, (rn T n (rn T n st 0 9).2 1 9).1], (rn T n (rn T n st 0 9).2 1 9).2)
  | 7 => (apT V 5 9 2 [(rn T n st 0 (V 0 0 - 1)).1, (rn T n (rn T n st 0 (V 0 0 - 1)).2 0 (V 0 1 - 1)).1], (rn T n (rn T n st 0 (V 0 0 - 1)).2 0 (V 0 1 - 1)).2)
  | 8 => (set0 V 2 (rn T n st 1 99).1, (rn T n st 1 99).2)
  | _ => (set0 V 3 (rn T n st 0 2).1, (rn T n st 0 2).2)
def e18 (M M' : am_M) : Prop := ∀ a b, a ≠ 18 → M' a b = M a b
def SC (T : Nat → Int) (n : Nat) (st : ST) (X M : am_M) : Prop := PT T n M ∧ StC n st M ∧ e18 X M
theorem am_bi_bi {o : am_O} {k : Int32 → am_M → am_O} {l : Int32 → am_M → am_O} : am_bi (am_bi o k) l = am_bi o (fun v M => am_bi (k v M) l) := by
  rcases o with _ | ⟨(_ | (_ | v)), M⟩
  · rfl
  · rfl
  · rfl
  · cases v <;> rfl
theorem am_bi_bv {o : am_O} {k : am_M → am_O} {l : Int32 → am_M → am_O} : am_bi (am_bv o k) l = am_bv o (fun M => am_bi (k M) l) := by
  rcases o with _ | ⟨(_ | (_ | v)), M⟩
  · rfl
  · rfl
  · rfl
  · cases v <;> rfl
theorem am_bv_bi {o : am_O} {k : Int32 → am_M → am_O} {l : am_M → am_O} : am_bv (am_bi o k) l = am_bi o (fun v M => am_bv (k v M) l) := by
  rcases o with _ | ⟨(_ | (_ | v)), M⟩
  · rfl
  · rfl
  · rfl
  · cases v <;> rfl
theorem am_bv_bv {o : am_O} {k : am_M → am_O} {l : am_M → am_O} : am_bv (am_bv o k) l = am_bv o (fun M => am_bv (k M) l) := by
  rcases o with _ | ⟨(_ | (_ | v)), M⟩
  · rfl
  · rfl
  · rfl
  · cases v <;> rfl
section CL
variable {N : Nat} {T : Nat → Int} {n : Nat} {V : VL} {st : ST} {X M : am_M}
theorem SC.rn (hN : 602 ≤ N) (hT : TB T n) (h : SC T n st X M) {lo hi : Int} (hlo : -10 ≤ lo ∧ lo ≤ 999) (hhi : -10 ≤ hi ∧ hi ≤ 999) : wp (f_X5_readNumber N (i32 lo) (i32 hi) M) (rI fun r M' => r = i32 (rn T n st lo hi).1 ∧ SC T n (rn T n st lo hi).2 X M') :=
  wp_mi (c_rn hN hT h.1 h.2.1 (by omega) (by omega)) (fun r M' q => ⟨q.1, h.1.fr q.2.2, q.2.1, fun a b w => (q.2.2 a b (by omega)).trans (h.2.2 a b w)⟩)
theorem SC.up (h : SC T n st X M) {k j : Nat} {v : Int32} (h1 : k ≠ 1) (h2 : k ≠ 18) : SC T n st (am_up X k j v) (am_up M k j v) := by
  obtain ⟨hP, hS, hE⟩ := h
  refine ⟨⟨(up_ne (by omega)).trans hP.1, fun i hi => (up_ne (by omega)).trans (hP.2 i hi)⟩, ?_, fun a b w => ?_⟩
  · cases st with
    | error e =>
      obtain ⟨q1, q2, q3, q4, a, q5, q6⟩ := hS
      exact ⟨q1, q2, (up_ne (by omega)).trans q3, (up_ne (by omega)).trans q4, a, q5, (up_ne (by omega)).trans q6⟩
    | ok a =>
      obtain ⟨q1, q2, q3, q4⟩ := hS
      exact ⟨q1, (up_ne (by omega)).trans q2, (up_ne (by omega)).trans q3, (up_ne (by omega)).trans q4⟩
  · by_cases hk : a = k ∧ b = j
    · rw [hk.1, hk.2, up_eq, up_eq]
    · rw [up_ne (by omega), up_ne (by omega)]; exact hE a b w
/-- the reader's tables -/
def RR (V : VL) (M : am_M) : Prop := RC V (fun a => M (a + 17))
theorem TbC.of {ob ar : Nat} {co li k : Int} {F : Nat → Int} {M M' : am_M} (h : TbC ob ar co li k F M) (q : ∀ a b, a = ob ∨ a = ar → M' a b = M a b) : TbC ob ar co li k F M' := by
  unfold TbC at *
  rw [q ob 1 (Or.inl rfl), q ob 2 (Or.inl rfl), q ob 3 (Or.inl rfl)]
  refine ⟨h.1, h.2.1, h.2.2.1, fun j hj => ?_⟩
  rw [q ar j (Or.inr rfl)]
  exact h.2.2.2 j hj
theorem EC.of {M M' : am_M} (h : EC V M) (q : ∀ a b, a = 2 ∨ (13 ≤ a ∧ a ≤ 15) → M' a b = M a b) : EC V M' := by
  obtain ⟨h1, h2, h3, h4⟩ := h
  refine ⟨(q 2 0 (by omega)).trans h1, (q 2 1 (by omega)).trans h2, (q 13 2 (by omega)).trans h3, fun c hc => ⟨(q 14 c (by omega)).trans (h4 c hc).1, (q 15 c (by omega)).trans (h4 c hc).2⟩⟩
theorem RC.of {M M' : am_M} (h : RC V M) (q : ∀ a b, 2 ≤ a ∧ a ≤ 17 → M' a b = M a b) : RC V M' := by
  obtain ⟨h1, h2, h3, h4, h5, h6, h7, h8⟩ := h
  exact ⟨h1.of (fun a b w => q a b (by omega)), ⟨(q 2 2 (by omega)).trans h2.1, (q 2 3 (by omega)).trans h2.2⟩, h3.of (fun a b w => q a b (by omega)), h4.of (fun a b w => q a b (by omega)), h5.of (fun a b w => q a b (by omega)), h6.of (fun a b w => q a b (by omega)), h7.of (fun a b w => q a b (by omega)), h8.of (fun a b w => q a b (by omega))⟩
theorem TbC.add {ob ar : Nat} {co li k : Int} {F : Nat → Int} {M M' : am_M} (h : TbC ob ar co li k F M) (hk : 0 ≤ k) (hco : 0 ≤ co) (l : List Int) (h1 : M' ob 1 = M ob 1) (h2 : M' ob 2 = M ob 2) (h3 : M' ob 3 = i32 (k + 1)) (h4 : ∀ j : Nat, (j : Int) < k * co → M' ar j = M ar j) (h5 : ∀ i : Nat, (i : Int) < co → M' ar (co.toNat * k.toNat + i) = i32 (l.getD i 0)) : TbC ob ar co li (k + 1) (fun b => if co.toNat * k.toNat ≤ b then l.getD (b - co.toNat * k.toNat) 0 else F b) M' := by
  have hm : ((co.toNat * k.toNat : Nat) : Int) = k * co := by
    rw [Int.natCast_mul, show ((co.toNat : Nat) : Int) = co from by omega, show ((k.toNat : Nat) : Int) = k from by omega, Int.mul_comm]
  refine ⟨h1.trans h.1, h2.trans h.2.1, h3, fun j hj => ?_⟩
  rw [Int.add_mul, Int.one_mul] at hj
  show M' ar j = i32 (if co.toNat * k.toNat ≤ j then l.getD (j - co.toNat * k.toNat) 0 else F j)
  by_cases hc : co.toNat * k.toNat ≤ j
  · rw [if_pos hc]
    have := h5 (j - co.toNat * k.toNat) (by omega)
    rw [show co.toNat * k.toNat + (j - co.toNat * k.toNat) = j from by omega] at this
    exact this
  · rw [if_neg hc, h4 j (by omega)]
    exact h.2.2.2 j (by omega)
theorem RC.t3 {M M' : am_M} (h : RC V M) {k : Int} {F : Nat → Int} (q : ∀ a b, a ≠ 3 → a ≠ 4 → M' a b = M a b) (ht : TbC 3 4 5 5 k F M') : RC (setT V 1 5 k F) M' := by
  obtain ⟨h1, h2, h3, h4, h5, h6, h7, h8⟩ := h
  have e1 : EC V M' := h1.of (fun a b w => q a b (by omega) (by omega))
  exact ⟨e1, ⟨(q 2 2 (by omega) (by omega)).trans h2.1, (q 2 3 (by omega) (by omega)).trans h2.2⟩, ht, h4.of (fun a b w => q a b (by omega) (by omega)), h5.of (fun a b w => q a b (by omega) (by omega)), h6.of (fun a b w => q a b (by omega) (by omega)), h7.of (fun a b w => q a b (by omega) (by omega)), h8.of (fun a b w => q a b (by omega) (by omega))⟩
theorem c_opn3 {k : Int} (hk : 0 ≤ k ∧ k < 5) (h3 : M 20 3 = i32 k) (h2 : M 20 2 = i32 5) : f_X8_open_20 N M = some (.ok (some (.int (i32 k))), am_up M 20 3 (i32 (k + 1))) := by
  unfold f_X8_open_20 f_X8_isFull_20
  rw [h3, h2, if_pos ((i32_lt (by omega) (by omega) (by omega) (by omega)).mpr (by omega))]
  simp only [am_bi_i]
  rw [if_pos trivial, h3, i32_1, i32_add, i32_sub, show k + 1 - 1 = k from by omega]
theorem c_put3 {k c : Int} {v : Int32} (hk : 0 ≤ k ∧ k < 5) (hc : 0 ≤ c ∧ c < 5) (h3 : M 20 3 = i32 (k + 1)) (h1 : M 20 1 = i32 5) : f_X8_put_20 N (i32 k) (i32 c) v M = some (.ok none, am_up M 21 (5 * k.toNat + c.toNat) v) := by
  unfold f_X8_put_20 f_X8_has_20
  rw [if_neg (fun q => absurd ((i32_lt0 (by omega) (by omega)).mp q) (by omega)), h3, if_neg (fun q => absurd ((i32_le (by omega) (by omega) (by omega) (by omega)).mp q) (by omega)), if_neg (fun q => absurd ((i32_lt0 (by omega) (by omega)).mp q) (by omega)), h1, if_neg (fun q => absurd ((i32_le (by omega) (by omega) (by omega) (by omega)).mp q) (by omega))]
  simp only [am_bi_i]
  rw [if_neg (by decide), h1, i32_mul, i32_add, if_pos (i32_in (by omega) (by omega) (by omega)), i32_cl (by omega) (by omega), show (k * 5 + c).toNat = 5 * k.toNat + c.toNat from by omega]
theorem RC.t5 {M M' : am_M} (h : RC V M) {k : Int} {F : Nat → Int} (q : ∀ a b, a ≠ 5 → a ≠ 6 → M' a b = M a b) (ht : TbC 5 6 3 4 k F M') : RC (setT V 2 6 k F) M' := by
  obtain ⟨h1, h2, h3, h4, h5, h6, h7, h8⟩ := h
  have e1 : EC V M' := h1.of (fun a b w => q a b (by omega) (by omega))
  exact ⟨e1, ⟨(q 2 2 (by omega) (by omega)).trans h2.1, (q 2 3 (by omega) (by omega)).trans h2.2⟩, h3.of (fun a b w => q a b (by omega) (by omega)), ht, h5.of (fun a b w => q a b (by omega) (by omega)), h6.of (fun a b w => q a b (by omega) (by omega)), h7.of (fun a b w => q a b (by omega) (by omega)), h8.of (fun a b w => q a b (by omega) (by omega))⟩
theorem c_opn5 {k : Int} (hk : 0 ≤ k ∧ k < 4) (h3 : M 22 3 = i32 k) (h2 : M 22 2 = i32 4) : f_X8_open_22 N M = some (.ok (some (.int (i32 k))), am_up M 22 3 (i32 (k + 1))) := by
  unfold f_X8_open_22 f_X8_isFull_22
  rw [h3, h2, if_pos ((i32_lt (by omega) (by omega) (by omega) (by omega)).mpr (by omega))]
  simp only [am_bi_i]
  rw [if_pos trivial, h3, i32_1, i32_add, i32_sub, show k + 1 - 1 = k from by omega]
theorem c_put5 {k c : Int} {v : Int32} (hk : 0 ≤ k ∧ k < 4) (hc : 0 ≤ c ∧ c < 3) (h3 : M 22 3 = i32 (k + 1)) (h1 : M 22 1 = i32 3) : f_X8_put_22 N (i32 k) (i32 c) v M = some (.ok none, am_up M 23 (3 * k.toNat + c.toNat) v) := by
  unfold f_X8_put_22 f_X8_has_22
  rw [if_neg (fun q => absurd ((i32_lt0 (by omega) (by omega)).mp q) (by omega)), h3, if_neg (fun q => absurd ((i32_le (by omega) (by omega) (by omega) (by omega)).mp q) (by omega)), if_neg (fun q => absurd ((i32_lt0 (by omega) (by omega)).mp q) (by omega)), h1, if_neg (fun q => absurd ((i32_le (by omega) (by omega) (by omega) (by omega)).mp q) (by omega))]
  simp only [am_bi_i]
  rw [if_neg (by decide), h1, i32_mul, i32_add, if_pos (i32_in (by omega) (by omega) (by omega)), i32_cl (by omega) (by omega), show (k * 3 + c).toNat = 3 * k.toNat + c.toNat from by omega]
theorem RC.t7 {M M' : am_M} (h : RC V M) {k : Int} {F : Nat → Int} (q : ∀ a b, a ≠ 7 → a ≠ 8 → M' a b = M a b) (ht : TbC 7 8 2 4 k F M') : RC (setT V 3 7 k F) M' := by
  obtain ⟨h1, h2, h3, h4, h5, h6, h7, h8⟩ := h
  have e1 : EC V M' := h1.of (fun a b w => q a b (by omega) (by omega))
  exact ⟨e1, ⟨(q 2 2 (by omega) (by omega)).trans h2.1, (q 2 3 (by omega) (by omega)).trans h2.2⟩, h3.of (fun a b w => q a b (by omega) (by omega)), h4.of (fun a b w => q a b (by omega) (by omega)), ht, h6.of (fun a b w => q a b (by omega) (by omega)), h7.of (fun a b w => q a b (by omega) (by omega)), h8.of (fun a b w => q a b (by omega) (by omega))⟩
theorem c_opn7 {k : Int} (hk : 0 ≤ k ∧ k < 4) (h3 : M 24 3 = i32 k) (h2 : M 24 2 = i32 4) : f_X8_open_24 N M = some (.ok (some (.int (i32 k))), am_up M 24 3 (i32 (k + 1))) := by
  unfold f_X8_open_24 f_X8_isFull_24
  rw [h3, h2, if_pos ((i32_lt (by omega) (by omega) (by omega) (by omega)).mpr (by omega))]
  simp only [am_bi_i]
  rw [if_pos trivial, h3, i32_1, i32_add, i32_sub, show k + 1 - 1 = k from by omega]
theorem c_put7 {k c : Int} {v : Int32} (hk : 0 ≤ k ∧ k < 4) (hc : 0 ≤ c ∧ c < 2) (h3 : M 24 3 = i32 (k + 1)) (h1 : M 24 1 = i32 2) : f_X8_put_24 N (i32 k) (i32 c) v M = some (.ok none, am_up M 25 (2 * k.toNat + c.toNat) v) := by
  unfold f_X8_put_24 f_X8_has_24
  rw [if_neg (fun q => absurd ((i32_lt0 (by omega) (by omega)).mp q) (by omega)), h3, if_neg (fun q => absurd ((i32_le (by omega) (by omega) (by omega) (by omega)).mp q) (by omega)), if_neg (fun q => absurd ((i32_lt0 (by omega) (by omega)).mp q) (by omega)), h1, if_neg (fun q => absurd ((i32_le (by omega) (by omega) (by omega) (by omega)).mp q) (by omega))]
  simp only [am_bi_i]
  rw [if_neg (by decide), h1, i32_mul, i32_add, if_pos (i32_in (by omega) (by omega) (by omega)), i32_cl (by omega) (by omega), show (k * 2 + c).toNat = 2 * k.toNat + c.toNat from by omega]
theorem RC.t9 {M M' : am_M} (h : RC V M) {k : Int} {F : Nat → Int} (q : ∀ a b, a ≠ 9 → a ≠ 10 → M' a b = M a b) (ht : TbC 9 10 3 8 k F M') : RC (setT V 4 8 k F) M' := by
  obtain ⟨h1, h2, h3, h4, h5, h6, h7, h8⟩ := h
  have e1 : EC V M' := h1.of (fun a b w => q a b (by omega) (by omega))
  exact ⟨e1, ⟨(q 2 2 (by omega) (by omega)).trans h2.1, (q 2 3 (by omega) (by omega)).trans h2.2⟩, h3.of (fun a b w => q a b (by omega) (by omega)), h4.of (fun a b w => q a b (by omega) (by omega)), h5.of (fun a b w => q a b (by omega) (by omega)), ht, h7.of (fun a b w => q a b (by omega) (by omega)), h8.of (fun a b w => q a b (by omega) (by omega))⟩
theorem c_opn9 {k : Int} (hk : 0 ≤ k ∧ k < 8) (h3 : M 26 3 = i32 k) (h2 : M 26 2 = i32 8) : f_X8_open_26 N M = some (.ok (some (.int (i32 k))), am_up M 26 3 (i32 (k + 1))) := by
  unfold f_X8_open_26 f_X8_isFull_26
  rw [h3, h2, if_pos ((i32_lt (by omega) (by omega) (by omega) (by omega)).mpr (by omega))]
  simp only [am_bi_i]
  rw [if_pos trivial, h3, i32_1, i32_add, i32_sub, show k + 1 - 1 = k from by omega]
theorem c_put9 {k c : Int} {v : Int32} (hk : 0 ≤ k ∧ k < 8) (hc : 0 ≤ c ∧ c < 3) (h3 : M 26 3 = i32 (k + 1)) (h1 : M 26 1 = i32 3) : f_X8_put_26 N (i32 k) (i32 c) v M = some (.ok none, am_up M 27 (3 * k.toNat + c.toNat) v) := by
  unfold f_X8_put_26 f_X8_has_26
  rw [if_neg (fun q => absurd ((i32_lt0 (by omega) (by omega)).mp q) (by omega)), h3, if_neg (fun q => absurd ((i32_le (by omega) (by omega) (by omega) (by omega)).mp q) (by omega)), if_neg (fun q => absurd ((i32_lt0 (by omega) (by omega)).mp q) (by omega)), h1, if_neg (fun q => absurd ((i32_le (by omega) (by omega) (by omega) (by omega)).mp q) (by omega))]
  simp only [am_bi_i]
  rw [if_neg (by decide), h1, i32_mul, i32_add, if_pos (i32_in (by omega) (by omega) (by omega)), i32_cl (by omega) (by omega), show (k * 3 + c).toNat = 3 * k.toNat + c.toNat from by omega]
theorem RC.t11 {M M' : am_M} (h : RC V M) {k : Int} {F : Nat → Int} (q : ∀ a b, a ≠ 11 → a ≠ 12 → M' a b = M a b) (ht : TbC 11 12 2 8 k F M') : RC (setT V 5 9 k F) M' := by
  obtain ⟨h1, h2, h3, h4, h5, h6, h7, h8⟩ := h
  have e1 : EC V M' := h1.of (fun a b w => q a b (by omega) (by omega))
  exact ⟨e1, ⟨(q 2 2 (by omega) (by omega)).trans h2.1, (q 2 3 (by omega) (by omega)).trans h2.2⟩, h3.of (fun a b w => q a b (by omega) (by omega)), h4.of (fun a b w => q a b (by omega) (by omega)), h5.of (fun a b w => q a b (by omega) (by omega)), h6.of (fun a b w => q a b (by omega) (by omega)), ht, h8.of (fun a b w => q a b (by omega) (by omega))⟩
theorem c_opn11 {k : Int} (hk : 0 ≤ k ∧ k < 8) (h3 : M 28 3 = i32 k) (h2 : M 28 2 = i32 8) : f_X8_open_28 N M = some (.ok (some (.int (i32 k))), am_up M 28 3 (i32 (k + 1))) := by
  unfold f_X8_open_28 f_X8_isFull_28
  rw [h3, h2, if_pos ((i32_lt (by omega) (by omega) (by omega) (by omega)).mpr (by omega))]
  simp only [am_bi_i]
  rw [if_pos trivial, h3, i32_1, i32_add, i32_sub, show k + 1 - 1 = k from by omega]
theorem c_put11 {k c : Int} {v : Int32} (hk : 0 ≤ k ∧ k < 8) (hc : 0 ≤ c ∧ c < 2) (h3 : M 28 3 = i32 (k + 1)) (h1 : M 28 1 = i32 2) : f_X8_put_28 N (i32 k) (i32 c) v M = some (.ok none, am_up M 29 (2 * k.toNat + c.toNat) v) := by
  unfold f_X8_put_28 f_X8_has_28
  rw [if_neg (fun q => absurd ((i32_lt0 (by omega) (by omega)).mp q) (by omega)), h3, if_neg (fun q => absurd ((i32_le (by omega) (by omega) (by omega) (by omega)).mp q) (by omega)), if_neg (fun q => absurd ((i32_lt0 (by omega) (by omega)).mp q) (by omega)), h1, if_neg (fun q => absurd ((i32_le (by omega) (by omega) (by omega) (by omega)).mp q) (by omega))]
  simp only [am_bi_i]
  rw [if_neg (by decide), h1, i32_mul, i32_add, if_pos (i32_in (by omega) (by omega) (by omega)), i32_cl (by omega) (by omega), show (k * 2 + c).toNat = 2 * k.toNat + c.toNat from by omega]
theorem c_at3r {k c : Int} (hk : 0 ≤ k ∧ k < 5) (hc : 0 ≤ c ∧ c < 5) (h3 : M 20 3 = i32 (k + 1)) (h1 : M 20 1 = i32 5) : f_X8_at_20 N (i32 k) (i32 c) M = some (.ok (some (.int (M 21 (5 * k.toNat + c.toNat)))), M) := by
  unfold f_X8_at_20 f_X8_has_20
  rw [if_neg (fun q => absurd ((i32_lt0 (by omega) (by omega)).mp q) (by omega)), h3, if_neg (fun q => absurd ((i32_le (by omega) (by omega) (by omega) (by omega)).mp q) (by omega)), if_neg (fun q => absurd ((i32_lt0 (by omega) (by omega)).mp q) (by omega)), h1, if_neg (fun q => absurd ((i32_le (by omega) (by omega) (by omega) (by omega)).mp q) (by omega))]
  simp only [am_bi_i]
  rw [if_neg (by decide), h1, i32_mul, i32_add, if_pos (i32_in (by omega) (by omega) (by omega)), i32_cl (by omega) (by omega), show (k * 5 + c).toNat = 5 * k.toNat + c.toNat from by omega]
/-- what a clause may change -/
def fK (M M' : am_M) : Prop := ∀ a b, a ≠ 18 → a ≠ 19 → a ≠ 21 → a ≠ 23 → a ≠ 25 → a ≠ 27 → a ≠ 29 → a ≠ 31 → a ≠ 32 → ((a ≠ 20 ∧ a ≠ 22 ∧ a ≠ 24 ∧ a ≠ 26 ∧ a ≠ 28) ∨ b ≠ 3) → M' a b = M a b
theorem fK.rfl : fK M M := fun _ _ _ _ _ _ _ _ _ _ _ _ => Eq.refl _
theorem fK.trans {M M' M'' : am_M} (h1 : fK M M') (h2 : fK M' M'') : fK M M'' := fun a b w1 w2 w3 w4 w5 w6 w7 w8 w9 w10 => (h2 a b w1 w2 w3 w4 w5 w6 w7 w8 w9 w10).trans (h1 a b w1 w2 w3 w4 w5 w6 w7 w8 w9 w10)
theorem fK.of {M' : am_M} (h : fK M X) (q : e18 X M') : fK M M' := fun a b w1 w2 w3 w4 w5 w6 w7 w8 w9 w10 => (q a b w1).trans (h a b w1 w2 w3 w4 w5 w6 w7 w8 w9 w10)
theorem RR.of {M' : am_M} (h : RR V X) (q : e18 X M') : RR V M' := RC.of h (fun a b w => q (a + 17) b (by omega))
theorem rd_B {lo hi : Int} (hlo : 0 ≤ lo) (hhi : hi ≤ 99) : 0 ≤ (rn T n st lo hi).1 ∧ (rn T n st lo hi).1 ≤ 99 := by
  have := rn_B (T := T) (n := n) (st := st) (lo := lo) (hi := hi) hlo (by omega)
  omega
theorem rd_9 {hi : Int} (hhi : hi ≤ 9) : 0 ≤ (rn T n st 0 hi).1 ∧ (rn T n st 0 hi).1 ≤ 9 := by
  have := rn_B (T := T) (n := n) (st := st) (lo := 0) (hi := hi) (by omega) (by omega)
  omega
theorem c_cl0 (hN : 602 ≤ N) (hT : TB T n) (hV : VX V) (hP : PT T n M) (hS : StC n st M) (hR : RR V M) : wp (f_X5_readNumbers N 0 M) (rV fun M' => SC T n (cl T n 0 V st).2 M' M' ∧ fK M M' ∧ RR (cl T n 0 V st).1 M') := by
  have hw := hV.1.1
  have hh := hV.1.2.1
  have hns := hV.ns
  have h0 : SC T n st M M := ⟨hP, hS, fun _ _ _ => rfl⟩
  have rw0 : M 19 0 = i32 (V 0 0) := hR.1.1
  have rh0 : M 19 1 = i32 (V 0 1) := hR.1.2.1
  unfold f_X5_readNumbers f_X5_readSize
  refine wp_gd rfl (wp_cv (C := fun M' => SC T n (cl T n 0 V st).2 M' M' ∧ fK M M' ∧ RR (cl T n 0 V st).1 M') ?_ (fun M' q => wp_v q))
  refine wp_ci (h0.rn hN hT (lo := 2) (hi := 10) (by omega) (by omega)) ?_
  rintro r1 M1 ⟨rfl, h1⟩
  refine wp_ci ((h1.up (k := 19) (j := 0) (v := i32 (rn T n st 2 10).1) (by omega) (by omega)).rn hN hT (lo := 2) (hi := 10) (by omega) (by omega)) ?_
  rintro r2 M2 ⟨rfl, h2⟩
  have h3 := h2.up (k := 19) (j := 1) (v := i32 (rn T n (rn T n st 2 10).2 2 10).1) (by omega) (by omega)
  refine wp_v ⟨⟨h3.1, h3.2.1, fun _ _ _ => rfl⟩, fK.of (fun a b w1 w2 w3 w4 w5 w6 w7 w8 w9 w10 => by rw [up_ne (by omega), up_ne (by omega)]) h3.2.2, RR.of ?_ h3.2.2⟩
  obtain ⟨g1, g2, g3, g4, g5, g6, g7, g8⟩ := hR
  have tb : ∀ a b, a ≠ 2 → (fun a => am_up (am_up M 19 0 (i32 (rn T n st 2 10).1)) 19 1 (i32 (rn T n (rn T n st 2 10).2 2 10).1) (a + 17)) a b = (fun a => M (a + 17)) a b := fun a b w => by
    show am_up (am_up M 19 0 _) 19 1 _ (a + 17) b = M (a + 17) b
    rw [up_ne (by omega), up_ne (by omega)]
  refine ⟨⟨?_, ?_, (tb 13 2 (by omega)).trans g1.2.2.1, fun c hc => ⟨(tb 14 c (by omega)).trans (g1.2.2.2 c hc).1, (tb 15 c (by omega)).trans (g1.2.2.2 c hc).2⟩⟩, ⟨?_, ?_⟩, g3.of (fun a b w => tb a b (by omega)), g4.of (fun a b w => tb a b (by omega)), g5.of (fun a b w => tb a b (by omega)), g6.of (fun a b w => tb a b (by omega)), g7.of (fun a b w => tb a b (by omega)), g8.of (fun a b w => tb a b (by omega))⟩
  · show am_up (am_up M 19 0 _) 19 1 _ 19 0 = _
    rw [up_ne (by omega), up_eq]; rfl
  · show am_up (am_up M 19 0 _) 19 1 _ 19 1 = _
    rw [up_eq]; rfl
  · show am_up (am_up M 19 0 _) 19 1 _ 19 2 = _
    rw [up_ne (by omega), up_ne (by omega)]; exact g2.1
  · show am_up (am_up M 19 0 _) 19 1 _ 19 3 = _
    rw [up_ne (by omega), up_ne (by omega)]; exact g2.2
theorem c_cl1 (hN : 602 ≤ N) (hT : TB T n) (hV : VX V) (hP : PT T n M) (hS : StC n st M) (hR : RR V M) : wp (f_X5_readNumbers N 1 M) (rV fun M' => SC T n (cl T n 1 V st).2 M' M' ∧ fK M M' ∧ RR (cl T n 1 V st).1 M') := by
  have hw := hV.1.1
  have hh := hV.1.2.1
  have hns := hV.ns
  have h0 : SC T n st M M := ⟨hP, hS, fun _ _ _ => rfl⟩
  have rw0 : M 19 0 = i32 (V 0 0) := hR.1.1
  have rh0 : M 19 1 = i32 (V 0 1) := hR.1.2.1
  unfold f_X5_readNumbers f_X5_readThing_31
  refine wp_ng (show ¬ ((1 : Int32).toInt = 0) by decide) (wp_gd rfl (wp_cv (C := fun M' => SC T n (cl T n 1 V st).2 M' M' ∧ fK M M' ∧ RR (cl T n 1 V st).1 M') ?_ (fun M' q => wp_v q)))
  rw [rw0, i32_1, i32_sub]
  refine wp_ci (h0.rn hN hT (lo := 0) (hi := V 0 0 - 1) (by omega) (by omega)) ?_
  rintro r1 M1 ⟨rfl, h1⟩
  have bx := rd_9 (T := T) (n := n) (st := st) (hi := V 0 0 - 1) (by omega)
  rw [h1.2.2 19 1 (by omega), rh0, i32_sub]
  refine wp_ci (h1.rn hN hT (lo := 0) (hi := V 0 1 - 1) (by omega) (by omega)) ?_
  rintro r2 M2 ⟨rfl, h2⟩
  have by' := rd_9 (T := T) (n := n) (st := (rn T n st 0 (V 0 0 - 1)).2) (hi := V 0 1 - 1) (by omega)
  refine wp_ci (h2.rn hN hT (lo := 1) (hi := 9) (by omega) (by omega)) ?_
  rintro r3 M3 ⟨rfl, h3⟩
  rw [c_cellOf]
  simp only [am_bi_i]
  refine wp_ng (fun q => absurd ((i32_lt0 (by omega) (by omega)).mp q) (by omega)) (wp_ng (fun q => absurd ((i32_100le (by omega) (by omega)).mp q) (by omega)) (wp_gd (i32_in (by omega) (by omega) (by omega)) ?_))
  rw [i32_cl (by omega) (by omega)]
  have h4 := h3.up (k := 31) (j := (10 * (rn T n (rn T n st 0 (V 0 0 - 1)).2 0 (V 0 1 - 1)).1 + (rn T n st 0 (V 0 0 - 1)).1).toNat) (v := i32 (rn T n (rn T n (rn T n st 0 (V 0 0 - 1)).2 0 (V 0 1 - 1)).2 1 9).1) (by omega) (by omega)
  refine wp_v ⟨⟨h4.1, h4.2.1, fun _ _ _ => rfl⟩, fK.of (fun a b w1 w2 w3 w4 w5 w6 w7 w8 w9 w10 => by rw [up_ne (by omega)]) h4.2.2, RR.of ?_ h4.2.2⟩
  obtain ⟨g1, g2, g3, g4, g5, g6, g7, g8⟩ := hR
  have tb : ∀ a b, a ≠ 14 → (fun a => am_up M 31 (10 * (rn T n (rn T n st 0 (V 0 0 - 1)).2 0 (V 0 1 - 1)).1 + (rn T n st 0 (V 0 0 - 1)).1).toNat (i32 (rn T n (rn T n (rn T n st 0 (V 0 0 - 1)).2 0 (V 0 1 - 1)).2 1 9).1) (a + 17)) a b = (fun a => M (a + 17)) a b := fun a b w => by
    show am_up M 31 _ _ (a + 17) b = M (a + 17) b
    rw [up_ne (by omega)]
  have tc : ∀ c, c < 100 → (fun a => am_up M 31 (10 * (rn T n (rn T n st 0 (V 0 0 - 1)).2 0 (V 0 1 - 1)).1 + (rn T n st 0 (V 0 0 - 1)).1).toNat (i32 (rn T n (rn T n (rn T n st 0 (V 0 0 - 1)).2 0 (V 0 1 - 1)).2 1 9).1) (a + 17)) 14 c = i32 ((cl T n 1 V st).1 6 c) := fun c hc => by
    show am_up M 31 _ _ 31 c = i32 (if 6 = 6 ∧ c = (10 * (rn T n (rn T n st 0 (V 0 0 - 1)).2 0 (V 0 1 - 1)).1 + (rn T n st 0 (V 0 0 - 1)).1).toNat then (rn T n (rn T n (rn T n st 0 (V 0 0 - 1)).2 0 (V 0 1 - 1)).2 1 9).1 else V 6 c)
    by_cases hq : c = (10 * (rn T n (rn T n st 0 (V 0 0 - 1)).2 0 (V 0 1 - 1)).1 + (rn T n st 0 (V 0 0 - 1)).1).toNat
    · rw [if_pos ⟨rfl, hq⟩, hq, up_eq]
    · rw [if_neg (fun z => hq z.2), up_ne (by omega)]; exact (g1.2.2.2 c hc).1
  exact ⟨⟨(tb 2 0 (by omega)).trans g1.1, (tb 2 1 (by omega)).trans g1.2.1, (tb 13 2 (by omega)).trans g1.2.2.1, fun c hc => ⟨tc c hc, (tb 15 c (by omega)).trans (g1.2.2.2 c hc).2⟩⟩, ⟨(tb 2 2 (by omega)).trans g2.1, (tb 2 3 (by omega)).trans g2.2⟩, g3.of (fun a b w => tb a b (by omega)), g4.of (fun a b w => tb a b (by omega)), g5.of (fun a b w => tb a b (by omega)), g6.of (fun a b w => tb a b (by omega)), g7.of (fun a b w => tb a b (by omega)), g8.of (fun a b w => tb a b (by omega))⟩
theorem c_cl2 (hN : 602 ≤ N) (hT : TB T n) (hV : VX V) (hP : PT T n M) (hS : StC n st M) (hR : RR V M) : wp (f_X5_readNumbers N 2 M) (rV fun M' => SC T n (cl T n 2 V st).2 M' M' ∧ fK M M' ∧ RR (cl T n 2 V st).1 M') := by
  have hw := hV.1.1
  have hh := hV.1.2.1
  have hns := hV.ns
  have h0 : SC T n st M M := ⟨hP, hS, fun _ _ _ => rfl⟩
  have rw0 : M 19 0 = i32 (V 0 0) := hR.1.1
  have rh0 : M 19 1 = i32 (V 0 1) := hR.1.2.1
  unfold f_X5_readNumbers f_X5_readThing_32
  refine wp_ng (show ¬ ((2 : Int32).toInt = 0) by decide) (wp_ng (show ¬ ((2 : Int32).toInt = 1) by decide) (wp_gd rfl (wp_cv (C := fun M' => SC T n (cl T n 2 V st).2 M' M' ∧ fK M M' ∧ RR (cl T n 2 V st).1 M') ?_ (fun M' q => wp_v q))))
  rw [rw0, i32_1, i32_sub]
  refine wp_ci (h0.rn hN hT (lo := 0) (hi := V 0 0 - 1) (by omega) (by omega)) ?_
  rintro r1 M1 ⟨rfl, h1⟩
  have bx := rd_9 (T := T) (n := n) (st := st) (hi := V 0 0 - 1) (by omega)
  rw [h1.2.2 19 1 (by omega), rh0, i32_sub]
  refine wp_ci (h1.rn hN hT (lo := 0) (hi := V 0 1 - 1) (by omega) (by omega)) ?_
  rintro r2 M2 ⟨rfl, h2⟩
  have by' := rd_9 (T := T) (n := n) (st := (rn T n st 0 (V 0 0 - 1)).2) (hi := V 0 1 - 1) (by omega)
  refine wp_ci (h2.rn hN hT (lo := 1) (hi := 9) (by omega) (by omega)) ?_
  rintro r3 M3 ⟨rfl, h3⟩
  rw [c_cellOf]
  simp only [am_bi_i]
  refine wp_ng (fun q => absurd ((i32_lt0 (by omega) (by omega)).mp q) (by omega)) (wp_ng (fun q => absurd ((i32_100le (by omega) (by omega)).mp q) (by omega)) (wp_gd (i32_in (by omega) (by omega) (by omega)) ?_))
  rw [i32_cl (by omega) (by omega)]
  have h4 := h3.up (k := 32) (j := (10 * (rn T n (rn T n st 0 (V 0 0 - 1)).2 0 (V 0 1 - 1)).1 + (rn T n st 0 (V 0 0 - 1)).1).toNat) (v := i32 (rn T n (rn T n (rn T n st 0 (V 0 0 - 1)).2 0 (V 0 1 - 1)).2 1 9).1) (by omega) (by omega)
  refine wp_v ⟨⟨h4.1, h4.2.1, fun _ _ _ => rfl⟩, fK.of (fun a b w1 w2 w3 w4 w5 w6 w7 w8 w9 w10 => by rw [up_ne (by omega)]) h4.2.2, RR.of ?_ h4.2.2⟩
  obtain ⟨g1, g2, g3, g4, g5, g6, g7, g8⟩ := hR
  have tb : ∀ a b, a ≠ 15 → (fun a => am_up M 32 (10 * (rn T n (rn T n st 0 (V 0 0 - 1)).2 0 (V 0 1 - 1)).1 + (rn T n st 0 (V 0 0 - 1)).1).toNat (i32 (rn T n (rn T n (rn T n st 0 (V 0 0 - 1)).2 0 (V 0 1 - 1)).2 1 9).1) (a + 17)) a b = (fun a => M (a + 17)) a b := fun a b w => by
    show am_up M 32 _ _ (a + 17) b = M (a + 17) b
    rw [up_ne (by omega)]
  have tc : ∀ c, c < 100 → (fun a => am_up M 32 (10 * (rn T n (rn T n st 0 (V 0 0 - 1)).2 0 (V 0 1 - 1)).1 + (rn T n st 0 (V 0 0 - 1)).1).toNat (i32 (rn T n (rn T n (rn T n st 0 (V 0 0 - 1)).2 0 (V 0 1 - 1)).2 1 9).1) (a + 17)) 15 c = i32 ((cl T n 2 V st).1 7 c) := fun c hc => by
    show am_up M 32 _ _ 32 c = i32 (if 7 = 7 ∧ c = (10 * (rn T n (rn T n st 0 (V 0 0 - 1)).2 0 (V 0 1 - 1)).1 + (rn T n st 0 (V 0 0 - 1)).1).toNat then (rn T n (rn T n (rn T n st 0 (V 0 0 - 1)).2 0 (V 0 1 - 1)).2 1 9).1 else V 7 c)
    by_cases hq : c = (10 * (rn T n (rn T n st 0 (V 0 0 - 1)).2 0 (V 0 1 - 1)).1 + (rn T n st 0 (V 0 0 - 1)).1).toNat
    · rw [if_pos ⟨rfl, hq⟩, hq, up_eq]
    · rw [if_neg (fun z => hq z.2), up_ne (by omega)]; exact (g1.2.2.2 c hc).2
  exact ⟨⟨(tb 2 0 (by omega)).trans g1.1, (tb 2 1 (by omega)).trans g1.2.1, (tb 13 2 (by omega)).trans g1.2.2.1, fun c hc => ⟨(tb 14 c (by omega)).trans (g1.2.2.2 c hc).1, tc c hc⟩⟩, ⟨(tb 2 2 (by omega)).trans g2.1, (tb 2 3 (by omega)).trans g2.2⟩, g3.of (fun a b w => tb a b (by omega)), g4.of (fun a b w => tb a b (by omega)), g5.of (fun a b w => tb a b (by omega)), g6.of (fun a b w => tb a b (by omega)), g7.of (fun a b w => tb a b (by omega)), g8.of (fun a b w => tb a b (by omega))⟩
theorem c_cl8 (hN : 602 ≤ N) (hT : TB T n) (hV : VX V) (hP : PT T n M) (hS : StC n st M) (hR : RR V M) : wp (f_X5_readNumbers N 8 M) (rV fun M' => SC T n (cl T n 8 V st).2 M' M' ∧ fK M M' ∧ RR (cl T n 8 V st).1 M') := by
  have hw := hV.1.1
  have hh := hV.1.2.1
  have hns := hV.ns
  have h0 : SC T n st M M := ⟨hP, hS, fun _ _ _ => rfl⟩
  have rw0 : M 19 0 = i32 (V 0 0) := hR.1.1
  have rh0 : M 19 1 = i32 (V 0 1) := hR.1.2.1
  unfold f_X5_readNumbers
  refine wp_ng (show ¬ ((8 : Int32).toInt = 0) by decide) (wp_ng (show ¬ ((8 : Int32).toInt = 1) by decide) (wp_ng (show ¬ ((8 : Int32).toInt = 2) by decide) (wp_ng (show ¬ ((8 : Int32).toInt = 3) by decide) (wp_ng (show ¬ ((8 : Int32).toInt = 4) by decide) (wp_ng (show ¬ ((8 : Int32).toInt = 5) by decide) (wp_ng (show ¬ ((8 : Int32).toInt = 6) by decide) (wp_ng (show ¬ ((8 : Int32).toInt = 7) by decide) (wp_gd rfl ?_))))))))
  refine wp_ci (h0.rn hN hT (lo := 1) (hi := 99) (by omega) (by omega)) ?_
  rintro r1 M1 ⟨rfl, h1⟩
  have h3 := h1.up (k := 19) (j := 2) (v := i32 (rn T n st 1 99).1) (by omega) (by omega)
  refine wp_v ⟨⟨h3.1, h3.2.1, fun _ _ _ => rfl⟩, fK.of (fun a b w1 w2 w3 w4 w5 w6 w7 w8 w9 w10 => by rw [up_ne (by omega)]) h3.2.2, RR.of ?_ h3.2.2⟩
  obtain ⟨g1, g2, g3, g4, g5, g6, g7, g8⟩ := hR
  have tb : ∀ a b, (a ≠ 2 ∨ b ≠ 2) → (fun a => am_up M 19 2 (i32 (rn T n st 1 99).1) (a + 17)) a b = (fun a => M (a + 17)) a b := fun a b w => by
    show am_up M 19 2 _ (a + 17) b = M (a + 17) b
    rw [up_ne (by omega)]
  have tl : (fun a => am_up M 19 2 (i32 (rn T n st 1 99).1) (a + 17)) 2 2 = i32 (rn T n st 1 99).1 := up_eq _ _ _ _
  exact ⟨⟨(tb 2 0 (by omega)).trans g1.1, (tb 2 1 (by omega)).trans g1.2.1, (tb 13 2 (by omega)).trans g1.2.2.1, fun c hc => ⟨(tb 14 c (by omega)).trans (g1.2.2.2 c hc).1, (tb 15 c (by omega)).trans (g1.2.2.2 c hc).2⟩⟩, ⟨tl, (tb 2 3 (by omega)).trans g2.2⟩, g3.of (fun a b w => tb a b (by omega)), g4.of (fun a b w => tb a b (by omega)), g5.of (fun a b w => tb a b (by omega)), g6.of (fun a b w => tb a b (by omega)), g7.of (fun a b w => tb a b (by omega)), g8.of (fun a b w => tb a b (by omega))⟩
theorem c_cl9 (hN : 602 ≤ N) (hT : TB T n) (hV : VX V) (hP : PT T n M) (hS : StC n st M) (hR : RR V M) : wp (f_X5_readNumbers N 9 M) (rV fun M' => SC T n (cl T n 9 V st).2 M' M' ∧ fK M M' ∧ RR (cl T n 9 V st).1 M') := by
  have hw := hV.1.1
  have hh := hV.1.2.1
  have hns := hV.ns
  have h0 : SC T n st M M := ⟨hP, hS, fun _ _ _ => rfl⟩
  have rw0 : M 19 0 = i32 (V 0 0) := hR.1.1
  have rh0 : M 19 1 = i32 (V 0 1) := hR.1.2.1
  unfold f_X5_readNumbers
  refine wp_ng (show ¬ ((9 : Int32).toInt = 0) by decide) (wp_ng (show ¬ ((9 : Int32).toInt = 1) by decide) (wp_ng (show ¬ ((9 : Int32).toInt = 2) by decide) (wp_ng (show ¬ ((9 : Int32).toInt = 3) by decide) (wp_ng (show ¬ ((9 : Int32).toInt = 4) by decide) (wp_ng (show ¬ ((9 : Int32).toInt = 5) by decide) (wp_ng (show ¬ ((9 : Int32).toInt = 6) by decide) (wp_ng (show ¬ ((9 : Int32).toInt = 7) by decide) (wp_ng (show ¬ ((9 : Int32).toInt = 8) by decide) (wp_gd rfl ?_)))))))))
  refine wp_ci (h0.rn hN hT (lo := 0) (hi := 2) (by omega) (by omega)) ?_
  rintro r1 M1 ⟨rfl, h1⟩
  have h3 := h1.up (k := 19) (j := 3) (v := i32 (rn T n st 0 2).1) (by omega) (by omega)
  refine wp_v ⟨⟨h3.1, h3.2.1, fun _ _ _ => rfl⟩, fK.of (fun a b w1 w2 w3 w4 w5 w6 w7 w8 w9 w10 => by rw [up_ne (by omega)]) h3.2.2, RR.of ?_ h3.2.2⟩
  obtain ⟨g1, g2, g3, g4, g5, g6, g7, g8⟩ := hR
  have tb : ∀ a b, (a ≠ 2 ∨ b ≠ 3) → (fun a => am_up M 19 3 (i32 (rn T n st 0 2).1) (a + 17)) a b = (fun a => M (a + 17)) a b := fun a b w => by
    show am_up M 19 3 _ (a + 17) b = M (a + 17) b
    rw [up_ne (by omega)]
  have tl : (fun a => am_up M 19 3 (i32 (rn T n st 0 2).1) (a + 17)) 2 3 = i32 (rn T n st 0 2).1 := up_eq _ _ _ _
  exact ⟨⟨(tb 2 0 (by omega)).trans g1.1, (tb 2 1 (by omega)).trans g1.2.1, (tb 13 2 (by omega)).trans g1.2.2.1, fun c hc => ⟨(tb 14 c (by omega)).trans (g1.2.2.2 c hc).1, (tb 15 c (by omega)).trans (g1.2.2.2 c hc).2⟩⟩, ⟨(tb 2 2 (by omega)).trans g2.1, tl⟩, g3.of (fun a b w => tb a b (by omega)), g4.of (fun a b w => tb a b (by omega)), g5.of (fun a b w => tb a b (by omega)), g6.of (fun a b w => tb a b (by omega)), g7.of (fun a b w => tb a b (by omega)), g8.of (fun a b w => tb a b (by omega))⟩
theorem c_cl3 (hN : 602 ≤ N) (hT : TB T n) (hV : VX V) (hP : PT T n M) (hS : StC n st M) (hR : RR V M) (hfull : V 0 8 < 8) : wp (f_X5_readNumbers N 3 M) (rV fun M' => SC T n (cl T n 3 V st).2 M' M' ∧ fK M M' ∧ RR (cl T n 3 V st).1 M') := by
  have hw := hV.1.1
  have hh := hV.1.2.1
  have hns := hV.ns
  have h0 : SC T n st M M := ⟨hP, hS, fun _ _ _ => rfl⟩
  have rw0 : M 19 0 = i32 (V 0 0) := hR.1.1
  have rh0 : M 19 1 = i32 (V 0 1) := hR.1.2.1
  have t0 : TbC 9 10 3 8 (V 0 8) (V 4) (fun a => M (a + 17)) := hR.2.2.2.2.2.1
  have t1 : M 26 1 = i32 3 := t0.1
  have t2 : M 26 2 = i32 8 := t0.2.1
  have t3 : M 26 3 = i32 (V 0 8) := t0.2.2.1
  unfold f_X5_readNumbers f_X5_readPlaceWith_26 f_X5_readPlace_26
  refine wp_ng (show ¬ ((3 : Int32).toInt = 0) by decide) (wp_ng (show ¬ ((3 : Int32).toInt = 1) by decide) (wp_ng (show ¬ ((3 : Int32).toInt = 2) by decide) (wp_gd rfl ?_)))
  rw [c_opn9 (k := V 0 8) (by omega) t3 t2]
  simp only [am_bi_i]
  try rw [show (0 : Int32) = i32 0 from rfl]
  try rw [show (1 : Int32) = i32 1 from rfl]
  try rw [show (2 : Int32) = i32 2 from rfl]
  try rw [show (3 : Int32) = i32 3 from rfl]
  try rw [show (4 : Int32) = i32 4 from rfl]
  try rw [show (9 : Int32) = i32 9 from rfl]
  try rw [show (99 : Int32) = i32 99 from rfl]
  simp only [am_bi_bi, am_bi_bv, am_bv_bi, am_bv_bv, am_bi_i, am_bv_v]
  have s0 := h0.up (k := 26) (j := 3) (v := i32 (V 0 8 + 1)) (by omega) (by omega)
  rw [show am_up M 26 3 (i32 (V 0 8 + 1)) 19 0 = i32 (V 0 0) from ((s0).2.2 19 0 (by omega)).trans (by rw [up_ne (by omega)]; exact rw0), i32_sub]
  refine wp_ci ((s0).rn hN hT (lo := 0) (hi := (V 0 0 - 1)) (by omega) (by omega)) ?_
  rintro r0 Z0 ⟨rfl, h1⟩
  rw [c_put9 (k := V 0 8) (c := 0) (by omega) (by omega) ((h1.2.2 26 3 (by omega)).trans (by rw [up_eq])) ((h1.2.2 26 1 (by omega)).trans (by rw [up_ne (by omega)]; exact t1)), show 3 * (V 0 8).toNat + (0 : Int).toNat = 3 * (V 0 8).toNat + 0 from rfl]
  simp only [am_bv_v]
  have s1 := h1.up (k := 27) (j := 3 * (V 0 8).toNat + 0) (v := i32 (rn T n st 0 (V 0 0 - 1)).1) (by omega) (by omega)
  generalize hY1 : am_up Z0 27 (3 * (V 0 8).toNat + 0) (i32 (rn T n st 0 (V 0 0 - 1)).1) = Y1 at s1 ⊢
  rw [show Y1 19 1 = i32 (V 0 1) from ((s1).2.2 19 1 (by omega)).trans (by rw [up_ne (by omega), up_ne (by omega)]; exact rh0), i32_sub]
  refine wp_ci ((s1).rn hN hT (lo := 0) (hi := (V 0 1 - 1)) (by omega) (by omega)) ?_
  rintro r1 Z1 ⟨rfl, h2⟩
  rw [c_put9 (k := V 0 8) (c := 1) (by omega) (by omega) ((h2.2.2 26 3 (by omega)).trans (by rw [up_ne (by omega), up_eq])) ((h2.2.2 26 1 (by omega)).trans (by rw [up_ne (by omega), up_ne (by omega)]; exact t1)), show 3 * (V 0 8).toNat + (1 : Int).toNat = 3 * (V 0 8).toNat + 1 from rfl]
  simp only [am_bv_v]
  have s2 := h2.up (k := 27) (j := 3 * (V 0 8).toNat + 1) (v := i32 (rn T n (rn T n st 0 (V 0 0 - 1)).2 0 (V 0 1 - 1)).1) (by omega) (by omega)
  generalize hY2 : am_up Z1 27 (3 * (V 0 8).toNat + 1) (i32 (rn T n (rn T n st 0 (V 0 0 - 1)).2 0 (V 0 1 - 1)).1) = Y2 at s2 ⊢
  refine wp_ci ((s2).rn hN hT (lo := 1) (hi := 99) (by omega) (by omega)) ?_
  rintro r2 Z2 ⟨rfl, h3⟩
  rw [c_put9 (k := V 0 8) (c := 2) (by omega) (by omega) ((h3.2.2 26 3 (by omega)).trans (by rw [up_ne (by omega), up_ne (by omega), up_eq])) ((h3.2.2 26 1 (by omega)).trans (by rw [up_ne (by omega), up_ne (by omega), up_ne (by omega)]; exact t1)), show 3 * (V 0 8).toNat + (2 : Int).toNat = 3 * (V 0 8).toNat + 2 from rfl]
  simp only [am_bv_v]
  have s3 := h3.up (k := 27) (j := 3 * (V 0 8).toNat + 2) (v := i32 (rn T n (rn T n (rn T n st 0 (V 0 0 - 1)).2 0 (V 0 1 - 1)).2 1 99).1) (by omega) (by omega)
  refine wp_v ⟨⟨s3.1, s3.2.1, fun _ _ _ => rfl⟩, fK.of (fun a b w1 w2 w3 w4 w5 w6 w7 w8 w9 w10 => by rw [up_ne (by omega), up_ne (by omega), up_ne (by omega), up_ne (by omega)]) s3.2.2, RR.of ?_ s3.2.2⟩
  refine RC.t9 hR (fun a b w1 w2 => ?_) (t0.add (by omega) (by omega) [(rn T n st 0 (V 0 0 - 1)).1, (rn T n (rn T n st 0 (V 0 0 - 1)).2 0 (V 0 1 - 1)).1, (rn T n (rn T n (rn T n st 0 (V 0 0 - 1)).2 0 (V 0 1 - 1)).2 1 99).1] ?_ ?_ ?_ (fun j hj => ?_) (fun i hi => ?_))
  · show _ = M (a + 17) b
    try simp only []
    rw [up_ne (by omega), up_ne (by omega), up_ne (by omega), up_ne (by omega)]
  · try simp only []
    rw [up_ne (by omega), up_ne (by omega), up_ne (by omega), up_ne (by omega)]
  · try simp only []
    rw [up_ne (by omega), up_ne (by omega), up_ne (by omega), up_ne (by omega)]
  · try simp only []
    rw [up_ne (by omega), up_ne (by omega), up_ne (by omega), up_eq]
  · try simp only []
    rw [up_ne (by omega), up_ne (by omega), up_ne (by omega), up_ne (by omega)]
  · try simp only []
    have hi' : i = 0 ∨ i = 1 ∨ i = 2 := by omega
    rcases hi' with rfl | rfl | rfl
    · rw [show (3 : Int).toNat * (V 0 8).toNat + 0 = 3 * (V 0 8).toNat + 0 from rfl, up_ne (by omega), up_ne (by omega), up_eq]
      rfl
    · rw [show (3 : Int).toNat * (V 0 8).toNat + 1 = 3 * (V 0 8).toNat + 1 from rfl, up_ne (by omega), up_eq]
      rfl
    · rw [show (3 : Int).toNat * (V 0 8).toNat + 2 = 3 * (V 0 8).toNat + 2 from rfl, up_eq]
      rfl
theorem c_cl4 (hN : 602 ≤ N) (hT : TB T n) (hV : VX V) (hP : PT T n M) (hS : StC n st M) (hR : RR V M) (hfull : V 0 5 < 5) : wp (f_X5_readNumbers N 4 M) (rV fun M' => SC T n (cl T n 4 V st).2 M' M' ∧ fK M M' ∧ RR (cl T n 4 V st).1 M') := by
  have hw := hV.1.1
  have hh := hV.1.2.1
  have hns := hV.ns
  have h0 : SC T n st M M := ⟨hP, hS, fun _ _ _ => rfl⟩
  have rw0 : M 19 0 = i32 (V 0 0) := hR.1.1
  have rh0 : M 19 1 = i32 (V 0 1) := hR.1.2.1
  have t0 : TbC 3 4 5 5 (V 0 5) (V 1) (fun a => M (a + 17)) := hR.2.2.1
  have t1 : M 20 1 = i32 5 := t0.1
  have t2 : M 20 2 = i32 5 := t0.2.1
  have t3 : M 20 3 = i32 (V 0 5) := t0.2.2.1
  unfold f_X5_readNumbers f_X5_readField f_X5_readPlace_20
  refine wp_ng (show ¬ ((4 : Int32).toInt = 0) by decide) (wp_ng (show ¬ ((4 : Int32).toInt = 1) by decide) (wp_ng (show ¬ ((4 : Int32).toInt = 2) by decide) (wp_ng (show ¬ ((4 : Int32).toInt = 3) by decide) (wp_gd rfl ?_))))
  rw [c_opn3 (k := V 0 5) (by omega) t3 t2]
  simp only [am_bi_i]
  try rw [show (0 : Int32) = i32 0 from rfl]
  try rw [show (1 : Int32) = i32 1 from rfl]
  try rw [show (2 : Int32) = i32 2 from rfl]
  try rw [show (3 : Int32) = i32 3 from rfl]
  try rw [show (4 : Int32) = i32 4 from rfl]
  try rw [show (9 : Int32) = i32 9 from rfl]
  try rw [show (99 : Int32) = i32 99 from rfl]
  simp only [am_bi_bi, am_bi_bv, am_bv_bi, am_bv_bv, am_bi_i, am_bv_v]
  have s0 := h0.up (k := 20) (j := 3) (v := i32 (V 0 5 + 1)) (by omega) (by omega)
  rw [show am_up M 20 3 (i32 (V 0 5 + 1)) 19 0 = i32 (V 0 0) from ((s0).2.2 19 0 (by omega)).trans (by rw [up_ne (by omega)]; exact rw0), i32_sub]
  refine wp_ci ((s0).rn hN hT (lo := 0) (hi := (V 0 0 - 1)) (by omega) (by omega)) ?_
  rintro r0 Z0 ⟨rfl, h1⟩
  rw [c_put3 (k := V 0 5) (c := 0) (by omega) (by omega) ((h1.2.2 20 3 (by omega)).trans (by rw [up_eq])) ((h1.2.2 20 1 (by omega)).trans (by rw [up_ne (by omega)]; exact t1)), show 5 * (V 0 5).toNat + (0 : Int).toNat = 5 * (V 0 5).toNat + 0 from rfl]
  simp only [am_bv_v]
  have s1 := h1.up (k := 21) (j := 5 * (V 0 5).toNat + 0) (v := i32 (rn T n st 0 (V 0 0 - 1)).1) (by omega) (by omega)
  generalize hY1 : am_up Z0 21 (5 * (V 0 5).toNat + 0) (i32 (rn T n st 0 (V 0 0 - 1)).1) = Y1 at s1 ⊢
  rw [show Y1 19 1 = i32 (V 0 1) from ((s1).2.2 19 1 (by omega)).trans (by rw [up_ne (by omega), up_ne (by omega)]; exact rh0), i32_sub]
  refine wp_ci ((s1).rn hN hT (lo := 0) (hi := (V 0 1 - 1)) (by omega) (by omega)) ?_
  rintro r1 Z1 ⟨rfl, h2⟩
  rw [c_put3 (k := V 0 5) (c := 1) (by omega) (by omega) ((h2.2.2 20 3 (by omega)).trans (by rw [up_ne (by omega), up_eq])) ((h2.2.2 20 1 (by omega)).trans (by rw [up_ne (by omega), up_ne (by omega)]; exact t1)), show 5 * (V 0 5).toNat + (1 : Int).toNat = 5 * (V 0 5).toNat + 1 from rfl]
  simp only [am_bv_v]
  have s2 := h2.up (k := 21) (j := 5 * (V 0 5).toNat + 1) (v := i32 (rn T n (rn T n st 0 (V 0 0 - 1)).2 0 (V 0 1 - 1)).1) (by omega) (by omega)
  generalize hY2 : am_up Z1 21 (5 * (V 0 5).toNat + 1) (i32 (rn T n (rn T n st 0 (V 0 0 - 1)).2 0 (V 0 1 - 1)).1) = Y2 at s2 ⊢
  rw [c_at3r (k := V 0 5) (c := 0) (by omega) (by omega) (((s2).2.2 20 3 (by omega)).trans (by rw [up_ne (by omega), up_ne (by omega), up_eq])) (((s2).2.2 20 1 (by omega)).trans (by rw [up_ne (by omega), up_ne (by omega), up_ne (by omega)]; exact t1)), show Y2 21 (5 * (V 0 5).toNat + (0 : Int).toNat) = i32 (rn T n st 0 (V 0 0 - 1)).1 from ((s2).2.2 21 _ (by omega)).trans (by rw [up_ne (by omega), show 5 * (V 0 5).toNat + (0 : Int).toNat = 5 * (V 0 5).toNat + 0 from rfl, up_eq])]
  simp only [am_bi_i]
  rw [show Y2 19 0 = i32 (V 0 0) from ((s2).2.2 19 0 (by omega)).trans (by rw [up_ne (by omega), up_ne (by omega), up_ne (by omega)]; exact rw0), i32_sub]
  refine wp_ci ((s2).rn hN hT (lo := (rn T n st 0 (V 0 0 - 1)).1) (hi := (V 0 0 - 1)) (by have := rd_9 (T := T) (n := n) (st := st) (hi := V 0 0 - 1) (by omega); omega) (by omega)) ?_
  rintro r2 Z2 ⟨rfl, h3⟩
  rw [c_put3 (k := V 0 5) (c := 2) (by omega) (by omega) ((h3.2.2 20 3 (by omega)).trans (by rw [up_ne (by omega), up_ne (by omega), up_eq])) ((h3.2.2 20 1 (by omega)).trans (by rw [up_ne (by omega), up_ne (by omega), up_ne (by omega)]; exact t1)), show 5 * (V 0 5).toNat + (2 : Int).toNat = 5 * (V 0 5).toNat + 2 from rfl]
  simp only [am_bv_v]
  have s3 := h3.up (k := 21) (j := 5 * (V 0 5).toNat + 2) (v := i32 (rn T n (rn T n (rn T n st 0 (V 0 0 - 1)).2 0 (V 0 1 - 1)).2 (rn T n st 0 (V 0 0 - 1)).1 (V 0 0 - 1)).1) (by omega) (by omega)
  generalize hY3 : am_up Z2 21 (5 * (V 0 5).toNat + 2) (i32 (rn T n (rn T n (rn T n st 0 (V 0 0 - 1)).2 0 (V 0 1 - 1)).2 (rn T n st 0 (V 0 0 - 1)).1 (V 0 0 - 1)).1) = Y3 at s3 ⊢
  rw [c_at3r (k := V 0 5) (c := 1) (by omega) (by omega) (((s3).2.2 20 3 (by omega)).trans (by rw [up_ne (by omega), up_ne (by omega), up_ne (by omega), up_eq])) (((s3).2.2 20 1 (by omega)).trans (by rw [up_ne (by omega), up_ne (by omega), up_ne (by omega), up_ne (by omega)]; exact t1)), show Y3 21 (5 * (V 0 5).toNat + (1 : Int).toNat) = i32 (rn T n (rn T n st 0 (V 0 0 - 1)).2 0 (V 0 1 - 1)).1 from ((s3).2.2 21 _ (by omega)).trans (by rw [up_ne (by omega), show 5 * (V 0 5).toNat + (1 : Int).toNat = 5 * (V 0 5).toNat + 1 from rfl, up_eq])]
  simp only [am_bi_i]
  rw [show Y3 19 1 = i32 (V 0 1) from ((s3).2.2 19 1 (by omega)).trans (by rw [up_ne (by omega), up_ne (by omega), up_ne (by omega), up_ne (by omega)]; exact rh0), i32_sub]
  refine wp_ci ((s3).rn hN hT (lo := (rn T n (rn T n st 0 (V 0 0 - 1)).2 0 (V 0 1 - 1)).1) (hi := (V 0 1 - 1)) (by have := rd_9 (T := T) (n := n) (st := (rn T n st 0 (V 0 0 - 1)).2) (hi := V 0 1 - 1) (by omega); omega) (by omega)) ?_
  rintro r3 Z3 ⟨rfl, h4⟩
  rw [c_put3 (k := V 0 5) (c := 3) (by omega) (by omega) ((h4.2.2 20 3 (by omega)).trans (by rw [up_ne (by omega), up_ne (by omega), up_ne (by omega), up_eq])) ((h4.2.2 20 1 (by omega)).trans (by rw [up_ne (by omega), up_ne (by omega), up_ne (by omega), up_ne (by omega)]; exact t1)), show 5 * (V 0 5).toNat + (3 : Int).toNat = 5 * (V 0 5).toNat + 3 from rfl]
  simp only [am_bv_v]
  have s4 := h4.up (k := 21) (j := 5 * (V 0 5).toNat + 3) (v := i32 (rn T n (rn T n (rn T n (rn T n st 0 (V 0 0 - 1)).2 0 (V 0 1 - 1)).2 (rn T n st 0 (V 0 0 - 1)).1 (V 0 0 - 1)).2 (rn T n (rn T n st 0 (V 0 0 - 1)).2 0 (V 0 1 - 1)).1 (V 0 1 - 1)).1) (by omega) (by omega)
  generalize hY4 : am_up Z3 21 (5 * (V 0 5).toNat + 3) (i32 (rn T n (rn T n (rn T n (rn T n st 0 (V 0 0 - 1)).2 0 (V 0 1 - 1)).2 (rn T n st 0 (V 0 0 - 1)).1 (V 0 0 - 1)).2 (rn T n (rn T n st 0 (V 0 0 - 1)).2 0 (V 0 1 - 1)).1 (V 0 1 - 1)).1) = Y4 at s4 ⊢
  refine wp_ci ((s4).rn hN hT (lo := 1) (hi := 99) (by omega) (by omega)) ?_
  rintro r4 Z4 ⟨rfl, h5⟩
  rw [c_put3 (k := V 0 5) (c := 4) (by omega) (by omega) ((h5.2.2 20 3 (by omega)).trans (by rw [up_ne (by omega), up_ne (by omega), up_ne (by omega), up_ne (by omega), up_eq])) ((h5.2.2 20 1 (by omega)).trans (by rw [up_ne (by omega), up_ne (by omega), up_ne (by omega), up_ne (by omega), up_ne (by omega)]; exact t1)), show 5 * (V 0 5).toNat + (4 : Int).toNat = 5 * (V 0 5).toNat + 4 from rfl]
  simp only [am_bv_v]
  have s5 := h5.up (k := 21) (j := 5 * (V 0 5).toNat + 4) (v := i32 (rn T n (rn T n (rn T n (rn T n (rn T n st 0 (V 0 0 - 1)).2 0 (V 0 1 - 1)).2 (rn T n st 0 (V 0 0 - 1)).1 (V 0 0 - 1)).2 (rn T n (rn T n st 0 (V 0 0 - 1)).2 0 (V 0 1 - 1)).1 (V 0 1 - 1)).2 1 99).1) (by omega) (by omega)
  refine wp_v ⟨⟨s5.1, s5.2.1, fun _ _ _ => rfl⟩, fK.of (fun a b w1 w2 w3 w4 w5 w6 w7 w8 w9 w10 => by rw [up_ne (by omega), up_ne (by omega), up_ne (by omega), up_ne (by omega), up_ne (by omega), up_ne (by omega)]) s5.2.2, RR.of ?_ s5.2.2⟩
  refine RC.t3 hR (fun a b w1 w2 => ?_) (t0.add (by omega) (by omega) [(rn T n st 0 (V 0 0 - 1)).1, (rn T n (rn T n st 0 (V 0 0 - 1)).2 0 (V 0 1 - 1)).1, (rn T n (rn T n (rn T n st 0 (V 0 0 - 1)).2 0 (V 0 1 - 1)).2 (rn T n st 0 (V 0 0 - 1)).1 (V 0 0 - 1)).1, (rn T n (rn T n (rn T n (rn T n st 0 (V 0 0 - 1)).2 0 (V 0 1 - 1)).2 (rn T n st 0 (V 0 0 - 1)).1 (V 0 0 - 1)).2 (rn T n (rn T n st 0 (V 0 0 - 1)).2 0 (V 0 1 - 1)).1 (V 0 1 - 1)).1, (rn T n (rn T n (rn T n (rn T n (rn T n st 0 (V 0 0 - 1)).2 0 (V 0 1 - 1)).2 (rn T n st 0 (V 0 0 - 1)).1 (V 0 0 - 1)).2 (rn T n (rn T n st 0 (V 0 0 - 1)).2 0 (V 0 1 - 1)).1 (V 0 1 - 1)).2 1 99).1] ?_ ?_ ?_ (fun j hj => ?_) (fun i hi => ?_))
  · show _ = M (a + 17) b
    try simp only []
    rw [up_ne (by omega), up_ne (by omega), up_ne (by omega), up_ne (by omega), up_ne (by omega), up_ne (by omega)]
  · try simp only []
    rw [up_ne (by omega), up_ne (by omega), up_ne (by omega), up_ne (by omega), up_ne (by omega), up_ne (by omega)]
  · try simp only []
    rw [up_ne (by omega), up_ne (by omega), up_ne (by omega), up_ne (by omega), up_ne (by omega), up_ne (by omega)]
  · try simp only []
    rw [up_ne (by omega), up_ne (by omega), up_ne (by omega), up_ne (by omega), up_ne (by omega), up_eq]
  · try simp only []
    rw [up_ne (by omega), up_ne (by omega), up_ne (by omega), up_ne (by omega), up_ne (by omega), up_ne (by omega)]
  · try simp only []
    have hi' : i = 0 ∨ i = 1 ∨ i = 2 ∨ i = 3 ∨ i = 4 := by omega
    rcases hi' with rfl | rfl | rfl | rfl | rfl
    · rw [show (5 : Int).toNat * (V 0 5).toNat + 0 = 5 * (V 0 5).toNat + 0 from rfl, up_ne (by omega), up_ne (by omega), up_ne (by omega), up_ne (by omega), up_eq]
      rfl
    · rw [show (5 : Int).toNat * (V 0 5).toNat + 1 = 5 * (V 0 5).toNat + 1 from rfl, up_ne (by omega), up_ne (by omega), up_ne (by omega), up_eq]
      rfl
    · rw [show (5 : Int).toNat * (V 0 5).toNat + 2 = 5 * (V 0 5).toNat + 2 from rfl, up_ne (by omega), up_ne (by omega), up_eq]
      rfl
    · rw [show (5 : Int).toNat * (V 0 5).toNat + 3 = 5 * (V 0 5).toNat + 3 from rfl, up_ne (by omega), up_eq]
      rfl
    · rw [show (5 : Int).toNat * (V 0 5).toNat + 4 = 5 * (V 0 5).toNat + 4 from rfl, up_eq]
      rfl
theorem c_cl5 (hN : 602 ≤ N) (hT : TB T n) (hV : VX V) (hP : PT T n M) (hS : StC n st M) (hR : RR V M) (hfull : V 0 6 < 4) : wp (f_X5_readNumbers N 5 M) (rV fun M' => SC T n (cl T n 5 V st).2 M' M' ∧ fK M M' ∧ RR (cl T n 5 V st).1 M') := by
  have hw := hV.1.1
  have hh := hV.1.2.1
  have hns := hV.ns
  have h0 : SC T n st M M := ⟨hP, hS, fun _ _ _ => rfl⟩
  have rw0 : M 19 0 = i32 (V 0 0) := hR.1.1
  have rh0 : M 19 1 = i32 (V 0 1) := hR.1.2.1
  have t0 : TbC 5 6 3 4 (V 0 6) (V 2) (fun a => M (a + 17)) := hR.2.2.2.1
  have t1 : M 22 1 = i32 3 := t0.1
  have t2 : M 22 2 = i32 4 := t0.2.1
  have t3 : M 22 3 = i32 (V 0 6) := t0.2.2.1
  unfold f_X5_readNumbers f_X5_readPlaceWith_22 f_X5_readPlace_22
  refine wp_ng (show ¬ ((5 : Int32).toInt = 0) by decide) (wp_ng (show ¬ ((5 : Int32).toInt = 1) by decide) (wp_ng (show ¬ ((5 : Int32).toInt = 2) by decide) (wp_ng (show ¬ ((5 : Int32).toInt = 3) by decide) (wp_ng (show ¬ ((5 : Int32).toInt = 4) by decide) (wp_gd rfl ?_)))))
  rw [c_opn5 (k := V 0 6) (by omega) t3 t2]
  simp only [am_bi_i]
  try rw [show (0 : Int32) = i32 0 from rfl]
  try rw [show (1 : Int32) = i32 1 from rfl]
  try rw [show (2 : Int32) = i32 2 from rfl]
  try rw [show (3 : Int32) = i32 3 from rfl]
  try rw [show (4 : Int32) = i32 4 from rfl]
  try rw [show (9 : Int32) = i32 9 from rfl]
  try rw [show (99 : Int32) = i32 99 from rfl]
  simp only [am_bi_bi, am_bi_bv, am_bv_bi, am_bv_bv, am_bi_i, am_bv_v]
  have s0 := h0.up (k := 22) (j := 3) (v := i32 (V 0 6 + 1)) (by omega) (by omega)
  rw [show am_up M 22 3 (i32 (V 0 6 + 1)) 19 0 = i32 (V 0 0) from ((s0).2.2 19 0 (by omega)).trans (by rw [up_ne (by omega)]; exact rw0), i32_sub]
  refine wp_ci ((s0).rn hN hT (lo := 0) (hi := (V 0 0 - 1)) (by omega) (by omega)) ?_
  rintro r0 Z0 ⟨rfl, h1⟩
  rw [c_put5 (k := V 0 6) (c := 0) (by omega) (by omega) ((h1.2.2 22 3 (by omega)).trans (by rw [up_eq])) ((h1.2.2 22 1 (by omega)).trans (by rw [up_ne (by omega)]; exact t1)), show 3 * (V 0 6).toNat + (0 : Int).toNat = 3 * (V 0 6).toNat + 0 from rfl]
  simp only [am_bv_v]
  have s1 := h1.up (k := 23) (j := 3 * (V 0 6).toNat + 0) (v := i32 (rn T n st 0 (V 0 0 - 1)).1) (by omega) (by omega)
  generalize hY1 : am_up Z0 23 (3 * (V 0 6).toNat + 0) (i32 (rn T n st 0 (V 0 0 - 1)).1) = Y1 at s1 ⊢
  rw [show Y1 19 1 = i32 (V 0 1) from ((s1).2.2 19 1 (by omega)).trans (by rw [up_ne (by omega), up_ne (by omega)]; exact rh0), i32_sub]
  refine wp_ci ((s1).rn hN hT (lo := 0) (hi := (V 0 1 - 1)) (by omega) (by omega)) ?_
  rintro r1 Z1 ⟨rfl, h2⟩
  rw [c_put5 (k := V 0 6) (c := 1) (by omega) (by omega) ((h2.2.2 22 3 (by omega)).trans (by rw [up_ne (by omega), up_eq])) ((h2.2.2 22 1 (by omega)).trans (by rw [up_ne (by omega), up_ne (by omega)]; exact t1)), show 3 * (V 0 6).toNat + (1 : Int).toNat = 3 * (V 0 6).toNat + 1 from rfl]
  simp only [am_bv_v]
  have s2 := h2.up (k := 23) (j := 3 * (V 0 6).toNat + 1) (v := i32 (rn T n (rn T n st 0 (V 0 0 - 1)).2 0 (V 0 1 - 1)).1) (by omega) (by omega)
  generalize hY2 : am_up Z1 23 (3 * (V 0 6).toNat + 1) (i32 (rn T n (rn T n st 0 (V 0 0 - 1)).2 0 (V 0 1 - 1)).1) = Y2 at s2 ⊢
  refine wp_ci ((s2).rn hN hT (lo := 0) (hi := 99) (by omega) (by omega)) ?_
  rintro r2 Z2 ⟨rfl, h3⟩
  rw [c_put5 (k := V 0 6) (c := 2) (by omega) (by omega) ((h3.2.2 22 3 (by omega)).trans (by rw [up_ne (by omega), up_ne (by omega), up_eq])) ((h3.2.2 22 1 (by omega)).trans (by rw [up_ne (by omega), up_ne (by omega), up_ne (by omega)]; exact t1)), show 3 * (V 0 6).toNat + (2 : Int).toNat = 3 * (V 0 6).toNat + 2 from rfl]
  simp only [am_bv_v]
  have s3 := h3.up (k := 23) (j := 3 * (V 0 6).toNat + 2) (v := i32 (rn T n (rn T n (rn T n st 0 (V 0 0 - 1)).2 0 (V 0 1 - 1)).2 0 99).1) (by omega) (by omega)
  refine wp_v ⟨⟨s3.1, s3.2.1, fun _ _ _ => rfl⟩, fK.of (fun a b w1 w2 w3 w4 w5 w6 w7 w8 w9 w10 => by rw [up_ne (by omega), up_ne (by omega), up_ne (by omega), up_ne (by omega)]) s3.2.2, RR.of ?_ s3.2.2⟩
  refine RC.t5 hR (fun a b w1 w2 => ?_) (t0.add (by omega) (by omega) [(rn T n st 0 (V 0 0 - 1)).1, (rn T n (rn T n st 0 (V 0 0 - 1)).2 0 (V 0 1 - 1)).1, (rn T n (rn T n (rn T n st 0 (V 0 0 - 1)).2 0 (V 0 1 - 1)).2 0 99).1] ?_ ?_ ?_ (fun j hj => ?_) (fun i hi => ?_))
  · show _ = M (a + 17) b
    try simp only []
    rw [up_ne (by omega), up_ne (by omega), up_ne (by omega), up_ne (by omega)]
  · try simp only []
    rw [up_ne (by omega), up_ne (by omega), up_ne (by omega), up_ne (by omega)]
  · try simp only []
    rw [up_ne (by omega), up_ne (by omega), up_ne (by omega), up_ne (by omega)]
  · try simp only []
    rw [up_ne (by omega), up_ne (by omega), up_ne (by omega), up_eq]
  · try simp only []
    rw [up_ne (by omega), up_ne (by omega), up_ne (by omega), up_ne (by omega)]
  · try simp only []
    have hi' : i = 0 ∨ i = 1 ∨ i = 2 := by omega
    rcases hi' with rfl | rfl | rfl
    · rw [show (3 : Int).toNat * (V 0 6).toNat + 0 = 3 * (V 0 6).toNat + 0 from rfl, up_ne (by omega), up_ne (by omega), up_eq]
      rfl
    · rw [show (3 : Int).toNat * (V 0 6).toNat + 1 = 3 * (V 0 6).toNat + 1 from rfl, up_ne (by omega), up_eq]
      rfl
    · rw [show (3 : Int).toNat * (V 0 6).toNat + 2 = 3 * (V 0 6).toNat + 2 from rfl, up_eq]
      rfl
theorem c_cl6 (hN : 602 ≤ N) (hT : TB T n) (hV : VX V) (hP : PT T n M) (hS : StC n st M) (hR : RR V M) (hfull : V 0 7 < 4) : wp (f_X5_readNumbers N 6 M) (rV fun M' => SC T n (cl T n 6 V st).2 M' M' ∧ fK M M' ∧ RR (cl T n 6 V st).1 M') := by
  have hw := hV.1.1
  have hh := hV.1.2.1
  have hns := hV.ns
  have h0 : SC T n st M M := ⟨hP, hS, fun _ _ _ => rfl⟩
  have rw0 : M 19 0 = i32 (V 0 0) := hR.1.1
  have rh0 : M 19 1 = i32 (V 0 1) := hR.1.2.1
  have t0 : TbC 7 8 2 4 (V 0 7) (V 3) (fun a => M (a + 17)) := hR.2.2.2.2.1
  have t1 : M 24 1 = i32 2 := t0.1
  have t2 : M 24 2 = i32 4 := t0.2.1
  have t3 : M 24 3 = i32 (V 0 7) := t0.2.2.1
  unfold f_X5_readNumbers f_X5_readSeason
  refine wp_ng (show ¬ ((6 : Int32).toInt = 0) by decide) (wp_ng (show ¬ ((6 : Int32).toInt = 1) by decide) (wp_ng (show ¬ ((6 : Int32).toInt = 2) by decide) (wp_ng (show ¬ ((6 : Int32).toInt = 3) by decide) (wp_ng (show ¬ ((6 : Int32).toInt = 4) by decide) (wp_ng (show ¬ ((6 : Int32).toInt = 5) by decide) (wp_gd rfl ?_))))))
  rw [c_opn7 (k := V 0 7) (by omega) t3 t2]
  simp only [am_bi_i]
  try rw [show (0 : Int32) = i32 0 from rfl]
  try rw [show (1 : Int32) = i32 1 from rfl]
  try rw [show (2 : Int32) = i32 2 from rfl]
  try rw [show (3 : Int32) = i32 3 from rfl]
  try rw [show (4 : Int32) = i32 4 from rfl]
  try rw [show (9 : Int32) = i32 9 from rfl]
  try rw [show (99 : Int32) = i32 99 from rfl]
  simp only [am_bi_bi, am_bi_bv, am_bv_bi, am_bv_bv, am_bi_i, am_bv_v]
  have s0 := h0.up (k := 24) (j := 3) (v := i32 (V 0 7 + 1)) (by omega) (by omega)
  refine wp_ci ((s0).rn hN hT (lo := 0) (hi := 9) (by omega) (by omega)) ?_
  rintro r0 Z0 ⟨rfl, h1⟩
  rw [c_put7 (k := V 0 7) (c := 0) (by omega) (by omega) ((h1.2.2 24 3 (by omega)).trans (by rw [up_eq])) ((h1.2.2 24 1 (by omega)).trans (by rw [up_ne (by omega)]; exact t1)), show 2 * (V 0 7).toNat + (0 : Int).toNat = 2 * (V 0 7).toNat + 0 from rfl]
  simp only [am_bv_v]
  have s1 := h1.up (k := 25) (j := 2 * (V 0 7).toNat + 0) (v := i32 (rn T n st 0 9).1) (by omega) (by omega)
  generalize hY1 : am_up Z0 25 (2 * (V 0 7).toNat + 0) (i32 (rn T n st 0 9).1) = Y1 at s1 ⊢
  refine wp_ci ((s1).rn hN hT (lo := 1) (hi := 9) (by omega) (by omega)) ?_
  rintro r1 Z1 ⟨rfl, h2⟩
  rw [c_put7 (k := V 0 7) (c := 1) (by omega) (by omega) ((h2.2.2 24 3 (by omega)).trans (by rw [up_ne (by omega), up_eq])) ((h2.2.2 24 1 (by omega)).trans (by rw [up_ne (by omega), up_ne (by omega)]; exact t1)), show 2 * (V 0 7).toNat + (1 : Int).toNat = 2 * (V 0 7).toNat + 1 from rfl]
  simp only [am_bv_v]
  have s2 := h2.up (k := 25) (j := 2 * (V 0 7).toNat + 1) (v := i32 (rn T n (rn T n st 0 9).2 1 9).1) (by omega) (by omega)
  refine wp_v ⟨⟨s2.1, s2.2.1, fun _ _ _ => rfl⟩, fK.of (fun a b w1 w2 w3 w4 w5 w6 w7 w8 w9 w10 => by rw [up_ne (by omega), up_ne (by omega), up_ne (by omega)]) s2.2.2, RR.of ?_ s2.2.2⟩
  refine RC.t7 hR (fun a b w1 w2 => ?_) (t0.add (by omega) (by omega) [(rn T n st 0 9).1, (rn T n (rn T n st 0 9).2 1 9).1] ?_ ?_ ?_ (fun j hj => ?_) (fun i hi => ?_))
  · show _ = M (a + 17) b
    try simp only []
    rw [up_ne (by omega), up_ne (by omega), up_ne (by omega)]
  · try simp only []
    rw [up_ne (by omega), up_ne (by omega), up_ne (by omega)]
  · try simp only []
    rw [up_ne (by omega), up_ne (by omega), up_ne (by omega)]
  · try simp only []
    rw [up_ne (by omega), up_ne (by omega), up_eq]
  · try simp only []
    rw [up_ne (by omega), up_ne (by omega), up_ne (by omega)]
  · try simp only []
    have hi' : i = 0 ∨ i = 1 := by omega
    rcases hi' with rfl | rfl
    · rw [show (2 : Int).toNat * (V 0 7).toNat + 0 = 2 * (V 0 7).toNat + 0 from rfl, up_ne (by omega), up_eq]
      rfl
    · rw [show (2 : Int).toNat * (V 0 7).toNat + 1 = 2 * (V 0 7).toNat + 1 from rfl, up_eq]
      rfl
theorem c_cl7 (hN : 602 ≤ N) (hT : TB T n) (hV : VX V) (hP : PT T n M) (hS : StC n st M) (hR : RR V M) (hfull : V 0 9 < 8) : wp (f_X5_readNumbers N 7 M) (rV fun M' => SC T n (cl T n 7 V st).2 M' M' ∧ fK M M' ∧ RR (cl T n 7 V st).1 M') := by
  have hw := hV.1.1
  have hh := hV.1.2.1
  have hns := hV.ns
  have h0 : SC T n st M M := ⟨hP, hS, fun _ _ _ => rfl⟩
  have rw0 : M 19 0 = i32 (V 0 0) := hR.1.1
  have rh0 : M 19 1 = i32 (V 0 1) := hR.1.2.1
  have t0 : TbC 11 12 2 8 (V 0 9) (V 5) (fun a => M (a + 17)) := hR.2.2.2.2.2.2.1
  have t1 : M 28 1 = i32 2 := t0.1
  have t2 : M 28 2 = i32 8 := t0.2.1
  have t3 : M 28 3 = i32 (V 0 9) := t0.2.2.1
  unfold f_X5_readNumbers f_X5_readPlace_28
  refine wp_ng (show ¬ ((7 : Int32).toInt = 0) by decide) (wp_ng (show ¬ ((7 : Int32).toInt = 1) by decide) (wp_ng (show ¬ ((7 : Int32).toInt = 2) by decide) (wp_ng (show ¬ ((7 : Int32).toInt = 3) by decide) (wp_ng (show ¬ ((7 : Int32).toInt = 4) by decide) (wp_ng (show ¬ ((7 : Int32).toInt = 5) by decide) (wp_ng (show ¬ ((7 : Int32).toInt = 6) by decide) (wp_gd rfl ?_)))))))
  rw [c_opn11 (k := V 0 9) (by omega) t3 t2]
  simp only [am_bi_i]
  try rw [show (0 : Int32) = i32 0 from rfl]
  try rw [show (1 : Int32) = i32 1 from rfl]
  try rw [show (2 : Int32) = i32 2 from rfl]
  try rw [show (3 : Int32) = i32 3 from rfl]
  try rw [show (4 : Int32) = i32 4 from rfl]
  try rw [show (9 : Int32) = i32 9 from rfl]
  try rw [show (99 : Int32) = i32 99 from rfl]
  simp only [am_bi_bi, am_bi_bv, am_bv_bi, am_bv_bv, am_bi_i, am_bv_v]
  have s0 := h0.up (k := 28) (j := 3) (v := i32 (V 0 9 + 1)) (by omega) (by omega)
  rw [show am_up M 28 3 (i32 (V 0 9 + 1)) 19 0 = i32 (V 0 0) from ((s0).2.2 19 0 (by omega)).trans (by rw [up_ne (by omega)]; exact rw0), i32_sub]
  refine wp_ci ((s0).rn hN hT (lo := 0) (hi := (V 0 0 - 1)) (by omega) (by omega)) ?_
  rintro r0 Z0 ⟨rfl, h1⟩
  rw [c_put11 (k := V 0 9) (c := 0) (by omega) (by omega) ((h1.2.2 28 3 (by omega)).trans (by rw [up_eq])) ((h1.2.2 28 1 (by omega)).trans (by rw [up_ne (by omega)]; exact t1)), show 2 * (V 0 9).toNat + (0 : Int).toNat = 2 * (V 0 9).toNat + 0 from rfl]
  simp only [am_bv_v]
  have s1 := h1.up (k := 29) (j := 2 * (V 0 9).toNat + 0) (v := i32 (rn T n st 0 (V 0 0 - 1)).1) (by omega) (by omega)
  generalize hY1 : am_up Z0 29 (2 * (V 0 9).toNat + 0) (i32 (rn T n st 0 (V 0 0 - 1)).1) = Y1 at s1 ⊢
  rw [show Y1 19 1 = i32 (V 0 1) from ((s1).2.2 19 1 (by omega)).trans (by rw [up_ne (by omega), up_ne (by omega)]; exact rh0), i32_sub]
  refine wp_ci ((s1).rn hN hT (lo := 0) (hi := (V 0 1 - 1)) (by omega) (by omega)) ?_
  rintro r1 Z1 ⟨rfl, h2⟩
  rw [c_put11 (k := V 0 9) (c := 1) (by omega) (by omega) ((h2.2.2 28 3 (by omega)).trans (by rw [up_ne (by omega), up_eq])) ((h2.2.2 28 1 (by omega)).trans (by rw [up_ne (by omega), up_ne (by omega)]; exact t1)), show 2 * (V 0 9).toNat + (1 : Int).toNat = 2 * (V 0 9).toNat + 1 from rfl]
  simp only [am_bv_v]
  have s2 := h2.up (k := 29) (j := 2 * (V 0 9).toNat + 1) (v := i32 (rn T n (rn T n st 0 (V 0 0 - 1)).2 0 (V 0 1 - 1)).1) (by omega) (by omega)
  refine wp_v ⟨⟨s2.1, s2.2.1, fun _ _ _ => rfl⟩, fK.of (fun a b w1 w2 w3 w4 w5 w6 w7 w8 w9 w10 => by rw [up_ne (by omega), up_ne (by omega), up_ne (by omega)]) s2.2.2, RR.of ?_ s2.2.2⟩
  refine RC.t11 hR (fun a b w1 w2 => ?_) (t0.add (by omega) (by omega) [(rn T n st 0 (V 0 0 - 1)).1, (rn T n (rn T n st 0 (V 0 0 - 1)).2 0 (V 0 1 - 1)).1] ?_ ?_ ?_ (fun j hj => ?_) (fun i hi => ?_))
  · show _ = M (a + 17) b
    try simp only []
    rw [up_ne (by omega), up_ne (by omega), up_ne (by omega)]
  · try simp only []
    rw [up_ne (by omega), up_ne (by omega), up_ne (by omega)]
  · try simp only []
    rw [up_ne (by omega), up_ne (by omega), up_ne (by omega)]
  · try simp only []
    rw [up_ne (by omega), up_ne (by omega), up_eq]
  · try simp only []
    rw [up_ne (by omega), up_ne (by omega), up_ne (by omega)]
  · try simp only []
    have hi' : i = 0 ∨ i = 1 := by omega
    rcases hi' with rfl | rfl
    · rw [show (2 : Int).toNat * (V 0 9).toNat + 0 = 2 * (V 0 9).toNat + 0 from rfl, up_ne (by omega), up_eq]
      rfl
    · rw [show (2 : Int).toNat * (V 0 9).toNat + 1 = 2 * (V 0 9).toNat + 1 from rfl, up_eq]
      rfl
end CL
