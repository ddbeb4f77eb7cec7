/-! what holds between calls -/
def tpR (T : Nat → Int) (tp : Int) (Mc Mm : am_M) : Prop := (0 ≤ tp ∧ tp ≤ 600) ∧ Mc 0 1 = i32 tp ∧ Mm 0 2 = i32 tp ∧ ∀ i : Nat, (i : Int) < tp → (0 ≤ T i ∧ T i ≤ 255) ∧ Mc 1 i = i32 (sg (T i)) ∧ Mm 2 i = i32 (T i)
def ctR (Mc Mm : am_M) : Prop := Mc 0 2 = Mm 0 8 ∧ Mc 0 3 = Mm 1 0 ∧ Mc 0 4 = Mm 1 1 ∧ Mc 0 5 = Mm 1 2 ∧ Mc 51 6 = 0
def ld (V L : VL) : VL := fun a b => if a = 6 ∨ a = 7 ∨ a = 8 ∨ (a = 0 ∧ (b = 4 ∨ b = 10)) then L a b else V a b
def imC (k : Nat) (L : VL) (M : am_M) : Prop := (∀ c, c < 100 → M (37 + 5 * k) c = i32 (L 6 c) ∧ M (38 + 5 * k) c = i32 (L 7 c)) ∧ M (36 + 5 * k) 2 = i32 (L 0 4) ∧ M (39 + 5 * k) 3 = i32 (L 0 10) ∧ ∀ j : Nat, (j : Int) < L 0 10 * 4 → M (40 + 5 * k) j = i32 (L 8 j)
def imM (k : Nat) (L : VL) (M : am_M) : Prop := (∀ c, c < 100 → M 28 (229 * k + c) = i32 (L 6 c) ∧ M 28 (229 * k + 100 + c) = i32 (L 7 c)) ∧ (∀ i : Nat, (i : Int) < L 0 10 → M 28 (229 * k + 200 + 3 * i) = i32 (10 * L 8 (4 * i + 1) + L 8 (4 * i)) ∧ M 28 (229 * k + 200 + (3 * i + 1)) = i32 (L 8 (4 * i + 2)) ∧ M 28 (229 * k + 200 + (3 * i + 2)) = i32 (L 8 (4 * i + 3))) ∧ M 28 (229 * k + 227) = i32 (L 0 4) ∧ M 28 (229 * k + 228) = i32 (L 0 10)
def imR (V : VL) (I : Nat → VL) (ni : Int) (Mc Mm : am_M) : Prop := (0 ≤ ni ∧ ni ≤ 3) ∧ Mc 0 10 = i32 ni ∧ Mm 0 65 = i32 ni ∧ ∀ k : Nat, (k : Int) < ni → VX (ld V (I k)) ∧ imC k (I k) Mc ∧ imM k (I k) Mm
def rdK (M : am_M) : Prop := (M 20 1 = i32 5 ∧ M 20 2 = i32 5) ∧ (M 22 1 = i32 3 ∧ M 22 2 = i32 4) ∧ (M 24 1 = i32 2 ∧ M 24 2 = i32 4) ∧ (M 26 1 = i32 3 ∧ M 26 2 = i32 8) ∧ (M 28 1 = i32 2 ∧ M 28 2 = i32 8) ∧ (M 33 1 = i32 4 ∧ M 33 2 = i32 9)
def IR (V : VL) (Mc Mm : am_M) : Prop := ∃ T tp I ni, tpR T tp Mc Mm ∧ ctR Mc Mm ∧ imR V I ni Mc Mm ∧ rdK Mc
def Inv (Mc Mm : am_M) : Prop := ∃ V, VX V ∧ RC V Mc ∧ RT V Mm ∧ RF V Mm ∧ IR V Mc Mm
section IV
variable {N : Nat} {V : VL} {Mc Mm : am_M}
theorem imC.fr {k : Nat} {L : VL} {M M' : am_M} (h : imC k L M) (hk : k < 3) (q : ∀ a b, 36 ≤ a ∧ a ≤ 50 → M' a b = M a b) : imC k L M' := by
  obtain ⟨h1, h2, h3, h4⟩ := h
  exact ⟨fun c hc => ⟨(q _ c (by omega)).trans (h1 c hc).1, (q _ c (by omega)).trans (h1 c hc).2⟩, (q _ 2 (by omega)).trans h2, (q _ 3 (by omega)).trans h3, fun j hj => (q _ j (by omega)).trans (h4 j hj)⟩
theorem imM.fr {k : Nat} {L : VL} {M M' : am_M} (h : imM k L M) (q : ∀ b, M' 28 b = M 28 b) : imM k L M' := by
  obtain ⟨h1, h2, h3, h4⟩ := h
  exact ⟨fun c hc => ⟨(q _).trans (h1 c hc).1, (q _).trans (h1 c hc).2⟩, fun i hi => ⟨(q _).trans (h2 i hi).1, (q _).trans (h2 i hi).2.1, (q _).trans (h2 i hi).2.2⟩, (q _).trans h3, (q _).trans h4⟩
theorem IR.fr {Mc' Mm' : am_M} (h : IR V Mc Mm) (hc : ∀ a b, a = 0 ∨ a = 1 ∨ (a = 51 ∧ b = 6) ∨ (18 ≤ a ∧ a ≤ 50) → Mc' a b = Mc a b) (hm : ∀ a b, (a = 0 ∧ (b = 2 ∨ b = 8 ∨ b = 65)) ∨ a = 1 ∨ a = 2 ∨ a = 28 → Mm' a b = Mm a b) : IR V Mc' Mm' := by
  obtain ⟨T, tp, I, ni, ⟨t1, t2, t3, t4⟩, ⟨c1, c2, c3, c4, c5⟩, ⟨i1, i2, i3, i4⟩, ⟨r1, r2, r3, r4, r5, r6⟩⟩ := h
  refine ⟨T, tp, I, ni, ⟨t1, (hc 0 1 (by omega)).trans t2, (hm 0 2 (by omega)).trans t3, fun i hi => ⟨(t4 i hi).1, (hc 1 i (by omega)).trans (t4 i hi).2.1, (hm 2 i (by omega)).trans (t4 i hi).2.2⟩⟩, ⟨?_, ?_, ?_, ?_, (hc 51 6 (by omega)).trans c5⟩, ⟨i1, (hc 0 10 (by omega)).trans i2, (hm 0 65 (by omega)).trans i3, fun k hk => ⟨(i4 k hk).1, (i4 k hk).2.1.fr (by omega) (fun a b w => hc a b (by omega)), (i4 k hk).2.2.fr (fun b => hm 28 b (by omega))⟩⟩, ?_⟩
  · rw [hc 0 2 (by omega), hm 0 8 (by omega)]; exact c1
  · rw [hc 0 3 (by omega), hm 1 0 (by omega)]; exact c2
  · rw [hc 0 4 (by omega), hm 1 1 (by omega)]; exact c3
  · rw [hc 0 5 (by omega), hm 1 2 (by omega)]; exact c4
  · exact ⟨⟨(hc 20 1 (by omega)).trans r1.1, (hc 20 2 (by omega)).trans r1.2⟩, ⟨(hc 22 1 (by omega)).trans r2.1, (hc 22 2 (by omega)).trans r2.2⟩, ⟨(hc 24 1 (by omega)).trans r3.1, (hc 24 2 (by omega)).trans r3.2⟩, ⟨(hc 26 1 (by omega)).trans r4.1, (hc 26 2 (by omega)).trans r4.2⟩, ⟨(hc 28 1 (by omega)).trans r5.1, (hc 28 2 (by omega)).trans r5.2⟩, ⟨(hc 33 1 (by omega)).trans r6.1, (hc 33 2 (by omega)).trans r6.2⟩⟩
theorem IR.vv {V' : VL} (h : IR V Mc Mm) (q : ∀ a b, ¬ (a = 6 ∨ a = 7 ∨ a = 8 ∨ (a = 0 ∧ (b = 4 ∨ b = 10))) → V' a b = V a b) : IR V' Mc Mm := by
  obtain ⟨T, tp, I, ni, ht, hc, ⟨i1, i2, i3, i4⟩, hr⟩ := h
  refine ⟨T, tp, I, ni, ht, hc, ⟨i1, i2, i3, fun k hk => ⟨?_, (i4 k hk).2⟩⟩, hr⟩
  have e : ld V' (I k) = ld V (I k) := by
    funext a b
    unfold ld
    by_cases w : a = 6 ∨ a = 7 ∨ a = 8 ∨ (a = 0 ∧ (b = 4 ∨ b = 10))
    · rw [if_pos w, if_pos w]
    · rw [if_neg w, if_neg w, q a b w]
  rw [e]
  exact (i4 k hk).1
theorem RF.of {M M' : am_M} (h : RF V M) (q : ∀ a b, (a = 10 ∨ a = 21) → M' a b = M a b) : RF V M' := fun c hc => ⟨(q 10 c (by omega)).trans (h c hc).1, (q 21 c (by omega)).trans (h c hc).2⟩
theorem Inv.fr {Mc' Mm' : am_M} (hV : VX V) (hC : RC V Mc) (hM : RT V Mm) (hF : RF V Mm) (hI : IR V Mc Mm) (hc : sC Mc Mc') (hm : sM Mm Mm') : Inv Mc' Mm' :=
  ⟨V, hV, hC.sC hc, hM.sM hm, hF.sM hm, hI.fr (fun a b w => hc a b (by omega)) (fun a b w => hm a b (by unfold mS; omega))⟩
/-! the calls of both sides: what they answer, what they throw -/
def OP0 (o1 o2 : am_O) : Prop := ∃ Mc' v Mm', o1 = some (.ok (some (.int v)), Mc') ∧ o2 = some (.ok (some (.int v)), Mm') ∧ Inv Mc' Mm'
def OP1 (o1 o2 : am_O) (e1 : Nat) : Prop := ∃ rc Mc' v Mm', o1 = some (rc, Mc') ∧ o2 = some (.ok (some (.int v)), Mm') ∧ Inv Mc' Mm' ∧ ((rc = .ok (some (.int v)) ∧ Mm' 0 0 = 0) ∨ (rc = .error e1 ∧ Mm' 0 0 = 1))
def OP2 (o1 o2 : am_O) (e1 e2 : Nat) : Prop := ∃ rc Mc' v Mm', o1 = some (rc, Mc') ∧ o2 = some (.ok (some (.int v)), Mm') ∧ Inv Mc' Mm' ∧ ((rc = .ok (some (.int v)) ∧ Mm' 0 0 = 0) ∨ (rc = .error e1 ∧ Mm' 0 0 = 1) ∨ (rc = .error e2 ∧ Mm' 0 0 = 2))
def M00 (M : am_M) : am_M := am_up M 0 0 0
theorem M00_0 {M : am_M} : M00 M 0 0 = 0 := up_eq _ _ _ _
theorem M00_n {M : am_M} {a b : Nat} (h : a ≠ 0 ∨ b ≠ 0) : M00 M a b = M a b := up_ne h
theorem RT.z {M : am_M} (h : RT V M) : RT V (M00 M) := h.of (fun a b w => M00_n (by omega))
theorem RF.z {M : am_M} (h : RF V M) : RF V (M00 M) := h.of (fun a b w => M00_n (by omega))
theorem IR.z (h : IR V Mc Mm) : IR V Mc (M00 Mm) := h.fr (fun _ _ _ => rfl) (fun a b w => M00_n (by omega))
theorem OP0.good (hV : VX V) (hC : RC V Mc) (hM : RT V Mm) (hF : RF V Mm) (hI : IR V Mc Mm) {o1 o2 : am_O} {w : Int32} (h1 : wp o1 (rI fun v M' => v = w ∧ sC Mc M')) (h2 : wp o2 (rI fun v M' => v = w ∧ sM Mm M')) : OP0 o1 o2 := by
  obtain ⟨v1, M1, e1, rfl, s1⟩ := wp_vi h1
  obtain ⟨v2, M2, e2, rfl, s2⟩ := wp_vi h2
  exact ⟨M1, _, M2, e1, e2, Inv.fr hV hC hM hF hI s1 s2⟩
theorem OP1.good (hV : VX V) (hC : RC V Mc) (hM : RT V Mm) (hF : RF V Mm) (hI : IR V Mc Mm) {o1 o2 : am_O} {w : Int32} {x1 : Nat} (h1 : wp o1 (rI fun v M' => v = w ∧ sC Mc M')) (h2 : wp o2 (rI fun v M' => v = w ∧ sM (M00 Mm) M')) : OP1 o1 o2 x1 := by
  obtain ⟨v1, M1, e1, rfl, s1⟩ := wp_vi h1
  obtain ⟨v2, M2, e2, rfl, s2⟩ := wp_vi h2
  exact ⟨_, M1, _, M2, e1, e2, Inv.fr hV hC hM.z hF.z hI.z s1 s2, Or.inl ⟨rfl, (s2 0 0 (by unfold mS; omega)).trans M00_0⟩⟩
theorem OP2.good (hV : VX V) (hC : RC V Mc) (hM : RT V Mm) (hF : RF V Mm) (hI : IR V Mc Mm) {o1 o2 : am_O} {w : Int32} {x1 x2 : Nat} (h1 : wp o1 (rI fun v M' => v = w ∧ sC Mc M')) (h2 : wp o2 (rI fun v M' => v = w ∧ sM (M00 Mm) M')) : OP2 o1 o2 x1 x2 := by
  obtain ⟨v1, M1, e1, rfl, s1⟩ := wp_vi h1
  obtain ⟨v2, M2, e2, rfl, s2⟩ := wp_vi h2
  exact ⟨_, M1, _, M2, e1, e2, Inv.fr hV hC hM.z hF.z hI.z s1 s2, Or.inl ⟨rfl, (s2 0 0 (by unfold mS; omega)).trans M00_0⟩⟩
/-! refusals -/
theorem Inv.bad (hV : VX V) (hC : RC V Mc) (hM : RT V Mm) (hF : RF V Mm) (hI : IR V Mc Mm) {k : Nat} (hk : k < 3) {c : Int32} : Inv (am_up Mc 0 (3 + k) (Mc 0 (3 + k) + 1)) (am_up (am_up (M00 Mm) 0 0 c) 1 k (M00 Mm 1 k + 1)) := by
  refine ⟨V, hV, hC.of (fun a b w => up_ne (by omega)), hM.of (fun a b w => by rw [up_ne (by omega), up_ne (by omega), M00_n (by omega)]), hF.of (fun a b w => by rw [up_ne (by omega), up_ne (by omega), M00_n (by omega)]), ?_⟩
  obtain ⟨T, tp, I, ni, ⟨t1, t2, t3, t4⟩, ⟨c1, c2, c3, c4, c5⟩, ⟨i1, i2, i3, i4⟩, hr⟩ := hI
  have qc : ∀ a b, a ≠ 0 ∨ b ≠ 3 + k → am_up Mc 0 (3 + k) (Mc 0 (3 + k) + 1) a b = Mc a b := fun a b w => up_ne w
  have qm : ∀ a b, (a ≠ 0 ∨ b ≠ 0) → (a ≠ 1 ∨ b ≠ k) → am_up (am_up (M00 Mm) 0 0 c) 1 k (M00 Mm 1 k + 1) a b = Mm a b := fun a b w1 w2 => by rw [up_ne (by omega), up_ne (by omega), M00_n (by omega)]
  refine ⟨T, tp, I, ni, ⟨t1, (qc 0 1 (by omega)).trans t2, (qm 0 2 (by omega) (by omega)).trans t3, fun i hi => ⟨(t4 i hi).1, (qc 1 i (by omega)).trans (t4 i hi).2.1, (qm 2 i (by omega) (by omega)).trans (t4 i hi).2.2⟩⟩, ⟨?_, ?_, ?_, ?_, (qc 51 6 (by omega)).trans c5⟩, ⟨i1, (qc 0 10 (by omega)).trans i2, (qm 0 65 (by omega) (by omega)).trans i3, fun j hj => ⟨(i4 j hj).1, (i4 j hj).2.1.fr (by omega) (fun a b w => qc a b (by omega)), (i4 j hj).2.2.fr (fun b => qm 28 b (by omega) (by omega))⟩⟩, ?_⟩
  · rw [qc 0 2 (by omega), qm 0 8 (by omega) (by omega)]; exact c1
  · by_cases h : k = 0
    · subst h; rw [show 3 + 0 = 3 from rfl, up_eq, up_eq, M00_n (by omega), c2]
    · rw [qc 0 3 (by omega), qm 1 0 (by omega) (by omega)]; exact c2
  · by_cases h : k = 1
    · subst h; rw [show 3 + 1 = 4 from rfl, up_eq, up_eq, M00_n (by omega), c3]
    · rw [qc 0 4 (by omega), qm 1 1 (by omega) (by omega)]; exact c3
  · by_cases h : k = 2
    · subst h; rw [show 3 + 2 = 5 from rfl, up_eq, up_eq, M00_n (by omega), c4]
    · rw [qc 0 5 (by omega), qm 1 2 (by omega) (by omega)]; exact c4
  · obtain ⟨r1, r2, r3, r4, r5, r6⟩ := hr
    exact ⟨⟨(qc 20 1 (by omega)).trans r1.1, (qc 20 2 (by omega)).trans r1.2⟩, ⟨(qc 22 1 (by omega)).trans r2.1, (qc 22 2 (by omega)).trans r2.2⟩, ⟨(qc 24 1 (by omega)).trans r3.1, (qc 24 2 (by omega)).trans r3.2⟩, ⟨(qc 26 1 (by omega)).trans r4.1, (qc 26 2 (by omega)).trans r4.2⟩, ⟨(qc 28 1 (by omega)).trans r5.1, (qc 28 2 (by omega)).trans r5.2⟩, ⟨(qc 33 1 (by omega)).trans r6.1, (qc 33 2 (by omega)).trans r6.2⟩⟩
theorem m_may1 {M : am_M} {c k : Int32} (h : M 0 0 = 0) : f_X10_may N 1 c k M = some (.ok (some (.int 1)), M) := by
  unfold f_X10_may f_X10_may_26
  rw [if_neg (by decide), if_pos h]
theorem m_may0 {M : am_M} {c : Int32} (hc : c ≠ 0) {k : Int} (hk : 0 ≤ k ∧ k < 3) (h : M 0 0 = 0) : f_X10_may N 0 c (i32 k) M = some (.ok (some (.int 0)), am_up (am_up M 0 0 c) 1 k.toNat (M 1 k.toNat + 1)) := by
  unfold f_X10_may f_X10_may_26
  rw [if_pos rfl, if_pos h, if_pos (i32_in (by omega) (by omega) (by omega)), i32_cl (by omega) (by omega), up_ne (by omega), up_eq, if_neg hc]
theorem OP1.bad (hV : VX V) (hC : RC V Mc) (hM : RT V Mm) (hF : RF V Mm) (hI : IR V Mc Mm) {o1 o2 : am_O} {k : Nat} (hk : k < 3) (h1 : o1 = some (.error k, am_up Mc 0 (3 + k) (Mc 0 (3 + k) + 1))) (h2 : o2 = some (.ok (some (.int 0)), am_up (am_up (M00 Mm) 0 0 1) 1 k (M00 Mm 1 k + 1))) : OP1 o1 o2 k :=
  ⟨_, _, _, _, h1, h2, Inv.bad hV hC hM hF hI hk, Or.inr ⟨rfl, by rw [up_ne (by omega), up_eq]⟩⟩
theorem OP2.bad1 (hV : VX V) (hC : RC V Mc) (hM : RT V Mm) (hF : RF V Mm) (hI : IR V Mc Mm) {o1 o2 : am_O} {k x2 : Nat} (hk : k < 3) (h1 : o1 = some (.error k, am_up Mc 0 (3 + k) (Mc 0 (3 + k) + 1))) (h2 : o2 = some (.ok (some (.int 0)), am_up (am_up (M00 Mm) 0 0 1) 1 k (M00 Mm 1 k + 1))) : OP2 o1 o2 k x2 :=
  ⟨_, _, _, _, h1, h2, Inv.bad hV hC hM hF hI hk, Or.inr (Or.inl ⟨rfl, by rw [up_ne (by omega), up_eq]⟩)⟩
theorem OP2.bad2 (hV : VX V) (hC : RC V Mc) (hM : RT V Mm) (hF : RF V Mm) (hI : IR V Mc Mm) {o1 o2 : am_O} {x1 k : Nat} (hk : k < 3) (h1 : o1 = some (.error k, am_up Mc 0 (3 + k) (Mc 0 (3 + k) + 1))) (h2 : o2 = some (.ok (some (.int 0)), am_up (am_up (M00 Mm) 0 0 2) 1 k (M00 Mm 1 k + 1))) : OP2 o1 o2 x1 k :=
  ⟨_, _, _, _, h1, h2, Inv.bad hV hC hM hF hI hk, Or.inr (Or.inr ⟨rfl, by rw [up_ne (by omega), up_eq]⟩)⟩
theorem i32_ex (p : Int32) : ∃ x : Int, p = i32 x ∧ -2147483648 ≤ x ∧ x < 2147483648 := ⟨p.toInt, (i32_of p).symm, Int32.le_toInt p, Int32.toInt_lt p⟩
theorem cell_cs (hV : VX V) (hC : RC V Mc) (hM : RT V Mm) (p1 p2 : Int32) :
    (f_X9_needCell N p1 p2 Mc = some (.ok none, Mc) ∧ f_X10_isCell N p1 p2 1 (M00 Mm) = some (.ok (some (.int 1)), M00 Mm) ∧ ∃ x y : Int, p1 = i32 x ∧ p2 = i32 y ∧ (0 ≤ x ∧ x < V 0 0) ∧ (0 ≤ y ∧ y < V 0 1)) ∨
    (f_X9_needCell N p1 p2 Mc = some (.error 0, am_up Mc 0 (3 + 0) (Mc 0 (3 + 0) + 1)) ∧ f_X10_isCell N p1 p2 1 (M00 Mm) = some (.ok (some (.int 0)), am_up (am_up (M00 Mm) 0 0 1) 1 0 (M00 Mm 1 0 + 1))) := by
  have hw := hV.1.1
  have hh := hV.1.2.1
  obtain ⟨x, rfl, hx⟩ := i32_ex p1
  obtain ⟨y, rfl, hy⟩ := i32_ex p2
  have m0 : f_X10_isCell_33 N 1 (M00 Mm) = some (.ok (some (.int 0)), am_up (am_up (M00 Mm) 0 0 1) 1 0 (M00 Mm 1 0 + 1)) := by
    unfold f_X10_isCell_33 f_X10_isCell_34
    have := m_may0 (N := N) (M := M00 Mm) (c := 1) (by decide) (k := 0) (by omega) M00_0
    rw [show f_X10_may N 0 1 0 (M00 Mm) = _ from this]
    rfl
  have m1 : f_X10_isCell_34 N 1 1 (M00 Mm) = some (.ok (some (.int 1)), M00 Mm) := by
    unfold f_X10_isCell_34
    rw [m_may1 M00_0]
    rfl
  unfold f_X9_needCell f_X9_needCell_30 f_X10_isCell
  rw [hC.1.1, hC.1.2.1, hM.z.1.1, i32_1, i32_sub, m_within]
  simp only [am_bi_i]
  rw [hM.z.1.2.1, i32_sub, m_within]
  simp only [am_bi_i]
  rw [← i32_1, m0, m1]
  have c1 : i32 x < 0 ↔ x < 0 := i32_lt0 (by omega) (by omega)
  have c2 : i32 y < 0 ↔ y < 0 := i32_lt0 (by omega) (by omega)
  have c3 : i32 (V 0 0) ≤ i32 x ↔ V 0 0 ≤ x := i32_le (by omega) (by omega) (by omega) (by omega)
  have c4 : i32 y < i32 (V 0 1) ↔ y < V 0 1 := i32_lt (by omega) (by omega) (by omega) (by omega)
  have c5 : i32 (V 0 0 - 1) < i32 x ↔ V 0 0 - 1 < x := i32_lt (by omega) (by omega) (by omega) (by omega)
  have c6 : i32 (V 0 1 - 1) < i32 y ↔ V 0 1 - 1 < y := i32_lt (by omega) (by omega) (by omega) (by omega)
  simp only [c1, c2, c3, c4, c5, c6]
  by_cases h1 : x < 0
  · right
    rw [if_pos h1, if_pos h1]
    exact ⟨rfl, rfl⟩
  · rw [if_neg h1, if_neg h1]
    by_cases h2 : V 0 0 ≤ x
    · right
      rw [if_pos (show V 0 0 - 1 < x by omega), if_pos h2]
      refine ⟨?_, rfl⟩
      by_cases h3 : y < 0
      · rw [if_pos h3]
      · rw [if_neg h3]
    · rw [if_neg (show ¬ V 0 0 - 1 < x by omega), if_neg h2]
      by_cases h3 : y < 0
      · right
        rw [if_pos h3, if_pos h3]
        exact ⟨rfl, rfl⟩
      · rw [if_neg h3, if_neg h3]
        by_cases h4 : V 0 1 ≤ y
        · right
          rw [if_pos (show V 0 1 - 1 < y by omega), if_neg (show ¬ y < V 0 1 by omega)]
          exact ⟨rfl, rfl⟩
        · left
          rw [if_neg (show ¬ V 0 1 - 1 < y by omega), if_pos (show y < V 0 1 by omega)]
          exact ⟨rfl, rfl, x, y, rfl, rfl, by omega, by omega⟩
theorem field_cs (hV : VX V) (hC : RC V Mc) (hM : RT V Mm) (p1 : Int32) {c : Int32} (hc : c ≠ 0) :
    (f_X9_needField N p1 Mc = some (.ok none, Mc) ∧ f_X10_isField N p1 c (M00 Mm) = some (.ok (some (.int 1)), M00 Mm) ∧ ∃ f : Nat, p1 = i32 (f : Int) ∧ (f : Int) < V 0 5) ∨
    (f_X9_needField N p1 Mc = some (.error 1, am_up Mc 0 (3 + 1) (Mc 0 (3 + 1) + 1)) ∧ f_X10_isField N p1 c (M00 Mm) = some (.ok (some (.int 0)), am_up (am_up (M00 Mm) 0 0 c) 1 1 (M00 Mm 1 1 + 1))) := by
  have hns := hV.ns
  obtain ⟨x, rfl, hx⟩ := i32_ex p1
  have m0 := m_may0 (N := N) (M := M00 Mm) hc (k := 1) (by omega) M00_0
  have m1 := m_may1 (N := N) (M := M00 Mm) (c := c) (k := 1) M00_0
  unfold f_X9_needField f_X9_needField_18 f_X10_isField
  rw [show Mc 3 3 = i32 (V 0 5) from hC.2.2.1.2.2.1, hM.z.2.1.1, show i32 (V 0 5) - 1 = i32 (V 0 5 - 1) from i32_sub (V 0 5) 1, m_within]
  simp only [am_bi_i]
  by_cases h1 : x < 0
  · right
    rw [if_pos ((i32_lt0 (by omega) (by omega)).mpr h1), if_pos ((i32_lt0 (by omega) (by omega)).mpr h1), show f_X10_may N 0 c 1 (M00 Mm) = _ from m0]
    exact ⟨rfl, rfl⟩
  · rw [if_neg (fun q => h1 ((i32_lt0 (by omega) (by omega)).mp q)), if_neg (fun q => h1 ((i32_lt0 (by omega) (by omega)).mp q))]
    by_cases h2 : V 0 5 ≤ x
    · right
      rw [if_pos ((i32_lt (by omega) (by omega) (by omega) (by omega)).mpr (show V 0 5 - 1 < x by omega)), if_neg (fun q => by have := (i32_lt (by omega) (by omega) (by omega) (by omega)).mp q; omega), show f_X10_may N 0 c 1 (M00 Mm) = _ from m0]
      exact ⟨rfl, rfl⟩
    · left
      rw [if_neg (show ¬ (i32 (V 0 5 - 1) < i32 x) from fun q => h2 (by have := (i32_lt (by omega) (by omega) (by omega) (by omega)).mp q; omega)), if_pos ((i32_lt (by omega) (by omega) (by omega) (by omega)).mpr (show x < V 0 5 by omega))]
      rw [m1]
      exact ⟨rfl, rfl, x.toNat, by rw [show ((x.toNat : Nat) : Int) = x from by omega], by omega⟩
theorem btw_cs (p : Int32) {lo hi : Int} (hl : -1000 ≤ lo ∧ lo ≤ 100000) (hh : -1000 ≤ hi ∧ hi ≤ 100000) {M M2 : am_M} :
    (f_X9_needBetween N p (i32 lo) (i32 hi) M = some (.ok none, M) ∧ f_X10_within N p (i32 lo) (i32 hi) M2 = some (.ok (some (.int 1)), M2) ∧ ∃ x : Int, p = i32 x ∧ lo ≤ x ∧ x ≤ hi) ∨
    (f_X9_needBetween N p (i32 lo) (i32 hi) M = some (.error 2, am_up M 0 (3 + 2) (M 0 (3 + 2) + 1)) ∧ f_X10_within N p (i32 lo) (i32 hi) M2 = some (.ok (some (.int 0)), M2)) := by
  obtain ⟨x, rfl, hx⟩ := i32_ex p
  unfold f_X9_needBetween f_X9_needBetween_10
  rw [m_within]
  by_cases h1 : x < lo
  · right
    rw [if_pos ((i32_lt (by omega) (by omega) (by omega) (by omega)).mpr h1), if_pos ((i32_lt (by omega) (by omega) (by omega) (by omega)).mpr h1)]
    exact ⟨rfl, rfl⟩
  · rw [if_neg (fun q => h1 ((i32_lt (by omega) (by omega) (by omega) (by omega)).mp q)), if_neg (fun q => h1 ((i32_lt (by omega) (by omega) (by omega) (by omega)).mp q))]
    by_cases h2 : hi < x
    · right
      rw [if_pos ((i32_lt (by omega) (by omega) (by omega) (by omega)).mpr h2), if_neg (fun q => by have := (i32_le (by omega) (by omega) (by omega) (by omega)).mp q; omega)]
      exact ⟨rfl, rfl⟩
    · left
      rw [if_neg (fun q => h2 ((i32_lt (by omega) (by omega) (by omega) (by omega)).mp q)), if_pos ((i32_le (by omega) (by omega) (by omega) (by omega)).mpr (show x ≤ hi by omega))]
      exact ⟨rfl, rfl, x, rfl, by omega, by omega⟩
end IV
