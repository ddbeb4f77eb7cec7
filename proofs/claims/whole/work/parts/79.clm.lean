/-! the clauses of a text: the reference -/
def RN (V : VL) (M : am_M) : Prop := (M 0 24 = i32 (V 0 0) ∧ M 0 25 = i32 (V 0 1) ∧ M 0 31 = i32 (V 0 2) ∧ M 0 32 = i32 (V 0 3)) ∧
  (M 0 27 = i32 (V 0 5) ∧ M 0 28 = i32 (V 0 6) ∧ M 0 29 = i32 (V 0 7) ∧ M 0 26 = i32 (V 0 8) ∧ M 0 30 = i32 (V 0 9)) ∧
  (∀ c, c < 100 → M 3 c = i32 (V 6 c) ∧ M 4 c = i32 (V 7 c)) ∧
  (∀ j : Nat, (j : Int) < V 0 5 * 5 → M 6 j = i32 (V 1 j)) ∧
  (∀ i : Nat, (i : Int) < V 0 6 → M 7 (2 * i) = i32 (10 * V 2 (3 * i + 1) + V 2 (3 * i)) ∧ M 7 (2 * i + 1) = i32 (V 2 (3 * i + 2))) ∧
  (∀ j : Nat, (j : Int) < V 0 7 * 2 → M 8 j = i32 (V 3 j)) ∧
  (∀ i : Nat, (i : Int) < V 0 8 → M 5 (2 * i) = i32 (10 * V 4 (3 * i + 1) + V 4 (3 * i)) ∧ M 5 (2 * i + 1) = i32 (V 4 (3 * i + 2))) ∧
  (∀ i : Nat, (i : Int) < V 0 9 → M 9 i = i32 (10 * V 5 (2 * i + 1) + V 5 (2 * i)))
def e04 (M M' : am_M) : Prop := ∀ a b, a ≠ 0 ∨ (b ≠ 4 ∧ b ≠ 5 ∧ b ≠ 6) → M' a b = M a b
def SM (T : Nat → Int) (n : Nat) (st : ST) (X M : am_M) : Prop := MT T n M ∧ StM n st M ∧ e04 X M
def fM (M M' : am_M) : Prop := ∀ a b, (a < 3 ∨ 9 < a) → (a ≠ 0 ∨ (b ≠ 4 ∧ b ≠ 5 ∧ b ≠ 6 ∧ (b < 24 ∨ 32 < b))) → M' a b = M a b
section CM
variable {N : Nat} {T : Nat → Int} {n : Nat} {V : VL} {st : ST} {X M : am_M}
theorem SM.rn (hN : 602 ≤ N) (hT : TB T n) (h : SM T n st X M) {lo hi : Int} (hlo : -10 ≤ lo ∧ lo ≤ 999) (hhi : -10 ≤ hi ∧ hi ≤ 999) : wp (f_X10_readNumber N (i32 lo) (i32 hi) M) (rI fun r M' => r = i32 (rn T n st lo hi).1 ∧ SM T n (rn T n st lo hi).2 X M') :=
  wp_mi (m_rn hN hT h.1 h.2.1 (by omega) (by omega)) (fun r M' q => ⟨q.1, h.1.fr q.2.2, q.2.1, fun a b w => (q.2.2 a b w).trans (h.2.2 a b w)⟩)
theorem SM.up (h : SM T n st X M) {k j : Nat} {v : Int32} (h1 : k ≠ 2) (h2 : k ≠ 0 ∨ (j < 3 ∨ 6 < j)) : SM T n st (am_up X k j v) (am_up M k j v) := by
  obtain ⟨hP, hS, hE⟩ := h
  refine ⟨⟨(up_ne (by omega)).trans hP.1, fun i hi => (up_ne (by omega)).trans (hP.2 i hi)⟩, ?_, fun a b w => ?_⟩
  · cases st with
    | error e =>
      obtain ⟨q1, q2, q3, q4, a, q5, q6⟩ := hS
      exact ⟨q1, q2, (up_ne (by omega)).trans q3, (up_ne (by omega)).trans q4, a, q5, (up_ne (by omega)).trans q6⟩
    | ok a =>
      obtain ⟨q1, q2, q3⟩ := hS
      exact ⟨q1, (up_ne (by omega)).trans q2, (up_ne (by omega)).trans q3⟩
  · by_cases hk : a = k ∧ b = j
    · rw [hk.1, hk.2, up_eq, up_eq]
    · rw [up_ne (by omega), up_ne (by omega)]; exact hE a b w
theorem RN.of {M' : am_M} (h : RN V X) (q : ∀ a b, (a = 0 ∧ 24 ≤ b ∧ b ≤ 32) ∨ (3 ≤ a ∧ a ≤ 9) → M' a b = X a b) : RN V M' := by
  obtain ⟨⟨h1, h2, h3, h4⟩, ⟨h5, h6, h7, h8, h9⟩, h10, h11, h12, h13, h14, h15⟩ := h
  exact ⟨⟨(q 0 24 (by omega)).trans h1, (q 0 25 (by omega)).trans h2, (q 0 31 (by omega)).trans h3, (q 0 32 (by omega)).trans h4⟩, ⟨(q 0 27 (by omega)).trans h5, (q 0 28 (by omega)).trans h6, (q 0 29 (by omega)).trans h7, (q 0 26 (by omega)).trans h8, (q 0 30 (by omega)).trans h9⟩, fun c hc => ⟨(q 3 c (by omega)).trans (h10 c hc).1, (q 4 c (by omega)).trans (h10 c hc).2⟩, fun j hj => (q 6 j (by omega)).trans (h11 j hj), fun i hi => ⟨(q 7 _ (by omega)).trans (h12 i hi).1, (q 7 _ (by omega)).trans (h12 i hi).2⟩, fun j hj => (q 8 j (by omega)).trans (h13 j hj), fun i hi => ⟨(q 5 _ (by omega)).trans (h14 i hi).1, (q 5 _ (by omega)).trans (h14 i hi).2⟩, fun i hi => (q 9 i (by omega)).trans (h15 i hi)⟩
theorem RN.e (h : RN V X) {M' : am_M} (q : e04 X M') : RN V M' := h.of (fun a b w => q a b (by omega))
theorem fM.of (h : fM M X) {M' : am_M} (q : e04 X M') : fM M M' := fun a b w1 w2 => (q a b (by omega)).trans (h a b w1 w2)
theorem fM.trans {M M' M'' : am_M} (h1 : fM M M') (h2 : fM M' M'') : fM M M'' := fun a b w1 w2 => (h2 a b w1 w2).trans (h1 a b w1 w2)
theorem apT_lo {vr ix co : Nat} {l : List Int} (hv : vr ≠ 0) {b : Nat} (h : b < co * (V 0 ix).toNat) : apT V vr ix co l vr b = V vr b := by
  unfold apT setT
  rw [if_neg (fun z => hv z.1), if_pos rfl]
  exact if_neg (by omega)
theorem apT_hi {vr ix co : Nat} {l : List Int} (hv : vr ≠ 0) {i : Nat} : apT V vr ix co l vr (co * (V 0 ix).toNat + i) = l.getD i 0 := by
  unfold apT setT
  rw [if_neg (fun z => hv z.1), if_pos rfl]
  show (if co * (V 0 ix).toNat ≤ co * (V 0 ix).toNat + i then l.getD (co * (V 0 ix).toNat + i - co * (V 0 ix).toNat) 0 else _) = _
  rw [if_pos (by omega), show co * (V 0 ix).toNat + i - co * (V 0 ix).toNat = i from by omega]
theorem m_cell (hN : 602 ≤ N) (hT : TB T n) (h : SM T n st X M) (hw : 0 ≤ V 0 0 ∧ V 0 0 ≤ 10) (hh : 0 ≤ V 0 1 ∧ V 0 1 ≤ 10) (hx : X 0 24 = i32 (V 0 0)) (hy : X 0 25 = i32 (V 0 1)) : wp (f_X10_readCell N M) (rI fun r M' => r = i32 (10 * (rn T n (rn T n st 0 (V 0 0 - 1)).2 0 (V 0 1 - 1)).1 + (rn T n st 0 (V 0 0 - 1)).1) ∧ SM T n (rn T n (rn T n st 0 (V 0 0 - 1)).2 0 (V 0 1 - 1)).2 X M') := by
  unfold f_X10_readCell
  rw [h.2.2 0 24 (by omega), hx, i32_1, i32_sub, i32_0]
  refine wp_ci (h.rn hN hT (lo := 0) (hi := V 0 0 - 1) (by omega) (by omega)) ?_
  rintro r1 M1 ⟨rfl, h1⟩
  rw [h1.2.2 0 25 (by omega), hy, i32_sub]
  refine wp_ci (h1.rn hN hT (lo := 0) (hi := V 0 1 - 1) (by omega) (by omega)) ?_
  rintro r2 M2 ⟨rfl, h2⟩
  refine wp_i ⟨?_, h2⟩
  rw [i32_10, i32_mul, i32_add]
theorem m_cl0 (hN : 602 ≤ N) (hT : TB T n) (hV : VX V) (hP : MT T n M) (hS : StM n st M) (hR : RN V M) {k : am_M → am_O} {Q : Except Nat (Option Value) → am_M → Prop} (hk : ∀ M', SM T n (cl T n 0 V st).2 M' M' → fM M M' → RN (cl T n 0 V st).1 M' → wp (k M') Q) : wp (am_bi (f_X10_readNumber N 2 10 M) fun r144 M144 => am_bi (f_X10_readNumber N 2 10 (am_up M144 0 24 r144)) fun r155 M155 => k (am_up M155 0 25 r155)) Q := by
  have hw := hV.1.1
  have hh := hV.1.2.1
  have hns := hV.ns
  have h0 : SM T n st M M := ⟨hP, hS, fun _ _ _ => rfl⟩
  have bx := rd_9 (T := T) (n := n) (st := st) (hi := V 0 0 - 1) (by omega)
  have by' := rd_9 (T := T) (n := n) (st := (rn T n st 0 (V 0 0 - 1)).2) (hi := V 0 1 - 1) (by omega)
  rw [show (2 : Int32) = i32 2 from rfl, show (10 : Int32) = i32 10 from rfl]
  refine wp_ci (h0.rn hN hT (lo := 2) (hi := 10) (by omega) (by omega)) ?_
  rintro r1 M1 ⟨rfl, h1⟩
  refine wp_ci ((h1.up (k := 0) (j := 24) (v := i32 (rn T n st 2 10).1) (by omega) (by omega)).rn hN hT (lo := 2) (hi := 10) (by omega) (by omega)) ?_
  rintro r2 M2 ⟨rfl, h2⟩
  have h3 := h2.up (k := 0) (j := 25) (v := i32 (rn T n (rn T n st 2 10).2 2 10).1) (by omega) (by omega)
  generalize hX' : am_up (am_up M 0 24 (i32 (rn T n st 2 10).1)) 0 25 (i32 (rn T n (rn T n st 2 10).2 2 10).1) = X' at h3
  have hX' := hX'.symm
  refine hk _ ⟨h3.1, h3.2.1, fun _ _ _ => rfl⟩ (fM.of (fun a b w1 w2 => by rw [hX', up_ne (by omega), up_ne (by omega)]) h3.2.2) (RN.e ?_ h3.2.2)
  obtain ⟨⟨g1, g2, g3, g4⟩, ⟨g5, g6, g7, g8, g9⟩, g10, g11, g12, g13, g14, g15⟩ := hR
  have tb : ∀ a b, (a ≠ 0 ∨ (b ≠ 24 ∧ b ≠ 25)) → X' a b = M a b := fun a b w => by rw [hX', up_ne (by omega), up_ne (by omega)]
  exact ⟨⟨(by rw [hX', up_ne (by omega), up_eq]; rfl), (by rw [hX', up_eq]; rfl), (tb 0 31 (by omega)).trans g3, (tb 0 32 (by omega)).trans g4⟩, ⟨(tb 0 27 (by omega)).trans g5, (tb 0 28 (by omega)).trans g6, (tb 0 29 (by omega)).trans g7, (tb 0 26 (by omega)).trans g8, (tb 0 30 (by omega)).trans g9⟩, fun c hc => ⟨(tb 3 c (by omega)).trans (g10 c hc).1, (tb 4 c (by omega)).trans (g10 c hc).2⟩, fun j hj => (tb 6 j (by omega)).trans (g11 j hj), fun i hi => ⟨(tb 7 _ (by omega)).trans (g12 i hi).1, (tb 7 _ (by omega)).trans (g12 i hi).2⟩, fun j hj => (tb 8 j (by omega)).trans (g13 j hj), fun i hi => ⟨(tb 5 _ (by omega)).trans (g14 i hi).1, (tb 5 _ (by omega)).trans (g14 i hi).2⟩, fun i hi => (tb 9 i (by omega)).trans (g15 i hi)⟩
theorem m_cl1 (hN : 602 ≤ N) (hT : TB T n) (hV : VX V) (hP : MT T n M) (hS : StM n st M) (hR : RN V M) : wp (f_X10_readOther N (i32 197733) M) (rV fun M' => SM T n (cl T n 1 V st).2 M' M' ∧ fM M M' ∧ ((∃ a, (cl T n 1 V st).2 = .ok a) → RN (cl T n 1 V st).1 M')) := by
  have hw := hV.1.1
  have hh := hV.1.2.1
  have hns := hV.ns
  have h0 : SM T n st M M := ⟨hP, hS, fun _ _ _ => rfl⟩
  have bx := rd_9 (T := T) (n := n) (st := st) (hi := V 0 0 - 1) (by omega)
  have by' := rd_9 (T := T) (n := n) (st := (rn T n st 0 (V 0 0 - 1)).2) (hi := V 0 1 - 1) (by omega)
  unfold f_X10_readOther
  rw [m_of1 hN]
  simp only [am_bi_i]
  refine wp_gd trivial ?_
  refine wp_ci (m_cell hN hT h0 hw hh hR.1.1 hR.1.2.1) ?_
  rintro r1 M1 ⟨rfl, h1⟩
  rw [show (1 : Int32) = i32 1 from rfl, show (9 : Int32) = i32 9 from rfl]
  refine wp_ci (h1.rn hN hT (lo := 1) (hi := 9) (by omega) (by omega)) ?_
  rintro r2 M2 ⟨rfl, h2⟩
  rw [m_fine h2.2.1 hT.1]
  simp only [am_bi_i]
  have hcl : (cl T n 1 V st).2 = (rn T n (rn T n (rn T n st 0 (V 0 0 - 1)).2 0 (V 0 1 - 1)).2 1 9).2 := rfl
  generalize hst : (rn T n (rn T n (rn T n st 0 (V 0 0 - 1)).2 0 (V 0 1 - 1)).2 1 9).2 = st' at h2 hcl ⊢
  rw [hcl]
  cases st' with
  | error e => exact wp_gd rfl (wp_v ⟨⟨h2.1, h2.2.1, fun _ _ _ => rfl⟩, fM.of (fun _ _ _ _ => rfl) h2.2.2, fun z => by obtain ⟨a, z⟩ := z; cases z⟩)
  | ok a' =>
    refine wp_ng (show ¬ ((1 : Int32) = 0) by decide) (wp_gd (i32_in (by omega) (by omega) (by omega)) ?_)
    rw [i32_cl (by omega) (by omega)]
    have h3 := h2.up (k := 3) (j := (10 * (rn T n (rn T n st 0 (V 0 0 - 1)).2 0 (V 0 1 - 1)).1 + (rn T n st 0 (V 0 0 - 1)).1).toNat) (v := i32 (rn T n (rn T n (rn T n st 0 (V 0 0 - 1)).2 0 (V 0 1 - 1)).2 1 9).1) (by omega) (by omega)
    generalize hX' : am_up M 3 (10 * (rn T n (rn T n st 0 (V 0 0 - 1)).2 0 (V 0 1 - 1)).1 + (rn T n st 0 (V 0 0 - 1)).1).toNat (i32 (rn T n (rn T n (rn T n st 0 (V 0 0 - 1)).2 0 (V 0 1 - 1)).2 1 9).1) = X' at h3
    have hX' := hX'.symm
    refine wp_v ⟨⟨h3.1, h3.2.1, fun _ _ _ => rfl⟩, fM.of (fun a b w1 w2 => by rw [hX', up_ne (by omega)]) h3.2.2, fun _ => RN.e ?_ h3.2.2⟩
    obtain ⟨⟨g1, g2, g3, g4⟩, ⟨g5, g6, g7, g8, g9⟩, g10, g11, g12, g13, g14, g15⟩ := hR
    have tb : ∀ a b, a ≠ 3 → X' a b = M a b := fun a b w => by rw [hX', up_ne (by omega)]
    have tc : ∀ c, c < 100 → X' 3 c = i32 ((cl T n 1 V st).1 6 c) := fun c hc => by
      show _ = i32 (if 6 = 6 ∧ c = (10 * (rn T n (rn T n st 0 (V 0 0 - 1)).2 0 (V 0 1 - 1)).1 + (rn T n st 0 (V 0 0 - 1)).1).toNat then (rn T n (rn T n (rn T n st 0 (V 0 0 - 1)).2 0 (V 0 1 - 1)).2 1 9).1 else V 6 c)
      by_cases hq : c = (10 * (rn T n (rn T n st 0 (V 0 0 - 1)).2 0 (V 0 1 - 1)).1 + (rn T n st 0 (V 0 0 - 1)).1).toNat
      · rw [if_pos ⟨rfl, hq⟩, hX', hq, up_eq]
      · rw [if_neg (fun z => hq z.2), hX', up_ne (by omega)]; exact (g10 c hc).1
    exact ⟨⟨(tb 0 24 (by omega)).trans g1, (tb 0 25 (by omega)).trans g2, (tb 0 31 (by omega)).trans g3, (tb 0 32 (by omega)).trans g4⟩, ⟨(tb 0 27 (by omega)).trans g5, (tb 0 28 (by omega)).trans g6, (tb 0 29 (by omega)).trans g7, (tb 0 26 (by omega)).trans g8, (tb 0 30 (by omega)).trans g9⟩, fun c hc => ⟨tc c hc, (tb 4 c (by omega)).trans (g10 c hc).2⟩, fun j hj => (tb 6 j (by omega)).trans (g11 j hj), fun i hi => ⟨(tb 7 _ (by omega)).trans (g12 i hi).1, (tb 7 _ (by omega)).trans (g12 i hi).2⟩, fun j hj => (tb 8 j (by omega)).trans (g13 j hj), fun i hi => ⟨(tb 5 _ (by omega)).trans (g14 i hi).1, (tb 5 _ (by omega)).trans (g14 i hi).2⟩, fun i hi => (tb 9 i (by omega)).trans (g15 i hi)⟩
theorem m_cl2 (hN : 602 ≤ N) (hT : TB T n) (hV : VX V) (hP : MT T n M) (hS : StM n st M) (hR : RN V M) : wp (f_X10_readOther N (i32 769508) M) (rV fun M' => SM T n (cl T n 2 V st).2 M' M' ∧ fM M M' ∧ ((∃ a, (cl T n 2 V st).2 = .ok a) → RN (cl T n 2 V st).1 M')) := by
  have hw := hV.1.1
  have hh := hV.1.2.1
  have hns := hV.ns
  have h0 : SM T n st M M := ⟨hP, hS, fun _ _ _ => rfl⟩
  have bx := rd_9 (T := T) (n := n) (st := st) (hi := V 0 0 - 1) (by omega)
  have by' := rd_9 (T := T) (n := n) (st := (rn T n st 0 (V 0 0 - 1)).2) (hi := V 0 1 - 1) (by omega)
  unfold f_X10_readOther
  rw [m_of1 hN]
  simp only [am_bi_i]
  refine wp_ng (show ¬ (i32 769508 = i32 197733) by decide) ?_
  rw [m_of2 hN]
  simp only [am_bi_i]
  refine wp_gd trivial ?_
  refine wp_ci (m_cell hN hT h0 hw hh hR.1.1 hR.1.2.1) ?_
  rintro r1 M1 ⟨rfl, h1⟩
  rw [show (1 : Int32) = i32 1 from rfl, show (9 : Int32) = i32 9 from rfl]
  refine wp_ci (h1.rn hN hT (lo := 1) (hi := 9) (by omega) (by omega)) ?_
  rintro r2 M2 ⟨rfl, h2⟩
  rw [m_fine h2.2.1 hT.1]
  simp only [am_bi_i]
  have hcl : (cl T n 2 V st).2 = (rn T n (rn T n (rn T n st 0 (V 0 0 - 1)).2 0 (V 0 1 - 1)).2 1 9).2 := rfl
  generalize hst : (rn T n (rn T n (rn T n st 0 (V 0 0 - 1)).2 0 (V 0 1 - 1)).2 1 9).2 = st' at h2 hcl ⊢
  rw [hcl]
  cases st' with
  | error e => exact wp_gd rfl (wp_v ⟨⟨h2.1, h2.2.1, fun _ _ _ => rfl⟩, fM.of (fun _ _ _ _ => rfl) h2.2.2, fun z => by obtain ⟨a, z⟩ := z; cases z⟩)
  | ok a' =>
    refine wp_ng (show ¬ ((1 : Int32) = 0) by decide) (wp_gd (i32_in (by omega) (by omega) (by omega)) ?_)
    rw [i32_cl (by omega) (by omega)]
    have h3 := h2.up (k := 4) (j := (10 * (rn T n (rn T n st 0 (V 0 0 - 1)).2 0 (V 0 1 - 1)).1 + (rn T n st 0 (V 0 0 - 1)).1).toNat) (v := i32 (rn T n (rn T n (rn T n st 0 (V 0 0 - 1)).2 0 (V 0 1 - 1)).2 1 9).1) (by omega) (by omega)
    generalize hX' : am_up M 4 (10 * (rn T n (rn T n st 0 (V 0 0 - 1)).2 0 (V 0 1 - 1)).1 + (rn T n st 0 (V 0 0 - 1)).1).toNat (i32 (rn T n (rn T n (rn T n st 0 (V 0 0 - 1)).2 0 (V 0 1 - 1)).2 1 9).1) = X' at h3
    have hX' := hX'.symm
    refine wp_v ⟨⟨h3.1, h3.2.1, fun _ _ _ => rfl⟩, fM.of (fun a b w1 w2 => by rw [hX', up_ne (by omega)]) h3.2.2, fun _ => RN.e ?_ h3.2.2⟩
    obtain ⟨⟨g1, g2, g3, g4⟩, ⟨g5, g6, g7, g8, g9⟩, g10, g11, g12, g13, g14, g15⟩ := hR
    have tb : ∀ a b, a ≠ 4 → X' a b = M a b := fun a b w => by rw [hX', up_ne (by omega)]
    have tc : ∀ c, c < 100 → X' 4 c = i32 ((cl T n 2 V st).1 7 c) := fun c hc => by
      show _ = i32 (if 7 = 7 ∧ c = (10 * (rn T n (rn T n st 0 (V 0 0 - 1)).2 0 (V 0 1 - 1)).1 + (rn T n st 0 (V 0 0 - 1)).1).toNat then (rn T n (rn T n (rn T n st 0 (V 0 0 - 1)).2 0 (V 0 1 - 1)).2 1 9).1 else V 7 c)
      by_cases hq : c = (10 * (rn T n (rn T n st 0 (V 0 0 - 1)).2 0 (V 0 1 - 1)).1 + (rn T n st 0 (V 0 0 - 1)).1).toNat
      · rw [if_pos ⟨rfl, hq⟩, hX', hq, up_eq]
      · rw [if_neg (fun z => hq z.2), hX', up_ne (by omega)]; exact (g10 c hc).2
    exact ⟨⟨(tb 0 24 (by omega)).trans g1, (tb 0 25 (by omega)).trans g2, (tb 0 31 (by omega)).trans g3, (tb 0 32 (by omega)).trans g4⟩, ⟨(tb 0 27 (by omega)).trans g5, (tb 0 28 (by omega)).trans g6, (tb 0 29 (by omega)).trans g7, (tb 0 26 (by omega)).trans g8, (tb 0 30 (by omega)).trans g9⟩, fun c hc => ⟨(tb 3 c (by omega)).trans (g10 c hc).1, tc c hc⟩, fun j hj => (tb 6 j (by omega)).trans (g11 j hj), fun i hi => ⟨(tb 7 _ (by omega)).trans (g12 i hi).1, (tb 7 _ (by omega)).trans (g12 i hi).2⟩, fun j hj => (tb 8 j (by omega)).trans (g13 j hj), fun i hi => ⟨(tb 5 _ (by omega)).trans (g14 i hi).1, (tb 5 _ (by omega)).trans (g14 i hi).2⟩, fun i hi => (tb 9 i (by omega)).trans (g15 i hi)⟩
theorem m_cl3 (hN : 602 ≤ N) (hT : TB T n) (hV : VX V) (hP : MT T n M) (hS : StM n st M) (hR : RN V M) (hfull : V 0 8 < 8) : wp (f_X10_readOther N (i32 637431) M) (rV fun M' => SM T n (cl T n 3 V st).2 M' M' ∧ fM M M' ∧ ((∃ a, (cl T n 3 V st).2 = .ok a) → RN (cl T n 3 V st).1 M')) := by
  have hw := hV.1.1
  have hh := hV.1.2.1
  have hns := hV.ns
  have h0 : SM T n st M M := ⟨hP, hS, fun _ _ _ => rfl⟩
  have bx := rd_9 (T := T) (n := n) (st := st) (hi := V 0 0 - 1) (by omega)
  have by' := rd_9 (T := T) (n := n) (st := (rn T n st 0 (V 0 0 - 1)).2) (hi := V 0 1 - 1) (by omega)
  have hsz : M 0 26 = i32 (V 0 8) := hR.2.1.2.2.2.1
  unfold f_X10_readOther
  rw [m_of1 hN]
  simp only [am_bi_i]
  refine wp_ng (show ¬ (i32 637431 = i32 197733) by decide) ?_
  rw [m_of2 hN]
  simp only [am_bi_i]
  refine wp_ng (show ¬ (i32 637431 = i32 769508) by decide) ?_
  rw [m_of3 hN]
  simp only [am_bi_i]
  refine wp_gd trivial ?_
  refine wp_ci (m_cell hN hT h0 hw hh hR.1.1 hR.1.2.1) ?_
  rintro r1 M1 ⟨rfl, h1⟩
  rw [hsz, i32_2, i32_mul]
  refine wp_gd (i32_in (by omega) (by omega) (by omega)) ?_
  rw [i32_cl (by omega) (by omega), show (2 * V 0 8).toNat = 2 * (V 0 8).toNat from by omega, show (1 : Int32) = i32 1 from rfl, show (99 : Int32) = i32 99 from rfl]
  have s1 := h1.up (k := 5) (j := 2 * (V 0 8).toNat) (v := i32 (10 * (rn T n (rn T n st 0 (V 0 0 - 1)).2 0 (V 0 1 - 1)).1 + (rn T n st 0 (V 0 0 - 1)).1)) (by omega) (by omega)
  refine wp_ci (s1.rn hN hT (lo := 1) (hi := 99) (by omega) (by omega)) ?_
  rintro r2 M2 ⟨rfl, h2⟩
  rw [h1.2.2 0 26 (by omega), hsz, h2.2.2 0 26 (by omega), up_ne (by omega), hsz]
  try rw [i32_1]
  rw [i32_mul, i32_add, i32_add]
  refine wp_gd (i32_in (by omega) (by omega) (by omega)) ?_
  rw [i32_cl (by omega) (by omega), show (2 * V 0 8 + 1).toNat = 2 * (V 0 8).toNat + 1 from by omega]
  have h3 := (h2.up (k := 5) (j := 2 * (V 0 8).toNat + 1) (v := i32 (rn T n (rn T n (rn T n st 0 (V 0 0 - 1)).2 0 (V 0 1 - 1)).2 1 99).1) (by omega) (by omega)).up (k := 0) (j := 26) (v := i32 (V 0 8 + 1)) (by omega) (by omega)
  generalize hX' : am_up (am_up (am_up M 5 (2 * (V 0 8).toNat) (i32 (10 * (rn T n (rn T n st 0 (V 0 0 - 1)).2 0 (V 0 1 - 1)).1 + (rn T n st 0 (V 0 0 - 1)).1))) 5 (2 * (V 0 8).toNat + 1) (i32 (rn T n (rn T n (rn T n st 0 (V 0 0 - 1)).2 0 (V 0 1 - 1)).2 1 99).1)) 0 26 (i32 (V 0 8 + 1)) = X' at h3
  have hX' := hX'.symm
  refine wp_v ⟨⟨h3.1, h3.2.1, fun _ _ _ => rfl⟩, fM.of (fun a b w1 w2 => by rw [hX', up_ne (by omega), up_ne (by omega), up_ne (by omega)]) h3.2.2, fun _ => RN.e ?_ h3.2.2⟩
  obtain ⟨⟨g1, g2, g3, g4⟩, ⟨g5, g6, g7, g8, g9⟩, g10, g11, g12, g13, g14, g15⟩ := hR
  have tb : ∀ a b, (a ≠ 5 ∧ (a ≠ 0 ∨ b ≠ 26)) → X' a b = M a b := fun a b w => by rw [hX', up_ne (by omega), up_ne (by omega), up_ne (by omega)]
  have tn : ∀ i : Nat, (i : Int) < V 0 8 + 1 → X' 5 (2 * i) = i32 (10 * (cl T n 3 V st).1 4 (3 * i + 1) + (cl T n 3 V st).1 4 (3 * i)) ∧ X' 5 (2 * i + 1) = i32 ((cl T n 3 V st).1 4 (3 * i + 2)) := by
    intro i hi
    show X' 5 (2 * i) = i32 (10 * apT V 4 8 3 [(rn T n st 0 (V 0 0 - 1)).1, (rn T n (rn T n st 0 (V 0 0 - 1)).2 0 (V 0 1 - 1)).1, (rn T n (rn T n (rn T n st 0 (V 0 0 - 1)).2 0 (V 0 1 - 1)).2 1 99).1] 4 (3 * i + 1) + apT V 4 8 3 [(rn T n st 0 (V 0 0 - 1)).1, (rn T n (rn T n st 0 (V 0 0 - 1)).2 0 (V 0 1 - 1)).1, (rn T n (rn T n (rn T n st 0 (V 0 0 - 1)).2 0 (V 0 1 - 1)).2 1 99).1] 4 (3 * i)) ∧ X' 5 (2 * i + 1) = i32 (apT V 4 8 3 [(rn T n st 0 (V 0 0 - 1)).1, (rn T n (rn T n st 0 (V 0 0 - 1)).2 0 (V 0 1 - 1)).1, (rn T n (rn T n (rn T n st 0 (V 0 0 - 1)).2 0 (V 0 1 - 1)).2 1 99).1] 4 (3 * i + 2))
    by_cases hii : i = (V 0 8).toNat
    · rw [hii, apT_hi (by omega), apT_hi (by omega), show 3 * (V 0 8).toNat = 3 * (V 0 8).toNat + 0 from rfl, apT_hi (by omega), hX', up_ne (by omega), up_ne (by omega), up_eq, up_ne (by omega), up_eq]
      exact ⟨rfl, rfl⟩
    · rw [apT_lo (by omega) (by omega), apT_lo (by omega) (by omega), apT_lo (by omega) (by omega), hX', up_ne (by omega), up_ne (by omega), up_ne (by omega), up_ne (by omega), up_ne (by omega), up_ne (by omega)]
      exact g14 i (by omega)
  exact ⟨⟨(tb 0 24 (by omega)).trans g1, (tb 0 25 (by omega)).trans g2, (tb 0 31 (by omega)).trans g3, (tb 0 32 (by omega)).trans g4⟩, ⟨(tb 0 27 (by omega)).trans g5, (tb 0 28 (by omega)).trans g6, (tb 0 29 (by omega)).trans g7, (by rw [hX', up_eq]; rfl), (tb 0 30 (by omega)).trans g9⟩, fun c hc => ⟨(tb 3 c (by omega)).trans (g10 c hc).1, (tb 4 c (by omega)).trans (g10 c hc).2⟩, fun j hj => (tb 6 j (by omega)).trans (g11 j hj), fun i hi => ⟨(tb 7 _ (by omega)).trans (g12 i hi).1, (tb 7 _ (by omega)).trans (g12 i hi).2⟩, fun j hj => (tb 8 j (by omega)).trans (g13 j hj), tn, fun i hi => (tb 9 i (by omega)).trans (g15 i hi)⟩
theorem m_cl5 (hN : 602 ≤ N) (hT : TB T n) (hV : VX V) (hP : MT T n M) (hS : StM n st M) (hR : RN V M) (hfull : V 0 6 < 4) : wp (f_X10_readOther N (i32 632453) M) (rV fun M' => SM T n (cl T n 5 V st).2 M' M' ∧ fM M M' ∧ ((∃ a, (cl T n 5 V st).2 = .ok a) → RN (cl T n 5 V st).1 M')) := by
  have hw := hV.1.1
  have hh := hV.1.2.1
  have hns := hV.ns
  have h0 : SM T n st M M := ⟨hP, hS, fun _ _ _ => rfl⟩
  have bx := rd_9 (T := T) (n := n) (st := st) (hi := V 0 0 - 1) (by omega)
  have by' := rd_9 (T := T) (n := n) (st := (rn T n st 0 (V 0 0 - 1)).2) (hi := V 0 1 - 1) (by omega)
  have hsz : M 0 28 = i32 (V 0 6) := hR.2.1.2.1
  unfold f_X10_readOther
  rw [m_of1 hN]
  simp only [am_bi_i]
  refine wp_ng (show ¬ (i32 632453 = i32 197733) by decide) ?_
  rw [m_of2 hN]
  simp only [am_bi_i]
  refine wp_ng (show ¬ (i32 632453 = i32 769508) by decide) ?_
  rw [m_of3 hN]
  simp only [am_bi_i]
  refine wp_ng (show ¬ (i32 632453 = i32 637431) by decide) ?_
  rw [m_of4 hN]
  simp only [am_bi_i]
  refine wp_ng (show ¬ (i32 632453 = i32 6591876) by decide) ?_
  rw [m_of5 hN]
  simp only [am_bi_i]
  refine wp_gd trivial ?_
  refine wp_ci (m_cell hN hT h0 hw hh hR.1.1 hR.1.2.1) ?_
  rintro r1 M1 ⟨rfl, h1⟩
  rw [hsz, i32_2, i32_mul]
  refine wp_gd (i32_in (by omega) (by omega) (by omega)) ?_
  rw [i32_cl (by omega) (by omega), show (2 * V 0 6).toNat = 2 * (V 0 6).toNat from by omega, show (0 : Int32) = i32 0 from rfl, show (99 : Int32) = i32 99 from rfl]
  have s1 := h1.up (k := 7) (j := 2 * (V 0 6).toNat) (v := i32 (10 * (rn T n (rn T n st 0 (V 0 0 - 1)).2 0 (V 0 1 - 1)).1 + (rn T n st 0 (V 0 0 - 1)).1)) (by omega) (by omega)
  refine wp_ci (s1.rn hN hT (lo := 0) (hi := 99) (by omega) (by omega)) ?_
  rintro r2 M2 ⟨rfl, h2⟩
  rw [h1.2.2 0 28 (by omega), hsz, h2.2.2 0 28 (by omega), up_ne (by omega), hsz]
  try rw [i32_1]
  rw [i32_mul, i32_add, i32_add]
  refine wp_gd (i32_in (by omega) (by omega) (by omega)) ?_
  rw [i32_cl (by omega) (by omega), show (2 * V 0 6 + 1).toNat = 2 * (V 0 6).toNat + 1 from by omega]
  have h3 := (h2.up (k := 7) (j := 2 * (V 0 6).toNat + 1) (v := i32 (rn T n (rn T n (rn T n st 0 (V 0 0 - 1)).2 0 (V 0 1 - 1)).2 0 99).1) (by omega) (by omega)).up (k := 0) (j := 28) (v := i32 (V 0 6 + 1)) (by omega) (by omega)
  generalize hX' : am_up (am_up (am_up M 7 (2 * (V 0 6).toNat) (i32 (10 * (rn T n (rn T n st 0 (V 0 0 - 1)).2 0 (V 0 1 - 1)).1 + (rn T n st 0 (V 0 0 - 1)).1))) 7 (2 * (V 0 6).toNat + 1) (i32 (rn T n (rn T n (rn T n st 0 (V 0 0 - 1)).2 0 (V 0 1 - 1)).2 0 99).1)) 0 28 (i32 (V 0 6 + 1)) = X' at h3
  have hX' := hX'.symm
  refine wp_v ⟨⟨h3.1, h3.2.1, fun _ _ _ => rfl⟩, fM.of (fun a b w1 w2 => by rw [hX', up_ne (by omega), up_ne (by omega), up_ne (by omega)]) h3.2.2, fun _ => RN.e ?_ h3.2.2⟩
  obtain ⟨⟨g1, g2, g3, g4⟩, ⟨g5, g6, g7, g8, g9⟩, g10, g11, g12, g13, g14, g15⟩ := hR
  have tb : ∀ a b, (a ≠ 7 ∧ (a ≠ 0 ∨ b ≠ 28)) → X' a b = M a b := fun a b w => by rw [hX', up_ne (by omega), up_ne (by omega), up_ne (by omega)]
  have tn : ∀ i : Nat, (i : Int) < V 0 6 + 1 → X' 7 (2 * i) = i32 (10 * (cl T n 5 V st).1 2 (3 * i + 1) + (cl T n 5 V st).1 2 (3 * i)) ∧ X' 7 (2 * i + 1) = i32 ((cl T n 5 V st).1 2 (3 * i + 2)) := by
    intro i hi
    show X' 7 (2 * i) = i32 (10 * apT V 2 6 3 [(rn T n st 0 (V 0 0 - 1)).1, (rn T n (rn T n st 0 (V 0 0 - 1)).2 0 (V 0 1 - 1)).1, (rn T n (rn T n (rn T n st 0 (V 0 0 - 1)).2 0 (V 0 1 - 1)).2 0 99).1] 2 (3 * i + 1) + apT V 2 6 3 [(rn T n st 0 (V 0 0 - 1)).1, (rn T n (rn T n st 0 (V 0 0 - 1)).2 0 (V 0 1 - 1)).1, (rn T n (rn T n (rn T n st 0 (V 0 0 - 1)).2 0 (V 0 1 - 1)).2 0 99).1] 2 (3 * i)) ∧ X' 7 (2 * i + 1) = i32 (apT V 2 6 3 [(rn T n st 0 (V 0 0 - 1)).1, (rn T n (rn T n st 0 (V 0 0 - 1)).2 0 (V 0 1 - 1)).1, (rn T n (rn T n (rn T n st 0 (V 0 0 - 1)).2 0 (V 0 1 - 1)).2 0 99).1] 2 (3 * i + 2))
    by_cases hii : i = (V 0 6).toNat
    · rw [hii, apT_hi (by omega), apT_hi (by omega), show 3 * (V 0 6).toNat = 3 * (V 0 6).toNat + 0 from rfl, apT_hi (by omega), hX', up_ne (by omega), up_ne (by omega), up_eq, up_ne (by omega), up_eq]
      exact ⟨rfl, rfl⟩
    · rw [apT_lo (by omega) (by omega), apT_lo (by omega) (by omega), apT_lo (by omega) (by omega), hX', up_ne (by omega), up_ne (by omega), up_ne (by omega), up_ne (by omega), up_ne (by omega), up_ne (by omega)]
      exact g12 i (by omega)
  exact ⟨⟨(tb 0 24 (by omega)).trans g1, (tb 0 25 (by omega)).trans g2, (tb 0 31 (by omega)).trans g3, (tb 0 32 (by omega)).trans g4⟩, ⟨(tb 0 27 (by omega)).trans g5, (by rw [hX', up_eq]; rfl), (tb 0 29 (by omega)).trans g7, (tb 0 26 (by omega)).trans g8, (tb 0 30 (by omega)).trans g9⟩, fun c hc => ⟨(tb 3 c (by omega)).trans (g10 c hc).1, (tb 4 c (by omega)).trans (g10 c hc).2⟩, fun j hj => (tb 6 j (by omega)).trans (g11 j hj), tn, fun j hj => (tb 8 j (by omega)).trans (g13 j hj), fun i hi => ⟨(tb 5 _ (by omega)).trans (g14 i hi).1, (tb 5 _ (by omega)).trans (g14 i hi).2⟩, fun i hi => (tb 9 i (by omega)).trans (g15 i hi)⟩
theorem m_cl4 (hN : 602 ≤ N) (hT : TB T n) (hV : VX V) (hP : MT T n M) (hS : StM n st M) (hR : RN V M) (hfull : V 0 5 < 5) : wp (f_X10_readOther N (i32 6591876) M) (rV fun M' => SM T n (cl T n 4 V st).2 M' M' ∧ fM M M' ∧ ((∃ a, (cl T n 4 V st).2 = .ok a) → RN (cl T n 4 V st).1 M')) := by
  have hw := hV.1.1
  have hh := hV.1.2.1
  have hns := hV.ns
  have h0 : SM T n st M M := ⟨hP, hS, fun _ _ _ => rfl⟩
  have bx := rd_9 (T := T) (n := n) (st := st) (hi := V 0 0 - 1) (by omega)
  have by' := rd_9 (T := T) (n := n) (st := (rn T n st 0 (V 0 0 - 1)).2) (hi := V 0 1 - 1) (by omega)
  have hsz : M 0 27 = i32 (V 0 5) := hR.2.1.1
  unfold f_X10_readOther
  rw [m_of1 hN]
  simp only [am_bi_i]
  refine wp_ng (show ¬ (i32 6591876 = i32 197733) by decide) ?_
  rw [m_of2 hN]
  simp only [am_bi_i]
  refine wp_ng (show ¬ (i32 6591876 = i32 769508) by decide) ?_
  rw [m_of3 hN]
  simp only [am_bi_i]
  refine wp_ng (show ¬ (i32 6591876 = i32 637431) by decide) ?_
  rw [m_of4 hN]
  simp only [am_bi_i]
  refine wp_gd trivial ?_
  rw [hR.1.1, i32_1, i32_sub, i32_0]
  refine wp_ci (h0.rn hN hT (lo := 0) (hi := V 0 0 - 1) (by omega) (by omega)) ?_
  rintro r1 M1 ⟨rfl, h1⟩
  rw [h1.2.2 0 25 (by omega), hR.1.2.1, i32_sub]
  refine wp_ci (h1.rn hN hT (lo := 0) (hi := V 0 1 - 1) (by omega) (by omega)) ?_
  rintro r2 M2 ⟨rfl, h2⟩
  rw [hsz, i32_5, i32_mul, i32_add]
  refine wp_gd ⟨i32_in (by omega) (by omega) (by omega), i32_in (by omega) (by omega) (by omega)⟩ ?_
  rw [i32_cl (by omega) (by omega), i32_cl (by omega) (by omega), show (5 * V 0 5).toNat = 5 * (V 0 5).toNat + 0 from by omega, show (5 * V 0 5 + 1).toNat = 5 * (V 0 5).toNat + 1 from by omega, h2.2.2 0 24 (by omega), hR.1.1, i32_sub]
  have s2 := (h2.up (k := 6) (j := 5 * (V 0 5).toNat + 0) (v := i32 (rn T n st 0 (V 0 0 - 1)).1) (by omega) (by omega)).up (k := 6) (j := 5 * (V 0 5).toNat + 1) (v := i32 (rn T n (rn T n st 0 (V 0 0 - 1)).2 0 (V 0 1 - 1)).1) (by omega) (by omega)
  refine wp_ci (s2.rn hN hT (lo := (rn T n st 0 (V 0 0 - 1)).1) (hi := V 0 0 - 1) (by omega) (by omega)) ?_
  rintro r3 M3 ⟨rfl, h3⟩
  rw [i32_2, i32_add]
  refine wp_gd (i32_in (by omega) (by omega) (by omega)) ?_
  rw [i32_cl (by omega) (by omega), show (5 * V 0 5 + 2).toNat = 5 * (V 0 5).toNat + 2 from by omega, h3.2.2 0 25 (by omega), up_ne (by omega), up_ne (by omega), hR.1.2.1, i32_sub]
  have s3 := h3.up (k := 6) (j := 5 * (V 0 5).toNat + 2) (v := i32 (rn T n (rn T n (rn T n st 0 (V 0 0 - 1)).2 0 (V 0 1 - 1)).2 (rn T n st 0 (V 0 0 - 1)).1 (V 0 0 - 1)).1) (by omega) (by omega)
  refine wp_ci (s3.rn hN hT (lo := (rn T n (rn T n st 0 (V 0 0 - 1)).2 0 (V 0 1 - 1)).1) (hi := V 0 1 - 1) (by omega) (by omega)) ?_
  rintro r4 M4 ⟨rfl, h4⟩
  rw [i32_3, i32_add]
  refine wp_gd (i32_in (by omega) (by omega) (by omega)) ?_
  rw [i32_cl (by omega) (by omega), show (5 * V 0 5 + 3).toNat = 5 * (V 0 5).toNat + 3 from by omega, show (99 : Int32) = i32 99 from rfl]
  have s4 := h4.up (k := 6) (j := 5 * (V 0 5).toNat + 3) (v := i32 (rn T n (rn T n (rn T n (rn T n st 0 (V 0 0 - 1)).2 0 (V 0 1 - 1)).2 (rn T n st 0 (V 0 0 - 1)).1 (V 0 0 - 1)).2 (rn T n (rn T n st 0 (V 0 0 - 1)).2 0 (V 0 1 - 1)).1 (V 0 1 - 1)).1) (by omega) (by omega)
  refine wp_ci (s4.rn hN hT (lo := 1) (hi := 99) (by omega) (by omega)) ?_
  rintro r5 M5 ⟨rfl, h5⟩
  rw [i32_4, i32_add]
  refine wp_gd (i32_in (by omega) (by omega) (by omega)) ?_
  rw [i32_cl (by omega) (by omega), show (5 * V 0 5 + 4).toNat = 5 * (V 0 5).toNat + 4 from by omega, h5.2.2 0 27 (by omega), up_ne (by omega), up_ne (by omega), up_ne (by omega), up_ne (by omega), hsz, i32_add]
  have h6 := (h5.up (k := 6) (j := 5 * (V 0 5).toNat + 4) (v := i32 (rn T n (rn T n (rn T n (rn T n (rn T n st 0 (V 0 0 - 1)).2 0 (V 0 1 - 1)).2 (rn T n st 0 (V 0 0 - 1)).1 (V 0 0 - 1)).2 (rn T n (rn T n st 0 (V 0 0 - 1)).2 0 (V 0 1 - 1)).1 (V 0 1 - 1)).2 1 99).1) (by omega) (by omega)).up (k := 0) (j := 27) (v := i32 (V 0 5 + 1)) (by omega) (by omega)
  generalize hX' : am_up (am_up (am_up (am_up (am_up (am_up M 6 (5 * (V 0 5).toNat + 0) (i32 (rn T n st 0 (V 0 0 - 1)).1)) 6 (5 * (V 0 5).toNat + 1) (i32 (rn T n (rn T n st 0 (V 0 0 - 1)).2 0 (V 0 1 - 1)).1)) 6 (5 * (V 0 5).toNat + 2) (i32 (rn T n (rn T n (rn T n st 0 (V 0 0 - 1)).2 0 (V 0 1 - 1)).2 (rn T n st 0 (V 0 0 - 1)).1 (V 0 0 - 1)).1)) 6 (5 * (V 0 5).toNat + 3) (i32 (rn T n (rn T n (rn T n (rn T n st 0 (V 0 0 - 1)).2 0 (V 0 1 - 1)).2 (rn T n st 0 (V 0 0 - 1)).1 (V 0 0 - 1)).2 (rn T n (rn T n st 0 (V 0 0 - 1)).2 0 (V 0 1 - 1)).1 (V 0 1 - 1)).1)) 6 (5 * (V 0 5).toNat + 4) (i32 (rn T n (rn T n (rn T n (rn T n (rn T n st 0 (V 0 0 - 1)).2 0 (V 0 1 - 1)).2 (rn T n st 0 (V 0 0 - 1)).1 (V 0 0 - 1)).2 (rn T n (rn T n st 0 (V 0 0 - 1)).2 0 (V 0 1 - 1)).1 (V 0 1 - 1)).2 1 99).1)) 0 27 (i32 (V 0 5 + 1)) = X' at h6
  have hX' := hX'.symm
  refine wp_v ⟨⟨h6.1, h6.2.1, fun _ _ _ => rfl⟩, fM.of (fun a b w1 w2 => by rw [hX', up_ne (by omega), up_ne (by omega), up_ne (by omega), up_ne (by omega), up_ne (by omega), up_ne (by omega)]) h6.2.2, fun _ => RN.e ?_ h6.2.2⟩
  obtain ⟨⟨g1, g2, g3, g4⟩, ⟨g5, g6, g7, g8, g9⟩, g10, g11, g12, g13, g14, g15⟩ := hR
  have tb : ∀ a b, (a ≠ 6 ∧ (a ≠ 0 ∨ b ≠ 27)) → X' a b = M a b := fun a b w => by rw [hX', up_ne (by omega), up_ne (by omega), up_ne (by omega), up_ne (by omega), up_ne (by omega), up_ne (by omega)]
  have tn : ∀ j : Nat, (j : Int) < (V 0 5 + 1) * 5 → X' 6 j = i32 ((cl T n 4 V st).1 1 j) := by
    intro j hj
    show X' 6 j = i32 (apT V 1 5 5 [(rn T n st 0 (V 0 0 - 1)).1, (rn T n (rn T n st 0 (V 0 0 - 1)).2 0 (V 0 1 - 1)).1, (rn T n (rn T n (rn T n st 0 (V 0 0 - 1)).2 0 (V 0 1 - 1)).2 (rn T n st 0 (V 0 0 - 1)).1 (V 0 0 - 1)).1, (rn T n (rn T n (rn T n (rn T n st 0 (V 0 0 - 1)).2 0 (V 0 1 - 1)).2 (rn T n st 0 (V 0 0 - 1)).1 (V 0 0 - 1)).2 (rn T n (rn T n st 0 (V 0 0 - 1)).2 0 (V 0 1 - 1)).1 (V 0 1 - 1)).1, (rn T n (rn T n (rn T n (rn T n (rn T n st 0 (V 0 0 - 1)).2 0 (V 0 1 - 1)).2 (rn T n st 0 (V 0 0 - 1)).1 (V 0 0 - 1)).2 (rn T n (rn T n st 0 (V 0 0 - 1)).2 0 (V 0 1 - 1)).1 (V 0 1 - 1)).2 1 99).1] 1 j)
    by_cases hjj : j < 5 * (V 0 5).toNat
    · rw [apT_lo (by omega) hjj, hX', up_ne (by omega), up_ne (by omega), up_ne (by omega), up_ne (by omega), up_ne (by omega), up_ne (by omega)]
      exact g11 j (by omega)
    · have hj' : j = 5 * (V 0 5).toNat + 0 ∨ j = 5 * (V 0 5).toNat + 1 ∨ j = 5 * (V 0 5).toNat + 2 ∨ j = 5 * (V 0 5).toNat + 3 ∨ j = 5 * (V 0 5).toNat + 4 := by omega
      rcases hj' with rfl | rfl | rfl | rfl | rfl
      · rw [apT_hi (by omega), hX', up_ne (by omega), up_ne (by omega), up_ne (by omega), up_ne (by omega), up_ne (by omega), up_eq]; rfl
      · rw [apT_hi (by omega), hX', up_ne (by omega), up_ne (by omega), up_ne (by omega), up_ne (by omega), up_eq]; rfl
      · rw [apT_hi (by omega), hX', up_ne (by omega), up_ne (by omega), up_ne (by omega), up_eq]; rfl
      · rw [apT_hi (by omega), hX', up_ne (by omega), up_ne (by omega), up_eq]; rfl
      · rw [apT_hi (by omega), hX', up_ne (by omega), up_eq]; rfl
  exact ⟨⟨(tb 0 24 (by omega)).trans g1, (tb 0 25 (by omega)).trans g2, (tb 0 31 (by omega)).trans g3, (tb 0 32 (by omega)).trans g4⟩, ⟨(by rw [hX', up_eq]; rfl), (tb 0 28 (by omega)).trans g6, (tb 0 29 (by omega)).trans g7, (tb 0 26 (by omega)).trans g8, (tb 0 30 (by omega)).trans g9⟩, fun c hc => ⟨(tb 3 c (by omega)).trans (g10 c hc).1, (tb 4 c (by omega)).trans (g10 c hc).2⟩, tn, fun i hi => ⟨(tb 7 _ (by omega)).trans (g12 i hi).1, (tb 7 _ (by omega)).trans (g12 i hi).2⟩, fun j hj => (tb 8 j (by omega)).trans (g13 j hj), fun i hi => ⟨(tb 5 _ (by omega)).trans (g14 i hi).1, (tb 5 _ (by omega)).trans (g14 i hi).2⟩, fun i hi => (tb 9 i (by omega)).trans (g15 i hi)⟩
theorem m_cl6 (hN : 602 ≤ N) (hT : TB T n) (hV : VX V) (hP : MT T n M) (hS : StM n st M) (hR : RN V M) (hfull : V 0 7 < 4) : wp (f_X10_readOther N (i32 642829806) M) (rV fun M' => SM T n (cl T n 6 V st).2 M' M' ∧ fM M M' ∧ ((∃ a, (cl T n 6 V st).2 = .ok a) → RN (cl T n 6 V st).1 M')) := by
  have hw := hV.1.1
  have hh := hV.1.2.1
  have hns := hV.ns
  have h0 : SM T n st M M := ⟨hP, hS, fun _ _ _ => rfl⟩
  have bx := rd_9 (T := T) (n := n) (st := st) (hi := V 0 0 - 1) (by omega)
  have by' := rd_9 (T := T) (n := n) (st := (rn T n st 0 (V 0 0 - 1)).2) (hi := V 0 1 - 1) (by omega)
  have hsz : M 0 29 = i32 (V 0 7) := hR.2.1.2.2.1
  unfold f_X10_readOther
  rw [m_of1 hN]
  simp only [am_bi_i]
  refine wp_ng (show ¬ (i32 642829806 = i32 197733) by decide) ?_
  rw [m_of2 hN]
  simp only [am_bi_i]
  refine wp_ng (show ¬ (i32 642829806 = i32 769508) by decide) ?_
  rw [m_of3 hN]
  simp only [am_bi_i]
  refine wp_ng (show ¬ (i32 642829806 = i32 637431) by decide) ?_
  rw [m_of4 hN]
  simp only [am_bi_i]
  refine wp_ng (show ¬ (i32 642829806 = i32 6591876) by decide) ?_
  rw [m_of5 hN]
  simp only [am_bi_i]
  refine wp_ng (show ¬ (i32 642829806 = i32 632453) by decide) ?_
  rw [m_of6 hN]
  simp only [am_bi_i]
  refine wp_gd trivial ?_
  rw [i32_0, show (9 : Int32) = i32 9 from rfl]
  refine wp_ci (h0.rn hN hT (lo := 0) (hi := 9) (by omega) (by omega)) ?_
  rintro r1 M1 ⟨rfl, h1⟩
  rw [hsz, i32_2, i32_mul]
  refine wp_gd (i32_in (by omega) (by omega) (by omega)) ?_
  rw [i32_cl (by omega) (by omega), show (2 * V 0 7).toNat = 2 * (V 0 7).toNat + 0 from by omega, i32_1]
  have s1 := h1.up (k := 8) (j := 2 * (V 0 7).toNat + 0) (v := i32 (rn T n st 0 9).1) (by omega) (by omega)
  refine wp_ci (s1.rn hN hT (lo := 1) (hi := 9) (by omega) (by omega)) ?_
  rintro r2 M2 ⟨rfl, h2⟩
  rw [h1.2.2 0 29 (by omega), hsz, h2.2.2 0 29 (by omega), up_ne (by omega), hsz, i32_mul, i32_add, i32_add]
  refine wp_gd (i32_in (by omega) (by omega) (by omega)) ?_
  rw [i32_cl (by omega) (by omega), show (2 * V 0 7 + 1).toNat = 2 * (V 0 7).toNat + 1 from by omega]
  have h3 := (h2.up (k := 8) (j := 2 * (V 0 7).toNat + 1) (v := i32 (rn T n (rn T n st 0 9).2 1 9).1) (by omega) (by omega)).up (k := 0) (j := 29) (v := i32 (V 0 7 + 1)) (by omega) (by omega)
  generalize hX' : am_up (am_up (am_up M 8 (2 * (V 0 7).toNat + 0) (i32 (rn T n st 0 9).1)) 8 (2 * (V 0 7).toNat + 1) (i32 (rn T n (rn T n st 0 9).2 1 9).1)) 0 29 (i32 (V 0 7 + 1)) = X' at h3
  have hX' := hX'.symm
  refine wp_v ⟨⟨h3.1, h3.2.1, fun _ _ _ => rfl⟩, fM.of (fun a b w1 w2 => by rw [hX', up_ne (by omega), up_ne (by omega), up_ne (by omega)]) h3.2.2, fun _ => RN.e ?_ h3.2.2⟩
  obtain ⟨⟨g1, g2, g3, g4⟩, ⟨g5, g6, g7, g8, g9⟩, g10, g11, g12, g13, g14, g15⟩ := hR
  have tb : ∀ a b, (a ≠ 8 ∧ (a ≠ 0 ∨ b ≠ 29)) → X' a b = M a b := fun a b w => by rw [hX', up_ne (by omega), up_ne (by omega), up_ne (by omega)]
  have tn : ∀ j : Nat, (j : Int) < (V 0 7 + 1) * 2 → X' 8 j = i32 ((cl T n 6 V st).1 3 j) := by
    intro j hj
    show X' 8 j = i32 (apT V 3 7 2 [(rn T n st 0 9).1, (rn T n (rn T n st 0 9).2 1 9).1] 3 j)
    by_cases hjj : j < 2 * (V 0 7).toNat
    · rw [apT_lo (by omega) hjj, hX', up_ne (by omega), up_ne (by omega), up_ne (by omega)]
      exact g13 j (by omega)
    · have hj' : j = 2 * (V 0 7).toNat + 0 ∨ j = 2 * (V 0 7).toNat + 1 := by omega
      rcases hj' with rfl | rfl
      · rw [apT_hi (by omega), hX', up_ne (by omega), up_ne (by omega), up_eq]; rfl
      · rw [apT_hi (by omega), hX', up_ne (by omega), up_eq]; rfl
  exact ⟨⟨(tb 0 24 (by omega)).trans g1, (tb 0 25 (by omega)).trans g2, (tb 0 31 (by omega)).trans g3, (tb 0 32 (by omega)).trans g4⟩, ⟨(tb 0 27 (by omega)).trans g5, (tb 0 28 (by omega)).trans g6, (by rw [hX', up_eq]; rfl), (tb 0 26 (by omega)).trans g8, (tb 0 30 (by omega)).trans g9⟩, fun c hc => ⟨(tb 3 c (by omega)).trans (g10 c hc).1, (tb 4 c (by omega)).trans (g10 c hc).2⟩, fun j hj => (tb 6 j (by omega)).trans (g11 j hj), fun i hi => ⟨(tb 7 _ (by omega)).trans (g12 i hi).1, (tb 7 _ (by omega)).trans (g12 i hi).2⟩, tn, fun i hi => ⟨(tb 5 _ (by omega)).trans (g14 i hi).1, (tb 5 _ (by omega)).trans (g14 i hi).2⟩, fun i hi => (tb 9 i (by omega)).trans (g15 i hi)⟩
theorem m_cl7 (hN : 602 ≤ N) (hT : TB T n) (hV : VX V) (hP : MT T n M) (hS : StM n st M) (hR : RN V M) (hfull : V 0 9 < 8) : wp (f_X10_readOther N (i32 13689925) M) (rV fun M' => SM T n (cl T n 7 V st).2 M' M' ∧ fM M M' ∧ ((∃ a, (cl T n 7 V st).2 = .ok a) → RN (cl T n 7 V st).1 M')) := by
  have hw := hV.1.1
  have hh := hV.1.2.1
  have hns := hV.ns
  have h0 : SM T n st M M := ⟨hP, hS, fun _ _ _ => rfl⟩
  have bx := rd_9 (T := T) (n := n) (st := st) (hi := V 0 0 - 1) (by omega)
  have by' := rd_9 (T := T) (n := n) (st := (rn T n st 0 (V 0 0 - 1)).2) (hi := V 0 1 - 1) (by omega)
  have hsz : M 0 30 = i32 (V 0 9) := hR.2.1.2.2.2.2
  unfold f_X10_readOther
  rw [m_of1 hN]
  simp only [am_bi_i]
  refine wp_ng (show ¬ (i32 13689925 = i32 197733) by decide) ?_
  rw [m_of2 hN]
  simp only [am_bi_i]
  refine wp_ng (show ¬ (i32 13689925 = i32 769508) by decide) ?_
  rw [m_of3 hN]
  simp only [am_bi_i]
  refine wp_ng (show ¬ (i32 13689925 = i32 637431) by decide) ?_
  rw [m_of4 hN]
  simp only [am_bi_i]
  refine wp_ng (show ¬ (i32 13689925 = i32 6591876) by decide) ?_
  rw [m_of5 hN]
  simp only [am_bi_i]
  refine wp_ng (show ¬ (i32 13689925 = i32 632453) by decide) ?_
  rw [m_of6 hN]
  simp only [am_bi_i]
  refine wp_ng (show ¬ (i32 13689925 = i32 642829806) by decide) ?_
  rw [m_of7 hN]
  simp only [am_bi_i]
  refine wp_gd trivial ?_
  refine wp_ci (m_cell hN hT h0 hw hh hR.1.1 hR.1.2.1) ?_
  rintro r1 M1 ⟨rfl, h1⟩
  rw [hsz]
  refine wp_gd (i32_in (by omega) (by omega) (by omega)) ?_
  rw [i32_cl (by omega) (by omega), h1.2.2 0 30 (by omega), hsz, i32_1, i32_add]
  have h3 := (h1.up (k := 9) (j := (V 0 9).toNat) (v := i32 (10 * (rn T n (rn T n st 0 (V 0 0 - 1)).2 0 (V 0 1 - 1)).1 + (rn T n st 0 (V 0 0 - 1)).1)) (by omega) (by omega)).up (k := 0) (j := 30) (v := i32 (V 0 9 + 1)) (by omega) (by omega)
  generalize hX' : am_up (am_up M 9 (V 0 9).toNat (i32 (10 * (rn T n (rn T n st 0 (V 0 0 - 1)).2 0 (V 0 1 - 1)).1 + (rn T n st 0 (V 0 0 - 1)).1))) 0 30 (i32 (V 0 9 + 1)) = X' at h3
  have hX' := hX'.symm
  refine wp_v ⟨⟨h3.1, h3.2.1, fun _ _ _ => rfl⟩, fM.of (fun a b w1 w2 => by rw [hX', up_ne (by omega), up_ne (by omega)]) h3.2.2, fun _ => RN.e ?_ h3.2.2⟩
  obtain ⟨⟨g1, g2, g3, g4⟩, ⟨g5, g6, g7, g8, g9⟩, g10, g11, g12, g13, g14, g15⟩ := hR
  have tb : ∀ a b, (a ≠ 9 ∧ (a ≠ 0 ∨ b ≠ 30)) → X' a b = M a b := fun a b w => by rw [hX', up_ne (by omega), up_ne (by omega)]
  have tn : ∀ i : Nat, (i : Int) < V 0 9 + 1 → X' 9 i = i32 (10 * (cl T n 7 V st).1 5 (2 * i + 1) + (cl T n 7 V st).1 5 (2 * i)) := by
    intro i hi
    show X' 9 i = i32 (10 * apT V 5 9 2 [(rn T n st 0 (V 0 0 - 1)).1, (rn T n (rn T n st 0 (V 0 0 - 1)).2 0 (V 0 1 - 1)).1] 5 (2 * i + 1) + apT V 5 9 2 [(rn T n st 0 (V 0 0 - 1)).1, (rn T n (rn T n st 0 (V 0 0 - 1)).2 0 (V 0 1 - 1)).1] 5 (2 * i))
    by_cases hii : i = (V 0 9).toNat
    · rw [hii, apT_hi (by omega), show 2 * (V 0 9).toNat = 2 * (V 0 9).toNat + 0 from rfl, apT_hi (by omega), hX', up_ne (by omega), up_eq]
      rfl
    · rw [apT_lo (by omega) (by omega), apT_lo (by omega) (by omega), hX', up_ne (by omega), up_ne (by omega)]
      exact g15 i (by omega)
  exact ⟨⟨(tb 0 24 (by omega)).trans g1, (tb 0 25 (by omega)).trans g2, (tb 0 31 (by omega)).trans g3, (tb 0 32 (by omega)).trans g4⟩, ⟨(tb 0 27 (by omega)).trans g5, (tb 0 28 (by omega)).trans g6, (tb 0 29 (by omega)).trans g7, (tb 0 26 (by omega)).trans g8, (by rw [hX', up_eq]; rfl)⟩, fun c hc => ⟨(tb 3 c (by omega)).trans (g10 c hc).1, (tb 4 c (by omega)).trans (g10 c hc).2⟩, fun j hj => (tb 6 j (by omega)).trans (g11 j hj), fun i hi => ⟨(tb 7 _ (by omega)).trans (g12 i hi).1, (tb 7 _ (by omega)).trans (g12 i hi).2⟩, fun j hj => (tb 8 j (by omega)).trans (g13 j hj), fun i hi => ⟨(tb 5 _ (by omega)).trans (g14 i hi).1, (tb 5 _ (by omega)).trans (g14 i hi).2⟩, tn⟩
theorem m_cl8 (hN : 602 ≤ N) (hT : TB T n) (hV : VX V) (hP : MT T n M) (hS : StM n st M) (hR : RN V M) : wp (f_X10_readOther N (i32 409252) M) (rV fun M' => SM T n (cl T n 8 V st).2 M' M' ∧ fM M M' ∧ ((∃ a, (cl T n 8 V st).2 = .ok a) → RN (cl T n 8 V st).1 M')) := by
  have hw := hV.1.1
  have hh := hV.1.2.1
  have hns := hV.ns
  have h0 : SM T n st M M := ⟨hP, hS, fun _ _ _ => rfl⟩
  have bx := rd_9 (T := T) (n := n) (st := st) (hi := V 0 0 - 1) (by omega)
  have by' := rd_9 (T := T) (n := n) (st := (rn T n st 0 (V 0 0 - 1)).2) (hi := V 0 1 - 1) (by omega)
  unfold f_X10_readOther
  rw [m_of1 hN]
  simp only [am_bi_i]
  refine wp_ng (show ¬ (i32 409252 = i32 197733) by decide) ?_
  rw [m_of2 hN]
  simp only [am_bi_i]
  refine wp_ng (show ¬ (i32 409252 = i32 769508) by decide) ?_
  rw [m_of3 hN]
  simp only [am_bi_i]
  refine wp_ng (show ¬ (i32 409252 = i32 637431) by decide) ?_
  rw [m_of4 hN]
  simp only [am_bi_i]
  refine wp_ng (show ¬ (i32 409252 = i32 6591876) by decide) ?_
  rw [m_of5 hN]
  simp only [am_bi_i]
  refine wp_ng (show ¬ (i32 409252 = i32 632453) by decide) ?_
  rw [m_of6 hN]
  simp only [am_bi_i]
  refine wp_ng (show ¬ (i32 409252 = i32 642829806) by decide) ?_
  rw [m_of7 hN]
  simp only [am_bi_i]
  refine wp_ng (show ¬ (i32 409252 = i32 13689925) by decide) ?_
  rw [m_of8 hN]
  simp only [am_bi_i]
  refine wp_gd trivial ?_
  rw [show (1 : Int32) = i32 1 from rfl, show (99 : Int32) = i32 99 from rfl]
  refine wp_ci (h0.rn hN hT (lo := 1) (hi := 99) (by omega) (by omega)) ?_
  rintro r1 M1 ⟨rfl, h1⟩
  have h3 := h1.up (k := 0) (j := 31) (v := i32 (rn T n st 1 99).1) (by omega) (by omega)
  generalize hX' : am_up M 0 31 (i32 (rn T n st 1 99).1) = X' at h3
  have hX' := hX'.symm
  refine wp_v ⟨⟨h3.1, h3.2.1, fun _ _ _ => rfl⟩, fM.of (fun a b w1 w2 => by rw [hX', up_ne (by omega)]) h3.2.2, fun _ => RN.e ?_ h3.2.2⟩
  obtain ⟨⟨g1, g2, g3, g4⟩, ⟨g5, g6, g7, g8, g9⟩, g10, g11, g12, g13, g14, g15⟩ := hR
  have tb : ∀ a b, (a ≠ 0 ∨ b ≠ 31) → X' a b = M a b := fun a b w => by rw [hX', up_ne (by omega)]
  exact ⟨⟨(tb 0 24 (by omega)).trans g1, (tb 0 25 (by omega)).trans g2, (by rw [hX', up_eq]; rfl), (tb 0 32 (by omega)).trans g4⟩, ⟨(tb 0 27 (by omega)).trans g5, (tb 0 28 (by omega)).trans g6, (tb 0 29 (by omega)).trans g7, (tb 0 26 (by omega)).trans g8, (tb 0 30 (by omega)).trans g9⟩, fun c hc => ⟨(tb 3 c (by omega)).trans (g10 c hc).1, (tb 4 c (by omega)).trans (g10 c hc).2⟩, fun j hj => (tb 6 j (by omega)).trans (g11 j hj), fun i hi => ⟨(tb 7 _ (by omega)).trans (g12 i hi).1, (tb 7 _ (by omega)).trans (g12 i hi).2⟩, fun j hj => (tb 8 j (by omega)).trans (g13 j hj), fun i hi => ⟨(tb 5 _ (by omega)).trans (g14 i hi).1, (tb 5 _ (by omega)).trans (g14 i hi).2⟩, fun i hi => (tb 9 i (by omega)).trans (g15 i hi)⟩
theorem m_cl9 (hN : 602 ≤ N) (hT : TB T n) (hV : VX V) (hP : MT T n M) (hS : StM n st M) (hR : RN V M) : wp (f_X10_readOther N (i32 12343) M) (rV fun M' => SM T n (cl T n 9 V st).2 M' M' ∧ fM M M' ∧ ((∃ a, (cl T n 9 V st).2 = .ok a) → RN (cl T n 9 V st).1 M')) := by
  have hw := hV.1.1
  have hh := hV.1.2.1
  have hns := hV.ns
  have h0 : SM T n st M M := ⟨hP, hS, fun _ _ _ => rfl⟩
  have bx := rd_9 (T := T) (n := n) (st := st) (hi := V 0 0 - 1) (by omega)
  have by' := rd_9 (T := T) (n := n) (st := (rn T n st 0 (V 0 0 - 1)).2) (hi := V 0 1 - 1) (by omega)
  unfold f_X10_readOther
  rw [m_of1 hN]
  simp only [am_bi_i]
  refine wp_ng (show ¬ (i32 12343 = i32 197733) by decide) ?_
  rw [m_of2 hN]
  simp only [am_bi_i]
  refine wp_ng (show ¬ (i32 12343 = i32 769508) by decide) ?_
  rw [m_of3 hN]
  simp only [am_bi_i]
  refine wp_ng (show ¬ (i32 12343 = i32 637431) by decide) ?_
  rw [m_of4 hN]
  simp only [am_bi_i]
  refine wp_ng (show ¬ (i32 12343 = i32 6591876) by decide) ?_
  rw [m_of5 hN]
  simp only [am_bi_i]
  refine wp_ng (show ¬ (i32 12343 = i32 632453) by decide) ?_
  rw [m_of6 hN]
  simp only [am_bi_i]
  refine wp_ng (show ¬ (i32 12343 = i32 642829806) by decide) ?_
  rw [m_of7 hN]
  simp only [am_bi_i]
  refine wp_ng (show ¬ (i32 12343 = i32 13689925) by decide) ?_
  rw [m_of8 hN]
  simp only [am_bi_i]
  refine wp_ng (show ¬ (i32 12343 = i32 409252) by decide) ?_
  rw [show (0 : Int32) = i32 0 from rfl, show (2 : Int32) = i32 2 from rfl]
  refine wp_ci (h0.rn hN hT (lo := 0) (hi := 2) (by omega) (by omega)) ?_
  rintro r1 M1 ⟨rfl, h1⟩
  have h3 := h1.up (k := 0) (j := 32) (v := i32 (rn T n st 0 2).1) (by omega) (by omega)
  generalize hX' : am_up M 0 32 (i32 (rn T n st 0 2).1) = X' at h3
  have hX' := hX'.symm
  refine wp_v ⟨⟨h3.1, h3.2.1, fun _ _ _ => rfl⟩, fM.of (fun a b w1 w2 => by rw [hX', up_ne (by omega)]) h3.2.2, fun _ => RN.e ?_ h3.2.2⟩
  obtain ⟨⟨g1, g2, g3, g4⟩, ⟨g5, g6, g7, g8, g9⟩, g10, g11, g12, g13, g14, g15⟩ := hR
  have tb : ∀ a b, (a ≠ 0 ∨ b ≠ 32) → X' a b = M a b := fun a b w => by rw [hX', up_ne (by omega)]
  exact ⟨⟨(tb 0 24 (by omega)).trans g1, (tb 0 25 (by omega)).trans g2, (tb 0 31 (by omega)).trans g3, (by rw [hX', up_eq]; rfl)⟩, ⟨(tb 0 27 (by omega)).trans g5, (tb 0 28 (by omega)).trans g6, (tb 0 29 (by omega)).trans g7, (tb 0 26 (by omega)).trans g8, (tb 0 30 (by omega)).trans g9⟩, fun c hc => ⟨(tb 3 c (by omega)).trans (g10 c hc).1, (tb 4 c (by omega)).trans (g10 c hc).2⟩, fun j hj => (tb 6 j (by omega)).trans (g11 j hj), fun i hi => ⟨(tb 7 _ (by omega)).trans (g12 i hi).1, (tb 7 _ (by omega)).trans (g12 i hi).2⟩, fun j hj => (tb 8 j (by omega)).trans (g13 j hj), fun i hi => ⟨(tb 5 _ (by omega)).trans (g14 i hi).1, (tb 5 _ (by omega)).trans (g14 i hi).2⟩, fun i hi => (tb 9 i (by omega)).trans (g15 i hi)⟩
end CM
