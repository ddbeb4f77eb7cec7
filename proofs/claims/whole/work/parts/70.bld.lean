/-! gain -/
def gnH (V : VL) (c : Int) : Nat → Int := fun d => if d = c.toNat then 5 else V 6 d
def gnV (V : VL) (c : Int) (f : Nat) : Int := if V 6 c.toNat = 0 then wt (vH V (gnH V c)) 0 (V 0 3) f - wt V 0 (V 0 3) f else 0
theorem gnH_B {V : VL} (hV : VX V) {c : Int} : ∀ d, d < 100 → 0 ≤ gnH V c d ∧ gnH V c d ≤ 9 := by
  intro d hd
  have := (hV.1.2.2.2 d hd).1
  unfold gnH
  split <;> omega
variable {N : Nat} {V : VL} {M0 : am_M} {f : Nat}
theorem c_gain (hN : 102 ≤ N) (hV : VX V) (hR : RC V M0) {c : Int} (hc : 0 ≤ c ∧ c < 100) (hff : (f : Int) < V 0 5) : wp (f_X1_gainBy N (i32 c) (i32 (f : Int)) M0) (rI fun v M' => v = i32 (gnV V c f) ∧ sC M0 M') := by
  have hcc := (hR.1.2.2.2 c.toNat (by omega)).1
  have hb := (hV.1.2.2.2 c.toNat (by omega)).1
  unfold f_X1_gainBy gnV
  refine wp_gd (i32_in (by omega) (by omega) (by omega)) ?_
  rw [i32_cl (by omega) (by omega), hcc]
  by_cases h0 : V 6 c.toNat = 0
  · rw [if_pos h0]
    refine wp_gd ((i32_eq0 (by omega) (by omega)).mpr h0) ?_
    rw [hR.law]
    refine wp_ci (c_worthBy (fog := 0) hN hV hR (by omega) hV.lw hff) ?_
    rintro v M1 ⟨rfl, hs⟩
    refine wp_gd (i32_in (by omega) (by omega) (by omega)) ?_
    have hR1 := hR.sC hs.c
    rw [hR1.law]
    have hR2 : RC (vH V (gnH V c)) (am_up M1 14 c.toNat 5) := by
      refine hR1.fr (fun a b q => up_ne (by omega)) (fun d hd => ?_)
      unfold gnH
      by_cases hdc : d = c.toNat
      · rw [hdc, up_eq, if_pos rfl]; rfl
      · rw [up_ne (by omega), if_neg hdc]; exact (hR1.1.2.2.2 d hd).1
    refine wp_ci (c_worthBy (V := vH V (gnH V c)) (fog := 0) (law := V 0 3) hN (hV.vH (gnH_B hV)) hR2 (by omega) hV.lw hff) ?_
    rintro v M2 ⟨rfl, hs2⟩
    refine wp_gd (i32_in (by omega) (by omega) (by omega)) (wp_i ⟨i32_sub _ _, fun a b q => ?_⟩)
    by_cases hab : a = 14 ∧ b = c.toNat
    · rw [hab.1, hab.2, up_eq, hcc, h0]; rfl
    · rw [up_ne (by omega), hs2 a b (by omega), up_ne (by omega), hs a b (by omega)]
  · rw [if_neg h0]
    exact wp_ng (fun z => h0 ((i32_eq0 (by omega) (by omega)).mp z)) (wp_i ⟨rfl, sC.rfl⟩)
theorem m_gain (hN : 102 ≤ N) (hV : VX V) (hR : RT V M0) (hF : RF V M0) {x y : Int} (hx : 0 ≤ x ∧ x < V 0 0) (hy : 0 ≤ y ∧ y < V 0 1) (hff : (f : Int) < V 0 5) :
    wp (if am_in ((10 * i32 y) + i32 x) 100 then
            if (M0 10 (((10 * i32 y) + i32 x).toNatClampNeg)) ≤ 0 then
              am_bi (f_X10_worthBy N (i32 (f : Int)) 0 (M0 0 41) M0) fun r53 M53 =>
                if am_in ((10 * i32 y) + i32 x) 100 then
                  am_bi (f_X10_worthBy N (i32 (f : Int)) 0 (M53 0 41) (am_up M53 21 (((10 * i32 y) + i32 x).toNatClampNeg) 5)) fun r73 M73 =>
                    if am_in ((10 * i32 y) + i32 x) 100 then
                      some (.ok (some (.int (r73 - r53))), am_up M73 21 (((10 * i32 y) + i32 x).toNatClampNeg) 0)
                    else none
                else none
            else
              some (.ok (some (.int 0)), M0)
          else none) (rI fun v M' => v = i32 (gnV V (10 * y + x) f) ∧ sM M0 M') := by
  have hw := hV.1.1
  have hh := hV.1.2.1
  rw [i32_10, i32_mul, i32_add]
  have hc : 0 ≤ 10 * y + x ∧ 10 * y + x < 100 := by omega
  generalize 10 * y + x = c at hc
  have hcc := hF c.toNat (by omega)
  have hb := (hV.1.2.2.2 c.toNat (by omega)).1
  unfold gnV
  refine wp_gd (i32_in (by omega) (by omega) (by omega)) ?_
  rw [i32_cl (by omega) (by omega), hcc.1]
  by_cases h0 : V 6 c.toNat = 0
  · rw [if_pos h0]
    refine wp_gd ((i32_le0 (by omega) (by omega)).mpr (by omega)) ?_
    rw [hR.law]
    refine wp_ci (m_worthBy (fog := 0) hN hV hR (hR.EM hV.1 hF) (by omega) hV.lw hff) ?_
    rintro v M1 ⟨rfl, hs⟩
    refine wp_gd (i32_in (by omega) (by omega) (by omega)) ?_
    have hR1 := hR.sM hs.s
    have hF1 := hF.sM hs.s
    rw [hR1.law]
    have hR2 : RT V (am_up M1 21 c.toNat 5) := hR1.fr (fun a b q => up_ne (by omega))
    have hE2 : EM (vH V (gnH V c)) (am_up M1 21 c.toNat 5) := by
      have e := hR1.EM hV.1 hF1
      refine ⟨(up_ne (by omega)).trans e.1, (up_ne (by omega)).trans e.2.1, (up_ne (by omega)).trans e.2.2.1, fun d hd => ?_⟩
      have q := e.2.2.2 d hd
      rw [show am_up M1 21 c.toNat 5 10 d = M1 10 d from up_ne (by omega), show am_up M1 21 c.toNat 5 11 d = M1 11 d from up_ne (by omega)]
      show (_ → _ = i32 (gnH V c d)) ∧ (_ → _ = i32 (gnH V c d)) ∧ _
      unfold gnH
      by_cases hdc : d = c.toNat
      · rw [if_pos hdc]
        refine ⟨fun _ => by rw [hdc, up_eq]; rfl, fun z => ?_, q.2.2⟩
        exfalso
        apply z
        rw [(hF1 d hd).1, hdc, h0]
        decide
      · rw [if_neg hdc, up_ne (by omega)]
        exact q
    refine wp_ci (m_worthBy (V := vH V (gnH V c)) (fog := 0) (law := V 0 3) hN (hV.vH (gnH_B hV)) hR2.vH hE2 (by omega) hV.lw hff) ?_
    rintro v M2 ⟨rfl, hs2⟩
    refine wp_gd (i32_in (by omega) (by omega) (by omega)) (wp_i ⟨i32_sub _ _, fun a b q => ?_⟩)
    by_cases hab : a = 21 ∧ b = c.toNat
    · rw [hab.1, hab.2, up_eq, hcc.2]
    · have q2 := tM.s hs2 a b q
      rw [up_ne (by omega), q2, up_ne (by omega), tM.s hs a b q]
  · rw [if_neg h0]
    exact wp_ng (fun z => h0 (by have := (i32_le0 (by omega) (by omega)).mp z; omega)) (wp_i ⟨rfl, sM.rfl⟩)
/-! the sites on which nothing stands -/
theorem sh_pow : ∀ n : Fin 9, (1 : Int32) <<< (i32 ((n.1 : Nat) : Int) &&& 31) = i32 ((2 ^ n.1 : Nat) : Int) := by decide
theorem sh_pw {n : Int} (h : 0 ≤ n ∧ n ≤ 8) : (1 : Int32) <<< (i32 n &&& 31) = i32 ((2 ^ n.toNat : Nat) : Int) := by
  have := sh_pow ⟨n.toNat, by omega⟩
  rw [show ((n.toNat : Nat) : Int) = n from by omega] at this
  exact this
theorem pw_4 {n : Nat} (h : n ≤ 4) : 1 ≤ 2 ^ n ∧ 2 ^ n ≤ 16 := ⟨Nat.pow_pos (by omega), show 2 ^ n ≤ 2 ^ 4 from Nat.pow_le_pow_right (by omega) h⟩
theorem pw_8 {n : Nat} (h : n ≤ 8) : 1 ≤ 2 ^ n ∧ 2 ^ n ≤ 256 := ⟨Nat.pow_pos (by omega), show 2 ^ n ≤ 2 ^ 8 from Nat.pow_le_pow_right (by omega) h⟩
def opn (V : VL) : Int32 := orB (fun k => decide (V 6 (cl5 V k).toNat = 0)) 0 (V 0 6).toNat
theorem c_bare_lp (hV : VX V) (hR : RC V M0) : ∀ (d j n : Nat), j + d = (V 0 6).toNat → d < n → f_X2_bare_13_5_4 N n (orB (fun k => decide (V 6 (cl5 V k).toNat = 0)) 0 j) (i32 (j : Int)) M0 = some (.ok (some (.int (opn V))), M0) := by
  have hns := hV.ns
  intro d
  induction d with
  | zero =>
    intro j n hj hn
    obtain ⟨n, rfl⟩ : ∃ k, n = k + 1 := ⟨n - 1, by omega⟩
    show f_X2_bare_13_5_4B N _ _ _ M0 = _
    unfold f_X2_bare_13_5_4B
    rw [hR.2.2.2.1.2.2.1, if_pos ((i32_le (by omega) (by omega) (by omega) (by omega)).mpr (by omega)), show j = (V 0 6).toNat from by omega]
    rfl
  | succ d ih =>
    intro j n hj hn
    obtain ⟨n, rfl⟩ : ∃ k, n = k + 1 := ⟨n - 1, by omega⟩
    show f_X2_bare_13_5_4B N _ _ _ M0 = _
    unfold f_X2_bare_13_5_4B
    have hc := hV.c5 (i := j) (by omega)
    have hb := (hV.1.2.2.2 (cl5 V j).toNat (by omega)).1
    rw [hR.2.2.2.1.2.2.1, if_neg (fun q => absurd ((i32_le (by omega) (by omega) (by omega) (by omega)).mp q) (by omega)), c_cellAt5 hR.2.2.2.1 (by omega) (by omega)]
    simp only [am_bi_i]
    rw [show 10 * V 2 (3 * j + 1) + V 2 (3 * j) = cl5 V j from rfl, i32_s, show (1 : Int32) <<< (i32 (j : Int) &&& 31) = bit j from rfl]
    rw [if_pos (i32_in (by omega) (by omega) (by omega)), i32_cl (by omega) (by omega), (hR.1.2.2.2 _ (by omega)).1]
    have k1 : orB (fun k => decide (V 6 (cl5 V k).toNat = 0)) 0 (j + 1) = if decide (V 6 (cl5 V j).toNat = 0) then orB (fun k => decide (V 6 (cl5 V k).toNat = 0)) 0 j ||| bit j else orB (fun k => decide (V 6 (cl5 V k).toNat = 0)) 0 j := rfl
    by_cases h0 : V 6 (cl5 V j).toNat = 0
    · rw [if_pos ((i32_eq0 (by omega) (by omega)).mpr h0)]
      have := ih (j + 1) n (by omega) (by omega)
      rw [k1, if_pos (decide_eq_true h0)] at this
      exact this
    · rw [if_neg (fun z => h0 ((i32_eq0 (by omega) (by omega)).mp z))]
      have := ih (j + 1) n (by omega) (by omega)
      rw [k1, if_neg (by rw [decide_eq_false h0]; decide)] at this
      exact this
theorem c_bare (hN : 102 ≤ N) (hV : VX V) (hR : RC V M0) : f_X2_bare_13_5 N M0 = some (.ok (some (.int (opn V))), M0) :=
  have hns := hV.ns
  c_bare_lp hV hR (V 0 6).toNat 0 N (by omega) (by omega)
theorem m_open_lp (hV : VX V) (hR : RT V M0) (hF : RF V M0) : ∀ (d j n : Nat), j + d = (V 0 6).toNat → d < n → f_X10_openSites_4 N n (orB (fun k => decide (V 6 (cl5 V k).toNat = 0)) 0 j) (i32 (j : Int)) M0 = some (.ok (some (.int (opn V))), M0) := by
  have hns := hV.ns
  intro d
  induction d with
  | zero =>
    intro j n hj hn
    obtain ⟨n, rfl⟩ : ∃ k, n = k + 1 := ⟨n - 1, by omega⟩
    show f_X10_openSites_4B N _ _ _ M0 = _
    unfold f_X10_openSites_4B
    rw [hR.2.1.2.1, if_pos ((i32_le (by omega) (by omega) (by omega) (by omega)).mpr (by omega)), show j = (V 0 6).toNat from by omega]
    rfl
  | succ d ih =>
    intro j n hj hn
    obtain ⟨n, rfl⟩ : ∃ k, n = k + 1 := ⟨n - 1, by omega⟩
    show f_X10_openSites_4B N _ _ _ M0 = _
    unfold f_X10_openSites_4B
    have hc := hV.c5 (i := j) (by omega)
    have hb := (hV.1.2.2.2 (cl5 V j).toNat (by omega)).1
    rw [hR.2.1.2.1, if_neg (fun q => absurd ((i32_le (by omega) (by omega) (by omega) (by omega)).mp q) (by omega))]
    rw [i32_2, i32_mul, i32_cl (by omega) (by omega), show (2 * (j : Int)).toNat = 2 * j from by omega, (hR.2.2.2.2.1 j (by omega)).1, show 10 * V 2 (3 * j + 1) + V 2 (3 * j) = cl5 V j from rfl, i32_cl (by omega) (by omega), if_pos ⟨i32_in (by omega) (by omega) (by omega), i32_in (by omega) (by omega) (by omega)⟩, (hF _ (by omega)).1, i32_s, show (1 : Int32) <<< (i32 (j : Int) &&& 31) = bit j from rfl]
    have k1 : orB (fun k => decide (V 6 (cl5 V k).toNat = 0)) 0 (j + 1) = if decide (V 6 (cl5 V j).toNat = 0) then orB (fun k => decide (V 6 (cl5 V k).toNat = 0)) 0 j ||| bit j else orB (fun k => decide (V 6 (cl5 V k).toNat = 0)) 0 j := rfl
    by_cases h0 : V 6 (cl5 V j).toNat = 0
    · rw [if_pos ((i32_eq0 (by omega) (by omega)).mpr h0)]
      have := ih (j + 1) n (by omega) (by omega)
      rw [k1, if_pos (decide_eq_true h0)] at this
      exact this
    · rw [if_neg (fun z => h0 ((i32_eq0 (by omega) (by omega)).mp z))]
      have := ih (j + 1) n (by omega) (by omega)
      rw [k1, if_neg (by rw [decide_eq_false h0]; decide)] at this
      rw [show ∀ a : Int32, a ||| 0 = a from fun a => by apply Int32.toBitVec_inj.mp; simp]
      exact this
theorem m_open (hN : 102 ≤ N) (hV : VX V) (hR : RT V M0) (hF : RF V M0) : f_X10_openSites N M0 = some (.ok (some (.int (opn V))), M0) :=
  have hns := hV.ns
  m_open_lp hV hR hF (V 0 6).toNat 0 N (by omega) (by omega)
/-! with barns on the sites of a set -/
def bV5 (V : VL) (set : Int32) : VL := vH V (bH (V 6) (cl5 V) set (V 0 6).toNat)
theorem VX.b5 (hV : VX V) {set : Int32} : VX (bV5 V set) := hV.vH (bH_B (fun c hc => (hV.1.2.2.2 c hc).1))
def mw (V : VL) (set : Int32) (f : Nat) : Int := sv (bV5 V set) f 0 (V 0 3) 0
theorem mw_B (hV : VX V) {set : Int32} (hff : (f : Int) < V 0 5) : 0 ≤ mw V set f ∧ mw V set f ≤ 24 := (sv_B (V := bV5 V set) (law := V 0 3) (fog := 0) hV.b5 (by omega) hff).1.2.1
/-- lowered again, all is as it was -/
theorem sD.low {M1 M2 M3 : am_M} {set : Int32} (hR : RC V M0) (h1 : fr14 M0 M1) (h2 : sD M1 M2) (h3 : fr14 M2 M3) (h4 : ∀ c, c < 100 → M3 14 c = i32 (V 6 c)) : sD M0 M3 := by
  intro a b q
  by_cases hab : a = 14 ∧ b < 100
  · rw [hab.1, h4 b hab.2, (hR.1.2.2.2 b hab.2).1]
  · rw [h3 a b (by omega), h2 a b q, h1 a b (by omega)]
theorem c_mostWith (hN : 102 ≤ N) (hV : VX V) (hR : RC V M0) (set : Int32) (hff : (f : Int) < V 0 5) : wp (f_X1_mostWith N set (i32 (f : Int)) M0) (rI fun v M' => v = i32 (mw V set f) ∧ sD M0 M') := by
  unfold f_X1_mostWith
  refine wp_ci (c_raise5 hN hV hR set) ?_
  rintro v M1 ⟨rfl, h1, h1c⟩
  have hR1 : RC (bV5 V set) M1 := hR.fr h1 h1c
  rw [hR1.law]
  refine wp_cv (c_survey (V := bV5 V set) (fog := 0) (law := V 0 3) hN hV.b5 hR1 (by omega) hV.lw hff) ?_
  rintro M2 ⟨h2, hsv⟩
  have hR2 : RC (bV5 V set) M2 := hR1.sC h2.c
  refine wp_cv (c_lower5 hN hV hR2 set (fun c hc => (hR2.1.2.2.2 c hc).1)) ?_
  rintro M3 ⟨h3, h4⟩
  have hb := sv_B (V := bV5 V set) (law := V 0 3) (fog := 0) hV.b5 (by omega) hff
  refine wp_i ⟨?_, sD.low (set := set) hR h1 h2 h3 h4⟩
  rw [h3 57 0 (by omega)]
  exact hsv.2.2 (by rw [hb.1.1]; omega) 0 (by omega)
theorem tM.low {M1 M2 M3 : am_M} (hF : RF V M0) (h1 : fr21 M0 M1) (h2 : tM M1 M2) (h3 : fr21 M2 M3) (h4 : ∀ c, c < 100 → M3 21 c = i32 0) : tM M0 M3 := by
  intro a b q
  by_cases hab : a = 21 ∧ b < 100
  · rw [hab.1, h4 b hab.2, (hF b hab.2).2]; rfl
  · rw [h3 a b (by omega), h2 a b q, h1 a b (by omega)]
theorem m_mostWith (hN : 102 ≤ N) (hV : VX V) (hR : RT V M0) (hF : RF V M0) (set : Int32) (hff : (f : Int) < V 0 5) {k : am_M → am_O} {Q : Except Nat (Option Value) → am_M → Prop} (hk : ∀ M', tM M0 M' → M' 0 51 = i32 (mw V set f) → wp (k M') Q) :
    wp (am_bv (f_X10_stands N set 1 M0) fun M160 => am_bv (f_X10_findField N (i32 (f : Int)) 0 (M160 0 41) 0 M160) fun M171 => am_bv (f_X10_stands N set 0 M171) k) Q := by
  refine wp_cv (m_stands1 hN hV hR set (fun c hc => (hF c hc).2)) ?_
  rintro M1 ⟨h1, h1c⟩
  have hR1 := hR.fr h1
  have hE1 : EM (bV5 V set) M1 := EM_b5 hV hR hF h1 h1c
  rw [hR1.law]
  refine wp_cv (m_findField (V := bV5 V set) (fog := 0) (law := V 0 3) (least := 0) hN hV.b5 hR1.vH hE1 (by omega) hV.lw hff (Or.inl rfl)) ?_
  rintro M2 ⟨h2, hsv⟩
  have hR2 := hR1.sM h2.s
  refine wp_cv (m_stands0 hN hV hR2 set (fun c hc => by rw [h2 21 c (by unfold tS; omega)]; exact h1c c hc)) ?_
  rintro M3 ⟨h3, h4⟩
  have hb := sv_B (V := bV5 V set) (law := V 0 3) (fog := 0) hV.b5 (by omega) hff
  refine hk M3 (tM.low hF h1 h2 h3 h4) ?_
  rw [h3 0 51 (by omega)]
  have q := hsv.2.2.2 (by rw [hb.1.1]; omega)
  rw [if_pos rfl] at q
  exact q.2
/-! the least building -/
theorem VX.sit (hV : VX V) {i : Nat} (hi : (i : Int) < V 0 6) : (0 ≤ V 2 (3 * i) ∧ V 2 (3 * i) < V 0 0) ∧ (0 ≤ V 2 (3 * i + 1) ∧ V 2 (3 * i + 1) < V 0 1) ∧ (0 ≤ V 2 (3 * i + 2) ∧ V 2 (3 * i + 2) ≤ 99) := hV.2.2.2.2.1 i hi
def cst (V : VL) (set : Int32) (n : Nat) : Int := it (fun k a => if bt set k = 0 then a else a + V 2 (3 * k + 2)) 0 n
theorem cst_nx {set : Int32} {n : Nat} : cst V set (n + 1) = if bt set n = 0 then cst V set n else cst V set n + V 2 (3 * n + 2) := rfl
theorem cst_B (hV : VX V) {set : Int32} : ∀ n : Nat, (n : Int) ≤ V 0 6 → 0 ≤ cst V set n ∧ cst V set n ≤ 99 * n := by
  intro n
  induction n with
  | zero => intro _; exact ⟨Int.le_refl 0, Int.le_refl 0⟩
  | succ n ih =>
    intro hn
    have := ih (by omega)
    have q := (hV.sit (i := n) (by omega)).2.2
    rw [cst_nx]
    split <;> omega
theorem c_cost_lp (hV : VX V) (hR : RC V M0) (set : Int32) : ∀ (d j n : Nat), j + d = (V 0 6).toNat → d < n → f_X1_costOf_4 N set n (i32 (cst V set j)) (i32 (j : Int)) M0 = some (.ok (some (.int (i32 (cst V set (V 0 6).toNat)))), M0) := by
  have hns := hV.ns
  intro d
  induction d with
  | zero =>
    intro j n hj hn
    obtain ⟨n, rfl⟩ : ∃ k, n = k + 1 := ⟨n - 1, by omega⟩
    show f_X1_costOf_4B N _ _ _ _ M0 = _
    unfold f_X1_costOf_4B
    rw [hR.2.2.2.1.2.2.1, if_pos ((i32_le (by omega) (by omega) (by omega) (by omega)).mpr (by omega)), show j = (V 0 6).toNat from by omega]
  | succ d ih =>
    intro j n hj hn
    obtain ⟨n, rfl⟩ : ∃ k, n = k + 1 := ⟨n - 1, by omega⟩
    show f_X1_costOf_4B N _ _ _ _ M0 = _
    unfold f_X1_costOf_4B
    have := ih (j + 1) n (by omega) (by omega)
    rw [cst_nx] at this
    rw [hR.2.2.2.1.2.2.1, if_neg (fun q => absurd ((i32_le (by omega) (by omega) (by omega) (by omega)).mp q) (by omega)), i32_s, show set >>> (i32 (j : Int) &&& 31) &&& 1 = bt set j from rfl]
    by_cases h0 : bt set j = 0
    · rw [if_pos h0]
      rw [if_pos h0] at this
      exact this
    · rw [if_neg h0]
      rw [if_neg h0] at this
      rw [show (2 : Int32) = i32 ((2 : Nat) : Int) from rfl, c_at5 hR.2.2.2.1 (by omega) (r := j) (k := 2) (by omega) (by omega)]
      simp only [am_bi_i]
      rw [i32_add]
      exact this
theorem c_cost (hN : 102 ≤ N) (hV : VX V) (hR : RC V M0) (set : Int32) : f_X1_costOf N set M0 = some (.ok (some (.int (i32 (cst V set (V 0 6).toNat)))), M0) :=
  have hns := hV.ns
  c_cost_lp hV hR set (V 0 6).toNat 0 N (by omega) (by omega)
def blF (V : VL) (f : Nat) (n : Int) (k : Nat) (a : Int × Int) : Int × Int :=
  if i32 (k : Int) &&& (opn V ^^^ (-1)) = 0 then
    if (a.2 = -1 ∨ cst V (i32 (k : Int)) (V 0 6).toNat < a.1) ∧ n ≤ mw V (i32 (k : Int)) f then (cst V (i32 (k : Int)) (V 0 6).toNat, (k : Int)) else a
  else a
def blS (V : VL) (f : Nat) (n : Int) (k : Nat) : Int × Int := it (blF V f n) (-1, -1) k
theorem blS_nx {n : Int} {k : Nat} : blS V f n (k + 1) = blF V f n k (blS V f n k) := rfl
theorem blS_B (hV : VX V) {n : Int} : ∀ k : Nat, k ≤ 16 → (-1 ≤ (blS V f n k).1 ∧ (blS V f n k).1 ≤ 396) ∧ (-1 ≤ (blS V f n k).2 ∧ (blS V f n k).2 ≤ 16) := by
  have hns := hV.ns
  intro k
  induction k with
  | zero => intro _; exact ⟨⟨Int.le_refl (-1), (by decide : (-1 : Int) ≤ 396)⟩, Int.le_refl (-1), (by decide : (-1 : Int) ≤ 16)⟩
  | succ k ih =>
    intro hk
    have q := ih (by omega)
    have c := cst_B hV (set := i32 (k : Int)) (V 0 6).toNat (by omega)
    rw [blS_nx]
    unfold blF
    split
    · split
      · exact ⟨⟨by omega, by omega⟩, by omega, by omega⟩
      · exact q
    · exact q
theorem blS_m (hV : VX V) {n : Int} : ∀ k : Nat, (blS V f n k).2 = -1 → (blS V f n k).1 = -1 := by
  intro k
  induction k with
  | zero => intro _; rfl
  | succ k ih =>
    intro hk
    rw [blS_nx] at hk ⊢
    unfold blF at hk ⊢
    split at hk
    · rename_i h1
      rw [if_pos h1]
      split at hk
      · exact absurd hk (show ¬ ((k : Int) = -1) by omega)
      · rename_i h2
        rw [if_neg h2]
        exact ih hk
    · rename_i h1
      rw [if_neg h1]
      exact ih hk
theorem c_bld_lp (hN : 102 ≤ N) (hV : VX V) (hR : RC V M0) (hff : (f : Int) < V 0 5) {cn : Int} (hcn : 0 ≤ cn ∧ cn ≤ 24) : ∀ (d j n : Nat) (M : am_M), j + d = 2 ^ (V 0 6).toNat → d < n → sC M0 M → M 60 0 = i32 (blS V f cn j).1 → M 60 1 = i32 (blS V f cn j).2 → wp (f_X1_findLeastBuilding_28 N (i32 (f : Int)) (i32 cn) (opn V) n (i32 (j : Int)) M) (rV fun M' => sC M0 M' ∧ M' 60 0 = i32 (blS V f cn (2 ^ (V 0 6).toNat)).1 ∧ M' 60 1 = i32 (blS V f cn (2 ^ (V 0 6).toNat)).2) := by
  have hns := hV.ns
  have hp := pw_4 (n := (V 0 6).toNat) (by omega)
  intro d
  induction d with
  | zero =>
    intro j n M hj hn hs h0 h1
    obtain ⟨n, rfl⟩ : ∃ k, n = k + 1 := ⟨n - 1, by omega⟩
    show wp (f_X1_findLeastBuilding_28B N _ _ _ _ _ M) _
    unfold f_X1_findLeastBuilding_28B
    rw [(hR.sC hs).2.2.2.1.2.2.1, sh_pw (by omega)]
    rw [show j = 2 ^ (V 0 6).toNat from by omega] at h0 h1 ⊢
    exact wp_gd ((i32_le (by omega) (by omega) (by omega) (by omega)).mpr (by omega)) (wp_v ⟨hs, h0, h1⟩)
  | succ d ih =>
    intro j n M hj hn hs h0 h1
    obtain ⟨n, rfl⟩ : ∃ k, n = k + 1 := ⟨n - 1, by omega⟩
    show wp (f_X1_findLeastBuilding_28B N _ _ _ _ _ M) _
    unfold f_X1_findLeastBuilding_28B
    have hRM := hR.sC hs
    have hB := blS_B (f := f) hV (n := cn) j (by omega)
    have hc := cst_B hV (set := i32 (j : Int)) (V 0 6).toNat (by omega)
    have hm := mw_B hV (set := i32 (j : Int)) hff
    rw [hRM.2.2.2.1.2.2.1, sh_pw (by omega), i32_s]
    refine wp_ng (fun q => absurd ((i32_le (by omega) (by omega) (by omega) (by omega)).mp q) (by omega)) ?_
    have k1 : blS V f cn (j + 1) = blF V f cn j (blS V f cn j) := rfl
    unfold blF at k1
    have ihj := fun M' => ih (j + 1) n M' (by omega) (by omega)
    by_cases ho : i32 (j : Int) &&& (opn V ^^^ (-1)) = 0
    · rw [if_pos ho] at k1
      refine wp_gd ho ?_
      rw [c_cost hN hV hRM]
      simp only [am_bi_i]
      have go : ((blS V f cn j).2 = -1 ∨ cst V (i32 (j : Int)) (V 0 6).toNat < (blS V f cn j).1) → wp (f_X1_findLeastBuilding_82 N (f_X1_findLeastBuilding_28 N (i32 (f : Int)) (i32 cn) (opn V) n) (i32 (f : Int)) (i32 cn) (opn V) (i32 (j : Int)) (i32 (cst V (i32 (j : Int)) (V 0 6).toNat)) M) (rV fun M' => sC M0 M' ∧ M' 60 0 = i32 (blS V f cn (2 ^ (V 0 6).toNat)).1 ∧ M' 60 1 = i32 (blS V f cn (2 ^ (V 0 6).toNat)).2) := by
        intro hh
        unfold f_X1_findLeastBuilding_82
        refine wp_ci (c_mostWith hN hV hRM _ hff) ?_
        rintro v M1 ⟨rfl, hs1⟩
        rw [i32_s]
        by_cases hcm : cn ≤ mw V (i32 (j : Int)) f
        · rw [if_pos ⟨hh, hcm⟩] at k1
          refine wp_ng (fun q => absurd ((i32_lt (by omega) (by omega) (by omega) (by omega)).mp q) (by omega)) ?_
          refine ihj _ (((hs.trans hs1.c).up (by omega) (by omega)).up (by omega) (by omega)) ?_ ?_
          · rw [up_ne (by omega), up_eq, k1]
          · rw [up_eq, k1]
        · rw [if_neg (fun z => hcm z.2)] at k1
          refine wp_gd ((i32_lt (by omega) (by omega) (by omega) (by omega)).mpr (by omega)) ?_
          refine ihj _ (hs.trans hs1.c) ?_ ?_
          · rw [hs1 60 0 (by omega), h0, k1]
          · rw [hs1 60 1 (by omega), h1, k1]
      rw [h1, h0]
      by_cases hm1 : (blS V f cn j).2 = -1
      · refine wp_gd ?_ (go (Or.inl hm1))
        rw [hm1]; rfl
      · refine wp_ng (fun q => hm1 ((i32_eq (by omega) (by omega) (by omega) (by omega)).mp q)) ?_
        by_cases hlt : cst V (i32 (j : Int)) (V 0 6).toNat < (blS V f cn j).1
        · exact wp_ng (fun q => absurd ((i32_le (by omega) (by omega) (by omega) (by omega)).mp q) (by omega)) (go (Or.inr hlt))
        · refine wp_gd ((i32_le (by omega) (by omega) (by omega) (by omega)).mpr (by omega)) ?_
          rw [if_neg (fun z => by rcases z.1 with z | z; exact hm1 z; exact hlt z)] at k1
          refine ihj M hs ?_ ?_
          · rw [h0, k1]
          · rw [h1, k1]
    · rw [if_neg ho] at k1
      refine wp_ng ho (ihj M hs ?_ ?_)
      · rw [h0, k1]
      · rw [h1, k1]
theorem c_bld (hN : 102 ≤ N) (hV : VX V) (hR : RC V M0) (hff : (f : Int) < V 0 5) {cn : Int} (hcn : 0 ≤ cn ∧ cn ≤ 24) : wp (f_X1_findLeastBuilding N (i32 (f : Int)) (i32 cn) M0) (rV fun M' => sC M0 M' ∧ M' 60 0 = i32 (blS V f cn (2 ^ (V 0 6).toNat)).1 ∧ M' 60 1 = i32 (blS V f cn (2 ^ (V 0 6).toNat)).2) := by
  have hns := hV.ns
  have hp := pw_4 (n := (V 0 6).toNat) (by omega)
  unfold f_X1_findLeastBuilding
  have hs : sC M0 (am_up (am_up M0 60 0 (-1)) 60 1 (-1)) := (sC.rfl.up (by omega) (by omega)).up (by omega) (by omega)
  rw [c_bare hN hV (hR.sC hs)]
  simp only [am_bi_i]
  refine c_bld_lp hN hV hR hff hcn (2 ^ (V 0 6).toNat) 0 N _ (by omega) (by omega) hs ?_ ?_
  · rw [up_ne (by omega), up_eq]; rfl
  · rw [up_eq]; rfl
/-- the reference's cost of a set -/
theorem m_cost_lp (hV : VX V) (hR : RT V M0) {set v1 v2 v3 v4 v5 v6 : Int32} {k64 : Int32 → Int32 → Int32 → am_M → am_O} {Q : Except Nat (Option Value) → am_M → Prop}
    (hk : wp (if v5 = (-1) then f_X10_building_156 N k64 v1 v2 v3 v4 v5 v6 set (i32 (cst V set (V 0 6).toNat)) M0 else if i32 (cst V set (V 0 6).toNat) < v6 then f_X10_building_156 N k64 v1 v2 v3 v4 v5 v6 set (i32 (cst V set (V 0 6).toNat)) M0 else k64 v5 v6 (set + 1) M0) Q) :
    ∀ (d j n : Nat), j + d = (V 0 6).toNat → d < n → wp (f_X10_building_94 N v1 v2 v3 v4 v5 v6 set k64 n (i32 (cst V set j)) (i32 (j : Int)) M0) Q := by
  have hns := hV.ns
  intro d
  induction d with
  | zero =>
    intro j n hj hn
    obtain ⟨n, rfl⟩ : ∃ k, n = k + 1 := ⟨n - 1, by omega⟩
    show wp (f_X10_building_94B N _ _ _ _ _ _ _ _ _ _ _ M0) _
    unfold f_X10_building_94B
    rw [hR.2.1.2.1]
    rw [show j = (V 0 6).toNat from by omega]
    exact wp_gd ((i32_le (by omega) (by omega) (by omega) (by omega)).mpr (by omega)) hk
  | succ d ih =>
    intro j n hj hn
    obtain ⟨n, rfl⟩ : ∃ k, n = k + 1 := ⟨n - 1, by omega⟩
    show wp (f_X10_building_94B N _ _ _ _ _ _ _ _ _ _ _ M0) _
    unfold f_X10_building_94B
    have := ih (j + 1) n (by omega) (by omega)
    rw [cst_nx] at this
    rw [hR.2.1.2.1]
    refine wp_ng (fun q => absurd ((i32_le (by omega) (by omega) (by omega) (by omega)).mp q) (by omega)) ?_
    rw [i32_s, show set >>> (i32 (j : Int) &&& 31) &&& 1 = bt set j from rfl]
    by_cases hb : bt set j = 1
    · refine wp_gd hb ?_
      rw [i32_2, i32_mul, i32_1, i32_add]
      refine wp_gd (i32_in (by omega) (by omega) (by omega)) ?_
      rw [i32_cl (by omega) (by omega), show (2 * (j : Int) + 1).toNat = 2 * j + 1 from by omega, (hR.2.2.2.2.1 j (by omega)).2, i32_add]
      rw [if_neg (by rw [hb]; decide)] at this
      exact this
    · have h0 : bt set j = 0 := (bt_01 set j).resolve_right hb
      refine wp_ng hb ?_
      rw [if_pos h0] at this
      rw [i32_0, i32_add, Int.add_zero]
      exact this
theorem m_bld_lp (hN : 102 ≤ N) (hV : VX V) (hR : RT V M0) (hF : RF V M0) (hff : (f : Int) < V 0 5) {cn what : Int} (hcn : 0 ≤ cn ∧ cn ≤ 24) (hw : 0 ≤ what ∧ what ≤ 1) : ∀ (d j n : Nat) (M : am_M), j + d = 2 ^ (V 0 6).toNat → d < n → sM M0 M → wp (f_X10_building_64 N (i32 (f : Int)) (i32 cn) (i32 what) (opn V) n (i32 (blS V f cn j).2) (if (blS V f cn j).2 = -1 then 0 else i32 (blS V f cn j).1) (i32 (j : Int)) M) (rI fun v M' => v = (if what = 0 then (if (blS V f cn (2 ^ (V 0 6).toNat)).2 = -1 then -1 else i32 (blS V f cn (2 ^ (V 0 6).toNat)).1) else i32 (blS V f cn (2 ^ (V 0 6).toNat)).2) ∧ sM M0 M') := by
  have hns := hV.ns
  have hp := pw_4 (n := (V 0 6).toNat) (by omega)
  intro d
  induction d with
  | zero =>
    intro j n M hj hn hs
    obtain ⟨n, rfl⟩ : ∃ k, n = k + 1 := ⟨n - 1, by omega⟩
    show wp (f_X10_building_64B N _ _ _ _ _ _ _ _ M) _
    unfold f_X10_building_64B
    have hB := blS_B (f := f) hV (n := cn) j (by omega)
    rw [(hR.sM hs).2.1.2.1, sh_pw (by omega)]
    rw [show j = 2 ^ (V 0 6).toNat from by omega] at hB ⊢
    refine wp_gd ((i32_le (by omega) (by omega) (by omega) (by omega)).mpr (by omega)) ?_
    by_cases hm1 : (blS V f cn (2 ^ (V 0 6).toNat)).2 = -1
    · refine wp_gd (by rw [hm1]; rfl) (wp_i ⟨?_, hs⟩)
      rw [if_pos hm1, hm1]
      split <;> rfl
    · refine wp_ng (fun q => hm1 ((i32_eq (by omega) (by omega) (by omega) (by omega)).mp q)) ?_
      by_cases hw0 : what = 0
      · refine wp_gd ((i32_eq0 (by omega) (by omega)).mpr hw0) (wp_i ⟨?_, hs⟩)
        rw [if_pos hw0]
        rw [if_neg hm1, if_neg hm1]
      · refine wp_ng (fun q => hw0 ((i32_eq0 (by omega) (by omega)).mp q)) (wp_i ⟨?_, hs⟩)
        rw [if_neg hw0]
  | succ d ih =>
    intro j n M hj hn hs
    obtain ⟨n, rfl⟩ : ∃ k, n = k + 1 := ⟨n - 1, by omega⟩
    show wp (f_X10_building_64B N _ _ _ _ _ _ _ _ M) _
    unfold f_X10_building_64B
    have hRM := hR.sM hs
    have hFM := hF.sM hs
    have hB := blS_B (f := f) hV (n := cn) j (by omega)
    have hc := cst_B hV (set := i32 (j : Int)) (V 0 6).toNat (by omega)
    have hm := mw_B hV (set := i32 (j : Int)) hff
    rw [hRM.2.1.2.1, sh_pw (by omega), i32_s]
    refine wp_ng (fun q => absurd ((i32_le (by omega) (by omega) (by omega) (by omega)).mp q) (by omega)) ?_
    have k1 : blS V f cn (j + 1) = blF V f cn j (blS V f cn j) := rfl
    unfold blF at k1
    have ihj := fun M' => ih (j + 1) n M' (by omega) (by omega)
    by_cases ho : i32 (j : Int) &&& (opn V ^^^ (-1)) = 0
    · rw [if_pos ho] at k1
      refine wp_gd ho ?_
      refine m_cost_lp hV hRM ?_ (V 0 6).toNat 0 N (by omega) (by omega)
      have go : ((blS V f cn j).2 = -1 ∨ cst V (i32 (j : Int)) (V 0 6).toNat < (blS V f cn j).1) → wp (f_X10_building_156 N (f_X10_building_64 N (i32 (f : Int)) (i32 cn) (i32 what) (opn V) n) (i32 (f : Int)) (i32 cn) (i32 what) (opn V) (i32 (blS V f cn j).2) (if (blS V f cn j).2 = -1 then 0 else i32 (blS V f cn j).1) (i32 (j : Int)) (i32 (cst V (i32 (j : Int)) (V 0 6).toNat)) M) (rI fun v M' => v = (if what = 0 then (if (blS V f cn (2 ^ (V 0 6).toNat)).2 = -1 then -1 else i32 (blS V f cn (2 ^ (V 0 6).toNat)).1) else i32 (blS V f cn (2 ^ (V 0 6).toNat)).2) ∧ sM M0 M') := by
        intro hh
        unfold f_X10_building_156
        refine m_mostWith hN hV hRM hFM _ hff ?_
        intro M1 hs1 h51
        rw [h51, i32_s]
        by_cases hcm : cn ≤ mw V (i32 (j : Int)) f
        · rw [if_pos ⟨hh, hcm⟩] at k1
          refine wp_gd ((i32_le (by omega) (by omega) (by omega) (by omega)).mpr hcm) ?_
          have := ihj M1 (hs.trans hs1.s)
          rw [k1, if_neg (show ¬ ((j : Int) = -1) by omega)] at this
          exact this
        · rw [if_neg (fun z => hcm z.2)] at k1
          refine wp_ng (fun q => hcm ((i32_le (by omega) (by omega) (by omega) (by omega)).mp q)) ?_
          have := ihj M1 (hs.trans hs1.s)
          rw [k1] at this
          exact this
      by_cases hm1 : (blS V f cn j).2 = -1
      · refine wp_gd ?_ (go (Or.inl hm1))
        rw [hm1]; rfl
      · refine wp_ng (fun q => hm1 ((i32_eq (by omega) (by omega) (by omega) (by omega)).mp q)) ?_
        by_cases hlt : cst V (i32 (j : Int)) (V 0 6).toNat < (blS V f cn j).1
        · refine wp_gd ?_ (go (Or.inr hlt))
          rw [if_neg hm1]
          exact (i32_lt (by omega) (by omega) (by omega) (by omega)).mpr hlt
        · refine wp_ng ?_ ?_
          · rw [if_neg hm1]
            exact fun q => hlt ((i32_lt (by omega) (by omega) (by omega) (by omega)).mp q)
          · rw [if_neg (fun z => by rcases z.1 with z | z; exact hm1 z; exact hlt z)] at k1
            have := ihj M hs
            rw [k1] at this
            rw [i32_s]
            exact this
    · rw [if_neg ho] at k1
      have := ihj M hs
      rw [k1] at this
      exact wp_ng ho this
