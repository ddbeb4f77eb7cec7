/-! the survey's loops on both sides -/
/-- what a survey leaves: all but the shouter and the market -/
def sD (M M' : am_M) : Prop := ∀ a b, a < 51 ∨ (a = 51 ∧ b = 6) ∨ 57 < a → M' a b = M a b
def tS (a b : Nat) : Prop := (a = 0 ∧ 48 ≤ b ∧ b ≤ 53) ∨ (17 ≤ a ∧ a ≤ 20)
def tM (M M' : am_M) : Prop := ∀ a b, ¬ tS a b → M' a b = M a b
theorem sD.rfl {M : am_M} : sD M M := fun _ _ _ => Eq.refl _
theorem tM.rfl {M : am_M} : tM M M := fun _ _ _ => Eq.refl _
theorem sD.trans {M M' M'' : am_M} (h1 : sD M M') (h2 : sD M' M'') : sD M M'' := fun a b h => (h2 a b h).trans (h1 a b h)
theorem tM.trans {M M' M'' : am_M} (h1 : tM M M') (h2 : tM M' M'') : tM M M'' := fun a b h => (h2 a b h).trans (h1 a b h)
theorem sD.c {M M' : am_M} (h : sD M M') : sC M M' := fun a b q => h a b (by omega)
theorem tM.s {M M' : am_M} (h : tM M M') : sM M M' := fun a b q => h a b (fun z => q (by unfold tS at z; unfold mS; omega))
theorem sD.up {M M' : am_M} (h : sD M M') {k j : Nat} {v : Int32} (hk : 51 ≤ k ∧ k ≤ 57) (hj : k ≠ 51 ∨ j ≠ 6) : sD M (am_up M' k j v) := fun a b q => by
  rw [up_ne (by omega)]; exact h a b q
theorem tM.up {M M' : am_M} (h : tM M M') {k j : Nat} {v : Int32} (hk : tS k j) : tM M (am_up M' k j v) := fun a b q => by
  rw [up_ne]
  · exact h a b q
  · by_cases hka : a = k
    · right; intro hb; subst hka; subst hb; exact q hk
    · exact Or.inl hka
theorem shM_t {ns : Nat} {V : VL} {x y s fog : Int} {M : am_M} {k : Nat} : tM M (shM ns V x y s fog M k) := fun a b q => shM_off (by unfold tS at q; omega)
theorem VX.fld {V : VL} (h : VX V) {f : Nat} (hf : (f : Int) < V 0 5) : ((0 ≤ V 1 (5 * f) ∧ V 1 (5 * f) ≤ V 1 (5 * f + 2) ∧ V 1 (5 * f + 2) < V 0 0) ∧ (0 ≤ V 1 (5 * f + 1) ∧ V 1 (5 * f + 1) ≤ V 1 (5 * f + 3) ∧ V 1 (5 * f + 3) < V 0 1) ∧ (1 ≤ V 1 (5 * f + 4) ∧ V 1 (5 * f + 4) ≤ 99)) ∧ (V 0 0 ≤ 10 ∧ V 0 1 ≤ 10) ∧ (0 ≤ V 0 5 ∧ V 0 5 ≤ 5) := by
  exact ⟨h.2.2.2.1 f hf, ⟨h.1.1.2, h.1.2.1.2⟩, h.2.2.1.1⟩
theorem c_shoutE {N : Nat} (hN : 102 ≤ N) {V : VL} (hV : VX V) {M : am_M} (hR : RC V M) {x y fog : Int} (hf : 0 ≤ fog ∧ fog ≤ 9) (hx : 0 ≤ x ∧ x < V 0 0) (hy : 0 ≤ y ∧ y < V 0 1) :
    wp (f_X6_shout N (i32 x) (i32 y) (M 2 2) (i32 fog) M) (rV fun M' => sC M M' ∧ ErC (shE V x y (V 0 2) fog 8) M' ∧ ∀ a b, 56 < a → M' a b = M a b) := by
  rw [hR.2.1.1]
  exact wp_eqv (c_shout (by omega) hV.1 hR.1 hf hx hy hV.2.1.1) ⟨shC_s, shC_Er hV.1 hf M 8 (by omega), fun a b h => shC_off (by omega)⟩
theorem shE_ok {V : VL} (hV : VX V) {x y fog : Int} (hf : 0 ≤ fog ∧ fog ≤ 9) : ESB (shE V x y (V 0 2) fog 8) ∧ (shE V x y (V 0 2) fog 8).1 ≤ 24 :=
  ⟨shE_B hV.1 hf hV.2.1.1.2 8, shE_sz hV.1 hf 8⟩
section SV
variable {N : Nat} {V : VL} {M0 : am_M} {fog law : Int} {f : Nat}
theorem c_srv_x (hN : 102 ≤ N) (hV : VX V) (hR : RC V M0) (hf : 0 ≤ fog ∧ fog ≤ 9) (hl : 0 ≤ law ∧ law ≤ 2) {x0 x1 y : Int} (hx0 : 0 ≤ x0) (hx01 : x0 ≤ x1) (hx1 : x1 < V 0 0) (hy : 0 ≤ y ∧ y < V 0 1) {a : Nat → Int} {m : Int} (ha : svB m a) (hm : 0 ≤ m ∧ m ≤ 90) {k52 : Int32 → am_M → am_O} {Q : Except Nat (Option Value) → am_M → Prop} {v1 v5 : Int32}
    (hk : ∀ M, sD M0 M → svC (svX V fog law y x0 a (x1 - x0 + 1).toNat) M → wp (k52 (i32 (y + 1)) M) Q) :
    ∀ (d j n : Nat) (M : am_M), j + d = (x1 - x0 + 1).toNat → d < n → sD M0 M → svC (svX V fog law y x0 a j) M → wp (f_X3_survey_73 N v1 (i32 fog) (i32 law) (i32 x1) v5 (i32 y) k52 n (i32 (x0 + j)) M) Q := by
  have hw := hV.1.1
  have hh := hV.1.2.1
  intro d
  induction d with
  | zero =>
    intro j n M hj hn hs hc
    obtain ⟨n, rfl⟩ : ∃ k, n = k + 1 := ⟨n - 1, by omega⟩
    show wp (f_X3_survey_73B N _ _ _ _ _ _ _ _ _ M) Q
    unfold f_X3_survey_73B
    refine wp_gd ((i32_lt (by omega) (by omega) (by omega) (by omega)).mpr (by omega)) ?_
    rw [i32_1, i32_add]
    have : j = (x1 - x0 + 1).toNat := by omega
    rw [← this] at hk
    exact hk M hs hc
  | succ d ih =>
    intro j n M hj hn hs hc
    obtain ⟨n, rfl⟩ : ∃ k, n = k + 1 := ⟨n - 1, by omega⟩
    show wp (f_X3_survey_73B N _ _ _ _ _ _ _ _ _ M) Q
    unfold f_X3_survey_73B
    refine wp_ng (fun q => absurd ((i32_lt (by omega) (by omega) (by omega) (by omega)).mp q) (by omega)) ?_
    refine wp_cv (c_shoutE hN hV (hR.sC hs.c) hf (by omega) hy) (fun M1 h1 => ?_)
    have hb := shE_ok hV (x := x0 + j) (y := y) hf
    refine wp_ci (wp_eqi (A := fun v M => v = i32 (CN V fog law (x0 + j) y) ∧ M = M1) (c_countBy (by omega) h1.2.1 hb.1 hb.2 hl) ⟨rfl, rfl⟩) (fun v M2 h2 => ?_)
    obtain ⟨rfl, rfl⟩ := h2
    have hsv := svX_B hV.1 hV.2.1.1.2 (law := law) hf (y := y) (x0 := x0) (by omega) hx0 ha j (by omega)
    have hc1 : svC (svX V fog law y x0 a j) M2 := by
      unfold svC at *
      rw [h1.2.2 57 6 (by omega), h1.2.2 57 7 (by omega)]
      exact ⟨hc.1, hc.2.1, fun z i hi => by rw [h1.2.2 57 i (by omega)]; exact hc.2.2 z i hi⟩
    refine wp_cv (c_noteCount hsv (by omega) (CN_B hV.1 hV.2.1.1.2 hf) hc1) (fun M3 h3 => ?_)
    rw [i32_1, i32_add, show x0 + (j : Int) + 1 = x0 + ((j + 1 : Nat) : Int) from by omega]
    refine ih (j + 1) n M3 (by omega) (by omega) (hs.trans (fun p q z => by rw [h3.2 p q (by omega)]; rcases z with z | z | z; exact h1.1 p q (Or.inl z); exact h1.1 p q (Or.inr z); exact h1.2.2 p q (by omega))) h3.1
theorem c_srv_y (hN : 102 ≤ N) (hV : VX V) (hR : RC V M0) (hf : 0 ≤ fog ∧ fog ≤ 9) (hl : 0 ≤ law ∧ law ≤ 2) (hff : (f : Int) < V 0 5) :
    ∀ (d j n : Nat) (M : am_M), j + d = ny V f → d < n → sD M0 M → svC (svY V fog law (V 1 (5 * f)) (nx V f) (V 1 (5 * f + 1)) j) M → wp (f_X3_survey_52 N (i32 (f : Int)) (i32 fog) (i32 law) (i32 (V 1 (5 * f + 2))) (i32 (V 1 (5 * f + 3))) n (i32 (V 1 (5 * f + 1) + j)) M) (rV fun M' => sD M0 M' ∧ svC (sv V f fog law) M') := by
  have hb := hV.fld hff
  intro d
  induction d with
  | zero =>
    intro j n M hj hn hs hc
    obtain ⟨n, rfl⟩ : ∃ k, n = k + 1 := ⟨n - 1, by omega⟩
    show wp (f_X3_survey_52B N _ _ _ _ _ _ _ M) _
    unfold f_X3_survey_52B
    unfold ny at hj
    refine wp_gd ((i32_lt (by omega) (by omega) (by omega) (by omega)).mpr (by omega)) ?_
    have : j = ny V f := by unfold ny; omega
    rw [this] at hc
    exact wp_v ⟨hs, hc⟩
  | succ d ih =>
    intro j n M hj hn hs hc
    obtain ⟨n, rfl⟩ : ∃ k, n = k + 1 := ⟨n - 1, by omega⟩
    show wp (f_X3_survey_52B N _ _ _ _ _ _ _ M) _
    unfold f_X3_survey_52B
    have hj2 := hj
    unfold ny at hj2
    refine wp_ng (fun q => absurd ((i32_lt (by omega) (by omega) (by omega) (by omega)).mp q) (by omega)) ?_
    have hat := c_at3 (N := N) (hR.sC hs.c).2.2.1 (by omega) hff (k := 0) (by omega)
    rw [show (0 : Int32) = i32 ((0 : Nat) : Int) from rfl, hat]
    simp only [am_bi_i]
    have hsv := svY_B hV.1 hV.2.1.1.2 (law := law) (x0 := V 1 (5 * f)) (y0 := V 1 (5 * f + 1)) hf (by omega) (by omega) (w := nx V f) (by unfold nx; omega) j (by omega)
    have hm : 0 ≤ (nx V f : Int) * (j : Int) ∧ (nx V f : Int) * (j : Int) ≤ 90 := by
      have h1 : nx V f ≤ 10 := by unfold nx; omega
      have h2 : j ≤ 9 := by omega
      have := Nat.mul_le_mul h1 h2
      rw [← Int.natCast_mul]
      omega
    have := c_srv_x hN hV hR hf hl (x0 := V 1 (5 * f)) (x1 := V 1 (5 * f + 2)) (y := V 1 (5 * f + 1) + j) (by omega) (by omega) (by omega) (by omega) hsv hm (v1 := i32 (f : Int)) (v5 := i32 (V 1 (5 * f + 3))) (k52 := f_X3_survey_52 N (i32 (f : Int)) (i32 fog) (i32 law) (i32 (V 1 (5 * f + 2))) (i32 (V 1 (5 * f + 3))) n) (Q := rV fun M' => sD M0 M' ∧ svC (sv V f fog law) M') (fun M1 h1 h2 => by
      rw [show V 1 (5 * f + 1) + (j : Int) + 1 = V 1 (5 * f + 1) + ((j + 1 : Nat) : Int) from by omega]
      exact ih (j + 1) n M1 (by omega) (by omega) h1 h2) (nx V f) 0 N M (by unfold nx; omega) (by unfold nx; omega) hs hc
    rw [show V 1 (5 * f) + ((0 : Nat) : Int) = V 1 (5 * f) from by omega] at this
    exact this
theorem c_survey (hN : 102 ≤ N) (hV : VX V) (hR : RC V M0) (hf : 0 ≤ fog ∧ fog ≤ 9) (hl : 0 ≤ law ∧ law ≤ 2) (hff : (f : Int) < V 0 5) : wp (f_X3_survey N (i32 (f : Int)) (i32 fog) (i32 law) M0) (rV fun M' => sD M0 M' ∧ svC (sv V f fog law) M') := by
  have hb := hV.fld hff
  have hy : ny V f ≤ 10 := by unfold ny; omega
  unfold f_X3_survey
  have h1 : sD M0 (am_up (am_up M0 57 6 0) 57 7 0) := (sD.rfl.up (by omega) (by omega)).up (by omega) (by omega)
  have a2 := c_at3 (N := N) hR.2.2.1 (by omega) hff (k := 2) (by omega)
  have a3 := c_at3 (N := N) hR.2.2.1 (by omega) hff (k := 3) (by omega)
  have a1 := c_at3 (N := N) (hR.sC h1.c).2.2.1 (by omega) hff (k := 1) (by omega)
  rw [show (2 : Int32) = i32 ((2 : Nat) : Int) from rfl, a2]
  simp only [am_bi_i]
  rw [show (3 : Int32) = i32 ((3 : Nat) : Int) from rfl, a3]
  simp only [am_bi_i]
  rw [show (1 : Int32) = i32 ((1 : Nat) : Int) from rfl, a1]
  simp only [am_bi_i]
  have := c_srv_y hN hV hR hf hl hff (ny V f) 0 N (am_up (am_up M0 57 6 0) 57 7 0) (by omega) (by omega) h1 ⟨by rw [up_ne (by omega), up_eq]; rfl, by rw [up_eq]; rfl, fun z => absurd rfl z⟩
  rw [show V 1 (5 * f + 1) + ((0 : Nat) : Int) = V 1 (5 * f + 1) from by omega] at this
  exact this
/-! the reference -/
theorem m_ff_x (hN : 102 ≤ N) (hV : VX V) (hR : RT V M0) (hE : EM V M0) (hf : 0 ≤ fog ∧ fog ≤ 9) (hl : 0 ≤ law ∧ law ≤ 2) (hff : (f : Int) < V 0 5) {least : Int} (hle : least = 0 ∨ least = 1) {y : Int} (hy : 0 ≤ y ∧ y < V 0 1) {a : Nat → Int} {m : Int} (ha : svB m a) (hm : 0 ≤ m ∧ m ≤ 90) {k31 : Int32 → am_M → am_O} {Q : Except Nat (Option Value) → am_M → Prop}
    (hk : ∀ M, tM M0 M → svM least (svX V fog law y (V 1 (5 * f)) a (nx V f)) M → wp (k31 (i32 (y + 1)) M) Q) :
    ∀ (d j n : Nat) (M : am_M), j + d = nx V f → d < n → tM M0 M → svM least (svX V fog law y (V 1 (5 * f)) a j) M → wp (f_X10_findField_54 N (i32 fog) (i32 law) (i32 least) (i32 (5 * (f : Int))) (i32 y) k31 n (i32 (V 1 (5 * f) + j)) M) Q := by
  have hw := hV.1.1
  have hh := hV.1.2.1
  have hb := hV.fld hff
  intro d
  induction d with
  | zero =>
    intro j n M hj hn hs hc
    obtain ⟨n, rfl⟩ : ∃ k, n = k + 1 := ⟨n - 1, by omega⟩
    show wp (f_X10_findField_54B N _ _ _ _ _ _ _ _ M) Q
    unfold f_X10_findField_54B
    have hj2 := hj
    unfold nx at hj2
    rw [i32_2, i32_add]
    refine wp_gd (i32_in (by omega) (by omega) (by omega)) ?_
    rw [i32_cl (by omega) (by omega), (hR.sM hs.s).2.2.2.1 _ (by omega), show (5 * (f : Int) + 2).toNat = 5 * f + 2 from by omega]
    refine wp_gd ((i32_lt (by omega) (by omega) (by omega) (by omega)).mpr (by omega)) ?_
    rw [i32_1, i32_add]
    have : j = nx V f := by omega
    rw [← this] at hk
    exact hk M hs hc
  | succ d ih =>
    intro j n M hj hn hs hc
    obtain ⟨n, rfl⟩ : ∃ k, n = k + 1 := ⟨n - 1, by omega⟩
    show wp (f_X10_findField_54B N _ _ _ _ _ _ _ _ M) Q
    unfold f_X10_findField_54B
    have hj2 := hj
    unfold nx at hj2
    rw [i32_2, i32_add]
    refine wp_gd (i32_in (by omega) (by omega) (by omega)) ?_
    rw [i32_cl (by omega) (by omega), (hR.sM hs.s).2.2.2.1 _ (by omega), show (5 * (f : Int) + 2).toNat = 5 * f + 2 from by omega]
    refine wp_ng (fun q => absurd ((i32_lt (by omega) (by omega) (by omega) (by omega)).mp q) (by omega)) ?_
    have hsv := svX_B hV.1 hV.2.1.1.2 (law := law) hf (y := y) (x0 := V 1 (5 * f)) (by omega) (by omega) ha j (by omega)
    have hcn := CN_B hV.1 hV.2.1.1.2 (law := law) (x := V 1 (5 * f) + j) (y := y) hf
    have hRs := hR.sM hs.s
    have hcount := m_countOf hN (ns := (V 0 8).toNat) (by have := hV.2.2.1; omega) hV.1 (hE.sM hs.s) (by rw [hRs.2.1.2.2.2.1]; congr 1; have := hV.2.2.1; omega) hRs.1.2.2.1 hf (x := V 1 (5 * f) + j) (y := y) (by omega) hy hV.2.1.1 hl
    rw [i32_10, i32_mul, i32_add, hcount]
    simp only [am_bi_i]
    have hM1 : tM M (shM (V 0 8).toNat V (V 1 (5 * f) + j) y (V 0 2) fog M 8) := shM_t
    have hM2 : ∀ b, 50 ≤ b → shM (V 0 8).toNat V (V 1 (5 * f) + j) y (V 0 2) fog M 8 0 b = M 0 b := fun b hb => shM_off (by omega)
    generalize shM (V 0 8).toNat V (V 1 (5 * f) + j) y (V 0 2) fog M 8 = M1 at hM1 hM2
    have hCN : cBy (shE V (V 1 (5 * f) + ↑j) y (V 0 2) fog 8) law = CN V fog law (V 1 (5 * f) + j) y := rfl
    rw [hCN]
    generalize hcc : CN V fog law (V 1 (5 * f) + j) y = c at *
    have knext : svX V fog law y (V 1 (5 * f)) a (j + 1) = svS c (V 1 (5 * f) + j) y (svX V fog law y (V 1 (5 * f)) a j) := by rw [← hcc]; rfl
    generalize svX V fog law y (V 1 (5 * f)) a j = b at *
    obtain ⟨b7, b0, b3, b6, b1, b2, b4, b5⟩ := hsv
    rw [hM2 50 (by omega), hM2 51 (by omega), hM2 52 (by omega), hM2 53 (by omega)]
    obtain ⟨c52, c53, c50, c51⟩ := hc
    rw [c52, c53, i32_1, i32_add, i32_add, i32_add, show V 1 (5 * f) + (j : Int) + 1 = V 1 (5 * f) + ((j + 1 : Nat) : Int) from by omega]
    have hup : tM M0 (am_up (am_up M1 0 52 (i32 (b 6 + c))) 0 53 (i32 (b 7 + 1))) := ((hs.trans hM1).up (by unfold tS; omega)).up (by unfold tS; omega)
    -- a new find
    have kyes : (b 7 = 0 ∨ if least = 0 then b 0 < c else c < b 3) → wp (f_X10_findField_142 N k31 (f_X10_findField_54 N (i32 fog) (i32 law) (i32 least) (i32 (5 * (f : Int))) (i32 y) k31 n) (i32 fog) (i32 law) (i32 least) (i32 (5 * (f : Int))) (i32 y) (i32 (V 1 (5 * f) + j)) (i32 c) (am_up (am_up M1 0 52 (i32 (b 6 + c))) 0 53 (i32 (b 7 + 1)))) Q := by
      intro hyes
      unfold f_X10_findField_142
      rw [i32_10, i32_mul, i32_add, i32_1, i32_add, show V 1 (5 * f) + (j : Int) + 1 = V 1 (5 * f) + ((j + 1 : Nat) : Int) from by omega]
      refine ih (j + 1) n _ (by omega) (by omega) ((hup.up (by unfold tS; omega)).up (by unfold tS; omega)) ?_
      rw [knext]
      refine ⟨?_, ?_, fun z => absurd z (by show ¬ b 7 + 1 = 0; omega), fun _ => ?_⟩
      · rw [up_ne (by omega), up_ne (by omega), up_ne (by omega), up_eq]; rfl
      · rw [up_ne (by omega), up_ne (by omega), up_eq]; rfl
      · by_cases hl0 : least = 0
        · rw [if_pos hl0] at hyes ⊢
          refine ⟨?_, ?_⟩
          · rw [up_ne (by omega), up_eq]
            show _ = i32 (10 * (if b 7 = 0 ∨ b 0 < c then y else b 2) + (if b 7 = 0 ∨ b 0 < c then V 1 (5 * f) + (j : Int) else b 1))
            rw [if_pos hyes, if_pos hyes]
          · rw [up_eq]
            show _ = i32 (if b 7 = 0 ∨ b 0 < c then c else b 0)
            rw [if_pos hyes]
        · rw [if_neg hl0] at hyes ⊢
          refine ⟨?_, ?_⟩
          · rw [up_ne (by omega), up_eq]
            show _ = i32 (10 * (if b 7 = 0 ∨ c < b 3 then y else b 5) + (if b 7 = 0 ∨ c < b 3 then V 1 (5 * f) + (j : Int) else b 4))
            rw [if_pos hyes, if_pos hyes]
          · rw [up_eq]
            show _ = i32 (if b 7 = 0 ∨ c < b 3 then c else b 3)
            rw [if_pos hyes]
    have kno : (b 7 ≠ 0 ∧ ¬ if least = 0 then b 0 < c else c < b 3) → wp (f_X10_findField_54 N (i32 fog) (i32 law) (i32 least) (i32 (5 * (f : Int))) (i32 y) k31 n (i32 (V 1 (5 * f) + ((j + 1 : Nat) : Int))) (am_up (am_up M1 0 52 (i32 (b 6 + c))) 0 53 (i32 (b 7 + 1)))) Q := by
      intro hno
      refine ih (j + 1) n _ (by omega) (by omega) hup ?_
      rw [knext]
      refine ⟨?_, ?_, fun z => absurd z (by show ¬ b 7 + 1 = 0; omega), fun _ => ?_⟩
      · rw [up_ne (by omega), up_eq]; rfl
      · rw [up_eq]; rfl
      · have c51 := c51 hno.1
        have hno2 := hno.2
        rw [up_ne (by omega), up_ne (by omega), up_ne (by omega), up_ne (by omega), hM2 50 (by omega), hM2 51 (by omega)]
        by_cases hl0 : least = 0
        · rw [if_pos hl0] at hno2 c51 ⊢
          show _ = i32 (10 * (if b 7 = 0 ∨ b 0 < c then y else b 2) + (if b 7 = 0 ∨ b 0 < c then V 1 (5 * f) + (j : Int) else b 1)) ∧ _ = i32 (if b 7 = 0 ∨ b 0 < c then c else b 0)
          rw [if_neg (by omega), if_neg (by omega), if_neg (by omega)]
          exact c51
        · rw [if_neg hl0] at hno2 c51 ⊢
          show _ = i32 (10 * (if b 7 = 0 ∨ c < b 3 then y else b 5) + (if b 7 = 0 ∨ c < b 3 then V 1 (5 * f) + (j : Int) else b 4)) ∧ _ = i32 (if b 7 = 0 ∨ c < b 3 then c else b 3)
          rw [if_neg (by omega), if_neg (by omega), if_neg (by omega)]
          exact c51
    by_cases h7 : b 7 = 0
    · rw [c50 h7]
      exact wp_gd rfl (kyes (Or.inl h7))
    · have c51 := c51 h7
      by_cases hl0 : least = 0
      · rw [if_pos hl0] at c51 kyes kno
        rw [c51.1, c51.2]
        refine wp_ng (fun q => absurd ((i32_eq (b := -1) (by omega) (by omega) (by omega) (by omega)).mp q) (by omega)) (wp_gd ((i32_eq0 (by omega) (by omega)).mpr hl0) (wp_if (fun q => ?_) (fun q => ?_)))
        · exact kyes (Or.inr ((i32_lt (by omega) (by omega) (by omega) (by omega)).mp q))
        · exact kno ⟨h7, fun t => q ((i32_lt (by omega) (by omega) (by omega) (by omega)).mpr t)⟩
      · rw [if_neg hl0] at c51 kyes kno
        rw [c51.1, c51.2]
        refine wp_ng (fun q => absurd ((i32_eq (b := -1) (by omega) (by omega) (by omega) (by omega)).mp q) (by omega)) (wp_ng (fun q => hl0 ((i32_eq0 (by omega) (by omega)).mp q)) (wp_if (fun q => ?_) (fun q => ?_)))
        · exact kyes (Or.inr ((i32_lt (by omega) (by omega) (by omega) (by omega)).mp q))
        · exact kno ⟨h7, fun t => q ((i32_lt (by omega) (by omega) (by omega) (by omega)).mpr t)⟩
theorem m_ff_y (hN : 102 ≤ N) (hV : VX V) (hR : RT V M0) (hE : EM V M0) (hf : 0 ≤ fog ∧ fog ≤ 9) (hl : 0 ≤ law ∧ law ≤ 2) (hff : (f : Int) < V 0 5) {least : Int} (hle : least = 0 ∨ least = 1) :
    ∀ (d j n : Nat) (M : am_M), j + d = ny V f → d < n → tM M0 M → svM least (svY V fog law (V 1 (5 * f)) (nx V f) (V 1 (5 * f + 1)) j) M → wp (f_X10_findField_31 N (i32 fog) (i32 law) (i32 least) (i32 (5 * (f : Int))) n (i32 (V 1 (5 * f + 1) + j)) M) (rV fun M' => tM M0 M' ∧ svM least (sv V f fog law) M') := by
  have hb := hV.fld hff
  intro d
  induction d with
  | zero =>
    intro j n M hj hn hs hc
    obtain ⟨n, rfl⟩ : ∃ k, n = k + 1 := ⟨n - 1, by omega⟩
    show wp (f_X10_findField_31B N _ _ _ _ _ _ M) _
    unfold f_X10_findField_31B
    have hj2 := hj
    unfold ny at hj2
    rw [i32_3, i32_add]
    refine wp_gd (i32_in (by omega) (by omega) (by omega)) ?_
    rw [i32_cl (by omega) (by omega), (hR.sM hs.s).2.2.2.1 _ (by omega), show (5 * (f : Int) + 3).toNat = 5 * f + 3 from by omega]
    refine wp_gd ((i32_lt (by omega) (by omega) (by omega) (by omega)).mpr (by omega)) ?_
    have : j = ny V f := by omega
    rw [this] at hc
    exact wp_v ⟨hs, hc⟩
  | succ d ih =>
    intro j n M hj hn hs hc
    obtain ⟨n, rfl⟩ : ∃ k, n = k + 1 := ⟨n - 1, by omega⟩
    show wp (f_X10_findField_31B N _ _ _ _ _ _ M) _
    unfold f_X10_findField_31B
    have hj2 := hj
    unfold ny at hj2
    rw [i32_3, i32_add]
    refine wp_gd (i32_in (by omega) (by omega) (by omega)) ?_
    rw [i32_cl (by omega) (by omega), (hR.sM hs.s).2.2.2.1 _ (by omega), show (5 * (f : Int) + 3).toNat = 5 * f + 3 from by omega]
    refine wp_ng (fun q => absurd ((i32_lt (by omega) (by omega) (by omega) (by omega)).mp q) (by omega)) (wp_gd (i32_in (by omega) (by omega) (by omega)) ?_)
    rw [i32_cl (by omega) (by omega), (hR.sM hs.s).2.2.2.1 _ (by omega), show (5 * (f : Int)).toNat = 5 * f from by omega]
    have hsv := svY_B hV.1 hV.2.1.1.2 (law := law) (x0 := V 1 (5 * f)) (y0 := V 1 (5 * f + 1)) hf (by omega) (by omega) (w := nx V f) (by unfold nx; omega) j (by omega)
    have hm : 0 ≤ (nx V f : Int) * (j : Int) ∧ (nx V f : Int) * (j : Int) ≤ 90 := by
      have h1 : nx V f ≤ 10 := by unfold nx; omega
      have h2 : j ≤ 9 := by omega
      have := Nat.mul_le_mul h1 h2
      rw [← Int.natCast_mul]
      omega
    have := m_ff_x hN hV hR hE hf hl hff hle (y := V 1 (5 * f + 1) + j) (by omega) hsv hm (k31 := f_X10_findField_31 N (i32 fog) (i32 law) (i32 least) (i32 (5 * (f : Int))) n) (Q := rV fun M' => tM M0 M' ∧ svM least (sv V f fog law) M') (fun M1 h1 h2 => by
      rw [show V 1 (5 * f + 1) + (j : Int) + 1 = V 1 (5 * f + 1) + ((j + 1 : Nat) : Int) from by omega]
      exact ih (j + 1) n M1 (by omega) (by omega) h1 h2) (nx V f) 0 N M (by omega) (by unfold nx; omega) hs hc
    rw [show V 1 (5 * f) + ((0 : Nat) : Int) = V 1 (5 * f) from by omega] at this
    exact this
theorem m_findField (hN : 102 ≤ N) (hV : VX V) (hR : RT V M0) (hE : EM V M0) (hf : 0 ≤ fog ∧ fog ≤ 9) (hl : 0 ≤ law ∧ law ≤ 2) (hff : (f : Int) < V 0 5) {least : Int} (hle : least = 0 ∨ least = 1) : wp (f_X10_findField N (i32 (f : Int)) (i32 fog) (i32 law) (i32 least) M0) (rV fun M' => tM M0 M' ∧ svM least (sv V f fog law) M') := by
  have hb := hV.fld hff
  have hy : ny V f ≤ 10 := by unfold ny; omega
  unfold f_X10_findField
  rw [i32_5, i32_mul, i32_1, i32_add]
  refine wp_gd (i32_in (by omega) (by omega) (by omega)) ?_
  rw [i32_cl (by omega) (by omega), hR.2.2.2.1 _ (by omega), show (5 * (f : Int) + 1).toNat = 5 * f + 1 from by omega]
  have := m_ff_y hN hV hR hE hf hl hff hle (ny V f) 0 N (am_up (am_up (am_up M0 0 50 (-1)) 0 52 0) 0 53 0) (by omega) (by omega) (((tM.rfl.up (by unfold tS; omega)).up (by unfold tS; omega)).up (by unfold tS; omega)) ⟨by rw [up_ne (by omega), up_eq]; rfl, by rw [up_eq]; rfl, fun _ => by rw [up_ne (by omega), up_ne (by omega), up_eq], fun z => absurd rfl z⟩
  rw [show V 1 (5 * f + 1) + ((0 : Nat) : Int) = V 1 (5 * f + 1) from by omega] at this
  exact this
/-- a field is never empty -/
theorem sv_B (hV : VX V) (hf : 0 ≤ fog ∧ fog ≤ 9) (hff : (f : Int) < V 0 5) : svB ((nx V f : Int) * ny V f) (sv V f fog law) ∧ 1 ≤ (nx V f : Int) * ny V f ∧ (nx V f : Int) * ny V f ≤ 100 := by
  have hb := hV.fld hff
  have hy : 1 ≤ ny V f ∧ ny V f ≤ 10 := by unfold ny; omega
  have hx : 1 ≤ nx V f ∧ nx V f ≤ 10 := by unfold nx; omega
  refine ⟨svY_B hV.1 hV.2.1.1.2 (law := law) (x0 := V 1 (5 * f)) (y0 := V 1 (5 * f + 1)) hf (by omega) (by omega) (w := nx V f) (by unfold nx; omega) (ny V f) (by unfold ny; omega), ?_⟩
  have h1 := Nat.mul_le_mul hx.2 hy.2
  have h2 := Nat.mul_le_mul hx.1 hy.1
  rw [← Int.natCast_mul]
  omega
/-- what a field is worth -/
def wt (V : VL) (fog law : Int) (f : Nat) : Int := V 1 (5 * f + 4) * sv V f fog law 0
theorem wt_B (hV : VX V) (hf : 0 ≤ fog ∧ fog ≤ 9) (hff : (f : Int) < V 0 5) : 0 ≤ wt V fog law f ∧ wt V fog law f ≤ 2376 := by
  have hb := (hV.fld hff).1.2.2
  have hs := (sv_B (law := law) hV hf hff).1.2.1
  unfold wt
  generalize V 1 (5 * f + 4) = p at *
  generalize sv V f fog law 0 = q at *
  refine ⟨Int.mul_nonneg (by omega) hs.1, ?_⟩
  have := Int.mul_le_mul hb.2 hs.2 hs.1 (by omega)
  omega
theorem c_worthBy (hN : 102 ≤ N) (hV : VX V) (hR : RC V M0) (hf : 0 ≤ fog ∧ fog ≤ 9) (hl : 0 ≤ law ∧ law ≤ 2) (hff : (f : Int) < V 0 5) : wp (f_X3_worthBy N (i32 (f : Int)) (i32 fog) (i32 law) M0) (rI fun v M' => v = i32 (wt V fog law f) ∧ sD M0 M') := by
  unfold f_X3_worthBy
  refine wp_cv (c_survey hN hV hR hf hl hff) (fun M1 h1 => ?_)
  have hb := sv_B (law := law) hV hf hff
  have a4 := c_at3 (N := N) (hR.sC h1.1.c).2.2.1 (by have := hV.2.2.1; omega) hff (k := 4) (by omega)
  rw [show (4 : Int32) = i32 ((4 : Nat) : Int) from rfl, a4]
  simp only [am_bi_i]
  refine wp_i ⟨?_, h1.1⟩
  have hn : sv V f fog law 7 ≠ 0 := by have := hb.1.1; omega
  rw [h1.2.2.2 hn 0 (by omega), i32_mul]
  rfl
theorem m_worthBy (hN : 102 ≤ N) (hV : VX V) (hR : RT V M0) (hE : EM V M0) (hf : 0 ≤ fog ∧ fog ≤ 9) (hl : 0 ≤ law ∧ law ≤ 2) (hff : (f : Int) < V 0 5) : wp (f_X10_worthBy N (i32 (f : Int)) (i32 fog) (i32 law) M0) (rI fun v M' => v = i32 (wt V fog law f) ∧ tM M0 M') := by
  unfold f_X10_worthBy
  refine wp_cv (m_findField hN hV hR hE hf hl hff (least := 0) (Or.inl rfl)) (fun M1 h1 => ?_)
  have hb := sv_B (law := law) hV hf hff
  have hl := (hV.fld hff).2.2
  rw [i32_5, i32_mul, i32_4, i32_add]
  refine wp_gd (i32_in (by omega) (by omega) (by omega)) (wp_i ⟨?_, h1.1⟩)
  have hn : sv V f fog law 7 ≠ 0 := by have := hb.1.1; omega
  have h2 := h1.2.2.2.2 hn
  rw [if_pos rfl] at h2
  rw [i32_cl (by omega) (by omega), (hR.sM h1.1.s).2.2.2.1 _ (by omega), show (5 * (f : Int) + 4).toNat = 5 * f + 4 from by omega, h2.2, i32_mul]
  rfl
end SV
