/-! the loop over the clauses: the reference -/
section LM
variable {N : Nat} {T : Nat → Int} {n : Nat} {V : VL} {st : ST} {X M : am_M}
theorem cd_eq {w : Int} (hw : 0 ≤ w ∧ w < 1073741824) {k : Nat} (hk : k < 10) : i32 w = i32 (cd k) ↔ w = cd k := by
  have := cd_B ⟨k, hk⟩
  have h1 : 0 < cd k := this.1
  have h2 : cd k < 1073741824 := this.2
  exact i32_eq (by omega) (by omega) (by omega) (by omega)
theorem m_od0 (hN : 602 ≤ N) {M : am_M} : f_X10_of_1000 N M = some (.ok (some (.int (i32 (cd 0)))), M) := m_of0 hN
theorem m_od1 (hN : 602 ≤ N) {M : am_M} : f_X10_of_1001 N M = some (.ok (some (.int (i32 (cd 1)))), M) := m_of1 hN
theorem m_od2 (hN : 602 ≤ N) {M : am_M} : f_X10_of_1002 N M = some (.ok (some (.int (i32 (cd 2)))), M) := m_of2 hN
theorem m_od3 (hN : 602 ≤ N) {M : am_M} : f_X10_of_1003 N M = some (.ok (some (.int (i32 (cd 3)))), M) := m_of3 hN
theorem m_od4 (hN : 602 ≤ N) {M : am_M} : f_X10_of_1004 N M = some (.ok (some (.int (i32 (cd 4)))), M) := m_of4 hN
theorem m_od5 (hN : 602 ≤ N) {M : am_M} : f_X10_of_1005 N M = some (.ok (some (.int (i32 (cd 5)))), M) := m_of5 hN
theorem m_od6 (hN : 602 ≤ N) {M : am_M} : f_X10_of_1006 N M = some (.ok (some (.int (i32 (cd 6)))), M) := m_of6 hN
theorem m_od7 (hN : 602 ≤ N) {M : am_M} : f_X10_of_1007 N M = some (.ok (some (.int (i32 (cd 7)))), M) := m_of7 hN
theorem m_od8 (hN : 602 ≤ N) {M : am_M} : f_X10_of_1008 N M = some (.ok (some (.int (i32 (cd 8)))), M) := m_of8 hN
theorem m_od9 (hN : 602 ≤ N) {M : am_M} : f_X10_of_1009 N M = some (.ok (some (.int (i32 (cd 9)))), M) := m_of9 hN
theorem m_other (hN : 602 ≤ N) {w kk : Int} (hw : 0 ≤ w ∧ w < 1073741824) (hk : ∀ k : Nat, k < 10 → (w = cd k ↔ kk = (k : Int))) (hb : -1 ≤ kk ∧ kk ≤ 9) : f_X10_isOther N (i32 w) M = some (.ok (some (.int (if 1 ≤ kk then 1 else 0))), M) := by
  unfold f_X10_isOther
  rw [m_od1 hN]
  simp only [am_bi_i]
  by_cases h1 : kk = 1
  · rw [if_pos ((cd_eq hw (k := 1) (by omega)).mpr ((hk 1 (by omega)).mpr h1)), if_pos (show 1 ≤ kk by omega)]
  rw [if_neg (fun q => h1 ((hk 1 (by omega)).mp ((cd_eq hw (k := 1) (by omega)).mp q)))]
  rw [m_od2 hN]
  simp only [am_bi_i]
  by_cases h2 : kk = 2
  · rw [if_pos ((cd_eq hw (k := 2) (by omega)).mpr ((hk 2 (by omega)).mpr h2)), if_pos (show 1 ≤ kk by omega)]
  rw [if_neg (fun q => h2 ((hk 2 (by omega)).mp ((cd_eq hw (k := 2) (by omega)).mp q)))]
  rw [m_od3 hN]
  simp only [am_bi_i]
  by_cases h3 : kk = 3
  · rw [if_pos ((cd_eq hw (k := 3) (by omega)).mpr ((hk 3 (by omega)).mpr h3)), if_pos (show 1 ≤ kk by omega)]
  rw [if_neg (fun q => h3 ((hk 3 (by omega)).mp ((cd_eq hw (k := 3) (by omega)).mp q)))]
  rw [m_od4 hN]
  simp only [am_bi_i]
  by_cases h4 : kk = 4
  · rw [if_pos ((cd_eq hw (k := 4) (by omega)).mpr ((hk 4 (by omega)).mpr h4)), if_pos (show 1 ≤ kk by omega)]
  rw [if_neg (fun q => h4 ((hk 4 (by omega)).mp ((cd_eq hw (k := 4) (by omega)).mp q)))]
  rw [m_od5 hN]
  simp only [am_bi_i]
  by_cases h5 : kk = 5
  · rw [if_pos ((cd_eq hw (k := 5) (by omega)).mpr ((hk 5 (by omega)).mpr h5)), if_pos (show 1 ≤ kk by omega)]
  rw [if_neg (fun q => h5 ((hk 5 (by omega)).mp ((cd_eq hw (k := 5) (by omega)).mp q)))]
  rw [m_od6 hN]
  simp only [am_bi_i]
  by_cases h6 : kk = 6
  · rw [if_pos ((cd_eq hw (k := 6) (by omega)).mpr ((hk 6 (by omega)).mpr h6)), if_pos (show 1 ≤ kk by omega)]
  rw [if_neg (fun q => h6 ((hk 6 (by omega)).mp ((cd_eq hw (k := 6) (by omega)).mp q)))]
  rw [m_od7 hN]
  simp only [am_bi_i]
  by_cases h7 : kk = 7
  · rw [if_pos ((cd_eq hw (k := 7) (by omega)).mpr ((hk 7 (by omega)).mpr h7)), if_pos (show 1 ≤ kk by omega)]
  rw [if_neg (fun q => h7 ((hk 7 (by omega)).mp ((cd_eq hw (k := 7) (by omega)).mp q)))]
  rw [m_od8 hN]
  simp only [am_bi_i]
  by_cases h8 : kk = 8
  · rw [if_pos ((cd_eq hw (k := 8) (by omega)).mpr ((hk 8 (by omega)).mpr h8)), if_pos (show 1 ≤ kk by omega)]
  rw [if_neg (fun q => h8 ((hk 8 (by omega)).mp ((cd_eq hw (k := 8) (by omega)).mp q)))]
  rw [m_od9 hN]
  simp only [am_bi_i]
  by_cases h9 : kk = 9
  · rw [if_pos ((cd_eq hw (k := 9) (by omega)).mpr ((hk 9 (by omega)).mpr h9)), if_pos (show 1 ≤ kk by omega)]
  rw [if_neg (fun q => h9 ((hk 9 (by omega)).mp ((cd_eq hw (k := 9) (by omega)).mp q)))]
  rw [if_neg (show ¬ 1 ≤ kk by omega)]
theorem m_full (hN : 602 ≤ N) (hV : VX V) (hR : RN V M) {w kk : Int} (hw : 0 ≤ w ∧ w < 1073741824) (hk : ∀ k : Nat, k < 10 → (w = cd k ↔ kk = (k : Int))) (hb : -1 ≤ kk ∧ kk ≤ 9) : f_X10_isFull N (i32 w) M = some (.ok (some (.int (if full V kk then 1 else 0))), M) := by
  have hns := hV.ns
  unfold f_X10_isFull f_X10_isFull_18 f_X10_isFull_35 f_X10_isFull_52 f_X10_isFull_69 full
  rw [m_od3 hN]
  simp only [am_bi_i]
  by_cases h3 : kk = 3
  · rw [if_pos ((cd_eq hw (k := 3) (by omega)).mpr ((hk 3 (by omega)).mpr h3)), hR.2.1.2.2.2.1]
    by_cases hf : V 0 8 = 8
    · rw [if_pos ((i32_eq8 (by omega) (by omega)).mpr hf), if_pos (decide_eq_true (by omega))]
    · rw [if_neg (fun q => hf ((i32_eq8 (by omega) (by omega)).mp q)), if_neg (show ¬ (decide _ = true) from fun z => by have := of_decide_eq_true z; omega)]
      rw [m_od4 hN]
      simp only [am_bi_i]
      rw [if_neg (fun q => by have := (hk 4 (by omega)).mp ((cd_eq hw (k := 4) (by omega)).mp q); omega)]
      rw [m_od5 hN]
      simp only [am_bi_i]
      rw [if_neg (fun q => by have := (hk 5 (by omega)).mp ((cd_eq hw (k := 5) (by omega)).mp q); omega)]
      rw [m_od6 hN]
      simp only [am_bi_i]
      rw [if_neg (fun q => by have := (hk 6 (by omega)).mp ((cd_eq hw (k := 6) (by omega)).mp q); omega)]
      rw [m_od7 hN]
      simp only [am_bi_i]
      rw [if_neg (fun q => by have := (hk 7 (by omega)).mp ((cd_eq hw (k := 7) (by omega)).mp q); omega)]
  rw [if_neg (fun q => h3 ((hk 3 (by omega)).mp ((cd_eq hw (k := 3) (by omega)).mp q)))]
  rw [m_od4 hN]
  simp only [am_bi_i]
  by_cases h4 : kk = 4
  · rw [if_pos ((cd_eq hw (k := 4) (by omega)).mpr ((hk 4 (by omega)).mpr h4)), hR.2.1.1]
    by_cases hf : V 0 5 = 5
    · rw [if_pos ((i32_eq5 (by omega) (by omega)).mpr hf), if_pos (decide_eq_true (by omega))]
    · rw [if_neg (fun q => hf ((i32_eq5 (by omega) (by omega)).mp q)), if_neg (show ¬ (decide _ = true) from fun z => by have := of_decide_eq_true z; omega)]
      rw [m_od5 hN]
      simp only [am_bi_i]
      rw [if_neg (fun q => by have := (hk 5 (by omega)).mp ((cd_eq hw (k := 5) (by omega)).mp q); omega)]
      rw [m_od6 hN]
      simp only [am_bi_i]
      rw [if_neg (fun q => by have := (hk 6 (by omega)).mp ((cd_eq hw (k := 6) (by omega)).mp q); omega)]
      rw [m_od7 hN]
      simp only [am_bi_i]
      rw [if_neg (fun q => by have := (hk 7 (by omega)).mp ((cd_eq hw (k := 7) (by omega)).mp q); omega)]
  rw [if_neg (fun q => h4 ((hk 4 (by omega)).mp ((cd_eq hw (k := 4) (by omega)).mp q)))]
  rw [m_od5 hN]
  simp only [am_bi_i]
  by_cases h5 : kk = 5
  · rw [if_pos ((cd_eq hw (k := 5) (by omega)).mpr ((hk 5 (by omega)).mpr h5)), hR.2.1.2.1]
    by_cases hf : V 0 6 = 4
    · rw [if_pos ((i32_eq4 (by omega) (by omega)).mpr hf), if_pos (decide_eq_true (by omega))]
    · rw [if_neg (fun q => hf ((i32_eq4 (by omega) (by omega)).mp q)), if_neg (show ¬ (decide _ = true) from fun z => by have := of_decide_eq_true z; omega)]
      rw [m_od6 hN]
      simp only [am_bi_i]
      rw [if_neg (fun q => by have := (hk 6 (by omega)).mp ((cd_eq hw (k := 6) (by omega)).mp q); omega)]
      rw [m_od7 hN]
      simp only [am_bi_i]
      rw [if_neg (fun q => by have := (hk 7 (by omega)).mp ((cd_eq hw (k := 7) (by omega)).mp q); omega)]
  rw [if_neg (fun q => h5 ((hk 5 (by omega)).mp ((cd_eq hw (k := 5) (by omega)).mp q)))]
  rw [m_od6 hN]
  simp only [am_bi_i]
  by_cases h6 : kk = 6
  · rw [if_pos ((cd_eq hw (k := 6) (by omega)).mpr ((hk 6 (by omega)).mpr h6)), hR.2.1.2.2.1]
    by_cases hf : V 0 7 = 4
    · rw [if_pos ((i32_eq4 (by omega) (by omega)).mpr hf), if_pos (decide_eq_true (by omega))]
    · rw [if_neg (fun q => hf ((i32_eq4 (by omega) (by omega)).mp q)), if_neg (show ¬ (decide _ = true) from fun z => by have := of_decide_eq_true z; omega)]
      rw [m_od7 hN]
      simp only [am_bi_i]
      rw [if_neg (fun q => by have := (hk 7 (by omega)).mp ((cd_eq hw (k := 7) (by omega)).mp q); omega)]
  rw [if_neg (fun q => h6 ((hk 6 (by omega)).mp ((cd_eq hw (k := 6) (by omega)).mp q)))]
  rw [m_od7 hN]
  simp only [am_bi_i]
  by_cases h7 : kk = 7
  · rw [if_pos ((cd_eq hw (k := 7) (by omega)).mpr ((hk 7 (by omega)).mpr h7)), hR.2.1.2.2.2.2]
    by_cases hf : V 0 9 = 8
    · rw [if_pos ((i32_eq8 (by omega) (by omega)).mpr hf), if_pos (decide_eq_true (by omega))]
    · rw [if_neg (fun q => hf ((i32_eq8 (by omega) (by omega)).mp q)), if_neg (show ¬ (decide _ = true) from fun z => by have := of_decide_eq_true z; omega)]
  rw [if_neg (fun q => h7 ((hk 7 (by omega)).mp ((cd_eq hw (k := 7) (by omega)).mp q)))]
  rw [if_neg (show ¬ (decide _ = true) from fun z => by have := of_decide_eq_true z; omega)]
theorem m_clk (hN : 602 ≤ N) (hT : TB T n) (hV : VX V) (hP : MT T n M) (hS : StM n st M) (hR : RN V M) {w k : Int} (hk : 1 ≤ k ∧ k ≤ 9) (hw : w = cd k.toNat) (hf : full V k = false) : wp (f_X10_readOther N (i32 w) M) (rV fun M' => SM T n (cl T n k.toNat V st).2 M' M' ∧ fM M M' ∧ ((∃ a, (cl T n k.toNat V st).2 = .ok a) → RN (cl T n k.toNat V st).1 M')) := by
  have hf' : ¬ ((k = 3 ∧ 8 ≤ V 0 8) ∨ (k = 4 ∧ 5 ≤ V 0 5) ∨ (k = 5 ∧ 4 ≤ V 0 6) ∨ (k = 6 ∧ 4 ≤ V 0 7) ∨ (k = 7 ∧ 8 ≤ V 0 9)) := of_decide_eq_false hf
  have : k = 1 ∨ k = 2 ∨ k = 3 ∨ k = 4 ∨ k = 5 ∨ k = 6 ∨ k = 7 ∨ k = 8 ∨ k = 9 := by omega
  rw [hw]
  rcases this with rfl | rfl | rfl | rfl | rfl | rfl | rfl | rfl | rfl
  · exact m_cl1 hN hT hV hP hS hR
  · exact m_cl2 hN hT hV hP hS hR
  · exact m_cl3 hN hT hV hP hS hR (by omega)
  · exact m_cl4 hN hT hV hP hS hR (by omega)
  · exact m_cl5 hN hT hV hP hS hR (by omega)
  · exact m_cl6 hN hT hV hP hS hR (by omega)
  · exact m_cl7 hN hT hV hP hS hR (by omega)
  · exact m_cl8 hN hT hV hP hS hR
  · exact m_cl9 hN hT hV hP hS hR
theorem m_sign24 (hn : n ≤ 600) (h : SM T n st X M) : wp (f_X10_sign_24 N M) (rV fun M' => (∀ e, st = .error e → SM T n st X M') ∧ (∀ a, st = .ok a → a < n → SM T n (.ok (a + 1)) X M')) := by
  obtain ⟨hP, hS, hE⟩ := h
  unfold f_X10_sign_24
  rw [m_fine hS hn]
  simp only [am_bi_i]
  cases st with
  | error e => exact wp_gd rfl (wp_v ⟨fun _ _ => ⟨hP, hS, hE⟩, fun a z => by cases z⟩)
  | ok a =>
    refine wp_ng (show ¬ ((1 : Int32) = 0) by decide) (wp_v ⟨fun e z => (nomatch z), fun a' z hl => ?_⟩)
    cases z
    rw [hS.2.2, i32_s]
    exact ⟨hP.fr f04.at, ⟨by omega, (up_ne (by omega)).trans hS.2.1, up_eq _ _ _ _⟩, fun x y w => (up_ne (by omega)).trans (hE x y w)⟩
theorem m_sign (hN : 602 ≤ N) (hT : TB T n) (h : SM T n st X M) : wp (f_X10_sign N 59 M) (rV fun M' => SM T n (enS T n st) X M') := by
  have h600 := hT.1
  unfold f_X10_sign
  rw [m_fine h.2.1 h600]
  simp only [am_bi_i]
  cases st with
  | error e => exact wp_gd rfl (wp_mv (m_sign24 h600 h) (fun M' q => q.1 e rfl))
  | ok a =>
    refine wp_ng (show ¬ ((1 : Int32) = 0) by decide) ?_
    obtain ⟨hP, hS, hE⟩ := h
    have ha := hS.1
    have hsB := skp_B (T := T) (n - a) a ha
    rw [show f_X10_here N M = _ from m_here hT (n - a) a N M (by omega) (by omega) hP hS.2.2]
    simp only [am_bi_i]
    have hP1 : MT T n (am_up M 0 4 (i32 (skp T n (n - a) a : Nat))) := hP.fr f04.at
    have hS1 : StM n (.ok (skp T n (n - a) a)) (am_up M 0 4 (i32 (skp T n (n - a) a : Nat))) := ⟨hsB.2, (up_ne (by omega)).trans hS.2.1, up_eq _ _ _ _⟩
    have hE1 : e04 X (am_up M 0 4 (i32 (skp T n (n - a) a : Nat))) := fun x y w => (up_ne (by omega)).trans (hE x y w)
    have e2 : enS T n (.ok a) = if skp T n (n - a) a < n ∧ T (skp T n (n - a) a) = 59 then .ok (skp T n (n - a) a + 1) else .error (1, skp T n (n - a) a) := rfl
    by_cases hq : skp T n (n - a) a < n ∧ T (skp T n (n - a) a) = 59
    · rw [e2, if_pos hq, if_pos hq.1]
      refine wp_gd (by rw [hq.2]; rfl) ?_
      exact wp_mv (m_sign24 h600 ⟨hP1, hS1, hE1⟩) (fun M' q => q.2 _ rfl hq.1)
    · rw [e2, if_neg hq]
      refine wp_ng ?_ ?_
      · intro z
        by_cases hl : skp T n (n - a) a < n
        · rw [if_pos hl] at z
          have hc := hT.2 _ hl
          exact hq ⟨hl, (i32_eq (b := 59) (by omega) (by omega) (by omega) (by omega)).mp z⟩
        · rw [if_neg hl] at z
          exact absurd z (by decide)
      · rw [up_eq, show (1 : Int32) = i32 ((1 : Nat) : Int) from rfl, m_wr0 hS1.2.1]
        simp only [am_bv_v]
        refine wp_mv (m_sign24 h600 (st := .error (1, skp T n (n - a) a)) (X := X) ⟨hP1.fr (fun x y w => by rw [up_ne (by omega), up_ne (by omega)]), StM.er (by omega) (by omega) hsB.2 (up_eq _ _ _ _), fun x y w => by rw [up_ne (by omega), up_ne (by omega)]; exact hE1 x y w⟩) (fun M' q => q.1 _ rfl)
theorem m_pl (hN : 602 ≤ N) (hT : TB T n) {Q : Except Nat (Option Value) → am_M → Prop} : ∀ (d i m : Nat) (V : VL) (a : Nat) (M : am_M), i + d = 60 → d + 1 < m → MT T n M → StM n (.ok a) M → RN V M → VX V → (i = 0 → V = V00) → (∀ M', StM n (pl T n (d + 1) i V a).2 M' → fM M M' → ((∃ b, (pl T n (d + 1) i V a).2 = .ok b) → RN (pl T n (d + 1) i V a).1 M') → wp (f_X10_valley_181 N M') Q) → wp (f_X10_valley_44 N m (i32 (i : Int)) M) Q := by
  have h600 := hT.1
  have step : ∀ (d i m : Nat) (V : VL) (a : Nat) (M : am_M), i + d = 60 → 0 < m → MT T n M → StM n (.ok a) M → RN V M → VX V → (i = 0 → V = V00) → (∀ M', StM n (pl T n (d + 1) i V a).2 M' → fM M M' → ((∃ b, (pl T n (d + 1) i V a).2 = .ok b) → RN (pl T n (d + 1) i V a).1 M') → wp (f_X10_valley_181 N M') Q) → (∀ V' a' M', i < 60 → MT T n M' → StM n (.ok a') M' → RN V' M' → VX V' → (∀ M'', StM n (pl T n d (i + 1) V' a').2 M'' → fM M' M'' → ((∃ b, (pl T n d (i + 1) V' a').2 = .ok b) → RN (pl T n d (i + 1) V' a').1 M'') → wp (f_X10_valley_181 N M'') Q) → wp (f_X10_valley_44 N m (i32 ((i + 1 : Nat) : Int)) M') Q) → wp (f_X10_valley_44 N (m + 1) (i32 (i : Int)) M) Q := by
    intro d i m V a M hi hm hP hS hR hV h0 hQ ih
    show wp (f_X10_valley_44B N _ _ M) _
    unfold f_X10_valley_44B f_X10_isMore
    have ha := hS.1
    have hsB := skp_B (T := T) (n - a) a ha
    rw [m_fine hS h600]
    simp only [am_bi_i]
    refine wp_ng (show ¬ ((1 : Int32) = 0) by decide) ?_
    rw [show f_X10_here N M = _ from m_here hT (n - a) a N M (by omega) (by omega) hP hS.2.2]
    simp only [am_bi_i]
    have hP1 : MT T n (am_up M 0 4 (i32 (skp T n (n - a) a : Nat))) := hP.fr f04.at
    have hS1 : StM n (.ok (skp T n (n - a) a)) (am_up M 0 4 (i32 (skp T n (n - a) a : Nat))) := ⟨hsB.2, (up_ne (by omega)).trans hS.2.1, up_eq _ _ _ _⟩
    have hE1 : e04 M (am_up M 0 4 (i32 (skp T n (n - a) a : Nat))) := fun x y w => up_ne (by omega)
    have hR1 := hR.e hE1
    have hF1 : fM M (am_up M 0 4 (i32 (skp T n (n - a) a : Nat))) := fM.of (fun _ _ _ _ => rfl) hE1
    rw [hP1.1, up_eq]
    have e : pl T n (d + 1) i V a = if n ≤ skp T n (n - a) a then (V, .ok (skp T n (n - a) a)) else pl1 T n (pl T n d (i + 1)) (kn T n (skp T n (n - a) a)).toNat V (knS T n i V (skp T n (n - a) a)) := rfl
    rw [e] at hQ
    by_cases hl : n ≤ skp T n (n - a) a
    · rw [if_pos hl] at hQ
      rw [if_pos ((i32_le (by omega) (by omega) (by omega) (by omega)).mpr (by omega))]
      simp only [am_bi_i]
      exact wp_gd trivial (hQ _ hS1 hF1 (fun _ => hR1))
    · rw [if_neg hl] at hQ
      rw [if_neg (fun q => hl (by have := (i32_le (by omega) (by omega) (by omega) (by omega)).mp q; omega))]
      simp only [am_bi_i]
      refine wp_ng (show ¬ ((1 : Int32) = 0) by decide) ?_
      have hs2 := skp_end (T := T) (n := n) (n - a) a (by omega)
      generalize hA : skp T n (n - a) a = A at *
      have hln := ltr_B (T := T) (n - A) A hsB.2
      have hll : ∀ j, A ≤ j → j < ltr T n (n - A) A → 97 ≤ T j ∧ T j ≤ 122 := fun j q1 q2 => ltr_L (n - A) A j q1 q2
      have hkd := kd_iff (T := T) hln.1 hll
      have hwB := wv_B (T := T) hln.1 hll
      rw [show kd T A (ltr T n (n - A) A) = kn T n A from rfl] at hkd
      rw [m_word hN hT hP1 hsB.2 hS1.2.2 hs2]
      simp only [am_bi_i]
      generalize hM1 : am_up M 0 4 (i32 ((A : Nat) : Int)) = M1 at *
      -- a fault at the word
      have bad : ∀ k : Nat, 1 ≤ k → k ≤ 3 → knS T n i V A = .error (k, A) → wp (am_bv (f_X10_wrong N (i32 (k : Int)) (M1 0 4) M1) fun M92 => f_X10_valley_121 N (f_X10_valley_44 N m) (i32 (i : Int)) (i32 (wv T A (ltr T n (n - A) A))) M92) Q := by
        intro k hk1 hk2 hk3
        rw [hS1.2.2, m_wr0 hS1.2.1]
        simp only [am_bv_v]
        have hSe : StM n (.error (k, A)) (am_up (am_up M1 0 5 (i32 (A : Int))) 0 6 (i32 (k : Int))) := StM.er ⟨hk1, hk2⟩ (by omega) hsB.2 hS1.2.2
        unfold f_X10_valley_121
        rw [m_fine hSe h600]
        simp only [am_bi_i]
        rw [hk3] at hQ
        exact wp_gd rfl (hQ _ hSe (hF1.trans (fun x y w1 w2 => by rw [up_ne (by omega), up_ne (by omega)])) (fun z => by obtain ⟨b, z⟩ := z; have z' : (Except.error (k, A) : ST) = .ok b := z; cases z'))
      have bad1 : (kn T n A = -1 ∨ ¬ (kn T n A = 0 ↔ i = 0)) → wp (f_X10_valley_86 N (f_X10_valley_44 N m) (i32 (i : Int)) (i32 (wv T A (ltr T n (n - A) A))) M1) Q := by
        intro hh
        unfold f_X10_valley_86
        exact bad 1 (by omega) (by omega) (by unfold knS; rw [if_pos hh])
      have good : ¬ (kn T n A = -1 ∨ ¬ (kn T n A = 0 ↔ i = 0)) → wp (f_X10_valley_98 N (f_X10_valley_44 N m) (i32 (i : Int)) (i32 (wv T A (ltr T n (n - A) A))) M1) Q := by
        intro hh
        unfold f_X10_valley_98
        have bad3 : (60 ≤ i ∨ full V (kn T n A) = true) → wp (f_X10_valley_112 N (f_X10_valley_44 N m) (i32 (i : Int)) (i32 (wv T A (ltr T n (n - A) A))) M1) Q := by
          intro hh2
          unfold f_X10_valley_112
          exact bad 3 (by omega) (by omega) (by unfold knS; rw [if_neg hh, if_pos hh2])
        by_cases h60 : i = 60
        · exact wp_gd ((i32_eq60 (by omega) (by omega)).mpr (by omega)) (bad3 (Or.inl (by omega)))
        · refine wp_ng (fun q => h60 (by have := (i32_eq60 (by omega) (by omega)).mp q; omega)) ?_
          rw [m_full hN hV hR1 hwB hkd.1 hkd.2]
          simp only [am_bi_i]
          by_cases hf : full V (kn T n A) = true
          · exact wp_ng (by rw [if_pos hf]; decide) (bad3 (Or.inr hf))
          · refine wp_gd (by rw [if_neg hf]) ?_
            have hk : knS T n i V A = .ok (ltr T n (n - A) A) := by
              unfold knS
              rw [if_neg hh, if_neg (fun z => by rcases z with z | z; omega; exact hf z)]
            rw [hk] at hQ
            have hff := Bool.eq_false_iff.mpr hf
            unfold f_X10_valley_121
            rw [m_fine hS1 h600]
            simp only [am_bi_i]
            refine wp_ng (show ¬ ((1 : Int32) = 0) by decide) ?_
            rw [show f_X10_pass N M1 = _ from m_pass hT (n - A) A N M1 (by omega) (by omega) hP1 hS1.2.2]
            simp only [am_bv_v]
            have hP2 : MT T n (am_up M1 0 4 (i32 (ltr T n (n - A) A : Nat))) := hP1.fr f04.at
            have hS2 : StM n (.ok (ltr T n (n - A) A)) (am_up M1 0 4 (i32 (ltr T n (n - A) A : Nat))) := ⟨hln.2, (up_ne (by omega)).trans hS1.2.1, up_eq _ _ _ _⟩
            have hE2 : e04 M1 (am_up M1 0 4 (i32 (ltr T n (n - A) A : Nat))) := fun x y w => up_ne (by omega)
            have hR2 := hR1.e hE2
            have hF2 : fM M (am_up M1 0 4 (i32 (ltr T n (n - A) A : Nat))) := hF1.of hE2
            -- behind the numbers
            have fin : ∀ M3, SM T n (cl T n (kn T n A).toNat V (.ok (ltr T n (n - A) A))).2 M3 M3 → fM M M3 → ((∃ b, (cl T n (kn T n A).toNat V (.ok (ltr T n (n - A) A))).2 = .ok b) → RN (cl T n (kn T n A).toNat V (.ok (ltr T n (n - A) A))).1 M3) → wp (f_X10_valley_169 N (f_X10_valley_44 N m) (i32 (i : Int)) M3) Q := by
              intro M3 hSC3 hF3 hR3
              unfold f_X10_valley_169
              refine wp_cv (m_sign hN hT hSC3) ?_
              rintro M4 ⟨hP4, hS4, hE4⟩
              rw [i32_s]
              have hF4 : fM M M4 := hF3.of hE4
              have stop : ∀ (e : Nat × Nat) (V' : VL), (pl1 T n (pl T n d (i + 1)) (kn T n A).toNat V (.ok (ltr T n (n - A) A))) = (V', .error e) → StM n (.error e) M4 → wp (f_X10_valley_44 N m (i32 ((i + 1 : Nat) : Int)) M4) Q := by
                intro e V' he hSe
                obtain ⟨m, rfl⟩ : ∃ k, m = k + 1 := ⟨m - 1, by omega⟩
                show wp (f_X10_valley_44B N _ _ M4) _
                unfold f_X10_valley_44B
                rw [m_fine hSe h600]
                simp only [am_bi_i]
                rw [he] at hQ
                exact wp_gd rfl (hQ M4 hSe hF4 (fun z => by obtain ⟨b, z⟩ := z; cases z))
              generalize hc : (cl T n (kn T n A).toNat V (.ok (ltr T n (n - A) A))).2 = st1 at hS4 hR3
              have hpl : pl1 T n (pl T n d (i + 1)) (kn T n A).toNat V (.ok (ltr T n (n - A) A)) = pl2 (pl T n d (i + 1)) (cl T n (kn T n A).toNat V (.ok (ltr T n (n - A) A))).1 (enS T n st1) := by
                rw [← hc]; rfl
              cases st1 with
              | error e => exact stop e _ hpl hS4
              | ok a1 =>
                have hV1 := VX_cl hV (by omega) hff (fun z => h0 (by omega)) hc
                have hR4 := (hR3 ⟨a1, rfl⟩).e hE4
                generalize he : enS T n (.ok a1) = st2 at hS4 hpl
                cases st2 with
                | error e => exact stop e _ hpl hS4
                | ok a2 =>
                  refine ih _ a2 M4 (by omega) hP4 hS4 hR4 hV1 (fun M5 z1 z2 z3 => hQ M5 ?_ (hF4.trans z2) ?_)
                  · rw [hpl]; exact z1
                  · rw [hpl]; exact z3
            by_cases hi0 : i = 0
            · refine wp_gd ((i32_eq0 (by omega) (by omega)).mpr (by omega)) ?_
              have hk0 : kn T n A = 0 := by omega
              rw [hk0] at fin
              refine m_cl0 hN hT hV hP2 hS2 hR2 (fun M3 z1 z2 z3 => ?_)
              exact fin M3 z1 (hF2.trans z2) (fun _ => z3)
            · refine wp_ng (fun q => hi0 (by have := (i32_eq0 (by omega) (by omega)).mp q; omega)) ?_
              have hkw : wv T A (ltr T n (n - A) A) = cd (kn T n A).toNat := (hkd.1 (kn T n A).toNat (by omega)).mpr (by omega)
              refine wp_cv (m_clk hN hT hV hP2 hS2 hR2 (k := kn T n A) (by omega) hkw hff) ?_
              rintro M3 ⟨z1, z2, z3⟩
              exact fin M3 z1 (hF2.trans z2) z3
      by_cases hi0 : i = 0
      · refine wp_gd ((i32_eq0 (by omega) (by omega)).mpr (by omega)) ?_
        rw [m_od0 hN]
        simp only [am_bi_i]
        by_cases hk0 : kn T n A = 0
        · exact wp_gd ((cd_eq hwB (k := 0) (by omega)).mpr ((hkd.1 0 (by omega)).mpr hk0)) (good (by omega))
        · exact wp_ng (fun q => hk0 ((hkd.1 0 (by omega)).mp ((cd_eq hwB (k := 0) (by omega)).mp q))) (bad1 (by omega))
      · refine wp_ng (fun q => hi0 (by have := (i32_eq0 (by omega) (by omega)).mp q; omega)) ?_
        rw [m_other hN hwB hkd.1 hkd.2]
        simp only [am_bi_i]
        by_cases hk1 : 1 ≤ kn T n A
        · exact wp_ng (by rw [if_pos hk1]; decide) (good (by omega))
        · exact wp_gd (by rw [if_neg hk1]) (bad1 (by omega))
  intro d
  induction d with
  | zero =>
    intro i m V a M hi hm hP hS hR hV h0 hQ
    obtain ⟨m, rfl⟩ : ∃ k, m = k + 1 := ⟨m - 1, by omega⟩
    exact step 0 i m V a M hi (by omega) hP hS hR hV h0 hQ (fun V' a' M' h => by omega)
  | succ d ih =>
    intro i m V a M hi hm hP hS hR hV h0 hQ
    obtain ⟨m, rfl⟩ : ∃ k, m = k + 1 := ⟨m - 1, by omega⟩
    exact step (d + 1) i m V a M hi (by omega) hP hS hR hV h0 hQ (fun V' a' M' h hP' hS' hR' hV' hQ' => ih (i + 1) m V' a' M' (by omega) (by omega) hP' hS' hR' hV' (fun z => by omega) hQ')
end LM
