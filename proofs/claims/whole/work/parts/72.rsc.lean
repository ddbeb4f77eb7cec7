/-! rests: the worths of all sets; the rows -/
variable {N : Nat} {V : VL} {M0 : am_M} {f : Nat}
def sF (M M' : am_M) : Prop := ∀ a b, a < 51 ∨ (a = 51 ∧ b = 6) ∨ (57 < a ∧ a ≠ 61) → M' a b = M a b
theorem sF.trans {M M' M'' : am_M} (h1 : sF M M') (h2 : sF M' M'') : sF M M'' := fun a b h => (h2 a b h).trans (h1 a b h)
theorem sF.c {M M' : am_M} (h : sF M M') : sC M M' := fun a b q => h a b (by omega)
def FC (V : VL) (j i : Nat) (M : am_M) : Prop := ∀ s f, f < (V 0 5).toNat → (s < j ∨ (s = j ∧ f < i)) → suO V s → M 61 (s * 5 + f) = i32 (wo V s f)
theorem c_fill_in (hN : 102 ≤ N) (hV : VX V) (hR : RC V M0) {s : Nat} (hs : s < 2 ^ (V 0 6).toNat) {M1 : am_M} (h1 : fr14 M0 M1) (h1c : ∀ c, c < 100 → M1 14 c = i32 (bH (V 6) (cl5 V) (i32 (s : Int)) (V 0 6).toNat c)) {k2 : Int32 → am_M → am_O} {Q : Except Nat (Option Value) → am_M → Prop} (hk : ∀ M', sF M0 M' → FC V (s + 1) 0 M' → wp (k2 (i32 ((s + 1 : Nat) : Int)) M') Q) :
    ∀ (d i n : Nat) (M : am_M), i + d = (V 0 5).toNat → d < n → sF M1 M → FC V s i M → wp (f_X1_fillWorths_50 N (i32 (s : Int)) (orB (rz (V 6) (cl5 V) (i32 (s : Int))) 0 (V 0 6).toNat) k2 n (i32 (i : Int)) M) Q := by
  have hns := hV.ns
  have hp := pw_4 (n := (V 0 6).toNat) (by omega)
  have hR1 : RC (bV5 V (i32 (s : Int))) M1 := hR.fr h1 h1c
  intro d
  induction d with
  | zero =>
    intro i n M hi hn hF hC
    obtain ⟨n, rfl⟩ : ∃ k, n = k + 1 := ⟨n - 1, by omega⟩
    show wp (f_X1_fillWorths_50B N _ _ _ _ _ M) _
    unfold f_X1_fillWorths_50B
    have hRM : RC (bV5 V (i32 (s : Int))) M := hR1.sC hF.c
    rw [show M 3 3 = i32 (V 0 5) from hRM.2.2.1.2.2.1]
    refine wp_gd ((i32_le (by omega) (by omega) (by omega) (by omega)).mpr (by omega)) ?_
    refine wp_cv (c_lower5 hN hV hRM (i32 (s : Int)) (fun c hc => (hRM.1.2.2.2 c hc).1)) ?_
    rintro M3 ⟨h3, h4⟩
    rw [i32_s]
    refine hk M3 (fun a b q => ?_) (fun s' f' hf hsf hsu => ?_)
    · by_cases hab : a = 14 ∧ b < 100
      · rw [hab.1, h4 b hab.2, (hR.1.2.2.2 b hab.2).1]
      · rw [h3 a b (by omega), hF a b q, h1 a b (by omega)]
    · rw [h3 61 _ (by omega)]
      exact hC s' f' hf (by omega) hsu
  | succ d ih =>
    intro i n M hi hn hF hC
    obtain ⟨n, rfl⟩ : ∃ k, n = k + 1 := ⟨n - 1, by omega⟩
    show wp (f_X1_fillWorths_50B N _ _ _ _ _ M) _
    unfold f_X1_fillWorths_50B
    have hRM : RC (bV5 V (i32 (s : Int))) M := hR1.sC hF.c
    rw [show M 3 3 = i32 (V 0 5) from hRM.2.2.1.2.2.1, hRM.law]
    refine wp_ng (fun q => absurd ((i32_le (by omega) (by omega) (by omega) (by omega)).mp q) (by omega)) ?_
    have hff : (i : Int) < V 0 5 := by omega
    refine wp_cv (c_survey (V := bV5 V (i32 (s : Int))) (fog := 0) (law := V 0 3) hN hV.b5 hRM (by omega) hV.lw hff) ?_
    rintro M2 ⟨h2, hsv⟩
    have hR2 : RC (bV5 V (i32 (s : Int))) M2 := hRM.sC h2.c
    rw [show (4 : Int32) = i32 ((4 : Nat) : Int) from rfl, c_at3 hR2.2.2.1 (show 0 ≤ V 0 5 ∧ V 0 5 ≤ 5 by omega) (r := i) (k := 4) hff (by omega)]
    simp only [am_bi_i]
    have hbs := sv_B (V := bV5 V (i32 (s : Int))) (law := V 0 3) (fog := 0) hV.b5 (by omega) hff
    rw [hsv.2.2 (by rw [hbs.1.1]; omega) 0 (by omega), i32_mul, i32_5, i32_mul, i32_add, i32_s]
    refine wp_gd (i32_in (by omega) (by omega) (by omega)) ?_
    rw [i32_cl (by omega) (by omega), show ((s : Int) * 5 + (i : Int)).toNat = s * 5 + i from by omega]
    refine ih (i + 1) n _ (by omega) (by omega) (fun a b q => ?_) (fun s' f' hf hsf hsu => ?_)
    · rw [up_ne (by omega), h2 a b (by omega), hF a b q]
    · by_cases hx : s' = s ∧ f' = i
      · rw [hx.1, hx.2, up_eq]
        rfl
      · rw [up_ne (by omega), h2 61 _ (by omega)]
        exact hC s' f' hf (by omega) hsu
theorem c_fill_lp (hN : 102 ≤ N) (hV : VX V) (hR : RC V M0) (hO : M0 60 6 = opn V) : ∀ (d j n : Nat) (M : am_M), j + d = 2 ^ (V 0 6).toNat → d < n → sF M0 M → FC V j 0 M → wp (f_X1_fillWorths_2 N n (i32 (j : Int)) M) (rV fun M' => sF M0 M' ∧ WC V M') := by
  have hns := hV.ns
  have hp := pw_4 (n := (V 0 6).toNat) (by omega)
  intro d
  induction d with
  | zero =>
    intro j n M hj hn hF hC
    obtain ⟨n, rfl⟩ : ∃ k, n = k + 1 := ⟨n - 1, by omega⟩
    show wp (f_X1_fillWorths_2B N _ _ M) _
    unfold f_X1_fillWorths_2B
    rw [(hR.sC hF.c).2.2.2.1.2.2.1, sh_pw (by omega)]
    refine wp_gd ((i32_le (by omega) (by omega) (by omega) (by omega)).mpr (by omega)) (wp_v ⟨hF, fun s f hf hs hsu => hC s f hf (by omega) hsu⟩)
  | succ d ih =>
    intro j n M hj hn hF hC
    obtain ⟨n, rfl⟩ : ∃ k, n = k + 1 := ⟨n - 1, by omega⟩
    show wp (f_X1_fillWorths_2B N _ _ M) _
    unfold f_X1_fillWorths_2B
    have hRM := hR.sC hF.c
    rw [hRM.2.2.2.1.2.2.1, sh_pw (by omega), hF 60 6 (by omega), hO]
    refine wp_ng (fun q => absurd ((i32_le (by omega) (by omega) (by omega) (by omega)).mp q) (by omega)) ?_
    by_cases ho : i32 (j : Int) &&& (opn V ^^^ (-1)) = 0
    · refine wp_gd ho ?_
      refine wp_ci (c_raise5 hN hV hRM (i32 (j : Int))) ?_
      rintro v M1 ⟨rfl, h1, h1c⟩
      refine c_fill_in hN hV hRM (s := j) (by omega) h1 h1c (fun M' hF' hC' => ih (j + 1) n M' (by omega) (by omega) (hF.trans hF') hC') (V 0 5).toNat 0 N M1 (by omega) (by omega) (fun _ _ _ => rfl) (fun s f hf hsf hsu => ?_)
      rw [h1 61 _ (by omega)]
      exact hC s f hf hsf hsu
    · refine wp_ng ho ?_
      rw [i32_s]
      refine ih (j + 1) n M (by omega) (by omega) hF (fun s f hf hsf hsu => ?_)
      by_cases hsj : s = j
      · rw [hsj] at hsu; exact absurd hsu ho
      · exact hC s f hf (by omega) hsu
theorem c_rows_lp (hN : 4200 ≤ N) (hV : VX V) (hR : RC V M0) (hO : M0 60 6 = opn V) (hW : WC V M0) : ∀ (d j n : Nat) (M : am_M), j + 1 + d = rows V → d < n → (∀ a b, a ≠ 62 → (a ≠ 60 ∨ (b ≠ 2 ∧ b ≠ 3)) → M a b = M0 a b) → CH V (dg V j) M → M 60 2 = i32 (rsS V j).1 → M 60 3 = i32 (rsS V j).2 → wp (f_X1_findRests_54 N n (i32 (j : Int)) M) (rV fun M' => sC M0 M' ∧ M' 60 2 = i32 (rsS V (rows V)).1 ∧ M' 60 3 = i32 (rsS V (rows V)).2) := by
  have hns := hV.ns
  have hrw := rows_B hV
  intro d
  induction d with
  | zero =>
    intro j n M hj hn hF hC h2 h3
    obtain ⟨n, rfl⟩ : ∃ k, n = k + 1 := ⟨n - 1, by omega⟩
    show wp (f_X1_findRests_54B N _ _ M) _
    unfold f_X1_findRests_54B
    have hs : sC M0 M := fun a b q => hF a b (by omega) (by omega)
    have hRM := hR.sC hs
    have hB := rsS_B hV j
    have hWM : WC V M := fun s f q1 q2 q3 => by rw [hF 61 _ (by omega) (by omega)]; exact hW s f q1 q2 q3
    refine wp_ng (fun q => by rw [show (3125 : Int32) = i32 3125 from rfl] at q; exact absurd ((i32_le (by omega) (by omega) (by omega) (by omega)).mp q) (by omega)) ?_
    refine wp_ci (c_rest (by omega) hV hRM ((hF 60 6 (by omega) (by omega)).trans hO) (fun k => dg_le) hC hWM) ?_
    rintro v M1 ⟨rfl, hF1, hC1⟩
    have hs1 := hs.trans hF1.c
    have fin : ∀ M2, sC M0 M2 → CH V (dg V j) M2 → M2 60 2 = i32 (rsS V (j + 1)).1 → M2 60 3 = i32 (rsS V (j + 1)).2 → wp (f_X1_findRests_93 N (f_X1_findRests_54 N n) (i32 (j : Int)) M2) (rV fun M' => sC M0 M' ∧ M' 60 2 = i32 (rsS V (rows V)).1 ∧ M' 60 3 = i32 (rsS V (rows V)).2) := by
      intro M2 hs2 hC2 q2 q3
      unfold f_X1_findRests_93
      refine wp_ci (c_next (by omega) hV (hR.sC hs2) (r := j) (by omega) hC2) ?_
      rintro v M3 ⟨hF3, hh | hh⟩
      · refine wp_gd hh.1 (wp_v ⟨hs2.trans hF3.c, ?_, ?_⟩)
        · rw [hF3 60 2 (by omega), q2, hh.2]
        · rw [hF3 60 3 (by omega), q3, hh.2]
      · omega
    have k1 : rsS V (j + 1) = rsF V j (rsS V j) := rfl
    unfold rsF at k1
    by_cases hr : (aO V (dg V j) (V 0 5).toNat && iR V (dg V j) (V 0 5).toNat) = true
    · rw [if_pos hr] at k1
      refine wp_ng (by rw [if_pos hr]; decide) ?_
      rw [hF1 60 2 (by omega), h2]
      have hdg : f_X1_digitsOfChoices N M1 = _ := c_dig_lp hV (hR.sC hs1) hC1 (V 0 5).toNat 0 N (by omega) (by omega)
      by_cases h0 : (rsS V j).1 = 0
      · refine wp_gd ((i32_eq0 (by omega) (by omega)).mpr h0) ?_
        rw [hdg]
        simp only [am_bi_i]
        unfold f_X1_findRests_83
        rw [if_pos h0] at k1
        refine fin _ ((hs1.up (by omega) (by omega)).up (by omega) (by omega)) (fun k hk => ?_) ?_ ?_
        · rw [up_ne (by omega), up_ne (by omega)]; exact hC1 k hk
        · rw [up_eq, up_ne (by omega), hF1 60 2 (by omega), h2, i32_1, i32_add, k1]
        · rw [up_ne (by omega), up_eq, k1]
      · refine wp_ng (fun q => h0 ((i32_eq0 (by omega) (by omega)).mp q)) ?_
        unfold f_X1_findRests_83
        rw [if_neg h0] at k1
        refine fin _ (hs1.up (by omega) (by omega)) (fun k hk => ?_) ?_ ?_
        · rw [up_ne (by omega)]; exact hC1 k hk
        · rw [up_eq, hF1 60 2 (by omega), h2, i32_1, i32_add, k1]
        · rw [up_ne (by omega), hF1 60 3 (by omega), h3, k1]
    · rw [if_neg hr] at k1
      refine wp_gd (by rw [if_neg hr]) ?_
      refine fin _ hs1 hC1 ?_ ?_
      · rw [hF1 60 2 (by omega), h2, k1]
      · rw [hF1 60 3 (by omega), h3, k1]
  | succ d ih =>
    intro j n M hj hn hF hC h2 h3
    obtain ⟨n, rfl⟩ : ∃ k, n = k + 1 := ⟨n - 1, by omega⟩
    show wp (f_X1_findRests_54B N _ _ M) _
    unfold f_X1_findRests_54B
    have hs : sC M0 M := fun a b q => hF a b (by omega) (by omega)
    have hRM := hR.sC hs
    have hB := rsS_B hV j
    have hWM : WC V M := fun s f q1 q2 q3 => by rw [hF 61 _ (by omega) (by omega)]; exact hW s f q1 q2 q3
    refine wp_ng (fun q => by rw [show (3125 : Int32) = i32 3125 from rfl] at q; exact absurd ((i32_le (by omega) (by omega) (by omega) (by omega)).mp q) (by omega)) ?_
    refine wp_ci (c_rest (by omega) hV hRM ((hF 60 6 (by omega) (by omega)).trans hO) (fun k => dg_le) hC hWM) ?_
    rintro v M1 ⟨rfl, hF1, hC1⟩
    have hG1 : ∀ a b, a ≠ 62 → (a ≠ 60 ∨ (b ≠ 2 ∧ b ≠ 3)) → M1 a b = M0 a b := fun a b q1 q2 => (hF1 a b q1).trans (hF a b q1 q2)
    have fin : ∀ M2, (∀ a b, a ≠ 62 → (a ≠ 60 ∨ (b ≠ 2 ∧ b ≠ 3)) → M2 a b = M0 a b) → CH V (dg V j) M2 → M2 60 2 = i32 (rsS V (j + 1)).1 → M2 60 3 = i32 (rsS V (j + 1)).2 → wp (f_X1_findRests_93 N (f_X1_findRests_54 N n) (i32 (j : Int)) M2) (rV fun M' => sC M0 M' ∧ M' 60 2 = i32 (rsS V (rows V)).1 ∧ M' 60 3 = i32 (rsS V (rows V)).2) := by
      intro M2 hG2 hC2 q2 q3
      have hs2 : sC M0 M2 := fun a b q => hG2 a b (by omega) (by omega)
      unfold f_X1_findRests_93
      refine wp_ci (c_next (by omega) hV (hR.sC hs2) (r := j) (by omega) hC2) ?_
      rintro v M3 ⟨hF3, hh | hh⟩
      · omega
      · refine wp_ng hh.1 ?_
        rw [i32_s]
        refine ih (j + 1) n M3 (by omega) (by omega) (fun a b w1 w2 => (hF3 a b w1).trans (hG2 a b w1 w2)) hh.2.2 ?_ ?_
        · rw [hF3 60 2 (by omega), q2]
        · rw [hF3 60 3 (by omega), q3]
    have k1 : rsS V (j + 1) = rsF V j (rsS V j) := rfl
    unfold rsF at k1
    by_cases hr : (aO V (dg V j) (V 0 5).toNat && iR V (dg V j) (V 0 5).toNat) = true
    · rw [if_pos hr] at k1
      refine wp_ng (by rw [if_pos hr]; decide) ?_
      rw [hF1 60 2 (by omega), h2]
      have hs1 : sC M0 M1 := fun a b q => hG1 a b (by omega) (by omega)
      have hdg : f_X1_digitsOfChoices N M1 = _ := c_dig_lp hV (hR.sC hs1) hC1 (V 0 5).toNat 0 N (by omega) (by omega)
      by_cases h0 : (rsS V j).1 = 0
      · refine wp_gd ((i32_eq0 (by omega) (by omega)).mpr h0) ?_
        rw [hdg]
        simp only [am_bi_i]
        unfold f_X1_findRests_83
        rw [if_pos h0] at k1
        refine fin _ (fun a b w1 w2 => by rw [up_ne (by omega), up_ne (by omega)]; exact hG1 a b w1 w2) (fun k hk => ?_) ?_ ?_
        · rw [up_ne (by omega), up_ne (by omega)]; exact hC1 k hk
        · rw [up_eq, up_ne (by omega), hF1 60 2 (by omega), h2, i32_1, i32_add, k1]
        · rw [up_ne (by omega), up_eq, k1]
      · refine wp_ng (fun q => h0 ((i32_eq0 (by omega) (by omega)).mp q)) ?_
        unfold f_X1_findRests_83
        rw [if_neg h0] at k1
        refine fin _ (fun a b w1 w2 => by rw [up_ne (by omega)]; exact hG1 a b w1 w2) (fun k hk => ?_) ?_ ?_
        · rw [up_ne (by omega)]; exact hC1 k hk
        · rw [up_eq, hF1 60 2 (by omega), h2, i32_1, i32_add, k1]
        · rw [up_ne (by omega), hF1 60 3 (by omega), h3, k1]
    · rw [if_neg hr] at k1
      refine wp_gd (by rw [if_neg hr]) ?_
      refine fin _ hG1 hC1 ?_ ?_
      · rw [hF1 60 2 (by omega), h2, k1]
      · rw [hF1 60 3 (by omega), h3, k1]
theorem c_zero_lp (hN : 4200 ≤ N) (hV : VX V) (hR : RC V M0) (hO : M0 60 6 = opn V) (hW : WC V M0) (h2 : M0 60 2 = 0) (h3 : M0 60 3 = -1) : ∀ (d j n : Nat) (M : am_M), j + d = 5 → d < n → (∀ a b, a ≠ 62 → M a b = M0 a b) → (∀ k, k < j → M 62 k = 0) → wp (f_X1_findRests_34 N n (i32 (j : Int)) M) (rV fun M' => sC M0 M' ∧ M' 60 2 = i32 (rsS V (rows V)).1 ∧ M' 60 3 = i32 (rsS V (rows V)).2) := by
  have hns := hV.ns
  have hrw := rows_B hV
  intro d
  induction d with
  | zero =>
    intro j n M hj hn hF hC
    obtain ⟨n, rfl⟩ : ∃ k, n = k + 1 := ⟨n - 1, by omega⟩
    show wp (f_X1_findRests_34B N _ _ M) _
    unfold f_X1_findRests_34B
    refine wp_gd ((i32_5le (by omega) (by omega)).mpr (by omega)) ?_
    refine c_rows_lp hN hV hR hO hW (rows V - 1) 0 N M (by omega) (by omega) (fun a b w1 _ => hF a b w1) (fun k hk => ?_) ?_ ?_
    · rw [hC k (by omega)]
      unfold dg
      rw [Nat.zero_div, Nat.zero_mod]
      rfl
    · rw [hF 60 2 (by omega), h2]; rfl
    · rw [hF 60 3 (by omega), h3]; rfl
  | succ d ih =>
    intro j n M hj hn hF hC
    obtain ⟨n, rfl⟩ : ∃ k, n = k + 1 := ⟨n - 1, by omega⟩
    show wp (f_X1_findRests_34B N _ _ M) _
    unfold f_X1_findRests_34B
    refine wp_ng (fun q => absurd ((i32_5le (by omega) (by omega)).mp q) (by omega)) (wp_gd (i32_in (by omega) (by omega) (by omega)) ?_)
    rw [i32_k (by omega), i32_s]
    refine ih (j + 1) n _ (by omega) (by omega) (fun a b w1 => (up_ne (by omega)).trans (hF a b w1)) (fun k hk => ?_)
    by_cases hkj : k = j
    · rw [hkj, up_eq]
    · rw [up_ne (by omega)]; exact hC k (by omega)
theorem c_rests (hN : 4200 ≤ N) (hV : VX V) (hR : RC V M0) : wp (f_X1_findRests N M0) (rV fun M' => sC M0 M' ∧ M' 60 2 = i32 (rsS V (rows V)).1 ∧ M' 60 3 = i32 (rsS V (rows V)).2) := by
  have hns := hV.ns
  have hp := pw_4 (n := (V 0 6).toNat) (by omega)
  unfold f_X1_findRests
  have hs : sC M0 (am_up (am_up M0 60 2 0) 60 3 (-1)) := (sC.rfl.up (by omega) (by omega)).up (by omega) (by omega)
  rw [c_bare (by omega) hV (hR.sC hs)]
  simp only [am_bi_i]
  have hs2 : sC M0 (am_up (am_up (am_up M0 60 2 0) 60 3 (-1)) 60 6 (opn V)) := hs.up (by omega) (by omega)
  refine wp_cv (c_fill_lp (by omega) hV (hR.sC hs2) (up_eq _ _ _ _) (2 ^ (V 0 6).toNat) 0 N _ (by omega) (by omega) (fun _ _ _ => rfl) (fun s f h1 h2 h3 => by omega)) ?_
  rintro M1 ⟨hF1, hW1⟩
  have hs3 := hs2.trans hF1.c
  refine wp_mv (c_zero_lp hN hV (hR.sC hs3) ?_ hW1 ?_ ?_ 5 0 N M1 (by omega) (by omega) (fun _ _ _ => rfl) (fun k hk => by omega)) (fun M' q => ⟨hs3.trans q.1, q.2⟩)
  · rw [hF1 60 6 (by omega), up_eq]
  · rw [hF1 60 2 (by omega), up_ne (by omega), up_ne (by omega), up_eq]
  · rw [hF1 60 3 (by omega), up_ne (by omega), up_eq]
