/-! rests: the reference's side -/
variable {N : Nat} {V : VL} {M0 : am_M} {f : Nat}
def CHm (V : VL) (ch : Nat → Nat) (M : am_M) : Prop := ∀ k, k < (V 0 5).toNat → M 23 k = i32 (ch k : Int)
def WM (V : VL) (M : am_M) : Prop := ∀ s f, f < (V 0 5).toNat → s < 2 ^ (V 0 6).toNat → suO V s → M 22 (16 * f + s) = i32 (wo V s f)
theorem m_barns_lp (hV : VX V) {M : am_M} (hR : RT V M) {ch : Nat → Nat} (hA : AO V ch) (hC : CHm V ch M) : ∀ (d j n : Nat), j + d = (V 0 5).toNat → d < n → f_X10_barns_4 N n (i32 ((bs ch j : Nat) : Int)) (i32 (j : Int)) M = some (.ok (some (.int (i32 ((bs ch (V 0 5).toNat : Nat) : Int)))), M) := by
  have hns := hV.ns
  have hp := pw_4 (n := (V 0 6).toNat) (by omega)
  intro d
  induction d with
  | zero =>
    intro j n hj hn
    obtain ⟨n, rfl⟩ : ∃ k, n = k + 1 := ⟨n - 1, by omega⟩
    show f_X10_barns_4B N _ _ _ M = _
    unfold f_X10_barns_4B
    rw [hR.2.1.1, if_pos ((i32_le (by omega) (by omega) (by omega) (by omega)).mpr (by omega)), show j = (V 0 5).toNat from by omega]
  | succ d ih =>
    intro j n hj hn
    obtain ⟨n, rfl⟩ : ∃ k, n = k + 1 := ⟨n - 1, by omega⟩
    show f_X10_barns_4B N _ _ _ M = _
    unfold f_X10_barns_4B
    have hb := bs_ok hV j (fun k hk => hA k (by omega))
    have hc := (hA j (by omega)).1
    have := ih (j + 1) n (by omega) (by omega)
    rw [bs_nx] at this
    rw [hR.2.1.1, if_neg (fun q => absurd ((i32_le (by omega) (by omega) (by omega) (by omega)).mp q) (by omega)), if_pos (i32_in (by omega) (by omega) (by omega)), i32_k (by omega), hC j (by omega), i32_s]
    by_cases h0 : 0 < ch j
    · rw [if_pos h0] at this
      have hpj := pw_4 (n := ch j - 1) (by omega)
      have h1 : 2 ^ (ch j - 1) < 2 ^ (V 0 6).toNat := Nat.pow_lt_pow_right (by omega) (by omega)
      rw [if_neg (fun q => by have := (i32_le0 (by omega) (by omega)).mp q; omega), if_pos (i32_in (by omega) (by omega) (by omega)), i32_1, i32_sub, show ((ch j : Nat) : Int) - 1 = ((ch j - 1 : Nat) : Int) from by omega, ← i32_1, sh_pw (by omega), show (((ch j - 1 : Nat) : Int)).toNat = ch j - 1 from by omega, (or16 ⟨bs ch j, by omega⟩ ⟨2 ^ (ch j - 1), by omega⟩).1]
      exact this
    · rw [if_neg h0] at this
      rw [if_pos ((i32_le0 (by omega) (by omega)).mpr (by omega)), show ∀ a : Int32, a ||| 0 = a from fun a => by apply Int32.toBitVec_inj.mp; simp]
      exact this
theorem m_gets (hN : 102 ≤ N) (hV : VX V) {M : am_M} (hR : RT V M) {ch : Nat → Nat} (hA : AO V ch) (hC : CHm V ch M) (hW : WM V M) (hff : (f : Int) < V 0 5) : f_X10_gets N (i32 (f : Int)) M = some (.ok (some (.int (i32 (out V ch f)))), M) := by
  have hns := hV.ns
  have hp := pw_4 (n := (V 0 6).toNat) (by omega)
  have hb := bs_ok hV (V 0 5).toNat hA
  have hc := (hA f (by omega)).1
  have h1 : f_X10_barns N M = _ := m_barns_lp hV hR hA hC (V 0 5).toNat 0 N (by omega) (by omega)
  unfold f_X10_gets
  rw [h1]
  simp only [am_bi_i]
  rw [show (16 : Int32) = i32 16 from rfl, i32_mul, i32_add, if_pos ⟨i32_in (by omega) (by omega) (by omega), i32_in (by omega) (by omega) (by omega)⟩, i32_k (by omega), hC f (by omega), i32_cl (by omega) (by omega), show (16 * (f : Int) + ((bs ch (V 0 5).toNat : Nat) : Int)).toNat = 16 * f + bs ch (V 0 5).toNat from by omega, hW _ _ (by omega) hb.1 hb.2]
  unfold out
  by_cases h0 : 0 < ch f
  · rw [if_pos h0, if_neg (fun q => by have := (i32_le0 (by omega) (by omega)).mp q; omega), i32_2, i32_mul, i32_1, i32_sub, if_pos ⟨i32_in (by omega) (by omega) (by omega), i32_in (by omega) (by omega) (by omega)⟩, i32_cl (by omega) (by omega), show (2 * (ch f : Int) - 1).toNat = 2 * (ch f - 1) + 1 from by omega, (hR.2.2.2.2.1 (ch f - 1) (by omega)).2, i32_sub]
  · rw [if_neg h0, if_pos ((i32_le0 (by omega) (by omega)).mpr (by omega)), i32_0, i32_sub]
def fr23 (M M' : am_M) : Prop := ∀ a b, a ≠ 23 → M' a b = M a b
theorem fr23.trans {M M' M'' : am_M} (h1 : fr23 M M') (h2 : fr23 M' M'') : fr23 M M'' := fun a b h => (h2 a b h).trans (h1 a b h)
theorem fr23.s {M M' : am_M} (h : fr23 M M') : sM M M' := fun a b q => h a b (fun z => q (by unfold mS; omega))
theorem WM.fr {M M' : am_M} (h : WM V M) (q : fr23 M M') : WM V M' := fun s f h1 h2 h3 => by rw [q 22 _ (by omega)]; exact h s f h1 h2 h3
theorem m_hb_lp (hN : 102 ≤ N) (hV : VX V) {M : am_M} (hR : RT V M) {ch : Nat → Nat} (hA : AO V ch) (hW : WM V M) (hff : (f : Int) < V 0 5) {k2 : Int32 → am_M → am_O} {Q : Except Nat (Option Value) → am_M → Prop}
    (h0 : hb V ch f ((V 0 6).toNat + 1) = false → ∀ M', fr23 M M' → CHm V ch M' → wp (k2 (i32 ((f + 1 : Nat) : Int)) M') Q)
    (h1 : hb V ch f ((V 0 6).toNat + 1) = true → ∀ M', fr23 M M' → CHm V ch M' → wp (some (.ok (some (.int 0)), M')) Q) :
    ∀ (d j n : Nat) (M' : am_M), j + d = (V 0 6).toNat + 1 → d < n → fr23 M M' → (∀ k, k ≠ f → k < (V 0 5).toNat → M' 23 k = i32 (ch k : Int)) → wp (f_X10_isRest_30 N (opn V) (i32 (f : Int)) (i32 (ch f : Int)) (i32 (out V ch f)) k2 n (if hb V ch f j then 1 else 0) (i32 (j : Int)) M') Q := by
  have hns := hV.ns
  have hoB := out_B hV hA hff
  intro d
  induction d with
  | zero =>
    intro j n M' hj hn hF hC
    obtain ⟨n, rfl⟩ : ∃ k, n = k + 1 := ⟨n - 1, by omega⟩
    show wp (f_X10_isRest_30B N _ _ _ _ _ _ _ _ M') _
    unfold f_X10_isRest_30B
    rw [(hR.sM hF.s).2.1.2.1]
    refine wp_gd ((i32_lt (by omega) (by omega) (by omega) (by omega)).mpr (by omega)) (wp_gd (i32_in (by omega) (by omega) (by omega)) ?_)
    rw [show j = (V 0 6).toNat + 1 from by omega, i32_k (by omega)]
    have hF2 : fr23 M (am_up M' 23 f (i32 (ch f : Int))) := fun a b q => (up_ne (by omega)).trans (hF a b q)
    have hC2 : CHm V ch (am_up M' 23 f (i32 (ch f : Int))) := fun k hk => by
      by_cases hkf : k = f
      · rw [hkf, up_eq]
      · rw [up_ne (by omega)]; exact hC k hkf hk
    by_cases hh : hb V ch f ((V 0 6).toNat + 1) = true
    · exact wp_ng (by rw [if_pos hh]; decide) (h1 hh _ hF2 hC2)
    · refine wp_gd (by rw [if_neg hh]) ?_
      rw [i32_s]
      exact h0 (Bool.eq_false_iff.mpr hh) _ hF2 hC2
  | succ d ih =>
    intro j n M' hj hn hF hC
    obtain ⟨n, rfl⟩ : ∃ k, n = k + 1 := ⟨n - 1, by omega⟩
    show wp (f_X10_isRest_30B N _ _ _ _ _ _ _ _ M') _
    unfold f_X10_isRest_30B
    have hRM := hR.sM hF.s
    rw [hRM.2.1.2.1]
    refine wp_ng (fun q => absurd ((i32_lt (by omega) (by omega) (by omega) (by omega)).mp q) (by omega)) ?_
    have ihj := fun M'' => ih (j + 1) n M'' (by omega) (by omega)
    rw [hb_nx] at ihj
    have go : isO V j = true → wp (f_X10_isRest_58 N k2 (f_X10_isRest_30 N (opn V) (i32 (f : Int)) (i32 (ch f : Int)) (i32 (out V ch f)) k2 n) (opn V) (i32 (f : Int)) (i32 (ch f : Int)) (i32 (out V ch f)) (if hb V ch f j then 1 else 0) (i32 (j : Int)) M') Q := by
      intro hjo
      unfold f_X10_isRest_58
      refine wp_gd (i32_in (by omega) (by omega) (by omega)) ?_
      rw [i32_k (by omega), i32_s]
      have hF2 : fr23 M (am_up M' 23 f (i32 (j : Int))) := fun a b q => (up_ne (by omega)).trans (hF a b q)
      have hC2 : ∀ k, k ≠ f → k < (V 0 5).toNat → am_up M' 23 f (i32 (j : Int)) 23 k = i32 (ch k : Int) := fun k h1 h2 => (up_ne (by omega)).trans (hC k h1 h2)
      by_cases hbj : hb V ch f j = true
      · rw [hbj, Bool.true_or] at ihj
        exact wp_ng (by rw [if_pos hbj]; decide) (ihj _ hF2 hC2)
      · have hbf := Bool.eq_false_iff.mpr hbj
        refine wp_gd (by rw [if_neg hbj]) ?_
        rw [hbf, hjo, Bool.false_or, Bool.true_and] at ihj
        have hA2 := hA.up (f := f) (c := j) (by omega) hjo
        have hoB2 := out_B hV hA2 hff
        rw [m_gets hN hV (hR.sM hF2.s) hA2 (fun k hk => by
          unfold ups
          by_cases hkf : k = f
          · rw [if_pos hkf, hkf, up_eq]
          · rw [if_neg hkf]; exact hC2 k hkf hk) (hW.fr hF2) hff]
        simp only [am_bi_i]
        by_cases hlt : out V ch f < out V (ups ch f j) f
        · rw [decide_eq_true hlt] at ihj
          exact wp_ng (fun q => absurd ((i32_le (by omega) (by omega) (by omega) (by omega)).mp q) (by omega)) (ihj _ hF2 hC2)
        · rw [decide_eq_false hlt] at ihj
          exact wp_gd ((i32_le (by omega) (by omega) (by omega) (by omega)).mpr (by omega)) (ihj _ hF2 hC2)
    by_cases hj0 : j = 0
    · exact wp_gd ((i32_le0 (by omega) (by omega)).mpr (by omega)) (go (decide_eq_true (Or.inl hj0)))
    · refine wp_ng (fun q => by have := (i32_le0 (by omega) (by omega)).mp q; omega) ?_
      rw [i32_1, i32_sub, show ((j : Nat) : Int) - 1 = ((j - 1 : Nat) : Int) from by omega, ← i32_1, show opn V >>> (i32 ((j - 1 : Nat) : Int) &&& 31) &&& 1 = bt (opn V) (j - 1) from rfl]
      by_cases hb0 : bt (opn V) (j - 1) = 0
      · refine wp_gd hb0 ?_
        have hjf : isO V j = false := decide_eq_false (fun z => by rcases z with z | z; exact hj0 z; exact z hb0)
        rw [hjf, Bool.false_and, Bool.or_false] at ihj
        rw [i32_s]
        exact ihj M' hF hC
      · exact wp_ng hb0 (go (decide_eq_true (Or.inr hb0)))
theorem m_rest_lp (hN : 102 ≤ N) (hV : VX V) {M : am_M} (hR : RT V M) {ch : Nat → Nat} (hA : AO V ch) (hW : WM V M) : ∀ (d j n : Nat) (M' : am_M), j + d = (V 0 5).toNat → d < n → fr23 M M' → CHm V ch M' → iR V ch j = true → wp (f_X10_isRest_2 N (opn V) n (i32 (j : Int)) M') (rI fun v M'' => v = (if iR V ch (V 0 5).toNat then 1 else 0) ∧ fr23 M M'' ∧ CHm V ch M'') := by
  have hns := hV.ns
  intro d
  induction d with
  | zero =>
    intro j n M' hj hn hF hC hi
    obtain ⟨n, rfl⟩ : ∃ k, n = k + 1 := ⟨n - 1, by omega⟩
    show wp (f_X10_isRest_2B N _ _ _ M') _
    unfold f_X10_isRest_2B
    rw [(hR.sM hF.s).2.1.1]
    rw [show j = (V 0 5).toNat from by omega] at hi ⊢
    refine wp_gd ((i32_le (by omega) (by omega) (by omega) (by omega)).mpr (by omega)) (wp_i ⟨?_, hF, hC⟩)
    rw [hi]; rfl
  | succ d ih =>
    intro j n M' hj hn hF hC hi
    obtain ⟨n, rfl⟩ : ∃ k, n = k + 1 := ⟨n - 1, by omega⟩
    show wp (f_X10_isRest_2B N _ _ _ M') _
    unfold f_X10_isRest_2B
    have hRM := hR.sM hF.s
    rw [hRM.2.1.1]
    refine wp_ng (fun q => absurd ((i32_le (by omega) (by omega) (by omega) (by omega)).mp q) (by omega)) (wp_gd (i32_in (by omega) (by omega) (by omega)) ?_)
    have hff : (j : Int) < V 0 5 := by omega
    rw [m_gets hN hV hRM hA hC (hW.fr hF) hff]
    simp only [am_bi_i]
    rw [i32_k (by omega), hC j (by omega)]
    have k1 := iR_nx (V := V) (ch := ch) (n := j)
    rw [hi, Bool.true_and] at k1
    refine m_hb_lp hN hV hRM hA (hW.fr hF) hff (fun hh M2 hF2 hC2 => ?_) (fun hh M2 hF2 hC2 => ?_) ((V 0 6).toNat + 1) 0 N M' (by omega) (by omega) (fun _ _ _ => rfl) (fun k _ hk => hC k hk)
    · rw [hh] at k1
      exact ih (j + 1) n M2 (by omega) (by omega) (hF.trans hF2) hC2 k1
    · rw [hh] at k1
      refine wp_i ⟨?_, hF.trans hF2, hC2⟩
      have := iR_no k1 d
      rw [show j + 1 + d = (V 0 5).toNat from by omega] at this
      rw [this]; rfl
theorem m_rest (hN : 102 ≤ N) (hV : VX V) {M : am_M} (hR : RT V M) {ch : Nat → Nat} (hA : AO V ch) (hC : CHm V ch M) (hW : WM V M) : wp (f_X10_isRest N (opn V) M) (rI fun v M'' => v = (if iR V ch (V 0 5).toNat then 1 else 0) ∧ fr23 M M'' ∧ CHm V ch M'') :=
  have hns := hV.ns
  m_rest_lp hN hV hR hA hW (V 0 5).toNat 0 N M (by omega) (by omega) (fun _ _ _ => rfl) hC rfl
/-- the digits of a row, and behind them -/
theorem m_dig_lp (hN : 102 ≤ N) (hV : VX V) {M : am_M} (hR : RT V M) {r : Nat} (hC : CHm V (dg V r) M) (hW : WM V M) {what : Int} {v3 v9 : Int32} (hv9 : v9 = if aO V (dg V r) (V 0 5).toNat then 1 else 0) {k147 : Int32 → Int32 → Int32 → am_M → am_O} {Q : Except Nat (Option Value) → am_M → Prop}
    (hk : ∀ M', fr23 M M' → wp (k147 (i32 (rsS V (r + 1)).1) (i32 (rsS V (r + 1)).2) (i32 ((r + 1 : Nat) : Int)) M') Q) :
    ∀ (d j n : Nat), j + d = (V 0 5).toNat → d < n → wp (f_X10_rests_251 N (i32 what) (opn V) v3 (i32 (rsS V r).1) (i32 (rsS V r).2) (i32 (r : Int)) v9 k147 n (i32 ((dig (dg V r) j : Nat) : Int)) (i32 (j : Int)) M) Q := by
  have hns := hV.ns
  have hB := rsS_B hV r
  intro d
  induction d with
  | zero =>
    intro j n hj hn
    obtain ⟨n, rfl⟩ : ∃ k, n = k + 1 := ⟨n - 1, by omega⟩
    show wp (f_X10_rests_251B N _ _ _ _ _ _ _ _ _ _ _ M) _
    unfold f_X10_rests_251B
    rw [hR.2.1.1, i32_s]
    rw [show j = (V 0 5).toNat from by omega]
    refine wp_gd ((i32_le (by omega) (by omega) (by omega) (by omega)).mpr (by omega)) ?_
    have k1 : rsS V (r + 1) = rsF V r (rsS V r) := rfl
    unfold rsF at k1
    by_cases ha : aO V (dg V r) (V 0 5).toNat = true
    · rw [ha, Bool.true_and] at k1
      refine wp_ng (by rw [hv9, if_pos ha]; decide) ?_
      refine wp_ci (m_rest hN hV hR (fun k hk => ⟨dg_le, (aO_iff _).mp ha k hk⟩) hC hW) ?_
      rintro v M1 ⟨rfl, hF1, hC1⟩
      by_cases hi : iR V (dg V r) (V 0 5).toNat = true
      · rw [if_pos hi] at k1
        refine wp_ng (by rw [if_pos hi]; decide) ?_
        have := hk M1 hF1
        rw [k1] at this
        rw [i32_1, i32_add]
        by_cases h0 : (rsS V r).1 = 0
        · refine wp_gd (by rw [hB.2.2.mp h0]; rfl) ?_
          rw [if_pos h0] at this
          exact this
        · refine wp_ng (fun q => h0 (hB.2.2.mpr ((i32_eq (by omega) (by omega) (by omega) (by omega)).mp q))) ?_
          rw [if_neg h0] at this
          exact this
      · rw [if_neg hi] at k1
        refine wp_gd (by rw [if_neg hi]) ?_
        have := hk M1 hF1
        rw [k1] at this
        exact this
    · rw [Bool.eq_false_iff.mpr ha, Bool.false_and, if_neg (by decide)] at k1
      refine wp_gd (by rw [hv9, if_neg ha]) ?_
      have := hk M (fun _ _ _ => rfl)
      rw [k1] at this
      exact this
  | succ d ih =>
    intro j n hj hn
    obtain ⟨n, rfl⟩ : ∃ k, n = k + 1 := ⟨n - 1, by omega⟩
    show wp (f_X10_rests_251B N _ _ _ _ _ _ _ _ _ _ _ M) _
    unfold f_X10_rests_251B
    have := ih (j + 1) n (by omega) (by omega)
    rw [dig_nx] at this
    rw [hR.2.1.1]
    refine wp_ng (fun q => absurd ((i32_le (by omega) (by omega) (by omega) (by omega)).mp q) (by omega)) (wp_gd (i32_in (by omega) (by omega) (by omega)) ?_)
    rw [i32_k (by omega), hC j (by omega), i32_10, i32_mul, i32_add, i32_s, show 10 * ((dig (dg V r) j : Nat) : Int) + ((dg V r j : Nat) : Int) = ((dig (dg V r) j * 10 + dg V r j : Nat) : Int) from by omega]
    exact this
/-- from the last owner to the first -/
theorem m_dg_lp (hN : 102 ≤ N) (hV : VX V) {M0 : am_M} (hR : RT V M0) {r : Nat} (hr : r ≤ 3125) (hW : WM V M0) {what : Int} {v3 : Int32} {k147 : Int32 → Int32 → Int32 → am_M → am_O} {Q : Except Nat (Option Value) → am_M → Prop}
    (hk : ∀ M', fr23 M0 M' → wp (k147 (i32 (rsS V (r + 1)).1) (i32 (rsS V (r + 1)).2) (i32 ((r + 1 : Nat) : Int)) M') Q) :
    ∀ (i n : Nat) (M : am_M) (b : Bool), i ≤ (V 0 5).toNat → i < n → fr23 M0 M → (∀ k, i ≤ k → k < (V 0 5).toNat → M 23 k = i32 (dg V r k : Int)) → (b = true ↔ ∀ k, i ≤ k → k < (V 0 5).toNat → isO V (dg V r k) = true) → wp (f_X10_rests_171 N (i32 what) (opn V) v3 (i32 (rsS V r).1) (i32 (rsS V r).2) (i32 (r : Int)) 0 k147 n (i32 ((r / ((V 0 6).toNat + 1) ^ ((V 0 5).toNat - i) : Nat) : Int)) (if b then 1 else 0) (i32 ((i : Int) - 1)) M) Q := by
  have hns := hV.ns
  intro i
  induction i with
  | zero =>
    intro n M b hi hn hF hC hb
    obtain ⟨n, rfl⟩ : ∃ k, n = k + 1 := ⟨n - 1, by omega⟩
    show wp (f_X10_rests_171B N _ _ _ _ _ _ _ _ _ _ _ _ M) _
    unfold f_X10_rests_171B
    refine wp_gd ((i32_lt0 (by omega) (by omega)).mpr (by omega)) ?_
    refine m_dig_lp hN hV (hR.sM hF.s) (fun k hk => hC k (by omega) hk) (hW.fr hF) (v9 := if b then 1 else 0) ?_ (fun M' hF' => hk M' (hF.trans hF')) (V 0 5).toNat 0 N (by omega) (by omega)
    have : b = aO V (dg V r) (V 0 5).toNat := by
      have h1 := aO_iff (V := V) (ch := dg V r) (V 0 5).toNat
      have h2 : b = true ↔ aO V (dg V r) (V 0 5).toNat = true := by
        rw [hb, h1]
        exact ⟨fun z k hk => z k (by omega) hk, fun z k _ hk => z k hk⟩
      exact Bool.eq_iff_iff.mpr h2
    rw [this]
  | succ i ih =>
    intro n M b hi hn hF hC hb
    obtain ⟨n, rfl⟩ : ∃ k, n = k + 1 := ⟨n - 1, by omega⟩
    show wp (f_X10_rests_171B N _ _ _ _ _ _ _ _ _ _ _ _ M) _
    unfold f_X10_rests_171B
    have hd := dg_le (V := V) (r := r) (f := i)
    rw [show ((i + 1 : Nat) : Int) - 1 = (i : Int) from by omega]
    refine wp_ng (fun q => absurd ((i32_lt0 (by omega) (by omega)).mp q) (by omega)) ?_
    have hq : r / ((V 0 6).toNat + 1) ^ ((V 0 5).toNat - (i + 1)) ≤ r := Nat.div_le_self _ _
    have he : r / ((V 0 6).toNat + 1) ^ ((V 0 5).toNat - i) = r / ((V 0 6).toNat + 1) ^ ((V 0 5).toNat - (i + 1)) / ((V 0 6).toNat + 1) := by
      rw [Nat.div_div_eq_div_mul, ← Nat.pow_succ]
      congr 2
      omega
    have hg : dg V r i = r / ((V 0 6).toNat + 1) ^ ((V 0 5).toNat - (i + 1)) % ((V 0 6).toNat + 1) := by
      unfold dg
      rw [show (V 0 5).toNat - 1 - i = (V 0 5).toNat - (i + 1) from by omega]
    have ihj := fun M' b' => ih n M' b' (by omega) (by omega)
    rw [he] at ihj
    generalize r / ((V 0 6).toNat + 1) ^ ((V 0 5).toNat - (i + 1)) = q at *
    rw [(hR.sM hF.s).2.1.2.1, i32_1, i32_add, i32_rem (by omega) (by omega) (by omega) (by omega), i32_div (by omega) (by omega) (by omega) (by omega)]
    rw [show (q : Int) % (V 0 6 + 1) = ((dg V r i : Nat) : Int) from by
      rw [hg, show V 0 6 + 1 = (((V 0 6).toNat + 1 : Nat) : Int) from by omega]; rfl]
    rw [show (q : Int) / (V 0 6 + 1) = ((q / ((V 0 6).toNat + 1) : Nat) : Int) from by
      rw [show V 0 6 + 1 = (((V 0 6).toNat + 1 : Nat) : Int) from by omega]; rfl]
    refine wp_gd ⟨fun z => by have := (i32_eq0 (by omega) (by omega)).mp z; omega, i32_in (by omega) (by omega) (by omega)⟩ ?_
    rw [i32_k (by omega), up_eq, show -i32 1 = i32 (-1) from rfl, i32_add, show (i : Int) + -1 = (i : Int) - 1 from by omega]
    have hF2 : fr23 M0 (am_up M 23 i (i32 (dg V r i : Int))) := fun a b q => (up_ne (by omega)).trans (hF a b q)
    have hC2 : ∀ k, i ≤ k → k < (V 0 5).toNat → am_up M 23 i (i32 (dg V r i : Int)) 23 k = i32 (dg V r k : Int) := by
      intro k h1 h2
      by_cases hki : k = i
      · rw [hki, up_eq]
      · rw [up_ne (by omega)]; exact hC k (by omega) h2
    have h1b : b = true → isO V (dg V r i) = true → wp (f_X10_rests_171 N (i32 what) (opn V) v3 (i32 (rsS V r).1) (i32 (rsS V r).2) (i32 (r : Int)) 0 k147 n (i32 ((q / ((V 0 6).toNat + 1) : Nat) : Int)) 1 (i32 ((i : Int) - 1)) (am_up M 23 i (i32 (dg V r i : Int)))) Q := by
      intro hbt hio
      refine ihj _ true hF2 hC2 ⟨fun _ k h1 h2 => ?_, fun _ => rfl⟩
      by_cases hki : k = i
      · rw [hki]; exact hio
      · exact hb.mp hbt k (by omega) h2
    have h0b : (b = false ∨ isO V (dg V r i) = false) → wp (f_X10_rests_171 N (i32 what) (opn V) v3 (i32 (rsS V r).1) (i32 (rsS V r).2) (i32 (r : Int)) 0 k147 n (i32 ((q / ((V 0 6).toNat + 1) : Nat) : Int)) 0 (i32 ((i : Int) - 1)) (am_up M 23 i (i32 (dg V r i : Int)))) Q := by
      intro hh
      refine ihj _ false hF2 hC2 ⟨fun z => (nomatch z), fun z => ?_⟩
      exfalso
      rcases hh with hh | hh
      · have : b = true := hb.mpr (fun k h1 h2 => z k (by omega) h2)
        rw [hh] at this; cases this
      · rw [z i (by omega) (by omega)] at hh; cases hh
    by_cases hbt : b = true
    · refine wp_ng (by rw [if_pos hbt]; decide) (wp_gd (i32_in (by omega) (by omega) (by omega)) ?_)
      by_cases hd0 : dg V r i = 0
      · exact wp_gd ((i32_eq0 (by omega) (by omega)).mpr (by omega)) (h1b hbt (decide_eq_true (Or.inl hd0)))
      · refine wp_ng (fun z => by have := (i32_eq0 (by omega) (by omega)).mp z; omega) (wp_gd (i32_in (by omega) (by omega) (by omega)) ?_)
        rw [i32_sub, show ((dg V r i : Nat) : Int) - 1 = ((dg V r i - 1 : Nat) : Int) from by omega, ← i32_1, show opn V >>> (i32 ((dg V r i - 1 : Nat) : Int) &&& 31) &&& 1 = bt (opn V) (dg V r i - 1) from rfl]
        by_cases hb1 : bt (opn V) (dg V r i - 1) = 1
        · exact wp_gd hb1 (h1b hbt (decide_eq_true (Or.inr (by rw [hb1]; decide))))
        · refine wp_ng hb1 (h0b (Or.inr (decide_eq_false (fun z => ?_))))
          rcases z with z | z
          · exact hd0 z
          · exact z ((bt_01 _ _).resolve_right hb1)
    · have hbf := Bool.eq_false_iff.mpr hbt
      exact wp_gd (by rw [hbf]; rfl) (h0b (Or.inl hbf))
theorem m_rows_lp (hN : 4200 ≤ N) (hV : VX V) (hR : RT V M0) (hW : WM V M0) {what : Int} (hw : 0 ≤ what ∧ what ≤ 1) : ∀ (d j n : Nat) (M : am_M), j + d = rows V → d < n → fr23 M0 M → wp (f_X10_rests_147 N (i32 what) (opn V) (i32 (rows V : Int)) n (i32 (rsS V j).1) (i32 (rsS V j).2) (i32 (j : Int)) M) (rI fun v M' => v = (if what = 0 then i32 (rsS V (rows V)).1 else i32 (rsS V (rows V)).2) ∧ sM M0 M') := by
  have hns := hV.ns
  have hrw := rows_B hV
  intro d
  induction d with
  | zero =>
    intro j n M hj hn hF
    obtain ⟨n, rfl⟩ : ∃ k, n = k + 1 := ⟨n - 1, by omega⟩
    show wp (f_X10_rests_147B N _ _ _ _ _ _ _ M) _
    unfold f_X10_rests_147B
    rw [show j = rows V from by omega]
    refine wp_gd ((i32_le (by omega) (by omega) (by omega) (by omega)).mpr (by omega)) ?_
    by_cases h0 : what = 0
    · refine wp_gd ((i32_eq0 (by omega) (by omega)).mpr h0) (wp_i ⟨?_, hF.s⟩)
      rw [if_pos h0]
    · refine wp_ng (fun z => h0 ((i32_eq0 (by omega) (by omega)).mp z)) (wp_i ⟨?_, hF.s⟩)
      rw [if_neg h0]
  | succ d ih =>
    intro j n M hj hn hF
    obtain ⟨n, rfl⟩ : ∃ k, n = k + 1 := ⟨n - 1, by omega⟩
    show wp (f_X10_rests_147B N _ _ _ _ _ _ _ M) _
    unfold f_X10_rests_147B
    refine wp_ng (fun q => absurd ((i32_le (by omega) (by omega) (by omega) (by omega)).mp q) (by omega)) ?_
    rw [(hR.sM hF.s).2.1.1, i32_1, i32_sub]
    have := m_dg_lp (N := N) (by omega) hV (hR.sM hF.s) (r := j) (by omega) (hW.fr hF) (what := what) (v3 := i32 (rows V : Int)) (k147 := f_X10_rests_147 N (i32 what) (opn V) (i32 (rows V : Int)) n) (fun M' hF' => ih (j + 1) n M' (by omega) (by omega) (hF.trans hF')) (V 0 5).toNat N M true (by omega) (by omega) (fun _ _ _ => rfl) (fun k h1 h2 => by omega) ⟨fun _ k h1 h2 => by omega, fun _ => rfl⟩
    rw [Nat.sub_self, Nat.pow_zero, Nat.div_one, show (((V 0 5).toNat : Nat) : Int) - 1 = V 0 5 - 1 from by omega] at this
    exact this
theorem m_mul_lp (hN : 4200 ≤ N) (hV : VX V) (hR : RT V M0) (hW : WM V M0) {what : Int} (hw : 0 ≤ what ∧ what ≤ 1) : ∀ (d j n : Nat), j + d = (V 0 5).toNat → d < n → wp (f_X10_rests_114 N (i32 what) (opn V) n (i32 ((((V 0 6).toNat + 1) ^ j : Nat) : Int)) (i32 (j : Int)) M0) (rI fun v M' => v = (if what = 0 then i32 (rsS V (rows V)).1 else i32 (rsS V (rows V)).2) ∧ sM M0 M') := by
  have hns := hV.ns
  have hrw := rows_B hV
  intro d
  induction d with
  | zero =>
    intro j n hj hn
    obtain ⟨n, rfl⟩ : ∃ k, n = k + 1 := ⟨n - 1, by omega⟩
    show wp (f_X10_rests_114B N _ _ _ _ _ M0) _
    unfold f_X10_rests_114B
    rw [hR.2.1.1]
    rw [show j = (V 0 5).toNat from by omega]
    refine wp_gd ((i32_le (by omega) (by omega) (by omega) (by omega)).mpr (by omega)) ?_
    exact m_rows_lp hN hV hR hW hw (rows V) 0 N M0 (by omega) (by omega) (fun _ _ _ => rfl)
  | succ d ih =>
    intro j n hj hn
    obtain ⟨n, rfl⟩ : ∃ k, n = k + 1 := ⟨n - 1, by omega⟩
    show wp (f_X10_rests_114B N _ _ _ _ _ M0) _
    unfold f_X10_rests_114B
    have := ih (j + 1) n (by omega) (by omega)
    rw [hR.2.1.1, hR.2.1.2.1]
    refine wp_ng (fun q => absurd ((i32_le (by omega) (by omega) (by omega) (by omega)).mp q) (by omega)) ?_
    rw [i32_s, i32_1, i32_add, i32_mul]
    rw [Nat.pow_succ, Int.natCast_mul, show (((V 0 6).toNat + 1 : Nat) : Int) = V 0 6 + 1 from by omega] at this
    exact this
def tW (M M' : am_M) : Prop := ∀ a b, ¬ tS a b → a ≠ 22 → M' a b = M a b
theorem tW.trans {M M' M'' : am_M} (h1 : tW M M') (h2 : tW M' M'') : tW M M'' := fun a b h w => (h2 a b h w).trans (h1 a b h w)
theorem tW.s {M M' : am_M} (h : tW M M') : sM M M' := fun a b q => h a b (fun z => q (by unfold tS at z; unfold mS; omega)) (fun z => q (by unfold mS; omega))
def FM (V : VL) (j i : Nat) (M : am_M) : Prop := ∀ s f, f < (V 0 5).toNat → s < 16 → (s < j ∨ (s = j ∧ f < i)) → suO V s → M 22 (16 * f + s) = i32 (wo V s f)
theorem m_fill_in (hN : 102 ≤ N) (hV : VX V) (hR : RT V M0) (hF0 : RF V M0) {s : Nat} (hs : s < 2 ^ (V 0 6).toNat) {M1 : am_M} (h1 : fr21 M0 M1) (h1c : ∀ c, c < 100 → M1 21 c = i32 (if inS (cl5 V) (i32 (s : Int)) (V 0 6).toNat c = true then 5 else 0)) {v1 v2 : Int32} {k2 : Int32 → am_M → am_O} {Q : Except Nat (Option Value) → am_M → Prop} (hk : ∀ M', tW M0 M' → FM V (s + 1) 0 M' → wp (k2 (i32 ((s + 1 : Nat) : Int)) M') Q) :
    ∀ (d i n : Nat) (M : am_M), i + d = (V 0 5).toNat → d < n → tW M1 M → FM V s i M → wp (f_X10_rests_59 N v1 v2 (i32 (s : Int)) k2 n (i32 (i : Int)) M) Q := by
  have hns := hV.ns
  have hp := pw_4 (n := (V 0 6).toNat) (by omega)
  have hR1 := hR.fr h1
  have hE1 : EM (bV5 V (i32 (s : Int))) M1 := EM_b5 hV hR hF0 h1 h1c
  intro d
  induction d with
  | zero =>
    intro i n M hi hn hF hC
    obtain ⟨n, rfl⟩ : ∃ k, n = k + 1 := ⟨n - 1, by omega⟩
    show wp (f_X10_rests_59B N _ _ _ _ _ _ M) _
    unfold f_X10_rests_59B
    have hRM := hR1.sM hF.s
    rw [hRM.2.1.1]
    refine wp_gd ((i32_le (by omega) (by omega) (by omega) (by omega)).mpr (by omega)) ?_
    refine wp_cv (m_stands0 hN hV hRM (i32 (s : Int)) (fun c hc => by rw [hF 21 c (by unfold tS; omega) (by omega)]; exact h1c c hc)) ?_
    rintro M3 ⟨h3, h4⟩
    rw [i32_s]
    refine hk M3 (fun a b q w => ?_) (fun s' f' hf hs6 hsf hsu => ?_)
    · by_cases hab : a = 21 ∧ b < 100
      · rw [hab.1, h4 b hab.2, (hF0 b hab.2).2]; rfl
      · rw [h3 a b (by omega), hF a b q w, h1 a b (by omega)]
    · rw [h3 22 _ (by omega)]
      exact hC s' f' hf hs6 (by omega) hsu
  | succ d ih =>
    intro i n M hi hn hF hC
    obtain ⟨n, rfl⟩ : ∃ k, n = k + 1 := ⟨n - 1, by omega⟩
    show wp (f_X10_rests_59B N _ _ _ _ _ _ M) _
    unfold f_X10_rests_59B
    have hRM := hR1.sM hF.s
    have hEM : EM (bV5 V (i32 (s : Int))) M := hE1.sM hF.s
    rw [hRM.2.1.1, hRM.law]
    refine wp_ng (fun q => absurd ((i32_le (by omega) (by omega) (by omega) (by omega)).mp q) (by omega)) ?_
    have hff : (i : Int) < V 0 5 := by omega
    refine wp_ci (m_worthBy (V := bV5 V (i32 (s : Int))) (fog := 0) (law := V 0 3) hN hV.b5 hRM.vH hEM (by omega) hV.lw hff) ?_
    rintro v M2 ⟨rfl, h2⟩
    rw [show (16 : Int32) = i32 16 from rfl, i32_mul, i32_add, i32_s]
    refine wp_gd (i32_in (by omega) (by omega) (by omega)) ?_
    rw [i32_cl (by omega) (by omega), show (16 * (i : Int) + (s : Int)).toNat = 16 * i + s from by omega]
    refine ih (i + 1) n _ (by omega) (by omega) (fun a b q w => ?_) (fun s' f' hf hs6 hsf hsu => ?_)
    · rw [up_ne (by omega), h2 a b q, hF a b q w]
    · by_cases hx : s' = s ∧ f' = i
      · rw [hx.1, hx.2, up_eq]
        rfl
      · rw [up_ne (by omega), h2 22 _ (by unfold tS; omega)]
        exact hC s' f' hf hs6 (by omega) hsu
theorem m_rests_lp (hN : 4200 ≤ N) (hV : VX V) (hR : RT V M0) (hF0 : RF V M0) {what : Int} (hw : 0 ≤ what ∧ what ≤ 1) : ∀ (d j n : Nat) (M : am_M), j + d = 2 ^ (V 0 6).toNat → d < n → tW M0 M → FM V j 0 M → wp (f_X10_rests_29 N (i32 what) (opn V) n (i32 (j : Int)) M) (rI fun v M' => v = (if what = 0 then i32 (rsS V (rows V)).1 else i32 (rsS V (rows V)).2) ∧ sM M0 M') := by
  have hns := hV.ns
  have hp := pw_4 (n := (V 0 6).toNat) (by omega)
  intro d
  induction d with
  | zero =>
    intro j n M hj hn hF hC
    obtain ⟨n, rfl⟩ : ∃ k, n = k + 1 := ⟨n - 1, by omega⟩
    show wp (f_X10_rests_29B N _ _ _ _ M) _
    unfold f_X10_rests_29B
    have hRM := hR.sM hF.s
    rw [hRM.2.1.2.1, sh_pw (by omega)]
    refine wp_gd ((i32_le (by omega) (by omega) (by omega) (by omega)).mpr (by omega)) ?_
    have := m_mul_lp hN hV hRM (fun s f hf hs hsu => hC s f hf (by omega) (by omega) hsu) hw (V 0 5).toNat 0 N (by omega) (by omega)
    exact wp_mi this (fun v M' q => ⟨q.1, hF.s.trans q.2⟩)
  | succ d ih =>
    intro j n M hj hn hF hC
    obtain ⟨n, rfl⟩ : ∃ k, n = k + 1 := ⟨n - 1, by omega⟩
    show wp (f_X10_rests_29B N _ _ _ _ M) _
    unfold f_X10_rests_29B
    have hRM := hR.sM hF.s
    have hFM := hF0.sM hF.s
    rw [hRM.2.1.2.1, sh_pw (by omega)]
    refine wp_ng (fun q => absurd ((i32_le (by omega) (by omega) (by omega) (by omega)).mp q) (by omega)) ?_
    by_cases ho : i32 (j : Int) &&& (opn V ^^^ (-1)) = 0
    · refine wp_gd ho ?_
      refine wp_cv (m_stands1 (by omega) hV hRM (i32 (j : Int)) (fun c hc => (hFM c hc).2)) ?_
      rintro M1 ⟨h1, h1c⟩
      refine m_fill_in (by omega) hV hRM hFM (s := j) (by omega) h1 h1c (fun M' hF' hC' => ih (j + 1) n M' (by omega) (by omega) (hF.trans hF') hC') (V 0 5).toNat 0 N M1 (by omega) (by omega) (fun _ _ _ _ => rfl) (fun s f hf hs6 hsf hsu => ?_)
      rw [h1 22 _ (by omega)]
      exact hC s f hf hs6 hsf hsu
    · refine wp_ng ho ?_
      rw [i32_s]
      refine ih (j + 1) n M (by omega) (by omega) hF (fun s f hf hs6 hsf hsu => ?_)
      by_cases hsj : s = j
      · rw [hsj] at hsu; exact absurd hsu ho
      · exact hC s f hf hs6 (by omega) hsu
