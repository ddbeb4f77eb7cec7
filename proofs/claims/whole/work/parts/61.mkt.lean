/-! fair, trade, unlike: both sides -/
theorem RC.law {V : VL} {M : am_M} (h : RC V M) : M 2 3 = i32 (V 0 3) := h.2.1.2
theorem RT.law {V : VL} {M : am_M} (h : RT V M) : M 0 41 = i32 (V 0 3) := h.1.2.2.2.1
theorem VX.ns {V : VL} (h : VX V) : (0 ≤ V 0 5 ∧ V 0 5 ≤ 5) ∧ (0 ≤ V 0 6 ∧ V 0 6 ≤ 4) ∧ (0 ≤ V 0 7 ∧ V 0 7 ≤ 4) ∧ (0 ≤ V 0 8 ∧ V 0 8 ≤ 8) ∧ (0 ≤ V 0 9 ∧ V 0 9 ≤ 8) ∧ (0 ≤ V 0 10 ∧ V 0 10 ≤ 9) := h.2.2.1
theorem VX.lw {V : VL} (h : VX V) : 0 ≤ V 0 3 ∧ V 0 3 ≤ 2 := h.2.1.2
theorem VX.sea {V : VL} (h : VX V) {i : Nat} (hi : (i : Int) < V 0 7) : (0 ≤ V 3 (2 * i) ∧ V 3 (2 * i) ≤ 9) ∧ (1 ≤ V 3 (2 * i + 1) ∧ V 3 (2 * i + 1) ≤ 9) := h.2.2.2.2.2.1 i hi
/-- a field's worth in a season -/
def wS (V : VL) (f j : Nat) : Int := wt V (V 3 (2 * j)) (V 0 3) f
def faS (V : VL) (f k : Nat) : Int × Int := it (fun j a => (a.1 + V 3 (2 * j + 1) * wS V f j, a.2 + V 3 (2 * j + 1))) (0, 0) k
theorem faS_B {V : VL} (hV : VX V) {f : Nat} (hff : (f : Int) < V 0 5) : ∀ k : Nat, (k : Int) ≤ V 0 7 → (0 ≤ (faS V f k).1 ∧ (faS V f k).1 ≤ 21384 * k) ∧ (k ≤ (faS V f k).2 ∧ (faS V f k).2 ≤ 9 * k) := by
  intro k
  induction k with
  | zero => intro _; show (0 ≤ (0 : Int) ∧ (0 : Int) ≤ _) ∧ _; simp; exact ⟨Int.le_refl _, Int.le_refl _⟩
  | succ k ih =>
    intro hk
    have q := ih (by omega)
    have hs := hV.sea (i := k) (by omega)
    have hw := wt_B (law := V 0 3) hV hs.1 hff
    show (0 ≤ (faS V f k).1 + V 3 (2 * k + 1) * wS V f k ∧ (faS V f k).1 + V 3 (2 * k + 1) * wS V f k ≤ _) ∧ (_ ≤ (faS V f k).2 + V 3 (2 * k + 1) ∧ (faS V f k).2 + V 3 (2 * k + 1) ≤ _)
    have h1 : 0 ≤ V 3 (2 * k + 1) * wS V f k := Int.mul_nonneg (by omega) hw.1
    have h2 : V 3 (2 * k + 1) * wS V f k ≤ 9 * 2376 := Int.mul_le_mul hs.2.2 hw.2 hw.1 (by omega)
    generalize V 3 (2 * k + 1) * wS V f k = p at *
    omega
def fairV (V : VL) (f : Nat) (what : Int) : Int := if V 0 7 = 0 then (fr (wt V 0 (V 0 3) f).toNat 1 what : Nat) else (fr (faS V f (V 0 7).toNat).1.toNat (faS V f (V 0 7).toNat).2.toNat what : Nat)
section MK
variable {N : Nat} {V : VL} {M0 : am_M} {f : Nat} {what : Int}
theorem i32_tn {a : Int} (h : 0 ≤ a) : i32 a = i32 ((a.toNat : Nat) : Int) := by congr 1; omega
theorem c_fair_lp (hN : 102 ≤ N) (hV : VX V) (hR : RC V M0) (hff : (f : Int) < V 0 5) (hw : 0 ≤ what ∧ what ≤ 1) (h0 : V 0 7 ≠ 0) : ∀ (d j n : Nat) (M : am_M), j + d = (V 0 7).toNat → d < n → sC M0 M → wp (f_X3_fairPart_40 N (i32 (f : Int)) (i32 what) n (i32 (faS V f j).1) (i32 (faS V f j).2) (i32 (j : Int)) M) (rI fun v M' => v = i32 (fairV V f what) ∧ sC M0 M') := by
  have hns := hV.ns
  intro d
  induction d with
  | zero =>
    intro j n M hj hn hs
    obtain ⟨n, rfl⟩ : ∃ k, n = k + 1 := ⟨n - 1, by omega⟩
    show wp (f_X3_fairPart_40B N _ _ _ _ _ _ M) _
    unfold f_X3_fairPart_40B
    rw [(hR.sC hs).2.2.2.2.1.2.2.1]
    refine wp_gd ((i32_le (by omega) (by omega) (by omega) (by omega)).mpr (by omega)) ?_
    have hb := faS_B hV hff j (by omega)
    rw [i32_tn hb.1.1, i32_tn (by omega : 0 ≤ (faS V f j).2), c_frac hN (by omega) (by omega) hw]
    simp only [am_bi_i]
    refine wp_i ⟨?_, hs⟩
    unfold fairV
    rw [if_neg h0, show (V 0 7).toNat = j from by omega]
  | succ d ih =>
    intro j n M hj hn hs
    obtain ⟨n, rfl⟩ : ∃ k, n = k + 1 := ⟨n - 1, by omega⟩
    show wp (f_X3_fairPart_40B N _ _ _ _ _ _ M) _
    unfold f_X3_fairPart_40B
    have hRs := hR.sC hs
    have hjs := hV.sea (i := j) (by omega)
    rw [hRs.2.2.2.2.1.2.2.1]
    refine wp_ng (fun q => absurd ((i32_le (by omega) (by omega) (by omega) (by omega)).mp q) (by omega)) ?_
    rw [show (1 : Int32) = i32 ((1 : Nat) : Int) from rfl, show (0 : Int32) = i32 ((0 : Nat) : Int) from rfl, c_at7 hRs.2.2.2.2.1 (by omega) (by omega) (by omega)]
    simp only [am_bi_i]
    rw [c_at7 hRs.2.2.2.2.1 (by omega) (by omega) (by omega)]
    simp only [am_bi_i]
    rw [hRs.law]
    refine wp_ci (c_worthBy hN hV hRs (fog := V 3 (2 * j + 0)) hjs.1 hV.lw hff) (fun v M1 h1 => ?_)
    rw [h1.1, i32_mul, i32_add, i32_add, i32_add]
    exact ih (j + 1) n M1 (by omega) (by omega) (hs.trans h1.2.c)
theorem c_fair (hN : 102 ≤ N) (hV : VX V) (hR : RC V M0) (hff : (f : Int) < V 0 5) (hw : 0 ≤ what ∧ what ≤ 1) : wp (f_X3_fairPart N (i32 (f : Int)) (i32 what) M0) (rI fun v M' => v = i32 (fairV V f what) ∧ sC M0 M') := by
  have hns := hV.ns
  unfold f_X3_fairPart
  rw [hR.2.2.2.2.1.2.2.1]
  by_cases h0 : V 0 7 = 0
  · refine wp_gd ((i32_eq0 (by omega) (by omega)).mpr h0) ?_
    rw [hR.law]
    refine wp_ci (c_worthBy hN hV hR (fog := 0) (by omega) hV.lw hff) (fun v M1 h1 => ?_)
    have hb := wt_B (law := V 0 3) (fog := 0) hV (by omega) hff
    rw [h1.1, i32_tn hb.1, show (1 : Int32) = i32 ((1 : Nat) : Int) from rfl, c_frac hN (by omega) (by omega) hw]
    simp only [am_bi_i]
    refine wp_i ⟨?_, h1.2.c⟩
    unfold fairV
    rw [if_pos h0]
  · refine wp_ng (fun q => h0 ((i32_eq0 (by omega) (by omega)).mp q)) ?_
    exact c_fair_lp hN hV hR hff hw h0 (V 0 7).toNat 0 N M0 (by omega) (by omega) sC.rfl
theorem m_fair_lp (hN : 102 ≤ N) (hV : VX V) (hR : RT V M0) (hE : EM V M0) (hff : (f : Int) < V 0 5) (hw : 0 ≤ what ∧ what ≤ 1) : ∀ (d j n : Nat) (M : am_M), j + d = (V 0 7).toNat → d < n → sM M0 M → wp (f_X10_fair_39 N (i32 (f : Int)) (i32 what) n (i32 (faS V f j).1) (i32 (faS V f j).2) (i32 (j : Int)) M) (rI fun v M' => v = i32 (fairV V f what) ∧ sM M0 M') := by
  have hns := hV.ns
  intro d
  induction d with
  | zero =>
    intro j n M hj hn hs
    obtain ⟨n, rfl⟩ : ∃ k, n = k + 1 := ⟨n - 1, by omega⟩
    show wp (f_X10_fair_39B N _ _ _ _ _ _ M) _
    unfold f_X10_fair_39B
    have hRs := hR.sM hs
    rw [hRs.2.1.2.2.1]
    refine wp_gd ((i32_le (by omega) (by omega) (by omega) (by omega)).mpr (by omega)) ?_
    by_cases h0 : V 0 7 = 0
    · refine wp_gd ((i32_eq0 (by omega) (by omega)).mpr h0) ?_
      rw [hRs.law]
      refine wp_ci (m_worthBy hN hV hRs (hE.sM hs) (fog := 0) (by omega) hV.lw hff) (fun v M1 h1 => ?_)
      have hb := wt_B (law := V 0 3) (fog := 0) hV (by omega) hff
      rw [h1.1, i32_tn hb.1, show (1 : Int32) = i32 ((1 : Nat) : Int) from rfl, m_frac hN (by omega) (by omega) hw]
      simp only [am_bi_i]
      refine wp_i ⟨?_, hs.trans h1.2.s⟩
      unfold fairV
      rw [if_pos h0]
    · refine wp_ng (fun q => h0 ((i32_eq0 (by omega) (by omega)).mp q)) ?_
      have hb := faS_B hV hff j (by omega)
      rw [i32_tn hb.1.1, i32_tn (by omega : 0 ≤ (faS V f j).2), m_frac hN (by omega) (by omega) hw]
      simp only [am_bi_i]
      refine wp_i ⟨?_, hs⟩
      unfold fairV
      rw [if_neg h0, show (V 0 7).toNat = j from by omega]
  | succ d ih =>
    intro j n M hj hn hs
    obtain ⟨n, rfl⟩ : ∃ k, n = k + 1 := ⟨n - 1, by omega⟩
    show wp (f_X10_fair_39B N _ _ _ _ _ _ M) _
    unfold f_X10_fair_39B
    have hRs := hR.sM hs
    have hjs := hV.sea (i := j) (by omega)
    rw [hRs.2.1.2.2.1]
    refine wp_ng (fun q => absurd ((i32_le (by omega) (by omega) (by omega) (by omega)).mp q) (by omega)) ?_
    rw [i32_2, i32_mul, show (1 : Int32) = i32 1 from rfl, i32_add, i32_add]
    refine wp_gd ⟨i32_in (by omega) (by omega) (by omega), i32_in (by omega) (by omega) (by omega)⟩ ?_
    rw [i32_cl (by omega) (by omega), i32_cl (by omega) (by omega), show (2 * (j : Int)).toNat = 2 * j from by omega, show (2 * (j : Int) + 1).toNat = 2 * j + 1 from by omega, hRs.2.2.2.2.2.1 _ (by omega), hRs.2.2.2.2.2.1 _ (by omega), hRs.law]
    refine wp_ci (m_worthBy hN hV hRs (hE.sM hs) (fog := V 3 (2 * j)) hjs.1 hV.lw hff) (fun v M1 h1 => wp_gd (i32_in (by omega) (by omega) (by omega)) ?_)
    rw [h1.1, (hRs.sM h1.2.s).2.2.2.2.2.1 _ (by omega), i32_mul, i32_add, i32_add]
    exact ih (j + 1) n M1 (by omega) (by omega) (hs.trans h1.2.s)
/-! trade -/
def trF (V : VL) (f b s : Nat) (a : Int × Int) : Int × Int := if a.1 < wS V f s - wS V f b then (wS V f s - wS V f b, 10 * b + s) else a
def trI (V : VL) (f b : Nat) (a : Int × Int) (k : Nat) : Int × Int := it (fun s a => trF V f b s a) a k
def trO (V : VL) (f k : Nat) : Int × Int := it (fun b a => trI V f b a (V 0 7).toNat) (0, -1) k
def trV (V : VL) (f : Nat) (what : Int) : Int := if what = 0 then (trO V f (V 0 7).toNat).1 else (trO V f (V 0 7).toNat).2
def trB (a : Int × Int) : Prop := (0 ≤ a.1 ∧ a.1 ≤ 2376) ∧ (-1 ≤ a.2 ∧ a.2 ≤ 100)
theorem wS_B (hV : VX V) (hff : (f : Int) < V 0 5) {j : Nat} (hj : (j : Int) < V 0 7) : 0 ≤ wS V f j ∧ wS V f j ≤ 2376 := wt_B hV (hV.sea hj).1 hff
theorem trF_B (hV : VX V) (hff : (f : Int) < V 0 5) {b s : Nat} (hb : (b : Int) < V 0 7) (hs : (s : Int) < V 0 7) {a : Int × Int} (h : trB a) : trB (trF V f b s a) := by
  have h1 := wS_B hV hff hb
  have h2 := wS_B hV hff hs
  have hns := hV.ns
  unfold trF
  split
  · unfold trB at *; simp only; omega
  · exact h
theorem trI_B (hV : VX V) (hff : (f : Int) < V 0 5) {b : Nat} (hb : (b : Int) < V 0 7) {a : Int × Int} (h : trB a) : ∀ k : Nat, (k : Int) ≤ V 0 7 → trB (trI V f b a k) := by
  intro k
  induction k with
  | zero => intro _; exact h
  | succ k ih => intro hk; exact trF_B hV hff hb (by omega) (ih (by omega))
theorem trO_B (hV : VX V) (hff : (f : Int) < V 0 5) : ∀ k : Nat, (k : Int) ≤ V 0 7 → trB (trO V f k) := by
  have hns := hV.ns
  intro k
  induction k with
  | zero => intro _; unfold trB trO it; simp
  | succ k ih => intro hk; exact trI_B hV hff (by omega) (ih (by omega)) _ (by omega)
theorem c_tr_in (hV : VX V) {M : am_M} (hR : RC V M) (hff : (f : Int) < V 0 5) (hM : ∀ j : Nat, (j : Int) < V 0 7 → M 58 j = i32 (wS V f j)) {b : Nat} (hb : (b : Int) < V 0 7) {a : Int × Int} (ha : trB a) {k60 : Int32 → Int32 → Int32 → am_M → am_O} {v2 : Int32} :
    ∀ (d j n : Nat), j + d = (V 0 7).toNat → d < n → f_X3_bestTrade_78 N v2 (i32 (b : Int)) k60 n (i32 (trI V f b a j).1) (i32 (trI V f b a j).2) (i32 (j : Int)) M = k60 (i32 (trI V f b a (V 0 7).toNat).1) (i32 (trI V f b a (V 0 7).toNat).2) (i32 ((b + 1 : Nat) : Int)) M := by
  have hns := hV.ns
  intro d
  induction d with
  | zero =>
    intro j n hj hn
    obtain ⟨n, rfl⟩ : ∃ k, n = k + 1 := ⟨n - 1, by omega⟩
    show f_X3_bestTrade_78B N _ _ _ _ _ _ _ M = _
    unfold f_X3_bestTrade_78B
    rw [hR.2.2.2.2.1.2.2.1, if_pos ((i32_le (by omega) (by omega) (by omega) (by omega)).mpr (by omega)), i32_s, show (V 0 7).toNat = j from by omega]
  | succ d ih =>
    intro j n hj hn
    obtain ⟨n, rfl⟩ : ∃ k, n = k + 1 := ⟨n - 1, by omega⟩
    show f_X3_bestTrade_78B N _ _ _ _ _ _ _ M = _
    unfold f_X3_bestTrade_78B
    have h1 := wS_B hV hff (j := j) (by omega)
    have h2 := wS_B hV hff hb
    have h3 := trI_B hV hff hb ha j (by omega)
    unfold trB at h3
    rw [hR.2.2.2.2.1.2.2.1, if_neg (fun q => absurd ((i32_le (by omega) (by omega) (by omega) (by omega)).mp q) (by omega)), if_pos ⟨i32_in (by omega) (by omega) (by omega), i32_in (by omega) (by omega) (by omega)⟩, i32_k (by omega), i32_k (by omega), hM j (by omega), hM b hb, i32_sub, i32_s, i32_10, i32_mul, i32_add]
    have q := ih (j + 1) n (by omega) (by omega)
    have k1 : trI V f b a (j + 1) = trF V f b j (trI V f b a j) := rfl
    by_cases h : (trI V f b a j).1 < wS V f j - wS V f b
    · rw [if_neg (fun q => absurd ((i32_le (by omega) (by omega) (by omega) (by omega)).mp q) (by omega)), ← q, k1]
      unfold trF
      rw [if_pos h]
    · rw [if_pos ((i32_le (by omega) (by omega) (by omega) (by omega)).mpr (by omega)), ← q, k1]
      unfold trF
      rw [if_neg h]
theorem c_tr_out (hN : 102 ≤ N) (hV : VX V) {M : am_M} (hR : RC V M) (hff : (f : Int) < V 0 5) (hw : 0 ≤ what ∧ what ≤ 1) (hM : ∀ j : Nat, (j : Int) < V 0 7 → M 58 j = i32 (wS V f j)) :
    ∀ (d j n : Nat), j + d = (V 0 7).toNat → d < n → f_X3_bestTrade_60 N (i32 what) n (i32 (trO V f j).1) (i32 (trO V f j).2) (i32 (j : Int)) M = some (.ok (some (.int (i32 (trV V f what)))), M) := by
  have hns := hV.ns
  intro d
  induction d with
  | zero =>
    intro j n hj hn
    obtain ⟨n, rfl⟩ : ∃ k, n = k + 1 := ⟨n - 1, by omega⟩
    show f_X3_bestTrade_60B N _ _ _ _ _ M = _
    unfold f_X3_bestTrade_60B trV
    rw [hR.2.2.2.2.1.2.2.1, if_pos ((i32_le (by omega) (by omega) (by omega) (by omega)).mpr (by omega)), show (V 0 7).toNat = j from by omega]
    by_cases h : what = 0
    · rw [if_pos ((i32_eq0 (by omega) (by omega)).mpr h), if_pos h]
    · rw [if_neg (fun q => h ((i32_eq0 (by omega) (by omega)).mp q)), if_neg h]
  | succ d ih =>
    intro j n hj hn
    obtain ⟨n, rfl⟩ : ∃ k, n = k + 1 := ⟨n - 1, by omega⟩
    show f_X3_bestTrade_60B N _ _ _ _ _ M = _
    unfold f_X3_bestTrade_60B
    rw [hR.2.2.2.2.1.2.2.1, if_neg (fun q => absurd ((i32_le (by omega) (by omega) (by omega) (by omega)).mp q) (by omega))]
    have := c_tr_in (N := N) hV hR hff hM (b := j) (by omega) (trO_B hV hff j (by omega)) (k60 := f_X3_bestTrade_60 N (i32 what) n) (v2 := i32 what) (V 0 7).toNat 0 N (by omega) (by omega)
    exact this.trans (ih (j + 1) n (by omega) (by omega))
theorem c_trade_lp (hN : 102 ≤ N) (hV : VX V) (hR : RC V M0) (hff : (f : Int) < V 0 5) (hw : 0 ≤ what ∧ what ≤ 1) :
    ∀ (d j n : Nat) (M : am_M), j + d = (V 0 7).toNat → d < n → sC M0 M → (∀ i : Nat, i < j → M 58 i = i32 (wS V f i)) → wp (f_X3_bestTrade_2 N (i32 (f : Int)) (i32 what) n (i32 (j : Int)) M) (rI fun v M' => v = i32 (trV V f what) ∧ sC M0 M') := by
  have hns := hV.ns
  intro d
  induction d with
  | zero =>
    intro j n M hj hn hs hM
    obtain ⟨n, rfl⟩ : ∃ k, n = k + 1 := ⟨n - 1, by omega⟩
    show wp (f_X3_bestTrade_2B N _ _ _ _ M) _
    unfold f_X3_bestTrade_2B
    rw [(hR.sC hs).2.2.2.2.1.2.2.1]
    refine wp_gd ((i32_le (by omega) (by omega) (by omega) (by omega)).mpr (by omega)) ?_
    exact wp_eqi (c_tr_out hN hV (hR.sC hs) hff hw (fun i hi => hM i (by omega)) (V 0 7).toNat 0 N (by omega) (by omega)) ⟨rfl, hs⟩
  | succ d ih =>
    intro j n M hj hn hs hM
    obtain ⟨n, rfl⟩ : ∃ k, n = k + 1 := ⟨n - 1, by omega⟩
    show wp (f_X3_bestTrade_2B N _ _ _ _ M) _
    unfold f_X3_bestTrade_2B
    have hRs := hR.sC hs
    have hjs := hV.sea (i := j) (by omega)
    rw [hRs.2.2.2.2.1.2.2.1]
    refine wp_ng (fun q => absurd ((i32_le (by omega) (by omega) (by omega) (by omega)).mp q) (by omega)) ?_
    rw [show (0 : Int32) = i32 ((0 : Nat) : Int) from rfl, c_at7 hRs.2.2.2.2.1 (by omega) (by omega) (by omega)]
    simp only [am_bi_i]
    rw [hRs.law]
    refine wp_ci (c_worthBy hN hV hRs (fog := V 3 (2 * j + 0)) hjs.1 hV.lw hff) (fun v M1 h1 => wp_gd (i32_in (by omega) (by omega) (by omega)) ?_)
    rw [i32_k (by omega), i32_s]
    refine ih (j + 1) n _ (by omega) (by omega) ((hs.trans h1.2.c).up (by omega) (by omega)) (fun i hi => ?_)
    by_cases hij : i = j
    · rw [hij, up_eq, h1.1]; rfl
    · rw [up_ne (by omega), h1.2 58 i (by omega)]; exact hM i (by omega)
theorem c_trade (hN : 102 ≤ N) (hV : VX V) (hR : RC V M0) (hff : (f : Int) < V 0 5) (hw : 0 ≤ what ∧ what ≤ 1) : wp (f_X3_bestTrade N (i32 (f : Int)) (i32 what) M0) (rI fun v M' => v = i32 (trV V f what) ∧ sC M0 M') :=
  c_trade_lp hN hV hR hff hw (V 0 7).toNat 0 N M0 (by omega) (by have := hV.ns; omega) sC.rfl (fun i hi => absurd hi (Nat.not_lt_zero i))
theorem m_tr_in (hN : 102 ≤ N) (hV : VX V) (hR : RT V M0) (hE : EM V M0) (hff : (f : Int) < V 0 5) {b : Nat} (hb : (b : Int) < V 0 7) {a : Int × Int} (ha : trB a) {k39 : Int32 → Int32 → Int32 → am_M → am_O} {v2 : Int32} {Q : Except Nat (Option Value) → am_M → Prop}
    (hk : ∀ M, sM M0 M → wp (k39 (i32 (trI V f b a (V 0 7).toNat).2) (i32 (trI V f b a (V 0 7).toNat).1) (i32 ((b + 1 : Nat) : Int)) M) Q) :
    ∀ (d j n : Nat) (M : am_M), j + d = (V 0 7).toNat → d < n → sM M0 M → wp (f_X10_trade_71 N (i32 (f : Int)) v2 (i32 (b : Int)) (i32 (wS V f b)) k39 n (i32 (trI V f b a j).2) (i32 (trI V f b a j).1) (i32 (j : Int)) M) Q := by
  have hns := hV.ns
  intro d
  induction d with
  | zero =>
    intro j n M hj hn hs
    obtain ⟨n, rfl⟩ : ∃ k, n = k + 1 := ⟨n - 1, by omega⟩
    show wp (f_X10_trade_71B N _ _ _ _ _ _ _ _ _ M) _
    unfold f_X10_trade_71B
    rw [(hR.sM hs).2.1.2.2.1]
    refine wp_gd ((i32_le (by omega) (by omega) (by omega) (by omega)).mpr (by omega)) ?_
    rw [i32_s]
    have := hk M hs
    rw [show (V 0 7).toNat = j from by omega] at this
    exact this
  | succ d ih =>
    intro j n M hj hn hs
    obtain ⟨n, rfl⟩ : ∃ k, n = k + 1 := ⟨n - 1, by omega⟩
    show wp (f_X10_trade_71B N _ _ _ _ _ _ _ _ _ M) _
    unfold f_X10_trade_71B
    have hRs := hR.sM hs
    have hjs := hV.sea (i := j) (by omega)
    have h1 := wS_B hV hff (j := j) (by omega)
    have h2 := wS_B hV hff hb
    have h3 := trI_B hV hff hb ha j (by omega)
    unfold trB at h3
    rw [hRs.2.1.2.2.1]
    refine wp_ng (fun q => absurd ((i32_le (by omega) (by omega) (by omega) (by omega)).mp q) (by omega)) ?_
    rw [i32_2, i32_mul]
    refine wp_gd (i32_in (by omega) (by omega) (by omega)) ?_
    rw [i32_cl (by omega) (by omega), show (2 * (j : Int)).toNat = 2 * j from by omega, hRs.2.2.2.2.2.1 _ (by omega), hRs.law]
    refine wp_ci (m_worthBy hN hV hRs (hE.sM hs) (fog := V 3 (2 * j)) hjs.1 hV.lw hff) (fun v M1 hv => ?_)
    have hv1 : v = i32 (wS V f j) := hv.1
    rw [hv1, i32_sub, i32_10, i32_mul, i32_add, i32_s]
    have q := ih (j + 1) n M1 (by omega) (by omega) (hs.trans hv.2.s)
    have k1 : trI V f b a (j + 1) = trF V f b j (trI V f b a j) := rfl
    rw [k1] at q
    unfold trF at q
    by_cases h : (trI V f b a j).1 < wS V f j - wS V f b
    · rw [if_pos h] at q
      exact wp_gd ((i32_lt (by omega) (by omega) (by omega) (by omega)).mpr h) q
    · rw [if_neg h] at q
      exact wp_ng (fun q => h ((i32_lt (by omega) (by omega) (by omega) (by omega)).mp q)) q
theorem m_trade_lp (hN : 102 ≤ N) (hV : VX V) (hR : RT V M0) (hE : EM V M0) (hff : (f : Int) < V 0 5) (hw : 0 ≤ what ∧ what ≤ 1) :
    ∀ (d j n : Nat) (M : am_M), j + d = (V 0 7).toNat → d < n → sM M0 M → wp (f_X10_trade_39 N (i32 (f : Int)) (i32 what) n (i32 (trO V f j).2) (i32 (trO V f j).1) (i32 (j : Int)) M) (rI fun v M' => v = i32 (trV V f what) ∧ sM M0 M') := by
  have hns := hV.ns
  intro d
  induction d with
  | zero =>
    intro j n M hj hn hs
    obtain ⟨n, rfl⟩ : ∃ k, n = k + 1 := ⟨n - 1, by omega⟩
    show wp (f_X10_trade_39B N _ _ _ _ _ _ M) _
    unfold f_X10_trade_39B trV
    rw [(hR.sM hs).2.1.2.2.1]
    refine wp_gd ((i32_le (by omega) (by omega) (by omega) (by omega)).mpr (by omega)) ?_
    rw [show (V 0 7).toNat = j from by omega]
    by_cases h : what = 0
    · rw [if_pos h]; exact wp_gd ((i32_eq0 (by omega) (by omega)).mpr h) (wp_i ⟨rfl, hs⟩)
    · rw [if_neg h]; exact wp_ng (fun q => h ((i32_eq0 (by omega) (by omega)).mp q)) (wp_i ⟨rfl, hs⟩)
  | succ d ih =>
    intro j n M hj hn hs
    obtain ⟨n, rfl⟩ : ∃ k, n = k + 1 := ⟨n - 1, by omega⟩
    show wp (f_X10_trade_39B N _ _ _ _ _ _ M) _
    unfold f_X10_trade_39B
    have hRs := hR.sM hs
    have hjs := hV.sea (i := j) (by omega)
    rw [hRs.2.1.2.2.1]
    refine wp_ng (fun q => absurd ((i32_le (by omega) (by omega) (by omega) (by omega)).mp q) (by omega)) ?_
    rw [i32_2, i32_mul]
    refine wp_gd (i32_in (by omega) (by omega) (by omega)) ?_
    rw [i32_cl (by omega) (by omega), show (2 * (j : Int)).toNat = 2 * j from by omega, hRs.2.2.2.2.2.1 _ (by omega), hRs.law]
    refine wp_ci (m_worthBy hN hV hRs (hE.sM hs) (fog := V 3 (2 * j)) hjs.1 hV.lw hff) (fun v M1 hv => ?_)
    have hv1 : v = i32 (wS V f j) := hv.1
    rw [hv1]
    exact m_tr_in hN hV hR hE hff (b := j) (by omega) (trO_B hV hff j (by omega)) (fun M2 h2 => ih (j + 1) n M2 (by omega) (by omega) h2) (V 0 7).toNat 0 N M1 (by omega) (by omega) (hs.trans hv.2.s)
end MK
