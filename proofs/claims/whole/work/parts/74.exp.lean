/-! books: which sets explain them -/
variable {N : Nat} {V : VL} {M0 : am_M}
def ct (e : ES) (t : Int) (n : Nat) : Int := it (fun i a => if e.2 0 i = i32 t then a + 1 else a) 0 n
theorem ct_nx {e : ES} {t : Int} {n : Nat} : ct e t (n + 1) = if e.2 0 n = i32 t then ct e t n + 1 else ct e t n := rfl
theorem ct_B {e : ES} {t : Int} : ∀ n : Nat, 0 ≤ ct e t n ∧ ct e t n ≤ n := by
  intro n
  induction n with
  | zero => exact ⟨Int.le_refl 0, Int.le_refl 0⟩
  | succ n ih =>
    rw [ct_nx]
    split <;> omega
theorem c_ctAt_lp {e : ES} {M : am_M} (hE : ErC e M) (he : e.1 ≤ 24) {t : Int} : ∀ (d j n : Nat), j + d = e.1 → d < n → f_X6_countAt_4 N (i32 t) n (i32 (ct e t j)) (i32 (j : Int)) M = some (.ok (some (.int (i32 (ct e t e.1)))), M) := by
  intro d
  induction d with
  | zero =>
    intro j n hj hn
    obtain ⟨n, rfl⟩ : ∃ k, n = k + 1 := ⟨n - 1, by omega⟩
    show f_X6_countAt_4B N _ _ _ _ M = _
    unfold f_X6_countAt_4B
    rw [hE.1, if_pos ((i32_le (by omega) (by omega) (by omega) (by omega)).mpr (by omega)), show j = e.1 from by omega]
  | succ d ih =>
    intro j n hj hn
    obtain ⟨n, rfl⟩ : ∃ k, n = k + 1 := ⟨n - 1, by omega⟩
    show f_X6_countAt_4B N _ _ _ _ M = _
    unfold f_X6_countAt_4B
    have := ih (j + 1) n (by omega) (by omega)
    rw [ct_nx] at this
    rw [hE.1, if_neg (fun q => absurd ((i32_le (by omega) (by omega) (by omega) (by omega)).mp q) (by omega)), if_pos (i32_in (by omega) (by omega) (by omega)), i32_k (by omega), i32_s, i32_1, i32_add, show M 52 j = e.2 0 j from hE.2 0 j (by omega) (by omega)]
    by_cases h : e.2 0 j = i32 t
    · rw [if_pos h] at this ⊢; exact this
    · rw [if_neg h] at this ⊢; exact this
theorem c_ctAt (hN : 102 ≤ N) {e : ES} {M : am_M} (hE : ErC e M) (he : e.1 ≤ 24) {t : Int} : f_X6_countAt N (i32 t) M = some (.ok (some (.int (i32 (ct e t e.1)))), M) := c_ctAt_lp hE he e.1 0 N (by omega) (by omega)
def shB (V : VL) (k : Nat) : ES := shE V (V 8 (4 * k)) (V 8 (4 * k + 1)) (V 0 2) 0 8
def bkL (V : VL) (k : Nat) : Bool := decide (ct (shB V k) (V 8 (4 * k + 2)) (shB V k).1 = V 8 (4 * k + 3))
def so (V : VL) (n : Nat) : Bool := it (fun k b => b && bkL V k) true n
theorem so_nx {n : Nat} : so V (n + 1) = (so V n && bkL V n) := rfl
theorem so_no {n : Nat} (h : so V n = false) : ∀ d, so V (n + d) = false := by
  intro d
  induction d with
  | zero => exact h
  | succ d ih => rw [← Nat.add_assoc, so_nx, ih]; rfl
theorem VX.lin (hV : VX V) {i : Nat} (hi : (i : Int) < V 0 10) : (0 ≤ V 8 (4 * i) ∧ V 8 (4 * i) < V 0 0) ∧ (0 ≤ V 8 (4 * i + 1) ∧ V 8 (4 * i + 1) < V 0 1) ∧ (1 ≤ V 8 (4 * i + 2) ∧ V 8 (4 * i + 2) ≤ 99) ∧ (0 ≤ V 8 (4 * i + 3) ∧ V 8 (4 * i + 3) ≤ 24) := hV.2.2.2.2.2.2.2.2 i hi
def sE (M M' : am_M) : Prop := ∀ a b, a < 51 ∨ (a = 51 ∧ b = 6) ∨ 56 < a → M' a b = M a b
theorem sE.trans {M M' M'' : am_M} (h1 : sE M M') (h2 : sE M' M'') : sE M M'' := fun a b h => (h2 a b h).trans (h1 a b h)
theorem sE.c {M M' : am_M} (h : sE M M') : sC M M' := fun a b q => h a b (by omega)
theorem c_book_lp (hN : 102 ≤ N) (hV : VX V) (hR : RC V M0) : ∀ (d j n : Nat) (M : am_M), j + d = (V 0 10).toNat → d < n → sE M0 M → so V j = true → wp (f_X0_bookIsSo_10 N n (i32 (j : Int)) M) (rI fun v M' => v = (if so V (V 0 10).toNat then 1 else 0) ∧ sE M0 M') := by
  have hns := hV.ns
  intro d
  induction d with
  | zero =>
    intro j n M hj hn hs ho
    obtain ⟨n, rfl⟩ : ∃ k, n = k + 1 := ⟨n - 1, by omega⟩
    show wp (f_X0_bookIsSo_10B N _ _ M) _
    unfold f_X0_bookIsSo_10B
    rw [(hR.sC hs.c).2.2.2.2.2.2.2.2.2.1]
    rw [show j = (V 0 10).toNat from by omega] at ho ⊢
    refine wp_gd ((i32_le (by omega) (by omega) (by omega) (by omega)).mpr (by omega)) (wp_i ⟨?_, hs⟩)
    rw [ho]; rfl
  | succ d ih =>
    intro j n M hj hn hs ho
    obtain ⟨n, rfl⟩ : ∃ k, n = k + 1 := ⟨n - 1, by omega⟩
    show wp (f_X0_bookIsSo_10B N _ _ M) _
    unfold f_X0_bookIsSo_10B
    have hRM := hR.sC hs.c
    have hl := hV.lin (i := j) (by omega)
    have hT := hRM.2.2.2.2.2.2.2
    rw [hT.2.2.1]
    refine wp_ng (fun q => absurd ((i32_le (by omega) (by omega) (by omega) (by omega)).mp q) (by omega)) ?_
    rw [show (0 : Int32) = i32 ((0 : Nat) : Int) from rfl, c_at16 hT (by omega) (r := j) (k := 0) (by omega) (by omega)]
    simp only [am_bi_i]
    rw [show (1 : Int32) = i32 ((1 : Nat) : Int) from rfl, c_at16 hT (by omega) (r := j) (k := 1) (by omega) (by omega)]
    simp only [am_bi_i]
    refine wp_cv (c_shoutE hN hV hRM (fog := 0) (by omega) hl.1 hl.2.1) ?_
    rintro M1 ⟨hs1, hE1, h56⟩
    have hs1E : sE M M1 := fun a b q => by
      rcases q with q | q | q
      · exact hs1 a b (by omega)
      · exact hs1 a b (by omega)
      · exact h56 a b q
    have hT1 := (hRM.sC hs1).2.2.2.2.2.2.2
    have hES := shE_ok hV (x := V 8 (4 * j)) (y := V 8 (4 * j + 1)) (fog := 0) (by omega)
    rw [show (2 : Int32) = i32 ((2 : Nat) : Int) from rfl, c_at16 hT1 (by omega) (r := j) (k := 2) (by omega) (by omega)]
    simp only [am_bi_i]
    rw [c_ctAt hN hE1 hES.2]
    simp only [am_bi_i]
    rw [show (3 : Int32) = i32 ((3 : Nat) : Int) from rfl, c_at16 hT1 (by omega) (r := j) (k := 3) (by omega) (by omega)]
    simp only [am_bi_i]
    have hcB := ct_B (e := shB V j) (t := V 8 (4 * j + 2)) (shB V j).1
    have hsz : (shB V j).1 ≤ 24 := hES.2
    have k1 := so_nx (V := V) (n := j)
    rw [ho, Bool.true_and] at k1
    by_cases hb : ct (shB V j) (V 8 (4 * j + 2)) (shB V j).1 = V 8 (4 * j + 3)
    · refine wp_gd (congrArg i32 hb) ?_
      rw [show (i32 (j : Int)) + i32 ((1 : Nat) : Int) = i32 ((j + 1 : Nat) : Int) from i32_s j]
      exact ih (j + 1) n M1 (by omega) (by omega) (hs.trans hs1E) (by rw [k1]; exact decide_eq_true hb)
    · refine wp_ng (fun q => hb ((i32_eq (by omega) (by omega) (by omega) (by omega)).mp q)) (wp_i ⟨?_, hs.trans hs1E⟩)
      have := so_no (k1.trans (decide_eq_false hb)) d
      rw [show j + 1 + d = (V 0 10).toNat from by omega] at this
      rw [this]; rfl
theorem c_book (hN : 102 ≤ N) (hV : VX V) (hR : RC V M0) : wp (f_X0_bookIsSo N M0) (rI fun v M' => v = (if so V (V 0 10).toNat then 1 else 0) ∧ sE M0 M') :=
  have hns := hV.ns
  c_book_lp hN hV hR (V 0 10).toNat 0 N M0 (by omega) (by omega) (fun _ _ _ => rfl) rfl
/-! with faces on the maybes of a set -/
def bV11 (V : VL) (s : Nat) : VL := vH V (bH (V 6) (cl11 V) (i32 (s : Int)) (V 0 9).toNat)
theorem VX.b11 (hV : VX V) {s : Nat} : VX (bV11 V s) := hV.vH (bH_B (fun c hc => (hV.1.2.2.2 c hc).1))
def soS (V : VL) (s : Nat) : Bool := so (bV11 V s) (V 0 10).toNat
abbrev XS : Type := Int × Int × Int32 × Int32
def xpF (V : VL) (k : Nat) (a : XS) : XS := if soS V k then (a.1 + 1, if a.2.1 = -1 then (k : Int) else a.2.1, a.2.2.1 &&& i32 (k : Int), a.2.2.2 ||| i32 (k : Int)) else a
def xpS (V : VL) (k : Nat) : XS := it (xpF V) (0, -1, i32 ((2 ^ (V 0 9).toNat : Nat) : Int) - 1, 0) k
theorem xpS_nx {k : Nat} : xpS V (k + 1) = xpF V k (xpS V k) := rfl
theorem xpS_B : ∀ k : Nat, (0 ≤ (xpS V k).1 ∧ (xpS V k).1 ≤ k) ∧ (-1 ≤ (xpS V k).2.1 ∧ (xpS V k).2.1 < k ∨ (xpS V k).2.1 = -1) := by
  intro k
  induction k with
  | zero => exact ⟨⟨Int.le_refl 0, Int.le_refl 0⟩, Or.inr rfl⟩
  | succ k ih =>
    rw [xpS_nx]
    unfold xpF
    split
    · refine ⟨⟨?_, ?_⟩, Or.inl ⟨?_, ?_⟩⟩
      · show 0 ≤ (xpS V k).1 + 1; omega
      · show (xpS V k).1 + 1 ≤ _; omega
      · show -1 ≤ (if (xpS V k).2.1 = -1 then (k : Int) else (xpS V k).2.1); split <;> omega
      · show (if (xpS V k).2.1 = -1 then (k : Int) else (xpS V k).2.1) < _; split <;> omega
    · omega
def xpC (a : XS) (M : am_M) : Prop := M 65 0 = i32 a.1 ∧ M 65 1 = i32 a.2.1 ∧ M 65 2 = a.2.2.1
def xpE (V : VL) (M : am_M) : Prop := M 65 0 = i32 (xpS V (2 ^ (V 0 9).toNat)).1 ∧ M 65 1 = i32 (xpS V (2 ^ (V 0 9).toNat)).2.1 ∧ M 65 2 = (if (xpS V (2 ^ (V 0 9).toNat)).1 = 0 then 0 else (xpS V (2 ^ (V 0 9).toNat)).2.2.1) ∧ M 65 3 = (if (xpS V (2 ^ (V 0 9).toNat)).1 = 0 then 0 else (i32 ((2 ^ (V 0 9).toNat : Nat) : Int) - 1) &&& ((xpS V (2 ^ (V 0 9).toNat)).2.2.2 ^^^ (-1)))
/-- what the class keeps of the sets so far, and what it leaves -/
def xpH (V : VL) (n : Nat) (M0 M : am_M) : Prop := (∀ s, s < n → M 66 s = if soS V s then 1 else 0) ∧ ∀ b, 4 ≤ b → M 65 b = M0 65 b
theorem c_sets_lp (hN : 102 ≤ N) (hV : VX V) (hR : RC V M0) : ∀ (d j n : Nat) (M : am_M), j + d = 2 ^ (V 0 9).toNat → d < n → sC M0 M → xpC (xpS V j) M → xpH V j M0 M → wp (f_X0_findSets_34 N (i32 ((2 ^ (V 0 9).toNat : Nat) : Int) - 1) n (xpS V j).2.2.2 (i32 (j : Int)) M) (rV fun M' => sC M0 M' ∧ xpE V M' ∧ xpH V (2 ^ (V 0 9).toNat) M0 M') := by
  have hns := hV.ns
  have hp := pw_8 (n := (V 0 9).toNat) (by omega)
  intro d
  induction d with
  | zero =>
    intro j n M hj hn hs hx hg
    obtain ⟨n, rfl⟩ : ∃ k, n = k + 1 := ⟨n - 1, by omega⟩
    show wp (f_X0_findSets_34B N _ _ _ _ M) _
    unfold f_X0_findSets_34B
    have hB := xpS_B (V := V) j
    rw [show j = 2 ^ (V 0 9).toNat from by omega] at hx hB hg ⊢
    have hg2 : ∀ x y : Int32, xpH V (2 ^ (V 0 9).toNat) M0 (am_up (am_up M 65 2 x) 65 3 y) := fun x y => ⟨fun s h => by rw [up_ne (by omega), up_ne (by omega)]; exact hg.1 s h, fun b h => by rw [up_ne (by omega), up_ne (by omega)]; exact hg.2 b h⟩
    refine wp_gd ?_ ?_
    · rw [i32_1, i32_sub]; exact (i32_lt (by omega) (by omega) (by omega) (by omega)).mpr (by omega)
    · rw [hx.1]
      by_cases h0 : (xpS V (2 ^ (V 0 9).toNat)).1 = 0
      · refine wp_gd ((i32_eq0 (by omega) (by omega)).mpr h0) ?_
        unfold f_X0_findSets_157
        rw [hx.1]
        refine wp_gd ((i32_eq0 (by omega) (by omega)).mpr h0) (wp_v ⟨(hs.up (by omega) (by omega)).up (by omega) (by omega), ⟨?_, ?_, ?_, ?_⟩, hg2 _ _⟩)
        · rw [up_ne (by omega), up_ne (by omega)]; exact hx.1
        · rw [up_ne (by omega), up_ne (by omega)]; exact hx.2.1
        · rw [up_ne (by omega), up_eq, if_pos h0]
        · rw [up_eq, if_pos h0]
      · refine wp_ng (fun q => h0 ((i32_eq0 (by omega) (by omega)).mp q)) ?_
        unfold f_X0_findSets_157
        rw [hx.1]
        refine wp_ng (fun q => h0 ((i32_eq0 (by omega) (by omega)).mp q)) (wp_v ⟨(hs.up (by omega) (by omega)).up (by omega) (by omega), ⟨?_, ?_, ?_, ?_⟩, hg2 _ _⟩)
        · rw [up_ne (by omega), up_ne (by omega)]; exact hx.1
        · rw [up_ne (by omega), up_ne (by omega)]; exact hx.2.1
        · rw [up_ne (by omega), up_eq, if_neg h0]; exact hx.2.2
        · rw [up_eq, if_neg h0]
  | succ d ih =>
    intro j n M hj hn hs hx hg
    obtain ⟨n, rfl⟩ : ∃ k, n = k + 1 := ⟨n - 1, by omega⟩
    show wp (f_X0_findSets_34B N _ _ _ _ M) _
    unfold f_X0_findSets_34B
    have hB := xpS_B (V := V) j
    have hRM := hR.sC hs
    refine wp_ng ?_ ?_
    · rw [i32_1, i32_sub]; exact fun q => absurd ((i32_lt (by omega) (by omega) (by omega) (by omega)).mp q) (by omega)
    refine wp_ci (c_raise11 hN hV hRM (i32 (j : Int))) ?_
    rintro v M1 ⟨rfl, h1, h1c⟩
    have hR1 : RC (bV11 V j) M1 := hRM.fr h1 h1c
    refine wp_ci (c_book (V := bV11 V j) hN hV.b11 hR1) ?_
    rintro v M2 ⟨rfl, h2⟩
    have hR2 : RC (bV11 V j) M2 := hR1.sC h2.c
    have k1 := xpS_nx (V := V) (k := j)
    unfold xpF at k1
    refine wp_gd ⟨i32_in (by omega) (by omega) (by omega), (show ∀ b : Bool, am_z (if b then 1 else 0) from by decide) _⟩ ?_
    rw [i32_k (by omega)]
    have hR3 : RC (bV11 V j) (am_up M2 66 j (if so (bV11 V j) (V 0 10).toNat then 1 else 0)) := hR2.sC (sC.rfl.up (by omega) (by omega))
    refine wp_cv (c_lower11 hN hV hR3 (i32 (j : Int)) (fun c hc => (hR3.1.2.2.2 c hc).1)) ?_
    rintro M4 ⟨h4, h5⟩
    have g4 : ∀ a b, 57 ≤ a → (a ≠ 66 ∨ b ≠ j) → M4 a b = M a b := fun a b q1 q2 => by
      rw [h4 a b (by omega), up_ne (by omega), h2 a b (by omega), h1 a b (by omega)]
    have h66 : M4 66 j = if soS V j then 1 else 0 := by rw [h4 66 j (by omega), up_eq]; rfl
    have hs4 : sC M0 M4 := fun a b q => by
      by_cases hab : a = 14 ∧ b < 100
      · rw [hab.1, h5 b hab.2, ← (hR.1.2.2.2 b hab.2).1]
      · rw [h4 a b (by omega), up_ne (by omega), h2 a b (by omega), h1 a b (by omega), hs a b q]
    have hx4 : xpC (xpS V j) M4 := by
      obtain ⟨w1, w2, w3⟩ := hx
      exact ⟨by rw [g4 65 0 (by omega) (by omega)]; exact w1, by rw [g4 65 1 (by omega) (by omega)]; exact w2, by rw [g4 65 2 (by omega) (by omega)]; exact w3⟩
    have hg4 : xpH V (j + 1) M0 M4 := by
      refine ⟨fun s h => ?_, fun b h => ?_⟩
      · by_cases hsj : s = j
        · rw [hsj]; exact h66
        · rw [g4 66 s (by omega) (by omega)]; exact hg.1 s (by omega)
      · rw [g4 65 b (by omega) (by omega)]; exact hg.2 b h
    refine wp_gd (i32_in (by omega) (by omega) (by omega)) ?_
    rw [h66, i32_s]
    by_cases hso : soS V j = true
    · rw [if_pos hso] at k1
      refine wp_ng (by rw [if_pos hso]; decide) ?_
      rw [hx4.2.1, hx4.1]
      have hc : ∀ s0 : Int32, s0 = i32 (if (xpS V j).2.1 = -1 then (j : Int) else (xpS V j).2.1) → wp (f_X0_findSets_118 N (f_X0_findSets_34 N (i32 ((2 ^ (V 0 9).toNat : Nat) : Int) - 1) n) (i32 ((2 ^ (V 0 9).toNat : Nat) : Int) - 1) (xpS V j).2.2.2 (i32 (j : Int)) s0 (am_up M4 65 0 (i32 (xpS V j).1 + 1))) (rV fun M' => sC M0 M' ∧ xpE V M' ∧ xpH V (2 ^ (V 0 9).toNat) M0 M') := by
        intro s0 hs0
        unfold f_X0_findSets_118
        rw [i32_s]
        have q := ih (j + 1) n (am_up (am_up (am_up M4 65 0 (i32 (xpS V j).1 + 1)) 65 1 s0) 65 2 (am_up M4 65 0 (i32 (xpS V j).1 + 1) 65 2 &&& i32 (j : Int))) (by omega) (by omega) (((hs4.up (by omega) (by omega)).up (by omega) (by omega)).up (by omega) (by omega)) ⟨?_, ?_, ?_⟩ ⟨fun s h => ?_, fun b h => ?_⟩
        · rw [k1] at q; exact q
        · rw [up_ne (by omega), up_ne (by omega), up_eq, i32_1, i32_add, k1]
        · rw [up_ne (by omega), up_eq, hs0, k1]
        · rw [up_eq, up_ne (by omega), hx4.2.2, k1]
        · rw [up_ne (by omega), up_ne (by omega), up_ne (by omega)]; exact hg4.1 s h
        · rw [up_ne (by omega), up_ne (by omega), up_ne (by omega)]; exact hg4.2 b h
      by_cases hm : (xpS V j).2.1 = -1
      · refine wp_gd (by rw [hm]; rfl) (hc _ ?_)
        rw [if_pos hm]
      · refine wp_ng (fun q => hm ((i32_eq (by omega) (by omega) (by omega) (by omega)).mp q)) (hc _ ?_)
        rw [if_neg hm]
    · rw [if_neg hso] at k1
      refine wp_gd (by rw [if_neg hso]) ?_
      have q := ih (j + 1) n M4 (by omega) (by omega) hs4 (by rw [k1]; exact hx4) hg4
      rw [k1] at q
      exact q
theorem c_setsG (hN : 302 ≤ N) (hV : VX V) (hR : RC V M0) : wp (f_X0_findSets N M0) (rV fun M' => sC M0 M' ∧ xpE V M' ∧ xpH V (2 ^ (V 0 9).toNat) M0 M') := by
  have hns := hV.ns
  have hp := pw_8 (n := (V 0 9).toNat) (by omega)
  unfold f_X0_findSets
  rw [hR.2.2.2.2.2.2.1.2.2.1, sh_pw (by omega)]
  refine c_sets_lp (by omega) hV hR (2 ^ (V 0 9).toNat) 0 N _ (by omega) (by omega) (((sC.rfl.up (by omega) (by omega)).up (by omega) (by omega)).up (by omega) (by omega)) ⟨?_, ?_, ?_⟩ ⟨fun s h => by omega, fun b h => ?_⟩
  · rw [up_ne (by omega), up_ne (by omega), up_eq]; rfl
  · rw [up_ne (by omega), up_eq]; rfl
  · rw [up_eq]; rfl
  · rw [up_ne (by omega), up_ne (by omega), up_ne (by omega)]
theorem c_sets (hN : 302 ≤ N) (hV : VX V) (hR : RC V M0) : wp (f_X0_findSets N M0) (rV fun M' => sC M0 M' ∧ xpE V M') := wp_mv (c_setsG hN hV hR) (fun _ q => ⟨q.1, q.2.1⟩)
/-! the reference's side -/
theorem m_ct_lp (hV : VX V) {e : ES} {M : am_M} (hR : RT V M) (hE : ErM e M) (he : e.1 ≤ 24) {k : Nat} (hk : (k : Int) < V 0 10) {v1 : Int32} {k10 : Int32 → Int32 → am_M → am_O} {Q : Except Nat (Option Value) → am_M → Prop}
    (h : wp (k10 (if ct e (V 8 (4 * k + 2)) e.1 = V 8 (4 * k + 3) then 1 else 0) (i32 ((k + 1 : Nat) : Int)) M) Q) : ∀ (d j n : Nat), j + d = e.1 → d < n → wp (f_X10_explains_45 N v1 (i32 (k : Int)) k10 n (i32 (ct e (V 8 (4 * k + 2)) j)) (i32 (j : Int)) M) Q := by
  have hns := hV.ns
  have hl := hV.lin hk
  have hL := hR.2.2.2.2.2.2.2.2 k hk
  intro d
  induction d with
  | zero =>
    intro j n hj hn
    obtain ⟨n, rfl⟩ : ∃ k, n = k + 1 := ⟨n - 1, by omega⟩
    show wp (f_X10_explains_45B N _ _ _ _ _ _ M) _
    unfold f_X10_explains_45B
    have hB := ct_B (e := e) (t := V 8 (4 * k + 2)) e.1
    rw [hE.1, show j = e.1 from by omega, i32_3, i32_mul, i32_2, i32_add, i32_s]
    refine wp_gd ((i32_le (by omega) (by omega) (by omega) (by omega)).mpr (by omega)) (wp_gd (i32_in (by omega) (by omega) (by omega)) ?_)
    rw [i32_cl (by omega) (by omega), show (3 * (k : Int) + 2).toNat = 3 * k + 2 from by omega, hL.2.2]
    by_cases hc : ct e (V 8 (4 * k + 2)) e.1 = V 8 (4 * k + 3)
    · rw [if_pos hc] at h
      exact wp_gd ((i32_eq (by omega) (by omega) (by omega) (by omega)).mpr hc) h
    · rw [if_neg hc] at h
      exact wp_ng (fun q => hc ((i32_eq (by omega) (by omega) (by omega) (by omega)).mp q)) h
  | succ d ih =>
    intro j n hj hn
    obtain ⟨n, rfl⟩ : ∃ k, n = k + 1 := ⟨n - 1, by omega⟩
    show wp (f_X10_explains_45B N _ _ _ _ _ _ M) _
    unfold f_X10_explains_45B
    have := ih (j + 1) n (by omega) (by omega)
    rw [ct_nx] at this
    rw [hE.1]
    refine wp_ng (fun q => absurd ((i32_le (by omega) (by omega) (by omega) (by omega)).mp q) (by omega)) ?_
    rw [i32_3, i32_mul, i32_s, i32_1, i32_add]
    refine wp_gd ⟨i32_in (by omega) (by omega) (by omega), i32_in (by omega) (by omega) (by omega)⟩ ?_
    rw [i32_cl (by omega) (by omega), i32_cl (by omega) (by omega), show (3 * (k : Int) + 1).toNat = 3 * k + 1 from by omega, show ((j : Nat) : Int).toNat = j from by omega, hL.2.1, show M 17 j = e.2 0 j from hE.2 0 j (by omega) (by omega)]
    by_cases hc : e.2 0 j = i32 (V 8 (4 * k + 2))
    · rw [if_pos hc] at this
      refine wp_gd hc ?_
      rw [i32_add]; exact this
    · rw [if_neg hc] at this
      refine wp_ng hc ?_
      rw [i32_0, i32_add, Int.add_zero]; exact this
theorem m_expl (hN : 102 ≤ N) (hV : VX V) (hR : RT V M0) (hF : RF V M0) (s : Nat) : wp (f_X10_explains N (i32 (s : Int)) M0) (rI fun v M' => v = (if soS V s then 1 else 0) ∧ tM M0 M') := by
  have hns := hV.ns
  unfold f_X10_explains
  refine wp_cv (m_wonders1 hN hV hR (i32 (s : Int)) (fun c hc => (hF c hc).2)) ?_
  rintro M1 ⟨h1, h1c⟩
  have hR1 := hR.fr h1
  have hE1 : EM (bV11 V s) M1 := EM_b11 hV hR hF h1 h1c
  have fin : ∀ (b : Bool) (M : am_M), tM M1 M → b = soS V s → wp (f_X10_explains_117 N (i32 (s : Int)) (if b then 1 else 0) M) (rI fun v M' => v = (if soS V s then 1 else 0) ∧ tM M0 M') := by
    intro b M h2 hb
    unfold f_X10_explains_117
    refine wp_cv (m_wonders0 hN hV (hR1.sM h2.s) (i32 (s : Int)) (fun c hc => by rw [h2 21 c (by unfold tS; omega)]; exact h1c c hc)) ?_
    rintro M3 ⟨h3, h4⟩
    refine wp_gd (by cases b <;> decide) (wp_i ⟨by rw [hb], tM.low hF h1 h2 h3 h4⟩)
  have lp : ∀ (d j n : Nat) (M : am_M), j + d = (V 0 10).toNat → d < n → tM M1 M → wp (f_X10_explains_10 N (i32 (s : Int)) n (if so (bV11 V s) j then 1 else 0) (i32 (j : Int)) M) (rI fun v M' => v = (if soS V s then 1 else 0) ∧ tM M0 M') := by
    intro d
    induction d with
    | zero =>
      intro j n M hj hn h2
      obtain ⟨n, rfl⟩ : ∃ k, n = k + 1 := ⟨n - 1, by omega⟩
      show wp (f_X10_explains_10B N _ _ _ _ M) _
      unfold f_X10_explains_10B
      rw [(hR1.sM h2.s).2.1.2.2.2.2.2]
      refine wp_gd ((i32_le (by omega) (by omega) (by omega) (by omega)).mpr (by omega)) (fin _ M h2 ?_)
      rw [show j = (V 0 10).toNat from by omega]
      rfl
    | succ d ih =>
      intro j n M hj hn h2
      obtain ⟨n, rfl⟩ : ∃ k, n = k + 1 := ⟨n - 1, by omega⟩
      show wp (f_X10_explains_10B N _ _ _ _ M) _
      unfold f_X10_explains_10B
      have hRM := hR1.sM h2.s
      have hEM := hE1.sM h2.s
      have hl := hV.lin (i := j) (by omega)
      have hL := hRM.2.2.2.2.2.2.2.2 j (by omega)
      rw [hRM.2.1.2.2.2.2.2]
      refine wp_ng (fun q => absurd ((i32_le (by omega) (by omega) (by omega) (by omega)).mp q) (by omega)) ?_
      by_cases hb : so (bV11 V s) j = true
      · refine wp_ng (by rw [if_pos hb]; decide) ?_
        rw [i32_3, i32_mul]
        refine wp_gd (i32_in (by omega) (by omega) (by omega)) ?_
        rw [i32_cl (by omega) (by omega), show (3 * (j : Int)).toNat = 3 * j from by omega, hL.1]
        refine wp_cv (m_shoutE (V := bV11 V s) (fog := 0) hN hV.b11 hRM.vH hEM (by omega) hl.1 hl.2.1) ?_
        rintro M2 ⟨h3, hEr⟩
        have hES := shE_ok (V := bV11 V s) hV.b11 (x := V 8 (4 * j)) (y := V 8 (4 * j + 1)) (fog := 0) (by omega)
        refine m_ct_lp hV (hRM.sM h3.s) hEr hES.2 (k := j) (by omega) ?_ (shE (bV11 V s) (V 8 (4 * j)) (V 8 (4 * j + 1)) ((bV11 V s) 0 2) 0 8).1 0 N (by omega) (by omega)
        have := ih (j + 1) n M2 (by omega) (by omega) (h2.trans h3)
        rw [so_nx, hb, Bool.true_and] at this
        have e1 : (if bkL (bV11 V s) j then 1 else 0 : Int32) = if ct (shE (bV11 V s) (V 8 (4 * j)) (V 8 (4 * j + 1)) ((bV11 V s) 0 2) 0 8) (V 8 (4 * j + 2)) (shE (bV11 V s) (V 8 (4 * j)) (V 8 (4 * j + 1)) ((bV11 V s) 0 2) 0 8).1 = V 8 (4 * j + 3) then 1 else 0 := by
          by_cases hc : ct (shE (bV11 V s) (V 8 (4 * j)) (V 8 (4 * j + 1)) ((bV11 V s) 0 2) 0 8) (V 8 (4 * j + 2)) (shE (bV11 V s) (V 8 (4 * j)) (V 8 (4 * j + 1)) ((bV11 V s) 0 2) 0 8).1 = V 8 (4 * j + 3)
          · rw [if_pos hc, if_pos (show bkL (bV11 V s) j = true from decide_eq_true hc)]
          · rw [if_neg hc, if_neg (show ¬ bkL (bV11 V s) j = true from fun z => hc (of_decide_eq_true z))]
        rw [← e1]
        exact this
      · have hbf := Bool.eq_false_iff.mpr hb
        refine wp_gd (by rw [if_neg hb]) (fin _ M h2 ?_)
        rw [hbf]
        have := so_no hbf (d + 1)
        rw [show j + (d + 1) = (V 0 10).toNat from by omega] at this
        exact this.symm
  exact lp (V 0 10).toNat 0 N M1 (by omega) (by omega) tM.rfl
def soM (V : VL) (n : Nat) (M : am_M) : Prop := M 0 62 = i32 (xpS V n).1 ∧ ∀ s, s < n → M 26 s = if soS V s then 1 else 0
theorem m_so_lp (hN : 102 ≤ N) (hV : VX V) (hR : RT V M0) (hF : RF V M0) : ∀ (d j n : Nat) (M : am_M), j + d = 2 ^ (V 0 9).toNat → d < n → sM M0 M → soM V j M → wp (f_X10_findSo_7 N n (i32 (j : Int)) M) (rV fun M' => sM M0 M' ∧ soM V (2 ^ (V 0 9).toNat) M') := by
  have hns := hV.ns
  have hp := pw_8 (n := (V 0 9).toNat) (by omega)
  intro d
  induction d with
  | zero =>
    intro j n M hj hn hs hx
    obtain ⟨n, rfl⟩ : ∃ k, n = k + 1 := ⟨n - 1, by omega⟩
    show wp (f_X10_findSo_7B N _ _ M) _
    unfold f_X10_findSo_7B
    rw [(hR.sM hs).2.1.2.2.2.2.1, sh_pw (by omega)]
    rw [show j = 2 ^ (V 0 9).toNat from by omega] at hx ⊢
    exact wp_gd ((i32_le (by omega) (by omega) (by omega) (by omega)).mpr (by omega)) (wp_v ⟨hs, hx⟩)
  | succ d ih =>
    intro j n M hj hn hs hx
    obtain ⟨n, rfl⟩ : ∃ k, n = k + 1 := ⟨n - 1, by omega⟩
    show wp (f_X10_findSo_7B N _ _ M) _
    unfold f_X10_findSo_7B
    have hRM := hR.sM hs
    rw [hRM.2.1.2.2.2.2.1, sh_pw (by omega)]
    refine wp_ng (fun q => absurd ((i32_le (by omega) (by omega) (by omega) (by omega)).mp q) (by omega)) ?_
    refine wp_ci (m_expl hN hV hRM (hF.sM hs) j) ?_
    rintro v M1 ⟨rfl, h1⟩
    refine wp_gd ⟨⟨i32_in (by omega) (by omega) (by omega), by cases soS V j <;> decide⟩, i32_in (by omega) (by omega) (by omega)⟩ ?_
    rw [i32_k (by omega), up_eq, i32_s]
    have k1 := xpS_nx (V := V) (k := j)
    unfold xpF at k1
    have hs2 : ∀ x y : Int32, sM M0 (am_up (am_up M1 26 j x) 0 62 y) := fun x y => ((hs.trans h1.s).up (by unfold mS; omega)).up (by unfold mS; omega)
    have h26 : ∀ y : Int32, ∀ s, s < j + 1 → am_up (am_up M1 26 j (if soS V j then 1 else 0)) 0 62 y 26 s = if soS V s then 1 else 0 := by
      intro y s hsj
      rw [up_ne (by omega)]
      by_cases hsj' : s = j
      · rw [hsj', up_eq]
      · rw [up_ne (by omega), h1 26 s (by unfold tS; omega)]
        exact hx.2 s (by omega)
    have h62 : M1 0 62 = i32 (xpS V j).1 := by rw [h1 0 62 (by unfold tS; omega)]; exact hx.1
    by_cases hso : soS V j = true
    · rw [if_pos hso] at k1
      refine wp_ng (by rw [if_pos hso]; decide) (ih (j + 1) n _ (by omega) (by omega) (hs2 _ _) ⟨?_, h26 _⟩)
      rw [up_eq, h62, k1, i32_1, i32_add]
    · rw [if_neg hso] at k1
      refine wp_gd (by rw [if_neg hso]) (ih (j + 1) n _ (by omega) (by omega) (hs2 _ _) ⟨?_, h26 _⟩)
      rw [up_eq, h62, k1, i32_0, i32_add, Int.add_zero]
theorem m_so (hN : 302 ≤ N) (hV : VX V) (hR : RT V M0) (hF : RF V M0) : wp (f_X10_findSo N M0) (rV fun M' => sM M0 M' ∧ soM V (2 ^ (V 0 9).toNat) M') := by
  have hns := hV.ns
  have hp := pw_8 (n := (V 0 9).toNat) (by omega)
  refine m_so_lp (by omega) hV hR hF (2 ^ (V 0 9).toNat) 0 N _ (by omega) (by omega) (sM.rfl.up (by unfold mS; omega)) ⟨?_, fun s hs => by omega⟩
  rw [up_eq]; rfl
def xpV (V : VL) (what : Int) : Int32 := if what < 2 then (if what = 0 then i32 (xpS V (2 ^ (V 0 9).toNat)).1 else i32 (xpS V (2 ^ (V 0 9).toNat)).2.1) else if (xpS V (2 ^ (V 0 9).toNat)).1 = 0 then 0 else if what = 2 then (xpS V (2 ^ (V 0 9).toNat)).2.2.1 else (i32 ((2 ^ (V 0 9).toNat : Nat) : Int) - 1) &&& ((xpS V (2 ^ (V 0 9).toNat)).2.2.2 ^^^ (-1))
theorem m_xp_lp (hV : VX V) (hR : RT V M0) (hx : soM V (2 ^ (V 0 9).toNat) M0) {what : Int} (hw : 0 ≤ what ∧ what ≤ 3) : ∀ (d j n : Nat), j + d = 2 ^ (V 0 9).toNat → d < n → f_X10_explain_43 N (i32 what) n (i32 (xpS V j).2.1) (xpS V j).2.2.1 (xpS V j).2.2.2 (i32 (j : Int)) M0 = some (.ok (some (.int (xpV V what))), M0) := by
  have hns := hV.ns
  have hp := pw_8 (n := (V 0 9).toNat) (by omega)
  intro d
  induction d with
  | zero =>
    intro j n hj hn
    obtain ⟨n, rfl⟩ : ∃ k, n = k + 1 := ⟨n - 1, by omega⟩
    show f_X10_explain_43B N _ _ _ _ _ _ M0 = _
    unfold f_X10_explain_43B xpV
    have hB := xpS_B (V := V) (2 ^ (V 0 9).toNat)
    rw [show j = 2 ^ (V 0 9).toNat from by omega, hR.2.1.2.2.2.2.1, sh_pw (by omega), if_pos ((i32_le (by omega) (by omega) (by omega) (by omega)).mpr (by omega)), hx.1]
    by_cases h2 : what < 2
    · rw [if_neg (fun q => absurd ((i32_2le (by omega) (by omega)).mp q) (by omega)), if_pos h2]
      by_cases h0 : what = 0
      · rw [if_pos ((i32_eq0 (by omega) (by omega)).mpr h0), if_pos h0]
      · rw [if_neg (fun q => h0 ((i32_eq0 (by omega) (by omega)).mp q)), if_neg h0]
    · rw [if_pos ((i32_2le (by omega) (by omega)).mpr (by omega)), if_neg h2]
      by_cases h0 : (xpS V (2 ^ (V 0 9).toNat)).1 = 0
      · rw [if_pos ((i32_eq0 (by omega) (by omega)).mpr h0), if_pos h0]
      · rw [if_neg (fun q => h0 ((i32_eq0 (by omega) (by omega)).mp q)), if_neg h0]
        by_cases h3 : what = 2
        · rw [if_pos ((i32_eq2 (by omega) (by omega)).mpr h3), if_pos h3]
        · rw [if_neg (fun q => h3 ((i32_eq2 (by omega) (by omega)).mp q)), if_neg h3]
  | succ d ih =>
    intro j n hj hn
    obtain ⟨n, rfl⟩ : ∃ k, n = k + 1 := ⟨n - 1, by omega⟩
    show f_X10_explain_43B N _ _ _ _ _ _ M0 = _
    unfold f_X10_explain_43B
    have hB := xpS_B (V := V) j
    have := ih (j + 1) n (by omega) (by omega)
    have k1 := xpS_nx (V := V) (k := j)
    unfold xpF at k1
    rw [hR.2.1.2.2.2.2.1, sh_pw (by omega), if_neg (fun q => absurd ((i32_le (by omega) (by omega) (by omega) (by omega)).mp q) (by omega)), if_pos (i32_in (by omega) (by omega) (by omega)), i32_k (by omega), hx.2 j (by omega)]
    by_cases hso : soS V j = true
    · rw [if_pos hso] at k1
      rw [k1] at this
      rw [if_neg (by rw [if_pos hso]; decide)]
      by_cases hm : (xpS V j).2.1 = -1
      · rw [if_pos (by rw [hm]; rfl)]
        unfold f_X10_explain_75
        rw [if_pos hm] at this
        rw [i32_s]
        exact this
      · rw [if_neg (show ¬ i32 (xpS V j).2.1 = -1 from fun q => hm ((i32_eq (by omega) (by omega) (by omega) (by omega)).mp q))]
        unfold f_X10_explain_75
        rw [if_neg hm] at this
        rw [i32_s]
        exact this
    · rw [if_neg hso] at k1
      rw [k1] at this
      rw [if_pos (by rw [if_neg hso]), i32_s]
      exact this
