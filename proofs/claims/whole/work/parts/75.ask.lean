/-! where to ask next -/
variable {N : Nat} {V : VL} {M0 : am_M}
def sz (V : VL) (x y : Int) : Nat := (shE V x y (V 0 2) 0 8).1
theorem sz_B (hV : VX V) {x y : Int} : sz V x y ≤ 24 := (shE_ok hV (fog := 0) (by omega)).2
def tl (V : VL) (x y : Int) (n j : Nat) : Int := it (fun s a => if soS V s = true ∧ sz (bV11 V s) x y = n then a + 1 else a) 0 j
theorem tl_nx {x y : Int} {n j : Nat} : tl V x y n (j + 1) = if soS V j = true ∧ sz (bV11 V j) x y = n then tl V x y n j + 1 else tl V x y n j := rfl
theorem tl_B {x y : Int} {n : Nat} : ∀ j : Nat, 0 ≤ tl V x y n j ∧ tl V x y n j ≤ j := by
  intro j
  induction j with
  | zero => exact ⟨Int.le_refl 0, Int.le_refl 0⟩
  | succ j ih => rw [tl_nx]; split <;> omega
def mx (P : Nat → Int) (n : Nat) : Int := it (fun i w => if w < P i then P i else w) 0 n
theorem mx_nx {P : Nat → Int} {n : Nat} : mx P (n + 1) = if mx P n < P n then P n else mx P n := rfl
theorem mx_ch {P : Nat → Int} : ∀ n, 0 ≤ mx P n ∧ (∀ i, i < n → P i ≤ mx P n) ∧ (mx P n = 0 ∨ ∃ i, i < n ∧ P i = mx P n) := by
  intro n
  induction n with
  | zero => exact ⟨Int.le_refl 0, fun i hi => by omega, Or.inl rfl⟩
  | succ n ih =>
    rw [mx_nx]
    split
    · refine ⟨by omega, fun i hi => ?_, Or.inr ⟨n, by omega, rfl⟩⟩
      by_cases hin : i = n
      · rw [hin]; exact Int.le_refl _
      · have := ih.2.1 i (by omega); omega
    · refine ⟨by omega, fun i hi => ?_, ?_⟩
      · by_cases hin : i = n
        · rw [hin]; omega
        · exact ih.2.1 i (by omega)
      · rcases ih.2.2 with z | ⟨i, h1, h2⟩
        · exact Or.inl z
        · exact Or.inr ⟨i, by omega, h2⟩
theorem mx_un {P : Nat → Int} {n : Nat} {w : Int} (h0 : 0 ≤ w) (h1 : ∀ i, i < n → P i ≤ w) (h2 : w = 0 ∨ ∃ i, i < n ∧ P i = w) : mx P n = w := by
  have c := mx_ch (P := P) n
  apply Int.le_antisymm
  · rcases c.2.2 with z | ⟨i, hi, hp⟩
    · omega
    · have := h1 i hi; omega
  · rcases h2 with z | ⟨i, hi, hp⟩
    · omega
    · have := c.2.1 i hi; omega
theorem mx_up {P Q : Nat → Int} {n k : Nat} (hk : k < n) (h1 : Q k = P k + 1) (h2 : ∀ i, i ≠ k → Q i = P i) (h0 : 0 ≤ P k) : mx Q n = if P k + 1 ≤ mx P n then mx P n else P k + 1 := by
  have c := mx_ch (P := P) n
  split
  · rename_i hle
    refine mx_un c.1 (fun i hi => ?_) ?_
    · by_cases hik : i = k
      · rw [hik, h1]; exact hle
      · rw [h2 i hik]; exact c.2.1 i hi
    · rcases c.2.2 with z | ⟨i, hi, hp⟩
      · exact Or.inl z
      · refine Or.inr ⟨i, hi, ?_⟩
        by_cases hik : i = k
        · rw [hik] at hp; omega
        · rw [h2 i hik]; exact hp
  · rename_i hle
    refine mx_un (by omega) (fun i hi => ?_) (Or.inr ⟨k, hk, h1⟩)
    by_cases hik : i = k
    · rw [hik, h1]; exact Int.le_refl _
    · rw [h2 i hik]; have := c.2.1 i hi; omega
theorem mx_congr {P Q : Nat → Int} {n : Nat} (h : ∀ i, P i = Q i) : mx P n = mx Q n := by rw [show P = Q from funext h]
def wc (V : VL) (x y : Int) : Int := mx (fun n => tl V x y n (2 ^ (V 0 9).toNat)) 25
theorem wc_B (hV : VX V) {x y : Int} : 0 ≤ wc V x y ∧ wc V x y ≤ 256 := by
  have hns := hV.ns
  have hp := pw_8 (n := (V 0 9).toNat) (by omega)
  have c := mx_ch (P := fun n => tl V x y n (2 ^ (V 0 9).toNat)) 25
  refine ⟨c.1, ?_⟩
  rcases c.2.2 with z | ⟨i, hi, hp2⟩
  · unfold wc; omega
  · have := tl_B (V := V) (x := x) (y := y) (n := i) (2 ^ (V 0 9).toNat)
    unfold wc
    rw [← hp2]
    show tl V x y i (2 ^ (V 0 9).toNat) ≤ 256
    omega
def qF (V : VL) (i : Nat) (a : Int × Int × Int) : Int × Int × Int :=
  if a.1 = -1 ∨ wc V ((i % (V 0 0).toNat : Nat) : Int) ((i / (V 0 0).toNat : Nat) : Int) < a.1 then (wc V ((i % (V 0 0).toNat : Nat) : Int) ((i / (V 0 0).toNat : Nat) : Int), ((i % (V 0 0).toNat : Nat) : Int), ((i / (V 0 0).toNat : Nat) : Int)) else a
def qS (V : VL) (i : Nat) : Int × Int × Int := it (qF V) (-1, -1, -1) i
theorem qS_nx {i : Nat} : qS V (i + 1) = qF V i (qS V i) := rfl
theorem c_cellOf {x y : Int} {M : am_M} : f_X9_cellOf N (i32 x) (i32 y) M = some (.ok (some (.int (i32 (10 * y + x)))), M) := by
  unfold f_X9_cellOf
  rw [i32_10, i32_mul, i32_add, show y * 10 + x = 10 * y + x from by omega]
/-! the class -/
def sU (M M' : am_M) : Prop := ∀ a b, a < 51 ∨ (a = 51 ∧ b = 6) ∨ (56 < a ∧ a ≠ 66) → M' a b = M a b
theorem sU.trans {M M' M'' : am_M} (h1 : sU M M') (h2 : sU M' M'') : sU M M'' := fun a b h => (h2 a b h).trans (h1 a b h)
theorem sU.c {M M' : am_M} (h : sU M M') : sC M M' := fun a b q => h a b (by omega)
def tlP (V : VL) (M0 : am_M) (Y X : Nat) (M : am_M) : Prop := ∀ x y n : Nat, (x : Int) < V 0 0 → (y : Int) < V 0 1 → n < 25 → M 66 ((10 * y + x) * 25 + n) = M0 66 ((10 * y + x) * 25 + n) + (if (y < Y ∨ (y = Y ∧ x < X)) ∧ sz V x y = n then 1 else 0)
theorem c_tally_x (hN : 102 ≤ N) (hV : VX V) (hR : RC V M0) {Y : Nat} (hY : (Y : Int) < V 0 1) {k2 : Int32 → am_M → am_O} {Q : Except Nat (Option Value) → am_M → Prop} (hk : ∀ M, sU M0 M → tlP V M0 (Y + 1) 0 M → wp (k2 (i32 ((Y + 1 : Nat) : Int)) M) Q) :
    ∀ (d j n : Nat) (M : am_M), j + d = (V 0 0).toNat → d < n → sU M0 M → tlP V M0 Y j M → wp (f_X0_tallyCells_15 N (i32 (Y : Int)) k2 n (i32 (j : Int)) M) Q := by
  have hw := hV.1.1
  have hh := hV.1.2.1
  intro d
  induction d with
  | zero =>
    intro j n M hj hn hs ht
    obtain ⟨n, rfl⟩ : ∃ k, n = k + 1 := ⟨n - 1, by omega⟩
    show wp (f_X0_tallyCells_15B N _ _ _ _ M) _
    unfold f_X0_tallyCells_15B
    rw [(hR.sC hs.c).1.1]
    refine wp_gd ((i32_le (by omega) (by omega) (by omega) (by omega)).mpr (by omega)) ?_
    rw [i32_s]
    refine hk M hs (fun x y n h1 h2 h3 => ?_)
    rw [ht x y n h1 h2 h3]
    congr 1
    by_cases hq : (y < Y ∨ (y = Y ∧ x < j)) ∧ sz V x y = n
    · rw [if_pos hq, if_pos ⟨by omega, hq.2⟩]
    · rw [if_neg hq, if_neg (fun z => hq ⟨by omega, z.2⟩)]
  | succ d ih =>
    intro j n M hj hn hs ht
    obtain ⟨n, rfl⟩ : ∃ k, n = k + 1 := ⟨n - 1, by omega⟩
    show wp (f_X0_tallyCells_15B N _ _ _ _ M) _
    unfold f_X0_tallyCells_15B
    have hRM := hR.sC hs.c
    rw [hRM.1.1]
    refine wp_ng (fun q => absurd ((i32_le (by omega) (by omega) (by omega) (by omega)).mp q) (by omega)) ?_
    refine wp_cv (c_shoutE hN hV hRM (fog := 0) (by omega) (x := (j : Int)) (y := (Y : Int)) (by omega) (by omega)) ?_
    rintro M1 ⟨hs1, hE1, h56⟩
    rw [c_cellOf]
    simp only [am_bi_i]
    have hz : sz V (j : Int) (Y : Int) ≤ 24 := sz_B hV
    rw [show M1 51 0 = i32 (sz V (j : Int) (Y : Int) : Int) from hE1.1, show (25 : Int32) = i32 25 from rfl, i32_mul, i32_add, i32_s]
    refine wp_gd (i32_in (by omega) (by omega) (by omega)) ?_
    rw [i32_cl (by omega) (by omega), show ((10 * (Y : Int) + (j : Int)) * 25 + (sz V (j : Int) (Y : Int) : Int)).toNat = (10 * Y + j) * 25 + sz V (j : Int) (Y : Int) from by omega]
    refine ih (j + 1) n _ (by omega) (by omega) (fun a b q => ?_) (fun x y n h1 h2 h3 => ?_)
    · rw [up_ne (by omega)]
      rcases q with q | q | q
      · rw [hs1 a b (by omega), hs a b (by omega)]
      · rw [hs1 a b (by omega), hs a b (by omega)]
      · rw [h56 a b (by omega), hs a b (by omega)]
    · by_cases hc : x = j ∧ y = Y ∧ n = sz V (j : Int) (Y : Int)
      · obtain ⟨rfl, rfl, rfl⟩ := hc
        rw [up_eq, h56 66 _ (by omega), ht x y _ h1 h2 h3, if_neg (fun z => by omega), if_pos ⟨by omega, rfl⟩, show ∀ a : Int32, a + 0 = a from fun a => by apply Int32.toBitVec_inj.mp; simp]
      · rw [up_ne (by omega), h56 66 _ (by omega), ht x y n h1 h2 h3]
        congr 1
        by_cases hq : (y < Y ∨ (y = Y ∧ x < j)) ∧ sz V x y = n
        · rw [if_pos hq, if_pos ⟨by omega, hq.2⟩]
        · rw [if_neg hq, if_neg]
          rintro ⟨z1, z2⟩
          by_cases hxy : x = j ∧ y = Y
          · apply hc
            refine ⟨hxy.1, hxy.2, ?_⟩
            rw [← hxy.1, ← hxy.2, z2]
          · exact hq ⟨by omega, z2⟩
theorem c_tally (hN : 102 ≤ N) (hV : VX V) (hR : RC V M0) : wp (f_X0_tallyCells N M0) (rV fun M' => sU M0 M' ∧ tlP V M0 (V 0 1).toNat 0 M') := by
  have hw := hV.1.1
  have hh := hV.1.2.1
  have lp : ∀ (d j n : Nat) (M : am_M), j + d = (V 0 1).toNat → d < n → sU M0 M → tlP V M0 j 0 M → wp (f_X0_tallyCells_2 N n (i32 (j : Int)) M) (rV fun M' => sU M0 M' ∧ tlP V M0 (V 0 1).toNat 0 M') := by
    intro d
    induction d with
    | zero =>
      intro j n M hj hn hs ht
      obtain ⟨n, rfl⟩ : ∃ k, n = k + 1 := ⟨n - 1, by omega⟩
      show wp (f_X0_tallyCells_2B N _ _ M) _
      unfold f_X0_tallyCells_2B
      rw [(hR.sC hs.c).1.2.1]
      rw [show j = (V 0 1).toNat from by omega] at ht
      exact wp_gd ((i32_le (by omega) (by omega) (by omega) (by omega)).mpr (by omega)) (wp_v ⟨hs, ht⟩)
    | succ d ih =>
      intro j n M hj hn hs ht
      obtain ⟨n, rfl⟩ : ∃ k, n = k + 1 := ⟨n - 1, by omega⟩
      show wp (f_X0_tallyCells_2B N _ _ M) _
      unfold f_X0_tallyCells_2B
      rw [(hR.sC hs.c).1.2.1]
      refine wp_ng (fun q => absurd ((i32_le (by omega) (by omega) (by omega) (by omega)).mp q) (by omega)) ?_
      exact c_tally_x hN hV hR (Y := j) (by omega) (fun M' h1 h2 => ih (j + 1) n M' (by omega) (by omega) h1 h2) (V 0 0).toNat 0 N M (by omega) (by omega) hs ht
  refine lp (V 0 1).toNat 0 N M0 (by omega) (by omega) (fun _ _ _ => rfl) (fun x y n h1 h2 h3 => ?_)
  rw [if_neg (fun z => by omega), show ∀ a : Int32, a + 0 = a from fun a => by apply Int32.toBitVec_inj.mp; simp]
def TL (V : VL) (j : Nat) (M : am_M) : Prop := ∀ x y n : Nat, (x : Int) < V 0 0 → (y : Int) < V 0 1 → n < 25 → M 66 ((10 * y + x) * 25 + n) = i32 (tl V x y n j)
theorem c_worst_lp (hV : VX V) {M : am_M} (hT : TL V (2 ^ (V 0 9).toNat) M) {x y : Nat} (hx : (x : Int) < V 0 0) (hy : (y : Int) < V 0 1) : ∀ (d j n : Nat), j + d = 25 → d < n → f_X0_leftAtWorst_4 N (i32 (10 * (y : Int) + (x : Int))) n (i32 (mx (fun n => tl V x y n (2 ^ (V 0 9).toNat)) j)) (i32 (j : Int)) M = some (.ok (some (.int (i32 (wc V x y)))), M) := by
  have hw := hV.1.1
  have hh := hV.1.2.1
  have hns := hV.ns
  have hp := pw_8 (n := (V 0 9).toNat) (by omega)
  intro d
  induction d with
  | zero =>
    intro j n hj hn
    obtain ⟨n, rfl⟩ : ∃ k, n = k + 1 := ⟨n - 1, by omega⟩
    show f_X0_leftAtWorst_4B N _ _ _ _ M = _
    unfold f_X0_leftAtWorst_4B
    rw [show j = 25 from by omega, if_pos (by decide)]
    rfl
  | succ d ih =>
    intro j n hj hn
    obtain ⟨n, rfl⟩ : ∃ k, n = k + 1 := ⟨n - 1, by omega⟩
    show f_X0_leftAtWorst_4B N _ _ _ _ M = _
    unfold f_X0_leftAtWorst_4B
    have hc := mx_ch (P := fun n => tl V x y n (2 ^ (V 0 9).toNat)) j
    have ht := tl_B (V := V) (x := x) (y := y) (n := j) (2 ^ (V 0 9).toNat)
    have hm : mx (fun n => tl V x y n (2 ^ (V 0 9).toNat)) j ≤ 256 := by
      rcases hc.2.2 with z | ⟨i, hi, hp2⟩
      · omega
      · have := tl_B (V := V) (x := x) (y := y) (n := i) (2 ^ (V 0 9).toNat)
        rw [← hp2]
        show tl V x y i (2 ^ (V 0 9).toNat) ≤ 256
        omega
    have := ih (j + 1) n (by omega) (by omega)
    rw [mx_nx] at this
    rw [show (25 : Int32) = i32 25 from rfl, i32_mul, i32_add, if_neg (fun q => absurd ((i32_le (by omega) (by omega) (by omega) (by omega)).mp q) (by omega)), if_pos (i32_in (by omega) (by omega) (by omega)), i32_cl (by omega) (by omega), show ((10 * (y : Int) + (x : Int)) * 25 + (j : Int)).toNat = (10 * y + x) * 25 + j from by omega, hT x y j hx hy (by omega), i32_s]
    by_cases h : mx (fun n => tl V x y n (2 ^ (V 0 9).toNat)) j < tl V x y j (2 ^ (V 0 9).toNat)
    · rw [if_pos h] at this
      rw [if_pos ((i32_lt (by omega) (by omega) (by omega) (by omega)).mpr h)]
      exact this
    · rw [if_neg h] at this
      rw [if_neg (fun q => h ((i32_lt (by omega) (by omega) (by omega) (by omega)).mp q))]
      exact this
theorem c_worst (hN : 102 ≤ N) (hV : VX V) {M : am_M} (hT : TL V (2 ^ (V 0 9).toNat) M) {x y : Nat} (hx : (x : Int) < V 0 0) (hy : (y : Int) < V 0 1) : f_X0_leftAtWorst N (i32 (10 * (y : Int) + (x : Int))) M = some (.ok (some (.int (i32 (wc V x y)))), M) := c_worst_lp hV hT hx hy 25 0 N (by omega) (by omega)
def qC (a : Int × Int × Int) (M : am_M) : Prop := M 65 4 = i32 a.2.1 ∧ M 65 5 = i32 a.2.2 ∧ M 65 6 = i32 a.1
theorem qS_B (hV : VX V) : ∀ i, (-1 ≤ (qS V i).1 ∧ (qS V i).1 ≤ 256) ∧ (-1 ≤ (qS V i).2.1) ∧ (-1 ≤ (qS V i).2.2) := by
  intro i
  induction i with
  | zero => exact ⟨⟨Int.le_refl (-1), (by decide : (-1 : Int) ≤ 256)⟩, Int.le_refl (-1), Int.le_refl (-1)⟩
  | succ i ih =>
    rw [qS_nx]
    unfold qF
    have := wc_B hV (x := ((i % (V 0 0).toNat : Nat) : Int)) (y := ((i / (V 0 0).toNat : Nat) : Int))
    split
    · exact ⟨⟨by omega, by omega⟩, Int.le_trans (by decide : (-1 : Int) ≤ 0) (Int.natCast_nonneg _), Int.le_trans (by decide : (-1 : Int) ≤ 0) (Int.natCast_nonneg _)⟩
    · exact ih
theorem c_choose (hN : 102 ≤ N) (hV : VX V) (hR : RC V M0) (hT : TL V (2 ^ (V 0 9).toNat) M0) (hq0 : qC (-1, -1, -1) M0) : wp (f_X0_chooseQuestion N M0) (rV fun M' => sC M0 M' ∧ qC (qS V ((V 0 0).toNat * (V 0 1).toNat)) M') := by
  have hw := hV.1.1
  have hh := hV.1.2.1
  have lpx : ∀ {Y : Nat} {k2 : Int32 → am_M → am_O} {Q : Except Nat (Option Value) → am_M → Prop}, (Y : Int) < V 0 1 → (∀ M, (∀ a b, a ≠ 65 → M a b = M0 a b) → qC (qS V ((V 0 0).toNat * (Y + 1))) M → wp (k2 (i32 ((Y + 1 : Nat) : Int)) M) Q) → ∀ (d j n : Nat) (M : am_M), j + d = (V 0 0).toNat → d < n → (∀ a b, a ≠ 65 → M a b = M0 a b) → qC (qS V ((V 0 0).toNat * Y + j)) M → wp (f_X0_chooseQuestion_15 N (i32 (Y : Int)) k2 n (i32 (j : Int)) M) Q := by
    intro Y k2 Q hY hk d
    induction d with
    | zero =>
      intro j n M hj hn hs hq
      obtain ⟨n, rfl⟩ : ∃ k, n = k + 1 := ⟨n - 1, by omega⟩
      show wp (f_X0_chooseQuestion_15B N _ _ _ _ M) _
      unfold f_X0_chooseQuestion_15B
      rw [hs 2 0 (by omega), hR.1.1]
      refine wp_gd ((i32_le (by omega) (by omega) (by omega) (by omega)).mpr (by omega)) ?_
      rw [show (V 0 0).toNat * Y + j = (V 0 0).toNat * (Y + 1) from by rw [Nat.mul_add]; omega] at hq
      rw [i32_s]
      exact hk M hs hq
    | succ d ih =>
      intro j n M hj hn hs hq
      obtain ⟨n, rfl⟩ : ∃ k, n = k + 1 := ⟨n - 1, by omega⟩
      show wp (f_X0_chooseQuestion_15B N _ _ _ _ M) _
      unfold f_X0_chooseQuestion_15B
      rw [hs 2 0 (by omega), hR.1.1]
      refine wp_ng (fun q => absurd ((i32_le (by omega) (by omega) (by omega) (by omega)).mp q) (by omega)) ?_
      rw [c_cellOf]
      simp only [am_bi_i]
      have hTM : TL V (2 ^ (V 0 9).toNat) M := fun x y n h1 h2 h3 => by rw [hs 66 _ (by omega)]; exact hT x y n h1 h2 h3
      rw [c_worst hN hV hTM (x := j) (y := Y) (by omega) hY]
      simp only [am_bi_i]
      have hB := qS_B hV ((V 0 0).toNat * Y + j)
      have hWB := wc_B hV (x := (j : Int)) (y := (Y : Int))
      have k1 := qS_nx (V := V) (i := (V 0 0).toNat * Y + j)
      unfold qF at k1
      rw [Nat.mul_add_mod, Nat.mod_eq_of_lt (by omega : j < (V 0 0).toNat), Nat.mul_add_div (by omega : 0 < (V 0 0).toNat), Nat.div_eq_of_lt (by omega : j < (V 0 0).toNat), Nat.add_zero Y] at k1
      rw [hq.2.2, i32_s]
      have go : ((qS V ((V 0 0).toNat * Y + j)).1 = -1 ∨ wc V (j : Int) (Y : Int) < (qS V ((V 0 0).toNat * Y + j)).1) → wp (f_X0_chooseQuestion_52 N k2 (f_X0_chooseQuestion_15 N (i32 (Y : Int)) k2 n) (i32 (Y : Int)) (i32 (j : Int)) (i32 (wc V (j : Int) (Y : Int))) M) Q := by
        intro hh2
        unfold f_X0_chooseQuestion_52
        rw [if_pos hh2] at k1
        rw [i32_s]
        refine ih (j + 1) n _ (by omega) (by omega) (fun a b q => by rw [up_ne (by omega), up_ne (by omega), up_ne (by omega)]; exact hs a b q) ?_
        rw [← Nat.add_assoc, k1]
        refine ⟨?_, ?_, ?_⟩
        · rw [up_ne (by omega), up_ne (by omega), up_eq]
        · rw [up_ne (by omega), up_eq]
        · rw [up_eq]
      by_cases hm : (qS V ((V 0 0).toNat * Y + j)).1 = -1
      · exact wp_gd (by rw [hm]; rfl) (go (Or.inl hm))
      · refine wp_ng (fun q => hm ((i32_eq (by omega) (by omega) (by omega) (by omega)).mp q)) ?_
        by_cases hlt : wc V (j : Int) (Y : Int) < (qS V ((V 0 0).toNat * Y + j)).1
        · exact wp_ng (fun q => absurd ((i32_le (by omega) (by omega) (by omega) (by omega)).mp q) (by omega)) (go (Or.inr hlt))
        · refine wp_gd ((i32_le (by omega) (by omega) (by omega) (by omega)).mpr (by omega)) ?_
          rw [if_neg (fun z => by rcases z with z | z; exact hm z; exact hlt z)] at k1
          refine ih (j + 1) n M (by omega) (by omega) hs ?_
          rw [← Nat.add_assoc, k1]
          exact hq
  have lp : ∀ (d j n : Nat) (M : am_M), j + d = (V 0 1).toNat → d < n → (∀ a b, a ≠ 65 → M a b = M0 a b) → qC (qS V ((V 0 0).toNat * j)) M → wp (f_X0_chooseQuestion_2 N n (i32 (j : Int)) M) (rV fun M' => sC M0 M' ∧ qC (qS V ((V 0 0).toNat * (V 0 1).toNat)) M') := by
    intro d
    induction d with
    | zero =>
      intro j n M hj hn hs hq
      obtain ⟨n, rfl⟩ : ∃ k, n = k + 1 := ⟨n - 1, by omega⟩
      show wp (f_X0_chooseQuestion_2B N _ _ M) _
      unfold f_X0_chooseQuestion_2B
      rw [hs 2 1 (by omega), hR.1.2.1]
      rw [show j = (V 0 1).toNat from by omega] at hq
      exact wp_gd ((i32_le (by omega) (by omega) (by omega) (by omega)).mpr (by omega)) (wp_v ⟨fun a b q => hs a b (by omega), hq⟩)
    | succ d ih =>
      intro j n M hj hn hs hq
      obtain ⟨n, rfl⟩ : ∃ k, n = k + 1 := ⟨n - 1, by omega⟩
      show wp (f_X0_chooseQuestion_2B N _ _ M) _
      unfold f_X0_chooseQuestion_2B
      rw [hs 2 1 (by omega), hR.1.2.1]
      refine wp_ng (fun q => absurd ((i32_le (by omega) (by omega) (by omega) (by omega)).mp q) (by omega)) ?_
      exact lpx (Y := j) (by omega) (fun M' h1 h2 => ih (j + 1) n M' (by omega) (by omega) h1 h2) (V 0 0).toNat 0 N M (by omega) (by omega) hs hq
  exact lp (V 0 1).toNat 0 N M0 (by omega) (by omega) (fun _ _ _ => rfl) hq0
def qR (V : VL) : Int × Int × Int := if (xpS V (2 ^ (V 0 9).toNat)).1 = 0 then (-1, -1, -1) else qS V ((V 0 0).toNat * (V 0 1).toNat)
theorem c_q_lp (hN : 102 ≤ N) (hV : VX V) (hR : RC V M0) : ∀ (d j n : Nat) (M : am_M), j + d = 2 ^ (V 0 9).toNat → d < n → sC M0 M → TL V j M → wp (f_X0_findQuestion_26 N n (if (xpS V j).1 = 0 then 0 else 1) (i32 (j : Int)) M) (rV fun M' => sC M0 M' ∧ qC (qR V) M') := by
  have hns := hV.ns
  have hp := pw_8 (n := (V 0 9).toNat) (by omega)
  intro d
  induction d with
  | zero =>
    intro j n M hj hn hs hT
    obtain ⟨n, rfl⟩ : ∃ k, n = k + 1 := ⟨n - 1, by omega⟩
    show wp (f_X0_findQuestion_26B N _ _ _ M) _
    unfold f_X0_findQuestion_26B
    have hRM := hR.sC hs
    rw [hRM.2.2.2.2.2.2.1.2.2.1, sh_pw (by omega)]
    rw [show j = 2 ^ (V 0 9).toNat from by omega] at hT ⊢
    refine wp_gd ((i32_le (by omega) (by omega) (by omega) (by omega)).mpr (by omega)) ?_
    have hq0 : qC (-1, -1, -1) (am_up (am_up (am_up M 65 4 (-1)) 65 5 (-1)) 65 6 (-1)) := ⟨by rw [up_ne (by omega), up_ne (by omega), up_eq]; rfl, by rw [up_ne (by omega), up_eq]; rfl, by rw [up_eq]; rfl⟩
    have hs1 : sC M (am_up (am_up (am_up M 65 4 (-1)) 65 5 (-1)) 65 6 (-1)) := ((sC.rfl.up (by omega) (by omega)).up (by omega) (by omega)).up (by omega) (by omega)
    by_cases h0 : (xpS V (2 ^ (V 0 9).toNat)).1 = 0
    · rw [show qR V = (-1, -1, -1) from by unfold qR; rw [if_pos h0]]
      refine wp_gd (by rw [if_pos h0]) (wp_v ⟨hs.trans hs1, hq0⟩)
    · rw [show qR V = qS V ((V 0 0).toNat * (V 0 1).toNat) from by unfold qR; rw [if_neg h0]]
      refine wp_ng (by rw [if_neg h0]; decide) ?_
      refine wp_cv (c_choose hN hV (hRM.sC hs1) (fun x y n h1 h2 h3 => ?_) hq0) (fun M' q => wp_v ⟨hs.trans (hs1.trans q.1), q.2⟩)
      rw [up_ne (by omega), up_ne (by omega), up_ne (by omega)]
      exact hT x y n h1 h2 h3
  | succ d ih =>
    intro j n M hj hn hs hT
    obtain ⟨n, rfl⟩ : ∃ k, n = k + 1 := ⟨n - 1, by omega⟩
    show wp (f_X0_findQuestion_26B N _ _ _ M) _
    unfold f_X0_findQuestion_26B
    have hB := xpS_B (V := V) j
    have hRM := hR.sC hs
    rw [hRM.2.2.2.2.2.2.1.2.2.1, sh_pw (by omega)]
    refine wp_ng (fun q => absurd ((i32_le (by omega) (by omega) (by omega) (by omega)).mp q) (by omega)) ?_
    refine wp_ci (c_raise11 hN hV hRM (i32 (j : Int))) ?_
    rintro v M1 ⟨rfl, h1, h1c⟩
    have hR1 : RC (bV11 V j) M1 := hRM.fr h1 h1c
    refine wp_ci (c_book (V := bV11 V j) hN hV.b11 hR1) ?_
    rintro v M2 ⟨rfl, h2⟩
    have hR2 : RC (bV11 V j) M2 := hR1.sC h2.c
    have k1 := xpS_nx (V := V) (k := j)
    unfold xpF at k1
    have hT2 : TL V j M2 := fun x y n w1 w2 w3 => by rw [h2 66 _ (by omega), h1 66 _ (by omega)]; exact hT x y n w1 w2 w3
    have fin : ∀ (v1 : Int32) (M3 : am_M), sU M2 M3 → TL V (j + 1) M3 → v1 = (if (xpS V (j + 1)).1 = 0 then 0 else 1) → wp (f_X0_findQuestion_71 N (f_X0_findQuestion_26 N n) v1 (i32 (j : Int)) (orB (rz (V 6) (cl11 V) (i32 (j : Int))) 0 (V 0 9).toNat) M3) (rV fun M' => sC M0 M' ∧ qC (qR V) M') := by
      intro v1 M3 h3 hT3 hv1
      unfold f_X0_findQuestion_71
      have hR3 : RC (bV11 V j) M3 := hR2.sC h3.c
      refine wp_cv (c_lower11 hN hV hR3 (i32 (j : Int)) (fun c hc => (hR3.1.2.2.2 c hc).1)) ?_
      rintro M4 ⟨h4, h5⟩
      rw [i32_s, hv1]
      refine ih (j + 1) n M4 (by omega) (by omega) (fun a b q => ?_) (fun x y n w1 w2 w3 => ?_)
      · by_cases hab : a = 14 ∧ b < 100
        · rw [hab.1, h5 b hab.2, ← (hR.1.2.2.2 b hab.2).1]
        · rw [h4 a b (by omega), h3 a b (by omega), h2 a b (by omega), h1 a b (by omega), hs a b q]
      · rw [h4 66 _ (by omega)]; exact hT3 x y n w1 w2 w3
    by_cases hso : soS V j = true
    · rw [if_pos hso] at k1
      have hso' : so (bV11 V j) (V 0 10).toNat = true := hso
      refine wp_ng (show ¬ ((if so (bV11 V j) (V 0 10).toNat then 1 else 0 : Int32) = 0) by rw [if_pos hso']; decide) ?_
      refine wp_cv (c_tally (V := bV11 V j) hN hV.b11 hR2) ?_
      rintro M3 ⟨h3, ht3⟩
      refine fin 1 M3 h3 (fun x y n w1 w2 w3 => ?_) ?_
      · have q := ht3 x y n w1 w2 w3
        rw [q, hT2 x y n w1 w2 w3, tl_nx]
        by_cases hz : sz (bV11 V j) x y = n
        · rw [if_pos ⟨Or.inl (show y < (V 0 1).toNat by omega), hz⟩, if_pos ⟨hso, hz⟩, i32_1, i32_add]
        · rw [if_neg (fun z => hz z.2), if_neg (fun z => hz z.2), i32_0, i32_add, Int.add_zero]
      · rw [k1, if_neg (show ¬ ((xpS V j).1 + 1 = 0) by omega)]
    · rw [if_neg hso] at k1
      have hso' : ¬ so (bV11 V j) (V 0 10).toNat = true := hso
      refine wp_gd (show ((if so (bV11 V j) (V 0 10).toNat then 1 else 0 : Int32) = 0) by rw [if_neg hso']) (fin _ M2 (fun _ _ _ => rfl) (fun x y n w1 w2 w3 => ?_) ?_)
      · rw [hT2 x y n w1 w2 w3, tl_nx, if_neg (fun z => hso z.1)]
      · rw [k1]
theorem c_q (hN : 4200 ≤ N) (hV : VX V) (hR : RC V M0) : wp (f_X0_findQuestion N M0) (rV fun M' => sC M0 M' ∧ qC (qR V) M') := by
  have hw := hV.1.1
  have hh := hV.1.2.1
  have hns := hV.ns
  have hp := pw_8 (n := (V 0 9).toNat) (by omega)
  have lp : ∀ (d j n : Nat) (M : am_M), j + d = 2500 → d < n → sC M0 M → (∀ k, k < j → M 66 k = 0) → wp (f_X0_findQuestion_2 N n (i32 (j : Int)) M) (rV fun M' => sC M0 M' ∧ qC (qR V) M') := by
    intro d
    induction d with
    | zero =>
      intro j n M hj hn hs hz
      obtain ⟨n, rfl⟩ : ∃ k, n = k + 1 := ⟨n - 1, by omega⟩
      show wp (f_X0_findQuestion_2B N _ _ M) _
      unfold f_X0_findQuestion_2B
      refine wp_gd ?_ ?_
      · rw [show (2500 : Int32) = i32 2500 from rfl]; exact (i32_le (by omega) (by omega) (by omega) (by omega)).mpr (by omega)
      · refine c_q_lp (by omega) hV hR (2 ^ (V 0 9).toNat) 0 N M (by omega) (by omega) hs (fun x y n w1 w2 w3 => ?_)
        rw [hz _ (by omega)]
        rfl
    | succ d ih =>
      intro j n M hj hn hs hz
      obtain ⟨n, rfl⟩ : ∃ k, n = k + 1 := ⟨n - 1, by omega⟩
      show wp (f_X0_findQuestion_2B N _ _ M) _
      unfold f_X0_findQuestion_2B
      refine wp_ng ?_ (wp_gd (i32_in (by omega) (by omega) (by omega)) ?_)
      · rw [show (2500 : Int32) = i32 2500 from rfl]; exact fun q => absurd ((i32_le (by omega) (by omega) (by omega) (by omega)).mp q) (by omega)
      · rw [i32_k (by omega), i32_s]
        refine ih (j + 1) n _ (by omega) (by omega) (hs.up (by omega) (by omega)) (fun k hk => ?_)
        by_cases hkj : k = j
        · rw [hkj, up_eq]
        · rw [up_ne (by omega)]; exact hz k (by omega)
  exact lp 2500 0 N M0 (by omega) (by omega) sC.rfl (fun k hk => by omega)
/-! the reference -/
theorem m_ask_in (hN : 102 ≤ N) (hV : VX V) (hR : RT V M0) (hF : RF V M0) (hx : soM V (2 ^ (V 0 9).toNat) M0) {X Y : Nat} (hX : (X : Int) < V 0 0) (hY : (Y : Int) < V 0 1) {v1 v2 v3 v4 : Int32} {k42 : Int32 → Int32 → Int32 → am_M → am_O} {Q : Except Nat (Option Value) → am_M → Prop}
    (hk : ∀ M, sM M0 M → soM V (2 ^ (V 0 9).toNat) M → wp (if v2 = (-1) then k42 (i32 (10 * (Y : Int) + (X : Int))) (i32 (wc V X Y)) (v4 + 1) M else if i32 (wc V X Y) < v3 then k42 (i32 (10 * (Y : Int) + (X : Int))) (i32 (wc V X Y)) (v4 + 1) M else k42 v2 v3 (v4 + 1) M) Q) :
    ∀ (d j n : Nat) (M : am_M), j + d = 2 ^ (V 0 9).toNat → d < n → sM M0 M → soM V (2 ^ (V 0 9).toNat) M → (∀ n, n < 25 → M 27 n = i32 (tl V X Y n j)) → wp (f_X10_ask_106 N v1 v2 v3 v4 (i32 (10 * (Y : Int) + (X : Int))) k42 n (i32 (mx (fun n => tl V X Y n j) 25)) (i32 (j : Int)) M) Q := by
  have hw := hV.1.1
  have hh := hV.1.2.1
  have hns := hV.ns
  have hp := pw_8 (n := (V 0 9).toNat) (by omega)
  intro d
  induction d with
  | zero =>
    intro j n M hj hn hs hso hM
    obtain ⟨n, rfl⟩ : ∃ k, n = k + 1 := ⟨n - 1, by omega⟩
    show wp (f_X10_ask_106B N _ _ _ _ _ _ _ _ _ M) _
    unfold f_X10_ask_106B f_X10_ask_218
    rw [(hR.sM hs).2.1.2.2.2.2.1, sh_pw (by omega)]
    rw [show j = 2 ^ (V 0 9).toNat from by omega]
    exact wp_gd ((i32_le (by omega) (by omega) (by omega) (by omega)).mpr (by omega)) (hk M hs hso)
  | succ d ih =>
    intro j n M hj hn hs hso hM
    obtain ⟨n, rfl⟩ : ∃ k, n = k + 1 := ⟨n - 1, by omega⟩
    show wp (f_X10_ask_106B N _ _ _ _ _ _ _ _ _ M) _
    unfold f_X10_ask_106B
    have hRM := hR.sM hs
    have hFM := hF.sM hs
    rw [hRM.2.1.2.2.2.2.1, sh_pw (by omega)]
    refine wp_ng (fun q => absurd ((i32_le (by omega) (by omega) (by omega) (by omega)).mp q) (by omega)) (wp_gd (i32_in (by omega) (by omega) (by omega)) ?_)
    rw [i32_k (by omega), hso.2 j (by omega)]
    have ihj := fun M' => ih (j + 1) n M' (by omega) (by omega)
    by_cases hb : soS V j = true
    · refine wp_ng (by rw [if_pos hb]; decide) ?_
      refine wp_cv (m_wonders1 hN hV hRM (i32 (j : Int)) (fun c hc => (hFM c hc).2)) ?_
      rintro M1 ⟨h1, h1c⟩
      have hR1 := hRM.fr h1
      have hE1 : EM (bV11 V j) M1 := EM_b11 hV hRM hFM h1 h1c
      refine wp_cv (m_shoutE (V := bV11 V j) (fog := 0) hN hV.b11 hR1.vH hE1 (by omega) (x := (X : Int)) (y := (Y : Int)) ⟨by omega, hX⟩ ⟨by omega, hY⟩) ?_
      rintro M2 ⟨h2, hEr⟩
      have hR2 := hR1.sM h2.s
      refine wp_cv (m_wonders0 hN hV hR2 (i32 (j : Int)) (fun c hc => by rw [h2 21 c (by unfold tS; omega)]; exact h1c c hc)) ?_
      rintro M3 ⟨h3, h4⟩
      have hlow := tM.low hFM h1 h2 h3 h4
      have hz : sz (bV11 V j) (X : Int) (Y : Int) ≤ 24 := sz_B hV.b11
      have h48 : M3 0 48 = i32 (sz (bV11 V j) (X : Int) (Y : Int) : Int) := by rw [h3 0 48 (by omega)]; exact hEr.1
      rw [h48]
      refine wp_gd (i32_in (by omega) (by omega) (by omega)) ?_
      rw [i32_k (by omega), up_eq, h3 27 _ (by omega), h2 27 _ (by unfold tS; omega), h1 27 _ (by omega), hM _ (by omega), i32_1, i32_add]
      have hup : ∀ i, tl V X Y i (j + 1) = if i = sz (bV11 V j) (X : Int) (Y : Int) then tl V X Y i j + 1 else tl V X Y i j := by
        intro i
        rw [tl_nx]
        by_cases hi : i = sz (bV11 V j) (X : Int) (Y : Int)
        · rw [if_pos hi, if_pos ⟨hb, hi.symm⟩]
        · rw [if_neg hi, if_neg (fun z => hi z.2.symm)]
      have hB := tl_B (V := V) (x := X) (y := Y) (n := sz (bV11 V j) (X : Int) (Y : Int)) j
      have hmB := mx_ch (P := fun n => tl V X Y n j) 25
      have hm6 : mx (fun n => tl V X Y n j) 25 ≤ 256 := by
        rcases hmB.2.2 with z | ⟨i, hi, hp2⟩
        · omega
        · have := tl_B (V := V) (x := X) (y := Y) (n := i) j
          rw [← hp2]
          show tl V X Y i j ≤ 256
          omega
      have e := mx_up (P := fun n => tl V X Y n j) (Q := fun n => tl V X Y n (j + 1)) (n := 25) (k := sz (bV11 V j) (X : Int) (Y : Int)) (by omega) (by show tl V X Y _ (j + 1) = _; rw [hup, if_pos rfl]) (fun i hi => by show tl V X Y i (j + 1) = _; rw [hup, if_neg hi]) hB.1
      rw [e] at ihj
      have h27 : ∀ M4, M4 = am_up M3 27 (sz (bV11 V j) (X : Int) (Y : Int)) (i32 (tl V X Y (sz (bV11 V j) (X : Int) (Y : Int)) j + 1)) → sM M0 M4 ∧ soM V (2 ^ (V 0 9).toNat) M4 ∧ ∀ n, n < 25 → M4 27 n = i32 (tl V X Y n (j + 1)) := by
        rintro M4 rfl
        refine ⟨(hs.trans hlow.s).up (by unfold mS; omega), ⟨?_, fun s hs2 => ?_⟩, fun n hn2 => ?_⟩
        · rw [up_ne (by omega), hlow 0 62 (by unfold tS; omega)]; exact hso.1
        · rw [up_ne (by omega), hlow 26 s (by unfold tS; omega)]; exact hso.2 s hs2
        · rw [hup]
          by_cases hi : n = sz (bV11 V j) (X : Int) (Y : Int)
          · rw [if_pos hi, hi, up_eq]
          · rw [if_neg hi, up_ne (by omega), hlow 27 n (by unfold tS; omega)]; exact hM n hn2
      rw [show i32 (j : Int) + i32 1 = i32 ((j + 1 : Nat) : Int) from i32_s j]
      obtain ⟨g1, g2, g3⟩ := h27 _ rfl
      by_cases hle : tl V X Y (sz (bV11 V j) (X : Int) (Y : Int)) j + 1 ≤ mx (fun n => tl V X Y n j) 25
      · rw [if_pos hle] at ihj
        exact wp_gd ((i32_le (by omega) (by omega) (by omega) (by omega)).mpr hle) (ihj _ g1 g2 g3)
      · rw [if_neg hle] at ihj
        exact wp_ng (fun q => hle ((i32_le (by omega) (by omega) (by omega) (by omega)).mp q)) (wp_gd (i32_in (by omega) (by omega) (by omega)) (ihj _ g1 g2 g3))
    · refine wp_gd (by rw [if_neg hb]) ?_
      have hup : ∀ i, tl V X Y i (j + 1) = tl V X Y i j := fun i => by rw [tl_nx, if_neg (fun z => hb z.1)]
      rw [mx_congr (P := fun n => tl V X Y n (j + 1)) (Q := fun n => tl V X Y n j) hup] at ihj
      rw [i32_s]
      exact ihj M hs hso (fun n hn2 => by rw [hup]; exact hM n hn2)
theorem m_ask_z (hN : 4200 ≤ N) (hV : VX V) (hR : RT V M0) (hF : RF V M0) (hx : soM V (2 ^ (V 0 9).toNat) M0) {X Y : Nat} (hX : (X : Int) < V 0 0) (hY : (Y : Int) < V 0 1) {v1 v2 v3 v4 : Int32} {k42 : Int32 → Int32 → Int32 → am_M → am_O} {Q : Except Nat (Option Value) → am_M → Prop}
    (hk : ∀ M, sM M0 M → soM V (2 ^ (V 0 9).toNat) M → wp (if v2 = (-1) then k42 (i32 (10 * (Y : Int) + (X : Int))) (i32 (wc V X Y)) (v4 + 1) M else if i32 (wc V X Y) < v3 then k42 (i32 (10 * (Y : Int) + (X : Int))) (i32 (wc V X Y)) (v4 + 1) M else k42 v2 v3 (v4 + 1) M) Q) :
    ∀ (d j n : Nat) (M : am_M), j + d = 25 → d < n → sM M0 M → soM V (2 ^ (V 0 9).toNat) M → (∀ n, n < j → M 27 n = 0) → wp (f_X10_ask_79 N v1 v2 v3 v4 (i32 (10 * (Y : Int) + (X : Int))) k42 n (i32 (j : Int)) M) Q := by
  have hns := hV.ns
  have hp := pw_8 (n := (V 0 9).toNat) (by omega)
  intro d
  induction d with
  | zero =>
    intro j n M hj hn hs hso hM
    obtain ⟨n, rfl⟩ : ∃ k, n = k + 1 := ⟨n - 1, by omega⟩
    show wp (f_X10_ask_79B N _ _ _ _ _ _ _ _ M) _
    unfold f_X10_ask_79B
    refine wp_gd (by rw [show j = 25 from by omega]; decide) ?_
    have e : mx (fun n => tl V X Y n 0) 25 = 0 := mx_un (Int.le_refl 0) (fun i _ => Int.le_refl 0) (Or.inl rfl)
    have := m_ask_in (N := N) (by omega) hV hR hF hx hX hY (v1 := v1) (v2 := v2) (v3 := v3) (v4 := v4) (k42 := k42) hk (2 ^ (V 0 9).toNat) 0 N M (by omega) (by omega) hs hso (fun n hn2 => by rw [hM n (by omega)]; rfl)
    rw [e] at this
    exact this
  | succ d ih =>
    intro j n M hj hn hs hso hM
    obtain ⟨n, rfl⟩ : ∃ k, n = k + 1 := ⟨n - 1, by omega⟩
    show wp (f_X10_ask_79B N _ _ _ _ _ _ _ _ M) _
    unfold f_X10_ask_79B
    refine wp_ng ?_ (wp_gd (i32_in (by omega) (by omega) (by omega)) ?_)
    · rw [show (25 : Int32) = i32 25 from rfl]; exact fun q => absurd ((i32_le (by omega) (by omega) (by omega) (by omega)).mp q) (by omega)
    · rw [i32_k (by omega), i32_s]
      refine ih (j + 1) n _ (by omega) (by omega) (hs.up (by unfold mS; omega)) ⟨(up_ne (by omega)).trans hso.1, fun s h => (up_ne (by omega)).trans (hso.2 s h)⟩ (fun k hk2 => ?_)
      by_cases hkj : k = j
      · rw [hkj, up_eq]
      · rw [up_ne (by omega)]; exact hM k (by omega)
theorem qS_XY (hV : VX V) : ∀ i, i ≤ (V 0 0).toNat * (V 0 1).toNat → (qS V i).1 ≠ -1 → (0 ≤ (qS V i).2.1 ∧ (qS V i).2.1 < V 0 0) ∧ (0 ≤ (qS V i).2.2 ∧ (qS V i).2.2 < V 0 1) := by
  have hw := hV.1.1
  have hh := hV.1.2.1
  intro i
  induction i with
  | zero => intro _ h; exact absurd rfl h
  | succ i ih =>
    intro hi
    rw [qS_nx]
    unfold qF
    have hw0 : 0 < (V 0 0).toNat := by
      rcases Nat.eq_zero_or_pos (V 0 0).toNat with z | z
      · rw [z, Nat.zero_mul] at hi; omega
      · exact z
    have h1 := Nat.mod_lt i hw0
    have h2 : i / (V 0 0).toNat < (V 0 1).toNat := Nat.div_lt_of_lt_mul (by omega)
    split
    · intro _
      have hA : ∀ a b : Nat, a < (V 0 0).toNat → b < (V 0 1).toNat → (0 ≤ (a : Int) ∧ (a : Int) < V 0 0) ∧ (0 ≤ (b : Int) ∧ (b : Int) < V 0 1) := by intro a b; omega
      exact hA _ _ h1 h2
    · exact ih (by omega)
def askV (V : VL) (what : Int) : Int := if what = 0 then (qR V).2.1 else if what = 1 then (qR V).2.2 else (qR V).1
theorem m_ask_lp (hN : 4200 ≤ N) (hV : VX V) (hR : RT V M0) (hF : RF V M0) (hx : soM V (2 ^ (V 0 9).toNat) M0) (h0 : (xpS V (2 ^ (V 0 9).toNat)).1 ≠ 0) {what : Int} (hw : 0 ≤ what ∧ what ≤ 2) : ∀ (d j n : Nat) (M : am_M), j + d = (V 0 0).toNat * (V 0 1).toNat → d < n → sM M0 M → soM V (2 ^ (V 0 9).toNat) M → wp (f_X10_ask_42 N (i32 what) n (if (qS V j).1 = -1 then -1 else i32 (10 * (qS V j).2.2 + (qS V j).2.1)) (if (qS V j).1 = -1 then 0 else i32 (qS V j).1) (i32 (j : Int)) M) (rI fun v M' => v = i32 (askV V what) ∧ sM M0 M') := by
  have hW := hV.1.1
  have hH := hV.1.2.1
  have hwh : (V 0 0).toNat * (V 0 1).toNat ≤ 100 := Nat.mul_le_mul (show (V 0 0).toNat ≤ 10 by omega) (show (V 0 1).toNat ≤ 10 by omega)
  have hmul : V 0 0 * V 0 1 = (((V 0 0).toNat * (V 0 1).toNat : Nat) : Int) := by
    rw [Int.natCast_mul, show (((V 0 0).toNat : Nat) : Int) = V 0 0 from by omega, show (((V 0 1).toNat : Nat) : Int) = V 0 1 from by omega]
  intro d
  induction d with
  | zero =>
    intro j n M hj hn hs hso
    obtain ⟨n, rfl⟩ : ∃ k, n = k + 1 := ⟨n - 1, by omega⟩
    show wp (f_X10_ask_42B N _ _ _ _ _ M) _
    unfold f_X10_ask_42B
    have hB := qS_B hV j
    have hXY := qS_XY hV j (by omega)
    rw [(hR.sM hs).1.1, (hR.sM hs).1.2.1, i32_mul, hmul]
    refine wp_gd ((i32_le (by omega) (by omega) (by omega) (by omega)).mpr (by omega)) ?_
    have hq : qR V = qS V j := by
      unfold qR
      rw [if_neg h0, show (V 0 0).toNat * (V 0 1).toNat = j from by omega]
    unfold askV
    rw [hq]
    by_cases hm : (qS V j).1 = -1
    · refine wp_gd (by rw [if_pos hm]) (wp_i ⟨?_, hs⟩)
      have : qS V j = (-1, -1, -1) := by
        clear hq hj hXY hB
        have : ∀ i, (qS V i).1 = -1 → qS V i = (-1, -1, -1) := by
          intro i
          induction i with
          | zero => intro _; rfl
          | succ i ih =>
            intro hi
            rw [qS_nx] at hi ⊢
            unfold qF at hi ⊢
            have := wc_B hV (x := ((i % (V 0 0).toNat : Nat) : Int)) (y := ((i / (V 0 0).toNat : Nat) : Int))
            split at hi
            · exact absurd hi (by show ¬ (wc V _ _ = -1); omega)
            · rename_i hc
              rw [if_neg hc]
              exact ih hi
        exact this j hm
      rw [this]
      show (-1 : Int32) = i32 (if what = 0 then -1 else if what = 1 then -1 else -1)
      split
      · rfl
      · split <;> rfl
    · have hxy := hXY hm
      rw [if_neg hm, if_neg hm]
      refine wp_ng (fun q => absurd ((i32_eq (b := -1) (by omega) (by omega) (by omega) (by omega)).mp q) (by omega)) ?_
      by_cases h00 : what = 0
      · refine wp_gd ((i32_eq0 (by omega) (by omega)).mpr h00) (wp_i ⟨?_, hs⟩)
        rw [if_pos h00, i32_10, i32_rem (by omega) (by omega) (by omega) (by omega)]
        congr 1
        omega
      · refine wp_ng (fun q => h00 ((i32_eq0 (by omega) (by omega)).mp q)) ?_
        rw [if_neg h00]
        by_cases h01 : what = 1
        · refine wp_gd ((i32_eq1 (by omega) (by omega)).mpr h01) (wp_i ⟨?_, hs⟩)
          rw [if_pos h01, i32_10, i32_div (by omega) (by omega) (by omega) (by omega)]
          congr 1
          omega
        · refine wp_ng (fun q => h01 ((i32_eq1 (by omega) (by omega)).mp q)) (wp_i ⟨?_, hs⟩)
          rw [if_neg h01]
  | succ d ih =>
    intro j n M hj hn hs hso
    obtain ⟨n, rfl⟩ : ∃ k, n = k + 1 := ⟨n - 1, by omega⟩
    show wp (f_X10_ask_42B N _ _ _ _ _ M) _
    unfold f_X10_ask_42B
    have hB := qS_B hV j
    have hXY := qS_XY hV j (by omega)
    have hw0 : 0 < (V 0 0).toNat := by
      rcases Nat.eq_zero_or_pos (V 0 0).toNat with z | z
      · rw [z, Nat.zero_mul] at hj; omega
      · exact z
    have h1 := Nat.mod_lt j hw0
    have h2 : j / (V 0 0).toNat < (V 0 1).toNat := Nat.div_lt_of_lt_mul (by omega)
    rw [(hR.sM hs).1.1, (hR.sM hs).1.2.1, i32_mul, hmul]
    refine wp_ng (fun q => absurd ((i32_le (by omega) (by omega) (by omega) (by omega)).mp q) (by omega)) (wp_gd (fun q => by have := (i32_eq0 (by omega) (by omega)).mp q; omega) ?_)
    rw [i32_rem (by omega) (by omega) (by omega) (by omega), i32_div (by omega) (by omega) (by omega) (by omega), i32_10, i32_mul, i32_add]
    rw [show (j : Int) / V 0 0 = ((j / (V 0 0).toNat : Nat) : Int) from by
      conv => lhs; rw [show V 0 0 = (((V 0 0).toNat : Nat) : Int) from by omega]
      rfl]
    rw [show (j : Int) % V 0 0 = ((j % (V 0 0).toNat : Nat) : Int) from by
      conv => lhs; rw [show V 0 0 = (((V 0 0).toNat : Nat) : Int) from by omega]
      rfl]
    have k1 := qS_nx (V := V) (i := j)
    unfold qF at k1
    have hWB := wc_B hV (x := ((j % (V 0 0).toNat : Nat) : Int)) (y := ((j / (V 0 0).toNat : Nat) : Int))
    have ihj := fun M' => ih (j + 1) n M' (by omega) (by omega)
    refine m_ask_z hN hV (hR.sM hs) (hF.sM hs) hso (X := j % (V 0 0).toNat) (Y := j / (V 0 0).toNat) (by omega) (by omega) (fun M' hs' hso' => ?_) 25 0 N M (by omega) (by omega) sM.rfl hso (fun k hk => by omega)
    rw [i32_s]
    have go : ((qS V j).1 = -1 ∨ wc V ((j % (V 0 0).toNat : Nat) : Int) ((j / (V 0 0).toNat : Nat) : Int) < (qS V j).1) → wp (f_X10_ask_42 N (i32 what) n (i32 (10 * ((j / (V 0 0).toNat : Nat) : Int) + ((j % (V 0 0).toNat : Nat) : Int))) (i32 (wc V ((j % (V 0 0).toNat : Nat) : Int) ((j / (V 0 0).toNat : Nat) : Int))) (i32 ((j + 1 : Nat) : Int)) M') (rI fun v M' => v = i32 (askV V what) ∧ sM M0 M') := by
      intro hh
      rw [if_pos hh] at k1
      have := ihj M' (hs.trans hs') hso'
      rw [k1, if_neg (show ¬ (wc V ((j % (V 0 0).toNat : Nat) : Int) ((j / (V 0 0).toNat : Nat) : Int) = -1) by omega), if_neg (show ¬ (wc V ((j % (V 0 0).toNat : Nat) : Int) ((j / (V 0 0).toNat : Nat) : Int) = -1) by omega)] at this
      exact this
    by_cases hm : (qS V j).1 = -1
    · rw [if_pos hm, if_pos hm]
      exact wp_gd rfl (go (Or.inl hm))
    · have hxy := hXY hm
      rw [if_neg hm, if_neg hm]
      refine wp_ng (fun q => absurd ((i32_eq (b := -1) (by omega) (by omega) (by omega) (by omega)).mp q) (by omega)) ?_
      by_cases hlt : wc V ((j % (V 0 0).toNat : Nat) : Int) ((j / (V 0 0).toNat : Nat) : Int) < (qS V j).1
      · exact wp_gd ((i32_lt (by omega) (by omega) (by omega) (by omega)).mpr hlt) (go (Or.inr hlt))
      · refine wp_ng (fun q => hlt ((i32_lt (by omega) (by omega) (by omega) (by omega)).mp q)) ?_
        rw [if_neg (fun z => by rcases z with z | z; exact hm z; exact hlt z)] at k1
        have := ihj M' (hs.trans hs') hso'
        rw [k1, if_neg hm, if_neg hm] at this
        exact this
