/-! where to ask next -/
variable {N : Nat} {V : VL} {M0 : am_M}
def sz (V : VL) (x y : Int) : Nat := (shE V x y (V 0 2) 0 8).1
theorem sz_B (hV : VX V) {x y : Int} : sz V x y ≤ 24 := (shE_ok hV (fog := 0) (by omega)).2
def tl (V : VL) (x y : Int) (n j : Nat) : Int := it (fun s a => if soS V s = true ∧ sz (bV11 V s) x y = n then a + 1 else a) 0 j
theorem tl_nx {x y : Int} {n j : Nat} : tl V x y n (j + 1) = if soS V j = true ∧ sz (bV11 V j) x y = n then tl V x y n j + 1 else tl V x y n j := rfl
theorem tl_B {x y : Int} {n : Nat} : ∀ j : Nat, 0 ≤ tl V x y n j ∧ tl V x y n j ≤ j := by
  intro j
  induction j with
  | zero => exact ⟨Int.le_refl 0, Int.le_refl 0⟩
  | succ j ih => rw [tl_nx]; split <;> omega
def mx (P : Nat → Int) (n : Nat) : Int := it (fun i w => if w < P i then P i else w) 0 n
theorem mx_nx {P : Nat → Int} {n : Nat} : mx P (n + 1) = if mx P n < P n then P n else mx P n := rfl
theorem mx_ch {P : Nat → Int} : ∀ n, 0 ≤ mx P n ∧ (∀ i, i < n → P i ≤ mx P n) ∧ (mx P n = 0 ∨ ∃ i, i < n ∧ P i = mx P n) := by
  intro n
  induction n with
  | zero => exact ⟨Int.le_refl 0, fun i hi => by omega, Or.inl rfl⟩
  | succ n ih =>
    rw [mx_nx]
    split
    · refine ⟨by omega, fun i hi => ?_, Or.inr ⟨n, by omega, rfl⟩⟩
      by_cases hin : i = n
      · rw [hin]; exact Int.le_refl _
      · have := ih.2.1 i (by omega); omega
    · refine ⟨by omega, fun i hi => ?_, ?_⟩
      · by_cases hin : i = n
        · rw [hin]; omega
        · exact ih.2.1 i (by omega)
      · rcases ih.2.2 with z | ⟨i, h1, h2⟩
        · exact Or.inl z
        · exact Or.inr ⟨i, by omega, h2⟩
theorem mx_un {P : Nat → Int} {n : Nat} {w : Int} (h0 : 0 ≤ w) (h1 : ∀ i, i < n → P i ≤ w) (h2 : w = 0 ∨ ∃ i, i < n ∧ P i = w) : mx P n = w := by
  have c := mx_ch (P := P) n
  apply Int.le_antisymm
  · rcases c.2.2 with z | ⟨i, hi, hp⟩
    · omega
    · have := h1 i hi; omega
  · rcases h2 with z | ⟨i, hi, hp⟩
    · omega
    · have := c.2.1 i hi; omega
theorem mx_up {P Q : Nat → Int} {n k : Nat} (hk : k < n) (h1 : Q k = P k + 1) (h2 : ∀ i, i ≠ k → Q i = P i) (h0 : 0 ≤ P k) : mx Q n = if P k + 1 ≤ mx P n then mx P n else P k + 1 := by
  have c := mx_ch (P := P) n
  split
  · rename_i hle
    refine mx_un c.1 (fun i hi => ?_) ?_
    · by_cases hik : i = k
      · rw [hik, h1]; exact hle
      · rw [h2 i hik]; exact c.2.1 i hi
    · rcases c.2.2 with z | ⟨i, hi, hp⟩
      · exact Or.inl z
      · refine Or.inr ⟨i, hi, ?_⟩
        by_cases hik : i = k
        · rw [hik] at hp; omega
        · rw [h2 i hik]; exact hp
  · rename_i hle
    refine mx_un (by omega) (fun i hi => ?_) (Or.inr ⟨k, hk, h1⟩)
    by_cases hik : i = k
    · rw [hik, h1]; exact Int.le_refl _
    · rw [h2 i hik]; have := c.2.1 i hi; omega
theorem mx_congr {P Q : Nat → Int} {n : Nat} (h : ∀ i, P i = Q i) : mx P n = mx Q n := by rw [show P = Q from funext h]
def wc (V : VL) (x y : Int) : Int := mx (fun n => tl V x y n (2 ^ (V 0 9).toNat)) 25
theorem wc_B (hV : VX V) {x y : Int} : 0 ≤ wc V x y ∧ wc V x y ≤ 256 := by
  have hns := hV.ns
  have hp := pw_8 (n := (V 0 9).toNat) (by omega)
  have c := mx_ch (P := fun n => tl V x y n (2 ^ (V 0 9).toNat)) 25
  refine ⟨c.1, ?_⟩
  rcases c.2.2 with z | ⟨i, hi, hp2⟩
  · unfold wc; omega
  · have := tl_B (V := V) (x := x) (y := y) (n := i) (2 ^ (V 0 9).toNat)
    unfold wc
    rw [← hp2]
    show tl V x y i (2 ^ (V 0 9).toNat) ≤ 256
    omega
def qF (V : VL) (i : Nat) (a : Int × Int × Int) : Int × Int × Int :=
  if a.1 = -1 ∨ wc V ((i % (V 0 0).toNat : Nat) : Int) ((i / (V 0 0).toNat : Nat) : Int) < a.1 then (wc V ((i % (V 0 0).toNat : Nat) : Int) ((i / (V 0 0).toNat : Nat) : Int), ((i % (V 0 0).toNat : Nat) : Int), ((i / (V 0 0).toNat : Nat) : Int)) else a
def qS (V : VL) (i : Nat) : Int × Int × Int := it (qF V) (-1, -1, -1) i
theorem qS_nx {i : Nat} : qS V (i + 1) = qF V i (qS V i) := rfl
theorem c_cellOf {x y : Int} {M : am_M} : f_X9_cellOf N (i32 x) (i32 y) M = some (.ok (some (.int (i32 (10 * y + x)))), M) := by
  unfold f_X9_cellOf
  rw [i32_10, i32_mul, i32_add, show y * 10 + x = 10 * y + x from by omega]
/-! a shout meets no face outside its ways -/
def onL (x y X Y : Int) : Prop := X = x ∨ Y = y ∨ X - x = Y - y ∨ X - x = y - Y
def lnP (sx sy x y dx dy : Int) : Prop := (dx = 0 → x = sx) ∧ (dy = 0 → y = sy) ∧ (dx = dy → x - sx = y - sy) ∧ (dx = -dy → x - sx = sy - y)
theorem lnP.st {sx sy x y dx dy : Int} (h : lnP sx sy x y dx dy) : lnP sx sy (x + dx) (y + dy) dx dy :=
  ⟨fun q => by have := h.1 q; omega, fun q => by have := h.2.1 q; omega, fun q => by have := h.2.2.1 q; omega, fun q => by have := h.2.2.2 q; omega⟩
theorem lnP.bk {sx sy x y dx dy : Int} (h : lnP sx sy x y dx dy) : lnP sx sy x y (-dx) (-dy) :=
  ⟨fun q => h.1 (by omega), fun q => h.2.1 (by omega), fun q => h.2.2.1 (by omega), fun q => h.2.2.2 (by omega)⟩
theorem lnP.on {sx sy x y dx dy : Int} (h : lnP sx sy x y dx dy) (h1 : -1 ≤ dx ∧ dx ≤ 1) (h2 : -1 ≤ dy ∧ dy ≤ 1) : onL sx sy x y := by
  rcases (by omega : dx = 0 ∨ dy = 0 ∨ dx = dy ∨ dx = -dy) with q | q | q | q
  · exact Or.inl (h.1 q)
  · exact Or.inr (Or.inl (h.2.1 q))
  · exact Or.inr (Or.inr (Or.inl (h.2.2.1 q)))
  · exact Or.inr (Or.inr (Or.inr (h.2.2.2 q)))
theorem sh_go_ln {w h yr fog sx sy : Int} {hd hd' wd : Nat → Int} (hh : ∀ X Y : Int, (0 ≤ X ∧ X < w) → (0 ≤ Y ∧ Y < h) → onL sx sy X Y → hd (10 * Y + X).toNat = hd' (10 * Y + X).toNat) :
    ∀ (n : Nat) (x y dx dy s num t : Int), (-1 ≤ dx ∧ dx ≤ 1) → (-1 ≤ dy ∧ dy ≤ 1) → lnP sx sy x y dx dy → sh_go w h hd wd yr fog sx sy n x y dx dy s num t = sh_go w h hd' wd yr fog sx sy n x y dx dy s num t := by
  intro n
  induction n with
  | zero => intro x y dx dy s num t _ _ _; rfl
  | succ n ih =>
    intro x y dx dy s num t h1 h2 hl
    rw [sh_go, sh_go]
    by_cases hout : x + dx < 0 ∨ y + dy < 0 ∨ w ≤ x + dx ∨ h ≤ y + dy
    · rw [if_pos hout, if_pos hout]
    rw [if_neg hout, if_neg hout, ← hh (x + dx) (y + dy) (by omega) (by omega) (hl.st.on h1 h2), ih (x + dx) (y + dy) dx dy _ (num + 1) (t + 1) h1 h2 hl.st, ih (x + dx) (y + dy) (-dx) (-dy) _ num (t + 1) (by omega) (by omega) hl.st.bk, ih (x + dx) (y + dy) dx dy _ num (t + 1) h1 h2 hl.st]
section LN
variable {H H' : Nat → Int} {x y : Int}
theorem evs_ln (hh : ∀ X Y : Int, (0 ≤ X ∧ X < V 0 0) → (0 ≤ Y ∧ Y < V 0 1) → onL x y X Y → H (10 * Y + X).toNat = H' (10 * Y + X).toNat) (s fog : Int) (k : Nat) : evs (vH V H) x y s fog k = evs (vH V H') x y s fog k :=
  sh_go_ln (w := V 0 0) (h := V 0 1) (hd := H) (hd' := H') (wd := V 7) (yr := V 0 4) hh 99 x y (rgt k) (dwn k) s 0 1 (rgt_B k) (dwn_B k) ⟨fun _ => rfl, fun _ => rfl, fun _ => by omega, fun _ => by omega⟩
theorem shE_ln (hh : ∀ X Y : Int, (0 ≤ X ∧ X < V 0 0) → (0 ≤ Y ∧ Y < V 0 1) → onL x y X Y → H (10 * Y + X).toNat = H' (10 * Y + X).toNat) (s fog : Int) (k : Nat) : shE (vH V H) x y s fog k = shE (vH V H') x y s fog k := by
  unfold shE
  exact it_congr (fun j _ e => by rw [evs_ln hh])
theorem sz_ln (hh : ∀ X Y : Int, (0 ≤ X ∧ X < V 0 0) → (0 ≤ Y ∧ Y < V 0 1) → onL x y X Y → H (10 * Y + X).toNat = H' (10 * Y + X).toNat) : sz (vH V H) x y = sz (vH V H') x y := congrArg (fun e : ES => e.1) (shE_ln hh (V 0 2) 0 8)
end LN
/-! the maybes in a cell's ways -/
theorem bt_tb : ∀ s : Fin 256, ∀ k : Fin 8, bt (i32 ((s.1 : Nat) : Int)) k.1 = if s.1.testBit k.1 then 1 else 0 := by decide +kernel
theorem or_t : ∀ r : Fin 256, ∀ n : Fin 8, i32 ((r.1 : Nat) : Int) ||| bit n.1 = i32 ((r.1 ||| 2 ^ n.1 : Nat) : Int) := by decide +kernel
theorem i32_and (s r : Nat) : i32 (s : Int) &&& i32 (r : Int) = i32 ((s &&& r : Nat) : Int) := by
  apply Int32.toBitVec_inj.mp
  rw [Int32.toBitVec_and]
  show BitVec.ofInt 32 (s : Int) &&& BitVec.ofInt 32 (r : Int) = BitVec.ofInt 32 ((s &&& r : Nat) : Int)
  rw [BitVec.ofInt_natCast, BitVec.ofInt_natCast, BitVec.ofInt_natCast]
  apply BitVec.eq_of_toNat_eq
  rw [BitVec.toNat_and, BitVec.toNat_ofNat, BitVec.toNat_ofNat, BitVec.toNat_ofNat, Nat.and_mod_two_pow]
theorem orB_ex {A : Nat → Bool} : ∀ n, n ≤ 8 → ∃ r : Nat, r < 2 ^ n ∧ orB A 0 n = i32 (r : Int) := by
  intro n
  induction n with
  | zero => intro _; exact ⟨0, by decide, rfl⟩
  | succ n ih =>
    intro hn
    obtain ⟨r, h1, h2⟩ := ih (by omega)
    have hp := pw_8 (n := n) (by omega)
    have hp2 : 2 ^ n < 2 ^ (n + 1) := Nat.pow_lt_pow_right (by omega) (by omega)
    have k1 : orB A 0 (n + 1) = if A n then orB A 0 n ||| bit n else orB A 0 n := rfl
    rw [k1, h2]
    by_cases hA : A n = true
    · rw [if_pos hA]
      exact ⟨r ||| 2 ^ n, Nat.or_lt_two_pow (by omega) hp2, or_t ⟨r, by omega⟩ ⟨n, by omega⟩⟩
    · rw [if_neg hA]
      exact ⟨r, by omega, rfl⟩
def rcA (V : VL) (x y : Int) (k : Nat) : Bool := decide (V 5 (2 * k) = x ∨ V 5 (2 * k + 1) = y ∨ V 5 (2 * k) - x = V 5 (2 * k + 1) - y ∨ V 5 (2 * k) - x = y - V 5 (2 * k + 1))
def rcB (V : VL) (x y : Int) : Int32 := orB (rcA V x y) 0 (V 0 9).toNat
theorem rc_ex (hV : VX V) {x y : Int} : ∃ r : Nat, r < 256 ∧ rcB V x y = i32 (r : Int) := by
  have hns := hV.ns
  have hp := pw_8 (n := (V 0 9).toNat) (by omega)
  obtain ⟨r, h1, h2⟩ := orB_ex (A := rcA V x y) (V 0 9).toNat (by omega)
  exact ⟨r, by omega, h2⟩
theorem and_B {s r : Nat} (h : s < 256) : s &&& r < 256 := Nat.lt_of_le_of_lt Nat.and_le_left h
theorem sz_rc (hV : VX V) {x y : Int} {s r : Nat} (hs : s < 256) (hr : r < 256) (hrc : rcB V x y = i32 (r : Int)) : sz (bV11 V (s &&& r)) x y = sz (bV11 V s) x y := by
  have hns := hV.ns
  have hw := hV.1.1
  have hh := hV.1.2.1
  unfold bV11
  refine sz_ln (fun X Y hX hY ho => ?_)
  have e1 : inS (cl11 V) (i32 ((s &&& r : Nat) : Int)) (V 0 9).toNat (10 * Y + X).toNat = inS (cl11 V) (i32 (s : Int)) (V 0 9).toNat (10 * Y + X).toNat := by
    unfold inS
    refine it_congr (fun k hk b => ?_)
    by_cases hc : (10 * Y + X).toNat = (cl11 V k).toNat
    · have hm := hV.2.2.2.2.2.2.2.1 k (by omega)
      have e : X = V 5 (2 * k) ∧ Y = V 5 (2 * k + 1) := by unfold cl11 at hc; omega
      have ha : rcA V x y k = true := decide_eq_true (by rw [← e.1, ← e.2]; exact ho)
      have hb := bt_orB (A := rcA V x y) (k := k) (by omega) (V 0 9).toNat (by omega)
      rw [if_pos ⟨hk, ha⟩] at hb
      have h2 : bt (i32 (r : Int)) k = 1 := by rw [← hrc]; exact hb
      have t1 : bt (i32 (r : Int)) k = if r.testBit k then 1 else 0 := bt_tb ⟨r, hr⟩ ⟨k, by omega⟩
      have t2 : bt (i32 (s : Int)) k = if s.testBit k then 1 else 0 := bt_tb ⟨s, hs⟩ ⟨k, by omega⟩
      have t3 : bt (i32 ((s &&& r : Nat) : Int)) k = if (s &&& r).testBit k then 1 else 0 := bt_tb ⟨s &&& r, and_B hs⟩ ⟨k, by omega⟩
      have htr : r.testBit k = true := by
        cases q : r.testBit k with
        | true => rfl
        | false => rw [q, h2] at t1; exact absurd t1 (by decide)
      rw [show bt (i32 ((s &&& r : Nat) : Int)) k = bt (i32 (s : Int)) k from by rw [t3, t2, Nat.testBit_and, htr, Bool.and_true]]
    · rw [decide_eq_false (fun z => hc z.2), decide_eq_false (fun z => hc z.2)]
  unfold bH
  rw [e1]
/-! the class -/
def ab (a : Int) : Int := if 0 ≤ a then a else -a
theorem ab_c (a : Int) : (0 ≤ a ∧ ab a = a) ∨ (a < 0 ∧ ab a = -a) := by
  unfold ab
  by_cases h : 0 ≤ a
  · rw [if_pos h]; exact Or.inl ⟨h, rfl⟩
  · rw [if_neg h]; exact Or.inr ⟨by omega, rfl⟩
theorem i32_abs {a : Int} (h1 : -1000 ≤ a) (h2 : a ≤ 1000) : (if 0 ≤ i32 a then i32 a else 0 - i32 a) = i32 (ab a) := by
  unfold ab
  by_cases h : 0 ≤ a
  · rw [if_pos ((i32_0le (by omega) (by omega)).mpr h), if_pos h]
  · rw [if_neg (fun q => h ((i32_0le (by omega) (by omega)).mp q)), if_neg h, i32_0, i32_sub, show 0 - a = -a from by omega]
theorem c_rch_lp (hV : VX V) {M : am_M} (hR : RC V M) {x y : Int} (hx : 0 ≤ x ∧ x < V 0 0) (hy : 0 ≤ y ∧ y < V 0 1) : ∀ (d j n : Nat), j + d = (V 0 9).toNat → d < n → f_X0_maybesReached_5 N (i32 x) (i32 y) n (orB (rcA V x y) 0 j) (i32 (j : Int)) M = some (.ok (some (.int (rcB V x y))), M) := by
  have hw := hV.1.1
  have hh := hV.1.2.1
  have hns := hV.ns
  have hT := hR.2.2.2.2.2.2.1
  intro d
  induction d with
  | zero =>
    intro j n hj hn
    obtain ⟨n, rfl⟩ : ∃ k, n = k + 1 := ⟨n - 1, by omega⟩
    show f_X0_maybesReached_5B N _ _ _ _ _ M = _
    unfold f_X0_maybesReached_5B
    rw [hT.2.2.1, if_pos ((i32_le (by omega) (by omega) (by omega) (by omega)).mpr (by omega)), show j = (V 0 9).toNat from by omega]
    rfl
  | succ d ih =>
    intro j n hj hn
    obtain ⟨n, rfl⟩ : ∃ k, n = k + 1 := ⟨n - 1, by omega⟩
    show f_X0_maybesReached_5B N _ _ _ _ _ M = _
    unfold f_X0_maybesReached_5B
    have hm := hV.2.2.2.2.2.2.2.1 j (by omega)
    have a0 : f_X8_at_11 N (i32 (j : Int)) 0 M = some (.ok (some (.int (i32 (V 5 (2 * j))))), M) := c_at11 hT (by omega) (r := j) (k := 0) (by omega) (by omega)
    have a1 : f_X8_at_11 N (i32 (j : Int)) 1 M = some (.ok (some (.int (i32 (V 5 (2 * j + 1))))), M) := c_at11 hT (by omega) (r := j) (k := 1) (by omega) (by omega)
    have q := ih (j + 1) n (by omega) (by omega)
    have k1 : orB (rcA V x y) 0 (j + 1) = if rcA V x y j then orB (rcA V x y) 0 j ||| bit j else orB (rcA V x y) 0 j := rfl
    rw [hT.2.2.1, if_neg (fun q => absurd ((i32_le (by omega) (by omega) (by omega) (by omega)).mp q) (by omega)), a0]
    simp only [am_bi_i]
    rw [a1]
    simp only [am_bi_i]
    rw [i32_sub, i32_sub, i32_abs (by omega) (by omega), i32_abs (by omega) (by omega)]
    have b1 := ab_c (V 5 (2 * j) - x)
    have b2 := ab_c (V 5 (2 * j + 1) - y)
    have go : rcA V x y j = true → f_X0_maybesReached_77 N (f_X0_maybesReached_5 N (i32 x) (i32 y) n) (i32 x) (i32 y) (orB (rcA V x y) 0 j) (i32 (j : Int)) M = some (.ok (some (.int (rcB V x y))), M) := by
      intro ha
      unfold f_X0_maybesReached_77
      rw [i32_s]
      rw [k1, if_pos ha] at q
      exact q
    by_cases h1 : ab (V 5 (2 * j) - x) = 0
    · rw [if_pos ((i32_eq0 (by omega) (by omega)).mpr h1)]
      exact go (decide_eq_true (by omega))
    rw [if_neg (fun z => h1 ((i32_eq0 (by omega) (by omega)).mp z))]
    by_cases h2 : ab (V 5 (2 * j + 1) - y) = 0
    · rw [if_pos ((i32_eq0 (by omega) (by omega)).mpr h2)]
      exact go (decide_eq_true (by omega))
    rw [if_neg (fun z => h2 ((i32_eq0 (by omega) (by omega)).mp z))]
    by_cases h3 : ab (V 5 (2 * j) - x) = ab (V 5 (2 * j + 1) - y)
    · rw [if_pos ((i32_eq (by omega) (by omega) (by omega) (by omega)).mpr h3)]
      exact go (decide_eq_true (by omega))
    rw [if_neg (fun z => h3 ((i32_eq (by omega) (by omega) (by omega) (by omega)).mp z)), i32_s]
    have ha : ¬ rcA V x y j = true := fun z => by have z := of_decide_eq_true z; omega
    rw [k1, if_neg ha] at q
    exact q
theorem c_rch (hN : 102 ≤ N) (hV : VX V) {M : am_M} (hR : RC V M) {x y : Int} (hx : 0 ≤ x ∧ x < V 0 0) (hy : 0 ≤ y ∧ y < V 0 1) : f_X0_maybesReached N (i32 x) (i32 y) M = some (.ok (some (.int (rcB V x y))), M) :=
  have hns := hV.ns
  c_rch_lp hV hR hx hy (V 0 9).toNat 0 N (by omega) (by omega)
def sL (M M' : am_M) : Prop := ∀ a b, a < 51 ∨ (a = 51 ∧ b = 6) ∨ (56 < a ∧ a ≠ 67 ∧ a ≠ 68) → M' a b = M a b
theorem sL.trans {M M' M'' : am_M} (h1 : sL M M') (h2 : sL M' M'') : sL M M'' := fun a b h => (h2 a b h).trans (h1 a b h)
theorem sL.c {M M' : am_M} (h : sL M M') : sC M M' := fun a b q => h a b (by omega)
theorem sL.up {M M' : am_M} (h : sL M M') {k j : Nat} {v : Int32} (hk : k = 67 ∨ k = 68) : sL M (am_up M' k j v) := fun a b q => by
  rw [up_ne (by omega)]; exact h a b q
/-- what the class keeps of one cell's shouts -/
def eW (V : VL) (x y : Int) (M : am_M) : Prop := ∀ s, s < 256 → M 67 s = -1 ∨ M 67 s = i32 (sz (bV11 V s) x y : Int)
def soC (V : VL) (M : am_M) : Prop := ∀ s, s < 2 ^ (V 0 9).toNat → M 66 s = if soS V s then 1 else 0
theorem c_cnt (hN : 102 ≤ N) (hV : VX V) {M : am_M} (hR : RC V M) {x y : Int} (hx : 0 ≤ x ∧ x < V 0 0) (hy : 0 ≤ y ∧ y < V 0 1) {s : Nat} (hs : s < 256) (he : eW V x y M) : wp (f_X0_countWith N (i32 x) (i32 y) (i32 (s : Int)) M) (rI fun v M' => v = i32 (sz (bV11 V s) x y : Int) ∧ eW V x y M' ∧ sL M M' ∧ ∀ b, M' 68 b = M 68 b) := by
  unfold f_X0_countWith
  refine wp_gd (i32_in (by omega) (by omega) (by omega)) ?_
  rw [i32_k (by omega)]
  by_cases h0 : M 67 s = -1
  · refine wp_gd h0 ?_
    refine wp_ci (c_raise11 hN hV hR (i32 (s : Int))) ?_
    rintro v M1 ⟨rfl, h1, h1c⟩
    have hR1 : RC (bV11 V s) M1 := hR.fr h1 h1c
    refine wp_cv (c_shoutE (V := bV11 V s) hN hV.b11 hR1 (fog := 0) (by omega) (x := x) (y := y) hx hy) ?_
    rintro M2 ⟨h2, hE2, h56⟩
    have hR2 : RC (bV11 V s) M2 := hR1.sC h2
    refine wp_cv (c_lower11 hN hV hR2 (i32 (s : Int)) (fun c hc => (hR2.1.2.2.2 c hc).1)) ?_
    rintro M3 ⟨h3, h4⟩
    have h51 : M3 51 0 = i32 (sz (bV11 V s) x y : Int) := by rw [h3 51 0 (by omega)]; exact hE2.1
    have g : ∀ a b, 57 ≤ a → M3 a b = M a b := fun a b q => by rw [h3 a b (by omega), h56 a b (by omega), h1 a b (by omega)]
    refine wp_gd (i32_in (by omega) (by omega) (by omega)) (wp_i ⟨?_, fun t ht => ?_, fun a b q => ?_, fun b => ?_⟩)
    · rw [up_eq]; exact h51
    · by_cases hts : t = s
      · rw [hts, up_eq]; exact Or.inr h51
      · rw [up_ne (by omega), g 67 t (by omega)]; exact he t ht
    · rw [up_ne (by omega)]
      by_cases hab : a = 14 ∧ b < 100
      · rw [hab.1, h4 b hab.2, ← (hR.1.2.2.2 b hab.2).1]
      · rcases q with q | q | q
        · rw [h3 a b (by omega), h2 a b (by omega), h1 a b (by omega)]
        · rw [h3 a b (by omega), h2 a b (by omega), h1 a b (by omega)]
        · exact g a b (by omega)
    · rw [up_ne (by omega)]; exact g 68 b (by omega)
  · refine wp_ng h0 (wp_gd (i32_in (by omega) (by omega) (by omega)) (wp_i ⟨?_, he, fun _ _ _ => rfl, fun _ => rfl⟩))
    exact (he s hs).resolve_left h0
theorem c_lw_in (hN : 102 ≤ N) (hV : VX V) (hR : RC V M0) (hx : soC V M0) {X Y : Nat} (hX : (X : Int) < V 0 0) (hY : (Y : Int) < V 0 1) {r : Nat} (hr : r < 256) (hrc : rcB V X Y = i32 (r : Int)) :
    ∀ (d j n : Nat) (M : am_M), j + d = 2 ^ (V 0 9).toNat → d < n → sL M0 M → eW V X Y M → (∀ n, n < 25 → M 68 n = i32 (tl V X Y n j)) → wp (f_X0_leftAtWorst_56 N (i32 (X : Int)) (i32 (Y : Int)) (i32 (r : Int)) n (i32 (mx (fun n => tl V X Y n j) 25)) (i32 (j : Int)) M) (rI fun v M' => v = i32 (wc V X Y) ∧ sL M0 M') := by
  have hw := hV.1.1
  have hh := hV.1.2.1
  have hns := hV.ns
  have hp := pw_8 (n := (V 0 9).toNat) (by omega)
  intro d
  induction d with
  | zero =>
    intro j n M hj hn hs he hM
    obtain ⟨n, rfl⟩ : ∃ k, n = k + 1 := ⟨n - 1, by omega⟩
    show wp (f_X0_leftAtWorst_56B N _ _ _ _ _ _ M) _
    unfold f_X0_leftAtWorst_56B
    rw [(hR.sC hs.c).2.2.2.2.2.2.1.2.2.1, sh_pw (by omega)]
    rw [show j = 2 ^ (V 0 9).toNat from by omega]
    exact wp_gd ((i32_le (by omega) (by omega) (by omega) (by omega)).mpr (by omega)) (wp_i ⟨rfl, hs⟩)
  | succ d ih =>
    intro j n M hj hn hs he hM
    obtain ⟨n, rfl⟩ : ∃ k, n = k + 1 := ⟨n - 1, by omega⟩
    show wp (f_X0_leftAtWorst_56B N _ _ _ _ _ _ M) _
    unfold f_X0_leftAtWorst_56B
    have hRM := hR.sC hs.c
    rw [hRM.2.2.2.2.2.2.1.2.2.1, sh_pw (by omega)]
    refine wp_ng (fun q => absurd ((i32_le (by omega) (by omega) (by omega) (by omega)).mp q) (by omega)) (wp_gd (i32_in (by omega) (by omega) (by omega)) ?_)
    rw [i32_k (by omega), hs 66 j (by omega), hx j (by omega)]
    have ihj := fun M' => ih (j + 1) n M' (by omega) (by omega)
    by_cases hb : soS V j = true
    · refine wp_ng (by rw [if_pos hb]; decide) ?_
      rw [i32_and]
      refine wp_ci (c_cnt hN hV hRM (x := (X : Int)) (y := (Y : Int)) ⟨by omega, hX⟩ ⟨by omega, hY⟩ (and_B (s := j) (r := r) (by omega)) he) ?_
      rintro v M1 ⟨rfl, he1, hs1, h68⟩
      rw [sz_rc hV (s := j) (by omega) hr hrc]
      have hz : sz (bV11 V j) (X : Int) (Y : Int) ≤ 24 := sz_B hV.b11
      refine wp_gd (i32_in (by omega) (by omega) (by omega)) ?_
      rw [i32_k (by omega), up_eq, h68, hM _ (by omega), i32_1, i32_add]
      have hup : ∀ i, tl V X Y i (j + 1) = if i = sz (bV11 V j) (X : Int) (Y : Int) then tl V X Y i j + 1 else tl V X Y i j := by
        intro i
        rw [tl_nx]
        by_cases hi : i = sz (bV11 V j) (X : Int) (Y : Int)
        · rw [if_pos hi, if_pos ⟨hb, hi.symm⟩]
        · rw [if_neg hi, if_neg (fun z => hi z.2.symm)]
      have hB := tl_B (V := V) (x := X) (y := Y) (n := sz (bV11 V j) (X : Int) (Y : Int)) j
      have hmB := mx_ch (P := fun n => tl V X Y n j) 25
      have hm6 : mx (fun n => tl V X Y n j) 25 ≤ 256 := by
        rcases hmB.2.2 with z | ⟨i, hi, hp2⟩
        · omega
        · have := tl_B (V := V) (x := X) (y := Y) (n := i) j
          rw [← hp2]
          show tl V X Y i j ≤ 256
          omega
      have e := mx_up (P := fun n => tl V X Y n j) (Q := fun n => tl V X Y n (j + 1)) (n := 25) (k := sz (bV11 V j) (X : Int) (Y : Int)) (by omega) (by show tl V X Y _ (j + 1) = _; rw [hup, if_pos rfl]) (fun i hi => by show tl V X Y i (j + 1) = _; rw [hup, if_neg hi]) hB.1
      rw [e] at ihj
      have g1 : sL M0 (am_up M1 68 (sz (bV11 V j) (X : Int) (Y : Int)) (i32 (tl V X Y (sz (bV11 V j) (X : Int) (Y : Int)) j + 1))) := (hs.trans hs1).up (Or.inr rfl)
      have g2 : eW V X Y (am_up M1 68 (sz (bV11 V j) (X : Int) (Y : Int)) (i32 (tl V X Y (sz (bV11 V j) (X : Int) (Y : Int)) j + 1))) := fun s h => by rw [up_ne (by omega)]; exact he1 s h
      have g3 : ∀ n, n < 25 → am_up M1 68 (sz (bV11 V j) (X : Int) (Y : Int)) (i32 (tl V X Y (sz (bV11 V j) (X : Int) (Y : Int)) j + 1)) 68 n = i32 (tl V X Y n (j + 1)) := by
        intro n hn2
        rw [hup]
        by_cases hi : n = sz (bV11 V j) (X : Int) (Y : Int)
        · rw [if_pos hi, hi, up_eq]
        · rw [if_neg hi, up_ne (by omega), h68]; exact hM n hn2
      rw [show i32 (j : Int) + i32 1 = i32 ((j + 1 : Nat) : Int) from i32_s j]
      by_cases hle : tl V X Y (sz (bV11 V j) (X : Int) (Y : Int)) j + 1 ≤ mx (fun n => tl V X Y n j) 25
      · rw [if_pos hle] at ihj
        rw [if_neg (fun q => absurd ((i32_lt (by omega) (by omega) (by omega) (by omega)).mp q) (by omega))]
        exact ihj _ g1 g2 g3
      · rw [if_neg hle] at ihj
        rw [if_pos ((i32_lt (by omega) (by omega) (by omega) (by omega)).mpr (by omega))]
        exact ihj _ g1 g2 g3
    · refine wp_gd (by rw [if_neg hb]) ?_
      have hup : ∀ i, tl V X Y i (j + 1) = tl V X Y i j := fun i => by rw [tl_nx, if_neg (fun z => hb z.1)]
      rw [mx_congr (P := fun n => tl V X Y n (j + 1)) (Q := fun n => tl V X Y n j) hup] at ihj
      rw [i32_s]
      exact ihj M hs he (fun n hn2 => by rw [hup]; exact hM n hn2)
theorem c_lw_e (hN : 302 ≤ N) (hV : VX V) (hR : RC V M0) (hx : soC V M0) {X Y : Nat} (hX : (X : Int) < V 0 0) (hY : (Y : Int) < V 0 1) :
    ∀ (d j n : Nat) (M : am_M), j + d = 256 → d < n → sL M0 M → (∀ s, s < j → M 67 s = -1) → (∀ n, n < 25 → M 68 n = 0) → wp (f_X0_leftAtWorst_23 N (i32 (X : Int)) (i32 (Y : Int)) n (i32 (j : Int)) M) (rI fun v M' => v = i32 (wc V X Y) ∧ sL M0 M') := by
  have hns := hV.ns
  have hp := pw_8 (n := (V 0 9).toNat) (by omega)
  intro d
  induction d with
  | zero =>
    intro j n M hj hn hs he hM
    obtain ⟨n, rfl⟩ : ∃ k, n = k + 1 := ⟨n - 1, by omega⟩
    show wp (f_X0_leftAtWorst_23B N _ _ _ _ M) _
    unfold f_X0_leftAtWorst_23B
    refine wp_gd ?_ ?_
    · rw [show (256 : Int32) = i32 256 from rfl]; exact (i32_le (by omega) (by omega) (by omega) (by omega)).mpr (by omega)
    · obtain ⟨r, hr, hrc⟩ := rc_ex hV (x := (X : Int)) (y := (Y : Int))
      rw [c_rch (by omega) hV (hR.sC hs.c) (x := (X : Int)) (y := (Y : Int)) ⟨by omega, hX⟩ ⟨by omega, hY⟩]
      simp only [am_bi_i]
      rw [hrc]
      have e : mx (fun n => tl V X Y n 0) 25 = 0 := mx_un (Int.le_refl 0) (fun i _ => Int.le_refl 0) (Or.inl rfl)
      have := c_lw_in (N := N) (by omega) hV hR hx hX hY hr hrc (2 ^ (V 0 9).toNat) 0 N M (by omega) (by omega) hs (fun s h => Or.inl (he s (by omega))) (fun n hn2 => by rw [hM n hn2]; rfl)
      rw [e] at this
      exact this
  | succ d ih =>
    intro j n M hj hn hs he hM
    obtain ⟨n, rfl⟩ : ∃ k, n = k + 1 := ⟨n - 1, by omega⟩
    show wp (f_X0_leftAtWorst_23B N _ _ _ _ M) _
    unfold f_X0_leftAtWorst_23B
    refine wp_ng ?_ (wp_gd (i32_in (by omega) (by omega) (by omega)) ?_)
    · rw [show (256 : Int32) = i32 256 from rfl]; exact fun q => absurd ((i32_le (by omega) (by omega) (by omega) (by omega)).mp q) (by omega)
    · rw [i32_k (by omega), i32_s]
      refine ih (j + 1) n _ (by omega) (by omega) (hs.up (Or.inl rfl)) (fun s h => ?_) (fun k hk => ?_)
      · by_cases hsj : s = j
        · rw [hsj, up_eq]
        · rw [up_ne (by omega)]; exact he s (by omega)
      · rw [up_ne (by omega)]; exact hM k hk
theorem c_left (hN : 302 ≤ N) (hV : VX V) (hR : RC V M0) (hx : soC V M0) {X Y : Nat} (hX : (X : Int) < V 0 0) (hY : (Y : Int) < V 0 1) : wp (f_X0_leftAtWorst N (i32 (X : Int)) (i32 (Y : Int)) M0) (rI fun v M' => v = i32 (wc V X Y) ∧ sL M0 M') := by
  have lp : ∀ (d j n : Nat) (M : am_M), j + d = 25 → d < n → sL M0 M → (∀ k, k < j → M 68 k = 0) → wp (f_X0_leftAtWorst_2 N (i32 (X : Int)) (i32 (Y : Int)) n (i32 (j : Int)) M) (rI fun v M' => v = i32 (wc V X Y) ∧ sL M0 M') := by
    intro d
    induction d with
    | zero =>
      intro j n M hj hn hs hM
      obtain ⟨n, rfl⟩ : ∃ k, n = k + 1 := ⟨n - 1, by omega⟩
      show wp (f_X0_leftAtWorst_2B N _ _ _ _ M) _
      unfold f_X0_leftAtWorst_2B
      refine wp_gd ((i32_24lt (by omega) (by omega)).mpr (by omega)) ?_
      exact c_lw_e hN hV hR hx hX hY 256 0 N M (by omega) (by omega) hs (fun s h => by omega) (fun k hk => hM k (by omega))
    | succ d ih =>
      intro j n M hj hn hs hM
      obtain ⟨n, rfl⟩ : ∃ k, n = k + 1 := ⟨n - 1, by omega⟩
      show wp (f_X0_leftAtWorst_2B N _ _ _ _ M) _
      unfold f_X0_leftAtWorst_2B
      refine wp_ng (fun q => absurd ((i32_24lt (by omega) (by omega)).mp q) (by omega)) (wp_gd (i32_in (by omega) (by omega) (by omega)) ?_)
      rw [i32_k (by omega), i32_s]
      refine ih (j + 1) n _ (by omega) (by omega) (hs.up (Or.inr rfl)) (fun k hk => ?_)
      by_cases hkj : k = j
      · rw [hkj, up_eq]
      · rw [up_ne (by omega)]; exact hM k (by omega)
  exact lp 25 0 N M0 (by omega) (by omega) (fun _ _ _ => rfl) (fun k hk => by omega)
def qC (a : Int × Int × Int) (M : am_M) : Prop := M 65 4 = i32 a.2.1 ∧ M 65 5 = i32 a.2.2 ∧ M 65 6 = i32 a.1
theorem qS_B (hV : VX V) : ∀ i, (-1 ≤ (qS V i).1 ∧ (qS V i).1 ≤ 256) ∧ (-1 ≤ (qS V i).2.1) ∧ (-1 ≤ (qS V i).2.2) := by
  intro i
  induction i with
  | zero => exact ⟨⟨Int.le_refl (-1), (by decide : (-1 : Int) ≤ 256)⟩, Int.le_refl (-1), Int.le_refl (-1)⟩
  | succ i ih =>
    rw [qS_nx]
    unfold qF
    have := wc_B hV (x := ((i % (V 0 0).toNat : Nat) : Int)) (y := ((i / (V 0 0).toNat : Nat) : Int))
    split
    · exact ⟨⟨by omega, by omega⟩, Int.le_trans (by decide : (-1 : Int) ≤ 0) (Int.natCast_nonneg _), Int.le_trans (by decide : (-1 : Int) ≤ 0) (Int.natCast_nonneg _)⟩
    · exact ih
def sQ (M M' : am_M) : Prop := ∀ a b, a < 51 ∨ (a = 51 ∧ b = 6) ∨ a = 66 → M' a b = M a b
theorem sQ.c {M M' : am_M} (h : sQ M M') : sC M M' := fun a b q => h a b (by omega)
theorem c_choose (hN : 302 ≤ N) (hV : VX V) (hR : RC V M0) (hx : soC V M0) (hq0 : qC (-1, -1, -1) M0) : wp (f_X0_findQuestion_29 N N 0 M0) (rV fun M' => sC M0 M' ∧ qC (qS V ((V 0 0).toNat * (V 0 1).toNat)) M') := by
  have hw := hV.1.1
  have hh := hV.1.2.1
  have hns := hV.ns
  have hp := pw_8 (n := (V 0 9).toNat) (by omega)
  have lpx : ∀ {Y : Nat} {k2 : Int32 → am_M → am_O} {Q : Except Nat (Option Value) → am_M → Prop}, (Y : Int) < V 0 1 → (∀ M, sQ M0 M → qC (qS V ((V 0 0).toNat * (Y + 1))) M → wp (k2 (i32 ((Y + 1 : Nat) : Int)) M) Q) → ∀ (d j n : Nat) (M : am_M), j + d = (V 0 0).toNat → d < n → sQ M0 M → qC (qS V ((V 0 0).toNat * Y + j)) M → wp (f_X0_findQuestion_42 N (i32 (Y : Int)) k2 n (i32 (j : Int)) M) Q := by
    intro Y k2 Q hY hk d
    induction d with
    | zero =>
      intro j n M hj hn hs hq
      obtain ⟨n, rfl⟩ : ∃ k, n = k + 1 := ⟨n - 1, by omega⟩
      show wp (f_X0_findQuestion_42B N _ _ _ _ M) _
      unfold f_X0_findQuestion_42B
      rw [hs 2 0 (by omega), hR.1.1]
      refine wp_gd ((i32_le (by omega) (by omega) (by omega) (by omega)).mpr (by omega)) ?_
      rw [show (V 0 0).toNat * Y + j = (V 0 0).toNat * (Y + 1) from by rw [Nat.mul_add]; omega] at hq
      rw [i32_s]
      exact hk M hs hq
    | succ d ih =>
      intro j n M hj hn hs hq
      obtain ⟨n, rfl⟩ : ∃ k, n = k + 1 := ⟨n - 1, by omega⟩
      show wp (f_X0_findQuestion_42B N _ _ _ _ M) _
      unfold f_X0_findQuestion_42B
      rw [hs 2 0 (by omega), hR.1.1]
      refine wp_ng (fun q => absurd ((i32_le (by omega) (by omega) (by omega) (by omega)).mp q) (by omega)) ?_
      have hxM : soC V M := fun s h => by rw [hs 66 s (by omega)]; exact hx s h
      refine wp_ci (c_left hN hV (hR.sC hs.c) hxM (X := j) (Y := Y) (by omega) hY) ?_
      rintro v M1 ⟨rfl, h1⟩
      have hs1 : sQ M0 M1 := fun a b q => by rw [h1 a b (by omega)]; exact hs a b q
      have hq1 : qC (qS V ((V 0 0).toNat * Y + j)) M1 := ⟨by rw [h1 65 4 (by omega)]; exact hq.1, by rw [h1 65 5 (by omega)]; exact hq.2.1, by rw [h1 65 6 (by omega)]; exact hq.2.2⟩
      have hB := qS_B hV ((V 0 0).toNat * Y + j)
      have hWB := wc_B hV (x := (j : Int)) (y := (Y : Int))
      have k1 := qS_nx (V := V) (i := (V 0 0).toNat * Y + j)
      unfold qF at k1
      rw [Nat.mul_add_mod, Nat.mod_eq_of_lt (by omega : j < (V 0 0).toNat), Nat.mul_add_div (by omega : 0 < (V 0 0).toNat), Nat.div_eq_of_lt (by omega : j < (V 0 0).toNat), Nat.add_zero Y] at k1
      rw [hq1.2.2, i32_s]
      have go : ((qS V ((V 0 0).toNat * Y + j)).1 = -1 ∨ wc V (j : Int) (Y : Int) < (qS V ((V 0 0).toNat * Y + j)).1) → wp (f_X0_findQuestion_76 N k2 (f_X0_findQuestion_42 N (i32 (Y : Int)) k2 n) (i32 (Y : Int)) (i32 (j : Int)) (i32 (wc V (j : Int) (Y : Int))) M1) Q := by
        intro hh2
        unfold f_X0_findQuestion_76
        rw [if_pos hh2] at k1
        rw [i32_s]
        refine ih (j + 1) n _ (by omega) (by omega) (fun a b q => by rw [up_ne (by omega), up_ne (by omega), up_ne (by omega)]; exact hs1 a b q) ?_
        rw [← Nat.add_assoc, k1]
        refine ⟨?_, ?_, ?_⟩
        · rw [up_ne (by omega), up_ne (by omega), up_eq]
        · rw [up_ne (by omega), up_eq]
        · rw [up_eq]
      by_cases hm : (qS V ((V 0 0).toNat * Y + j)).1 = -1
      · exact wp_gd (by rw [hm]; rfl) (go (Or.inl hm))
      · refine wp_ng (fun q => hm ((i32_eq (by omega) (by omega) (by omega) (by omega)).mp q)) ?_
        by_cases hlt : wc V (j : Int) (Y : Int) < (qS V ((V 0 0).toNat * Y + j)).1
        · exact wp_ng (fun q => absurd ((i32_le (by omega) (by omega) (by omega) (by omega)).mp q) (by omega)) (go (Or.inr hlt))
        · refine wp_gd ((i32_le (by omega) (by omega) (by omega) (by omega)).mpr (by omega)) ?_
          rw [if_neg (fun z => by rcases z with z | z; exact hm z; exact hlt z)] at k1
          refine ih (j + 1) n M1 (by omega) (by omega) hs1 ?_
          rw [← Nat.add_assoc, k1]
          exact hq1
  have lp : ∀ (d j n : Nat) (M : am_M), j + d = (V 0 1).toNat → d < n → sQ M0 M → qC (qS V ((V 0 0).toNat * j)) M → wp (f_X0_findQuestion_29 N n (i32 (j : Int)) M) (rV fun M' => sC M0 M' ∧ qC (qS V ((V 0 0).toNat * (V 0 1).toNat)) M') := by
    intro d
    induction d with
    | zero =>
      intro j n M hj hn hs hq
      obtain ⟨n, rfl⟩ : ∃ k, n = k + 1 := ⟨n - 1, by omega⟩
      show wp (f_X0_findQuestion_29B N _ _ M) _
      unfold f_X0_findQuestion_29B
      rw [hs 2 1 (by omega), hR.1.2.1]
      rw [show j = (V 0 1).toNat from by omega] at hq
      exact wp_gd ((i32_le (by omega) (by omega) (by omega) (by omega)).mpr (by omega)) (wp_v ⟨hs.c, hq⟩)
    | succ d ih =>
      intro j n M hj hn hs hq
      obtain ⟨n, rfl⟩ : ∃ k, n = k + 1 := ⟨n - 1, by omega⟩
      show wp (f_X0_findQuestion_29B N _ _ M) _
      unfold f_X0_findQuestion_29B
      rw [hs 2 1 (by omega), hR.1.2.1]
      refine wp_ng (fun q => absurd ((i32_le (by omega) (by omega) (by omega) (by omega)).mp q) (by omega)) ?_
      exact lpx (Y := j) (by omega) (fun M' h1 h2 => ih (j + 1) n M' (by omega) (by omega) h1 h2) (V 0 0).toNat 0 N M (by omega) (by omega) hs hq
  exact lp (V 0 1).toNat 0 N M0 (by omega) (by omega) (fun _ _ _ => rfl) hq0
def qR (V : VL) : Int × Int × Int := if (xpS V (2 ^ (V 0 9).toNat)).1 = 0 then (-1, -1, -1) else qS V ((V 0 0).toNat * (V 0 1).toNat)
theorem c_q (hN : 4200 ≤ N) (hV : VX V) (hR : RC V M0) : wp (f_X0_findQuestion N M0) (rV fun M' => sC M0 M' ∧ qC (qR V) M') := by
  have hns := hV.ns
  have hp := pw_8 (n := (V 0 9).toNat) (by omega)
  unfold f_X0_findQuestion
  have hs1 : sC M0 (am_up (am_up (am_up M0 65 4 (-1)) 65 5 (-1)) 65 6 (-1)) := ((sC.rfl.up (by omega) (by omega)).up (by omega) (by omega)).up (by omega) (by omega)
  refine wp_cv (c_setsG (by omega) hV (hR.sC hs1)) ?_
  rintro M1 ⟨h1, h2, h3⟩
  have hB := xpS_B (V := V) (2 ^ (V 0 9).toNat)
  have hq0 : qC (-1, -1, -1) M1 := ⟨by rw [h3.2 4 (by omega), up_ne (by omega), up_ne (by omega), up_eq]; rfl, by rw [h3.2 5 (by omega), up_ne (by omega), up_eq]; rfl, by rw [h3.2 6 (by omega), up_eq]; rfl⟩
  rw [h2.1]
  by_cases h0 : (xpS V (2 ^ (V 0 9).toNat)).1 = 0
  · rw [show qR V = (-1, -1, -1) from by unfold qR; rw [if_pos h0]]
    exact wp_gd ((i32_eq0 (by omega) (by omega)).mpr h0) (wp_v ⟨hs1.trans h1, hq0⟩)
  · rw [show qR V = qS V ((V 0 0).toNat * (V 0 1).toNat) from by unfold qR; rw [if_neg h0]]
    refine wp_ng (fun q => h0 ((i32_eq0 (by omega) (by omega)).mp q)) ?_
    exact wp_mv (c_choose (by omega) hV ((hR.sC hs1).sC h1) h3.1 hq0) (fun M' q => ⟨hs1.trans (h1.trans q.1), q.2⟩)
/-! the reference -/
theorem m_ask_in (hN : 102 ≤ N) (hV : VX V) (hR : RT V M0) (hF : RF V M0) (hx : soM V (2 ^ (V 0 9).toNat) M0) {X Y : Nat} (hX : (X : Int) < V 0 0) (hY : (Y : Int) < V 0 1) {v1 v2 v3 v4 : Int32} {k42 : Int32 → Int32 → Int32 → am_M → am_O} {Q : Except Nat (Option Value) → am_M → Prop}
    (hk : ∀ M, sM M0 M → soM V (2 ^ (V 0 9).toNat) M → wp (if v2 = (-1) then k42 (i32 (10 * (Y : Int) + (X : Int))) (i32 (wc V X Y)) (v4 + 1) M else if i32 (wc V X Y) < v3 then k42 (i32 (10 * (Y : Int) + (X : Int))) (i32 (wc V X Y)) (v4 + 1) M else k42 v2 v3 (v4 + 1) M) Q) :
    ∀ (d j n : Nat) (M : am_M), j + d = 2 ^ (V 0 9).toNat → d < n → sM M0 M → soM V (2 ^ (V 0 9).toNat) M → (∀ n, n < 25 → M 27 n = i32 (tl V X Y n j)) → wp (f_X10_ask_106 N v1 v2 v3 v4 (i32 (10 * (Y : Int) + (X : Int))) k42 n (i32 (mx (fun n => tl V X Y n j) 25)) (i32 (j : Int)) M) Q := by
  have hw := hV.1.1
  have hh := hV.1.2.1
  have hns := hV.ns
  have hp := pw_8 (n := (V 0 9).toNat) (by omega)
  intro d
  induction d with
  | zero =>
    intro j n M hj hn hs hso hM
    obtain ⟨n, rfl⟩ : ∃ k, n = k + 1 := ⟨n - 1, by omega⟩
    show wp (f_X10_ask_106B N _ _ _ _ _ _ _ _ _ M) _
    unfold f_X10_ask_106B f_X10_ask_218
    rw [(hR.sM hs).2.1.2.2.2.2.1, sh_pw (by omega)]
    rw [show j = 2 ^ (V 0 9).toNat from by omega]
    exact wp_gd ((i32_le (by omega) (by omega) (by omega) (by omega)).mpr (by omega)) (hk M hs hso)
  | succ d ih =>
    intro j n M hj hn hs hso hM
    obtain ⟨n, rfl⟩ : ∃ k, n = k + 1 := ⟨n - 1, by omega⟩
    show wp (f_X10_ask_106B N _ _ _ _ _ _ _ _ _ M) _
    unfold f_X10_ask_106B
    have hRM := hR.sM hs
    have hFM := hF.sM hs
    rw [hRM.2.1.2.2.2.2.1, sh_pw (by omega)]
    refine wp_ng (fun q => absurd ((i32_le (by omega) (by omega) (by omega) (by omega)).mp q) (by omega)) (wp_gd (i32_in (by omega) (by omega) (by omega)) ?_)
    rw [i32_k (by omega), hso.2 j (by omega)]
    have ihj := fun M' => ih (j + 1) n M' (by omega) (by omega)
    by_cases hb : soS V j = true
    · refine wp_ng (by rw [if_pos hb]; decide) ?_
      refine wp_cv (m_wonders1 hN hV hRM (i32 (j : Int)) (fun c hc => (hFM c hc).2)) ?_
      rintro M1 ⟨h1, h1c⟩
      have hR1 := hRM.fr h1
      have hE1 : EM (bV11 V j) M1 := EM_b11 hV hRM hFM h1 h1c
      refine wp_cv (m_shoutE (V := bV11 V j) (fog := 0) hN hV.b11 hR1.vH hE1 (by omega) (x := (X : Int)) (y := (Y : Int)) ⟨by omega, hX⟩ ⟨by omega, hY⟩) ?_
      rintro M2 ⟨h2, hEr⟩
      have hR2 := hR1.sM h2.s
      refine wp_cv (m_wonders0 hN hV hR2 (i32 (j : Int)) (fun c hc => by rw [h2 21 c (by unfold tS; omega)]; exact h1c c hc)) ?_
      rintro M3 ⟨h3, h4⟩
      have hlow := tM.low hFM h1 h2 h3 h4
      have hz : sz (bV11 V j) (X : Int) (Y : Int) ≤ 24 := sz_B hV.b11
      have h48 : M3 0 48 = i32 (sz (bV11 V j) (X : Int) (Y : Int) : Int) := by rw [h3 0 48 (by omega)]; exact hEr.1
      rw [h48]
      refine wp_gd (i32_in (by omega) (by omega) (by omega)) ?_
      rw [i32_k (by omega), up_eq, h3 27 _ (by omega), h2 27 _ (by unfold tS; omega), h1 27 _ (by omega), hM _ (by omega), i32_1, i32_add]
      have hup : ∀ i, tl V X Y i (j + 1) = if i = sz (bV11 V j) (X : Int) (Y : Int) then tl V X Y i j + 1 else tl V X Y i j := by
        intro i
        rw [tl_nx]
        by_cases hi : i = sz (bV11 V j) (X : Int) (Y : Int)
        · rw [if_pos hi, if_pos ⟨hb, hi.symm⟩]
        · rw [if_neg hi, if_neg (fun z => hi z.2.symm)]
      have hB := tl_B (V := V) (x := X) (y := Y) (n := sz (bV11 V j) (X : Int) (Y : Int)) j
      have hmB := mx_ch (P := fun n => tl V X Y n j) 25
      have hm6 : mx (fun n => tl V X Y n j) 25 ≤ 256 := by
        rcases hmB.2.2 with z | ⟨i, hi, hp2⟩
        · omega
        · have := tl_B (V := V) (x := X) (y := Y) (n := i) j
          rw [← hp2]
          show tl V X Y i j ≤ 256
          omega
      have e := mx_up (P := fun n => tl V X Y n j) (Q := fun n => tl V X Y n (j + 1)) (n := 25) (k := sz (bV11 V j) (X : Int) (Y : Int)) (by omega) (by show tl V X Y _ (j + 1) = _; rw [hup, if_pos rfl]) (fun i hi => by show tl V X Y i (j + 1) = _; rw [hup, if_neg hi]) hB.1
      rw [e] at ihj
      have h27 : ∀ M4, M4 = am_up M3 27 (sz (bV11 V j) (X : Int) (Y : Int)) (i32 (tl V X Y (sz (bV11 V j) (X : Int) (Y : Int)) j + 1)) → sM M0 M4 ∧ soM V (2 ^ (V 0 9).toNat) M4 ∧ ∀ n, n < 25 → M4 27 n = i32 (tl V X Y n (j + 1)) := by
        rintro M4 rfl
        refine ⟨(hs.trans hlow.s).up (by unfold mS; omega), ⟨?_, fun s hs2 => ?_⟩, fun n hn2 => ?_⟩
        · rw [up_ne (by omega), hlow 0 62 (by unfold tS; omega)]; exact hso.1
        · rw [up_ne (by omega), hlow 26 s (by unfold tS; omega)]; exact hso.2 s hs2
        · rw [hup]
          by_cases hi : n = sz (bV11 V j) (X : Int) (Y : Int)
          · rw [if_pos hi, hi, up_eq]
          · rw [if_neg hi, up_ne (by omega), hlow 27 n (by unfold tS; omega)]; exact hM n hn2
      rw [show i32 (j : Int) + i32 1 = i32 ((j + 1 : Nat) : Int) from i32_s j]
      obtain ⟨g1, g2, g3⟩ := h27 _ rfl
      by_cases hle : tl V X Y (sz (bV11 V j) (X : Int) (Y : Int)) j + 1 ≤ mx (fun n => tl V X Y n j) 25
      · rw [if_pos hle] at ihj
        exact wp_gd ((i32_le (by omega) (by omega) (by omega) (by omega)).mpr hle) (ihj _ g1 g2 g3)
      · rw [if_neg hle] at ihj
        exact wp_ng (fun q => hle ((i32_le (by omega) (by omega) (by omega) (by omega)).mp q)) (wp_gd (i32_in (by omega) (by omega) (by omega)) (ihj _ g1 g2 g3))
    · refine wp_gd (by rw [if_neg hb]) ?_
      have hup : ∀ i, tl V X Y i (j + 1) = tl V X Y i j := fun i => by rw [tl_nx, if_neg (fun z => hb z.1)]
      rw [mx_congr (P := fun n => tl V X Y n (j + 1)) (Q := fun n => tl V X Y n j) hup] at ihj
      rw [i32_s]
      exact ihj M hs hso (fun n hn2 => by rw [hup]; exact hM n hn2)
theorem m_ask_z (hN : 4200 ≤ N) (hV : VX V) (hR : RT V M0) (hF : RF V M0) (hx : soM V (2 ^ (V 0 9).toNat) M0) {X Y : Nat} (hX : (X : Int) < V 0 0) (hY : (Y : Int) < V 0 1) {v1 v2 v3 v4 : Int32} {k42 : Int32 → Int32 → Int32 → am_M → am_O} {Q : Except Nat (Option Value) → am_M → Prop}
    (hk : ∀ M, sM M0 M → soM V (2 ^ (V 0 9).toNat) M → wp (if v2 = (-1) then k42 (i32 (10 * (Y : Int) + (X : Int))) (i32 (wc V X Y)) (v4 + 1) M else if i32 (wc V X Y) < v3 then k42 (i32 (10 * (Y : Int) + (X : Int))) (i32 (wc V X Y)) (v4 + 1) M else k42 v2 v3 (v4 + 1) M) Q) :
    ∀ (d j n : Nat) (M : am_M), j + d = 25 → d < n → sM M0 M → soM V (2 ^ (V 0 9).toNat) M → (∀ n, n < j → M 27 n = 0) → wp (f_X10_ask_79 N v1 v2 v3 v4 (i32 (10 * (Y : Int) + (X : Int))) k42 n (i32 (j : Int)) M) Q := by
  have hns := hV.ns
  have hp := pw_8 (n := (V 0 9).toNat) (by omega)
  intro d
  induction d with
  | zero =>
    intro j n M hj hn hs hso hM
    obtain ⟨n, rfl⟩ : ∃ k, n = k + 1 := ⟨n - 1, by omega⟩
    show wp (f_X10_ask_79B N _ _ _ _ _ _ _ _ M) _
    unfold f_X10_ask_79B
    refine wp_gd (by rw [show j = 25 from by omega]; decide) ?_
    have e : mx (fun n => tl V X Y n 0) 25 = 0 := mx_un (Int.le_refl 0) (fun i _ => Int.le_refl 0) (Or.inl rfl)
    have := m_ask_in (N := N) (by omega) hV hR hF hx hX hY (v1 := v1) (v2 := v2) (v3 := v3) (v4 := v4) (k42 := k42) hk (2 ^ (V 0 9).toNat) 0 N M (by omega) (by omega) hs hso (fun n hn2 => by rw [hM n (by omega)]; rfl)
    rw [e] at this
    exact this
  | succ d ih =>
    intro j n M hj hn hs hso hM
    obtain ⟨n, rfl⟩ : ∃ k, n = k + 1 := ⟨n - 1, by omega⟩
    show wp (f_X10_ask_79B N _ _ _ _ _ _ _ _ M) _
    unfold f_X10_ask_79B
    refine wp_ng ?_ (wp_gd (i32_in (by omega) (by omega) (by omega)) ?_)
    · rw [show (25 : Int32) = i32 25 from rfl]; exact fun q => absurd ((i32_le (by omega) (by omega) (by omega) (by omega)).mp q) (by omega)
    · rw [i32_k (by omega), i32_s]
      refine ih (j + 1) n _ (by omega) (by omega) (hs.up (by unfold mS; omega)) ⟨(up_ne (by omega)).trans hso.1, fun s h => (up_ne (by omega)).trans (hso.2 s h)⟩ (fun k hk2 => ?_)
      by_cases hkj : k = j
      · rw [hkj, up_eq]
      · rw [up_ne (by omega)]; exact hM k (by omega)
theorem qS_XY (hV : VX V) : ∀ i, i ≤ (V 0 0).toNat * (V 0 1).toNat → (qS V i).1 ≠ -1 → (0 ≤ (qS V i).2.1 ∧ (qS V i).2.1 < V 0 0) ∧ (0 ≤ (qS V i).2.2 ∧ (qS V i).2.2 < V 0 1) := by
  have hw := hV.1.1
  have hh := hV.1.2.1
  intro i
  induction i with
  | zero => intro _ h; exact absurd rfl h
  | succ i ih =>
    intro hi
    rw [qS_nx]
    unfold qF
    have hw0 : 0 < (V 0 0).toNat := by
      rcases Nat.eq_zero_or_pos (V 0 0).toNat with z | z
      · rw [z, Nat.zero_mul] at hi; omega
      · exact z
    have h1 := Nat.mod_lt i hw0
    have h2 : i / (V 0 0).toNat < (V 0 1).toNat := Nat.div_lt_of_lt_mul (by omega)
    split
    · intro _
      have hA : ∀ a b : Nat, a < (V 0 0).toNat → b < (V 0 1).toNat → (0 ≤ (a : Int) ∧ (a : Int) < V 0 0) ∧ (0 ≤ (b : Int) ∧ (b : Int) < V 0 1) := by intro a b; omega
      exact hA _ _ h1 h2
    · exact ih (by omega)
def askV (V : VL) (what : Int) : Int := if what = 0 then (qR V).2.1 else if what = 1 then (qR V).2.2 else (qR V).1
theorem m_ask_lp (hN : 4200 ≤ N) (hV : VX V) (hR : RT V M0) (hF : RF V M0) (hx : soM V (2 ^ (V 0 9).toNat) M0) (h0 : (xpS V (2 ^ (V 0 9).toNat)).1 ≠ 0) {what : Int} (hw : 0 ≤ what ∧ what ≤ 2) : ∀ (d j n : Nat) (M : am_M), j + d = (V 0 0).toNat * (V 0 1).toNat → d < n → sM M0 M → soM V (2 ^ (V 0 9).toNat) M → wp (f_X10_ask_42 N (i32 what) n (if (qS V j).1 = -1 then -1 else i32 (10 * (qS V j).2.2 + (qS V j).2.1)) (if (qS V j).1 = -1 then 0 else i32 (qS V j).1) (i32 (j : Int)) M) (rI fun v M' => v = i32 (askV V what) ∧ sM M0 M') := by
  have hW := hV.1.1
  have hH := hV.1.2.1
  have hwh : (V 0 0).toNat * (V 0 1).toNat ≤ 100 := Nat.mul_le_mul (show (V 0 0).toNat ≤ 10 by omega) (show (V 0 1).toNat ≤ 10 by omega)
  have hmul : V 0 0 * V 0 1 = (((V 0 0).toNat * (V 0 1).toNat : Nat) : Int) := by
    rw [Int.natCast_mul, show (((V 0 0).toNat : Nat) : Int) = V 0 0 from by omega, show (((V 0 1).toNat : Nat) : Int) = V 0 1 from by omega]
  intro d
  induction d with
  | zero =>
    intro j n M hj hn hs hso
    obtain ⟨n, rfl⟩ : ∃ k, n = k + 1 := ⟨n - 1, by omega⟩
    show wp (f_X10_ask_42B N _ _ _ _ _ M) _
    unfold f_X10_ask_42B
    have hB := qS_B hV j
    have hXY := qS_XY hV j (by omega)
    rw [(hR.sM hs).1.1, (hR.sM hs).1.2.1, i32_mul, hmul]
    refine wp_gd ((i32_le (by omega) (by omega) (by omega) (by omega)).mpr (by omega)) ?_
    have hq : qR V = qS V j := by
      unfold qR
      rw [if_neg h0, show (V 0 0).toNat * (V 0 1).toNat = j from by omega]
    unfold askV
    rw [hq]
    by_cases hm : (qS V j).1 = -1
    · refine wp_gd (by rw [if_pos hm]) (wp_i ⟨?_, hs⟩)
      have : qS V j = (-1, -1, -1) := by
        clear hq hj hXY hB
        have : ∀ i, (qS V i).1 = -1 → qS V i = (-1, -1, -1) := by
          intro i
          induction i with
          | zero => intro _; rfl
          | succ i ih =>
            intro hi
            rw [qS_nx] at hi ⊢
            unfold qF at hi ⊢
            have := wc_B hV (x := ((i % (V 0 0).toNat : Nat) : Int)) (y := ((i / (V 0 0).toNat : Nat) : Int))
            split at hi
            · exact absurd hi (by show ¬ (wc V _ _ = -1); omega)
            · rename_i hc
              rw [if_neg hc]
              exact ih hi
        exact this j hm
      rw [this]
      show (-1 : Int32) = i32 (if what = 0 then -1 else if what = 1 then -1 else -1)
      split
      · rfl
      · split <;> rfl
    · have hxy := hXY hm
      rw [if_neg hm, if_neg hm]
      refine wp_ng (fun q => absurd ((i32_eq (b := -1) (by omega) (by omega) (by omega) (by omega)).mp q) (by omega)) ?_
      by_cases h00 : what = 0
      · refine wp_gd ((i32_eq0 (by omega) (by omega)).mpr h00) (wp_i ⟨?_, hs⟩)
        rw [if_pos h00, i32_10, i32_rem (by omega) (by omega) (by omega) (by omega)]
        congr 1
        omega
      · refine wp_ng (fun q => h00 ((i32_eq0 (by omega) (by omega)).mp q)) ?_
        rw [if_neg h00]
        by_cases h01 : what = 1
        · refine wp_gd ((i32_eq1 (by omega) (by omega)).mpr h01) (wp_i ⟨?_, hs⟩)
          rw [if_pos h01, i32_10, i32_div (by omega) (by omega) (by omega) (by omega)]
          congr 1
          omega
        · refine wp_ng (fun q => h01 ((i32_eq1 (by omega) (by omega)).mp q)) (wp_i ⟨?_, hs⟩)
          rw [if_neg h01]
  | succ d ih =>
    intro j n M hj hn hs hso
    obtain ⟨n, rfl⟩ : ∃ k, n = k + 1 := ⟨n - 1, by omega⟩
    show wp (f_X10_ask_42B N _ _ _ _ _ M) _
    unfold f_X10_ask_42B
    have hB := qS_B hV j
    have hXY := qS_XY hV j (by omega)
    have hw0 : 0 < (V 0 0).toNat := by
      rcases Nat.eq_zero_or_pos (V 0 0).toNat with z | z
      · rw [z, Nat.zero_mul] at hj; omega
      · exact z
    have h1 := Nat.mod_lt j hw0
    have h2 : j / (V 0 0).toNat < (V 0 1).toNat := Nat.div_lt_of_lt_mul (by omega)
    rw [(hR.sM hs).1.1, (hR.sM hs).1.2.1, i32_mul, hmul]
    refine wp_ng (fun q => absurd ((i32_le (by omega) (by omega) (by omega) (by omega)).mp q) (by omega)) (wp_gd (fun q => by have := (i32_eq0 (by omega) (by omega)).mp q; omega) ?_)
    rw [i32_rem (by omega) (by omega) (by omega) (by omega), i32_div (by omega) (by omega) (by omega) (by omega), i32_10, i32_mul, i32_add]
    rw [show (j : Int) / V 0 0 = ((j / (V 0 0).toNat : Nat) : Int) from by
      conv => lhs; rw [show V 0 0 = (((V 0 0).toNat : Nat) : Int) from by omega]
      rfl]
    rw [show (j : Int) % V 0 0 = ((j % (V 0 0).toNat : Nat) : Int) from by
      conv => lhs; rw [show V 0 0 = (((V 0 0).toNat : Nat) : Int) from by omega]
      rfl]
    have k1 := qS_nx (V := V) (i := j)
    unfold qF at k1
    have hWB := wc_B hV (x := ((j % (V 0 0).toNat : Nat) : Int)) (y := ((j / (V 0 0).toNat : Nat) : Int))
    have ihj := fun M' => ih (j + 1) n M' (by omega) (by omega)
    refine m_ask_z hN hV (hR.sM hs) (hF.sM hs) hso (X := j % (V 0 0).toNat) (Y := j / (V 0 0).toNat) (by omega) (by omega) (fun M' hs' hso' => ?_) 25 0 N M (by omega) (by omega) sM.rfl hso (fun k hk => by omega)
    rw [i32_s]
    have go : ((qS V j).1 = -1 ∨ wc V ((j % (V 0 0).toNat : Nat) : Int) ((j / (V 0 0).toNat : Nat) : Int) < (qS V j).1) → wp (f_X10_ask_42 N (i32 what) n (i32 (10 * ((j / (V 0 0).toNat : Nat) : Int) + ((j % (V 0 0).toNat : Nat) : Int))) (i32 (wc V ((j % (V 0 0).toNat : Nat) : Int) ((j / (V 0 0).toNat : Nat) : Int))) (i32 ((j + 1 : Nat) : Int)) M') (rI fun v M' => v = i32 (askV V what) ∧ sM M0 M') := by
      intro hh
      rw [if_pos hh] at k1
      have := ihj M' (hs.trans hs') hso'
      rw [k1, if_neg (show ¬ (wc V ((j % (V 0 0).toNat : Nat) : Int) ((j / (V 0 0).toNat : Nat) : Int) = -1) by omega), if_neg (show ¬ (wc V ((j % (V 0 0).toNat : Nat) : Int) ((j / (V 0 0).toNat : Nat) : Int) = -1) by omega)] at this
      exact this
    by_cases hm : (qS V j).1 = -1
    · rw [if_pos hm, if_pos hm]
      exact wp_gd rfl (go (Or.inl hm))
    · have hxy := hXY hm
      rw [if_neg hm, if_neg hm]
      refine wp_ng (fun q => absurd ((i32_eq (b := -1) (by omega) (by omega) (by omega) (by omega)).mp q) (by omega)) ?_
      by_cases hlt : wc V ((j % (V 0 0).toNat : Nat) : Int) ((j / (V 0 0).toNat : Nat) : Int) < (qS V j).1
      · exact wp_gd ((i32_lt (by omega) (by omega) (by omega) (by omega)).mpr hlt) (go (Or.inr hlt))
      · refine wp_ng (fun q => hlt ((i32_lt (by omega) (by omega) (by omega) (by omega)).mp q)) ?_
        rw [if_neg (fun z => by rcases z with z | z; exact hm z; exact hlt z)] at k1
        have := ihj M' (hs.trans hs') hso'
        rw [k1, if_neg hm, if_neg hm] at this
        exact this
