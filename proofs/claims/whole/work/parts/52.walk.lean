/-! A SHOUT ONE WAY: what happens on it, step by step (cell, strength, time, which echo or 0) -/
def sh_go (w h : Int) (hd wd : Nat → Int) (yr fog sx sy : Int) : Nat → Int → Int → Int → Int → Int → Int → Int → List (Int × Int × Int × Int)
  | 0, _, _, _, _, _, _, _ => []
  | n + 1, x, y, dx, dy, s, num, t =>
    if x + dx < 0 ∨ y + dy < 0 ∨ w ≤ x + dx ∨ h ≤ y + dy then [] else
    if s - (1 + fog) - (if 0 < wd (10 * (y + dy) + (x + dx)).toNat then wd (10 * (y + dy) + (x + dx)).toNat + yr else 0) < 1 then [] else
    if x + dx = sx ∧ y + dy = sy then
      (10 * (y + dy) + (x + dx), s - (1 + fog) - (if 0 < wd (10 * (y + dy) + (x + dx)).toNat then wd (10 * (y + dy) + (x + dx)).toNat + yr else 0), t, num + 1) ::
        (if num + 1 = 3 then [] else sh_go w h hd wd yr fog sx sy n (x + dx) (y + dy) dx dy (s - (1 + fog) - (if 0 < wd (10 * (y + dy) + (x + dx)).toNat then wd (10 * (y + dy) + (x + dx)).toNat + yr else 0)) (num + 1) (t + 1))
    else (10 * (y + dy) + (x + dx), s - (1 + fog) - (if 0 < wd (10 * (y + dy) + (x + dx)).toNat then wd (10 * (y + dy) + (x + dx)).toNat + yr else 0), t, 0) ::
      (if 0 < hd (10 * (y + dy) + (x + dx)).toNat then
        (if s - (1 + fog) - (if 0 < wd (10 * (y + dy) + (x + dx)).toNat then wd (10 * (y + dy) + (x + dx)).toNat + yr else 0) - (10 - hd (10 * (y + dy) + (x + dx)).toNat) < 1 then []
         else sh_go w h hd wd yr fog sx sy n (x + dx) (y + dy) (-dx) (-dy) (s - (1 + fog) - (if 0 < wd (10 * (y + dy) + (x + dx)).toNat then wd (10 * (y + dy) + (x + dx)).toNat + yr else 0) - (10 - hd (10 * (y + dy) + (x + dx)).toNat)) num (t + 1))
       else sh_go w h hd wd yr fog sx sy n (x + dx) (y + dy) dx dy (s - (1 + fog) - (if 0 < wd (10 * (y + dy) + (x + dx)).toNat then wd (10 * (y + dy) + (x + dx)).toNat + yr else 0)) num (t + 1))
/-- what the numbers of a valley may be -/
def EnvB (w h yr : Int) (hd wd : Nat → Int) : Prop := (0 ≤ w ∧ w ≤ 10) ∧ (0 ≤ h ∧ h ≤ 10) ∧ (0 ≤ yr ∧ yr ≤ 20) ∧ ∀ c, c < 100 → (0 ≤ hd c ∧ hd c ≤ 9) ∧ (0 ≤ wd c ∧ wd c ≤ 9)
def EnvC (w h yr : Int) (hd wd : Nat → Int) (M : am_M) : Prop := M 2 0 = i32 w ∧ M 2 1 = i32 h ∧ M 13 2 = i32 yr ∧ ∀ c, c < 100 → M 14 c = i32 (hd c) ∧ M 15 c = i32 (wd c)
def EnvM (w h yr : Int) (hd wd : Nat → Int) (M : am_M) : Prop := M 0 33 = i32 w ∧ M 0 34 = i32 h ∧ M 0 42 = i32 yr ∧ ∀ c, c < 100 → (M 10 c ≤ 0 → M 21 c = i32 (hd c)) ∧ (¬ M 10 c ≤ 0 → M 10 c = i32 (hd c)) ∧ M 11 c = i32 (wd c)
/-- one step's trace in the class's memory: the peaks (if kept), an echo -/
def pkC (M : am_M) (c s : Int) : am_M := if M 51 6 = 0 then M else if i32 s ≤ M 56 c.toNat then M else am_up M 56 c.toNat (i32 s)
def evC (way : Int) (M : am_M) (e : Int × Int × Int × Int) : am_M := if e.2.2.2 = 0 then pkC M e.1 e.2.1 else c_ins (pkC M e.1 e.2.1) (i32 e.2.2.1) (i32 e.2.1) (i32 way) (i32 e.2.2.2) (pkC M e.1 e.2.1 51 0).toNatClampNeg
theorem pkC_off {M : am_M} {c s : Int} {a b : Nat} (h : a ≠ 56) : pkC M c s a b = M a b := by
  unfold pkC
  split
  · rfl
  · split
    · rfl
    · exact up_ne (Or.inl h)
theorem c_ins_off {M : am_M} {t s w q : Int32} {n a b : Nat} (h : a ≠ 52 ∧ a ≠ 53 ∧ a ≠ 54 ∧ a ≠ 55) (h2 : a ≠ 51 ∨ b ≠ 0) : c_ins M t s w q n a b = M a b := by
  unfold c_ins c_insp
  rw [if_neg h.1, if_neg h.2.1, if_neg h.2.2.1, if_neg h.2.2.2, if_neg (by omega)]
theorem c_ins_sz {M : am_M} {t s w q : Int32} {n : Nat} : c_ins M t s w q n 51 0 = i32 ((n : Int) + 1) := by
  unfold c_ins c_insp
  simp
theorem evC_off {way : Int} {M : am_M} {e : Int × Int × Int × Int} {a b : Nat} (h : a < 51 ∨ (a = 51 ∧ b ≠ 0) ∨ 56 < a) : evC way M e a b = M a b := by
  unfold evC
  split
  · exact pkC_off (by omega)
  · rw [c_ins_off (by omega) (by omega), pkC_off (by omega)]
theorem EnvC.ev {w h yr : Int} {hd wd : Nat → Int} {M : am_M} (hE : EnvC w h yr hd wd M) {way : Int} {e : Int × Int × Int × Int} : EnvC w h yr hd wd (evC way M e) := by
  obtain ⟨h1, h2, h3, h4⟩ := hE
  refine ⟨by rw [evC_off (by omega)]; exact h1, by rw [evC_off (by omega)]; exact h2, by rw [evC_off (by omega)]; exact h3, fun c hc => ?_⟩
  rw [evC_off (by omega), evC_off (by omega)]
  exact h4 c hc
section CF
variable {N : Nat} {w h yr fog sx sy way : Int} {hd wd : Nat → Int} {k : Int32 → Int32 → Int32 → Int32 → Int32 → Int32 → Int32 → am_M → am_O} {M : am_M} {X Y dx dy s num t c : Int}
theorem c_209 (hB : EnvB w h yr hd wd) (hE : EnvC w h yr hd wd M) (hc0 : 0 ≤ c) (hc1 : c < 100) (hs : 1 ≤ s) (hs9 : s ≤ 99) : f_X6_follow_209 N k (i32 sx) (i32 sy) (i32 way) (i32 fog) (i32 dx) (i32 dy) (i32 X) (i32 Y) (i32 s) (i32 num) (i32 t) (i32 c) M =
    if 0 < hd c.toNat then (if s - (10 - hd c.toNat) < 1 then some (.ok none, M) else k (i32 (-dx)) (i32 (-dy)) (i32 X) (i32 Y) (i32 (s - (10 - hd c.toNat))) (i32 num) (i32 (t + 1)) M) else k (i32 dx) (i32 dy) (i32 X) (i32 Y) (i32 s) (i32 num) (i32 (t + 1)) M := by
  have hq := hE.2.2.2 c.toNat (by omega)
  have hb := hB.2.2.2 c.toNat (by omega)
  unfold f_X6_follow_209
  rw [if_pos (i32_in (by omega) (by omega) (by omega)), i32_cl (by omega) (by omega), hq.1]
  have e1 : i32 t + 1 = i32 (t + 1) := by rw [i32_1, i32_add]
  by_cases h1 : 0 < hd c.toNat
  · rw [if_neg (fun z => absurd ((i32_le0 (by omega) (by omega)).mp z) (by omega)), if_pos (i32_in (by omega) (by omega) (by omega)), if_pos h1, i32_neg, i32_neg, e1]
    have e2 : i32 s - (10 - i32 (hd c.toNat)) = i32 (s - (10 - hd c.toNat)) := by rw [i32_10, i32_sub, i32_sub]
    rw [e2]
    by_cases h2 : s - (10 - hd c.toNat) < 1
    · rw [if_neg (fun z => absurd ((i32_1le (by omega) (by omega)).mp z) (by omega)), if_pos h2]
    · rw [if_pos ((i32_1le (by omega) (by omega)).mpr (by omega)), if_neg h2]
  · rw [if_pos ((i32_le0 (by omega) (by omega)).mpr (by omega)), if_neg h1, e1]
theorem c_141 (hc0 : 0 ≤ c) (hc1 : c < 100) (hs : -1000 ≤ s) (hs9 : s ≤ 99) : f_X6_follow_141 N k (i32 sx) (i32 sy) (i32 way) (i32 fog) (i32 dx) (i32 dy) (i32 X) (i32 Y) (i32 s) (i32 num) (i32 t) (i32 c) M =
    if s < 1 then some (.ok none, M) else f_X6_follow_176 N k (i32 sx) (i32 sy) (i32 way) (i32 fog) (i32 dx) (i32 dy) (i32 X) (i32 Y) (i32 s) (i32 num) (i32 t) (i32 c) (pkC M c s) := by
  unfold f_X6_follow_141
  by_cases h1 : s < 1
  · rw [if_neg (fun z => absurd ((i32_1le (by omega) (by omega)).mp z) (by omega)), if_pos h1]
  · rw [if_pos ((i32_1le (by omega) (by omega)).mpr (by omega)), if_neg h1]
    unfold pkC
    by_cases h2 : M 51 6 = 0
    · rw [if_pos h2, if_pos h2]
    · rw [if_neg h2, if_neg h2, if_pos (i32_in (by omega) (by omega) (by omega)), i32_cl (by omega) (by omega)]
      by_cases h3 : i32 s ≤ M 56 c.toNat
      · rw [if_pos h3, if_pos h3]
      · rw [if_neg h3, if_neg h3, if_pos (i32_in (by omega) (by omega) (by omega))]
end CF
theorem c_go {N : Nat} (hN : 100 ≤ N) {w h yr fog sx sy way : Int} {hd wd : Nat → Int} (hB : EnvB w h yr hd wd) (hf : 0 ≤ fog ∧ fog ≤ 9) (hsx : 0 ≤ sx ∧ sx < 10) (hsy : 0 ≤ sy ∧ sy < 10) :
    ∀ (n : Nat) (x y dx dy s num t : Int) (m : Nat) (M : am_M), n < m → EnvC w h yr hd wd M → (n : Int) + t = 100 → 1 ≤ t → (0 ≤ x ∧ x < w) → (0 ≤ y ∧ y < h) → (-1 ≤ dx ∧ dx ≤ 1) → (-1 ≤ dy ∧ dy ≤ 1) → (1 ≤ s ∧ s ≤ 99) → (0 ≤ num ∧ num < 3) →
      (∃ z : Nat, M 51 0 = i32 (z : Int) ∧ (z : Int) + (3 - num) ≤ 24) →
      f_X6_follow_30 N (i32 sx) (i32 sy) (i32 way) (i32 fog) m (i32 dx) (i32 dy) (i32 x) (i32 y) (i32 s) (i32 num) (i32 t) M = some (.ok none, (sh_go w h hd wd yr fog sx sy n x y dx dy s num t).foldl (evC way) M) := by
  intro n
  induction n with
  | zero =>
    intro x y dx dy s num t m M hm hE ht ht1 hx hy hdx hdy hs hnum hz
    obtain ⟨m, rfl⟩ : ∃ j, m = j + 1 := ⟨m - 1, by omega⟩
    show f_X6_follow_30B N _ _ _ _ _ _ _ _ _ _ _ _ M = _
    unfold f_X6_follow_30B
    rw [if_pos ((i32_99lt (by omega) (by omega)).mpr (by omega))]
    rfl
  | succ n ih =>
    intro x y dx dy s num t m M hm hE ht ht1 hx hy hdx hdy hs hnum hz
    obtain ⟨m, rfl⟩ : ∃ j, m = j + 1 := ⟨m - 1, by omega⟩
    have hw := hB.1
    have hh := hB.2.1
    show f_X6_follow_30B N _ _ _ _ _ _ _ _ _ _ _ _ M = _
    unfold f_X6_follow_30B
    rw [sh_go]
    rw [if_neg (fun q => absurd ((i32_99lt (by omega) (by omega)).mp q) (by omega)), i32_add x dx, i32_add y dy]
    generalize hX : x + dx = X
    generalize hY : y + dy = Y
    by_cases h1 : X < 0
    · rw [if_pos ((i32_lt0 (by omega) (by omega)).mpr h1), if_pos (Or.inl h1)]; rfl
    rw [if_neg (fun q => h1 ((i32_lt0 (by omega) (by omega)).mp q))]
    by_cases h2 : Y < 0
    · rw [if_pos ((i32_lt0 (by omega) (by omega)).mpr h2), if_pos (Or.inr (Or.inl h2))]; rfl
    rw [if_neg (fun q => h2 ((i32_lt0 (by omega) (by omega)).mp q)), hE.1, hE.2.1]
    by_cases h3 : w ≤ X
    · rw [if_pos ((i32_le (by omega) (by omega) (by omega) (by omega)).mpr h3), if_pos (Or.inr (Or.inr (Or.inl h3)))]; rfl
    rw [if_neg (fun q => h3 ((i32_le (by omega) (by omega) (by omega) (by omega)).mp q))]
    by_cases h4 : h ≤ Y
    · rw [if_neg (fun q => absurd ((i32_lt (by omega) (by omega) (by omega) (by omega)).mp q) (by omega)), if_pos (Or.inr (Or.inr (Or.inr h4)))]; rfl
    have hout : ¬ (X < 0 ∨ Y < 0 ∨ w ≤ X ∨ h ≤ Y) := by omega
    rw [if_pos ((i32_lt (by omega) (by omega) (by omega) (by omega)).mpr (by omega)), if_neg hout]
    have ec : (i32 Y * 10) + i32 X = i32 (10 * Y + X) := by
      rw [i32_10, i32_mul, i32_add]; congr 1; omega
    rw [ec]
    generalize hc : 10 * Y + X = c
    have hc0 : 0 ≤ c := by omega
    have hc1 : c < 100 := by omega
    have hq := hE.2.2.2 c.toNat (by omega)
    have hb := hB.2.2.2 c.toNat (by omega)
    rw [if_pos (i32_in hc0 (by omega) (by omega)), i32_cl hc0 (by omega), hq.2, hE.2.2.1]
    have e0 : i32 s - (1 + i32 fog) = i32 (s - (1 + fog)) := by rw [i32_1, i32_add, i32_sub]
    have key : (if i32 (wd c.toNat) ≤ 0 then f_X6_follow_141 N (f_X6_follow_30 N (i32 sx) (i32 sy) (i32 way) (i32 fog) m) (i32 sx) (i32 sy) (i32 way) (i32 fog) (i32 dx) (i32 dy) (i32 X) (i32 Y) (i32 s - (1 + i32 fog)) (i32 num) (i32 t) (i32 c) M
        else if am_in (i32 c) 100 then f_X6_follow_141 N (f_X6_follow_30 N (i32 sx) (i32 sy) (i32 way) (i32 fog) m) (i32 sx) (i32 sy) (i32 way) (i32 fog) (i32 dx) (i32 dy) (i32 X) (i32 Y) (i32 s - (1 + i32 fog) - (i32 (wd c.toNat) + i32 yr)) (i32 num) (i32 t) (i32 c) M else none)
        = f_X6_follow_141 N (f_X6_follow_30 N (i32 sx) (i32 sy) (i32 way) (i32 fog) m) (i32 sx) (i32 sy) (i32 way) (i32 fog) (i32 dx) (i32 dy) (i32 X) (i32 Y) (i32 (s - (1 + fog) - (if 0 < wd c.toNat then wd c.toNat + yr else 0))) (i32 num) (i32 t) (i32 c) M := by
      by_cases h5 : 0 < wd c.toNat
      · rw [if_neg (fun q => absurd ((i32_le0 (by omega) (by omega)).mp q) (by omega)), if_pos (i32_in hc0 (by omega) (by omega)), if_pos h5, e0, i32_add, i32_sub]
      · rw [if_pos ((i32_le0 (by omega) (by omega)).mpr (by omega)), if_neg h5, e0]
        congr 2; omega
    rw [key]
    have hyr := hB.2.2.1
    have hz1 : (if 0 < wd c.toNat then wd c.toNat + yr else 0) ≤ 29 ∧ 0 ≤ (if 0 < wd c.toNat then wd c.toNat + yr else 0) := by split <;> omega
    generalize hg : s - (1 + fog) - (if 0 < wd c.toNat then wd c.toNat + yr else 0) = g
    rw [c_141 hc0 hc1 (by omega) (by omega)]
    by_cases h6 : g < 1
    · rw [if_pos h6, if_pos h6]; rfl
    rw [if_neg h6, if_neg h6]
    have hEp : EnvC w h yr hd wd (pkC M c g) := by
      obtain ⟨a1, a2, a3, a4⟩ := hE
      refine ⟨by rw [pkC_off (by decide)]; exact a1, by rw [pkC_off (by decide)]; exact a2, by rw [pkC_off (by decide)]; exact a3, fun d hd => ?_⟩
      rw [pkC_off (by decide), pkC_off (by decide)]
      exact a4 d hd
    obtain ⟨z, hz1, hz2⟩ := hz
    have hzp : pkC M c g 51 0 = i32 (z : Int) := by rw [pkC_off (by decide)]; exact hz1
    unfold f_X6_follow_176
    by_cases h7 : X = sx ∧ Y = sy
    · rw [if_pos ((i32_eq (by omega) (by omega) (by omega) (by omega)).mpr h7.1), if_pos ((i32_eq (by omega) (by omega) (by omega) (by omega)).mpr h7.2), if_pos h7]
      have en : i32 num + 1 = i32 (num + 1) := by rw [i32_1, i32_add]
      have et : i32 t + 1 = i32 (t + 1) := by rw [i32_1, i32_add]
      rw [en, c_addEcho N hN _ _ _ _ z _ (by omega) hzp]
      show (if i32 (num + 1) = 3 then _ else _) = _
      have hev : evC way M (c, g, t, num + 1) = c_ins (pkC M c g) (i32 t) (i32 g) (i32 way) (i32 (num + 1)) z := by
        unfold evC
        rw [if_neg (by show ¬ num + 1 = 0; omega)]
        show c_ins _ _ _ _ _ (pkC M c g 51 0).toNatClampNeg = _
        rw [hzp, i32_cl (by omega) (by omega)]
        congr 1
      rw [List.foldl_cons, hev]
      by_cases h8 : num + 1 = 3
      · rw [if_pos ((i32_eq3 (by omega) (by omega)).mpr h8), if_pos h8]
        rfl
      · rw [if_neg (fun q => h8 ((i32_eq3 (by omega) (by omega)).mp q)), if_neg h8, et]
        rw [← hev]
        exact ih X Y dx dy g (num + 1) (t + 1) m _ (by omega) hE.ev (by omega) (by omega) (by omega) (by omega) hdx hdy (by omega) (by omega) ⟨z + 1, by rw [hev, c_ins_sz]; congr 1, by omega⟩
    · have hev : evC way M (c, g, t, 0) = pkC M c g := by
        unfold evC
        rw [if_pos rfl]
      have hz9 : ∃ z : Nat, evC way M (c, g, t, 0) 51 0 = i32 (z : Int) ∧ (z : Int) + (3 - num) ≤ 24 := ⟨z, by rw [hev]; exact hzp, hz2⟩
      have k209 : (if i32 X = i32 sx then (if i32 Y = i32 sy then am_bv (f_X6_addEcho N (i32 t) (i32 g) (i32 way) (i32 num + 1) (pkC M c g)) (fun M199 => if i32 num + 1 = 3 then some (.ok none, M199) else f_X6_follow_30 N (i32 sx) (i32 sy) (i32 way) (i32 fog) m (i32 dx) (i32 dy) (i32 X) (i32 Y) (i32 g) (i32 num + 1) (i32 t + 1) M199) else f_X6_follow_209 N (f_X6_follow_30 N (i32 sx) (i32 sy) (i32 way) (i32 fog) m) (i32 sx) (i32 sy) (i32 way) (i32 fog) (i32 dx) (i32 dy) (i32 X) (i32 Y) (i32 g) (i32 num) (i32 t) (i32 c) (pkC M c g)) else f_X6_follow_209 N (f_X6_follow_30 N (i32 sx) (i32 sy) (i32 way) (i32 fog) m) (i32 sx) (i32 sy) (i32 way) (i32 fog) (i32 dx) (i32 dy) (i32 X) (i32 Y) (i32 g) (i32 num) (i32 t) (i32 c) (pkC M c g)) = f_X6_follow_209 N (f_X6_follow_30 N (i32 sx) (i32 sy) (i32 way) (i32 fog) m) (i32 sx) (i32 sy) (i32 way) (i32 fog) (i32 dx) (i32 dy) (i32 X) (i32 Y) (i32 g) (i32 num) (i32 t) (i32 c) (pkC M c g) := by
        by_cases h8 : X = sx
        · rw [if_pos ((i32_eq (by omega) (by omega) (by omega) (by omega)).mpr h8), if_neg (fun q => h7 ⟨h8, (i32_eq (by omega) (by omega) (by omega) (by omega)).mp q⟩)]
        · rw [if_neg (fun q => h8 ((i32_eq (by omega) (by omega) (by omega) (by omega)).mp q))]
      rw [k209, c_209 hB hEp hc0 hc1 (by omega) (by omega), if_neg h7, List.foldl_cons]
      by_cases h9 : 0 < hd c.toNat
      · rw [if_pos h9, if_pos h9]
        by_cases h10 : g - (10 - hd c.toNat) < 1
        · rw [if_pos h10, if_pos h10, hev]; rfl
        · rw [if_neg h10, if_neg h10, ← hev]
          exact ih X Y (-dx) (-dy) (g - (10 - hd c.toNat)) num (t + 1) m _ (by omega) hE.ev (by omega) (by omega) (by omega) (by omega) (by omega) (by omega) (by omega) hnum hz9
      · rw [if_neg h9, if_neg h9, ← hev]
        exact ih X Y dx dy g num (t + 1) m _ (by omega) hE.ev (by omega) (by omega) (by omega) (by omega) hdx hdy (by omega) hnum hz9
