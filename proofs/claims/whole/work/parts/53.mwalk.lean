/-! the reference's walk of a shout -/
theorem m_within {N : Nat} {a lo hi : Int32} {M : am_M} : f_X10_within N a lo hi M = some (.ok (some (.int (if a < lo then 0 else if hi < a then 0 else 1))), M) := by
  unfold f_X10_within
  by_cases h1 : a < lo
  · rw [if_pos h1, if_pos h1]
  · rw [if_neg h1, if_neg h1]
    by_cases h2 : hi < a
    · rw [if_pos h2, if_pos h2]
    · rw [if_neg h2, if_neg h2]
/-- the bits of snow that falls: d rows from j on -/
def fbR (S : Nat → Int32) (c s : Int32) : Nat → Nat → Int32 → Int32
  | 0, _, b => b
  | d + 1, j, b => fbR S c s d (j + 1) (if S (2 * j) = c ∧ ¬ s < S (2 * j + 1) then b ||| (1 <<< (i32 (j : Int) &&& 31)) else b)
theorem up_up (M : am_M) (k j : Nat) (v w : Int32) : am_up (am_up M k j v) k j w = am_up M k j w := by
  funext a b
  unfold am_up
  split <;> rfl
theorem up_self (M : am_M) (k j : Nat) : am_up M k j (M k j) = M := by
  funext a b
  unfold am_up
  split
  · rename_i h; rw [h.1, h.2]
  · rfl
theorem m_falls_loop {N : Nat} {c s : Int32} {ns : Nat} (hns : ns ≤ 8) : ∀ (d j n : Nat) (M : am_M), j + d = ns → d < n → M 0 35 = i32 (ns : Int) → f_X10_falls_2 N c s n (i32 (j : Int)) M = some (.ok none, am_up M 0 49 (fbR (M 12) c s d j (M 0 49))) := by
  intro d
  induction d with
  | zero =>
    intro j n M hj hn hM
    obtain ⟨n, rfl⟩ : ∃ k, n = k + 1 := ⟨n - 1, by omega⟩
    show f_X10_falls_2B N c s _ _ M = _
    unfold f_X10_falls_2B
    rw [hM, if_pos ((i32_le (by omega) (by omega) (by omega) (by omega)).mpr (by omega))]
    show _ = some (Except.ok none, am_up M 0 49 (M 0 49))
    rw [up_self]
  | succ d ih =>
    intro j n M hj hn hM
    obtain ⟨n, rfl⟩ : ∃ k, n = k + 1 := ⟨n - 1, by omega⟩
    show f_X10_falls_2B N c s _ _ M = _
    unfold f_X10_falls_2B
    have e2 : 2 * i32 (j : Int) = i32 (2 * (j : Int)) := by rw [i32_2, i32_mul]
    have e3 : i32 (2 * (j : Int)) + 1 = i32 (2 * (j : Int) + 1) := by rw [i32_1, i32_add]
    have e4 : i32 (j : Int) + 1 = i32 ((j + 1 : Nat) : Int) := by rw [i32_1, i32_add]; congr 1
    have t2 : (2 * (j : Int)).toNat = 2 * j := by omega
    have t3 : (2 * (j : Int) + 1).toNat = 2 * j + 1 := by omega
    rw [hM, if_neg (fun q => absurd ((i32_le (by omega) (by omega) (by omega) (by omega)).mp q) (by omega)), e2, if_pos (i32_in (by omega) (by omega) (by omega)), e3, i32_cl (by omega) (by omega), i32_cl (by omega) (by omega), t2, t3, e4]
    rw [fbR]
    by_cases h1 : M 12 (2 * j) = c
    · rw [if_pos h1, if_pos (i32_in (by omega) (by omega) (by omega))]
      by_cases h2 : s < M 12 (2 * j + 1)
      · rw [if_pos h2, ih (j + 1) n M (by omega) (by omega) hM, if_neg (fun q => q.2 h2)]
      · rw [if_neg h2, ih (j + 1) n _ (by omega) (by omega) (by rw [up_ne (Or.inr (by decide))]; exact hM), if_pos ⟨h1, h2⟩, up_up, up_eq, up_k (by decide)]
    · rw [if_neg h1, ih (j + 1) n M (by omega) (by omega) hM, if_neg (fun q => h1 q.1)]
def mFall (ns : Nat) (M : am_M) (c s : Int) : am_M := am_up M 0 49 (fbR (M 12) (i32 c) (i32 s) ns 0 (M 0 49))
theorem m_falls {N : Nat} (hN : 100 ≤ N) {c s : Int} {ns : Nat} (hns : ns ≤ 8) {M : am_M} (hM : M 0 35 = i32 (ns : Int)) : f_X10_falls N (i32 c) (i32 s) M = some (.ok none, mFall ns M c s) := by
  unfold f_X10_falls
  have := m_falls_loop (N := N) (c := i32 c) (s := i32 s) hns ns 0 N M (by omega) (by omega) hM
  exact this
theorem mFall_off {ns : Nat} {M : am_M} {c s : Int} {a b : Nat} (h : a ≠ 0 ∨ b ≠ 49) : mFall ns M c s a b = M a b := up_ne h
def evM (ns : Nat) (way : Int) (M : am_M) (e : Int × Int × Int × Int) : am_M := if e.2.2.2 = 0 then mFall ns M e.1 e.2.1 else m_ins (mFall ns M e.1 e.2.1) (i32 e.2.2.1) (i32 e.2.1) (i32 way) (i32 e.2.2.2) (mFall ns M e.1 e.2.1 0 48).toNatClampNeg
theorem m_ins_off {M : am_M} {t s w q : Int32} {n a b : Nat} (h : a ≠ 17 ∧ a ≠ 18 ∧ a ≠ 19 ∧ a ≠ 20) (h2 : a ≠ 0 ∨ b ≠ 48) : m_ins M t s w q n a b = M a b := by
  unfold m_ins m_insp
  rw [if_neg h.1, if_neg h.2.1, if_neg h.2.2.1, if_neg h.2.2.2, if_neg (by omega)]
theorem m_ins_sz {M : am_M} {t s w q : Int32} {n : Nat} : m_ins M t s w q n 0 48 = i32 ((n : Int) + 1) := by
  unfold m_ins m_insp
  simp
theorem evM_off {ns : Nat} {way : Int} {M : am_M} {e : Int × Int × Int × Int} {a b : Nat} (h : (a = 0 ∧ b ≠ 48 ∧ b ≠ 49) ∨ (0 < a ∧ a < 17) ∨ 20 < a) : evM ns way M e a b = M a b := by
  unfold evM
  split
  · exact mFall_off (by omega)
  · rw [m_ins_off (by omega) (by omega), mFall_off (by omega)]
theorem EnvM.ev {w h yr : Int} {hd wd : Nat → Int} {M : am_M} (hE : EnvM w h yr hd wd M) {ns : Nat} {way : Int} {e : Int × Int × Int × Int} : EnvM w h yr hd wd (evM ns way M e) := by
  obtain ⟨h1, h2, h3, h4⟩ := hE
  refine ⟨by rw [evM_off (by omega)]; exact h1, by rw [evM_off (by omega)]; exact h2, by rw [evM_off (by omega)]; exact h3, fun c hc => ?_⟩
  rw [evM_off (by omega), evM_off (by omega), evM_off (by omega)]
  exact h4 c hc
theorem m_hard {N : Nat} {w h yr : Int} {hd wd : Nat → Int} {M : am_M} (hE : EnvM w h yr hd wd M) {c : Int} (hc0 : 0 ≤ c) (hc1 : c < 100) : f_X10_hard N (i32 c) M = some (.ok (some (.int (i32 (hd c.toNat)))), M) := by
  have hq := hE.2.2.2 c.toNat (by omega)
  unfold f_X10_hard
  rw [if_pos (i32_in hc0 (by omega) (by omega)), i32_cl hc0 (by omega)]
  by_cases h1 : M 10 c.toNat ≤ 0
  · rw [if_pos h1, if_pos (i32_in hc0 (by omega) (by omega)), hq.1 h1]
  · rw [if_neg h1, if_pos (i32_in hc0 (by omega) (by omega)), hq.2.1 h1]
theorem m_go {N : Nat} (hN : 100 ≤ N) {w h yr fog sx sy way : Int} {hd wd : Nat → Int} {ns : Nat} (hns : ns ≤ 8) (hB : EnvB w h yr hd wd) (hf : 0 ≤ fog ∧ fog ≤ 9) (hsx : 0 ≤ sx ∧ sx < 10) (hsy : 0 ≤ sy ∧ sy < 10) :
    ∀ (n : Nat) (x y dx dy s num t : Int) (m : Nat) (M : am_M), n + 1 < m → EnvM w h yr hd wd M → M 0 35 = i32 (ns : Int) → s ≤ n → (n : Int) + t = 100 → 1 ≤ t → (0 ≤ x ∧ x < w) → (0 ≤ y ∧ y < h) → (-1 ≤ dx ∧ dx ≤ 1) → (-1 ≤ dy ∧ dy ≤ 1) → (1 ≤ s ∧ s ≤ 99) → (0 ≤ num ∧ num < 3) →
      (∃ z : Nat, M 0 48 = i32 (z : Int) ∧ (z : Int) + (3 - num) ≤ 24) →
      f_X10_goes_34 N (i32 (10 * sy + sx)) (i32 way) (i32 fog) m (i32 x) (i32 y) (i32 dx) (i32 dy) (i32 s) (i32 (t - 1)) (i32 num) M = some (.ok none, (sh_go w h hd wd yr fog sx sy n x y dx dy s num t).foldl (evM ns way) M) := by
  intro n
  induction n with
  | zero => intro x y dx dy s num t m M hm hE hns9 hsn ht ht1 hx hy hdx hdy hs; omega
  | succ n ih =>
    intro x y dx dy s num t m M hm hE hns9 hsn ht ht1 hx hy hdx hdy hs hnum hz
    obtain ⟨m, rfl⟩ : ∃ j, m = j + 1 := ⟨m - 1, by omega⟩
    have hw := hB.1
    have hh := hB.2.1
    show f_X10_goes_34B N _ _ _ _ _ _ _ _ _ _ _ M = _
    unfold f_X10_goes_34B
    rw [sh_go]
    rw [if_neg (fun q => absurd ((i32_3le (by omega) (by omega)).mp q) (by omega)), i32_add x dx, i32_add y dy]
    generalize hX : x + dx = X
    generalize hY : y + dy = Y
    have ew : i32 w - 1 = i32 (w - 1) := by rw [i32_1, i32_sub]
    have eh : i32 h - 1 = i32 (h - 1) := by rw [i32_1, i32_sub]
    rw [m_within, hE.1, ew]
    show (if (if i32 X < 0 then (0 : Int32) else if i32 (w - 1) < i32 X then 0 else 1) = 0 then _ else _) = _
    by_cases h1 : X < 0
    · rw [if_pos ((i32_lt0 (by omega) (by omega)).mpr h1), if_pos rfl, if_pos (Or.inl h1)]; rfl
    rw [if_neg (fun q => h1 ((i32_lt0 (by omega) (by omega)).mp q))]
    by_cases h3 : w ≤ X
    · rw [if_pos ((i32_lt (by omega) (by omega) (by omega) (by omega)).mpr (by omega)), if_pos rfl, if_pos (Or.inr (Or.inr (Or.inl h3)))]; rfl
    rw [if_neg (fun q => absurd ((i32_lt (by omega) (by omega) (by omega) (by omega)).mp q) (by omega)), if_neg (by decide), m_within, hE.2.1, eh]
    show (if (if i32 Y < 0 then (0 : Int32) else if i32 (h - 1) < i32 Y then 0 else 1) = 0 then _ else _) = _
    by_cases h2 : Y < 0
    · rw [if_pos ((i32_lt0 (by omega) (by omega)).mpr h2), if_pos rfl, if_pos (Or.inr (Or.inl h2))]; rfl
    rw [if_neg (fun q => h2 ((i32_lt0 (by omega) (by omega)).mp q))]
    by_cases h4 : h ≤ Y
    · rw [if_pos ((i32_lt (by omega) (by omega) (by omega) (by omega)).mpr (by omega)), if_pos rfl, if_pos (Or.inr (Or.inr (Or.inr h4)))]; rfl
    have hout : ¬ (X < 0 ∨ Y < 0 ∨ w ≤ X ∨ h ≤ Y) := by omega
    rw [if_neg (fun q => absurd ((i32_lt (by omega) (by omega) (by omega) (by omega)).mp q) (by omega)), if_neg (by decide), if_neg hout]
    have ec : (10 * i32 Y) + i32 X = i32 (10 * Y + X) := by rw [i32_10, i32_mul, i32_add]
    rw [ec]
    have hcc : (10 * Y + X = 10 * sy + sx) ↔ (X = sx ∧ Y = sy) := by omega
    generalize hc : 10 * Y + X = c at hcc
    have hc0 : 0 ≤ c := by omega
    have hc1 : c < 100 := by omega
    have hq := hE.2.2.2 c.toNat (by omega)
    have hb := hB.2.2.2 c.toNat (by omega)
    have et : i32 (t - 1) + 1 = i32 t := by rw [i32_1, i32_add]; congr 1; omega
    rw [if_pos (i32_in hc0 (by omega) (by omega)), i32_cl hc0 (by omega), hq.2.2, hE.2.2.1, et]
    have key : (if i32 (wd c.toNat) ≤ 0 then f_X10_goes_129 N (f_X10_goes_34 N (i32 (10 * sy + sx)) (i32 way) (i32 fog) m) (i32 (10 * sy + sx)) (i32 way) (i32 fog) (i32 X) (i32 Y) (i32 dx) (i32 dy) (i32 t) (i32 num) (i32 c) 0 (1 + i32 fog) (i32 s) M
        else if am_in (i32 c) 100 then f_X10_goes_129 N (f_X10_goes_34 N (i32 (10 * sy + sx)) (i32 way) (i32 fog) m) (i32 (10 * sy + sx)) (i32 way) (i32 fog) (i32 X) (i32 Y) (i32 dx) (i32 dy) (i32 t) (i32 num) (i32 c) (i32 (wd c.toNat) + i32 yr) (1 + i32 fog) (i32 s) M else none)
        = f_X10_goes_129 N (f_X10_goes_34 N (i32 (10 * sy + sx)) (i32 way) (i32 fog) m) (i32 (10 * sy + sx)) (i32 way) (i32 fog) (i32 X) (i32 Y) (i32 dx) (i32 dy) (i32 t) (i32 num) (i32 c) (i32 (if 0 < wd c.toNat then wd c.toNat + yr else 0)) (1 + i32 fog) (i32 s) M := by
      by_cases h5 : 0 < wd c.toNat
      · rw [if_neg (fun q => absurd ((i32_le0 (by omega) (by omega)).mp q) (by omega)), if_pos (i32_in hc0 (by omega) (by omega)), if_pos h5, i32_add]
      · rw [if_pos ((i32_le0 (by omega) (by omega)).mpr (by omega)), if_neg h5, ← i32_0]
    rw [key]
    have hyr := hB.2.2.1
    have hz1 : (if 0 < wd c.toNat then wd c.toNat + yr else 0) ≤ 29 ∧ 0 ≤ (if 0 < wd c.toNat then wd c.toNat + yr else 0) := by split <;> omega
    unfold f_X10_goes_129
    have eg : i32 s - ((1 + i32 fog) + i32 (if 0 < wd c.toNat then wd c.toNat + yr else 0)) = i32 (s - (1 + fog) - (if 0 < wd c.toNat then wd c.toNat + yr else 0)) := by
      rw [i32_1, i32_add, i32_add, i32_sub]; congr 1; omega
    rw [eg]
    generalize hg : s - (1 + fog) - (if 0 < wd c.toNat then wd c.toNat + yr else 0) = g
    by_cases h6 : g < 1
    · rw [if_neg (fun z => absurd ((i32_1le (by omega) (by omega)).mp z) (by omega)), if_pos h6]; rfl
    rw [if_pos ((i32_1le (by omega) (by omega)).mpr (by omega)), if_neg h6, m_falls hN hns hns9]
    show (if i32 c = i32 (10 * sy + sx) then _ else _) = _
    obtain ⟨z, hz1, hz2⟩ := hz
    have hzp : mFall ns M c g 0 48 = i32 (z : Int) := by rw [mFall_off (by omega)]; exact hz1
    have hns2 : ∀ e, evM ns way M e 0 35 = i32 (ns : Int) := fun e => by rw [evM_off (by omega)]; exact hns9
    have et2 : i32 t = i32 (t + 1 - 1) := by congr 1; omega
    by_cases h7 : X = sx ∧ Y = sy
    · rw [if_pos ((i32_eq (by omega) (by omega) (by omega) (by omega)).mpr (hcc.mpr h7)), if_pos h7]
      have en : i32 num + 1 = i32 (num + 1) := by rw [i32_1, i32_add]
      rw [en, m_puts N hN _ _ _ _ z _ (by omega) hzp]
      show f_X10_goes_34 N _ _ _ m _ _ _ _ _ _ _ _ = _
      have hev : evM ns way M (c, g, t, num + 1) = m_ins (mFall ns M c g) (i32 t) (i32 g) (i32 way) (i32 (num + 1)) z := by
        unfold evM
        rw [if_neg (by show ¬ num + 1 = 0; omega)]
        show m_ins _ _ _ _ _ (mFall ns M c g 0 48).toNatClampNeg = _
        rw [hzp, i32_cl (by omega) (by omega)]
        congr 1
      rw [List.foldl_cons, hev]
      by_cases h8 : num + 1 = 3
      · rw [if_pos h8]
        obtain ⟨m, rfl⟩ : ∃ j, m = j + 1 := ⟨m - 1, by omega⟩
        show f_X10_goes_34B N _ _ _ _ _ _ _ _ _ _ _ _ = _
        unfold f_X10_goes_34B
        rw [if_pos ((i32_3le (by omega) (by omega)).mpr (by omega))]
        rfl
      · rw [if_neg h8, ← hev, et2]
        exact ih X Y dx dy g (num + 1) (t + 1) m _ (by omega) hE.ev (hns2 _) (by omega) (by omega) (by omega) (by omega) (by omega) hdx hdy (by omega) (by omega) ⟨z + 1, by rw [hev, m_ins_sz]; congr 1, by omega⟩
    · have hev : evM ns way M (c, g, t, 0) = mFall ns M c g := by
        unfold evM
        rw [if_pos rfl]
      have hEp : EnvM w h yr hd wd (mFall ns M c g) := by rw [← hev]; exact hE.ev
      have hz9 : ∃ z : Nat, evM ns way M (c, g, t, 0) 0 48 = i32 (z : Int) ∧ (z : Int) + (3 - num) ≤ 24 := ⟨z, by rw [hev]; exact hzp, hz2⟩
      rw [if_neg (fun q => h7 (hcc.mp ((i32_eq (by omega) (by omega) (by omega) (by omega)).mp q))), if_neg h7, List.foldl_cons, m_hard hEp hc0 hc1]
      show (if i32 (hd c.toNat) ≤ 0 then _ else am_bi (f_X10_hard N (i32 c) (mFall ns M c g)) _) = _
      rw [m_hard hEp hc0 hc1]
      by_cases h9 : 0 < hd c.toNat
      · rw [if_neg (fun q => absurd ((i32_le0 (by omega) (by omega)).mp q) (by omega)), if_pos h9]
        show (if 1 ≤ i32 g - (10 - i32 (hd c.toNat)) then _ else _) = _
        have e2 : i32 g - (10 - i32 (hd c.toNat)) = i32 (g - (10 - hd c.toNat)) := by rw [i32_10, i32_sub, i32_sub]
        rw [e2]
        by_cases h10 : g - (10 - hd c.toNat) < 1
        · rw [if_neg (fun z => absurd ((i32_1le (by omega) (by omega)).mp z) (by omega)), if_pos h10, hev]; rfl
        · rw [if_pos ((i32_1le (by omega) (by omega)).mpr (by omega)), if_neg h10, ← hev, i32_neg, i32_neg, et2]
          exact ih X Y (-dx) (-dy) (g - (10 - hd c.toNat)) num (t + 1) m _ (by omega) hE.ev (hns2 _) (by omega) (by omega) (by omega) (by omega) (by omega) (by omega) (by omega) (by omega) hnum hz9
      · rw [if_pos ((i32_le0 (by omega) (by omega)).mpr (by omega)), if_neg h9, ← hev, et2]
        exact ih X Y dx dy g num (t + 1) m _ (by omega) hE.ev (hns2 _) (by omega) (by omega) (by omega) (by omega) (by omega) hdx hdy (by omega) hnum hz9
