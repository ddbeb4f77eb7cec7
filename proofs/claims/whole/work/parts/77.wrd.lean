/-! words -/
def wd (k : Nat) : List Nat := match k with
  | 0 => [118, 97, 108, 108, 101, 121]
  | 1 => [102, 97, 99, 101]
  | 2 => [119, 111, 111, 100]
  | 3 => [115, 110, 111, 119]
  | 4 => [102, 105, 101, 108, 100]
  | 5 => [115, 105, 116, 101]
  | 6 => [115, 101, 97, 115, 111, 110]
  | 7 => [109, 97, 121, 98, 101]
  | 8 => [108, 111, 117, 100]
  | _ => [108, 97, 119]
def wm (T : Nat → Int) (s k m : Nat) : Bool := it (fun i r => r && decide (T (s + i) = (((wd k).getD i 0 : Nat) : Int))) true m
theorem wm_nx {T : Nat → Int} {s k m : Nat} : wm T s k (m + 1) = (wm T s k m && decide (T (s + m) = (((wd k).getD m 0 : Nat) : Int))) := rfl
theorem wm_no {T : Nat → Int} {s k m : Nat} (h : wm T s k m = false) : ∀ d, wm T s k (m + d) = false := by
  intro d
  induction d with
  | zero => exact h
  | succ d ih => rw [← Nat.add_assoc, wm_nx, ih]; rfl
def isW (T : Nat → Int) (s b k : Nat) : Bool := decide (b = s + (wd k).length) && wm T s k (wd k).length
def kdr (T : Nat → Int) (s b : Nat) : Nat → Nat → Int
  | 0 => fun _ => -1
  | d + 1 => fun j => if isW T s b j then (j : Int) else kdr T s b d (j + 1)
def kd (T : Nat → Int) (s b : Nat) : Int := kdr T s b 10 0
def hsh (T : Nat → Int) (s m : Nat) : Int := it (fun i v => v * 32 + (T (s + i) - 96)) 0 m
theorem hsh_nx {T : Nat → Int} {s m : Nat} : hsh T s (m + 1) = hsh T s m * 32 + (T (s + m) - 96) := rfl
def wv (T : Nat → Int) (s b : Nat) : Int := if b - s ≤ 6 then hsh T s (b - s) else 0
section WD
variable {N : Nat} {T : Nat → Int} {n : Nat}
theorem am_br_r (r : Nat) (M : am_M) (k : Nat → am_M → am_O) : am_br (some (.ok (some (.ref r)), M)) k = k r M := rfl
theorem c_ltr (hT : TB T n) {v1 : Int32} : ∀ (d a m : Nat) (M : am_M), a + d = n → d < m → PT T n M → M 18 6 = i32 (a : Int) → f_X5_readWord_5 N v1 m M = f_X5_readWord_59 N v1 N 0 (am_up M 18 6 (i32 (ltr T n d a : Nat))) := by
  have h6 := hT.1
  intro d
  induction d with
  | zero =>
    intro a m M ha hm hP h
    obtain ⟨m, rfl⟩ : ∃ k, m = k + 1 := ⟨m - 1, by omega⟩
    show f_X5_readWord_5B N _ _ M = _
    unfold f_X5_readWord_5B
    rw [hP.1, h, if_pos ((i32_le (by omega) (by omega) (by omega) (by omega)).mpr (by omega))]
    show _ = f_X5_readWord_59 N v1 N 0 (am_up M 18 6 (i32 (a : Nat)))
    rw [← h, up_self]
  | succ d ih =>
    intro a m M ha hm hP h
    obtain ⟨m, rfl⟩ : ∃ k, m = k + 1 := ⟨m - 1, by omega⟩
    show f_X5_readWord_5B N _ _ M = _
    unfold f_X5_readWord_5B
    have hc := hT.2 a (by omega)
    have hs := sg_B hc
    rw [hP.1, h, if_neg (fun q => absurd ((i32_le (by omega) (by omega) (by omega) (by omega)).mp q) (by omega)), if_pos (i32_in (by omega) (by omega) (by omega)), i32_k (by omega), hP.2 a (by omega), i32_s, show (97 : Int32) = i32 97 from rfl, show (122 : Int32) = i32 122 from rfl]
    have e : ltr T n (d + 1) a = if a < n ∧ 97 ≤ T a ∧ T a ≤ 122 then ltr T n d (a + 1) else a := rfl
    by_cases h1 : sg (T a) < 97
    · rw [if_pos ((i32_lt (by omega) (by omega) (by omega) (by omega)).mpr h1), show ltr T n (d + 1) a = a from by
        rw [e, if_neg]
        intro z
        unfold sg at h1
        split at h1 <;> omega, ← h, up_self]
    · rw [if_neg (fun q => h1 ((i32_lt (by omega) (by omega) (by omega) (by omega)).mp q)), if_pos (i32_in (by omega) (by omega) (by omega))]
      by_cases h2 : 122 < sg (T a)
      · rw [if_pos ((i32_lt (by omega) (by omega) (by omega) (by omega)).mpr h2), show ltr T n (d + 1) a = a from by
          rw [e, if_neg]
          intro z
          unfold sg at h2
          split at h2 <;> omega, ← h, up_self]
      · rw [if_neg (fun q => h2 ((i32_lt (by omega) (by omega) (by omega) (by omega)).mp q)), show ltr T n (d + 1) a = ltr T n d (a + 1) from by
          rw [e, if_pos]
          unfold sg at h1 h2
          split at h1 <;> omega, ih (a + 1) m _ (by omega) (by omega) (hP.fr f18.at) (up_eq _ _ _ _), up_up]
theorem c_ch0 {M : am_M} : ∀ j : Nat, j < 6 → f_cJ0_charAt_1000 N (i32 (j : Int)) M = some (.ok (some (.int (i32 (((wd 0).getD j 0 : Nat) : Int)))), M) := by
  intro j hj
  have : j = 0 ∨ j = 1 ∨ j = 2 ∨ j = 3 ∨ j = 4 ∨ j = 5 := by omega
  rcases this with rfl | rfl | rfl | rfl | rfl | rfl <;> rfl
theorem c_iw0 (hT : TB T n) {M : am_M} (hP : PT T n M) {s b : Nat} (hb : b ≤ n) (hsb : b = s + 6) : ∀ (d j m : Nat), j + d = 6 → d < m → wm T s 0 j = true → f_X5_isWord_1000_17 N (i32 (s : Int)) m (i32 (j : Int)) M = some (.ok (some (.int (if wm T s 0 6 then 1 else 0))), M) := by
  have h6 := hT.1
  intro d
  induction d with
  | zero =>
    intro j m hj hm hw
    obtain ⟨m, rfl⟩ : ∃ k, m = k + 1 := ⟨m - 1, by omega⟩
    show f_X5_isWord_1000_17B N _ _ _ M = _
    unfold f_X5_isWord_1000_17B
    rw [show f_cJ0_length_1000 N M = some (.ok (some (.int (i32 6))), M) from rfl]
    simp only [am_bi_i]
    rw [show j = 6 from by omega] at hw ⊢
    rw [if_pos ((i32_le (by omega) (by omega) (by omega) (by omega)).mpr (by omega)), hw]
    rfl
  | succ d ih =>
    intro j m hj hm hw
    obtain ⟨m, rfl⟩ : ∃ k, m = k + 1 := ⟨m - 1, by omega⟩
    show f_X5_isWord_1000_17B N _ _ _ M = _
    unfold f_X5_isWord_1000_17B
    rw [show f_cJ0_length_1000 N M = some (.ok (some (.int (i32 6))), M) from rfl]
    simp only [am_bi_i]
    have hc := hT.2 (s + j) (by omega)
    have hsg := sg_B hc
    have hw7 : ((wd 0).getD j 0) ≤ 127 := by
      have : j = 0 ∨ j = 1 ∨ j = 2 ∨ j = 3 ∨ j = 4 ∨ j = 5 := by omega
      rcases this with rfl | rfl | rfl | rfl | rfl | rfl <;> decide
    rw [if_neg (fun q => absurd ((i32_le (by omega) (by omega) (by omega) (by omega)).mp q) (by omega)), i32_add, if_pos (i32_in (by omega) (by omega) (by omega)), c_ch0 j (by omega)]
    simp only [am_bi_i]
    rw [i32_cl (by omega) (by omega), show ((s : Int) + (j : Int)).toNat = s + j from by omega, hP.2 (s + j) (by omega), i32_s]
    have k1 := wm_nx (T := T) (s := s) (k := 0) (m := j)
    rw [hw, Bool.true_and] at k1
    by_cases he : T (s + j) = (((wd 0).getD j 0 : Nat) : Int)
    · rw [if_pos ((i32_eq (by omega) (by omega) (by omega) (by omega)).mpr ((sg_lo hc (by omega)).mpr he))]
      exact ih (j + 1) m (by omega) (by omega) (by rw [k1]; exact decide_eq_true he)
    · rw [if_neg (fun q => he ((sg_lo hc (by omega)).mp ((i32_eq (by omega) (by omega) (by omega) (by omega)).mp q)))]
      have := wm_no (k1.trans (decide_eq_false he)) d
      rw [show j + 1 + d = 6 from by omega] at this
      rw [this]; rfl
theorem c_isW0 (hN : 602 ≤ N) (hT : TB T n) {M : am_M} (hP : PT T n M) {s b : Nat} (hs : s ≤ b) (hb : b ≤ n) (h : M 18 6 = i32 (b : Int)) : f_X5_isWord_1000 N (i32 (s : Int)) M = some (.ok (some (.int (if isW T s b 0 then 1 else 0))), M) := by
  have h6 := hT.1
  unfold f_X5_isWord_1000 isW
  rw [show f_cJ0_length_1000 N M = some (.ok (some (.int (i32 6))), M) from rfl]
  simp only [am_bi_i]
  rw [h, i32_sub, show (wd 0).length = 6 from rfl]
  by_cases hl : b = s + 6
  · rw [if_pos ((i32_eq (by omega) (by omega) (by omega) (by omega)).mpr (by omega)), decide_eq_true hl, Bool.true_and]
    exact c_iw0 hT hP hb hl 6 0 N (by omega) (by omega) rfl
  · rw [if_neg (fun q => hl (by have := (i32_eq (by omega) (by omega) (by omega) (by omega)).mp q; omega)), decide_eq_false hl, Bool.false_and]
    rfl
theorem c_w59_0 (hN : 602 ≤ N) (hT : TB T n) {M : am_M} (hP : PT T n M) {s b : Nat} (hs : s ≤ b) (hb : b ≤ n) (h : M 18 6 = i32 (b : Int)) {k59 : Int32 → am_M → am_O} : f_X5_readWord_59B N (i32 (s : Int)) k59 0 M = if isW T s b 0 then some (.ok (some (.int 0)), M) else k59 1 M := by
  unfold f_X5_readWord_59B
  rw [if_neg (show ¬ (10 : Int32) ≤ 0 by decide), show f_X5_wordOf N 0 M = some (.ok (some (.ref 1000)), M) from rfl]
  simp only [am_br_r]
  rw [if_pos trivial, c_isW0 hN hT hP hs hb h]
  simp only [am_bi_i]
  by_cases hw : isW T s b 0 = true
  · rw [if_pos hw, if_pos hw, if_neg (by decide)]
  · rw [if_neg hw, if_neg hw, if_pos rfl]
    rfl
theorem c_ch1 {M : am_M} : ∀ j : Nat, j < 4 → f_cJ0_charAt_1001 N (i32 (j : Int)) M = some (.ok (some (.int (i32 (((wd 1).getD j 0 : Nat) : Int)))), M) := by
  intro j hj
  have : j = 0 ∨ j = 1 ∨ j = 2 ∨ j = 3 := by omega
  rcases this with rfl | rfl | rfl | rfl <;> rfl
theorem c_iw1 (hT : TB T n) {M : am_M} (hP : PT T n M) {s b : Nat} (hb : b ≤ n) (hsb : b = s + 4) : ∀ (d j m : Nat), j + d = 4 → d < m → wm T s 1 j = true → f_X5_isWord_1001_17 N (i32 (s : Int)) m (i32 (j : Int)) M = some (.ok (some (.int (if wm T s 1 4 then 1 else 0))), M) := by
  have h6 := hT.1
  intro d
  induction d with
  | zero =>
    intro j m hj hm hw
    obtain ⟨m, rfl⟩ : ∃ k, m = k + 1 := ⟨m - 1, by omega⟩
    show f_X5_isWord_1001_17B N _ _ _ M = _
    unfold f_X5_isWord_1001_17B
    rw [show f_cJ0_length_1001 N M = some (.ok (some (.int (i32 4))), M) from rfl]
    simp only [am_bi_i]
    rw [show j = 4 from by omega] at hw ⊢
    rw [if_pos ((i32_le (by omega) (by omega) (by omega) (by omega)).mpr (by omega)), hw]
    rfl
  | succ d ih =>
    intro j m hj hm hw
    obtain ⟨m, rfl⟩ : ∃ k, m = k + 1 := ⟨m - 1, by omega⟩
    show f_X5_isWord_1001_17B N _ _ _ M = _
    unfold f_X5_isWord_1001_17B
    rw [show f_cJ0_length_1001 N M = some (.ok (some (.int (i32 4))), M) from rfl]
    simp only [am_bi_i]
    have hc := hT.2 (s + j) (by omega)
    have hsg := sg_B hc
    have hw7 : ((wd 1).getD j 0) ≤ 127 := by
      have : j = 0 ∨ j = 1 ∨ j = 2 ∨ j = 3 := by omega
      rcases this with rfl | rfl | rfl | rfl <;> decide
    rw [if_neg (fun q => absurd ((i32_le (by omega) (by omega) (by omega) (by omega)).mp q) (by omega)), i32_add, if_pos (i32_in (by omega) (by omega) (by omega)), c_ch1 j (by omega)]
    simp only [am_bi_i]
    rw [i32_cl (by omega) (by omega), show ((s : Int) + (j : Int)).toNat = s + j from by omega, hP.2 (s + j) (by omega), i32_s]
    have k1 := wm_nx (T := T) (s := s) (k := 1) (m := j)
    rw [hw, Bool.true_and] at k1
    by_cases he : T (s + j) = (((wd 1).getD j 0 : Nat) : Int)
    · rw [if_pos ((i32_eq (by omega) (by omega) (by omega) (by omega)).mpr ((sg_lo hc (by omega)).mpr he))]
      exact ih (j + 1) m (by omega) (by omega) (by rw [k1]; exact decide_eq_true he)
    · rw [if_neg (fun q => he ((sg_lo hc (by omega)).mp ((i32_eq (by omega) (by omega) (by omega) (by omega)).mp q)))]
      have := wm_no (k1.trans (decide_eq_false he)) d
      rw [show j + 1 + d = 4 from by omega] at this
      rw [this]; rfl
theorem c_isW1 (hN : 602 ≤ N) (hT : TB T n) {M : am_M} (hP : PT T n M) {s b : Nat} (hs : s ≤ b) (hb : b ≤ n) (h : M 18 6 = i32 (b : Int)) : f_X5_isWord_1001 N (i32 (s : Int)) M = some (.ok (some (.int (if isW T s b 1 then 1 else 0))), M) := by
  have h6 := hT.1
  unfold f_X5_isWord_1001 isW
  rw [show f_cJ0_length_1001 N M = some (.ok (some (.int (i32 4))), M) from rfl]
  simp only [am_bi_i]
  rw [h, i32_sub, show (wd 1).length = 4 from rfl]
  by_cases hl : b = s + 4
  · rw [if_pos ((i32_eq (by omega) (by omega) (by omega) (by omega)).mpr (by omega)), decide_eq_true hl, Bool.true_and]
    exact c_iw1 hT hP hb hl 4 0 N (by omega) (by omega) rfl
  · rw [if_neg (fun q => hl (by have := (i32_eq (by omega) (by omega) (by omega) (by omega)).mp q; omega)), decide_eq_false hl, Bool.false_and]
    rfl
theorem c_w59_1 (hN : 602 ≤ N) (hT : TB T n) {M : am_M} (hP : PT T n M) {s b : Nat} (hs : s ≤ b) (hb : b ≤ n) (h : M 18 6 = i32 (b : Int)) {k59 : Int32 → am_M → am_O} : f_X5_readWord_59B N (i32 (s : Int)) k59 1 M = if isW T s b 1 then some (.ok (some (.int 1)), M) else k59 2 M := by
  unfold f_X5_readWord_59B
  rw [if_neg (show ¬ (10 : Int32) ≤ 1 by decide), show f_X5_wordOf N 1 M = some (.ok (some (.ref 1001)), M) from rfl]
  simp only [am_br_r]
  rw [if_neg (show ¬ (1001 : Nat) = 1000 by decide), if_pos trivial, c_isW1 hN hT hP hs hb h]
  simp only [am_bi_i]
  by_cases hw : isW T s b 1 = true
  · rw [if_pos hw, if_pos hw, if_neg (by decide)]
  · rw [if_neg hw, if_neg hw, if_pos rfl]
    rfl
theorem c_ch2 {M : am_M} : ∀ j : Nat, j < 4 → f_cJ0_charAt_1002 N (i32 (j : Int)) M = some (.ok (some (.int (i32 (((wd 2).getD j 0 : Nat) : Int)))), M) := by
  intro j hj
  have : j = 0 ∨ j = 1 ∨ j = 2 ∨ j = 3 := by omega
  rcases this with rfl | rfl | rfl | rfl <;> rfl
theorem c_iw2 (hT : TB T n) {M : am_M} (hP : PT T n M) {s b : Nat} (hb : b ≤ n) (hsb : b = s + 4) : ∀ (d j m : Nat), j + d = 4 → d < m → wm T s 2 j = true → f_X5_isWord_1002_17 N (i32 (s : Int)) m (i32 (j : Int)) M = some (.ok (some (.int (if wm T s 2 4 then 1 else 0))), M) := by
  have h6 := hT.1
  intro d
  induction d with
  | zero =>
    intro j m hj hm hw
    obtain ⟨m, rfl⟩ : ∃ k, m = k + 1 := ⟨m - 1, by omega⟩
    show f_X5_isWord_1002_17B N _ _ _ M = _
    unfold f_X5_isWord_1002_17B
    rw [show f_cJ0_length_1002 N M = some (.ok (some (.int (i32 4))), M) from rfl]
    simp only [am_bi_i]
    rw [show j = 4 from by omega] at hw ⊢
    rw [if_pos ((i32_le (by omega) (by omega) (by omega) (by omega)).mpr (by omega)), hw]
    rfl
  | succ d ih =>
    intro j m hj hm hw
    obtain ⟨m, rfl⟩ : ∃ k, m = k + 1 := ⟨m - 1, by omega⟩
    show f_X5_isWord_1002_17B N _ _ _ M = _
    unfold f_X5_isWord_1002_17B
    rw [show f_cJ0_length_1002 N M = some (.ok (some (.int (i32 4))), M) from rfl]
    simp only [am_bi_i]
    have hc := hT.2 (s + j) (by omega)
    have hsg := sg_B hc
    have hw7 : ((wd 2).getD j 0) ≤ 127 := by
      have : j = 0 ∨ j = 1 ∨ j = 2 ∨ j = 3 := by omega
      rcases this with rfl | rfl | rfl | rfl <;> decide
    rw [if_neg (fun q => absurd ((i32_le (by omega) (by omega) (by omega) (by omega)).mp q) (by omega)), i32_add, if_pos (i32_in (by omega) (by omega) (by omega)), c_ch2 j (by omega)]
    simp only [am_bi_i]
    rw [i32_cl (by omega) (by omega), show ((s : Int) + (j : Int)).toNat = s + j from by omega, hP.2 (s + j) (by omega), i32_s]
    have k1 := wm_nx (T := T) (s := s) (k := 2) (m := j)
    rw [hw, Bool.true_and] at k1
    by_cases he : T (s + j) = (((wd 2).getD j 0 : Nat) : Int)
    · rw [if_pos ((i32_eq (by omega) (by omega) (by omega) (by omega)).mpr ((sg_lo hc (by omega)).mpr he))]
      exact ih (j + 1) m (by omega) (by omega) (by rw [k1]; exact decide_eq_true he)
    · rw [if_neg (fun q => he ((sg_lo hc (by omega)).mp ((i32_eq (by omega) (by omega) (by omega) (by omega)).mp q)))]
      have := wm_no (k1.trans (decide_eq_false he)) d
      rw [show j + 1 + d = 4 from by omega] at this
      rw [this]; rfl
theorem c_isW2 (hN : 602 ≤ N) (hT : TB T n) {M : am_M} (hP : PT T n M) {s b : Nat} (hs : s ≤ b) (hb : b ≤ n) (h : M 18 6 = i32 (b : Int)) : f_X5_isWord_1002 N (i32 (s : Int)) M = some (.ok (some (.int (if isW T s b 2 then 1 else 0))), M) := by
  have h6 := hT.1
  unfold f_X5_isWord_1002 isW
  rw [show f_cJ0_length_1002 N M = some (.ok (some (.int (i32 4))), M) from rfl]
  simp only [am_bi_i]
  rw [h, i32_sub, show (wd 2).length = 4 from rfl]
  by_cases hl : b = s + 4
  · rw [if_pos ((i32_eq (by omega) (by omega) (by omega) (by omega)).mpr (by omega)), decide_eq_true hl, Bool.true_and]
    exact c_iw2 hT hP hb hl 4 0 N (by omega) (by omega) rfl
  · rw [if_neg (fun q => hl (by have := (i32_eq (by omega) (by omega) (by omega) (by omega)).mp q; omega)), decide_eq_false hl, Bool.false_and]
    rfl
theorem c_w59_2 (hN : 602 ≤ N) (hT : TB T n) {M : am_M} (hP : PT T n M) {s b : Nat} (hs : s ≤ b) (hb : b ≤ n) (h : M 18 6 = i32 (b : Int)) {k59 : Int32 → am_M → am_O} : f_X5_readWord_59B N (i32 (s : Int)) k59 2 M = if isW T s b 2 then some (.ok (some (.int 2)), M) else k59 3 M := by
  unfold f_X5_readWord_59B
  rw [if_neg (show ¬ (10 : Int32) ≤ 2 by decide), show f_X5_wordOf N 2 M = some (.ok (some (.ref 1002)), M) from rfl]
  simp only [am_br_r]
  rw [if_neg (show ¬ (1002 : Nat) = 1000 by decide), if_neg (show ¬ (1002 : Nat) = 1001 by decide), if_pos trivial, c_isW2 hN hT hP hs hb h]
  simp only [am_bi_i]
  by_cases hw : isW T s b 2 = true
  · rw [if_pos hw, if_pos hw, if_neg (by decide)]
  · rw [if_neg hw, if_neg hw, if_pos rfl]
    rfl
theorem c_ch3 {M : am_M} : ∀ j : Nat, j < 4 → f_cJ0_charAt_1003 N (i32 (j : Int)) M = some (.ok (some (.int (i32 (((wd 3).getD j 0 : Nat) : Int)))), M) := by
  intro j hj
  have : j = 0 ∨ j = 1 ∨ j = 2 ∨ j = 3 := by omega
  rcases this with rfl | rfl | rfl | rfl <;> rfl
theorem c_iw3 (hT : TB T n) {M : am_M} (hP : PT T n M) {s b : Nat} (hb : b ≤ n) (hsb : b = s + 4) : ∀ (d j m : Nat), j + d = 4 → d < m → wm T s 3 j = true → f_X5_isWord_1003_17 N (i32 (s : Int)) m (i32 (j : Int)) M = some (.ok (some (.int (if wm T s 3 4 then 1 else 0))), M) := by
  have h6 := hT.1
  intro d
  induction d with
  | zero =>
    intro j m hj hm hw
    obtain ⟨m, rfl⟩ : ∃ k, m = k + 1 := ⟨m - 1, by omega⟩
    show f_X5_isWord_1003_17B N _ _ _ M = _
    unfold f_X5_isWord_1003_17B
    rw [show f_cJ0_length_1003 N M = some (.ok (some (.int (i32 4))), M) from rfl]
    simp only [am_bi_i]
    rw [show j = 4 from by omega] at hw ⊢
    rw [if_pos ((i32_le (by omega) (by omega) (by omega) (by omega)).mpr (by omega)), hw]
    rfl
  | succ d ih =>
    intro j m hj hm hw
    obtain ⟨m, rfl⟩ : ∃ k, m = k + 1 := ⟨m - 1, by omega⟩
    show f_X5_isWord_1003_17B N _ _ _ M = _
    unfold f_X5_isWord_1003_17B
    rw [show f_cJ0_length_1003 N M = some (.ok (some (.int (i32 4))), M) from rfl]
    simp only [am_bi_i]
    have hc := hT.2 (s + j) (by omega)
    have hsg := sg_B hc
    have hw7 : ((wd 3).getD j 0) ≤ 127 := by
      have : j = 0 ∨ j = 1 ∨ j = 2 ∨ j = 3 := by omega
      rcases this with rfl | rfl | rfl | rfl <;> decide
    rw [if_neg (fun q => absurd ((i32_le (by omega) (by omega) (by omega) (by omega)).mp q) (by omega)), i32_add, if_pos (i32_in (by omega) (by omega) (by omega)), c_ch3 j (by omega)]
    simp only [am_bi_i]
    rw [i32_cl (by omega) (by omega), show ((s : Int) + (j : Int)).toNat = s + j from by omega, hP.2 (s + j) (by omega), i32_s]
    have k1 := wm_nx (T := T) (s := s) (k := 3) (m := j)
    rw [hw, Bool.true_and] at k1
    by_cases he : T (s + j) = (((wd 3).getD j 0 : Nat) : Int)
    · rw [if_pos ((i32_eq (by omega) (by omega) (by omega) (by omega)).mpr ((sg_lo hc (by omega)).mpr he))]
      exact ih (j + 1) m (by omega) (by omega) (by rw [k1]; exact decide_eq_true he)
    · rw [if_neg (fun q => he ((sg_lo hc (by omega)).mp ((i32_eq (by omega) (by omega) (by omega) (by omega)).mp q)))]
      have := wm_no (k1.trans (decide_eq_false he)) d
      rw [show j + 1 + d = 4 from by omega] at this
      rw [this]; rfl
theorem c_isW3 (hN : 602 ≤ N) (hT : TB T n) {M : am_M} (hP : PT T n M) {s b : Nat} (hs : s ≤ b) (hb : b ≤ n) (h : M 18 6 = i32 (b : Int)) : f_X5_isWord_1003 N (i32 (s : Int)) M = some (.ok (some (.int (if isW T s b 3 then 1 else 0))), M) := by
  have h6 := hT.1
  unfold f_X5_isWord_1003 isW
  rw [show f_cJ0_length_1003 N M = some (.ok (some (.int (i32 4))), M) from rfl]
  simp only [am_bi_i]
  rw [h, i32_sub, show (wd 3).length = 4 from rfl]
  by_cases hl : b = s + 4
  · rw [if_pos ((i32_eq (by omega) (by omega) (by omega) (by omega)).mpr (by omega)), decide_eq_true hl, Bool.true_and]
    exact c_iw3 hT hP hb hl 4 0 N (by omega) (by omega) rfl
  · rw [if_neg (fun q => hl (by have := (i32_eq (by omega) (by omega) (by omega) (by omega)).mp q; omega)), decide_eq_false hl, Bool.false_and]
    rfl
theorem c_w59_3 (hN : 602 ≤ N) (hT : TB T n) {M : am_M} (hP : PT T n M) {s b : Nat} (hs : s ≤ b) (hb : b ≤ n) (h : M 18 6 = i32 (b : Int)) {k59 : Int32 → am_M → am_O} : f_X5_readWord_59B N (i32 (s : Int)) k59 3 M = if isW T s b 3 then some (.ok (some (.int 3)), M) else k59 4 M := by
  unfold f_X5_readWord_59B
  rw [if_neg (show ¬ (10 : Int32) ≤ 3 by decide), show f_X5_wordOf N 3 M = some (.ok (some (.ref 1003)), M) from rfl]
  simp only [am_br_r]
  rw [if_neg (show ¬ (1003 : Nat) = 1000 by decide), if_neg (show ¬ (1003 : Nat) = 1001 by decide), if_neg (show ¬ (1003 : Nat) = 1002 by decide), if_pos trivial, c_isW3 hN hT hP hs hb h]
  simp only [am_bi_i]
  by_cases hw : isW T s b 3 = true
  · rw [if_pos hw, if_pos hw, if_neg (by decide)]
  · rw [if_neg hw, if_neg hw, if_pos rfl]
    rfl
theorem c_ch4 {M : am_M} : ∀ j : Nat, j < 5 → f_cJ0_charAt_1004 N (i32 (j : Int)) M = some (.ok (some (.int (i32 (((wd 4).getD j 0 : Nat) : Int)))), M) := by
  intro j hj
  have : j = 0 ∨ j = 1 ∨ j = 2 ∨ j = 3 ∨ j = 4 := by omega
  rcases this with rfl | rfl | rfl | rfl | rfl <;> rfl
theorem c_iw4 (hT : TB T n) {M : am_M} (hP : PT T n M) {s b : Nat} (hb : b ≤ n) (hsb : b = s + 5) : ∀ (d j m : Nat), j + d = 5 → d < m → wm T s 4 j = true → f_X5_isWord_1004_17 N (i32 (s : Int)) m (i32 (j : Int)) M = some (.ok (some (.int (if wm T s 4 5 then 1 else 0))), M) := by
  have h6 := hT.1
  intro d
  induction d with
  | zero =>
    intro j m hj hm hw
    obtain ⟨m, rfl⟩ : ∃ k, m = k + 1 := ⟨m - 1, by omega⟩
    show f_X5_isWord_1004_17B N _ _ _ M = _
    unfold f_X5_isWord_1004_17B
    rw [show f_cJ0_length_1004 N M = some (.ok (some (.int (i32 5))), M) from rfl]
    simp only [am_bi_i]
    rw [show j = 5 from by omega] at hw ⊢
    rw [if_pos ((i32_le (by omega) (by omega) (by omega) (by omega)).mpr (by omega)), hw]
    rfl
  | succ d ih =>
    intro j m hj hm hw
    obtain ⟨m, rfl⟩ : ∃ k, m = k + 1 := ⟨m - 1, by omega⟩
    show f_X5_isWord_1004_17B N _ _ _ M = _
    unfold f_X5_isWord_1004_17B
    rw [show f_cJ0_length_1004 N M = some (.ok (some (.int (i32 5))), M) from rfl]
    simp only [am_bi_i]
    have hc := hT.2 (s + j) (by omega)
    have hsg := sg_B hc
    have hw7 : ((wd 4).getD j 0) ≤ 127 := by
      have : j = 0 ∨ j = 1 ∨ j = 2 ∨ j = 3 ∨ j = 4 := by omega
      rcases this with rfl | rfl | rfl | rfl | rfl <;> decide
    rw [if_neg (fun q => absurd ((i32_le (by omega) (by omega) (by omega) (by omega)).mp q) (by omega)), i32_add, if_pos (i32_in (by omega) (by omega) (by omega)), c_ch4 j (by omega)]
    simp only [am_bi_i]
    rw [i32_cl (by omega) (by omega), show ((s : Int) + (j : Int)).toNat = s + j from by omega, hP.2 (s + j) (by omega), i32_s]
    have k1 := wm_nx (T := T) (s := s) (k := 4) (m := j)
    rw [hw, Bool.true_and] at k1
    by_cases he : T (s + j) = (((wd 4).getD j 0 : Nat) : Int)
    · rw [if_pos ((i32_eq (by omega) (by omega) (by omega) (by omega)).mpr ((sg_lo hc (by omega)).mpr he))]
      exact ih (j + 1) m (by omega) (by omega) (by rw [k1]; exact decide_eq_true he)
    · rw [if_neg (fun q => he ((sg_lo hc (by omega)).mp ((i32_eq (by omega) (by omega) (by omega) (by omega)).mp q)))]
      have := wm_no (k1.trans (decide_eq_false he)) d
      rw [show j + 1 + d = 5 from by omega] at this
      rw [this]; rfl
theorem c_isW4 (hN : 602 ≤ N) (hT : TB T n) {M : am_M} (hP : PT T n M) {s b : Nat} (hs : s ≤ b) (hb : b ≤ n) (h : M 18 6 = i32 (b : Int)) : f_X5_isWord_1004 N (i32 (s : Int)) M = some (.ok (some (.int (if isW T s b 4 then 1 else 0))), M) := by
  have h6 := hT.1
  unfold f_X5_isWord_1004 isW
  rw [show f_cJ0_length_1004 N M = some (.ok (some (.int (i32 5))), M) from rfl]
  simp only [am_bi_i]
  rw [h, i32_sub, show (wd 4).length = 5 from rfl]
  by_cases hl : b = s + 5
  · rw [if_pos ((i32_eq (by omega) (by omega) (by omega) (by omega)).mpr (by omega)), decide_eq_true hl, Bool.true_and]
    exact c_iw4 hT hP hb hl 5 0 N (by omega) (by omega) rfl
  · rw [if_neg (fun q => hl (by have := (i32_eq (by omega) (by omega) (by omega) (by omega)).mp q; omega)), decide_eq_false hl, Bool.false_and]
    rfl
theorem c_w59_4 (hN : 602 ≤ N) (hT : TB T n) {M : am_M} (hP : PT T n M) {s b : Nat} (hs : s ≤ b) (hb : b ≤ n) (h : M 18 6 = i32 (b : Int)) {k59 : Int32 → am_M → am_O} : f_X5_readWord_59B N (i32 (s : Int)) k59 4 M = if isW T s b 4 then some (.ok (some (.int 4)), M) else k59 5 M := by
  unfold f_X5_readWord_59B
  rw [if_neg (show ¬ (10 : Int32) ≤ 4 by decide), show f_X5_wordOf N 4 M = some (.ok (some (.ref 1004)), M) from rfl]
  simp only [am_br_r]
  rw [if_neg (show ¬ (1004 : Nat) = 1000 by decide), if_neg (show ¬ (1004 : Nat) = 1001 by decide), if_neg (show ¬ (1004 : Nat) = 1002 by decide), if_neg (show ¬ (1004 : Nat) = 1003 by decide), if_pos trivial, c_isW4 hN hT hP hs hb h]
  simp only [am_bi_i]
  by_cases hw : isW T s b 4 = true
  · rw [if_pos hw, if_pos hw, if_neg (by decide)]
  · rw [if_neg hw, if_neg hw, if_pos rfl]
    rfl
theorem c_ch5 {M : am_M} : ∀ j : Nat, j < 4 → f_cJ0_charAt_1005 N (i32 (j : Int)) M = some (.ok (some (.int (i32 (((wd 5).getD j 0 : Nat) : Int)))), M) := by
  intro j hj
  have : j = 0 ∨ j = 1 ∨ j = 2 ∨ j = 3 := by omega
  rcases this with rfl | rfl | rfl | rfl <;> rfl
theorem c_iw5 (hT : TB T n) {M : am_M} (hP : PT T n M) {s b : Nat} (hb : b ≤ n) (hsb : b = s + 4) : ∀ (d j m : Nat), j + d = 4 → d < m → wm T s 5 j = true → f_X5_isWord_1005_17 N (i32 (s : Int)) m (i32 (j : Int)) M = some (.ok (some (.int (if wm T s 5 4 then 1 else 0))), M) := by
  have h6 := hT.1
  intro d
  induction d with
  | zero =>
    intro j m hj hm hw
    obtain ⟨m, rfl⟩ : ∃ k, m = k + 1 := ⟨m - 1, by omega⟩
    show f_X5_isWord_1005_17B N _ _ _ M = _
    unfold f_X5_isWord_1005_17B
    rw [show f_cJ0_length_1005 N M = some (.ok (some (.int (i32 4))), M) from rfl]
    simp only [am_bi_i]
    rw [show j = 4 from by omega] at hw ⊢
    rw [if_pos ((i32_le (by omega) (by omega) (by omega) (by omega)).mpr (by omega)), hw]
    rfl
  | succ d ih =>
    intro j m hj hm hw
    obtain ⟨m, rfl⟩ : ∃ k, m = k + 1 := ⟨m - 1, by omega⟩
    show f_X5_isWord_1005_17B N _ _ _ M = _
    unfold f_X5_isWord_1005_17B
    rw [show f_cJ0_length_1005 N M = some (.ok (some (.int (i32 4))), M) from rfl]
    simp only [am_bi_i]
    have hc := hT.2 (s + j) (by omega)
    have hsg := sg_B hc
    have hw7 : ((wd 5).getD j 0) ≤ 127 := by
      have : j = 0 ∨ j = 1 ∨ j = 2 ∨ j = 3 := by omega
      rcases this with rfl | rfl | rfl | rfl <;> decide
    rw [if_neg (fun q => absurd ((i32_le (by omega) (by omega) (by omega) (by omega)).mp q) (by omega)), i32_add, if_pos (i32_in (by omega) (by omega) (by omega)), c_ch5 j (by omega)]
    simp only [am_bi_i]
    rw [i32_cl (by omega) (by omega), show ((s : Int) + (j : Int)).toNat = s + j from by omega, hP.2 (s + j) (by omega), i32_s]
    have k1 := wm_nx (T := T) (s := s) (k := 5) (m := j)
    rw [hw, Bool.true_and] at k1
    by_cases he : T (s + j) = (((wd 5).getD j 0 : Nat) : Int)
    · rw [if_pos ((i32_eq (by omega) (by omega) (by omega) (by omega)).mpr ((sg_lo hc (by omega)).mpr he))]
      exact ih (j + 1) m (by omega) (by omega) (by rw [k1]; exact decide_eq_true he)
    · rw [if_neg (fun q => he ((sg_lo hc (by omega)).mp ((i32_eq (by omega) (by omega) (by omega) (by omega)).mp q)))]
      have := wm_no (k1.trans (decide_eq_false he)) d
      rw [show j + 1 + d = 4 from by omega] at this
      rw [this]; rfl
theorem c_isW5 (hN : 602 ≤ N) (hT : TB T n) {M : am_M} (hP : PT T n M) {s b : Nat} (hs : s ≤ b) (hb : b ≤ n) (h : M 18 6 = i32 (b : Int)) : f_X5_isWord_1005 N (i32 (s : Int)) M = some (.ok (some (.int (if isW T s b 5 then 1 else 0))), M) := by
  have h6 := hT.1
  unfold f_X5_isWord_1005 isW
  rw [show f_cJ0_length_1005 N M = some (.ok (some (.int (i32 4))), M) from rfl]
  simp only [am_bi_i]
  rw [h, i32_sub, show (wd 5).length = 4 from rfl]
  by_cases hl : b = s + 4
  · rw [if_pos ((i32_eq (by omega) (by omega) (by omega) (by omega)).mpr (by omega)), decide_eq_true hl, Bool.true_and]
    exact c_iw5 hT hP hb hl 4 0 N (by omega) (by omega) rfl
  · rw [if_neg (fun q => hl (by have := (i32_eq (by omega) (by omega) (by omega) (by omega)).mp q; omega)), decide_eq_false hl, Bool.false_and]
    rfl
theorem c_w59_5 (hN : 602 ≤ N) (hT : TB T n) {M : am_M} (hP : PT T n M) {s b : Nat} (hs : s ≤ b) (hb : b ≤ n) (h : M 18 6 = i32 (b : Int)) {k59 : Int32 → am_M → am_O} : f_X5_readWord_59B N (i32 (s : Int)) k59 5 M = if isW T s b 5 then some (.ok (some (.int 5)), M) else k59 6 M := by
  unfold f_X5_readWord_59B
  rw [if_neg (show ¬ (10 : Int32) ≤ 5 by decide), show f_X5_wordOf N 5 M = some (.ok (some (.ref 1005)), M) from rfl]
  simp only [am_br_r]
  rw [if_neg (show ¬ (1005 : Nat) = 1000 by decide), if_neg (show ¬ (1005 : Nat) = 1001 by decide), if_neg (show ¬ (1005 : Nat) = 1002 by decide), if_neg (show ¬ (1005 : Nat) = 1003 by decide), if_neg (show ¬ (1005 : Nat) = 1004 by decide), if_pos trivial, c_isW5 hN hT hP hs hb h]
  simp only [am_bi_i]
  by_cases hw : isW T s b 5 = true
  · rw [if_pos hw, if_pos hw, if_neg (by decide)]
  · rw [if_neg hw, if_neg hw, if_pos rfl]
    rfl
theorem c_ch6 {M : am_M} : ∀ j : Nat, j < 6 → f_cJ0_charAt_1006 N (i32 (j : Int)) M = some (.ok (some (.int (i32 (((wd 6).getD j 0 : Nat) : Int)))), M) := by
  intro j hj
  have : j = 0 ∨ j = 1 ∨ j = 2 ∨ j = 3 ∨ j = 4 ∨ j = 5 := by omega
  rcases this with rfl | rfl | rfl | rfl | rfl | rfl <;> rfl
theorem c_iw6 (hT : TB T n) {M : am_M} (hP : PT T n M) {s b : Nat} (hb : b ≤ n) (hsb : b = s + 6) : ∀ (d j m : Nat), j + d = 6 → d < m → wm T s 6 j = true → f_X5_isWord_1006_17 N (i32 (s : Int)) m (i32 (j : Int)) M = some (.ok (some (.int (if wm T s 6 6 then 1 else 0))), M) := by
  have h6 := hT.1
  intro d
  induction d with
  | zero =>
    intro j m hj hm hw
    obtain ⟨m, rfl⟩ : ∃ k, m = k + 1 := ⟨m - 1, by omega⟩
    show f_X5_isWord_1006_17B N _ _ _ M = _
    unfold f_X5_isWord_1006_17B
    rw [show f_cJ0_length_1006 N M = some (.ok (some (.int (i32 6))), M) from rfl]
    simp only [am_bi_i]
    rw [show j = 6 from by omega] at hw ⊢
    rw [if_pos ((i32_le (by omega) (by omega) (by omega) (by omega)).mpr (by omega)), hw]
    rfl
  | succ d ih =>
    intro j m hj hm hw
    obtain ⟨m, rfl⟩ : ∃ k, m = k + 1 := ⟨m - 1, by omega⟩
    show f_X5_isWord_1006_17B N _ _ _ M = _
    unfold f_X5_isWord_1006_17B
    rw [show f_cJ0_length_1006 N M = some (.ok (some (.int (i32 6))), M) from rfl]
    simp only [am_bi_i]
    have hc := hT.2 (s + j) (by omega)
    have hsg := sg_B hc
    have hw7 : ((wd 6).getD j 0) ≤ 127 := by
      have : j = 0 ∨ j = 1 ∨ j = 2 ∨ j = 3 ∨ j = 4 ∨ j = 5 := by omega
      rcases this with rfl | rfl | rfl | rfl | rfl | rfl <;> decide
    rw [if_neg (fun q => absurd ((i32_le (by omega) (by omega) (by omega) (by omega)).mp q) (by omega)), i32_add, if_pos (i32_in (by omega) (by omega) (by omega)), c_ch6 j (by omega)]
    simp only [am_bi_i]
    rw [i32_cl (by omega) (by omega), show ((s : Int) + (j : Int)).toNat = s + j from by omega, hP.2 (s + j) (by omega), i32_s]
    have k1 := wm_nx (T := T) (s := s) (k := 6) (m := j)
    rw [hw, Bool.true_and] at k1
    by_cases he : T (s + j) = (((wd 6).getD j 0 : Nat) : Int)
    · rw [if_pos ((i32_eq (by omega) (by omega) (by omega) (by omega)).mpr ((sg_lo hc (by omega)).mpr he))]
      exact ih (j + 1) m (by omega) (by omega) (by rw [k1]; exact decide_eq_true he)
    · rw [if_neg (fun q => he ((sg_lo hc (by omega)).mp ((i32_eq (by omega) (by omega) (by omega) (by omega)).mp q)))]
      have := wm_no (k1.trans (decide_eq_false he)) d
      rw [show j + 1 + d = 6 from by omega] at this
      rw [this]; rfl
theorem c_isW6 (hN : 602 ≤ N) (hT : TB T n) {M : am_M} (hP : PT T n M) {s b : Nat} (hs : s ≤ b) (hb : b ≤ n) (h : M 18 6 = i32 (b : Int)) : f_X5_isWord_1006 N (i32 (s : Int)) M = some (.ok (some (.int (if isW T s b 6 then 1 else 0))), M) := by
  have h6 := hT.1
  unfold f_X5_isWord_1006 isW
  rw [show f_cJ0_length_1006 N M = some (.ok (some (.int (i32 6))), M) from rfl]
  simp only [am_bi_i]
  rw [h, i32_sub, show (wd 6).length = 6 from rfl]
  by_cases hl : b = s + 6
  · rw [if_pos ((i32_eq (by omega) (by omega) (by omega) (by omega)).mpr (by omega)), decide_eq_true hl, Bool.true_and]
    exact c_iw6 hT hP hb hl 6 0 N (by omega) (by omega) rfl
  · rw [if_neg (fun q => hl (by have := (i32_eq (by omega) (by omega) (by omega) (by omega)).mp q; omega)), decide_eq_false hl, Bool.false_and]
    rfl
theorem c_w59_6 (hN : 602 ≤ N) (hT : TB T n) {M : am_M} (hP : PT T n M) {s b : Nat} (hs : s ≤ b) (hb : b ≤ n) (h : M 18 6 = i32 (b : Int)) {k59 : Int32 → am_M → am_O} : f_X5_readWord_59B N (i32 (s : Int)) k59 6 M = if isW T s b 6 then some (.ok (some (.int 6)), M) else k59 7 M := by
  unfold f_X5_readWord_59B
  rw [if_neg (show ¬ (10 : Int32) ≤ 6 by decide), show f_X5_wordOf N 6 M = some (.ok (some (.ref 1006)), M) from rfl]
  simp only [am_br_r]
  rw [if_neg (show ¬ (1006 : Nat) = 1000 by decide), if_neg (show ¬ (1006 : Nat) = 1001 by decide), if_neg (show ¬ (1006 : Nat) = 1002 by decide), if_neg (show ¬ (1006 : Nat) = 1003 by decide), if_neg (show ¬ (1006 : Nat) = 1004 by decide), if_neg (show ¬ (1006 : Nat) = 1005 by decide), if_pos trivial, c_isW6 hN hT hP hs hb h]
  simp only [am_bi_i]
  by_cases hw : isW T s b 6 = true
  · rw [if_pos hw, if_pos hw, if_neg (by decide)]
  · rw [if_neg hw, if_neg hw, if_pos rfl]
    rfl
theorem c_ch7 {M : am_M} : ∀ j : Nat, j < 5 → f_cJ0_charAt_1007 N (i32 (j : Int)) M = some (.ok (some (.int (i32 (((wd 7).getD j 0 : Nat) : Int)))), M) := by
  intro j hj
  have : j = 0 ∨ j = 1 ∨ j = 2 ∨ j = 3 ∨ j = 4 := by omega
  rcases this with rfl | rfl | rfl | rfl | rfl <;> rfl
theorem c_iw7 (hT : TB T n) {M : am_M} (hP : PT T n M) {s b : Nat} (hb : b ≤ n) (hsb : b = s + 5) : ∀ (d j m : Nat), j + d = 5 → d < m → wm T s 7 j = true → f_X5_isWord_1007_17 N (i32 (s : Int)) m (i32 (j : Int)) M = some (.ok (some (.int (if wm T s 7 5 then 1 else 0))), M) := by
  have h6 := hT.1
  intro d
  induction d with
  | zero =>
    intro j m hj hm hw
    obtain ⟨m, rfl⟩ : ∃ k, m = k + 1 := ⟨m - 1, by omega⟩
    show f_X5_isWord_1007_17B N _ _ _ M = _
    unfold f_X5_isWord_1007_17B
    rw [show f_cJ0_length_1007 N M = some (.ok (some (.int (i32 5))), M) from rfl]
    simp only [am_bi_i]
    rw [show j = 5 from by omega] at hw ⊢
    rw [if_pos ((i32_le (by omega) (by omega) (by omega) (by omega)).mpr (by omega)), hw]
    rfl
  | succ d ih =>
    intro j m hj hm hw
    obtain ⟨m, rfl⟩ : ∃ k, m = k + 1 := ⟨m - 1, by omega⟩
    show f_X5_isWord_1007_17B N _ _ _ M = _
    unfold f_X5_isWord_1007_17B
    rw [show f_cJ0_length_1007 N M = some (.ok (some (.int (i32 5))), M) from rfl]
    simp only [am_bi_i]
    have hc := hT.2 (s + j) (by omega)
    have hsg := sg_B hc
    have hw7 : ((wd 7).getD j 0) ≤ 127 := by
      have : j = 0 ∨ j = 1 ∨ j = 2 ∨ j = 3 ∨ j = 4 := by omega
      rcases this with rfl | rfl | rfl | rfl | rfl <;> decide
    rw [if_neg (fun q => absurd ((i32_le (by omega) (by omega) (by omega) (by omega)).mp q) (by omega)), i32_add, if_pos (i32_in (by omega) (by omega) (by omega)), c_ch7 j (by omega)]
    simp only [am_bi_i]
    rw [i32_cl (by omega) (by omega), show ((s : Int) + (j : Int)).toNat = s + j from by omega, hP.2 (s + j) (by omega), i32_s]
    have k1 := wm_nx (T := T) (s := s) (k := 7) (m := j)
    rw [hw, Bool.true_and] at k1
    by_cases he : T (s + j) = (((wd 7).getD j 0 : Nat) : Int)
    · rw [if_pos ((i32_eq (by omega) (by omega) (by omega) (by omega)).mpr ((sg_lo hc (by omega)).mpr he))]
      exact ih (j + 1) m (by omega) (by omega) (by rw [k1]; exact decide_eq_true he)
    · rw [if_neg (fun q => he ((sg_lo hc (by omega)).mp ((i32_eq (by omega) (by omega) (by omega) (by omega)).mp q)))]
      have := wm_no (k1.trans (decide_eq_false he)) d
      rw [show j + 1 + d = 5 from by omega] at this
      rw [this]; rfl
theorem c_isW7 (hN : 602 ≤ N) (hT : TB T n) {M : am_M} (hP : PT T n M) {s b : Nat} (hs : s ≤ b) (hb : b ≤ n) (h : M 18 6 = i32 (b : Int)) : f_X5_isWord_1007 N (i32 (s : Int)) M = some (.ok (some (.int (if isW T s b 7 then 1 else 0))), M) := by
  have h6 := hT.1
  unfold f_X5_isWord_1007 isW
  rw [show f_cJ0_length_1007 N M = some (.ok (some (.int (i32 5))), M) from rfl]
  simp only [am_bi_i]
  rw [h, i32_sub, show (wd 7).length = 5 from rfl]
  by_cases hl : b = s + 5
  · rw [if_pos ((i32_eq (by omega) (by omega) (by omega) (by omega)).mpr (by omega)), decide_eq_true hl, Bool.true_and]
    exact c_iw7 hT hP hb hl 5 0 N (by omega) (by omega) rfl
  · rw [if_neg (fun q => hl (by have := (i32_eq (by omega) (by omega) (by omega) (by omega)).mp q; omega)), decide_eq_false hl, Bool.false_and]
    rfl
theorem c_w59_7 (hN : 602 ≤ N) (hT : TB T n) {M : am_M} (hP : PT T n M) {s b : Nat} (hs : s ≤ b) (hb : b ≤ n) (h : M 18 6 = i32 (b : Int)) {k59 : Int32 → am_M → am_O} : f_X5_readWord_59B N (i32 (s : Int)) k59 7 M = if isW T s b 7 then some (.ok (some (.int 7)), M) else k59 8 M := by
  unfold f_X5_readWord_59B
  rw [if_neg (show ¬ (10 : Int32) ≤ 7 by decide), show f_X5_wordOf N 7 M = some (.ok (some (.ref 1007)), M) from rfl]
  simp only [am_br_r]
  rw [if_neg (show ¬ (1007 : Nat) = 1000 by decide), if_neg (show ¬ (1007 : Nat) = 1001 by decide), if_neg (show ¬ (1007 : Nat) = 1002 by decide), if_neg (show ¬ (1007 : Nat) = 1003 by decide), if_neg (show ¬ (1007 : Nat) = 1004 by decide), if_neg (show ¬ (1007 : Nat) = 1005 by decide), if_neg (show ¬ (1007 : Nat) = 1006 by decide), if_pos trivial, c_isW7 hN hT hP hs hb h]
  simp only [am_bi_i]
  by_cases hw : isW T s b 7 = true
  · rw [if_pos hw, if_pos hw, if_neg (by decide)]
  · rw [if_neg hw, if_neg hw, if_pos rfl]
    rfl
theorem c_ch8 {M : am_M} : ∀ j : Nat, j < 4 → f_cJ0_charAt_1008 N (i32 (j : Int)) M = some (.ok (some (.int (i32 (((wd 8).getD j 0 : Nat) : Int)))), M) := by
  intro j hj
  have : j = 0 ∨ j = 1 ∨ j = 2 ∨ j = 3 := by omega
  rcases this with rfl | rfl | rfl | rfl <;> rfl
theorem c_iw8 (hT : TB T n) {M : am_M} (hP : PT T n M) {s b : Nat} (hb : b ≤ n) (hsb : b = s + 4) : ∀ (d j m : Nat), j + d = 4 → d < m → wm T s 8 j = true → f_X5_isWord_1008_17 N (i32 (s : Int)) m (i32 (j : Int)) M = some (.ok (some (.int (if wm T s 8 4 then 1 else 0))), M) := by
  have h6 := hT.1
  intro d
  induction d with
  | zero =>
    intro j m hj hm hw
    obtain ⟨m, rfl⟩ : ∃ k, m = k + 1 := ⟨m - 1, by omega⟩
    show f_X5_isWord_1008_17B N _ _ _ M = _
    unfold f_X5_isWord_1008_17B
    rw [show f_cJ0_length_1008 N M = some (.ok (some (.int (i32 4))), M) from rfl]
    simp only [am_bi_i]
    rw [show j = 4 from by omega] at hw ⊢
    rw [if_pos ((i32_le (by omega) (by omega) (by omega) (by omega)).mpr (by omega)), hw]
    rfl
  | succ d ih =>
    intro j m hj hm hw
    obtain ⟨m, rfl⟩ : ∃ k, m = k + 1 := ⟨m - 1, by omega⟩
    show f_X5_isWord_1008_17B N _ _ _ M = _
    unfold f_X5_isWord_1008_17B
    rw [show f_cJ0_length_1008 N M = some (.ok (some (.int (i32 4))), M) from rfl]
    simp only [am_bi_i]
    have hc := hT.2 (s + j) (by omega)
    have hsg := sg_B hc
    have hw7 : ((wd 8).getD j 0) ≤ 127 := by
      have : j = 0 ∨ j = 1 ∨ j = 2 ∨ j = 3 := by omega
      rcases this with rfl | rfl | rfl | rfl <;> decide
    rw [if_neg (fun q => absurd ((i32_le (by omega) (by omega) (by omega) (by omega)).mp q) (by omega)), i32_add, if_pos (i32_in (by omega) (by omega) (by omega)), c_ch8 j (by omega)]
    simp only [am_bi_i]
    rw [i32_cl (by omega) (by omega), show ((s : Int) + (j : Int)).toNat = s + j from by omega, hP.2 (s + j) (by omega), i32_s]
    have k1 := wm_nx (T := T) (s := s) (k := 8) (m := j)
    rw [hw, Bool.true_and] at k1
    by_cases he : T (s + j) = (((wd 8).getD j 0 : Nat) : Int)
    · rw [if_pos ((i32_eq (by omega) (by omega) (by omega) (by omega)).mpr ((sg_lo hc (by omega)).mpr he))]
      exact ih (j + 1) m (by omega) (by omega) (by rw [k1]; exact decide_eq_true he)
    · rw [if_neg (fun q => he ((sg_lo hc (by omega)).mp ((i32_eq (by omega) (by omega) (by omega) (by omega)).mp q)))]
      have := wm_no (k1.trans (decide_eq_false he)) d
      rw [show j + 1 + d = 4 from by omega] at this
      rw [this]; rfl
theorem c_isW8 (hN : 602 ≤ N) (hT : TB T n) {M : am_M} (hP : PT T n M) {s b : Nat} (hs : s ≤ b) (hb : b ≤ n) (h : M 18 6 = i32 (b : Int)) : f_X5_isWord_1008 N (i32 (s : Int)) M = some (.ok (some (.int (if isW T s b 8 then 1 else 0))), M) := by
  have h6 := hT.1
  unfold f_X5_isWord_1008 isW
  rw [show f_cJ0_length_1008 N M = some (.ok (some (.int (i32 4))), M) from rfl]
  simp only [am_bi_i]
  rw [h, i32_sub, show (wd 8).length = 4 from rfl]
  by_cases hl : b = s + 4
  · rw [if_pos ((i32_eq (by omega) (by omega) (by omega) (by omega)).mpr (by omega)), decide_eq_true hl, Bool.true_and]
    exact c_iw8 hT hP hb hl 4 0 N (by omega) (by omega) rfl
  · rw [if_neg (fun q => hl (by have := (i32_eq (by omega) (by omega) (by omega) (by omega)).mp q; omega)), decide_eq_false hl, Bool.false_and]
    rfl
theorem c_w59_8 (hN : 602 ≤ N) (hT : TB T n) {M : am_M} (hP : PT T n M) {s b : Nat} (hs : s ≤ b) (hb : b ≤ n) (h : M 18 6 = i32 (b : Int)) {k59 : Int32 → am_M → am_O} : f_X5_readWord_59B N (i32 (s : Int)) k59 8 M = if isW T s b 8 then some (.ok (some (.int 8)), M) else k59 9 M := by
  unfold f_X5_readWord_59B
  rw [if_neg (show ¬ (10 : Int32) ≤ 8 by decide), show f_X5_wordOf N 8 M = some (.ok (some (.ref 1008)), M) from rfl]
  simp only [am_br_r]
  rw [if_neg (show ¬ (1008 : Nat) = 1000 by decide), if_neg (show ¬ (1008 : Nat) = 1001 by decide), if_neg (show ¬ (1008 : Nat) = 1002 by decide), if_neg (show ¬ (1008 : Nat) = 1003 by decide), if_neg (show ¬ (1008 : Nat) = 1004 by decide), if_neg (show ¬ (1008 : Nat) = 1005 by decide), if_neg (show ¬ (1008 : Nat) = 1006 by decide), if_neg (show ¬ (1008 : Nat) = 1007 by decide), if_pos trivial, c_isW8 hN hT hP hs hb h]
  simp only [am_bi_i]
  by_cases hw : isW T s b 8 = true
  · rw [if_pos hw, if_pos hw, if_neg (by decide)]
  · rw [if_neg hw, if_neg hw, if_pos rfl]
    rfl
theorem c_ch9 {M : am_M} : ∀ j : Nat, j < 3 → f_cJ0_charAt_1009 N (i32 (j : Int)) M = some (.ok (some (.int (i32 (((wd 9).getD j 0 : Nat) : Int)))), M) := by
  intro j hj
  have : j = 0 ∨ j = 1 ∨ j = 2 := by omega
  rcases this with rfl | rfl | rfl <;> rfl
theorem c_iw9 (hT : TB T n) {M : am_M} (hP : PT T n M) {s b : Nat} (hb : b ≤ n) (hsb : b = s + 3) : ∀ (d j m : Nat), j + d = 3 → d < m → wm T s 9 j = true → f_X5_isWord_1009_17 N (i32 (s : Int)) m (i32 (j : Int)) M = some (.ok (some (.int (if wm T s 9 3 then 1 else 0))), M) := by
  have h6 := hT.1
  intro d
  induction d with
  | zero =>
    intro j m hj hm hw
    obtain ⟨m, rfl⟩ : ∃ k, m = k + 1 := ⟨m - 1, by omega⟩
    show f_X5_isWord_1009_17B N _ _ _ M = _
    unfold f_X5_isWord_1009_17B
    rw [show f_cJ0_length_1009 N M = some (.ok (some (.int (i32 3))), M) from rfl]
    simp only [am_bi_i]
    rw [show j = 3 from by omega] at hw ⊢
    rw [if_pos ((i32_le (by omega) (by omega) (by omega) (by omega)).mpr (by omega)), hw]
    rfl
  | succ d ih =>
    intro j m hj hm hw
    obtain ⟨m, rfl⟩ : ∃ k, m = k + 1 := ⟨m - 1, by omega⟩
    show f_X5_isWord_1009_17B N _ _ _ M = _
    unfold f_X5_isWord_1009_17B
    rw [show f_cJ0_length_1009 N M = some (.ok (some (.int (i32 3))), M) from rfl]
    simp only [am_bi_i]
    have hc := hT.2 (s + j) (by omega)
    have hsg := sg_B hc
    have hw7 : ((wd 9).getD j 0) ≤ 127 := by
      have : j = 0 ∨ j = 1 ∨ j = 2 := by omega
      rcases this with rfl | rfl | rfl <;> decide
    rw [if_neg (fun q => absurd ((i32_le (by omega) (by omega) (by omega) (by omega)).mp q) (by omega)), i32_add, if_pos (i32_in (by omega) (by omega) (by omega)), c_ch9 j (by omega)]
    simp only [am_bi_i]
    rw [i32_cl (by omega) (by omega), show ((s : Int) + (j : Int)).toNat = s + j from by omega, hP.2 (s + j) (by omega), i32_s]
    have k1 := wm_nx (T := T) (s := s) (k := 9) (m := j)
    rw [hw, Bool.true_and] at k1
    by_cases he : T (s + j) = (((wd 9).getD j 0 : Nat) : Int)
    · rw [if_pos ((i32_eq (by omega) (by omega) (by omega) (by omega)).mpr ((sg_lo hc (by omega)).mpr he))]
      exact ih (j + 1) m (by omega) (by omega) (by rw [k1]; exact decide_eq_true he)
    · rw [if_neg (fun q => he ((sg_lo hc (by omega)).mp ((i32_eq (by omega) (by omega) (by omega) (by omega)).mp q)))]
      have := wm_no (k1.trans (decide_eq_false he)) d
      rw [show j + 1 + d = 3 from by omega] at this
      rw [this]; rfl
theorem c_isW9 (hN : 602 ≤ N) (hT : TB T n) {M : am_M} (hP : PT T n M) {s b : Nat} (hs : s ≤ b) (hb : b ≤ n) (h : M 18 6 = i32 (b : Int)) : f_X5_isWord_1009 N (i32 (s : Int)) M = some (.ok (some (.int (if isW T s b 9 then 1 else 0))), M) := by
  have h6 := hT.1
  unfold f_X5_isWord_1009 isW
  rw [show f_cJ0_length_1009 N M = some (.ok (some (.int (i32 3))), M) from rfl]
  simp only [am_bi_i]
  rw [h, i32_sub, show (wd 9).length = 3 from rfl]
  by_cases hl : b = s + 3
  · rw [if_pos ((i32_eq (by omega) (by omega) (by omega) (by omega)).mpr (by omega)), decide_eq_true hl, Bool.true_and]
    exact c_iw9 hT hP hb hl 3 0 N (by omega) (by omega) rfl
  · rw [if_neg (fun q => hl (by have := (i32_eq (by omega) (by omega) (by omega) (by omega)).mp q; omega)), decide_eq_false hl, Bool.false_and]
    rfl
theorem c_w59_9 (hN : 602 ≤ N) (hT : TB T n) {M : am_M} (hP : PT T n M) {s b : Nat} (hs : s ≤ b) (hb : b ≤ n) (h : M 18 6 = i32 (b : Int)) {k59 : Int32 → am_M → am_O} : f_X5_readWord_59B N (i32 (s : Int)) k59 9 M = if isW T s b 9 then some (.ok (some (.int 9)), M) else k59 10 M := by
  unfold f_X5_readWord_59B
  rw [if_neg (show ¬ (10 : Int32) ≤ 9 by decide), show f_X5_wordOf N 9 M = some (.ok (some (.ref 1009)), M) from rfl]
  simp only [am_br_r]
  rw [if_neg (show ¬ (1009 : Nat) = 1000 by decide), if_neg (show ¬ (1009 : Nat) = 1001 by decide), if_neg (show ¬ (1009 : Nat) = 1002 by decide), if_neg (show ¬ (1009 : Nat) = 1003 by decide), if_neg (show ¬ (1009 : Nat) = 1004 by decide), if_neg (show ¬ (1009 : Nat) = 1005 by decide), if_neg (show ¬ (1009 : Nat) = 1006 by decide), if_neg (show ¬ (1009 : Nat) = 1007 by decide), if_neg (show ¬ (1009 : Nat) = 1008 by decide), if_pos trivial, c_isW9 hN hT hP hs hb h]
  simp only [am_bi_i]
  by_cases hw : isW T s b 9 = true
  · rw [if_pos hw, if_pos hw, if_neg (by decide)]
  · rw [if_neg hw, if_neg hw, if_pos rfl]
    rfl
theorem c_kind (hN : 602 ≤ N) (hT : TB T n) {M : am_M} (hP : PT T n M) {s b : Nat} (hs : s ≤ b) (hb : b ≤ n) (h : M 18 6 = i32 (b : Int)) : f_X5_readWord_59 N (i32 (s : Int)) N 0 M = some (.ok (some (.int (i32 (kd T s b)))), M) := by
  obtain ⟨m, hm⟩ : ∃ m, N = m + 11 := ⟨N - 11, by omega⟩
  have st : ∀ q : Nat, f_X5_readWord_59 N (i32 (s : Int)) (q + 1) = f_X5_readWord_59B N (i32 (s : Int)) (f_X5_readWord_59 N (i32 (s : Int)) q) := fun q => rfl
  have e : f_X5_readWord_59 N (i32 (s : Int)) N = f_X5_readWord_59 N (i32 (s : Int)) (m + 11) := by rw [← hm]
  rw [e, st, c_w59_0 hN hT hP hs hb h, st, c_w59_1 hN hT hP hs hb h, st, c_w59_2 hN hT hP hs hb h, st, c_w59_3 hN hT hP hs hb h, st, c_w59_4 hN hT hP hs hb h, st, c_w59_5 hN hT hP hs hb h, st, c_w59_6 hN hT hP hs hb h, st, c_w59_7 hN hT hP hs hb h, st, c_w59_8 hN hT hP hs hb h, st, c_w59_9 hN hT hP hs hb h, st]
  have e10 : ∀ k59, f_X5_readWord_59B N (i32 (s : Int)) k59 10 M = some (.ok (some (.int (-1))), M) := fun k59 => by
    unfold f_X5_readWord_59B
    rw [if_pos (show (10 : Int32) ≤ 10 by decide)]
  rw [e10]
  unfold kd
  have k0 : kdr T s b 10 0 = if isW T s b 0 then (0 : Int) else kdr T s b 9 1 := rfl
  have k1 : kdr T s b 9 1 = if isW T s b 1 then (1 : Int) else kdr T s b 8 2 := rfl
  have k2 : kdr T s b 8 2 = if isW T s b 2 then (2 : Int) else kdr T s b 7 3 := rfl
  have k3 : kdr T s b 7 3 = if isW T s b 3 then (3 : Int) else kdr T s b 6 4 := rfl
  have k4 : kdr T s b 6 4 = if isW T s b 4 then (4 : Int) else kdr T s b 5 5 := rfl
  have k5 : kdr T s b 5 5 = if isW T s b 5 then (5 : Int) else kdr T s b 4 6 := rfl
  have k6 : kdr T s b 4 6 = if isW T s b 6 then (6 : Int) else kdr T s b 3 7 := rfl
  have k7 : kdr T s b 3 7 = if isW T s b 7 then (7 : Int) else kdr T s b 2 8 := rfl
  have k8 : kdr T s b 2 8 = if isW T s b 8 then (8 : Int) else kdr T s b 1 9 := rfl
  have k9 : kdr T s b 1 9 = if isW T s b 9 then (9 : Int) else kdr T s b 0 10 := rfl
  rw [k0, k1, k2, k3, k4, k5, k6, k7, k8, k9]
  by_cases w0 : isW T s b 0 = true
  · rw [if_pos w0, if_pos w0]
    rfl
  rw [if_neg w0, if_neg w0]
  by_cases w1 : isW T s b 1 = true
  · rw [if_pos w1, if_pos w1]
    rfl
  rw [if_neg w1, if_neg w1]
  by_cases w2 : isW T s b 2 = true
  · rw [if_pos w2, if_pos w2]
    rfl
  rw [if_neg w2, if_neg w2]
  by_cases w3 : isW T s b 3 = true
  · rw [if_pos w3, if_pos w3]
    rfl
  rw [if_neg w3, if_neg w3]
  by_cases w4 : isW T s b 4 = true
  · rw [if_pos w4, if_pos w4]
    rfl
  rw [if_neg w4, if_neg w4]
  by_cases w5 : isW T s b 5 = true
  · rw [if_pos w5, if_pos w5]
    rfl
  rw [if_neg w5, if_neg w5]
  by_cases w6 : isW T s b 6 = true
  · rw [if_pos w6, if_pos w6]
    rfl
  rw [if_neg w6, if_neg w6]
  by_cases w7 : isW T s b 7 = true
  · rw [if_pos w7, if_pos w7]
    rfl
  rw [if_neg w7, if_neg w7]
  by_cases w8 : isW T s b 8 = true
  · rw [if_pos w8, if_pos w8]
    rfl
  rw [if_neg w8, if_neg w8]
  by_cases w9 : isW T s b 9 = true
  · rw [if_pos w9, if_pos w9]
    rfl
  rw [if_neg w9, if_neg w9]
  rfl
theorem c_word (hN : 602 ≤ N) (hT : TB T n) {M : am_M} (hP : PT T n M) {a : Nat} (ha : a ≤ n) (h : M 18 6 = i32 (a : Int)) : f_X5_readWord N M = some (.ok (some (.int (i32 (kd T a (ltr T n (n - a) a))))), am_up M 18 6 (i32 (ltr T n (n - a) a : Nat))) := by
  have h6 := hT.1
  have hl := ltr_B (T := T) (n - a) a ha
  unfold f_X5_readWord
  rw [c_ltr hT (n - a) a N M (by omega) (by omega) hP h, h]
  exact c_kind hN hT (hP.fr f18.at) hl.1 hl.2 (up_eq _ _ _ _)
/-! the reference's words -/
theorem shl5 {v c : Nat} (hv : v < 2 ^ 25) (hc : c < 32) : (i32 (v : Int) <<< ((5 : Int32) &&& 31)) ||| i32 (c : Int) = i32 (((v * 32 + c : Nat)) : Int) := by
  have h5 : (5 : Int32) &&& 31 = 5 := by decide
  rw [h5]
  apply Int32.toBitVec_inj.mp
  rw [Int32.toBitVec_or, Int32.toBitVec_shiftLeft]
  apply BitVec.eq_of_toNat_eq
  have q : ∀ x : Nat, x < 2 ^ 32 → ((i32 (x : Int)).toBitVec).toNat = x := by
    intro x hx
    show (BitVec.ofInt 32 (x : Int)).toNat = x
    rw [BitVec.toNat_ofInt]
    omega
  rw [BitVec.toNat_or, BitVec.shiftLeft_eq', BitVec.toNat_shiftLeft, q v (by omega), q c (by omega), q _ (by omega)]
  rw [show (BitVec.smod (Int32.toBitVec 5) 32).toNat = 5 from by decide]
  rw [Nat.mod_eq_of_lt (by rw [Nat.shiftLeft_eq]; omega), ← Nat.shiftLeft_add_eq_or_of_lt (show c < 2 ^ 5 by omega), Nat.shiftLeft_eq]
theorem hsh_B {s : Nat} : ∀ m, (∀ i, i < m → 97 ≤ T (s + i) ∧ T (s + i) ≤ 122) → 0 ≤ hsh T s m ∧ hsh T s m < 32 ^ m := by
  intro m
  induction m with
  | zero => intro _; exact ⟨Int.le_refl 0, (by decide : (0 : Int) < 1)⟩
  | succ m ih =>
    intro h
    have := ih (fun i hi => h i (by omega))
    have := h m (by omega)
    rw [hsh_nx, Int.pow_succ]
    omega
theorem m_wlp (hT : TB T n) {M : am_M} (hP : MT T n M) {s : Nat} : ∀ (d i m : Nat) (v1 : Int32), s + i + d = n → d < m → (∀ j, j < i → 97 ≤ T (s + j) ∧ T (s + j) ≤ 122) → v1 = (if i ≤ 6 then i32 (hsh T s i) else 0) → f_X10_word_14 N m v1 (i32 (i : Int)) (i32 ((s + i : Nat) : Int)) M = some (.ok (some (.int (i32 (wv T s (ltr T n d (s + i)))))), M) := by
  have h6 := hT.1
  intro d
  have fin : ∀ (i : Nat) (v1 : Int32), i ≤ 600 → v1 = (if i ≤ 6 then i32 (hsh T s i) else 0) → f_X10_word_67 N v1 (i32 (i : Int)) M = some (.ok (some (.int (i32 (wv T s (s + i))))), M) := by
    intro i v1 hi hv
    unfold f_X10_word_67 wv
    rw [show s + i - s = i from by omega, hv]
    by_cases h : i ≤ 6
    · rw [if_pos ((i32_le6 (by omega) (by omega)).mpr (by omega)), if_pos h, if_pos h]
    · rw [if_neg (fun q => by have := (i32_le6 (by omega) (by omega)).mp q; omega), if_neg h]
      rfl
  induction d with
  | zero =>
    intro i m v1 hi hm hl hv
    obtain ⟨m, rfl⟩ : ∃ k, m = k + 1 := ⟨m - 1, by omega⟩
    show f_X10_word_14B N _ _ _ _ M = _
    unfold f_X10_word_14B
    rw [hP.1, if_pos ((i32_le (by omega) (by omega) (by omega) (by omega)).mpr (by omega))]
    exact fin i v1 (by omega) hv
  | succ d ih =>
    intro i m v1 hi hm hl hv
    obtain ⟨m, rfl⟩ : ∃ k, m = k + 1 := ⟨m - 1, by omega⟩
    show f_X10_word_14B N _ _ _ _ M = _
    unfold f_X10_word_14B
    have hc := hT.2 (s + i) (by omega)
    rw [hP.1, if_neg (fun q => absurd ((i32_le (by omega) (by omega) (by omega) (by omega)).mp q) (by omega)), if_pos (i32_in (by omega) (by omega) (by omega)), i32_k (by omega), hP.2 (s + i) (by omega), m_sml hc]
    simp only [am_bi_i]
    have e : ltr T n (d + 1) (s + i) = if s + i < n ∧ 97 ≤ T (s + i) ∧ T (s + i) ≤ 122 then ltr T n d (s + i + 1) else s + i := rfl
    by_cases hL : 97 ≤ T (s + i) ∧ T (s + i) ≤ 122
    · rw [if_neg (show ¬ ((if 97 ≤ T (s + i) ∧ T (s + i) ≤ 122 then 1 else 0 : Int32) = 0) by rw [if_pos hL]; decide), show ltr T n (d + 1) (s + i) = ltr T n d (s + (i + 1)) from by rw [e, if_pos ⟨by omega, hL⟩]; rfl, i32_s, i32_s]
      have hl' : ∀ j, j < i + 1 → 97 ≤ T (s + j) ∧ T (s + j) ≤ 122 := by
        intro j hj
        by_cases hji : j = i
        · rw [hji]; exact hL
        · exact hl j (by omega)
      by_cases h : i < 6
      · rw [if_neg (fun q => by have := (i32_6le (by omega) (by omega)).mp q; omega), if_pos (i32_in (by omega) (by omega) (by omega)), hP.2 (s + i) (by omega)]
        have hB := hsh_B i hl
        have hB2 : hsh T s i < 33554432 := by
          have : (32 : Int) ^ i ≤ 32 ^ 5 := by
            have h1 : (32 : Nat) ^ i ≤ 32 ^ 5 := Nat.pow_le_pow_right (by omega) (by omega)
            exact_mod_cast h1
          omega
        refine ih (i + 1) m _ (by omega) (by omega) hl' ?_
        rw [hv, if_pos (by omega), if_pos (by omega), show (96 : Int32) = i32 96 from rfl, i32_sub, hsh_nx]
        have := shl5 (v := (hsh T s i).toNat) (c := (T (s + i) - 96).toNat) (by omega) (by omega)
        rw [show (((hsh T s i).toNat : Nat) : Int) = hsh T s i from by omega, show (((T (s + i) - 96).toNat : Nat) : Int) = T (s + i) - 96 from by omega] at this
        rw [this]
        congr 1
        omega
      · rw [if_pos ((i32_6le (by omega) (by omega)).mpr (by omega))]
        refine ih (i + 1) m _ (by omega) (by omega) hl' ?_
        rw [if_neg (by omega)]
    · rw [if_pos (show ((if 97 ≤ T (s + i) ∧ T (s + i) ≤ 122 then 1 else 0 : Int32) = 0) by rw [if_neg hL]), show ltr T n (d + 1) (s + i) = s + i from by rw [e, if_neg (fun z => hL z.2)]]
      exact fin i v1 (by omega) hv
theorem m_pass (hT : TB T n) : ∀ (d a m : Nat) (M : am_M), a + d = n → d < m → MT T n M → M 0 4 = i32 (a : Int) → f_X10_pass_0 N m M = some (.ok none, am_up M 0 4 (i32 (ltr T n d a : Nat))) := by
  have h6 := hT.1
  intro d
  induction d with
  | zero =>
    intro a m M ha hm hP h
    obtain ⟨m, rfl⟩ : ∃ k, m = k + 1 := ⟨m - 1, by omega⟩
    show f_X10_pass_0B N _ M = _
    unfold f_X10_pass_0B
    rw [hP.1, h, if_pos ((i32_le (by omega) (by omega) (by omega) (by omega)).mpr (by omega))]
    show _ = some (_, am_up M 0 4 (i32 (a : Nat)))
    rw [← h, up_self]
  | succ d ih =>
    intro a m M ha hm hP h
    obtain ⟨m, rfl⟩ : ∃ k, m = k + 1 := ⟨m - 1, by omega⟩
    show f_X10_pass_0B N _ M = _
    unfold f_X10_pass_0B
    have hc := hT.2 a (by omega)
    rw [hP.1, h, if_neg (fun q => absurd ((i32_le (by omega) (by omega) (by omega) (by omega)).mp q) (by omega)), if_pos (i32_in (by omega) (by omega) (by omega)), i32_k (by omega), hP.2 a (by omega), m_sml hc]
    simp only [am_bi_i]
    have e : ltr T n (d + 1) a = if a < n ∧ 97 ≤ T a ∧ T a ≤ 122 then ltr T n d (a + 1) else a := rfl
    by_cases hL : 97 ≤ T a ∧ T a ≤ 122
    · rw [if_neg (show ¬ ((if 97 ≤ T a ∧ T a ≤ 122 then 1 else 0 : Int32) = 0) by rw [if_pos hL]; decide), show ltr T n (d + 1) a = ltr T n d (a + 1) from by rw [e, if_pos ⟨by omega, hL⟩], h, i32_s, ih (a + 1) m _ (by omega) (by omega) (hP.fr f04.at) (up_eq _ _ _ _), up_up]
    · rw [if_pos (show ((if 97 ≤ T a ∧ T a ≤ 122 then 1 else 0 : Int32) = 0) by rw [if_neg hL]), show ltr T n (d + 1) a = a from by rw [e, if_neg (fun z => hL z.2)], ← h, up_self]
theorem skp_end : ∀ d a, n ≤ a + d → ¬ (skp T n d a < n ∧ T (skp T n d a) = 32) := by
  intro d
  induction d with
  | zero => intro a h z; have z1 : a < n := z.1; omega
  | succ d ih =>
    intro a h
    show ¬ ((if a < n ∧ T a = 32 then skp T n d (a + 1) else a) < n ∧ T (if a < n ∧ T a = 32 then skp T n d (a + 1) else a) = 32)
    by_cases hc : a < n ∧ T a = 32
    · rw [if_pos hc]; exact ih (a + 1) (by omega)
    · rw [if_neg hc]; exact hc
theorem skp_id {a : Nat} (h : ¬ (a < n ∧ T a = 32)) : ∀ d, skp T n d a = a := by
  intro d
  cases d with
  | zero => rfl
  | succ d =>
    show (if a < n ∧ T a = 32 then skp T n d (a + 1) else a) = a
    rw [if_neg h]
theorem m_word (hN : 602 ≤ N) (hT : TB T n) {M : am_M} (hP : MT T n M) {a : Nat} (ha : a ≤ n) (h : M 0 4 = i32 (a : Int)) (hs : ¬ (a < n ∧ T a = 32)) : f_X10_word N M = some (.ok (some (.int (i32 (wv T a (ltr T n (n - a) a))))), M) := by
  have h6 := hT.1
  unfold f_X10_word
  rw [show f_X10_here N M = _ from m_here hT (n - a) a N M (by omega) (by omega) hP h, skp_id hs]
  simp only [am_bi_i]
  rw [up_eq]
  have e : am_up M 0 4 (i32 (a : Int)) = M := by rw [← h, up_self]
  rw [show am_up M 0 4 (i32 ((a : Nat) : Int)) = M from e]
  exact m_wlp hT hP (s := a) (n - a) 0 N 0 (by omega) (by omega) (fun j hj => by omega) rfl
theorem m_of0 (hN : 602 ≤ N) {M : am_M} : f_X10_of_1000 N M = some (.ok (some (.int (i32 739651769))), M) := by
  obtain ⟨m, rfl⟩ : ∃ m, N = m + 10 := ⟨N - 10, by omega⟩
  rfl
theorem m_of1 (hN : 602 ≤ N) {M : am_M} : f_X10_of_1001 N M = some (.ok (some (.int (i32 197733))), M) := by
  obtain ⟨m, rfl⟩ : ∃ m, N = m + 10 := ⟨N - 10, by omega⟩
  rfl
theorem m_of2 (hN : 602 ≤ N) {M : am_M} : f_X10_of_1002 N M = some (.ok (some (.int (i32 769508))), M) := by
  obtain ⟨m, rfl⟩ : ∃ m, N = m + 10 := ⟨N - 10, by omega⟩
  rfl
theorem m_of3 (hN : 602 ≤ N) {M : am_M} : f_X10_of_1003 N M = some (.ok (some (.int (i32 637431))), M) := by
  obtain ⟨m, rfl⟩ : ∃ m, N = m + 10 := ⟨N - 10, by omega⟩
  rfl
theorem m_of4 (hN : 602 ≤ N) {M : am_M} : f_X10_of_1004 N M = some (.ok (some (.int (i32 6591876))), M) := by
  obtain ⟨m, rfl⟩ : ∃ m, N = m + 10 := ⟨N - 10, by omega⟩
  rfl
theorem m_of5 (hN : 602 ≤ N) {M : am_M} : f_X10_of_1005 N M = some (.ok (some (.int (i32 632453))), M) := by
  obtain ⟨m, rfl⟩ : ∃ m, N = m + 10 := ⟨N - 10, by omega⟩
  rfl
theorem m_of6 (hN : 602 ≤ N) {M : am_M} : f_X10_of_1006 N M = some (.ok (some (.int (i32 642829806))), M) := by
  obtain ⟨m, rfl⟩ : ∃ m, N = m + 10 := ⟨N - 10, by omega⟩
  rfl
theorem m_of7 (hN : 602 ≤ N) {M : am_M} : f_X10_of_1007 N M = some (.ok (some (.int (i32 13689925))), M) := by
  obtain ⟨m, rfl⟩ : ∃ m, N = m + 10 := ⟨N - 10, by omega⟩
  rfl
theorem m_of8 (hN : 602 ≤ N) {M : am_M} : f_X10_of_1008 N M = some (.ok (some (.int (i32 409252))), M) := by
  obtain ⟨m, rfl⟩ : ∃ m, N = m + 10 := ⟨N - 10, by omega⟩
  rfl
theorem m_of9 (hN : 602 ≤ N) {M : am_M} : f_X10_of_1009 N M = some (.ok (some (.int (i32 12343))), M) := by
  obtain ⟨m, rfl⟩ : ∃ m, N = m + 10 := ⟨N - 10, by omega⟩
  rfl
theorem wv_0 {s b : Nat} (hs : s ≤ b) (hl : ∀ i, s ≤ i → i < b → 97 ≤ T i ∧ T i ≤ 122) : wv T s b = 739651769 ↔ isW T s b 0 = true := by
  obtain ⟨m, rfl⟩ : ∃ m, b = s + m := ⟨b - s, by omega⟩
  unfold wv isW
  rw [show s + m - s = m from by omega, show (wd 0).length = 6 from rfl]
  by_cases h6 : m ≤ 6
  · rw [if_pos h6]
    have hm : m = 0 ∨ m = 1 ∨ m = 2 ∨ m = 3 ∨ m = 4 ∨ m = 5 ∨ m = 6 := by omega
    rcases hm with rfl | rfl | rfl | rfl | rfl | rfl | rfl
    · rw [show hsh T s 0 = 0 from rfl]
      rw [decide_eq_false (show ¬ (s + 0 = s + 6) by omega), Bool.false_and]
      constructor
      · intro h
        exfalso
        omega
      · intro h
        cases h
    · have l0 := hl (s + 0) (by omega) (by omega)
      rw [show hsh T s 1 = (0 * 32 + (T (s + 0) - 96)) from rfl]
      rw [decide_eq_false (show ¬ (s + 1 = s + 6) by omega), Bool.false_and]
      constructor
      · intro h
        exfalso
        omega
      · intro h
        cases h
    · have l0 := hl (s + 0) (by omega) (by omega)
      have l1 := hl (s + 1) (by omega) (by omega)
      rw [show hsh T s 2 = ((0 * 32 + (T (s + 0) - 96)) * 32 + (T (s + 1) - 96)) from rfl]
      rw [decide_eq_false (show ¬ (s + 2 = s + 6) by omega), Bool.false_and]
      constructor
      · intro h
        exfalso
        omega
      · intro h
        cases h
    · have l0 := hl (s + 0) (by omega) (by omega)
      have l1 := hl (s + 1) (by omega) (by omega)
      have l2 := hl (s + 2) (by omega) (by omega)
      rw [show hsh T s 3 = (((0 * 32 + (T (s + 0) - 96)) * 32 + (T (s + 1) - 96)) * 32 + (T (s + 2) - 96)) from rfl]
      rw [decide_eq_false (show ¬ (s + 3 = s + 6) by omega), Bool.false_and]
      constructor
      · intro h
        exfalso
        omega
      · intro h
        cases h
    · have l0 := hl (s + 0) (by omega) (by omega)
      have l1 := hl (s + 1) (by omega) (by omega)
      have l2 := hl (s + 2) (by omega) (by omega)
      have l3 := hl (s + 3) (by omega) (by omega)
      rw [show hsh T s 4 = ((((0 * 32 + (T (s + 0) - 96)) * 32 + (T (s + 1) - 96)) * 32 + (T (s + 2) - 96)) * 32 + (T (s + 3) - 96)) from rfl]
      rw [decide_eq_false (show ¬ (s + 4 = s + 6) by omega), Bool.false_and]
      constructor
      · intro h
        exfalso
        omega
      · intro h
        cases h
    · have l0 := hl (s + 0) (by omega) (by omega)
      have l1 := hl (s + 1) (by omega) (by omega)
      have l2 := hl (s + 2) (by omega) (by omega)
      have l3 := hl (s + 3) (by omega) (by omega)
      have l4 := hl (s + 4) (by omega) (by omega)
      rw [show hsh T s 5 = (((((0 * 32 + (T (s + 0) - 96)) * 32 + (T (s + 1) - 96)) * 32 + (T (s + 2) - 96)) * 32 + (T (s + 3) - 96)) * 32 + (T (s + 4) - 96)) from rfl]
      rw [decide_eq_false (show ¬ (s + 5 = s + 6) by omega), Bool.false_and]
      constructor
      · intro h
        exfalso
        omega
      · intro h
        cases h
    · have l0 := hl (s + 0) (by omega) (by omega)
      have l1 := hl (s + 1) (by omega) (by omega)
      have l2 := hl (s + 2) (by omega) (by omega)
      have l3 := hl (s + 3) (by omega) (by omega)
      have l4 := hl (s + 4) (by omega) (by omega)
      have l5 := hl (s + 5) (by omega) (by omega)
      rw [show hsh T s 6 = ((((((0 * 32 + (T (s + 0) - 96)) * 32 + (T (s + 1) - 96)) * 32 + (T (s + 2) - 96)) * 32 + (T (s + 3) - 96)) * 32 + (T (s + 4) - 96)) * 32 + (T (s + 5) - 96)) from rfl]
      rw [show wm T s 0 6 = ((((((true && decide (T (s + 0) = 118)) && decide (T (s + 1) = 97)) && decide (T (s + 2) = 108)) && decide (T (s + 3) = 108)) && decide (T (s + 4) = 101)) && decide (T (s + 5) = 121)) from rfl]
      simp only [Bool.and_eq_true, decide_eq_true_eq, true_and]
      constructor
      · intro h
        refine ⟨⟨⟨⟨⟨by omega, by omega⟩, by omega⟩, by omega⟩, by omega⟩, by omega⟩
      · intro h
        omega
  · rw [if_neg h6, decide_eq_false (show ¬ (s + m = s + 6) by omega), Bool.false_and]
    exact ⟨fun h => by omega, fun h => by cases h⟩
theorem wv_1 {s b : Nat} (hs : s ≤ b) (hl : ∀ i, s ≤ i → i < b → 97 ≤ T i ∧ T i ≤ 122) : wv T s b = 197733 ↔ isW T s b 1 = true := by
  obtain ⟨m, rfl⟩ : ∃ m, b = s + m := ⟨b - s, by omega⟩
  unfold wv isW
  rw [show s + m - s = m from by omega, show (wd 1).length = 4 from rfl]
  by_cases h6 : m ≤ 6
  · rw [if_pos h6]
    have hm : m = 0 ∨ m = 1 ∨ m = 2 ∨ m = 3 ∨ m = 4 ∨ m = 5 ∨ m = 6 := by omega
    rcases hm with rfl | rfl | rfl | rfl | rfl | rfl | rfl
    · rw [show hsh T s 0 = 0 from rfl]
      rw [decide_eq_false (show ¬ (s + 0 = s + 4) by omega), Bool.false_and]
      constructor
      · intro h
        exfalso
        omega
      · intro h
        cases h
    · have l0 := hl (s + 0) (by omega) (by omega)
      rw [show hsh T s 1 = (0 * 32 + (T (s + 0) - 96)) from rfl]
      rw [decide_eq_false (show ¬ (s + 1 = s + 4) by omega), Bool.false_and]
      constructor
      · intro h
        exfalso
        omega
      · intro h
        cases h
    · have l0 := hl (s + 0) (by omega) (by omega)
      have l1 := hl (s + 1) (by omega) (by omega)
      rw [show hsh T s 2 = ((0 * 32 + (T (s + 0) - 96)) * 32 + (T (s + 1) - 96)) from rfl]
      rw [decide_eq_false (show ¬ (s + 2 = s + 4) by omega), Bool.false_and]
      constructor
      · intro h
        exfalso
        omega
      · intro h
        cases h
    · have l0 := hl (s + 0) (by omega) (by omega)
      have l1 := hl (s + 1) (by omega) (by omega)
      have l2 := hl (s + 2) (by omega) (by omega)
      rw [show hsh T s 3 = (((0 * 32 + (T (s + 0) - 96)) * 32 + (T (s + 1) - 96)) * 32 + (T (s + 2) - 96)) from rfl]
      rw [decide_eq_false (show ¬ (s + 3 = s + 4) by omega), Bool.false_and]
      constructor
      · intro h
        exfalso
        omega
      · intro h
        cases h
    · have l0 := hl (s + 0) (by omega) (by omega)
      have l1 := hl (s + 1) (by omega) (by omega)
      have l2 := hl (s + 2) (by omega) (by omega)
      have l3 := hl (s + 3) (by omega) (by omega)
      rw [show hsh T s 4 = ((((0 * 32 + (T (s + 0) - 96)) * 32 + (T (s + 1) - 96)) * 32 + (T (s + 2) - 96)) * 32 + (T (s + 3) - 96)) from rfl]
      rw [show wm T s 1 4 = ((((true && decide (T (s + 0) = 102)) && decide (T (s + 1) = 97)) && decide (T (s + 2) = 99)) && decide (T (s + 3) = 101)) from rfl]
      simp only [Bool.and_eq_true, decide_eq_true_eq, true_and]
      constructor
      · intro h
        refine ⟨⟨⟨by omega, by omega⟩, by omega⟩, by omega⟩
      · intro h
        omega
    · have l0 := hl (s + 0) (by omega) (by omega)
      have l1 := hl (s + 1) (by omega) (by omega)
      have l2 := hl (s + 2) (by omega) (by omega)
      have l3 := hl (s + 3) (by omega) (by omega)
      have l4 := hl (s + 4) (by omega) (by omega)
      rw [show hsh T s 5 = (((((0 * 32 + (T (s + 0) - 96)) * 32 + (T (s + 1) - 96)) * 32 + (T (s + 2) - 96)) * 32 + (T (s + 3) - 96)) * 32 + (T (s + 4) - 96)) from rfl]
      rw [decide_eq_false (show ¬ (s + 5 = s + 4) by omega), Bool.false_and]
      constructor
      · intro h
        exfalso
        omega
      · intro h
        cases h
    · have l0 := hl (s + 0) (by omega) (by omega)
      have l1 := hl (s + 1) (by omega) (by omega)
      have l2 := hl (s + 2) (by omega) (by omega)
      have l3 := hl (s + 3) (by omega) (by omega)
      have l4 := hl (s + 4) (by omega) (by omega)
      have l5 := hl (s + 5) (by omega) (by omega)
      rw [show hsh T s 6 = ((((((0 * 32 + (T (s + 0) - 96)) * 32 + (T (s + 1) - 96)) * 32 + (T (s + 2) - 96)) * 32 + (T (s + 3) - 96)) * 32 + (T (s + 4) - 96)) * 32 + (T (s + 5) - 96)) from rfl]
      rw [decide_eq_false (show ¬ (s + 6 = s + 4) by omega), Bool.false_and]
      constructor
      · intro h
        exfalso
        omega
      · intro h
        cases h
  · rw [if_neg h6, decide_eq_false (show ¬ (s + m = s + 4) by omega), Bool.false_and]
    exact ⟨fun h => by omega, fun h => by cases h⟩
theorem wv_2 {s b : Nat} (hs : s ≤ b) (hl : ∀ i, s ≤ i → i < b → 97 ≤ T i ∧ T i ≤ 122) : wv T s b = 769508 ↔ isW T s b 2 = true := by
  obtain ⟨m, rfl⟩ : ∃ m, b = s + m := ⟨b - s, by omega⟩
  unfold wv isW
  rw [show s + m - s = m from by omega, show (wd 2).length = 4 from rfl]
  by_cases h6 : m ≤ 6
  · rw [if_pos h6]
    have hm : m = 0 ∨ m = 1 ∨ m = 2 ∨ m = 3 ∨ m = 4 ∨ m = 5 ∨ m = 6 := by omega
    rcases hm with rfl | rfl | rfl | rfl | rfl | rfl | rfl
    · rw [show hsh T s 0 = 0 from rfl]
      rw [decide_eq_false (show ¬ (s + 0 = s + 4) by omega), Bool.false_and]
      constructor
      · intro h
        exfalso
        omega
      · intro h
        cases h
    · have l0 := hl (s + 0) (by omega) (by omega)
      rw [show hsh T s 1 = (0 * 32 + (T (s + 0) - 96)) from rfl]
      rw [decide_eq_false (show ¬ (s + 1 = s + 4) by omega), Bool.false_and]
      constructor
      · intro h
        exfalso
        omega
      · intro h
        cases h
    · have l0 := hl (s + 0) (by omega) (by omega)
      have l1 := hl (s + 1) (by omega) (by omega)
      rw [show hsh T s 2 = ((0 * 32 + (T (s + 0) - 96)) * 32 + (T (s + 1) - 96)) from rfl]
      rw [decide_eq_false (show ¬ (s + 2 = s + 4) by omega), Bool.false_and]
      constructor
      · intro h
        exfalso
        omega
      · intro h
        cases h
    · have l0 := hl (s + 0) (by omega) (by omega)
      have l1 := hl (s + 1) (by omega) (by omega)
      have l2 := hl (s + 2) (by omega) (by omega)
      rw [show hsh T s 3 = (((0 * 32 + (T (s + 0) - 96)) * 32 + (T (s + 1) - 96)) * 32 + (T (s + 2) - 96)) from rfl]
      rw [decide_eq_false (show ¬ (s + 3 = s + 4) by omega), Bool.false_and]
      constructor
      · intro h
        exfalso
        omega
      · intro h
        cases h
    · have l0 := hl (s + 0) (by omega) (by omega)
      have l1 := hl (s + 1) (by omega) (by omega)
      have l2 := hl (s + 2) (by omega) (by omega)
      have l3 := hl (s + 3) (by omega) (by omega)
      rw [show hsh T s 4 = ((((0 * 32 + (T (s + 0) - 96)) * 32 + (T (s + 1) - 96)) * 32 + (T (s + 2) - 96)) * 32 + (T (s + 3) - 96)) from rfl]
      rw [show wm T s 2 4 = ((((true && decide (T (s + 0) = 119)) && decide (T (s + 1) = 111)) && decide (T (s + 2) = 111)) && decide (T (s + 3) = 100)) from rfl]
      simp only [Bool.and_eq_true, decide_eq_true_eq, true_and]
      constructor
      · intro h
        refine ⟨⟨⟨by omega, by omega⟩, by omega⟩, by omega⟩
      · intro h
        omega
    · have l0 := hl (s + 0) (by omega) (by omega)
      have l1 := hl (s + 1) (by omega) (by omega)
      have l2 := hl (s + 2) (by omega) (by omega)
      have l3 := hl (s + 3) (by omega) (by omega)
      have l4 := hl (s + 4) (by omega) (by omega)
      rw [show hsh T s 5 = (((((0 * 32 + (T (s + 0) - 96)) * 32 + (T (s + 1) - 96)) * 32 + (T (s + 2) - 96)) * 32 + (T (s + 3) - 96)) * 32 + (T (s + 4) - 96)) from rfl]
      rw [decide_eq_false (show ¬ (s + 5 = s + 4) by omega), Bool.false_and]
      constructor
      · intro h
        exfalso
        omega
      · intro h
        cases h
    · have l0 := hl (s + 0) (by omega) (by omega)
      have l1 := hl (s + 1) (by omega) (by omega)
      have l2 := hl (s + 2) (by omega) (by omega)
      have l3 := hl (s + 3) (by omega) (by omega)
      have l4 := hl (s + 4) (by omega) (by omega)
      have l5 := hl (s + 5) (by omega) (by omega)
      rw [show hsh T s 6 = ((((((0 * 32 + (T (s + 0) - 96)) * 32 + (T (s + 1) - 96)) * 32 + (T (s + 2) - 96)) * 32 + (T (s + 3) - 96)) * 32 + (T (s + 4) - 96)) * 32 + (T (s + 5) - 96)) from rfl]
      rw [decide_eq_false (show ¬ (s + 6 = s + 4) by omega), Bool.false_and]
      constructor
      · intro h
        exfalso
        omega
      · intro h
        cases h
  · rw [if_neg h6, decide_eq_false (show ¬ (s + m = s + 4) by omega), Bool.false_and]
    exact ⟨fun h => by omega, fun h => by cases h⟩
theorem wv_3 {s b : Nat} (hs : s ≤ b) (hl : ∀ i, s ≤ i → i < b → 97 ≤ T i ∧ T i ≤ 122) : wv T s b = 637431 ↔ isW T s b 3 = true := by
  obtain ⟨m, rfl⟩ : ∃ m, b = s + m := ⟨b - s, by omega⟩
  unfold wv isW
  rw [show s + m - s = m from by omega, show (wd 3).length = 4 from rfl]
  by_cases h6 : m ≤ 6
  · rw [if_pos h6]
    have hm : m = 0 ∨ m = 1 ∨ m = 2 ∨ m = 3 ∨ m = 4 ∨ m = 5 ∨ m = 6 := by omega
    rcases hm with rfl | rfl | rfl | rfl | rfl | rfl | rfl
    · rw [show hsh T s 0 = 0 from rfl]
      rw [decide_eq_false (show ¬ (s + 0 = s + 4) by omega), Bool.false_and]
      constructor
      · intro h
        exfalso
        omega
      · intro h
        cases h
    · have l0 := hl (s + 0) (by omega) (by omega)
      rw [show hsh T s 1 = (0 * 32 + (T (s + 0) - 96)) from rfl]
      rw [decide_eq_false (show ¬ (s + 1 = s + 4) by omega), Bool.false_and]
      constructor
      · intro h
        exfalso
        omega
      · intro h
        cases h
    · have l0 := hl (s + 0) (by omega) (by omega)
      have l1 := hl (s + 1) (by omega) (by omega)
      rw [show hsh T s 2 = ((0 * 32 + (T (s + 0) - 96)) * 32 + (T (s + 1) - 96)) from rfl]
      rw [decide_eq_false (show ¬ (s + 2 = s + 4) by omega), Bool.false_and]
      constructor
      · intro h
        exfalso
        omega
      · intro h
        cases h
    · have l0 := hl (s + 0) (by omega) (by omega)
      have l1 := hl (s + 1) (by omega) (by omega)
      have l2 := hl (s + 2) (by omega) (by omega)
      rw [show hsh T s 3 = (((0 * 32 + (T (s + 0) - 96)) * 32 + (T (s + 1) - 96)) * 32 + (T (s + 2) - 96)) from rfl]
      rw [decide_eq_false (show ¬ (s + 3 = s + 4) by omega), Bool.false_and]
      constructor
      · intro h
        exfalso
        omega
      · intro h
        cases h
    · have l0 := hl (s + 0) (by omega) (by omega)
      have l1 := hl (s + 1) (by omega) (by omega)
      have l2 := hl (s + 2) (by omega) (by omega)
      have l3 := hl (s + 3) (by omega) (by omega)
      rw [show hsh T s 4 = ((((0 * 32 + (T (s + 0) - 96)) * 32 + (T (s + 1) - 96)) * 32 + (T (s + 2) - 96)) * 32 + (T (s + 3) - 96)) from rfl]
      rw [show wm T s 3 4 = ((((true && decide (T (s + 0) = 115)) && decide (T (s + 1) = 110)) && decide (T (s + 2) = 111)) && decide (T (s + 3) = 119)) from rfl]
      simp only [Bool.and_eq_true, decide_eq_true_eq, true_and]
      constructor
      · intro h
        refine ⟨⟨⟨by omega, by omega⟩, by omega⟩, by omega⟩
      · intro h
        omega
    · have l0 := hl (s + 0) (by omega) (by omega)
      have l1 := hl (s + 1) (by omega) (by omega)
      have l2 := hl (s + 2) (by omega) (by omega)
      have l3 := hl (s + 3) (by omega) (by omega)
      have l4 := hl (s + 4) (by omega) (by omega)
      rw [show hsh T s 5 = (((((0 * 32 + (T (s + 0) - 96)) * 32 + (T (s + 1) - 96)) * 32 + (T (s + 2) - 96)) * 32 + (T (s + 3) - 96)) * 32 + (T (s + 4) - 96)) from rfl]
      rw [decide_eq_false (show ¬ (s + 5 = s + 4) by omega), Bool.false_and]
      constructor
      · intro h
        exfalso
        omega
      · intro h
        cases h
    · have l0 := hl (s + 0) (by omega) (by omega)
      have l1 := hl (s + 1) (by omega) (by omega)
      have l2 := hl (s + 2) (by omega) (by omega)
      have l3 := hl (s + 3) (by omega) (by omega)
      have l4 := hl (s + 4) (by omega) (by omega)
      have l5 := hl (s + 5) (by omega) (by omega)
      rw [show hsh T s 6 = ((((((0 * 32 + (T (s + 0) - 96)) * 32 + (T (s + 1) - 96)) * 32 + (T (s + 2) - 96)) * 32 + (T (s + 3) - 96)) * 32 + (T (s + 4) - 96)) * 32 + (T (s + 5) - 96)) from rfl]
      rw [decide_eq_false (show ¬ (s + 6 = s + 4) by omega), Bool.false_and]
      constructor
      · intro h
        exfalso
        omega
      · intro h
        cases h
  · rw [if_neg h6, decide_eq_false (show ¬ (s + m = s + 4) by omega), Bool.false_and]
    exact ⟨fun h => by omega, fun h => by cases h⟩
theorem wv_4 {s b : Nat} (hs : s ≤ b) (hl : ∀ i, s ≤ i → i < b → 97 ≤ T i ∧ T i ≤ 122) : wv T s b = 6591876 ↔ isW T s b 4 = true := by
  obtain ⟨m, rfl⟩ : ∃ m, b = s + m := ⟨b - s, by omega⟩
  unfold wv isW
  rw [show s + m - s = m from by omega, show (wd 4).length = 5 from rfl]
  by_cases h6 : m ≤ 6
  · rw [if_pos h6]
    have hm : m = 0 ∨ m = 1 ∨ m = 2 ∨ m = 3 ∨ m = 4 ∨ m = 5 ∨ m = 6 := by omega
    rcases hm with rfl | rfl | rfl | rfl | rfl | rfl | rfl
    · rw [show hsh T s 0 = 0 from rfl]
      rw [decide_eq_false (show ¬ (s + 0 = s + 5) by omega), Bool.false_and]
      constructor
      · intro h
        exfalso
        omega
      · intro h
        cases h
    · have l0 := hl (s + 0) (by omega) (by omega)
      rw [show hsh T s 1 = (0 * 32 + (T (s + 0) - 96)) from rfl]
      rw [decide_eq_false (show ¬ (s + 1 = s + 5) by omega), Bool.false_and]
      constructor
      · intro h
        exfalso
        omega
      · intro h
        cases h
    · have l0 := hl (s + 0) (by omega) (by omega)
      have l1 := hl (s + 1) (by omega) (by omega)
      rw [show hsh T s 2 = ((0 * 32 + (T (s + 0) - 96)) * 32 + (T (s + 1) - 96)) from rfl]
      rw [decide_eq_false (show ¬ (s + 2 = s + 5) by omega), Bool.false_and]
      constructor
      · intro h
        exfalso
        omega
      · intro h
        cases h
    · have l0 := hl (s + 0) (by omega) (by omega)
      have l1 := hl (s + 1) (by omega) (by omega)
      have l2 := hl (s + 2) (by omega) (by omega)
      rw [show hsh T s 3 = (((0 * 32 + (T (s + 0) - 96)) * 32 + (T (s + 1) - 96)) * 32 + (T (s + 2) - 96)) from rfl]
      rw [decide_eq_false (show ¬ (s + 3 = s + 5) by omega), Bool.false_and]
      constructor
      · intro h
        exfalso
        omega
      · intro h
        cases h
    · have l0 := hl (s + 0) (by omega) (by omega)
      have l1 := hl (s + 1) (by omega) (by omega)
      have l2 := hl (s + 2) (by omega) (by omega)
      have l3 := hl (s + 3) (by omega) (by omega)
      rw [show hsh T s 4 = ((((0 * 32 + (T (s + 0) - 96)) * 32 + (T (s + 1) - 96)) * 32 + (T (s + 2) - 96)) * 32 + (T (s + 3) - 96)) from rfl]
      rw [decide_eq_false (show ¬ (s + 4 = s + 5) by omega), Bool.false_and]
      constructor
      · intro h
        exfalso
        omega
      · intro h
        cases h
    · have l0 := hl (s + 0) (by omega) (by omega)
      have l1 := hl (s + 1) (by omega) (by omega)
      have l2 := hl (s + 2) (by omega) (by omega)
      have l3 := hl (s + 3) (by omega) (by omega)
      have l4 := hl (s + 4) (by omega) (by omega)
      rw [show hsh T s 5 = (((((0 * 32 + (T (s + 0) - 96)) * 32 + (T (s + 1) - 96)) * 32 + (T (s + 2) - 96)) * 32 + (T (s + 3) - 96)) * 32 + (T (s + 4) - 96)) from rfl]
      rw [show wm T s 4 5 = (((((true && decide (T (s + 0) = 102)) && decide (T (s + 1) = 105)) && decide (T (s + 2) = 101)) && decide (T (s + 3) = 108)) && decide (T (s + 4) = 100)) from rfl]
      simp only [Bool.and_eq_true, decide_eq_true_eq, true_and]
      constructor
      · intro h
        refine ⟨⟨⟨⟨by omega, by omega⟩, by omega⟩, by omega⟩, by omega⟩
      · intro h
        omega
    · have l0 := hl (s + 0) (by omega) (by omega)
      have l1 := hl (s + 1) (by omega) (by omega)
      have l2 := hl (s + 2) (by omega) (by omega)
      have l3 := hl (s + 3) (by omega) (by omega)
      have l4 := hl (s + 4) (by omega) (by omega)
      have l5 := hl (s + 5) (by omega) (by omega)
      rw [show hsh T s 6 = ((((((0 * 32 + (T (s + 0) - 96)) * 32 + (T (s + 1) - 96)) * 32 + (T (s + 2) - 96)) * 32 + (T (s + 3) - 96)) * 32 + (T (s + 4) - 96)) * 32 + (T (s + 5) - 96)) from rfl]
      rw [decide_eq_false (show ¬ (s + 6 = s + 5) by omega), Bool.false_and]
      constructor
      · intro h
        exfalso
        omega
      · intro h
        cases h
  · rw [if_neg h6, decide_eq_false (show ¬ (s + m = s + 5) by omega), Bool.false_and]
    exact ⟨fun h => by omega, fun h => by cases h⟩
theorem wv_5 {s b : Nat} (hs : s ≤ b) (hl : ∀ i, s ≤ i → i < b → 97 ≤ T i ∧ T i ≤ 122) : wv T s b = 632453 ↔ isW T s b 5 = true := by
  obtain ⟨m, rfl⟩ : ∃ m, b = s + m := ⟨b - s, by omega⟩
  unfold wv isW
  rw [show s + m - s = m from by omega, show (wd 5).length = 4 from rfl]
  by_cases h6 : m ≤ 6
  · rw [if_pos h6]
    have hm : m = 0 ∨ m = 1 ∨ m = 2 ∨ m = 3 ∨ m = 4 ∨ m = 5 ∨ m = 6 := by omega
    rcases hm with rfl | rfl | rfl | rfl | rfl | rfl | rfl
    · rw [show hsh T s 0 = 0 from rfl]
      rw [decide_eq_false (show ¬ (s + 0 = s + 4) by omega), Bool.false_and]
      constructor
      · intro h
        exfalso
        omega
      · intro h
        cases h
    · have l0 := hl (s + 0) (by omega) (by omega)
      rw [show hsh T s 1 = (0 * 32 + (T (s + 0) - 96)) from rfl]
      rw [decide_eq_false (show ¬ (s + 1 = s + 4) by omega), Bool.false_and]
      constructor
      · intro h
        exfalso
        omega
      · intro h
        cases h
    · have l0 := hl (s + 0) (by omega) (by omega)
      have l1 := hl (s + 1) (by omega) (by omega)
      rw [show hsh T s 2 = ((0 * 32 + (T (s + 0) - 96)) * 32 + (T (s + 1) - 96)) from rfl]
      rw [decide_eq_false (show ¬ (s + 2 = s + 4) by omega), Bool.false_and]
      constructor
      · intro h
        exfalso
        omega
      · intro h
        cases h
    · have l0 := hl (s + 0) (by omega) (by omega)
      have l1 := hl (s + 1) (by omega) (by omega)
      have l2 := hl (s + 2) (by omega) (by omega)
      rw [show hsh T s 3 = (((0 * 32 + (T (s + 0) - 96)) * 32 + (T (s + 1) - 96)) * 32 + (T (s + 2) - 96)) from rfl]
      rw [decide_eq_false (show ¬ (s + 3 = s + 4) by omega), Bool.false_and]
      constructor
      · intro h
        exfalso
        omega
      · intro h
        cases h
    · have l0 := hl (s + 0) (by omega) (by omega)
      have l1 := hl (s + 1) (by omega) (by omega)
      have l2 := hl (s + 2) (by omega) (by omega)
      have l3 := hl (s + 3) (by omega) (by omega)
      rw [show hsh T s 4 = ((((0 * 32 + (T (s + 0) - 96)) * 32 + (T (s + 1) - 96)) * 32 + (T (s + 2) - 96)) * 32 + (T (s + 3) - 96)) from rfl]
      rw [show wm T s 5 4 = ((((true && decide (T (s + 0) = 115)) && decide (T (s + 1) = 105)) && decide (T (s + 2) = 116)) && decide (T (s + 3) = 101)) from rfl]
      simp only [Bool.and_eq_true, decide_eq_true_eq, true_and]
      constructor
      · intro h
        refine ⟨⟨⟨by omega, by omega⟩, by omega⟩, by omega⟩
      · intro h
        omega
    · have l0 := hl (s + 0) (by omega) (by omega)
      have l1 := hl (s + 1) (by omega) (by omega)
      have l2 := hl (s + 2) (by omega) (by omega)
      have l3 := hl (s + 3) (by omega) (by omega)
      have l4 := hl (s + 4) (by omega) (by omega)
      rw [show hsh T s 5 = (((((0 * 32 + (T (s + 0) - 96)) * 32 + (T (s + 1) - 96)) * 32 + (T (s + 2) - 96)) * 32 + (T (s + 3) - 96)) * 32 + (T (s + 4) - 96)) from rfl]
      rw [decide_eq_false (show ¬ (s + 5 = s + 4) by omega), Bool.false_and]
      constructor
      · intro h
        exfalso
        omega
      · intro h
        cases h
    · have l0 := hl (s + 0) (by omega) (by omega)
      have l1 := hl (s + 1) (by omega) (by omega)
      have l2 := hl (s + 2) (by omega) (by omega)
      have l3 := hl (s + 3) (by omega) (by omega)
      have l4 := hl (s + 4) (by omega) (by omega)
      have l5 := hl (s + 5) (by omega) (by omega)
      rw [show hsh T s 6 = ((((((0 * 32 + (T (s + 0) - 96)) * 32 + (T (s + 1) - 96)) * 32 + (T (s + 2) - 96)) * 32 + (T (s + 3) - 96)) * 32 + (T (s + 4) - 96)) * 32 + (T (s + 5) - 96)) from rfl]
      rw [decide_eq_false (show ¬ (s + 6 = s + 4) by omega), Bool.false_and]
      constructor
      · intro h
        exfalso
        omega
      · intro h
        cases h
  · rw [if_neg h6, decide_eq_false (show ¬ (s + m = s + 4) by omega), Bool.false_and]
    exact ⟨fun h => by omega, fun h => by cases h⟩
theorem wv_6 {s b : Nat} (hs : s ≤ b) (hl : ∀ i, s ≤ i → i < b → 97 ≤ T i ∧ T i ≤ 122) : wv T s b = 642829806 ↔ isW T s b 6 = true := by
  obtain ⟨m, rfl⟩ : ∃ m, b = s + m := ⟨b - s, by omega⟩
  unfold wv isW
  rw [show s + m - s = m from by omega, show (wd 6).length = 6 from rfl]
  by_cases h6 : m ≤ 6
  · rw [if_pos h6]
    have hm : m = 0 ∨ m = 1 ∨ m = 2 ∨ m = 3 ∨ m = 4 ∨ m = 5 ∨ m = 6 := by omega
    rcases hm with rfl | rfl | rfl | rfl | rfl | rfl | rfl
    · rw [show hsh T s 0 = 0 from rfl]
      rw [decide_eq_false (show ¬ (s + 0 = s + 6) by omega), Bool.false_and]
      constructor
      · intro h
        exfalso
        omega
      · intro h
        cases h
    · have l0 := hl (s + 0) (by omega) (by omega)
      rw [show hsh T s 1 = (0 * 32 + (T (s + 0) - 96)) from rfl]
      rw [decide_eq_false (show ¬ (s + 1 = s + 6) by omega), Bool.false_and]
      constructor
      · intro h
        exfalso
        omega
      · intro h
        cases h
    · have l0 := hl (s + 0) (by omega) (by omega)
      have l1 := hl (s + 1) (by omega) (by omega)
      rw [show hsh T s 2 = ((0 * 32 + (T (s + 0) - 96)) * 32 + (T (s + 1) - 96)) from rfl]
      rw [decide_eq_false (show ¬ (s + 2 = s + 6) by omega), Bool.false_and]
      constructor
      · intro h
        exfalso
        omega
      · intro h
        cases h
    · have l0 := hl (s + 0) (by omega) (by omega)
      have l1 := hl (s + 1) (by omega) (by omega)
      have l2 := hl (s + 2) (by omega) (by omega)
      rw [show hsh T s 3 = (((0 * 32 + (T (s + 0) - 96)) * 32 + (T (s + 1) - 96)) * 32 + (T (s + 2) - 96)) from rfl]
      rw [decide_eq_false (show ¬ (s + 3 = s + 6) by omega), Bool.false_and]
      constructor
      · intro h
        exfalso
        omega
      · intro h
        cases h
    · have l0 := hl (s + 0) (by omega) (by omega)
      have l1 := hl (s + 1) (by omega) (by omega)
      have l2 := hl (s + 2) (by omega) (by omega)
      have l3 := hl (s + 3) (by omega) (by omega)
      rw [show hsh T s 4 = ((((0 * 32 + (T (s + 0) - 96)) * 32 + (T (s + 1) - 96)) * 32 + (T (s + 2) - 96)) * 32 + (T (s + 3) - 96)) from rfl]
      rw [decide_eq_false (show ¬ (s + 4 = s + 6) by omega), Bool.false_and]
      constructor
      · intro h
        exfalso
        omega
      · intro h
        cases h
    · have l0 := hl (s + 0) (by omega) (by omega)
      have l1 := hl (s + 1) (by omega) (by omega)
      have l2 := hl (s + 2) (by omega) (by omega)
      have l3 := hl (s + 3) (by omega) (by omega)
      have l4 := hl (s + 4) (by omega) (by omega)
      rw [show hsh T s 5 = (((((0 * 32 + (T (s + 0) - 96)) * 32 + (T (s + 1) - 96)) * 32 + (T (s + 2) - 96)) * 32 + (T (s + 3) - 96)) * 32 + (T (s + 4) - 96)) from rfl]
      rw [decide_eq_false (show ¬ (s + 5 = s + 6) by omega), Bool.false_and]
      constructor
      · intro h
        exfalso
        omega
      · intro h
        cases h
    · have l0 := hl (s + 0) (by omega) (by omega)
      have l1 := hl (s + 1) (by omega) (by omega)
      have l2 := hl (s + 2) (by omega) (by omega)
      have l3 := hl (s + 3) (by omega) (by omega)
      have l4 := hl (s + 4) (by omega) (by omega)
      have l5 := hl (s + 5) (by omega) (by omega)
      rw [show hsh T s 6 = ((((((0 * 32 + (T (s + 0) - 96)) * 32 + (T (s + 1) - 96)) * 32 + (T (s + 2) - 96)) * 32 + (T (s + 3) - 96)) * 32 + (T (s + 4) - 96)) * 32 + (T (s + 5) - 96)) from rfl]
      rw [show wm T s 6 6 = ((((((true && decide (T (s + 0) = 115)) && decide (T (s + 1) = 101)) && decide (T (s + 2) = 97)) && decide (T (s + 3) = 115)) && decide (T (s + 4) = 111)) && decide (T (s + 5) = 110)) from rfl]
      simp only [Bool.and_eq_true, decide_eq_true_eq, true_and]
      constructor
      · intro h
        refine ⟨⟨⟨⟨⟨by omega, by omega⟩, by omega⟩, by omega⟩, by omega⟩, by omega⟩
      · intro h
        omega
  · rw [if_neg h6, decide_eq_false (show ¬ (s + m = s + 6) by omega), Bool.false_and]
    exact ⟨fun h => by omega, fun h => by cases h⟩
theorem wv_7 {s b : Nat} (hs : s ≤ b) (hl : ∀ i, s ≤ i → i < b → 97 ≤ T i ∧ T i ≤ 122) : wv T s b = 13689925 ↔ isW T s b 7 = true := by
  obtain ⟨m, rfl⟩ : ∃ m, b = s + m := ⟨b - s, by omega⟩
  unfold wv isW
  rw [show s + m - s = m from by omega, show (wd 7).length = 5 from rfl]
  by_cases h6 : m ≤ 6
  · rw [if_pos h6]
    have hm : m = 0 ∨ m = 1 ∨ m = 2 ∨ m = 3 ∨ m = 4 ∨ m = 5 ∨ m = 6 := by omega
    rcases hm with rfl | rfl | rfl | rfl | rfl | rfl | rfl
    · rw [show hsh T s 0 = 0 from rfl]
      rw [decide_eq_false (show ¬ (s + 0 = s + 5) by omega), Bool.false_and]
      constructor
      · intro h
        exfalso
        omega
      · intro h
        cases h
    · have l0 := hl (s + 0) (by omega) (by omega)
      rw [show hsh T s 1 = (0 * 32 + (T (s + 0) - 96)) from rfl]
      rw [decide_eq_false (show ¬ (s + 1 = s + 5) by omega), Bool.false_and]
      constructor
      · intro h
        exfalso
        omega
      · intro h
        cases h
    · have l0 := hl (s + 0) (by omega) (by omega)
      have l1 := hl (s + 1) (by omega) (by omega)
      rw [show hsh T s 2 = ((0 * 32 + (T (s + 0) - 96)) * 32 + (T (s + 1) - 96)) from rfl]
      rw [decide_eq_false (show ¬ (s + 2 = s + 5) by omega), Bool.false_and]
      constructor
      · intro h
        exfalso
        omega
      · intro h
        cases h
    · have l0 := hl (s + 0) (by omega) (by omega)
      have l1 := hl (s + 1) (by omega) (by omega)
      have l2 := hl (s + 2) (by omega) (by omega)
      rw [show hsh T s 3 = (((0 * 32 + (T (s + 0) - 96)) * 32 + (T (s + 1) - 96)) * 32 + (T (s + 2) - 96)) from rfl]
      rw [decide_eq_false (show ¬ (s + 3 = s + 5) by omega), Bool.false_and]
      constructor
      · intro h
        exfalso
        omega
      · intro h
        cases h
    · have l0 := hl (s + 0) (by omega) (by omega)
      have l1 := hl (s + 1) (by omega) (by omega)
      have l2 := hl (s + 2) (by omega) (by omega)
      have l3 := hl (s + 3) (by omega) (by omega)
      rw [show hsh T s 4 = ((((0 * 32 + (T (s + 0) - 96)) * 32 + (T (s + 1) - 96)) * 32 + (T (s + 2) - 96)) * 32 + (T (s + 3) - 96)) from rfl]
      rw [decide_eq_false (show ¬ (s + 4 = s + 5) by omega), Bool.false_and]
      constructor
      · intro h
        exfalso
        omega
      · intro h
        cases h
    · have l0 := hl (s + 0) (by omega) (by omega)
      have l1 := hl (s + 1) (by omega) (by omega)
      have l2 := hl (s + 2) (by omega) (by omega)
      have l3 := hl (s + 3) (by omega) (by omega)
      have l4 := hl (s + 4) (by omega) (by omega)
      rw [show hsh T s 5 = (((((0 * 32 + (T (s + 0) - 96)) * 32 + (T (s + 1) - 96)) * 32 + (T (s + 2) - 96)) * 32 + (T (s + 3) - 96)) * 32 + (T (s + 4) - 96)) from rfl]
      rw [show wm T s 7 5 = (((((true && decide (T (s + 0) = 109)) && decide (T (s + 1) = 97)) && decide (T (s + 2) = 121)) && decide (T (s + 3) = 98)) && decide (T (s + 4) = 101)) from rfl]
      simp only [Bool.and_eq_true, decide_eq_true_eq, true_and]
      constructor
      · intro h
        refine ⟨⟨⟨⟨by omega, by omega⟩, by omega⟩, by omega⟩, by omega⟩
      · intro h
        omega
    · have l0 := hl (s + 0) (by omega) (by omega)
      have l1 := hl (s + 1) (by omega) (by omega)
      have l2 := hl (s + 2) (by omega) (by omega)
      have l3 := hl (s + 3) (by omega) (by omega)
      have l4 := hl (s + 4) (by omega) (by omega)
      have l5 := hl (s + 5) (by omega) (by omega)
      rw [show hsh T s 6 = ((((((0 * 32 + (T (s + 0) - 96)) * 32 + (T (s + 1) - 96)) * 32 + (T (s + 2) - 96)) * 32 + (T (s + 3) - 96)) * 32 + (T (s + 4) - 96)) * 32 + (T (s + 5) - 96)) from rfl]
      rw [decide_eq_false (show ¬ (s + 6 = s + 5) by omega), Bool.false_and]
      constructor
      · intro h
        exfalso
        omega
      · intro h
        cases h
  · rw [if_neg h6, decide_eq_false (show ¬ (s + m = s + 5) by omega), Bool.false_and]
    exact ⟨fun h => by omega, fun h => by cases h⟩
theorem wv_8 {s b : Nat} (hs : s ≤ b) (hl : ∀ i, s ≤ i → i < b → 97 ≤ T i ∧ T i ≤ 122) : wv T s b = 409252 ↔ isW T s b 8 = true := by
  obtain ⟨m, rfl⟩ : ∃ m, b = s + m := ⟨b - s, by omega⟩
  unfold wv isW
  rw [show s + m - s = m from by omega, show (wd 8).length = 4 from rfl]
  by_cases h6 : m ≤ 6
  · rw [if_pos h6]
    have hm : m = 0 ∨ m = 1 ∨ m = 2 ∨ m = 3 ∨ m = 4 ∨ m = 5 ∨ m = 6 := by omega
    rcases hm with rfl | rfl | rfl | rfl | rfl | rfl | rfl
    · rw [show hsh T s 0 = 0 from rfl]
      rw [decide_eq_false (show ¬ (s + 0 = s + 4) by omega), Bool.false_and]
      constructor
      · intro h
        exfalso
        omega
      · intro h
        cases h
    · have l0 := hl (s + 0) (by omega) (by omega)
      rw [show hsh T s 1 = (0 * 32 + (T (s + 0) - 96)) from rfl]
      rw [decide_eq_false (show ¬ (s + 1 = s + 4) by omega), Bool.false_and]
      constructor
      · intro h
        exfalso
        omega
      · intro h
        cases h
    · have l0 := hl (s + 0) (by omega) (by omega)
      have l1 := hl (s + 1) (by omega) (by omega)
      rw [show hsh T s 2 = ((0 * 32 + (T (s + 0) - 96)) * 32 + (T (s + 1) - 96)) from rfl]
      rw [decide_eq_false (show ¬ (s + 2 = s + 4) by omega), Bool.false_and]
      constructor
      · intro h
        exfalso
        omega
      · intro h
        cases h
    · have l0 := hl (s + 0) (by omega) (by omega)
      have l1 := hl (s + 1) (by omega) (by omega)
      have l2 := hl (s + 2) (by omega) (by omega)
      rw [show hsh T s 3 = (((0 * 32 + (T (s + 0) - 96)) * 32 + (T (s + 1) - 96)) * 32 + (T (s + 2) - 96)) from rfl]
      rw [decide_eq_false (show ¬ (s + 3 = s + 4) by omega), Bool.false_and]
      constructor
      · intro h
        exfalso
        omega
      · intro h
        cases h
    · have l0 := hl (s + 0) (by omega) (by omega)
      have l1 := hl (s + 1) (by omega) (by omega)
      have l2 := hl (s + 2) (by omega) (by omega)
      have l3 := hl (s + 3) (by omega) (by omega)
      rw [show hsh T s 4 = ((((0 * 32 + (T (s + 0) - 96)) * 32 + (T (s + 1) - 96)) * 32 + (T (s + 2) - 96)) * 32 + (T (s + 3) - 96)) from rfl]
      rw [show wm T s 8 4 = ((((true && decide (T (s + 0) = 108)) && decide (T (s + 1) = 111)) && decide (T (s + 2) = 117)) && decide (T (s + 3) = 100)) from rfl]
      simp only [Bool.and_eq_true, decide_eq_true_eq, true_and]
      constructor
      · intro h
        refine ⟨⟨⟨by omega, by omega⟩, by omega⟩, by omega⟩
      · intro h
        omega
    · have l0 := hl (s + 0) (by omega) (by omega)
      have l1 := hl (s + 1) (by omega) (by omega)
      have l2 := hl (s + 2) (by omega) (by omega)
      have l3 := hl (s + 3) (by omega) (by omega)
      have l4 := hl (s + 4) (by omega) (by omega)
      rw [show hsh T s 5 = (((((0 * 32 + (T (s + 0) - 96)) * 32 + (T (s + 1) - 96)) * 32 + (T (s + 2) - 96)) * 32 + (T (s + 3) - 96)) * 32 + (T (s + 4) - 96)) from rfl]
      rw [decide_eq_false (show ¬ (s + 5 = s + 4) by omega), Bool.false_and]
      constructor
      · intro h
        exfalso
        omega
      · intro h
        cases h
    · have l0 := hl (s + 0) (by omega) (by omega)
      have l1 := hl (s + 1) (by omega) (by omega)
      have l2 := hl (s + 2) (by omega) (by omega)
      have l3 := hl (s + 3) (by omega) (by omega)
      have l4 := hl (s + 4) (by omega) (by omega)
      have l5 := hl (s + 5) (by omega) (by omega)
      rw [show hsh T s 6 = ((((((0 * 32 + (T (s + 0) - 96)) * 32 + (T (s + 1) - 96)) * 32 + (T (s + 2) - 96)) * 32 + (T (s + 3) - 96)) * 32 + (T (s + 4) - 96)) * 32 + (T (s + 5) - 96)) from rfl]
      rw [decide_eq_false (show ¬ (s + 6 = s + 4) by omega), Bool.false_and]
      constructor
      · intro h
        exfalso
        omega
      · intro h
        cases h
  · rw [if_neg h6, decide_eq_false (show ¬ (s + m = s + 4) by omega), Bool.false_and]
    exact ⟨fun h => by omega, fun h => by cases h⟩
theorem wv_9 {s b : Nat} (hs : s ≤ b) (hl : ∀ i, s ≤ i → i < b → 97 ≤ T i ∧ T i ≤ 122) : wv T s b = 12343 ↔ isW T s b 9 = true := by
  obtain ⟨m, rfl⟩ : ∃ m, b = s + m := ⟨b - s, by omega⟩
  unfold wv isW
  rw [show s + m - s = m from by omega, show (wd 9).length = 3 from rfl]
  by_cases h6 : m ≤ 6
  · rw [if_pos h6]
    have hm : m = 0 ∨ m = 1 ∨ m = 2 ∨ m = 3 ∨ m = 4 ∨ m = 5 ∨ m = 6 := by omega
    rcases hm with rfl | rfl | rfl | rfl | rfl | rfl | rfl
    · rw [show hsh T s 0 = 0 from rfl]
      rw [decide_eq_false (show ¬ (s + 0 = s + 3) by omega), Bool.false_and]
      constructor
      · intro h
        exfalso
        omega
      · intro h
        cases h
    · have l0 := hl (s + 0) (by omega) (by omega)
      rw [show hsh T s 1 = (0 * 32 + (T (s + 0) - 96)) from rfl]
      rw [decide_eq_false (show ¬ (s + 1 = s + 3) by omega), Bool.false_and]
      constructor
      · intro h
        exfalso
        omega
      · intro h
        cases h
    · have l0 := hl (s + 0) (by omega) (by omega)
      have l1 := hl (s + 1) (by omega) (by omega)
      rw [show hsh T s 2 = ((0 * 32 + (T (s + 0) - 96)) * 32 + (T (s + 1) - 96)) from rfl]
      rw [decide_eq_false (show ¬ (s + 2 = s + 3) by omega), Bool.false_and]
      constructor
      · intro h
        exfalso
        omega
      · intro h
        cases h
    · have l0 := hl (s + 0) (by omega) (by omega)
      have l1 := hl (s + 1) (by omega) (by omega)
      have l2 := hl (s + 2) (by omega) (by omega)
      rw [show hsh T s 3 = (((0 * 32 + (T (s + 0) - 96)) * 32 + (T (s + 1) - 96)) * 32 + (T (s + 2) - 96)) from rfl]
      rw [show wm T s 9 3 = (((true && decide (T (s + 0) = 108)) && decide (T (s + 1) = 97)) && decide (T (s + 2) = 119)) from rfl]
      simp only [Bool.and_eq_true, decide_eq_true_eq, true_and]
      constructor
      · intro h
        refine ⟨⟨by omega, by omega⟩, by omega⟩
      · intro h
        omega
    · have l0 := hl (s + 0) (by omega) (by omega)
      have l1 := hl (s + 1) (by omega) (by omega)
      have l2 := hl (s + 2) (by omega) (by omega)
      have l3 := hl (s + 3) (by omega) (by omega)
      rw [show hsh T s 4 = ((((0 * 32 + (T (s + 0) - 96)) * 32 + (T (s + 1) - 96)) * 32 + (T (s + 2) - 96)) * 32 + (T (s + 3) - 96)) from rfl]
      rw [decide_eq_false (show ¬ (s + 4 = s + 3) by omega), Bool.false_and]
      constructor
      · intro h
        exfalso
        omega
      · intro h
        cases h
    · have l0 := hl (s + 0) (by omega) (by omega)
      have l1 := hl (s + 1) (by omega) (by omega)
      have l2 := hl (s + 2) (by omega) (by omega)
      have l3 := hl (s + 3) (by omega) (by omega)
      have l4 := hl (s + 4) (by omega) (by omega)
      rw [show hsh T s 5 = (((((0 * 32 + (T (s + 0) - 96)) * 32 + (T (s + 1) - 96)) * 32 + (T (s + 2) - 96)) * 32 + (T (s + 3) - 96)) * 32 + (T (s + 4) - 96)) from rfl]
      rw [decide_eq_false (show ¬ (s + 5 = s + 3) by omega), Bool.false_and]
      constructor
      · intro h
        exfalso
        omega
      · intro h
        cases h
    · have l0 := hl (s + 0) (by omega) (by omega)
      have l1 := hl (s + 1) (by omega) (by omega)
      have l2 := hl (s + 2) (by omega) (by omega)
      have l3 := hl (s + 3) (by omega) (by omega)
      have l4 := hl (s + 4) (by omega) (by omega)
      have l5 := hl (s + 5) (by omega) (by omega)
      rw [show hsh T s 6 = ((((((0 * 32 + (T (s + 0) - 96)) * 32 + (T (s + 1) - 96)) * 32 + (T (s + 2) - 96)) * 32 + (T (s + 3) - 96)) * 32 + (T (s + 4) - 96)) * 32 + (T (s + 5) - 96)) from rfl]
      rw [decide_eq_false (show ¬ (s + 6 = s + 3) by omega), Bool.false_and]
      constructor
      · intro h
        exfalso
        omega
      · intro h
        cases h
  · rw [if_neg h6, decide_eq_false (show ¬ (s + m = s + 3) by omega), Bool.false_and]
    exact ⟨fun h => by omega, fun h => by cases h⟩
end WD
