/-! songs -/
def alF (e : ES) (j : Nat) (A : Nat → Int) (t : Nat) : Int := if t = (eT e j).toNat then A t + eS e j else A t
def al (e : ES) (k : Nat) : Nat → Int := it (alF e) (fun _ => 0) k
theorem al_B {e : ES} (h : ESB e) (t : Nat) : ∀ k, k ≤ e.1 → 0 ≤ al e k t ∧ al e k t ≤ 99 * k := by
  refine it_indB (P := fun k (A : Nat → Int) => 0 ≤ A t ∧ A t ≤ 99 * (k : Int)) (by simp) (fun j A hj hA => ?_)
  have := (h.1 j hj).2
  unfold alF
  split <;> omega
theorem al_0 {e : ES} {t : Nat} : ∀ k, (∀ j, j < k → 0 ≤ eT e j ∧ eT e j < t) → al e k t = 0 := by
  intro k
  induction k with
  | zero => intro _; rfl
  | succ k ih =>
    intro h
    show alF e k (al e k) t = 0
    unfold alF
    have := h k (by omega)
    rw [if_neg (by omega), ih (fun j hj => h j (by omega))]
def ltm (e : ES) : Nat → Int
  | 0 => 0
  | k + 1 => eT e k
theorem c_tell {N : Nat} {e : ES} {M : am_M} (hE : ErC e M) (h24 : e.1 ≤ 24) {i : Int32} {k : Nat} (hk : k < 4) : f_X6_tellEcho N i (i32 (k : Int)) M = some (.ok (some (.int (if 0 ≤ i.toInt ∧ i.toInt < e.1 then e.2 k i.toInt.toNat else -1))), M) := by
  have hi : i = i32 i.toInt := (i32_of i).symm
  have hl := Int32.le_toInt i
  have hu := Int32.toInt_lt i
  generalize hI : i.toInt = I at *
  subst hi
  unfold f_X6_tellEcho
  rw [hE.1]
  by_cases h1 : I < 0
  · rw [if_pos ((i32_lt0 (by omega) (by omega)).mpr h1), if_neg (by omega)]
  · rw [if_neg (fun q => h1 ((i32_lt0 (by omega) (by omega)).mp q))]
    by_cases h2 : I < e.1
    · rw [if_pos ((i32_lt (by omega) (by omega) (by omega) (by omega)).mpr h2), if_pos (⟨by omega, h2⟩ : 0 ≤ I ∧ I < (e.1 : Int)), i32_toInt (a := (k : Int)) (by omega) (by omega), i32_cl (a := I) (by omega) (by omega)]
      have hin : am_in (i32 I) 24 := i32_in (by omega) (by omega) (by omega)
      match k, hk with
      | 0, _ => rw [if_pos (by omega), if_pos hin, ← hE.2 0 I.toNat (by omega) (by omega)]
      | 1, _ => rw [if_neg (by omega), if_pos (by omega), if_pos hin, ← hE.2 1 I.toNat (by omega) (by omega)]
      | 2, _ => rw [if_neg (by omega), if_neg (by omega), if_pos (by omega), if_pos hin, ← hE.2 2 I.toNat (by omega) (by omega)]
      | 3, _ => rw [if_neg (by omega), if_neg (by omega), if_neg (by omega), if_pos hin, ← hE.2 3 I.toNat (by omega) (by omega)]
    · rw [if_neg (fun q => h2 ((i32_lt (by omega) (by omega) (by omega) (by omega)).mp q)), if_neg (by omega)]
theorem c_tellj {N : Nat} {e : ES} {M : am_M} (hE : ErC e M) (h24 : e.1 ≤ 24) {j k : Nat} (hj : j < e.1) (hk : k < 4) : f_X6_tellEcho N (i32 (j : Int)) (i32 (k : Int)) M = some (.ok (some (.int (e.2 k j))), M) := by
  rw [c_tell hE h24 hk, i32_toInt (by omega) (by omega), if_pos (by omega)]
  rfl
section SG
variable {N : Nat} {V : VL} {M0 : am_M} {x y : Int}
theorem c_listen_lp {e : ES} (hB : ESB e) (h24 : e.1 ≤ 24) : ∀ (d j n : Nat) (M : am_M), j + d = e.1 → d < n → sC M0 M → ErC e M → (∀ t, t < 100 → M 64 t = i32 (al e j t)) → M 63 3 = i32 (ltm e j) → wp (f_X7_listen_45 N n (i32 (j : Int)) M) (rV fun M' => sC M0 M' ∧ ErC e M' ∧ (∀ t, t < 100 → M' 64 t = i32 (al e e.1 t)) ∧ M' 63 3 = i32 (ltm e e.1)) := by
  intro d
  induction d with
  | zero =>
    intro j n M hj hn hs hE hA hL
    obtain ⟨n, rfl⟩ : ∃ k, n = k + 1 := ⟨n - 1, by omega⟩
    show wp (f_X7_listen_45B N _ _ M) _
    unfold f_X7_listen_45B
    rw [hE.1]
    have e0 : j = e.1 := by omega
    rw [e0] at hA hL
    exact wp_gd ((i32_le (by omega) (by omega) (by omega) (by omega)).mpr (by omega)) (wp_v ⟨hs, hE, hA, hL⟩)
  | succ d ih =>
    intro j n M hj hn hs hE hA hL
    obtain ⟨n, rfl⟩ : ∃ k, n = k + 1 := ⟨n - 1, by omega⟩
    show wp (f_X7_listen_45B N _ _ M) _
    unfold f_X7_listen_45B
    have hb := hB.1 j (by omega)
    have t0 := c_tellj (N := N) hE h24 (j := j) (k := 0) (by omega) (by omega)
    have t1 := c_tellj (N := N) hE h24 (j := j) (k := 1) (by omega) (by omega)
    rw [← hE.2 0 j (by omega) (by omega)] at t0
    rw [← hE.2 1 j (by omega) (by omega)] at t1
    rw [hE.1]
    refine wp_ng (fun q => absurd ((i32_le (by omega) (by omega) (by omega) (by omega)).mp q) (by omega)) ?_
    rw [show f_X6_tellEcho N (i32 (j : Int)) 0 M = _ from t0]
    simp only [am_bi_i]
    rw [hE.T (by omega)]
    refine wp_ng (fun q => absurd ((i32_lt0 (by omega) (by omega)).mp q) (by omega)) (wp_ng (fun q => absurd ((i32_99lt (by omega) (by omega)).mp q) (by omega)) (wp_gd (i32_in (by omega) (by omega) (by omega)) ?_))
    rw [show f_X6_tellEcho N (i32 (j : Int)) 1 M = _ from t1]
    simp only [am_bi_i]
    refine wp_gd (i32_in (by omega) (by omega) (by omega)) ?_
    rw [hE.S (by omega), i32_cl (by omega) (by omega), i32_s, hA _ (by omega), i32_add]
    refine ih (j + 1) n _ (by omega) (by omega) ((hs.up (by omega) (by omega)).up (by omega) (by omega)) ⟨?_, fun i k hi hk => ?_⟩ (fun t ht => ?_) ?_
    · rw [up_ne (by omega), up_ne (by omega)]; exact hE.1
    · rw [up_ne (by omega), up_ne (by omega)]; exact hE.2 i k hi hk
    · rw [up_ne (by omega)]
      show _ = i32 (alF e j (al e j) t)
      unfold alF
      by_cases h : t = (eT e j).toNat
      · rw [if_pos h, h, up_eq]
      · rw [if_neg h, up_ne (by omega)]; exact hA t ht
    · rw [up_eq]; rfl
theorem c_listen_z (hN : 102 ≤ N) (hV : VX V) (hR : RC V M0) (hx : 0 ≤ x ∧ x < V 0 0) (hy : 0 ≤ y ∧ y < V 0 1) : ∀ (d j n : Nat) (M : am_M), j + d = 100 → d < n → sC M0 M → (∀ t, t < j → M 64 t = 0) → wp (f_X7_listen_2 N (i32 x) (i32 y) n (i32 (j : Int)) M) (rV fun M' => sC M0 M' ∧ ErC (shE V x y (V 0 2) 0 8) M' ∧ (∀ t, t < 100 → M' 64 t = i32 (al (shE V x y (V 0 2) 0 8) (shE V x y (V 0 2) 0 8).1 t)) ∧ M' 63 3 = i32 (ltm (shE V x y (V 0 2) 0 8) (shE V x y (V 0 2) 0 8).1)) := by
  intro d
  induction d with
  | zero =>
    intro j n M hj hn hs hz
    obtain ⟨n, rfl⟩ : ∃ k, n = k + 1 := ⟨n - 1, by omega⟩
    show wp (f_X7_listen_2B N _ _ _ _ M) _
    unfold f_X7_listen_2B
    refine wp_gd ((i32_99lt (by omega) (by omega)).mpr (by omega)) ?_
    refine wp_cv (c_shoutE hN hV (hR.sC hs) (fog := 0) (by omega) hx hy) (fun M1 h1 => ?_)
    have hE := shE_ok hV (x := x) (y := y) (fog := 0) (by omega)
    refine c_listen_lp hE.1 hE.2 (shE V x y (V 0 2) 0 8).1 0 N _ (by omega) (by omega) ((hs.trans h1.1).up (by omega) (by omega)) ⟨?_, fun i k hi hk => ?_⟩ (fun t ht => ?_) ?_
    · rw [up_ne (by omega)]; exact h1.2.1.1
    · rw [up_ne (by omega)]; exact h1.2.1.2 i k hi hk
    · rw [up_ne (by omega), h1.2.2 64 t (by omega)]; exact hz t (by omega)
    · rw [up_eq]; rfl
  | succ d ih =>
    intro j n M hj hn hs hz
    obtain ⟨n, rfl⟩ : ∃ k, n = k + 1 := ⟨n - 1, by omega⟩
    show wp (f_X7_listen_2B N _ _ _ _ M) _
    unfold f_X7_listen_2B
    refine wp_ng (fun q => absurd ((i32_99lt (by omega) (by omega)).mp q) (by omega)) (wp_gd (i32_in (by omega) (by omega) (by omega)) ?_)
    rw [i32_s, i32_k (by omega)]
    refine ih (j + 1) n _ (by omega) (by omega) (hs.up (by omega) (by omega)) (fun t ht => ?_)
    by_cases h : t = j
    · rw [h, up_eq]
    · rw [up_ne (by omega)]; exact hz t (by omega)
theorem c_listen (hN : 102 ≤ N) (hV : VX V) (hR : RC V M0) (hx : 0 ≤ x ∧ x < V 0 0) (hy : 0 ≤ y ∧ y < V 0 1) : wp (f_X7_listen N (i32 x) (i32 y) M0) (rV fun M' => sC M0 M' ∧ ErC (shE V x y (V 0 2) 0 8) M' ∧ (∀ t, t < 100 → M' 64 t = i32 (al (shE V x y (V 0 2) 0 8) (shE V x y (V 0 2) 0 8).1 t)) ∧ M' 63 3 = i32 (ltm (shE V x y (V 0 2) 0 8) (shE V x y (V 0 2) 0 8).1)) :=
  c_listen_z hN hV hR hx hy 100 0 N M0 (by omega) (by omega) sC.rfl (fun t ht => absurd ht (Nat.not_lt_zero t))
theorem m_listen_lp {e : ES} (hB : ESB e) (h24 : e.1 ≤ 24) : ∀ (d j n : Nat) (M : am_M), j + d = e.1 → d < n → sM M0 M → ErM e M → (∀ t, t < 100 → M 24 t = i32 (al e j t)) → wp (f_X10_listens_33 N n (i32 (j : Int)) M) (rV fun M' => sM M0 M' ∧ (∀ t, t < 100 → M' 24 t = i32 (al e e.1 t))) := by
  intro d
  induction d with
  | zero =>
    intro j n M hj hn hs hE hA
    obtain ⟨n, rfl⟩ : ∃ k, n = k + 1 := ⟨n - 1, by omega⟩
    show wp (f_X10_listens_33B N _ _ M) _
    unfold f_X10_listens_33B
    rw [hE.1]
    have e0 : j = e.1 := by omega
    rw [e0] at hA
    exact wp_gd ((i32_le (by omega) (by omega) (by omega) (by omega)).mpr (by omega)) (wp_v ⟨hs, hA⟩)
  | succ d ih =>
    intro j n M hj hn hs hE hA
    obtain ⟨n, rfl⟩ : ∃ k, n = k + 1 := ⟨n - 1, by omega⟩
    show wp (f_X10_listens_33B N _ _ M) _
    unfold f_X10_listens_33B
    have hb := hB.1 j (by omega)
    rw [hE.1]
    refine wp_ng (fun q => absurd ((i32_le (by omega) (by omega) (by omega) (by omega)).mp q) (by omega)) (wp_gd (i32_in (by omega) (by omega) (by omega)) ?_)
    rw [i32_k (by omega), hE.T (by omega), hE.S (by omega), i32_cl (by omega) (by omega), i32_s, hA _ (by omega), i32_add]
    refine wp_ng (fun q => absurd ((i32_100le (by omega) (by omega)).mp q) (by omega)) (wp_gd ⟨i32_in (by omega) (by omega) (by omega), i32_in (by omega) (by omega) (by omega)⟩ ?_)
    refine ih (j + 1) n _ (by omega) (by omega) (hs.up (by unfold mS; omega)) ⟨?_, fun i k hi hk => ?_⟩ (fun t ht => ?_)
    · rw [up_ne (by omega)]; exact hE.1
    · rw [up_ne (by omega)]; exact hE.2 i k hi hk
    · show _ = i32 (alF e j (al e j) t)
      unfold alF
      by_cases h : t = (eT e j).toNat
      · rw [if_pos h, h, up_eq]
      · rw [if_neg h, up_ne (by omega)]; exact hA t ht
theorem m_listen_z {e : ES} (hN : 102 ≤ N) (hB : ESB e) (h24 : e.1 ≤ 24) : ∀ (d j n : Nat) (M : am_M), j + d = 100 → d < n → sM M0 M → ErM e M → (∀ t, t < j → M 24 t = 0) → wp (f_X10_listens_12 N n (i32 (j : Int)) M) (rV fun M' => sM M0 M' ∧ (∀ t, t < 100 → M' 24 t = i32 (al e e.1 t))) := by
  intro d
  induction d with
  | zero =>
    intro j n M hj hn hs hE hz
    obtain ⟨n, rfl⟩ : ∃ k, n = k + 1 := ⟨n - 1, by omega⟩
    show wp (f_X10_listens_12B N _ _ M) _
    unfold f_X10_listens_12B
    refine wp_gd ((i32_100le (by omega) (by omega)).mpr (by omega)) ?_
    exact m_listen_lp hB h24 e.1 0 N M (by omega) (by omega) hs hE (fun t ht => hz t (by omega))
  | succ d ih =>
    intro j n M hj hn hs hE hz
    obtain ⟨n, rfl⟩ : ∃ k, n = k + 1 := ⟨n - 1, by omega⟩
    show wp (f_X10_listens_12B N _ _ M) _
    unfold f_X10_listens_12B
    refine wp_ng (fun q => absurd ((i32_100le (by omega) (by omega)).mp q) (by omega)) (wp_gd (i32_in (by omega) (by omega) (by omega)) ?_)
    rw [i32_s, i32_k (by omega)]
    refine ih (j + 1) n _ (by omega) (by omega) (hs.up (by unfold mS; omega)) ⟨?_, fun i k hi hk => ?_⟩ (fun t ht => ?_)
    · rw [up_ne (by omega)]; exact hE.1
    · rw [up_ne (by omega)]; exact hE.2 i k hi hk
    · by_cases h : t = j
      · rw [h, up_eq]
      · rw [up_ne (by omega)]; exact hz t (by omega)
theorem m_listens (hN : 102 ≤ N) (hV : VX V) (hR : RT V M0) (hE : EM V M0) (hx : 0 ≤ x ∧ x < V 0 0) (hy : 0 ≤ y ∧ y < V 0 1) : wp (f_X10_listens N (i32 (10 * y + x)) M0) (rV fun M' => sM M0 M' ∧ (∀ t, t < 100 → M' 24 t = i32 (al (shE V x y (V 0 2) 0 8) (shE V x y (V 0 2) 0 8).1 t))) := by
  unfold f_X10_listens
  refine wp_cv (m_shoutE hN hV hR hE (fog := 0) (by omega) hx hy) (fun M1 h1 => ?_)
  have hES := shE_ok hV (x := x) (y := y) (fog := 0) (by omega)
  exact m_listen_z hN hES.1 hES.2 100 0 N M1 (by omega) (by omega) h1.1.s h1.2 (fun t ht => absurd ht (Nat.not_lt_zero t))
end SG
/-! one song at one time -/
def bt (notes : Int32) (n : Nat) : Int32 := (notes >>> (i32 (n : Int) &&& 31)) &&& 1
theorem i32_and1 (v : Int32) : v &&& 1 = 0 ∨ v &&& 1 = 1 := by
  have h : (v &&& 1).toBitVec = 0#32 ∨ (v &&& 1).toBitVec = 1#32 := by
    rw [Int32.toBitVec_and]
    have : (v.toBitVec &&& (1 : Int32).toBitVec).toNat = v.toBitVec.toNat % 2 := by
      rw [BitVec.toNat_and]
      exact Nat.and_one_is_mod _
    have h2 : v.toBitVec.toNat % 2 = 0 ∨ v.toBitVec.toNat % 2 = 1 := by omega
    rcases h2 with h2 | h2
    · left; apply BitVec.eq_of_toNat_eq; rw [this, h2]; rfl
    · right; apply BitVec.eq_of_toNat_eq; rw [this, h2]; rfl
  rcases h with h | h
  · left; exact Int32.toBitVec_inj.mp h
  · right; exact Int32.toBitVec_inj.mp h
theorem bt_01 (notes : Int32) (n : Nat) : bt notes n = 0 ∨ bt notes n = 1 := i32_and1 _
def soF (A : Nat → Int) (notes : Int32) (t n : Nat) (a : Int) : Int := if bt notes n = 0 then a else a + A (t - n)
def song (A : Nat → Int) (notes : Int32) (t k : Nat) : Int := it (soF A notes t) 0 k
def sgk (t : Nat) : Nat := if t + 1 ≤ 12 then t + 1 else 12
theorem song_B {A : Nat → Int} {notes : Int32} {t m : Nat} (ht : t < 100) (hA : ∀ t, t < 100 → 0 ≤ A t ∧ A t ≤ m) : ∀ k, k ≤ sgk t → 0 ≤ song A notes t k ∧ song A notes t k ≤ (m : Int) * k := by
  intro k
  induction k with
  | zero => intro _; show 0 ≤ (0 : Int) ∧ (0 : Int) ≤ (m : Int) * 0; omega
  | succ k ih =>
    intro hk
    have q := ih (by omega)
    have ha := hA (t - k) (by omega)
    show 0 ≤ soF A notes t k (song A notes t k) ∧ soF A notes t k (song A notes t k) ≤ (m : Int) * ((k + 1 : Nat) : Int)
    rw [show (m : Int) * ((k + 1 : Nat) : Int) = (m : Int) * k + m from by rw [Int.natCast_add, Int.mul_add]; simp]
    generalize (m : Int) * k = z at *
    unfold soF
    split <;> omega
theorem song_0 {A : Nat → Int} {notes : Int32} {t : Nat} (hA : ∀ s, t < s + 12 → A s = 0) : ∀ k, k ≤ 12 → k ≤ t + 1 → song A notes t k = 0 := by
  intro k
  induction k with
  | zero => intro _ _; rfl
  | succ k ih =>
    intro hk ht
    show soF A notes t k (song A notes t k) = 0
    unfold soF
    rw [ih (by omega) (by omega)]
    split
    · rfl
    · rw [hA (t - k) (by omega)]; rfl
theorem c_song_lp {N : Nat} {A : Nat → Int} {notes : Int32} {t : Nat} (ht : t < 100) {M : am_M} (hM : ∀ t, t < 100 → M 64 t = i32 (A t)) : ∀ (d j n : Nat), j + d = sgk t → d < n → f_X7_strengthOfSong_5 N notes (i32 (t : Int)) n (i32 (song A notes t j)) (i32 (j : Int)) M = some (.ok (some (.int (i32 (song A notes t (sgk t))))), M) := by
  intro d
  induction d with
  | zero =>
    intro j n hj hn
    obtain ⟨n, rfl⟩ : ∃ k, n = k + 1 := ⟨n - 1, by omega⟩
    show f_X7_strengthOfSong_5B N _ _ _ _ _ M = _
    unfold f_X7_strengthOfSong_5B
    have hj2 := hj
    unfold sgk at hj2
    have hj3 : j ≤ 12 := by split at hj2 <;> omega
    rw [show sgk t = j from by omega]
    by_cases h : 12 ≤ j
    · rw [if_pos ((i32_12le (by omega) (by omega)).mpr (by omega))]
    · have : t < j := by split at hj2 <;> omega
      rw [if_neg (fun q => absurd ((i32_12le (by omega) (by omega)).mp q) (by omega)), if_pos ((i32_lt (by omega) (by omega) (by omega) (by omega)).mpr (by omega))]
  | succ d ih =>
    intro j n hj hn
    obtain ⟨n, rfl⟩ : ∃ k, n = k + 1 := ⟨n - 1, by omega⟩
    show f_X7_strengthOfSong_5B N _ _ _ _ _ M = _
    unfold f_X7_strengthOfSong_5B
    have hj2 : j < 12 ∧ j ≤ t := by unfold sgk at hj; split at hj <;> omega
    have q := ih (j + 1) n (by omega) (by omega)
    have k1 : song A notes t (j + 1) = soF A notes t j (song A notes t j) := rfl
    rw [k1] at q
    unfold soF bt at q
    rw [if_neg (fun q => absurd ((i32_12le (by omega) (by omega)).mp q) (by omega)), if_neg (fun q => absurd ((i32_lt (by omega) (by omega) (by omega) (by omega)).mp q) (by omega)), i32_s, i32_sub]
    by_cases h : notes >>> (i32 (j : Int) &&& 31) &&& 1 = 0
    · rw [if_pos h] at q ⊢
      exact q
    · rw [if_neg h] at q ⊢
      rw [if_pos (i32_in (by omega) (by omega) (by omega)), i32_cl (by omega) (by omega), hM _ (by omega), i32_add, show ((t : Int) - (j : Int)).toNat = t - j from by omega]
      exact q
theorem c_song {N : Nat} (hN : 102 ≤ N) {A : Nat → Int} {notes : Int32} {t : Nat} (ht : t < 100) {M : am_M} (hM : ∀ t, t < 100 → M 64 t = i32 (A t)) : f_X7_strengthOfSong N notes (i32 (t : Int)) M = some (.ok (some (.int (i32 (song A notes t (sgk t))))), M) :=
  c_song_lp ht hM (sgk t) 0 N (by omega) (by unfold sgk; split <;> omega)
theorem m_song_lp {N : Nat} {A : Nat → Int} {notes : Int32} {t : Nat} (ht : t < 100) {M : am_M} (hM : ∀ t, t < 100 → M 24 t = i32 (A t)) : ∀ (d j n : Nat), j + d = sgk t → d < n → f_X10_heardAt_5 N notes (i32 (t : Int)) n (i32 (song A notes t j)) (i32 (j : Int)) M = some (.ok (some (.int (i32 (song A notes t (sgk t))))), M) := by
  intro d
  induction d with
  | zero =>
    intro j n hj hn
    obtain ⟨n, rfl⟩ : ∃ k, n = k + 1 := ⟨n - 1, by omega⟩
    show f_X10_heardAt_5B N _ _ _ _ _ M = _
    unfold f_X10_heardAt_5B
    have hj2 := hj
    unfold sgk at hj2
    have hj3 : j ≤ 12 := by split at hj2 <;> omega
    rw [show sgk t = j from by omega]
    by_cases h : 12 ≤ j
    · rw [if_pos ((i32_12le (by omega) (by omega)).mpr (by omega))]
    · have : t < j := by split at hj2 <;> omega
      rw [if_neg (fun q => absurd ((i32_12le (by omega) (by omega)).mp q) (by omega)), if_pos ((i32_lt (by omega) (by omega) (by omega) (by omega)).mpr (by omega))]
  | succ d ih =>
    intro j n hj hn
    obtain ⟨n, rfl⟩ : ∃ k, n = k + 1 := ⟨n - 1, by omega⟩
    show f_X10_heardAt_5B N _ _ _ _ _ M = _
    unfold f_X10_heardAt_5B
    have hj2 : j < 12 ∧ j ≤ t := by unfold sgk at hj; split at hj <;> omega
    have q := ih (j + 1) n (by omega) (by omega)
    have k1 : song A notes t (j + 1) = soF A notes t j (song A notes t j) := rfl
    rw [k1] at q
    have h01 := bt_01 notes j
    unfold soF at q
    unfold bt at q h01
    rw [if_neg (fun q => absurd ((i32_12le (by omega) (by omega)).mp q) (by omega)), if_neg (fun q => absurd ((i32_lt (by omega) (by omega) (by omega) (by omega)).mp q) (by omega)), i32_s, i32_sub]
    rcases h01 with h | h
    · rw [if_pos h] at q
      rw [if_neg (by rw [h]; decide), i32_0, i32_add, Int.add_zero]
      exact q
    · rw [if_neg (by rw [h]; decide)] at q
      rw [if_pos h, if_pos (i32_in (by omega) (by omega) (by omega)), i32_cl (by omega) (by omega), hM _ (by omega), i32_add, show ((t : Int) - (j : Int)).toNat = t - j from by omega]
      exact q
theorem m_song {N : Nat} (hN : 102 ≤ N) {A : Nat → Int} {notes : Int32} {t : Nat} (ht : t < 100) {M : am_M} (hM : ∀ t, t < 100 → M 24 t = i32 (A t)) : f_X10_heardAt N notes (i32 (t : Int)) M = some (.ok (some (.int (i32 (song A notes t (sgk t))))), M) :=
  m_song_lp ht hM (sgk t) 0 N (by omega) (by unfold sgk; split <;> omega)
