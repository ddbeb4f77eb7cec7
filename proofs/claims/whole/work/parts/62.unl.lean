/-! unlike, deaf: both sides -/
def cmpI (a b : Int) : Int := if a < b then -1 else if a = b then 0 else 1
/-- whether two laws tell i and j apart -/
def ulF (V : VL) (l1 l2 : Int) (i j : Nat) (a : Int) : Int := if cmpI (wt V 0 l1 i) (wt V 0 l1 j) = cmpI (wt V 0 l2 i) (wt V 0 l2 j) then a else a + 1
def ulI (V : VL) (l1 l2 : Int) (i : Nat) (a : Int) (k : Nat) : Int := it (fun q a => ulF V l1 l2 i (i + 1 + q) a) a k
def ulO (V : VL) (l1 l2 : Int) (k : Nat) : Int := it (fun i a => ulI V l1 l2 i a ((V 0 5).toNat - (i + 1))) 0 k
def ulV (V : VL) (l1 l2 : Int) : Int := ulO V l1 l2 (V 0 5).toNat
theorem i32_cmp {N : Nat} {M : am_M} {a b : Int} (ha : 0 ≤ a ∧ a ≤ 2376) (hb : 0 ≤ b ∧ b ≤ 2376) : f_cJ6_compare N (i32 a) (i32 b) M = some (.ok (some (.int (i32 (cmpI a b)))), M) ∧ f_X10_sideOf N (i32 a) (i32 b) M = some (.ok (some (.int (i32 (cmpI a b)))), M) := by
  unfold f_cJ6_compare f_X10_sideOf cmpI
  by_cases h1 : a < b
  · rw [if_neg (fun q => absurd ((i32_le (by omega) (by omega) (by omega) (by omega)).mp q) (by omega)), if_pos ((i32_le (by omega) (by omega) (by omega) (by omega)).mpr (by omega)), if_neg (fun q => absurd ((i32_eq (by omega) (by omega) (by omega) (by omega)).mp q) (by omega)), if_pos h1]
    exact ⟨rfl, rfl⟩
  · by_cases h2 : a = b
    · rw [if_pos ((i32_le (by omega) (by omega) (by omega) (by omega)).mpr (by omega)), if_pos ((i32_le (by omega) (by omega) (by omega) (by omega)).mpr (by omega)), if_pos ((i32_eq (by omega) (by omega) (by omega) (by omega)).mpr h2), if_pos ((i32_eq (by omega) (by omega) (by omega) (by omega)).mpr h2), if_neg h1, if_pos h2]
      exact ⟨rfl, rfl⟩
    · rw [if_pos ((i32_le (by omega) (by omega) (by omega) (by omega)).mpr (by omega)), if_neg (fun q => absurd ((i32_le (by omega) (by omega) (by omega) (by omega)).mp q) (by omega)), if_neg (fun q => absurd ((i32_eq (by omega) (by omega) (by omega) (by omega)).mp q) (by omega)), if_neg h1, if_neg h2]
      exact ⟨rfl, rfl⟩
theorem cmpI_B (a b : Int) : -1 ≤ cmpI a b ∧ cmpI a b ≤ 1 := by unfold cmpI; split <;> (try split) <;> omega
section UL
variable {N : Nat} {V : VL} {M0 : am_M} {l1 l2 : Int}
theorem ulI_nx {i k : Nat} {a : Int} : ulI V l1 l2 i a (k + 1) = ulF V l1 l2 i (i + 1 + k) (ulI V l1 l2 i a k) := rfl
theorem c_ul_in (hV : VX V) {M : am_M} (hR : RC V M) (hM : ∀ j : Nat, (j : Int) < V 0 5 → M 58 j = i32 (wt V 0 l1 j) ∧ M 59 j = i32 (wt V 0 l2 j)) {i : Nat} (hi : (i : Int) < V 0 5) {a : Int} {k53 : Int32 → Int32 → am_M → am_O} :
    ∀ (d j n : Nat), j + d = (V 0 5).toNat - (i + 1) → d < n → f_X3_unlikePairs_74 N (i32 (i : Int)) k53 n (i32 (ulI V l1 l2 i a j)) (i32 ((i + 1 + j : Nat) : Int)) M = k53 (i32 (ulI V l1 l2 i a ((V 0 5).toNat - (i + 1)))) (i32 ((i + 1 : Nat) : Int)) M := by
  have hns := hV.ns
  intro d
  induction d with
  | zero =>
    intro j n hj hn
    obtain ⟨n, rfl⟩ : ∃ k, n = k + 1 := ⟨n - 1, by omega⟩
    show f_X3_unlikePairs_74B N _ _ _ _ _ M = _
    unfold f_X3_unlikePairs_74B
    rw [hR.2.2.1.2.2.1, if_pos ((i32_le (by omega) (by omega) (by omega) (by omega)).mpr (by omega)), i32_s, show (V 0 5).toNat - (i + 1) = j from by omega]
  | succ d ih =>
    intro j n hj hn
    obtain ⟨n, rfl⟩ : ∃ k, n = k + 1 := ⟨n - 1, by omega⟩
    show f_X3_unlikePairs_74B N _ _ _ _ _ M = _
    unfold f_X3_unlikePairs_74B
    have b1 := fun (l : Int) => wt_B (law := l) (fog := 0) hV (by omega) hi
    have b2 := fun (l : Int) => wt_B (law := l) (fog := 0) (f := i + 1 + j) hV (by omega) (by omega)
    rw [hR.2.2.1.2.2.1, if_neg (fun q => absurd ((i32_le (by omega) (by omega) (by omega) (by omega)).mp q) (by omega)), if_pos ⟨i32_in (by omega) (by omega) (by omega), i32_in (by omega) (by omega) (by omega)⟩, i32_k (by omega), i32_k (by omega), (hM i hi).1, (hM (i + 1 + j) (by omega)).1, (i32_cmp (b1 l1) (b2 l1)).1]
    simp only [am_bi_i]
    rw [if_pos ⟨i32_in (by omega) (by omega) (by omega), i32_in (by omega) (by omega) (by omega)⟩, (hM i hi).2, (hM (i + 1 + j) (by omega)).2, (i32_cmp (b1 l2) (b2 l2)).1]
    simp only [am_bi_i]
    rw [i32_s, i32_1, i32_add]
    have c1 := cmpI_B (wt V 0 l1 i) (wt V 0 l1 (i + 1 + j))
    have c2 := cmpI_B (wt V 0 l2 i) (wt V 0 l2 (i + 1 + j))
    have q := ih (j + 1) n (by omega) (by omega)
    rw [ulI_nx] at q
    unfold ulF at q
    by_cases h : cmpI (wt V 0 l1 i) (wt V 0 l1 (i + 1 + j)) = cmpI (wt V 0 l2 i) (wt V 0 l2 (i + 1 + j))
    · rw [if_pos ((i32_eq (by omega) (by omega) (by omega) (by omega)).mpr h)]
      rw [if_pos h] at q
      exact q
    · rw [if_neg (fun q => h ((i32_eq (by omega) (by omega) (by omega) (by omega)).mp q))]
      rw [if_neg h] at q
      exact q
theorem c_ul_out (hN : 102 ≤ N) (hV : VX V) {M : am_M} (hR : RC V M) (hM : ∀ j : Nat, (j : Int) < V 0 5 → M 58 j = i32 (wt V 0 l1 j) ∧ M 59 j = i32 (wt V 0 l2 j)) :
    ∀ (d j n : Nat), j + d = (V 0 5).toNat → d < n → f_X3_unlikePairs_53 N n (i32 (ulO V l1 l2 j)) (i32 (j : Int)) M = some (.ok (some (.int (i32 (ulV V l1 l2)))), M) := by
  have hns := hV.ns
  intro d
  induction d with
  | zero =>
    intro j n hj hn
    obtain ⟨n, rfl⟩ : ∃ k, n = k + 1 := ⟨n - 1, by omega⟩
    show f_X3_unlikePairs_53B N _ _ _ M = _
    unfold f_X3_unlikePairs_53B ulV
    rw [hR.2.2.1.2.2.1, if_pos ((i32_le (by omega) (by omega) (by omega) (by omega)).mpr (by omega)), show (V 0 5).toNat = j from by omega]
  | succ d ih =>
    intro j n hj hn
    obtain ⟨n, rfl⟩ : ∃ k, n = k + 1 := ⟨n - 1, by omega⟩
    show f_X3_unlikePairs_53B N _ _ _ M = _
    unfold f_X3_unlikePairs_53B
    rw [hR.2.2.1.2.2.1, if_neg (fun q => absurd ((i32_le (by omega) (by omega) (by omega) (by omega)).mp q) (by omega)), i32_s]
    exact (c_ul_in hV hR hM (i := j) (by omega) ((V 0 5).toNat - (j + 1)) 0 N (by omega) (by omega)).trans (ih (j + 1) n (by omega) (by omega))
theorem c_unlike_lp (hN : 102 ≤ N) (hV : VX V) (hR : RC V M0) (h1 : 0 ≤ l1 ∧ l1 ≤ 2) (h2 : 0 ≤ l2 ∧ l2 ≤ 2) :
    ∀ (d j n : Nat) (M : am_M), j + d = (V 0 5).toNat → d < n → sC M0 M → (∀ i : Nat, i < j → M 58 i = i32 (wt V 0 l1 i) ∧ M 59 i = i32 (wt V 0 l2 i)) → wp (f_X3_unlikePairs_2 N (i32 l1) (i32 l2) n (i32 (j : Int)) M) (rI fun v M' => v = i32 (ulV V l1 l2) ∧ sC M0 M') := by
  have hns := hV.ns
  intro d
  induction d with
  | zero =>
    intro j n M hj hn hs hM
    obtain ⟨n, rfl⟩ : ∃ k, n = k + 1 := ⟨n - 1, by omega⟩
    show wp (f_X3_unlikePairs_2B N _ _ _ _ M) _
    unfold f_X3_unlikePairs_2B
    rw [(hR.sC hs).2.2.1.2.2.1]
    refine wp_gd ((i32_le (by omega) (by omega) (by omega) (by omega)).mpr (by omega)) ?_
    exact wp_eqi (c_ul_out hN hV (hR.sC hs) (fun i hi => hM i (by omega)) (V 0 5).toNat 0 N (by omega) (by omega)) ⟨rfl, hs⟩
  | succ d ih =>
    intro j n M hj hn hs hM
    obtain ⟨n, rfl⟩ : ∃ k, n = k + 1 := ⟨n - 1, by omega⟩
    show wp (f_X3_unlikePairs_2B N _ _ _ _ M) _
    unfold f_X3_unlikePairs_2B
    have hRs := hR.sC hs
    rw [hRs.2.2.1.2.2.1]
    refine wp_ng (fun q => absurd ((i32_le (by omega) (by omega) (by omega) (by omega)).mp q) (by omega)) ?_
    refine wp_ci (c_worthBy hN hV hRs (fog := 0) (by omega) h1 (f := j) (by omega)) (fun v M1 k1 => wp_gd (i32_in (by omega) (by omega) (by omega)) ?_)
    rw [i32_k (by omega)]
    have hs1 : sC M0 (am_up M1 58 j v) := (hs.trans k1.2.c).up (by omega) (by omega)
    refine wp_ci (c_worthBy hN hV (hR.sC hs1) (fog := 0) (by omega) h2 (f := j) (by omega)) (fun w M2 k2 => wp_gd (i32_in (by omega) (by omega) (by omega)) ?_)
    rw [i32_s]
    refine ih (j + 1) n _ (by omega) (by omega) ((hs1.trans k2.2.c).up (by omega) (by omega)) (fun i hi => ?_)
    by_cases hij : i = j
    · rw [hij, up_eq, up_ne (by omega), k2.2 58 j (by omega), up_eq, k1.1, k2.1]
      exact ⟨rfl, rfl⟩
    · rw [up_ne (by omega), up_ne (by omega), k2.2 58 i (by omega), k2.2 59 i (by omega), up_ne (by omega), up_ne (by omega), k1.2 58 i (by omega), k1.2 59 i (by omega)]
      exact hM i (by omega)
theorem c_unlike (hN : 102 ≤ N) (hV : VX V) (hR : RC V M0) (h1 : 0 ≤ l1 ∧ l1 ≤ 2) (h2 : 0 ≤ l2 ∧ l2 ≤ 2) : wp (f_X3_unlikePairs N (i32 l1) (i32 l2) M0) (rI fun v M' => v = i32 (ulV V l1 l2) ∧ sC M0 M') :=
  c_unlike_lp hN hV hR h1 h2 (V 0 5).toNat 0 N M0 (by omega) (by have := hV.ns; omega) sC.rfl (fun i hi => absurd hi (Nat.not_lt_zero i))
theorem m_ul_in (hN : 102 ≤ N) (hV : VX V) (hR : RT V M0) (hE : EM V M0) (h1 : 0 ≤ l1 ∧ l1 ≤ 2) (h2 : 0 ≤ l2 ∧ l2 ≤ 2) {i : Nat} (hi : (i : Int) < V 0 5) {a : Int} {k44 : Int32 → Int32 → am_M → am_O} {Q : Except Nat (Option Value) → am_M → Prop}
    (hk : ∀ M, sM M0 M → wp (k44 (i32 (ulI V l1 l2 i a ((V 0 5).toNat - (i + 1)))) (i32 ((i + 1 : Nat) : Int)) M) Q) :
    ∀ (d j n : Nat) (M : am_M), j + d = (V 0 5).toNat - (i + 1) → d < n → sM M0 M → wp (f_X10_unlike_59 N (i32 l1) (i32 l2) (i32 (i : Int)) k44 n (i32 (ulI V l1 l2 i a j)) (i32 ((i + 1 + j : Nat) : Int)) M) Q := by
  have hns := hV.ns
  intro d
  induction d with
  | zero =>
    intro j n M hj hn hs
    obtain ⟨n, rfl⟩ : ∃ k, n = k + 1 := ⟨n - 1, by omega⟩
    show wp (f_X10_unlike_59B N _ _ _ _ _ _ _ M) _
    unfold f_X10_unlike_59B
    rw [(hR.sM hs).2.1.1]
    refine wp_gd ((i32_le (by omega) (by omega) (by omega) (by omega)).mpr (by omega)) ?_
    rw [i32_s]
    have := hk M hs
    rw [show (V 0 5).toNat - (i + 1) = j from by omega] at this
    exact this
  | succ d ih =>
    intro j n M hj hn hs
    obtain ⟨n, rfl⟩ : ∃ k, n = k + 1 := ⟨n - 1, by omega⟩
    show wp (f_X10_unlike_59B N _ _ _ _ _ _ _ M) _
    unfold f_X10_unlike_59B
    have b1 := fun (l : Int) => wt_B (law := l) (fog := 0) hV (by omega) hi
    have b2 := fun (l : Int) => wt_B (law := l) (fog := 0) (f := i + 1 + j) hV (by omega) (by omega)
    rw [(hR.sM hs).2.1.1]
    refine wp_ng (fun q => absurd ((i32_le (by omega) (by omega) (by omega) (by omega)).mp q) (by omega)) ?_
    refine wp_ci (m_worthBy hN hV (hR.sM hs) (hE.sM hs) (fog := 0) (by omega) h1 hi) (fun v M1 k1 => ?_)
    have s1 := hs.trans k1.2.s
    refine wp_ci (m_worthBy hN hV (hR.sM s1) (hE.sM s1) (fog := 0) (by omega) h1 (f := i + 1 + j) (by omega)) (fun w M2 k2 => ?_)
    have s2 := s1.trans k2.2.s
    rw [k1.1, k2.1, (i32_cmp (b1 l1) (b2 l1)).2]
    simp only [am_bi_i]
    refine wp_ci (m_worthBy hN hV (hR.sM s2) (hE.sM s2) (fog := 0) (by omega) h2 hi) (fun v M3 k3 => ?_)
    have s3 := s2.trans k3.2.s
    refine wp_ci (m_worthBy hN hV (hR.sM s3) (hE.sM s3) (fog := 0) (by omega) h2 (f := i + 1 + j) (by omega)) (fun w M4 k4 => ?_)
    have s4 := s3.trans k4.2.s
    rw [k3.1, k4.1, (i32_cmp (b1 l2) (b2 l2)).2]
    simp only [am_bi_i]
    rw [i32_s, i32_1, i32_0, i32_add, i32_add, Int.add_zero]
    have c1 := cmpI_B (wt V 0 l1 i) (wt V 0 l1 (i + 1 + j))
    have c2 := cmpI_B (wt V 0 l2 i) (wt V 0 l2 (i + 1 + j))
    have q := ih (j + 1) n M4 (by omega) (by omega) s4
    rw [ulI_nx] at q
    unfold ulF at q
    by_cases h : cmpI (wt V 0 l1 i) (wt V 0 l1 (i + 1 + j)) = cmpI (wt V 0 l2 i) (wt V 0 l2 (i + 1 + j))
    · rw [if_pos h] at q
      exact wp_gd ((i32_eq (by omega) (by omega) (by omega) (by omega)).mpr h) q
    · rw [if_neg h] at q
      exact wp_ng (fun q => h ((i32_eq (by omega) (by omega) (by omega) (by omega)).mp q)) q
theorem m_unlike_lp (hN : 102 ≤ N) (hV : VX V) (hR : RT V M0) (hE : EM V M0) (h1 : 0 ≤ l1 ∧ l1 ≤ 2) (h2 : 0 ≤ l2 ∧ l2 ≤ 2) :
    ∀ (d j n : Nat) (M : am_M), j + d = (V 0 5).toNat → d < n → sM M0 M → wp (f_X10_unlike_44 N (i32 l1) (i32 l2) n (i32 (ulO V l1 l2 j)) (i32 (j : Int)) M) (rI fun v M' => v = i32 (ulV V l1 l2) ∧ sM M0 M') := by
  have hns := hV.ns
  intro d
  induction d with
  | zero =>
    intro j n M hj hn hs
    obtain ⟨n, rfl⟩ : ∃ k, n = k + 1 := ⟨n - 1, by omega⟩
    show wp (f_X10_unlike_44B N _ _ _ _ _ M) _
    unfold f_X10_unlike_44B
    rw [(hR.sM hs).2.1.1]
    refine wp_gd ((i32_le (by omega) (by omega) (by omega) (by omega)).mpr (by omega)) (wp_i ⟨?_, hs⟩)
    unfold ulV
    rw [show (V 0 5).toNat = j from by omega]
  | succ d ih =>
    intro j n M hj hn hs
    obtain ⟨n, rfl⟩ : ∃ k, n = k + 1 := ⟨n - 1, by omega⟩
    show wp (f_X10_unlike_44B N _ _ _ _ _ M) _
    unfold f_X10_unlike_44B
    rw [(hR.sM hs).2.1.1]
    refine wp_ng (fun q => absurd ((i32_le (by omega) (by omega) (by omega) (by omega)).mp q) (by omega)) ?_
    rw [i32_s]
    exact m_ul_in hN hV hR hE h1 h2 (i := j) (by omega) (fun M1 k1 => ih (j + 1) n M1 (by omega) (by omega) k1) ((V 0 5).toNat - (j + 1)) 0 N M (by omega) (by omega) hs
end UL
/-! deaf -/
def csF (e : ES) (g : Int) (j : Nat) (c : Int) : Int := if g ≤ eS e j then c + 1 else c
def cs (e : ES) (g : Int) (k : Nat) : Int := it (csF e g) 0 k
theorem cs_B (e : ES) (g : Int) (k : Nat) : 0 ≤ cs e g k ∧ cs e g k ≤ k := by
  refine it_ind (P := fun k (c : Int) => 0 ≤ c ∧ c ≤ k) (by simp) (fun j c h => ?_) k
  unfold csF
  split <;> omega
theorem c_strong_lp {N : Nat} {e : ES} {M : am_M} (hE : ErC e M) (hB : ESB e) (h24 : e.1 ≤ 24) {g : Int} (hg : 0 ≤ g ∧ g ≤ 99) :
    ∀ (d j n : Nat), j + d = e.1 → d < n → f_X6_countStrong_4 N (i32 g) n (i32 (cs e g j)) (i32 (j : Int)) M = some (.ok (some (.int (i32 (cs e g e.1)))), M) := by
  intro d
  induction d with
  | zero =>
    intro j n hj hn
    obtain ⟨n, rfl⟩ : ∃ k, n = k + 1 := ⟨n - 1, by omega⟩
    show f_X6_countStrong_4B N _ _ _ _ M = _
    unfold f_X6_countStrong_4B
    have e0 : j = e.1 := by omega
    rw [hE.1, if_pos ((i32_le (by omega) (by omega) (by omega) (by omega)).mpr (by omega)), e0]
  | succ d ih =>
    intro j n hj hn
    obtain ⟨n, rfl⟩ : ∃ k, n = k + 1 := ⟨n - 1, by omega⟩
    show f_X6_countStrong_4B N _ _ _ _ M = _
    unfold f_X6_countStrong_4B
    have hs := (hB.1 j (by omega)).2
    have q := ih (j + 1) n (by omega) (by omega)
    have k1 : cs e g (j + 1) = csF e g j (cs e g j) := rfl
    rw [k1] at q
    unfold csF at q
    rw [hE.1, if_neg (fun q => absurd ((i32_le (by omega) (by omega) (by omega) (by omega)).mp q) (by omega)), if_pos (i32_in (by omega) (by omega) (by omega)), i32_s, i32_k (by omega), hE.S (by omega), i32_1, i32_add]
    by_cases h : g ≤ eS e j
    · rw [if_neg (fun q => absurd ((i32_lt (by omega) (by omega) (by omega) (by omega)).mp q) (by omega))]
      rw [if_pos h] at q
      exact q
    · rw [if_pos ((i32_lt (by omega) (by omega) (by omega) (by omega)).mpr (by omega))]
      rw [if_neg h] at q
      exact q
/-- the most strong echoes so far -/
def dfF (V : VL) (g x y a : Int) : Int := if a < cs (shE V x y (V 0 2) 0 8) g (shE V x y (V 0 2) 0 8).1 then cs (shE V x y (V 0 2) 0 8) g (shE V x y (V 0 2) 0 8).1 else a
def dfX (V : VL) (g y x0 a : Int) (k : Nat) : Int := it (fun j a => dfF V g (x0 + j) y a) a k
def dfY (V : VL) (f : Nat) (g : Int) (k : Nat) : Int := it (fun i a => dfX V g (V 1 (5 * f + 1) + i) (V 1 (5 * f)) a (nx V f)) 0 k
def dfV (V : VL) (f : Nat) (g : Int) : Int := dfY V f g (ny V f)
theorem dfX_B {V : VL} (hV : VX V) {g y x0 a : Int} (h : 0 ≤ a ∧ a ≤ 24) (k : Nat) : 0 ≤ dfX V g y x0 a k ∧ dfX V g y x0 a k ≤ 24 := by
  refine it_ind (P := fun _ (c : Int) => 0 ≤ c ∧ c ≤ 24) h (fun j c h => ?_) k
  have h1 := cs_B (shE V (x0 + j) y (V 0 2) 0 8) g (shE V (x0 + j) y (V 0 2) 0 8).1
  have h2 := (shE_ok hV (x := x0 + j) (y := y) (fog := 0) (by omega)).2
  show 0 ≤ dfF V g (x0 + j) y c ∧ dfF V g (x0 + j) y c ≤ 24
  unfold dfF
  split <;> omega
theorem dfY_B {V : VL} (hV : VX V) {f : Nat} {g : Int} (k : Nat) : 0 ≤ dfY V f g k ∧ dfY V f g k ≤ 24 :=
  it_ind (P := fun _ (c : Int) => 0 ≤ c ∧ c ≤ 24) (by omega) (fun j c h => dfX_B hV h _) k
section DF
variable {N : Nat} {V : VL} {M0 : am_M} {f : Nat} {g : Int}
theorem c_deaf_x (hN : 102 ≤ N) (hV : VX V) (hR : RC V M0) (hg : 0 ≤ g ∧ g ≤ 99) (hff : (f : Int) < V 0 5) {y : Int} (hy : 0 ≤ y ∧ y < V 0 1) {a : Int} (ha : 0 ≤ a ∧ a ≤ 24) {k44 : Int32 → Int32 → am_M → am_O} {Q : Except Nat (Option Value) → am_M → Prop} {v1 v4 : Int32}
    (hk : ∀ M, sC M0 M → wp (k44 (i32 (dfX V g y (V 1 (5 * f)) a (nx V f))) (i32 (y + 1)) M) Q) :
    ∀ (d j n : Nat) (M : am_M), j + d = nx V f → d < n → sC M0 M → wp (f_X3_mostForDeaf_65 N v1 (i32 g) (i32 (V 1 (5 * f + 2))) v4 (i32 y) k44 n (i32 (dfX V g y (V 1 (5 * f)) a j)) (i32 (V 1 (5 * f) + j)) M) Q := by
  have hw := hV.1.1
  have hh := hV.1.2.1
  have hb := hV.fld hff
  intro d
  induction d with
  | zero =>
    intro j n M hj hn hs
    obtain ⟨n, rfl⟩ : ∃ k, n = k + 1 := ⟨n - 1, by omega⟩
    show wp (f_X3_mostForDeaf_65B N _ _ _ _ _ _ _ _ _ M) Q
    unfold f_X3_mostForDeaf_65B
    have hj2 := hj
    unfold nx at hj2
    refine wp_gd ((i32_lt (by omega) (by omega) (by omega) (by omega)).mpr (by omega)) ?_
    rw [i32_1, i32_add]
    have := hk M hs
    rw [show nx V f = j from by omega] at this
    exact this
  | succ d ih =>
    intro j n M hj hn hs
    obtain ⟨n, rfl⟩ : ∃ k, n = k + 1 := ⟨n - 1, by omega⟩
    show wp (f_X3_mostForDeaf_65B N _ _ _ _ _ _ _ _ _ M) Q
    unfold f_X3_mostForDeaf_65B
    have hj2 := hj
    unfold nx at hj2
    refine wp_ng (fun q => absurd ((i32_lt (by omega) (by omega) (by omega) (by omega)).mp q) (by omega)) ?_
    refine wp_cv (c_shoutE hN hV (hR.sC hs) (fog := 0) (by omega) (x := V 1 (5 * f) + j) (by omega) hy) (fun M1 h1 => ?_)
    have hE := shE_ok hV (x := V 1 (5 * f) + j) (y := y) (fog := 0) (by omega)
    unfold f_X6_countStrong
    have hst := c_strong_lp (N := N) h1.2.1 hE.1 hE.2 hg (shE V (V 1 (5 * f) + j) y (V 0 2) 0 8).1 0 N (by omega) (by omega)
    rw [show f_X6_countStrong_4 N (i32 g) N 0 0 M1 = some (.ok (some (.int (i32 (cs (shE V (V 1 (5 * f) + j) y (V 0 2) 0 8) g (shE V (V 1 (5 * f) + j) y (V 0 2) 0 8).1)))), M1) from hst]
    simp only [am_bi_i]
    have h3 := cs_B (shE V (V 1 (5 * f) + j) y (V 0 2) 0 8) g (shE V (V 1 (5 * f) + j) y (V 0 2) 0 8).1
    have h4 := dfX_B hV (g := g) (y := y) (x0 := V 1 (5 * f)) ha j
    have q := ih (j + 1) n M1 (by omega) (by omega) (hs.trans h1.1)
    have k1 : dfX V g y (V 1 (5 * f)) a (j + 1) = dfF V g (V 1 (5 * f) + j) y (dfX V g y (V 1 (5 * f)) a j) := rfl
    rw [k1] at q
    unfold dfF at q
    rw [i32_1, i32_add, show V 1 (5 * f) + (j : Int) + 1 = V 1 (5 * f) + ((j + 1 : Nat) : Int) from by omega]
    by_cases h : dfX V g y (V 1 (5 * f)) a j < cs (shE V (V 1 (5 * f) + j) y (V 0 2) 0 8) g (shE V (V 1 (5 * f) + j) y (V 0 2) 0 8).1
    · rw [if_pos ((i32_lt (by omega) (by omega) (by omega) (by omega)).mpr h)]
      rw [if_pos h] at q
      exact q
    · rw [if_neg (fun z => h ((i32_lt (by omega) (by omega) (by omega) (by omega)).mp z))]
      rw [if_neg h] at q
      exact q
theorem c_deaf_y (hN : 102 ≤ N) (hV : VX V) (hR : RC V M0) (hg : 0 ≤ g ∧ g ≤ 99) (hff : (f : Int) < V 0 5) :
    ∀ (d j n : Nat) (M : am_M), j + d = ny V f → d < n → sC M0 M → wp (f_X3_mostForDeaf_44 N (i32 (f : Int)) (i32 g) (i32 (V 1 (5 * f + 2))) (i32 (V 1 (5 * f + 3))) n (i32 (dfY V f g j)) (i32 (V 1 (5 * f + 1) + j)) M) (rI fun v M' => v = i32 (dfV V f g) ∧ sC M0 M') := by
  have hb := hV.fld hff
  intro d
  induction d with
  | zero =>
    intro j n M hj hn hs
    obtain ⟨n, rfl⟩ : ∃ k, n = k + 1 := ⟨n - 1, by omega⟩
    show wp (f_X3_mostForDeaf_44B N _ _ _ _ _ _ _ M) _
    unfold f_X3_mostForDeaf_44B
    have hj2 := hj
    unfold ny at hj2
    refine wp_gd ((i32_lt (by omega) (by omega) (by omega) (by omega)).mpr (by omega)) (wp_i ⟨?_, hs⟩)
    unfold dfV
    rw [show ny V f = j from by omega]
  | succ d ih =>
    intro j n M hj hn hs
    obtain ⟨n, rfl⟩ : ∃ k, n = k + 1 := ⟨n - 1, by omega⟩
    show wp (f_X3_mostForDeaf_44B N _ _ _ _ _ _ _ M) _
    unfold f_X3_mostForDeaf_44B
    have hj2 := hj
    unfold ny at hj2
    refine wp_ng (fun q => absurd ((i32_lt (by omega) (by omega) (by omega) (by omega)).mp q) (by omega)) ?_
    rw [show (0 : Int32) = i32 ((0 : Nat) : Int) from rfl, c_at3 (hR.sC hs).2.2.1 (by omega) hff (by omega)]
    simp only [am_bi_i]
    have := c_deaf_x hN hV hR hg hff (y := V 1 (5 * f + 1) + j) (by omega) (dfY_B hV (f := f) (g := g) j) (v1 := i32 (f : Int)) (v4 := i32 (V 1 (5 * f + 3))) (k44 := f_X3_mostForDeaf_44 N (i32 (f : Int)) (i32 g) (i32 (V 1 (5 * f + 2))) (i32 (V 1 (5 * f + 3))) n) (Q := rI fun v M' => v = i32 (dfV V f g) ∧ sC M0 M') (fun M1 h1 => by
      rw [show V 1 (5 * f + 1) + (j : Int) + 1 = V 1 (5 * f + 1) + ((j + 1 : Nat) : Int) from by omega]
      exact ih (j + 1) n M1 (by omega) (by omega) h1) (nx V f) 0 N M (by omega) (by unfold nx; omega) hs
    rw [show V 1 (5 * f) + ((0 : Nat) : Int) = V 1 (5 * f) from by omega] at this
    exact this
theorem c_deaf (hN : 102 ≤ N) (hV : VX V) (hR : RC V M0) (hg : 0 ≤ g ∧ g ≤ 99) (hff : (f : Int) < V 0 5) : wp (f_X3_mostForDeaf N (i32 (f : Int)) (i32 g) M0) (rI fun v M' => v = i32 (dfV V f g) ∧ sC M0 M') := by
  have hb := hV.fld hff
  unfold f_X3_mostForDeaf
  rw [show (2 : Int32) = i32 ((2 : Nat) : Int) from rfl, c_at3 hR.2.2.1 (by omega) hff (by omega)]
  simp only [am_bi_i]
  rw [show (3 : Int32) = i32 ((3 : Nat) : Int) from rfl, c_at3 hR.2.2.1 (by omega) hff (by omega)]
  simp only [am_bi_i]
  rw [show (1 : Int32) = i32 ((1 : Nat) : Int) from rfl, c_at3 hR.2.2.1 (by omega) hff (by omega)]
  simp only [am_bi_i]
  have := c_deaf_y hN hV hR hg hff (ny V f) 0 N M0 (by omega) (by unfold ny; omega) sC.rfl
  rw [show V 1 (5 * f + 1) + ((0 : Nat) : Int) = V 1 (5 * f + 1) from by omega] at this
  exact this
theorem m_deaf_c {e : ES} {M : am_M} (hE : ErM e M) (hB : ESB e) (h24 : e.1 ≤ 24) (hg : 0 ≤ g ∧ g ≤ 99) {a : Int} (ha : 0 ≤ a ∧ a ≤ 24) {v3 v5 : Int32} {x : Int} {k49 k70 : Int32 → Int32 → am_M → am_O} :
    ∀ (d j n : Nat), j + d = e.1 → d < n → f_X10_deaf_106 N (i32 g) v3 (i32 a) v5 (i32 x) k49 k70 n (i32 (cs e g j)) (i32 (j : Int)) M = k70 (i32 (if a < cs e g e.1 then cs e g e.1 else a)) (i32 (x + 1)) M := by
  intro d
  induction d with
  | zero =>
    intro j n hj hn
    obtain ⟨n, rfl⟩ : ∃ k, n = k + 1 := ⟨n - 1, by omega⟩
    show f_X10_deaf_106B N _ _ _ _ _ _ _ _ _ _ M = _
    unfold f_X10_deaf_106B
    have e0 : j = e.1 := by omega
    have hb := cs_B e g e.1
    rw [hE.1, if_pos ((i32_le (by omega) (by omega) (by omega) (by omega)).mpr (by omega)), e0, i32_1, i32_add]
    by_cases h : a < cs e g e.1
    · rw [if_neg (fun q => absurd ((i32_le (by omega) (by omega) (by omega) (by omega)).mp q) (by omega)), if_pos h]
    · rw [if_pos ((i32_le (by omega) (by omega) (by omega) (by omega)).mpr (by omega)), if_neg h]
  | succ d ih =>
    intro j n hj hn
    obtain ⟨n, rfl⟩ : ∃ k, n = k + 1 := ⟨n - 1, by omega⟩
    show f_X10_deaf_106B N _ _ _ _ _ _ _ _ _ _ M = _
    unfold f_X10_deaf_106B
    have hs := (hB.1 j (by omega)).2
    have q := ih (j + 1) n (by omega) (by omega)
    have k1 : cs e g (j + 1) = csF e g j (cs e g j) := rfl
    rw [k1] at q
    unfold csF at q
    rw [hE.1, if_neg (fun q => absurd ((i32_le (by omega) (by omega) (by omega) (by omega)).mp q) (by omega)), if_pos (i32_in (by omega) (by omega) (by omega)), i32_s, i32_k (by omega), hE.S (by omega), i32_1, i32_0, i32_add, i32_add, Int.add_zero]
    by_cases h : g ≤ eS e j
    · rw [if_neg (fun q => absurd ((i32_lt (by omega) (by omega) (by omega) (by omega)).mp q) (by omega))]
      rw [if_pos h] at q
      exact q
    · rw [if_pos ((i32_lt (by omega) (by omega) (by omega) (by omega)).mpr (by omega))]
      rw [if_neg h] at q
      exact q
theorem m_shoutE (hN : 102 ≤ N) (hV : VX V) {M : am_M} (hR : RT V M) (hE : EM V M) {x y fog : Int} (hf : 0 ≤ fog ∧ fog ≤ 9) (hx : 0 ≤ x ∧ x < V 0 0) (hy : 0 ≤ y ∧ y < V 0 1) :
    wp (f_X10_shouts N (i32 (10 * y + x)) (i32 fog) (M 0 40) M) (rV fun M' => tM M M' ∧ ErM (shE V x y (V 0 2) fog 8) M') := by
  have hns := hV.ns
  rw [hR.1.2.2.1]
  exact wp_eqv (m_shouts hN (ns := (V 0 8).toNat) (by omega) hV.1 hE (by rw [hR.2.1.2.2.2.1]; congr 1; omega) hf hx hy hV.2.1.1) ⟨shM_t, shM_Er hV.1 hf M 8 (by omega)⟩
theorem m_deaf_x (hN : 102 ≤ N) (hV : VX V) (hR : RT V M0) (hE : EM V M0) (hg : 0 ≤ g ∧ g ≤ 99) (hff : (f : Int) < V 0 5) {y : Int} (hy : 0 ≤ y ∧ y < V 0 1) {a : Int} (ha : 0 ≤ a ∧ a ≤ 24) {k49 : Int32 → Int32 → am_M → am_O} {Q : Except Nat (Option Value) → am_M → Prop}
    (hk : ∀ M, sM M0 M → wp (k49 (i32 (dfX V g y (V 1 (5 * f)) a (nx V f))) (i32 (y + 1)) M) Q) :
    ∀ (d j n : Nat) (M : am_M), j + d = nx V f → d < n → sM M0 M → wp (f_X10_deaf_70 N (i32 g) (i32 (5 * (f : Int))) (i32 y) k49 n (i32 (dfX V g y (V 1 (5 * f)) a j)) (i32 (V 1 (5 * f) + j)) M) Q := by
  have hw := hV.1.1
  have hh := hV.1.2.1
  have hb := hV.fld hff
  intro d
  induction d with
  | zero =>
    intro j n M hj hn hs
    obtain ⟨n, rfl⟩ : ∃ k, n = k + 1 := ⟨n - 1, by omega⟩
    show wp (f_X10_deaf_70B N _ _ _ _ _ _ _ M) Q
    unfold f_X10_deaf_70B
    have hj2 := hj
    unfold nx at hj2
    rw [i32_2, i32_add]
    refine wp_gd (i32_in (by omega) (by omega) (by omega)) ?_
    rw [i32_cl (by omega) (by omega), (hR.sM hs).2.2.2.1 _ (by omega), show (5 * (f : Int) + 2).toNat = 5 * f + 2 from by omega]
    refine wp_gd ((i32_lt (by omega) (by omega) (by omega) (by omega)).mpr (by omega)) ?_
    rw [i32_1, i32_add]
    have := hk M hs
    rw [show nx V f = j from by omega] at this
    exact this
  | succ d ih =>
    intro j n M hj hn hs
    obtain ⟨n, rfl⟩ : ∃ k, n = k + 1 := ⟨n - 1, by omega⟩
    show wp (f_X10_deaf_70B N _ _ _ _ _ _ _ M) Q
    unfold f_X10_deaf_70B
    have hj2 := hj
    unfold nx at hj2
    rw [i32_2, i32_add]
    refine wp_gd (i32_in (by omega) (by omega) (by omega)) ?_
    rw [i32_cl (by omega) (by omega), (hR.sM hs).2.2.2.1 _ (by omega), show (5 * (f : Int) + 2).toNat = 5 * f + 2 from by omega]
    refine wp_ng (fun q => absurd ((i32_lt (by omega) (by omega) (by omega) (by omega)).mp q) (by omega)) ?_
    rw [i32_10, i32_mul, i32_add]
    refine wp_cv (m_shoutE hN hV (hR.sM hs) (hE.sM hs) (fog := 0) (by omega) (x := V 1 (5 * f) + j) (by omega) hy) (fun M1 h1 => ?_)
    have hES := shE_ok hV (x := V 1 (5 * f) + j) (y := y) (fog := 0) (by omega)
    have q := ih (j + 1) n M1 (by omega) (by omega) (hs.trans h1.1.s)
    have k1 : dfX V g y (V 1 (5 * f)) a (j + 1) = dfF V g (V 1 (5 * f) + j) y (dfX V g y (V 1 (5 * f)) a j) := rfl
    rw [k1] at q
    unfold dfF at q
    have hc := m_deaf_c (N := N) h1.2 hES.1 hES.2 hg (dfX_B hV (g := g) (y := y) (x0 := V 1 (5 * f)) ha j) (v3 := i32 (5 * (f : Int))) (v5 := i32 y) (x := V 1 (5 * f) + j) (k49 := k49) (k70 := f_X10_deaf_70 N (i32 g) (i32 (5 * (f : Int))) (i32 y) k49 n) (shE V (V 1 (5 * f) + j) y (V 0 2) 0 8).1 0 N (by omega) (by omega)
    rw [show V 1 (5 * f) + (j : Int) + 1 = V 1 (5 * f) + ((j + 1 : Nat) : Int) from by omega] at hc
    rw [← hc] at q
    exact q
theorem m_deaf_y (hN : 102 ≤ N) (hV : VX V) (hR : RT V M0) (hE : EM V M0) (hg : 0 ≤ g ∧ g ≤ 99) (hff : (f : Int) < V 0 5) :
    ∀ (d j n : Nat) (M : am_M), j + d = ny V f → d < n → sM M0 M → wp (f_X10_deaf_49 N (i32 g) (i32 (5 * (f : Int))) n (i32 (dfY V f g j)) (i32 (V 1 (5 * f + 1) + j)) M) (rI fun v M' => v = i32 (dfV V f g) ∧ sM M0 M') := by
  have hb := hV.fld hff
  intro d
  induction d with
  | zero =>
    intro j n M hj hn hs
    obtain ⟨n, rfl⟩ : ∃ k, n = k + 1 := ⟨n - 1, by omega⟩
    show wp (f_X10_deaf_49B N _ _ _ _ _ M) _
    unfold f_X10_deaf_49B
    have hj2 := hj
    unfold ny at hj2
    rw [i32_3, i32_add]
    refine wp_gd (i32_in (by omega) (by omega) (by omega)) ?_
    rw [i32_cl (by omega) (by omega), (hR.sM hs).2.2.2.1 _ (by omega), show (5 * (f : Int) + 3).toNat = 5 * f + 3 from by omega]
    refine wp_gd ((i32_lt (by omega) (by omega) (by omega) (by omega)).mpr (by omega)) (wp_i ⟨?_, hs⟩)
    unfold dfV
    rw [show ny V f = j from by omega]
  | succ d ih =>
    intro j n M hj hn hs
    obtain ⟨n, rfl⟩ : ∃ k, n = k + 1 := ⟨n - 1, by omega⟩
    show wp (f_X10_deaf_49B N _ _ _ _ _ M) _
    unfold f_X10_deaf_49B
    have hj2 := hj
    unfold ny at hj2
    rw [i32_3, i32_add]
    refine wp_gd (i32_in (by omega) (by omega) (by omega)) ?_
    rw [i32_cl (by omega) (by omega), (hR.sM hs).2.2.2.1 _ (by omega), show (5 * (f : Int) + 3).toNat = 5 * f + 3 from by omega]
    refine wp_ng (fun q => absurd ((i32_lt (by omega) (by omega) (by omega) (by omega)).mp q) (by omega)) (wp_gd (i32_in (by omega) (by omega) (by omega)) ?_)
    rw [i32_cl (by omega) (by omega), (hR.sM hs).2.2.2.1 _ (by omega), show (5 * (f : Int)).toNat = 5 * f from by omega]
    have := m_deaf_x hN hV hR hE hg hff (y := V 1 (5 * f + 1) + j) (by omega) (dfY_B hV (f := f) (g := g) j) (k49 := f_X10_deaf_49 N (i32 g) (i32 (5 * (f : Int))) n) (Q := rI fun v M' => v = i32 (dfV V f g) ∧ sM M0 M') (fun M1 h1 => by
      rw [show V 1 (5 * f + 1) + (j : Int) + 1 = V 1 (5 * f + 1) + ((j + 1 : Nat) : Int) from by omega]
      exact ih (j + 1) n M1 (by omega) (by omega) h1) (nx V f) 0 N M (by omega) (by unfold nx; omega) hs
    rw [show V 1 (5 * f) + ((0 : Nat) : Int) = V 1 (5 * f) from by omega] at this
    exact this
end DF
