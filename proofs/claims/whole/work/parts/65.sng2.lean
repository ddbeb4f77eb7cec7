/-! the loudest moment of a song; the best song -/
def pkF (A : Nat → Int) (notes : Int32) (t : Nat) (p : Int × Int) : Int × Int := if p.1 < song A notes t (sgk t) then (song A notes t (sgk t), (t : Int)) else p
def pk (A : Nat → Int) (notes : Int32) (k : Nat) : Int × Int := it (pkF A notes) (0, 0) k
/-- what a row of strengths may be -/
def alB (A : Nat → Int) (L : Int) : Prop := (∀ t, t < 100 → 0 ≤ A t ∧ A t ≤ 2376) ∧ (∀ t : Nat, L < t → A t = 0) ∧ 0 ≤ L ∧ L ≤ 99
theorem alB_sg {A : Nat → Int} {L : Int} (h : alB A L) {notes : Int32} {t : Nat} (ht : t < 100) : 0 ≤ song A notes t (sgk t) ∧ song A notes t (sgk t) ≤ 28512 := by
  have q := song_B (notes := notes) ht (m := 2376) h.1 (sgk t) (Nat.le_refl _)
  have : sgk t ≤ 12 := by unfold sgk; split <;> omega
  omega
theorem pk_B {A : Nat → Int} {L : Int} (h : alB A L) {notes : Int32} : ∀ k, k ≤ 100 → (0 ≤ (pk A notes k).1 ∧ (pk A notes k).1 ≤ 28512) ∧ (0 ≤ (pk A notes k).2 ∧ (pk A notes k).2 ≤ 100) := by
  refine it_indB (P := fun _ (p : Int × Int) => (0 ≤ p.1 ∧ p.1 ≤ 28512) ∧ (0 ≤ p.2 ∧ p.2 ≤ 100)) (by simp) (fun j p hj hp => ?_)
  have := alB_sg h (notes := notes) hj
  unfold pkF
  split
  · simp only; omega
  · exact hp
theorem pk_end {A : Nat → Int} {L : Int} (h : alB A L) {notes : Int32} {m : Nat} (hm : L + 12 ≤ m) : ∀ d, m + d ≤ 100 → pk A notes (m + d) = pk A notes m := by
  intro d
  induction d with
  | zero => intro _; rfl
  | succ d ih =>
    intro hd
    rw [← ih (by omega)]
    show pkF A notes (m + d) (pk A notes (m + d)) = _
    unfold pkF
    have hb := pk_B h (notes := notes) (m + d) (by omega)
    rw [song_0 (fun s hs => h.2.1 s (by omega)) (sgk (m + d)) (by unfold sgk; split <;> omega) (by unfold sgk; split <;> omega), if_neg (by omega)]
theorem al_alB {e : ES} (h : ESB e) (h24 : e.1 ≤ 24) : alB (al e e.1) (ltm e e.1) := by
  have hL : (∀ j, j < e.1 → eT e j ≤ ltm e e.1) ∧ 0 ≤ ltm e e.1 ∧ ltm e e.1 ≤ 99 := by
    cases hn : e.1 with
    | zero => exact ⟨fun j hj => absurd hj (Nat.not_lt_zero j), by show (0 : Int) ≤ 0; omega, by show (0 : Int) ≤ 99; omega⟩
    | succ k =>
      have := h.1 k (by omega)
      exact ⟨fun j hj => h.2 j k (by omega) (by omega), by show 0 ≤ eT e k; omega, by show eT e k ≤ 99; omega⟩
  refine ⟨fun t ht => ?_, fun t ht => ?_, hL.2.1, hL.2.2⟩
  · have := al_B h t e.1 (Nat.le_refl _)
    omega
  · refine al_0 e.1 (fun j hj => ?_)
    have h1 := hL.1 j hj
    have h2 := (h.1 j hj).1
    omega
section PK
variable {N : Nat} {A : Nat → Int} {L : Int} {notes : Int32}
theorem c_peak_lp (hN : 102 ≤ N) (hA : alB A L) {m : Nat} (hm : m ≤ 100) {M0 : am_M} : ∀ (d j n : Nat) (M : am_M), j + d = m → d < n → (∀ t, t < 100 → M 64 t = i32 (A t)) → (∀ a b, a ≠ 63 ∨ 1 < b → M a b = M0 a b) → M 63 0 = i32 (pk A notes j).1 → M 63 1 = i32 (pk A notes j).2 → wp (f_X7_findPeak_27 N notes (i32 ((m : Int) - 1)) n (i32 (j : Int)) M) (rV fun M' => (∀ a b, a ≠ 63 ∨ 1 < b → M' a b = M0 a b) ∧ M' 63 0 = i32 (pk A notes m).1 ∧ M' 63 1 = i32 (pk A notes m).2) := by
  intro d
  induction d with
  | zero =>
    intro j n M hj hn hM hF h0 h1
    obtain ⟨n, rfl⟩ : ∃ k, n = k + 1 := ⟨n - 1, by omega⟩
    show wp (f_X7_findPeak_27B N _ _ _ _ M) _
    unfold f_X7_findPeak_27B
    rw [show j = m from by omega] at h0 h1
    exact wp_gd ((i32_lt (by omega) (by omega) (by omega) (by omega)).mpr (by omega)) (wp_v ⟨hF, h0, h1⟩)
  | succ d ih =>
    intro j n M hj hn hM hF h0 h1
    obtain ⟨n, rfl⟩ : ∃ k, n = k + 1 := ⟨n - 1, by omega⟩
    show wp (f_X7_findPeak_27B N _ _ _ _ M) _
    unfold f_X7_findPeak_27B
    have hb := pk_B hA (notes := notes) j (by omega)
    have hs := alB_sg hA (notes := notes) (t := j) (by omega)
    have k1 : pk A notes (j + 1) = pkF A notes j (pk A notes j) := rfl
    unfold pkF at k1
    refine wp_ng (fun q => absurd ((i32_lt (by omega) (by omega) (by omega) (by omega)).mp q) (by omega)) ?_
    rw [c_song hN (by omega) hM]
    simp only [am_bi_i]
    rw [h0, i32_s]
    by_cases h : (pk A notes j).1 < song A notes j (sgk j)
    · rw [if_pos h] at k1
      refine wp_ng (fun q => absurd ((i32_le (by omega) (by omega) (by omega) (by omega)).mp q) (by omega)) ?_
      refine ih (j + 1) n _ (by omega) (by omega) (fun t ht => ?_) (fun a b hab => ?_) ?_ ?_
      · rw [up_ne (by omega), up_ne (by omega)]; exact hM t ht
      · rw [up_ne (by omega), up_ne (by omega)]; exact hF a b hab
      · rw [up_ne (by omega), up_eq, k1]
      · rw [up_eq, k1]
    · rw [if_neg h] at k1
      refine wp_gd ((i32_le (by omega) (by omega) (by omega) (by omega)).mpr (by omega)) ?_
      exact ih (j + 1) n _ (by omega) (by omega) hM hF (by rw [k1]; exact h0) (by rw [k1]; exact h1)
theorem c_findPeak (hN : 102 ≤ N) (hA : alB A L) {M0 : am_M} (hM : ∀ t, t < 100 → M0 64 t = i32 (A t)) (hL : M0 63 3 = i32 L) : wp (f_X7_findPeak N notes M0) (rV fun M' => (∀ a b, a ≠ 63 ∨ 1 < b → M' a b = M0 a b) ∧ M' 63 0 = i32 (pk A notes 100).1 ∧ M' 63 1 = i32 (pk A notes 100).2) := by
  unfold f_X7_findPeak
  have hl := hA.2.2
  rw [hL, i32_12, i32_1, i32_add, i32_sub]
  have fin : ∀ m : Nat, L + 12 ≤ m ∨ m = 100 → m ≤ 100 → wp (f_X7_findPeak_27 N notes (i32 ((m : Int) - 1)) N 0 (am_up (am_up M0 63 0 0) 63 1 0)) (rV fun M' => (∀ a b, a ≠ 63 ∨ 1 < b → M' a b = M0 a b) ∧ M' 63 0 = i32 (pk A notes 100).1 ∧ M' 63 1 = i32 (pk A notes 100).2) := by
    intro m hm1 hm
    have e : pk A notes 100 = pk A notes m := by
      rcases hm1 with h | h
      · have := pk_end hA (notes := notes) h (100 - m) (by omega)
        rw [show m + (100 - m) = 100 from by omega] at this
        exact this
      · rw [h]
    rw [e]
    refine c_peak_lp hN hA hm m 0 N _ (by omega) (by omega) (fun t ht => ?_) (fun a b hab => ?_) ?_ ?_
    · rw [up_ne (by omega), up_ne (by omega)]; exact hM t ht
    · rw [up_ne (by omega), up_ne (by omega)]
    · rw [up_ne (by omega), up_eq]; rfl
    · rw [up_eq]; rfl
  by_cases h : L + 12 - 1 < 99
  · rw [if_pos ((i32_lt99 (by omega) (by omega)).mpr h)]
    have := fin (L + 12).toNat (by omega) (by omega)
    rw [show (((L + 12).toNat : Nat) : Int) - 1 = L + 12 - 1 from by omega] at this
    exact this
  · rw [if_neg (fun q => h ((i32_lt99 (by omega) (by omega)).mp q))]
    exact fin 100 (Or.inr rfl) (by omega)
theorem m_peak_lp (hN : 102 ≤ N) (hA : alB A L) {M0 : am_M} : ∀ (d j n : Nat) (M : am_M), j + d = 100 → d < n → (∀ t, t < 100 → M 24 t = i32 (A t)) → (∀ a b, a ≠ 0 ∨ (b ≠ 57 ∧ b ≠ 58) → M a b = M0 a b) → M 0 58 = i32 (pk A notes j).1 → M 0 57 = i32 (pk A notes j).2 → wp (f_X10_findLoudest_12 N notes n (i32 (j : Int)) M) (rV fun M' => (∀ a b, a ≠ 0 ∨ (b ≠ 57 ∧ b ≠ 58) → M' a b = M0 a b) ∧ M' 0 58 = i32 (pk A notes 100).1 ∧ M' 0 57 = i32 (pk A notes 100).2) := by
  intro d
  induction d with
  | zero =>
    intro j n M hj hn hM hF h0 h1
    obtain ⟨n, rfl⟩ : ∃ k, n = k + 1 := ⟨n - 1, by omega⟩
    show wp (f_X10_findLoudest_12B N _ _ _ M) _
    unfold f_X10_findLoudest_12B
    rw [show j = 100 from by omega] at h0 h1
    exact wp_gd ((i32_100le (by omega) (by omega)).mpr (by omega)) (wp_v ⟨hF, h0, h1⟩)
  | succ d ih =>
    intro j n M hj hn hM hF h0 h1
    obtain ⟨n, rfl⟩ : ∃ k, n = k + 1 := ⟨n - 1, by omega⟩
    show wp (f_X10_findLoudest_12B N _ _ _ M) _
    unfold f_X10_findLoudest_12B
    have hb := pk_B hA (notes := notes) j (by omega)
    have hs := alB_sg hA (notes := notes) (t := j) (by omega)
    have k1 : pk A notes (j + 1) = pkF A notes j (pk A notes j) := rfl
    unfold pkF at k1
    refine wp_ng (fun q => absurd ((i32_100le (by omega) (by omega)).mp q) (by omega)) ?_
    rw [m_song hN (by omega) hM]
    simp only [am_bi_i]
    rw [h0, i32_s]
    by_cases h : (pk A notes j).1 < song A notes j (sgk j)
    · rw [if_pos h] at k1
      refine wp_gd ((i32_lt (by omega) (by omega) (by omega) (by omega)).mpr h) ?_
      refine ih (j + 1) n _ (by omega) (by omega) (fun t ht => ?_) (fun a b hab => ?_) ?_ ?_
      · rw [up_ne (by omega), up_ne (by omega)]; exact hM t ht
      · rw [up_ne (by omega), up_ne (by omega)]; exact hF a b hab
      · rw [up_eq, k1]
      · rw [up_ne (by omega), up_eq, k1]
    · rw [if_neg h] at k1
      refine wp_ng (fun q => h ((i32_lt (by omega) (by omega) (by omega) (by omega)).mp q)) ?_
      exact ih (j + 1) n _ (by omega) (by omega) hM hF (by rw [k1]; exact h0) (by rw [k1]; exact h1)
theorem m_findLoudest (hN : 102 ≤ N) (hA : alB A L) {M0 : am_M} (hM : ∀ t, t < 100 → M0 24 t = i32 (A t)) : wp (f_X10_findLoudest N notes M0) (rV fun M' => (∀ a b, a ≠ 0 ∨ (b ≠ 57 ∧ b ≠ 58) → M' a b = M0 a b) ∧ M' 0 58 = i32 (pk A notes 100).1 ∧ M' 0 57 = i32 (pk A notes 100).2) := by
  unfold f_X10_findLoudest
  refine m_peak_lp hN hA 100 0 N _ (by omega) (by omega) (fun t ht => ?_) (fun a b hab => ?_) ?_ ?_
  · rw [up_ne (by omega), up_ne (by omega)]; exact hM t ht
  · rw [up_ne (by omega), up_ne (by omega)]
  · rw [up_eq]; rfl
  · rw [up_ne (by omega), up_eq]; rfl
/-! the best song of k notes -/
def cpF (A : Nat → Int) (k : Int) (n : Nat) (s : Int × Int) : Int × Int := if bcI (i32 (n : Int)) = i32 k ∧ s.2 < (pk A (i32 (n : Int)) 100).1 then ((n : Int), (pk A (i32 (n : Int)) 100).1) else s
def cp (A : Nat → Int) (k : Int) (m : Nat) : Int × Int := it (cpF A k) (-1, -1) m
theorem cp_B (hA : alB A L) (k : Int) : ∀ m, m ≤ 4096 → ((cp A k m).1 = -1 ∧ (cp A k m).2 = -1) ∨ ((0 ≤ (cp A k m).1 ∧ (cp A k m).1 < 4096) ∧ (0 ≤ (cp A k m).2 ∧ (cp A k m).2 ≤ 28512)) := by
  refine it_indB (P := fun _ (s : Int × Int) => (s.1 = -1 ∧ s.2 = -1) ∨ ((0 ≤ s.1 ∧ s.1 < 4096) ∧ (0 ≤ s.2 ∧ s.2 ≤ 28512))) (by simp) (fun j s hj hs => ?_)
  have := pk_B hA (notes := i32 (j : Int)) 100 (by omega)
  unfold cpF
  split
  · right; simp only; omega
  · exact hs
theorem c_best_lp (hN : 4200 ≤ N) (hA : alB A L) {k : Int} {M0 : am_M} : ∀ (d j n : Nat) (M : am_M), j + d = 4096 → d < n → (∀ t, t < 100 → M 64 t = i32 (A t)) → M 63 3 = i32 L → (∀ a b, a ≠ 63 ∨ 1 < b → M a b = M0 a b) → wp (f_X7_bestSong_7 N (i32 k) n (i32 (cp A k j).1) (i32 (cp A k j).2) (i32 (j : Int)) M) (rI fun v M' => v = i32 (cp A k 4096).1 ∧ (∀ a b, a ≠ 63 ∨ 1 < b → M' a b = M0 a b)) := by
  intro d
  induction d with
  | zero =>
    intro j n M hj hn hM hL hF
    obtain ⟨n, rfl⟩ : ∃ k, n = k + 1 := ⟨n - 1, by omega⟩
    show wp (f_X7_bestSong_7B N _ _ _ _ _ M) _
    unfold f_X7_bestSong_7B
    rw [show (4096 : Int32) = i32 4096 from rfl, show j = 4096 from by omega]
    exact wp_gd ((i32_le (by omega) (by omega) (by omega) (by omega)).mpr (by omega)) (wp_i ⟨rfl, hF⟩)
  | succ d ih =>
    intro j n M hj hn hM hL hF
    obtain ⟨n, rfl⟩ : ∃ k, n = k + 1 := ⟨n - 1, by omega⟩
    show wp (f_X7_bestSong_7B N _ _ _ _ _ M) _
    unfold f_X7_bestSong_7B
    rw [show (4096 : Int32) = i32 4096 from rfl]
    refine wp_ng (fun q => absurd ((i32_le (by omega) (by omega) (by omega) (by omega)).mp q) (by omega)) ?_
    rw [c_bitCount]
    simp only [am_bi_i]
    rw [i32_s]
    have k1 : cp A k (j + 1) = cpF A k j (cp A k j) := rfl
    unfold cpF at k1
    by_cases h : bcI (i32 (j : Int)) = i32 k
    · refine wp_gd h (wp_cv (c_findPeak (by omega) hA (notes := i32 (j : Int)) hM hL) (fun M1 h1 => ?_))
      have hb := cp_B hA k j (by omega)
      have hp := pk_B hA (notes := i32 (j : Int)) 100 (by omega)
      rw [h1.2.1]
      have q := ih (j + 1) n M1 (by omega) (by omega) (fun t ht => by rw [h1.1 64 t (by omega)]; exact hM t ht) (by rw [h1.1 63 3 (by omega)]; exact hL) (fun a b hab => by rw [h1.1 a b hab]; exact hF a b hab)
      by_cases h2 : (cp A k j).2 < (pk A (i32 (j : Int)) 100).1
      · rw [k1, if_pos ⟨h, h2⟩] at q
        exact wp_ng (fun z => absurd ((i32_le (by omega) (by omega) (by omega) (by omega)).mp z) (by omega)) q
      · rw [k1, if_neg (fun z => h2 z.2)] at q
        exact wp_gd ((i32_le (by omega) (by omega) (by omega) (by omega)).mpr (by omega)) q
    · have q := ih (j + 1) n M (by omega) (by omega) hM hL hF
      rw [k1, if_neg (fun z => h z.1)] at q
      exact wp_ng h q
theorem m_best_lp (hN : 4200 ≤ N) (hA : alB A L) {k : Int} {M0 : am_M} : ∀ (d j n : Nat) (M : am_M), j + d = 4096 → d < n → (∀ t, t < 100 → M 24 t = i32 (A t)) → (∀ a b, a ≠ 0 ∨ (b ≠ 57 ∧ b ≠ 58) → M a b = M0 a b) → wp (f_X10_compose_52 N (i32 k) n (i32 (cp A k j).1) (i32 (if (cp A k j).1 = -1 then 0 else (cp A k j).2)) (i32 (j : Int)) M) (rI fun v M' => v = i32 (cp A k 4096).1 ∧ (∀ a b, a ≠ 0 ∨ (b ≠ 57 ∧ b ≠ 58) → M' a b = M0 a b)) := by
  intro d
  induction d with
  | zero =>
    intro j n M hj hn hM hF
    obtain ⟨n, rfl⟩ : ∃ k, n = k + 1 := ⟨n - 1, by omega⟩
    show wp (f_X10_compose_52B N _ _ _ _ _ M) _
    unfold f_X10_compose_52B
    rw [show (4096 : Int32) = i32 4096 from rfl, show j = 4096 from by omega]
    exact wp_gd ((i32_le (by omega) (by omega) (by omega) (by omega)).mpr (by omega)) (wp_i ⟨rfl, hF⟩)
  | succ d ih =>
    intro j n M hj hn hM hF
    obtain ⟨n, rfl⟩ : ∃ k, n = k + 1 := ⟨n - 1, by omega⟩
    show wp (f_X10_compose_52B N _ _ _ _ _ M) _
    unfold f_X10_compose_52B
    rw [show (4096 : Int32) = i32 4096 from rfl]
    refine wp_ng (fun q => absurd ((i32_le (by omega) (by omega) (by omega) (by omega)).mp q) (by omega)) ?_
    rw [m_ones (by omega) (by omega)]
    simp only [am_bi_i]
    rw [i32_s]
    have k1 : cp A k (j + 1) = cpF A k j (cp A k j) := rfl
    unfold cpF at k1
    by_cases h : bcI (i32 (j : Int)) = i32 k
    · refine wp_gd h (wp_cv (m_findLoudest (by omega) hA (notes := i32 (j : Int)) hM) (fun M1 h1 => ?_))
      have hb := cp_B hA k j (by omega)
      have hp := pk_B hA (notes := i32 (j : Int)) 100 (by omega)
      unfold f_X10_compose_96
      rw [h1.2.1, i32_s]
      have q := ih (j + 1) n M1 (by omega) (by omega) (fun t ht => by rw [h1.1 24 t (by omega)]; exact hM t ht) (fun a b hab => by rw [h1.1 a b hab]; exact hF a b hab)
      by_cases h2 : (cp A k j).2 < (pk A (i32 (j : Int)) 100).1
      · rw [k1, if_pos ⟨h, h2⟩] at q
        have q2 : wp (f_X10_compose_52 N (i32 k) n (i32 (j : Int)) (i32 (pk A (i32 (j : Int)) 100).1) (i32 ((j + 1 : Nat) : Int)) M1) (rI fun v M' => v = i32 (cp A k 4096).1 ∧ (∀ a b, a ≠ 0 ∨ (b ≠ 57 ∧ b ≠ 58) → M' a b = M0 a b)) := by
          have e : (if (j : Int) = -1 then (0 : Int) else (pk A (i32 (j : Int)) 100).1) = (pk A (i32 (j : Int)) 100).1 := if_neg (by omega)
          have q' := q
          simp only at q'
          rw [e] at q'
          exact q'
        refine wp_if (fun _ => q2) (fun z => ?_)
        have z1 : (cp A k j).1 ≠ -1 := fun y => z (by rw [y]; rfl)
        rw [if_neg z1]
        exact wp_gd ((i32_lt (by omega) (by omega) (by omega) (by omega)).mpr h2) q2
      · have z1 : (cp A k j).1 ≠ -1 := by omega
        rw [k1, if_neg (fun z => h2 z.2)] at q
        rw [if_neg z1] at q ⊢
        exact wp_ng (fun z => z1 ((i32_eq (b := -1) (by omega) (by omega) (by omega) (by omega)).mp z)) (wp_ng (fun z => h2 ((i32_lt (by omega) (by omega) (by omega) (by omega)).mp z)) q)
    · have q := ih (j + 1) n M (by omega) (by omega) hM hF
      rw [k1, if_neg (fun z => h z.1)] at q
      exact wp_ng h q
end PK
