/-! peaks in the class's memory, snow in the reference's -/
def pkM (P : Nat → Int) (M : am_M) : Prop := M 51 6 ≠ 0 ∧ ∀ c, c < 100 → M 56 c = i32 (P c)
theorem pkM_ev {P : Nat → Int} {M : am_M} (h : pkM P M) (hP : ∀ c, 0 ≤ P c ∧ P c ≤ 99) {s : Int} (hs : s ≤ 100) {way : Int} {e : Int × Int × Int × Int} (he : evB s 0 1 e) : pkM (pkS P e) (evC way M e) := by
  unfold evB at he
  have h1 : pkM (pkS P e) (pkC M e.1 e.2.1) := by
    refine ⟨by rw [pkC_off (by omega)]; exact h.1, fun c hc => ?_⟩
    have hp := hP e.1.toNat
    unfold pkC pkS
    rw [if_neg h.1, h.2 e.1.toNat (by omega)]
    by_cases h2 : e.2.1 ≤ P e.1.toNat
    · rw [if_pos ((i32_le (by omega) (by omega) (by omega) (by omega)).mpr h2), h.2 c hc]
      by_cases h3 : c = e.1.toNat
      · rw [if_neg (by rw [h3]; omega)]
      · rw [if_neg (fun z => h3 z.1)]
    · rw [if_neg (fun z => h2 ((i32_le (by omega) (by omega) (by omega) (by omega)).mp z))]
      by_cases h3 : c = e.1.toNat
      · rw [h3, up_eq, if_pos ⟨rfl, by omega⟩]
      · rw [up_ne (by omega), if_neg (fun z => h3 z.1), h.2 c hc]
  unfold evC
  split
  · exact h1
  · exact ⟨by rw [c_ins_off (by omega) (by omega)]; exact h1.1, fun c hc => by rw [c_ins_off (by omega) (by omega)]; exact h1.2 c hc⟩
theorem pkS_B {P : Nat → Int} (hP : ∀ c, 0 ≤ P c ∧ P c ≤ 99) {s : Int} (hs : s ≤ 100) {e : Int × Int × Int × Int} (he : evB s 0 1 e) : ∀ c, 0 ≤ pkS P e c ∧ pkS P e c ≤ 99 := by
  intro c
  have := hP c
  unfold evB at he
  unfold pkS
  split <;> omega
theorem pkM_fold {s : Int} (hs : s ≤ 100) {way : Int} : ∀ (l : List (Int × Int × Int × Int)) (P : Nat → Int) (M : am_M), (∀ e, e ∈ l → evB s 0 1 e) → (∀ c, 0 ≤ P c ∧ P c ≤ 99) → pkM P M → pkM (l.foldl pkS P) (l.foldl (evC way) M) := by
  intro l
  induction l with
  | nil => intro P M _ _ h; exact h
  | cons v l ih =>
    intro P M hl hP h
    rw [List.foldl_cons, List.foldl_cons]
    have hv := hl v List.mem_cons_self
    exact ih _ _ (fun e he => hl e (List.mem_cons_of_mem _ he)) (pkS_B hP hs hv) (pkM_ev h hP hs hv)
theorem shC_pk {V : VL} (hB : VB V) {x y s : Int} (hs : 0 ≤ s ∧ s ≤ 99) {M : am_M} (h : pkM (pk0 x y s) M) : ∀ k, pkM (pkA V x y s k) (shC V x y s 0 M k) := by
  intro k
  induction k with
  | zero => exact ⟨by show am_up M 51 0 0 51 6 ≠ 0; rw [up_ne (by omega)]; exact h.1, fun c hc => by show am_up M 51 0 0 56 c = _; rw [up_ne (by omega)]; exact h.2 c hc⟩
  | succ k ih => exact pkM_fold (s := s) (by omega) _ _ _ (evs_B hB (fog := 0) (by omega) k).1 (fun c => pkA_B hB hs c k) ih
section SN
variable {N : Nat} {V : VL} {M0 : am_M} {x y s : Int}
theorem c_sfp_lp (hN : 102 ≤ N) (hV : VX V) (hR : RC V M0) (h6 : M0 51 6 = 0) (hx : 0 ≤ x ∧ x < V 0 0) (hy : 0 ≤ y ∧ y < V 0 1) (hs : 1 ≤ s ∧ s ≤ 99) : ∀ (d j n : Nat) (M : am_M), j + d = 100 → d < n → sC M0 M → (∀ c, c < j → M 56 c = 0) → wp (f_X6_shoutForPeaks_3 N (i32 x) (i32 y) (i32 s) n (i32 (j : Int)) M) (rV fun M' => sC M0 M' ∧ ∀ c, c < 100 → M' 56 c = i32 (pkA V x y s 8 c)) := by
  have hw := hV.1.1
  have hh := hV.1.2.1
  intro d
  induction d with
  | zero =>
    intro j n M hj hn hsc hz
    obtain ⟨n, rfl⟩ : ∃ k, n = k + 1 := ⟨n - 1, by omega⟩
    show wp (f_X6_shoutForPeaks_3B N _ _ _ _ _ M) _
    unfold f_X6_shoutForPeaks_3B f_X9_cellOf
    refine wp_gd ((i32_100le (by omega) (by omega)).mpr (by omega)) ?_
    simp only [am_bi_i]
    rw [i32_10, i32_mul, i32_add]
    refine wp_gd (i32_in (by omega) (by omega) (by omega)) ?_
    rw [i32_cl (by omega) (by omega)]
    have hM1 : EC V (am_up (am_up M 56 (y * 10 + x).toNat (i32 s)) 51 6 1) := by
      have := (hR.sC hsc).1
      unfold EC EnvC at *
      rw [up_ne (by omega), up_ne (by omega), up_ne (by omega), up_ne (by omega), up_ne (by omega), up_ne (by omega)]
      refine ⟨this.1, this.2.1, this.2.2.1, fun c hc => ?_⟩
      rw [up_ne (by omega), up_ne (by omega), up_ne (by omega), up_ne (by omega)]
      exact this.2.2.2 c hc
    have hpk : pkM (pk0 x y s) (am_up (am_up M 56 (y * 10 + x).toNat (i32 s)) 51 6 1) := by
      refine ⟨by rw [up_eq]; decide, fun c hc => ?_⟩
      rw [up_ne (by omega)]
      unfold pk0
      by_cases h : c = (10 * y + x).toNat
      · rw [if_pos h, h, show (10 * y + x).toNat = (y * 10 + x).toNat from by omega, up_eq]
      · rw [if_neg h, up_ne (by omega)]; exact hz c (by omega)
    rw [show f_X6_shout N (i32 x) (i32 y) (i32 s) 0 _ = _ from c_shout (fog := 0) (by omega) hV.1 hM1 (by omega) hx hy hs]
    simp only [am_bv_v]
    have hq := shC_pk hV.1 (V := V) (by omega) hpk 8
    refine wp_v ⟨fun a b hab => ?_, fun c hc => ?_⟩
    · by_cases h : a = 51 ∧ b = 6
      · rw [h.1, h.2, up_eq, h6]
      · rw [up_ne (by omega), shC_off (by omega), up_ne (by omega), up_ne (by omega)]
        exact hsc a b hab
    · rw [up_ne (by omega)]; exact hq.2 c hc
  | succ d ih =>
    intro j n M hj hn hsc hz
    obtain ⟨n, rfl⟩ : ∃ k, n = k + 1 := ⟨n - 1, by omega⟩
    show wp (f_X6_shoutForPeaks_3B N _ _ _ _ _ M) _
    unfold f_X6_shoutForPeaks_3B
    refine wp_ng (fun q => absurd ((i32_100le (by omega) (by omega)).mp q) (by omega)) (wp_gd (i32_in (by omega) (by omega) (by omega)) ?_)
    rw [i32_s, i32_k (by omega)]
    refine ih (j + 1) n _ (by omega) (by omega) (hsc.up (by omega) (by omega)) (fun t ht => ?_)
    by_cases h : t = j
    · rw [h, up_eq]
    · rw [up_ne (by omega)]; exact hz t (by omega)
theorem c_sfp (hN : 102 ≤ N) (hV : VX V) (hR : RC V M0) (h6 : M0 51 6 = 0) (hx : 0 ≤ x ∧ x < V 0 0) (hy : 0 ≤ y ∧ y < V 0 1) (hs : 1 ≤ s ∧ s ≤ 99) : wp (f_X6_shoutForPeaks N (i32 x) (i32 y) (i32 s) M0) (rV fun M' => sC M0 M' ∧ ∀ c, c < 100 → M' 56 c = i32 (pkA V x y s 8 c)) :=
  c_sfp_lp hN hV hR h6 hx hy hs 100 0 N M0 (by omega) (by omega) sC.rfl (fun c hc => absurd hc (Nat.not_lt_zero c))
theorem VX.sno (hV : VX V) {i : Nat} (hi : (i : Int) < V 0 8) : (0 ≤ V 4 (3 * i) ∧ V 4 (3 * i) < V 0 0) ∧ (0 ≤ V 4 (3 * i + 1) ∧ V 4 (3 * i + 1) < V 0 1) ∧ (1 ≤ V 4 (3 * i + 2) ∧ V 4 (3 * i + 2) ≤ 99) := hV.2.2.2.2.2.2.1 i hi
theorem VX.sce (hV : VX V) {i : Nat} (hi : (i : Int) < V 0 8) : 0 ≤ sCell V i ∧ sCell V i < 100 := by
  have := hV.sno hi
  have hw := hV.1.1
  have hh := hV.1.2.1
  unfold sCell
  omega
theorem c_snows_lp (hV : VX V) {M : am_M} (hR : RC V M) {P : Nat → Int} (hP : ∀ c, 0 ≤ P c ∧ P c ≤ 99) (hM : ∀ c, c < 100 → M 56 c = i32 (P c)) : ∀ (d j n : Nat), j + d = (V 0 8).toNat → d < n → f_X6_snowsFalling_18 N n (orB (fun k => decide (V 4 (3 * k + 2) ≤ P (sCell V k).toNat)) 0 j) (i32 (j : Int)) M = some (.ok (some (.int (fallV V P))), M) := by
  have hns := hV.ns
  intro d
  induction d with
  | zero =>
    intro j n hj hn
    obtain ⟨n, rfl⟩ : ∃ k, n = k + 1 := ⟨n - 1, by omega⟩
    show f_X6_snowsFalling_18B N _ _ _ M = _
    unfold f_X6_snowsFalling_18B fallV
    rw [hR.2.2.2.2.2.1.2.2.1, if_pos ((i32_le (by omega) (by omega) (by omega) (by omega)).mpr (by omega)), show (V 0 8).toNat = j from by omega]
  | succ d ih =>
    intro j n hj hn
    obtain ⟨n, rfl⟩ : ∃ k, n = k + 1 := ⟨n - 1, by omega⟩
    show f_X6_snowsFalling_18B N _ _ _ M = _
    unfold f_X6_snowsFalling_18B
    have hb := hV.sno (i := j) (by omega)
    have hc := hV.sce (i := j) (by omega)
    have hp := hP (sCell V j).toNat
    rw [hR.2.2.2.2.2.1.2.2.1, if_neg (fun q => absurd ((i32_le (by omega) (by omega) (by omega) (by omega)).mp q) (by omega)), c_cellAt9 hR.2.2.2.2.2.1 (by omega) (by omega)]
    simp only [am_bi_i]
    rw [show 10 * V 4 (3 * j + 1) + V 4 (3 * j) = sCell V j from rfl, if_pos (i32_in (by omega) (by omega) (by omega)), i32_cl (by omega) (by omega), hM _ (by omega), show (2 : Int32) = i32 ((2 : Nat) : Int) from rfl, c_at9 hR.2.2.2.2.2.1 (by omega) (by omega) (by omega)]
    simp only [am_bi_i]
    rw [i32_s]
    have q := ih (j + 1) n (by omega) (by omega)
    have k1 : orB (fun k => decide (V 4 (3 * k + 2) ≤ P (sCell V k).toNat)) 0 (j + 1) = if decide (V 4 (3 * j + 2) ≤ P (sCell V j).toNat) then orB (fun k => decide (V 4 (3 * k + 2) ≤ P (sCell V k).toNat)) 0 j ||| bit j else orB (fun k => decide (V 4 (3 * k + 2) ≤ P (sCell V k).toNat)) 0 j := rfl
    rw [k1] at q
    by_cases h : V 4 (3 * j + 2) ≤ P (sCell V j).toNat
    · rw [if_pos (decide_eq_true h)] at q
      rw [if_neg (fun z => absurd ((i32_lt (by omega) (by omega) (by omega) (by omega)).mp z) (by omega))]
      exact q
    · rw [if_neg (by rw [decide_eq_false h]; decide)] at q
      rw [if_pos ((i32_lt (by omega) (by omega) (by omega) (by omega)).mpr (by omega))]
      exact q
theorem c_snows (hN : 102 ≤ N) (hV : VX V) (hR : RC V M0) (h6 : M0 51 6 = 0) (hx : 0 ≤ x ∧ x < V 0 0) (hy : 0 ≤ y ∧ y < V 0 1) : wp (f_X6_snowsFalling N (i32 x) (i32 y) M0) (rI fun v M' => v = fallV V (pkA V x y (V 0 2) 8) ∧ sC M0 M') := by
  unfold f_X6_snowsFalling
  have hns := hV.ns
  rw [hR.2.1.1]
  refine wp_cv (c_sfp hN hV hR h6 hx hy hV.2.1.1) (fun M1 h1 => ?_)
  exact wp_eqi (c_snows_lp hV (hR.sC h1.1) (fun c => pkA_B hV.1 (by have := hV.2.1.1; omega) c 8) h1.2 (V 0 8).toNat 0 N (by omega) (by omega)) ⟨rfl, h1.1⟩
/-- the greatest hush -/
def huF (V : VL) (P : Nat → Int) (k : Nat) (h : Int) : Int := if 99 - P (sCell V k).toNat + V 4 (3 * k + 2) - 1 < h then 99 - P (sCell V k).toNat + V 4 (3 * k + 2) - 1 else h
def huV (V : VL) (P : Nat → Int) (n : Nat) : Int := it (huF V P) 99 n
theorem huV_le {P : Nat → Int} {s : Int} (hs : s ≤ 99) : ∀ n, s ≤ huV V P n ↔ ∀ k, k < n → s ≤ 99 - P (sCell V k).toNat + V 4 (3 * k + 2) - 1 := by
  intro n
  induction n with
  | zero => exact ⟨fun _ k hk => absurd hk (Nat.not_lt_zero k), fun _ => hs⟩
  | succ n ih =>
    show s ≤ huF V P n (huV V P n) ↔ _
    have : s ≤ huF V P n (huV V P n) ↔ s ≤ huV V P n ∧ s ≤ 99 - P (sCell V n).toNat + V 4 (3 * n + 2) - 1 := by
      unfold huF
      split <;> omega
    rw [this, ih]
    constructor
    · rintro ⟨h1, h2⟩ k hk
      by_cases q : k = n
      · rw [q]; exact h2
      · exact h1 k (by omega)
    · intro h
      exact ⟨fun k hk => h k (by omega), h n (by omega)⟩
theorem huV_B (hV : VX V) {P : Nat → Int} (hP : ∀ c, 0 ≤ P c ∧ P c ≤ 99) : ∀ n : Nat, (n : Int) ≤ V 0 8 → 0 ≤ huV V P n ∧ huV V P n ≤ 99 := by
  intro n
  induction n with
  | zero => intro _; show (0 : Int) ≤ 99 ∧ (99 : Int) ≤ 99; omega
  | succ n ih =>
    intro hn
    have q := ih (by omega)
    have hp := hP (sCell V n).toNat
    have hb := hV.sno (i := n) (by omega)
    show 0 ≤ huF V P n (huV V P n) ∧ huF V P n (huV V P n) ≤ 99
    unfold huF
    split <;> omega
theorem c_hush_lp (hV : VX V) {M : am_M} (hR : RC V M) {P : Nat → Int} (hP : ∀ c, 0 ≤ P c ∧ P c ≤ 99) (hM : ∀ c, c < 100 → M 56 c = i32 (P c)) : ∀ (d j n : Nat), j + d = (V 0 8).toNat → d < n → f_X6_greatestHush_14 N n (i32 (huV V P j)) (i32 (j : Int)) M = some (.ok (some (.int (i32 (huV V P (V 0 8).toNat)))), M) := by
  have hns := hV.ns
  intro d
  induction d with
  | zero =>
    intro j n hj hn
    obtain ⟨n, rfl⟩ : ∃ k, n = k + 1 := ⟨n - 1, by omega⟩
    show f_X6_greatestHush_14B N _ _ _ M = _
    unfold f_X6_greatestHush_14B
    rw [hR.2.2.2.2.2.1.2.2.1, if_pos ((i32_le (by omega) (by omega) (by omega) (by omega)).mpr (by omega)), show (V 0 8).toNat = j from by omega]
  | succ d ih =>
    intro j n hj hn
    obtain ⟨n, rfl⟩ : ∃ k, n = k + 1 := ⟨n - 1, by omega⟩
    show f_X6_greatestHush_14B N _ _ _ M = _
    unfold f_X6_greatestHush_14B
    have hb := hV.sno (i := j) (by omega)
    have hc := hV.sce (i := j) (by omega)
    have hp := hP (sCell V j).toNat
    have hu := huV_B hV hP j (by omega)
    rw [hR.2.2.2.2.2.1.2.2.1, if_neg (fun q => absurd ((i32_le (by omega) (by omega) (by omega) (by omega)).mp q) (by omega)), c_cellAt9 hR.2.2.2.2.2.1 (by omega) (by omega)]
    simp only [am_bi_i]
    rw [show 10 * V 4 (3 * j + 1) + V 4 (3 * j) = sCell V j from rfl, if_pos (i32_in (by omega) (by omega) (by omega)), i32_cl (by omega) (by omega), hM _ (by omega), show (2 : Int32) = i32 ((2 : Nat) : Int) from rfl, c_at9 hR.2.2.2.2.2.1 (by omega) (by omega) (by omega)]
    simp only [am_bi_i]
    rw [i32_s, i32_99, i32_sub, i32_add, i32_1, i32_sub]
    have q := ih (j + 1) n (by omega) (by omega)
    have k1 : huV V P (j + 1) = huF V P j (huV V P j) := rfl
    rw [k1] at q
    unfold huF at q
    by_cases h : 99 - P (sCell V j).toNat + V 4 (3 * j + 2) - 1 < huV V P j
    · rw [if_pos h] at q
      rw [if_pos ((i32_lt (by omega) (by omega) (by omega) (by omega)).mpr h)]
      exact q
    · rw [if_neg h] at q
      rw [if_neg (fun z => h ((i32_lt (by omega) (by omega) (by omega) (by omega)).mp z))]
      exact q
theorem c_hush (hN : 102 ≤ N) (hV : VX V) (hR : RC V M0) (h6 : M0 51 6 = 0) (hx : 0 ≤ x ∧ x < V 0 0) (hy : 0 ≤ y ∧ y < V 0 1) : wp (f_X6_greatestHush N (i32 x) (i32 y) M0) (rI fun v M' => v = i32 (huV V (pkA V x y 99 8) (V 0 8).toNat) ∧ sC M0 M') := by
  unfold f_X6_greatestHush
  have hns := hV.ns
  refine wp_cv (c_sfp hN hV hR h6 hx hy (s := 99) (by omega)) (fun M1 h1 => ?_)
  exact wp_eqi (c_hush_lp hV (hR.sC h1.1) (fun c => pkA_B hV.1 (by omega) c 8) h1.2 (V 0 8).toNat 0 N (by omega) (by omega)) ⟨rfl, h1.1⟩
/-! the reference's snow -/
def flM (V : VL) (P : Nat → Int) (M : am_M) : Prop := M 0 49 = fallV V P ∧ ∀ k : Nat, (k : Int) < V 0 8 → M 12 (2 * k) = i32 (sCell V k) ∧ M 12 (2 * k + 1) = i32 (V 4 (3 * k + 2))
theorem mFall_b (hV : VX V) {P Q : Nat → Int} {M : am_M} (h : flM V P M) {c s : Int} (hc : 0 ≤ c ∧ c < 100) (hs : -100 ≤ s ∧ s ≤ 200) (hQ : ∀ k : Nat, (k : Int) < V 0 8 → (V 4 (3 * k + 2) ≤ Q (sCell V k).toNat ↔ V 4 (3 * k + 2) ≤ P (sCell V k).toNat ∨ ((sCell V k).toNat = c.toNat ∧ V 4 (3 * k + 2) ≤ s))) : flM V Q (mFall (V 0 8).toNat M c s) := by
  have hns := hV.ns
  refine ⟨?_, fun k hk => by rw [mFall_off (by omega), mFall_off (by omega)]; exact h.2 k hk⟩
  unfold mFall
  rw [up_eq, fbR_orB]
  have e1 : it (fun k b => if M 12 (2 * (0 + k)) = i32 c ∧ ¬ i32 s < M 12 (2 * (0 + k) + 1) then b ||| bit (0 + k) else b) (M 0 49) (V 0 8).toNat = orB (fun k => decide ((sCell V k).toNat = c.toNat ∧ V 4 (3 * k + 2) ≤ s)) (M 0 49) (V 0 8).toNat := by
    refine it_congr (fun k hk b => ?_)
    have hb := hV.sno (i := k) (by omega)
    have hce := hV.sce (i := k) (by omega)
    rw [Nat.zero_add, (h.2 k (by omega)).1, (h.2 k (by omega)).2]
    by_cases q : (sCell V k).toNat = c.toNat ∧ V 4 (3 * k + 2) ≤ s
    · rw [if_pos (decide_eq_true q), if_pos ⟨(i32_eq (by omega) (by omega) (by omega) (by omega)).mpr (by omega), fun z => absurd ((i32_lt (by omega) (by omega) (by omega) (by omega)).mp z) (by omega)⟩]
    · have z : ¬ (i32 (sCell V k) = i32 c ∧ ¬ i32 s < i32 (V 4 (3 * k + 2))) := by
        rintro ⟨z1, z2⟩
        have z1 := (i32_eq (by omega) (by omega) (by omega) (by omega)).mp z1
        exact q ⟨by omega, by
          have : ¬ s < V 4 (3 * k + 2) := fun t => z2 ((i32_lt (by omega) (by omega) (by omega) (by omega)).mpr t)
          omega⟩
      have z3 : ¬ decide ((sCell V k).toNat = c.toNat ∧ V 4 (3 * k + 2) ≤ s) = true := by rw [decide_eq_false q]; decide
      rw [if_neg z, if_neg z3]
  rw [e1, orB_acc, h.1]
  unfold fallV
  refine orB_or _ (fun k hk => ?_)
  have := hQ k (by omega)
  by_cases q : V 4 (3 * k + 2) ≤ Q (sCell V k).toNat
  · rw [decide_eq_true q]
    rcases this.mp q with z | z
    · rw [decide_eq_true z]; rfl
    · rw [decide_eq_true z, Bool.or_true]
  · rw [decide_eq_false q, decide_eq_false (fun z => q (this.mpr (Or.inl z))), decide_eq_false (fun z => q (this.mpr (Or.inr z)))]
    rfl
theorem flM_ev (hV : VX V) {P : Nat → Int} {M : am_M} (h : flM V P M) {way : Int} {e : Int × Int × Int × Int} (hs : s ≤ 100) (he : evB s 0 1 e) : flM V (pkS P e) (evM (V 0 8).toNat way M e) := by
  unfold evB at he
  have h1 : flM V (pkS P e) (mFall (V 0 8).toNat M e.1 e.2.1) := mFall_b hV h he.1 (by omega) (fun k hk => pkS_le)
  unfold evM
  split
  · exact h1
  · exact ⟨by rw [m_ins_off (by omega) (by omega)]; exact h1.1, fun k hk => by rw [m_ins_off (by omega) (by omega), m_ins_off (by omega) (by omega)]; exact h1.2 k hk⟩
theorem flM_fold (hV : VX V) (hs : s ≤ 100) {way : Int} : ∀ (l : List (Int × Int × Int × Int)) (P : Nat → Int) (M : am_M), (∀ e, e ∈ l → evB s 0 1 e) → flM V P M → flM V (l.foldl pkS P) (l.foldl (evM (V 0 8).toNat way) M) := by
  intro l
  induction l with
  | nil => intro P M _ h; exact h
  | cons v l ih =>
    intro P M hl h
    rw [List.foldl_cons, List.foldl_cons]
    exact ih _ _ (fun e he => hl e (List.mem_cons_of_mem _ he)) (flM_ev hV h hs (hl v List.mem_cons_self))
theorem shM_fall (hV : VX V) {M : am_M} (hR : RT V M) (hx : 0 ≤ x ∧ x < V 0 0) (hy : 0 ≤ y ∧ y < V 0 1) (hs : 1 ≤ s ∧ s ≤ 99) : ∀ k, flM V (pkA V x y s k) (shM (V 0 8).toNat V x y s 0 M k) := by
  have hw := hV.1.1
  have hh := hV.1.2.1
  intro k
  induction k with
  | zero =>
    show flM V (pk0 x y s) (mFall (V 0 8).toNat (am_up (am_up M 0 48 0) 0 49 0) (10 * y + x) s)
    have hz : flM V (fun _ => 0) (am_up (am_up M 0 48 0) 0 49 0) := by
      refine ⟨?_, fun k hk => ?_⟩
      · rw [up_eq]
        refine ((orB_0 _ (by have := hV.ns; omega)).mpr (fun k hk => decide_eq_false ?_)).symm
        have hb := hV.sno (i := k) (by omega)
        show ¬ V 4 (3 * k + 2) ≤ 0
        omega
      · rw [up_ne (by omega), up_ne (by omega), up_ne (by omega), up_ne (by omega)]
        exact hR.2.2.2.2.2.2.1 k hk
    refine mFall_b hV hz (by omega) (by omega) (fun k hk => ?_)
    have hb := hV.sno (i := k) (by omega)
    unfold pk0
    split <;> omega
  | succ k ih => exact flM_fold hV (s := s) (by omega) _ _ _ (evs_B hV.1 (fog := 0) (by omega) k).1 ih
theorem m_shoutF (hN : 102 ≤ N) (hV : VX V) {M : am_M} (hR : RT V M) (hE : EM V M) (hx : 0 ≤ x ∧ x < V 0 0) (hy : 0 ≤ y ∧ y < V 0 1) (hs : 1 ≤ s ∧ s ≤ 99) : wp (f_X10_shouts N (i32 (10 * y + x)) 0 (i32 s) M) (rV fun M' => tM M M' ∧ M' 0 49 = fallV V (pkA V x y s 8)) := by
  have hns := hV.ns
  exact wp_eqv (m_shouts hN (fog := 0) (ns := (V 0 8).toNat) (by omega) hV.1 hE (by rw [hR.2.1.2.2.2.1]; congr 1; omega) (by omega) hx hy hs) ⟨shM_t, (shM_fall hV hR hx hy hs 8).1⟩
theorem fall_0 (hV : VX V) (hs : 1 ≤ s ∧ s ≤ 99) : fallV V (pkA V x y s 8) = 0 ↔ s ≤ huV V (pkA V x y 99 8) (V 0 8).toNat := by
  have hns := hV.ns
  unfold fallV
  rw [orB_0 _ (by omega), huV_le (by omega)]
  constructor
  · intro h k hk
    have hb := hV.sno (i := k) (by omega)
    have := of_decide_eq_false (h k hk)
    rw [pkA_sh hV.1 (by omega) hb.2.2.1] at this
    omega
  · intro h k hk
    have hb := hV.sno (i := k) (by omega)
    refine decide_eq_false (fun q => ?_)
    rw [pkA_sh hV.1 (by omega) hb.2.2.1] at q
    have := h k hk
    omega
theorem m_hush_lp (hN : 102 ≤ N) (hV : VX V) (hR : RT V M0) (hE : EM V M0) (hx : 0 ≤ x ∧ x < V 0 0) (hy : 0 ≤ y ∧ y < V 0 1) : ∀ (d n : Nat) (M : am_M), huV V (pkA V x y 99 8) (V 0 8).toNat ≤ d → d ≤ 99 → d < n → sM M0 M → wp (f_X10_hush_20 N (i32 x) (i32 y) n (i32 (d : Int)) M) (rI fun v M' => v = i32 (huV V (pkA V x y 99 8) (V 0 8).toNat) ∧ sM M0 M') := by
  have hns := hV.ns
  have hw := hV.1.1
  have hh := hV.1.2.1
  have hu := huV_B hV (P := pkA V x y 99 8) (fun c => pkA_B hV.1 (by omega) c 8) (V 0 8).toNat (by omega)
  intro d
  induction d with
  | zero =>
    intro n M h1 h2 hn hs
    obtain ⟨n, rfl⟩ : ∃ k, n = k + 1 := ⟨n - 1, by omega⟩
    show wp (f_X10_hush_20B N _ _ _ _ M) _
    unfold f_X10_hush_20B
    refine wp_gd ((i32_le0 (by omega) (by omega)).mpr (by omega)) (wp_i ⟨?_, hs⟩)
    congr 1; omega
  | succ d ih =>
    intro n M h1 h2 hn hs
    obtain ⟨n, rfl⟩ : ∃ k, n = k + 1 := ⟨n - 1, by omega⟩
    show wp (f_X10_hush_20B N _ _ _ _ M) _
    unfold f_X10_hush_20B
    refine wp_ng (fun q => absurd ((i32_le0 (by omega) (by omega)).mp q) (by omega)) ?_
    rw [i32_10, i32_mul, i32_add]
    refine wp_cv (m_shoutF hN hV (hR.sM hs) (hE.sM hs) hx hy (s := ((d + 1 : Nat) : Int)) (by omega)) (fun M1 k1 => ?_)
    rw [k1.2]
    have hz := fall_0 (x := x) (y := y) hV (s := ((d + 1 : Nat) : Int)) (by omega)
    refine wp_if (fun q => ?_) (fun q => ?_)
    · have := hz.mp q
      exact wp_i ⟨by congr 1; omega, hs.trans k1.1.s⟩
    · have : ¬ ((d + 1 : Nat) : Int) ≤ huV V (pkA V x y 99 8) (V 0 8).toNat := fun z => q (hz.mpr z)
      rw [i32_m1, i32_add, show ((d + 1 : Nat) : Int) + -1 = (d : Int) from by omega]
      exact ih n M1 (by omega) (by omega) (by omega) (hs.trans k1.1.s)
end SN
