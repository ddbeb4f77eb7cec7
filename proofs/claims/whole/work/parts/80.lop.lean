/-! the loop over the clauses -/
def cd (k : Nat) : Int := match k with
  | 0 => 739651769
  | 1 => 197733
  | 2 => 769508
  | 3 => 637431
  | 4 => 6591876
  | 5 => 632453
  | 6 => 642829806
  | 7 => 13689925
  | 8 => 409252
  | _ => 12343
theorem cd_inj : ∀ j k : Fin 10, cd j.1 = cd k.1 → j = k := by decide
theorem cd_B : ∀ k : Fin 10, 0 < cd k.1 ∧ cd k.1 < 1073741824 := by decide
def full (V : VL) (k : Int) : Bool := decide ((k = 3 ∧ 8 ≤ V 0 8) ∨ (k = 4 ∧ 5 ≤ V 0 5) ∨ (k = 5 ∧ 4 ≤ V 0 6) ∨ (k = 6 ∧ 4 ≤ V 0 7) ∨ (k = 7 ∧ 8 ≤ V 0 9))
def enS (T : Nat → Int) (n : Nat) (st : ST) : ST :=
  match st with
  | .error e => .error e
  | .ok a => if skp T n (n - a) a < n ∧ T (skp T n (n - a) a) = 59 then .ok (skp T n (n - a) a + 1) else .error (1, skp T n (n - a) a)
/-- a clause's kind, from where its word begins -/
def kn (T : Nat → Int) (n a : Nat) : Int := kd T a (ltr T n (n - a) a)
def knS (T : Nat → Int) (n i : Nat) (V : VL) (a : Nat) : ST := if kn T n a = -1 ∨ ¬ (kn T n a = 0 ↔ i = 0) then .error (1, a) else if 60 ≤ i ∨ full V (kn T n a) = true then .error (3, a) else .ok (ltr T n (n - a) a)
def pl2 (k : VL → Nat → VL × ST) (V : VL) (st : ST) : VL × ST :=
  match st with
  | .error e => (V, .error e)
  | .ok a => k V a
def pl1 (T : Nat → Int) (n : Nat) (k : VL → Nat → VL × ST) (kk : Nat) (V : VL) (st : ST) : VL × ST :=
  match st with
  | .error e => (V, .error e)
  | .ok b => pl2 k (cl T n kk V (.ok b)).1 (enS T n (cl T n kk V (.ok b)).2)
def pl (T : Nat → Int) (n : Nat) : Nat → Nat → VL → Nat → VL × ST
  | 0 => fun _ V a => (V, .ok a)
  | d + 1 => fun i V a => if n ≤ skp T n (n - a) a then (V, .ok (skp T n (n - a) a)) else pl1 T n (pl T n d (i + 1)) (kn T n (skp T n (n - a) a)).toNat V (knS T n i V (skp T n (n - a) a))
def V00 : VL := fun a b => if a = 0 ∧ b = 2 then 20 else 0
section LP
variable {N : Nat} {T : Nat → Int} {n : Nat} {V : VL} {st : ST} {X M : am_M}
theorem kdr_sp {s b : Nat} : ∀ d j, j + d = 10 → (kdr T s b d j = -1 ∧ ∀ k, j ≤ k → k < 10 → isW T s b k = false) ∨ (∃ k : Nat, j ≤ k ∧ k < 10 ∧ kdr T s b d j = (k : Int) ∧ isW T s b k = true) := by
  intro d
  induction d with
  | zero => intro j hj; exact Or.inl ⟨rfl, fun k h1 h2 => by omega⟩
  | succ d ih =>
    intro j hj
    have e : kdr T s b (d + 1) j = if isW T s b j then (j : Int) else kdr T s b d (j + 1) := rfl
    rw [e]
    by_cases h : isW T s b j = true
    · rw [if_pos h]; exact Or.inr ⟨j, Nat.le_refl j, by omega, rfl, h⟩
    · rw [if_neg h]
      rcases ih (j + 1) (by omega) with q | ⟨k, q1, q2, q3, q4⟩
      · refine Or.inl ⟨q.1, fun k h1 h2 => ?_⟩
        by_cases hkj : k = j
        · rw [hkj]; exact Bool.eq_false_iff.mpr h
        · exact q.2 k (by omega) h2
      · exact Or.inr ⟨k, by omega, q2, q3, q4⟩
theorem wv_iff {s b : Nat} (hs : s ≤ b) (hl : ∀ i, s ≤ i → i < b → 97 ≤ T i ∧ T i ≤ 122) : ∀ k : Nat, k < 10 → (wv T s b = cd k ↔ isW T s b k = true) := by
  intro k hk
  have : k = 0 ∨ k = 1 ∨ k = 2 ∨ k = 3 ∨ k = 4 ∨ k = 5 ∨ k = 6 ∨ k = 7 ∨ k = 8 ∨ k = 9 := by omega
  rcases this with rfl | rfl | rfl | rfl | rfl | rfl | rfl | rfl | rfl | rfl
  · exact wv_0 hs hl
  · exact wv_1 hs hl
  · exact wv_2 hs hl
  · exact wv_3 hs hl
  · exact wv_4 hs hl
  · exact wv_5 hs hl
  · exact wv_6 hs hl
  · exact wv_7 hs hl
  · exact wv_8 hs hl
  · exact wv_9 hs hl
theorem kd_iff {s b : Nat} (hs : s ≤ b) (hl : ∀ i, s ≤ i → i < b → 97 ≤ T i ∧ T i ≤ 122) : (∀ k : Nat, k < 10 → (wv T s b = cd k ↔ kd T s b = (k : Int))) ∧ -1 ≤ kd T s b ∧ kd T s b ≤ 9 := by
  have q := wv_iff hs hl
  have r : _ ∨ _ := kdr_sp (T := T) (s := s) (b := b) 10 0 rfl
  rw [show kdr T s b 10 0 = kd T s b from rfl] at r
  rcases r with ⟨r1, r2⟩ | ⟨j, r1, r2, r3, r4⟩
  · refine ⟨fun k hk => ⟨fun h => ?_, fun h => by omega⟩, by omega, by omega⟩
    have := (q k hk).mp h
    rw [r2 k (by omega) hk] at this
    cases this
  · refine ⟨fun k hk => ⟨fun h => ?_, fun h => ?_⟩, by omega, by omega⟩
    · have e : cd j = cd k := by rw [← (q j r2).mpr r4, h]
      have := cd_inj ⟨j, r2⟩ ⟨k, hk⟩ e
      have e2 : j = k := congrArg Fin.val this
      rw [r3, e2]
    · have e2 : j = k := by omega
      rw [← e2]
      exact (q j r2).mpr r4
theorem wv_B {s b : Nat} (hs : s ≤ b) (hl : ∀ i, s ≤ i → i < b → 97 ≤ T i ∧ T i ≤ 122) : 0 ≤ wv T s b ∧ wv T s b < 1073741824 := by
  unfold wv
  by_cases h : b - s ≤ 6
  · rw [if_pos h]
    have := hsh_B (T := T) (s := s) (b - s) (fun i hi => hl (s + i) (by omega) (by omega))
    have h1 : (32 : Int) ^ (b - s) ≤ 32 ^ 6 := by
      have h1 : (32 : Nat) ^ (b - s) ≤ 32 ^ 6 := Nat.pow_le_pow_right (by omega) h
      exact_mod_cast h1
    omega
  · rw [if_neg h]; omega
/-! the class -/
theorem c_full (hR : RR V M) (hV : VX V) {k : Int} (hk : 0 ≤ k ∧ k ≤ 9) : f_X5_isFull N (i32 k) M = some (.ok (some (.int (if full V k then 1 else 0))), M) := by
  have hns := hV.ns
  unfold f_X5_isFull full
  rw [i32_toInt (by omega) (by omega)]
  by_cases h3 : k = 3
  · rw [if_pos h3]
    unfold f_X8_isFull_26
    rw [show M 26 3 = i32 (V 0 8) from hR.2.2.2.2.2.1.2.2.1, show M 26 2 = i32 8 from hR.2.2.2.2.2.1.2.1]
    by_cases hf : V 0 8 < 8
    · rw [if_pos ((i32_lt (by omega) (by omega) (by omega) (by omega)).mpr hf), if_neg (show ¬ (decide _ = true) from fun z => by have := of_decide_eq_true z; omega)]
      rfl
    · rw [if_neg (fun q => hf ((i32_lt (by omega) (by omega) (by omega) (by omega)).mp q)), if_pos (decide_eq_true (by omega))]
      rfl
  rw [if_neg h3]
  by_cases h4 : k = 4
  · rw [if_pos h4]
    unfold f_X8_isFull_20
    rw [show M 20 3 = i32 (V 0 5) from hR.2.2.1.2.2.1, show M 20 2 = i32 5 from hR.2.2.1.2.1]
    by_cases hf : V 0 5 < 5
    · rw [if_pos ((i32_lt (by omega) (by omega) (by omega) (by omega)).mpr hf), if_neg (show ¬ (decide _ = true) from fun z => by have := of_decide_eq_true z; omega)]
      rfl
    · rw [if_neg (fun q => hf ((i32_lt (by omega) (by omega) (by omega) (by omega)).mp q)), if_pos (decide_eq_true (by omega))]
      rfl
  rw [if_neg h4]
  by_cases h5 : k = 5
  · rw [if_pos h5]
    unfold f_X8_isFull_22
    rw [show M 22 3 = i32 (V 0 6) from hR.2.2.2.1.2.2.1, show M 22 2 = i32 4 from hR.2.2.2.1.2.1]
    by_cases hf : V 0 6 < 4
    · rw [if_pos ((i32_lt (by omega) (by omega) (by omega) (by omega)).mpr hf), if_neg (show ¬ (decide _ = true) from fun z => by have := of_decide_eq_true z; omega)]
      rfl
    · rw [if_neg (fun q => hf ((i32_lt (by omega) (by omega) (by omega) (by omega)).mp q)), if_pos (decide_eq_true (by omega))]
      rfl
  rw [if_neg h5]
  by_cases h6 : k = 6
  · rw [if_pos h6]
    unfold f_X8_isFull_24
    rw [show M 24 3 = i32 (V 0 7) from hR.2.2.2.2.1.2.2.1, show M 24 2 = i32 4 from hR.2.2.2.2.1.2.1]
    by_cases hf : V 0 7 < 4
    · rw [if_pos ((i32_lt (by omega) (by omega) (by omega) (by omega)).mpr hf), if_neg (show ¬ (decide _ = true) from fun z => by have := of_decide_eq_true z; omega)]
      rfl
    · rw [if_neg (fun q => hf ((i32_lt (by omega) (by omega) (by omega) (by omega)).mp q)), if_pos (decide_eq_true (by omega))]
      rfl
  rw [if_neg h6]
  by_cases h7 : k = 7
  · rw [if_pos h7]
    unfold f_X8_isFull_28
    rw [show M 28 3 = i32 (V 0 9) from hR.2.2.2.2.2.2.1.2.2.1, show M 28 2 = i32 8 from hR.2.2.2.2.2.2.1.2.1]
    by_cases hf : V 0 9 < 8
    · rw [if_pos ((i32_lt (by omega) (by omega) (by omega) (by omega)).mpr hf), if_neg (show ¬ (decide _ = true) from fun z => by have := of_decide_eq_true z; omega)]
      rfl
    · rw [if_neg (fun q => hf ((i32_lt (by omega) (by omega) (by omega) (by omega)).mp q)), if_pos (decide_eq_true (by omega))]
      rfl
  rw [if_neg h7]
  rw [if_neg (show ¬ (decide _ = true) from fun z => by have := of_decide_eq_true z; omega)]
theorem c_clk (hN : 602 ≤ N) (hT : TB T n) (hV : VX V) (hP : PT T n M) (hS : StC n st M) (hR : RR V M) {k : Int} (hk : 0 ≤ k ∧ k ≤ 9) (hf : full V k = false) : wp (f_X5_readNumbers N (i32 k) M) (rV fun M' => SC T n (cl T n k.toNat V st).2 M' M' ∧ fK M M' ∧ RR (cl T n k.toNat V st).1 M') := by
  have hf' : ¬ ((k = 3 ∧ 8 ≤ V 0 8) ∨ (k = 4 ∧ 5 ≤ V 0 5) ∨ (k = 5 ∧ 4 ≤ V 0 6) ∨ (k = 6 ∧ 4 ≤ V 0 7) ∨ (k = 7 ∧ 8 ≤ V 0 9)) := of_decide_eq_false hf
  have : k = 0 ∨ k = 1 ∨ k = 2 ∨ k = 3 ∨ k = 4 ∨ k = 5 ∨ k = 6 ∨ k = 7 ∨ k = 8 ∨ k = 9 := by omega
  rcases this with rfl | rfl | rfl | rfl | rfl | rfl | rfl | rfl | rfl | rfl
  · exact c_cl0 hN hT hV hP hS hR
  · exact c_cl1 hN hT hV hP hS hR
  · exact c_cl2 hN hT hV hP hS hR
  · exact c_cl3 hN hT hV hP hS hR (by omega)
  · exact c_cl4 hN hT hV hP hS hR (by omega)
  · exact c_cl5 hN hT hV hP hS hR (by omega)
  · exact c_cl6 hN hT hV hP hS hR (by omega)
  · exact c_cl7 hN hT hV hP hS hR (by omega)
  · exact c_cl8 hN hT hV hP hS hR
  · exact c_cl9 hN hT hV hP hS hR
theorem StC.e {M' : am_M} (h : StC n st M) (q : ∀ b, b = 2 ∨ b = 3 ∨ b = 6 → M' 18 b = M 18 b) : StC n st M' := by
  cases st with
  | error e =>
    obtain ⟨q1, q2, q3, q4, a, q5, q6⟩ := h
    exact ⟨q1, q2, (q 2 (by omega)).trans q3, (q 3 (by omega)).trans q4, a, q5, (q 6 (by omega)).trans q6⟩
  | ok a =>
    obtain ⟨q1, q2, q3, q4⟩ := h
    exact ⟨q1, (q 2 (by omega)).trans q2, (q 3 (by omega)).trans q3, (q 6 (by omega)).trans q4⟩
theorem c_kn (hN : 602 ≤ N) (hT : TB T n) (hV : VX V) {a : Nat} (h : SC T n (.ok a) X M) (hR : RR V M) {i : Nat} (hi : i ≤ 60) : wp (f_X5_readKind N (i32 (i : Int)) M) (rI fun v M' => v = i32 (kn T n a) ∧ SC T n (knS T n i V a) X M') := by
  obtain ⟨hP, ⟨ha, h2, h3, h6⟩, hE⟩ := h
  have h600 := hT.1
  have hl := ltr_B (T := T) (n - a) a ha
  have hkd := kd_iff (T := T) hl.1 (fun i q1 q2 => ltr_L (n - a) a i q1 q2)
  unfold f_X5_readKind
  rw [c_word hN hT hP ha h6]
  simp only [am_bi_i]
  rw [h6]
  have hkn : kd T a (ltr T n (n - a) a) = kn T n a := rfl
  rw [hkn] at hkd ⊢
  have hP1 : PT T n (am_up M 18 6 (i32 (ltr T n (n - a) a : Nat))) := hP.fr f18.at
  have hR1 : RR V (am_up M 18 6 (i32 (ltr T n (n - a) a : Nat))) := RR.of hR (fun x y w => up_ne (by omega))
  have h21 : am_up M 18 6 (i32 (ltr T n (n - a) a : Nat)) 18 2 = 0 := by rw [up_ne (by omega)]; exact h2
  have bad : ∀ k : Nat, 1 ≤ k → k ≤ 3 → knS T n i V a = .error (k, a) → wp (am_bv (f_X5_refuse N (i32 (k : Int)) (i32 (a : Int)) (am_up M 18 6 (i32 (ltr T n (n - a) a : Nat)))) fun M39 => some (.ok (some (.int (i32 (kn T n a)))), M39)) (rI fun v M' => v = i32 (kn T n a) ∧ SC T n (knS T n i V a) X M') := by
    intro k hk1 hk2 hk3
    rw [c_ref0 h21, hk3]
    simp only [am_bv_v]
    refine wp_i ⟨rfl, ?_, StC.er ⟨hk1, hk2⟩ (by omega) hl.2 (up_eq _ _ _ _), fun x y w => ?_⟩
    · exact hP1.fr (fun x y w => by rw [up_ne (by omega), up_ne (by omega)])
    · rw [up_ne (by omega), up_ne (by omega), up_ne (by omega)]; exact hE x y w
  have bad1 : (kn T n a = -1 ∨ ¬ (kn T n a = 0 ↔ i = 0)) → wp (f_X5_readKind_36 N (i32 (a : Int)) (i32 (kn T n a)) (am_up M 18 6 (i32 (ltr T n (n - a) a : Nat)))) (rI fun v M' => v = i32 (kn T n a) ∧ SC T n (knS T n i V a) X M') := by
    intro hh
    unfold f_X5_readKind_36
    exact bad 1 (by omega) (by omega) (by unfold knS; rw [if_pos hh])
  have bad3 : ¬ (kn T n a = -1 ∨ ¬ (kn T n a = 0 ↔ i = 0)) → (60 ≤ i ∨ full V (kn T n a) = true) → wp (f_X5_readKind_59 N (i32 (a : Int)) (i32 (kn T n a)) (am_up M 18 6 (i32 (ltr T n (n - a) a : Nat)))) (rI fun v M' => v = i32 (kn T n a) ∧ SC T n (knS T n i V a) X M') := by
    intro hh hh2
    unfold f_X5_readKind_59
    exact bad 3 (by omega) (by omega) (by unfold knS; rw [if_neg hh, if_pos hh2])
  have good : ¬ (kn T n a = -1 ∨ ¬ (kn T n a = 0 ↔ i = 0)) → wp (if 60 ≤ i32 (i : Int) then f_X5_readKind_59 N (i32 (a : Int)) (i32 (kn T n a)) (am_up M 18 6 (i32 (ltr T n (n - a) a : Nat))) else am_bi (f_X5_isFull N (i32 (kn T n a)) (am_up M 18 6 (i32 (ltr T n (n - a) a : Nat)))) fun r53 M53 => if r53 = 0 then some (.ok (some (.int (i32 (kn T n a)))), M53) else f_X5_readKind_59 N (i32 (a : Int)) (i32 (kn T n a)) M53) (rI fun v M' => v = i32 (kn T n a) ∧ SC T n (knS T n i V a) X M') := by
    intro hh
    by_cases h60 : 60 ≤ i
    · exact wp_gd ((i32_60le (by omega) (by omega)).mpr (by omega)) (bad3 hh (Or.inl h60))
    · refine wp_ng (fun q => by have := (i32_60le (by omega) (by omega)).mp q; omega) ?_
      rw [c_full hR1 hV (by omega)]
      simp only [am_bi_i]
      by_cases hf : full V (kn T n a) = true
      · exact wp_ng (by rw [if_pos hf]; decide) (bad3 hh (Or.inr hf))
      · refine wp_gd (by rw [if_neg hf]) (wp_i ⟨rfl, hP1, ?_, fun x y w => by rw [up_ne (by omega)]; exact hE x y w⟩)
        unfold knS
        rw [if_neg hh, if_neg (fun z => by rcases z with z | z; exact h60 z; exact hf z)]
        exact ⟨hl.2, h21, by rw [up_ne (by omega)]; exact h3, up_eq _ _ _ _⟩
  by_cases hm : kn T n a = -1
  · exact wp_gd (by rw [hm]; rfl) (bad1 (Or.inl hm))
  · refine wp_ng (fun q => hm ((i32_eq (b := -1) (by omega) (by omega) (by omega) (by omega)).mp q)) ?_
    by_cases h0 : kn T n a = 0
    · refine wp_gd ((i32_eq0 (by omega) (by omega)).mpr h0) ?_
      unfold f_X5_readKind_24 f_X5_readKind_33
      by_cases hi0 : i = 0
      · exact wp_gd ((i32_eq0 (by omega) (by omega)).mpr (by omega)) (wp_gd rfl (good (by omega)))
      · exact wp_ng (fun q => hi0 (by have := (i32_eq0 (by omega) (by omega)).mp q; omega)) (wp_ng (by decide) (bad1 (by omega)))
    · refine wp_ng (fun q => h0 ((i32_eq0 (by omega) (by omega)).mp q)) ?_
      unfold f_X5_readKind_24 f_X5_readKind_33
      by_cases hi0 : i = 0
      · exact wp_gd ((i32_eq0 (by omega) (by omega)).mpr (by omega)) (wp_ng (by decide) (bad1 (by omega)))
      · exact wp_ng (fun q => hi0 (by have := (i32_eq0 (by omega) (by omega)).mp q; omega)) (wp_gd rfl (good (by omega)))
theorem c_ende (hN : 602 ≤ N) (hT : TB T n) (h : SC T n st X M) : wp (f_X5_readEnd N M) (rV fun M' => SC T n (enS T n st) X M') := by
  obtain ⟨hP, hS, hE⟩ := h
  have h600 := hT.1
  obtain ⟨a, ha, hat⟩ : ∃ a, a ≤ n ∧ M 18 6 = i32 (a : Int) := by
    cases st with
    | error e => exact hS.2.2.2.2
    | ok a => exact ⟨a, hS.1, hS.2.2.2⟩
  have hsB := skp_B (T := T) (n - a) a ha
  unfold f_X5_readEnd
  rw [c_skip hN hT hP ha hat]
  simp only [am_bv_v]
  have hP1 : PT T n (am_up M 18 6 (i32 (skp T n (n - a) a : Nat))) := hP.fr f18.at
  have hE1 : e18 X (am_up M 18 6 (i32 (skp T n (n - a) a : Nat))) := fun x y w => (up_ne (by omega)).trans (hE x y w)
  rw [hP1.1, up_eq]
  cases st with
  | error e =>
    obtain ⟨q1, q2, q3, q4, q5⟩ := hS
    have hne : am_up M 18 6 (i32 (skp T n (n - a) a : Nat)) 18 2 ≠ 0 := by
      rw [up_ne (by omega), q3]; exact fun z => by have := (i32_eq0 (by omega) (by omega)).mp z; omega
    have fin : ∀ v : Nat, v ≤ n → SC T n (enS T n (.error e)) X (am_up M 18 6 (i32 (v : Int))) := fun v hv => ⟨hP.fr f18.at, ⟨q1, q2, (up_ne (by omega)).trans q3, (up_ne (by omega)).trans q4, v, hv, up_eq _ _ _ _⟩, fun x y w => (up_ne (by omega)).trans (hE x y w)⟩
    have f42 : wp (f_X5_readEnd_42 N (am_up M 18 6 (i32 (skp T n (n - a) a : Nat)))) (rV fun M' => SC T n (enS T n (.error e)) X M') := by
      unfold f_X5_readEnd_42
      rw [c_ref1 hne]
      exact wp_v (fin _ hsB.2)
    by_cases hl : skp T n (n - a) a < n
    · refine wp_ng (fun q => absurd ((i32_le (by omega) (by omega) (by omega) (by omega)).mp q) (by omega)) (wp_gd (i32_in (by omega) (by omega) (by omega)) (wp_if (fun _ => ?_) (fun _ => f42)))
      rw [up_up, i32_s]
      exact wp_v (fin _ (by omega))
    · exact wp_gd ((i32_le (by omega) (by omega) (by omega) (by omega)).mpr (by omega)) f42
  | ok a' =>
    obtain ⟨q1, q2, q3, q4⟩ := hS
    have haa : a' = a := by
      rw [q4] at hat
      have q := (i32_eq (by omega) (by omega) (by omega) (by omega)).mp hat
      omega
    subst haa
    have h21 : am_up M 18 6 (i32 (skp T n (n - a') a' : Nat)) 18 2 = 0 := by rw [up_ne (by omega)]; exact q2
    have f42 : ¬ (skp T n (n - a') a' < n ∧ T (skp T n (n - a') a') = 59) → wp (f_X5_readEnd_42 N (am_up M 18 6 (i32 (skp T n (n - a') a' : Nat)))) (rV fun M' => SC T n (enS T n (.ok a')) X M') := by
      intro hh
      unfold f_X5_readEnd_42
      rw [up_eq, show (1 : Int32) = i32 ((1 : Nat) : Int) from rfl, c_ref0 h21]
      have he : enS T n (.ok a') = .error (1, skp T n (n - a') a') := by
        show (if _ then _ else _) = _
        rw [if_neg hh]
      rw [he]
      exact wp_v ⟨hP1.fr (fun x y w => by rw [up_ne (by omega), up_ne (by omega)]), StC.er (by omega) (by omega) hsB.2 (up_eq _ _ _ _), fun x y w => by rw [up_ne (by omega), up_ne (by omega)]; exact hE1 x y w⟩
    by_cases hl : skp T n (n - a') a' < n
    · refine wp_ng (fun q => absurd ((i32_le (by omega) (by omega) (by omega) (by omega)).mp q) (by omega)) (wp_gd (i32_in (by omega) (by omega) (by omega)) ?_)
      have hc := hT.2 _ hl
      have hsg := sg_B hc
      rw [i32_k (by omega), hP1.2 _ hl, show (59 : Int32) = i32 59 from rfl]
      by_cases h59 : T (skp T n (n - a') a') = 59
      · refine wp_gd ((i32_eq (by omega) (by omega) (by omega) (by omega)).mpr ((sg_lo hc (by omega)).mpr h59)) ?_
        rw [up_up, i32_s]
        have he : enS T n (.ok a') = .ok (skp T n (n - a') a' + 1) := by
          show (if _ then _ else _) = _
          rw [if_pos ⟨hl, h59⟩]
        rw [he]
        exact wp_v ⟨hP.fr f18.at, ⟨by omega, (up_ne (by omega)).trans q2, (up_ne (by omega)).trans q3, up_eq _ _ _ _⟩, fun x y w => (up_ne (by omega)).trans (hE x y w)⟩
      · exact wp_ng (fun q => h59 ((sg_lo hc (by omega)).mp ((i32_eq (by omega) (by omega) (by omega) (by omega)).mp q))) (f42 (fun z => h59 z.2))
    · exact wp_gd ((i32_le (by omega) (by omega) (by omega) (by omega)).mpr (by omega)) (f42 (fun z => hl z.1))
/-- the valley that is read stays within its bounds -/
theorem VX.ap (hV : VX V) : True := trivial
theorem VX_cl (hV : VX V) {k : Int} (hk : 0 ≤ k ∧ k ≤ 9) (hf : full V k = false) (h0 : k = 0 → V = V00) {b : Nat} (hok : (cl T n k.toNat V st).2 = .ok b) : VX (cl T n k.toNat V st).1 := by
  have hf' : ¬ ((k = 3 ∧ 8 ≤ V 0 8) ∨ (k = 4 ∧ 5 ≤ V 0 5) ∨ (k = 5 ∧ 4 ≤ V 0 6) ∨ (k = 6 ∧ 4 ≤ V 0 7) ∨ (k = 7 ∧ 8 ≤ V 0 9)) := of_decide_eq_false hf
  obtain ⟨⟨v1, v2, v3, v4⟩, ⟨v5, v6⟩, v7, v8, v9, v10, v11, v12, v13⟩ := hV
  have : k = 0 ∨ k = 1 ∨ k = 2 ∨ k = 3 ∨ k = 4 ∨ k = 5 ∨ k = 6 ∨ k = 7 ∨ k = 8 ∨ k = 9 := by omega
  rcases this with rfl | rfl | rfl | rfl | rfl | rfl | rfl | rfl | rfl | rfl
  · have e := h0 rfl
    subst e
    have r2 := rn_ok hok
    obtain ⟨⟨a1, q1⟩, q2⟩ := r2
    have r1 := rn_ok q1
    refine ⟨⟨⟨show 0 ≤ (rn T n st 2 10).1 by omega, show (rn T n st 2 10).1 ≤ 10 by omega⟩, ⟨show 0 ≤ (rn T n (rn T n st 2 10).2 2 10).1 by omega, show (rn T n (rn T n st 2 10).2 2 10).1 ≤ 10 by omega⟩, v3, v4⟩, ⟨v5, v6⟩, v7, fun i hi => absurd hi (show ¬ ((i : Int) < 0) by omega), fun i hi => absurd hi (show ¬ ((i : Int) < 0) by omega), fun i hi => absurd hi (show ¬ ((i : Int) < 0) by omega), fun i hi => absurd hi (show ¬ ((i : Int) < 0) by omega), fun i hi => absurd hi (show ¬ ((i : Int) < 0) by omega), fun i hi => absurd hi (show ¬ ((i : Int) < 0) by omega)⟩
  · have r3 := rn_ok hok
    refine ⟨⟨v1, v2, v3, fun c hc => ?_⟩, ⟨v5, v6⟩, v7, v8, v9, v10, v11, v12, v13⟩
    have q := v4 c hc
    have e : 0 ≤ (if 6 = 6 ∧ c = (10 * (rn T n (rn T n st 0 (V 0 0 - 1)).2 0 (V 0 1 - 1)).1 + (rn T n st 0 (V 0 0 - 1)).1).toNat then (rn T n (rn T n (rn T n st 0 (V 0 0 - 1)).2 0 (V 0 1 - 1)).2 1 9).1 else V 6 c) ∧ (if 6 = 6 ∧ c = (10 * (rn T n (rn T n st 0 (V 0 0 - 1)).2 0 (V 0 1 - 1)).1 + (rn T n st 0 (V 0 0 - 1)).1).toNat then (rn T n (rn T n (rn T n st 0 (V 0 0 - 1)).2 0 (V 0 1 - 1)).2 1 9).1 else V 6 c) ≤ 9 := by
      split <;> omega
    exact ⟨e, q.2⟩
  · have r3 := rn_ok hok
    refine ⟨⟨v1, v2, v3, fun c hc => ?_⟩, ⟨v5, v6⟩, v7, v8, v9, v10, v11, v12, v13⟩
    have q := v4 c hc
    have e : 0 ≤ (if 7 = 7 ∧ c = (10 * (rn T n (rn T n st 0 (V 0 0 - 1)).2 0 (V 0 1 - 1)).1 + (rn T n st 0 (V 0 0 - 1)).1).toNat then (rn T n (rn T n (rn T n st 0 (V 0 0 - 1)).2 0 (V 0 1 - 1)).2 1 9).1 else V 7 c) ∧ (if 7 = 7 ∧ c = (10 * (rn T n (rn T n st 0 (V 0 0 - 1)).2 0 (V 0 1 - 1)).1 + (rn T n st 0 (V 0 0 - 1)).1).toNat then (rn T n (rn T n (rn T n st 0 (V 0 0 - 1)).2 0 (V 0 1 - 1)).2 1 9).1 else V 7 c) ≤ 9 := by
      split <;> omega
    exact ⟨q.1, e⟩
  · have r3 := rn_ok hok
    obtain ⟨⟨a2, q2⟩, w2⟩ := r3
    have r2 := rn_ok q2
    obtain ⟨⟨a1, q1⟩, w1⟩ := r2
    have r1 := rn_ok q1
    have hrow : ∀ i : Nat, (i : Int) < V 0 8 + 1 → i < (V 0 8).toNat ∨ i = (V 0 8).toNat := fun i hi => by omega
    refine ⟨⟨v1, v2, v3, v4⟩, ⟨v5, v6⟩, ?_, v8, v9, v10, ?_, v12, v13⟩
    · have e : (apT V 4 8 3 [(rn T n st 0 (V 0 0 - 1)).1, (rn T n (rn T n st 0 (V 0 0 - 1)).2 0 (V 0 1 - 1)).1, (rn T n (rn T n (rn T n st 0 (V 0 0 - 1)).2 0 (V 0 1 - 1)).2 1 99).1]) 0 8 = V 0 8 + 1 := rfl
      obtain ⟨z5, z6, z7, z8, z9, z10⟩ := v7
      exact ⟨z5, z6, z7, ⟨show 0 ≤ V 0 8 + 1 by omega, show V 0 8 + 1 ≤ 8 by omega⟩, z9, z10⟩
    · intro i hi
      rcases hrow i hi with hc | hc
      · have q := v11 i (by omega)
        have e0 : apT V 4 8 3 [(rn T n st 0 (V 0 0 - 1)).1, (rn T n (rn T n st 0 (V 0 0 - 1)).2 0 (V 0 1 - 1)).1, (rn T n (rn T n (rn T n st 0 (V 0 0 - 1)).2 0 (V 0 1 - 1)).2 1 99).1] 4 (3 * i) = V 4 (3 * i) := apT_lo (by omega) (by omega)
        have e1 : apT V 4 8 3 [(rn T n st 0 (V 0 0 - 1)).1, (rn T n (rn T n st 0 (V 0 0 - 1)).2 0 (V 0 1 - 1)).1, (rn T n (rn T n (rn T n st 0 (V 0 0 - 1)).2 0 (V 0 1 - 1)).2 1 99).1] 4 (3 * i + 1) = V 4 (3 * i + 1) := apT_lo (by omega) (by omega)
        have e2 : apT V 4 8 3 [(rn T n st 0 (V 0 0 - 1)).1, (rn T n (rn T n st 0 (V 0 0 - 1)).2 0 (V 0 1 - 1)).1, (rn T n (rn T n (rn T n st 0 (V 0 0 - 1)).2 0 (V 0 1 - 1)).2 1 99).1] 4 (3 * i + 2) = V 4 (3 * i + 2) := apT_lo (by omega) (by omega)
        show (0 ≤ apT V 4 8 3 [(rn T n st 0 (V 0 0 - 1)).1, (rn T n (rn T n st 0 (V 0 0 - 1)).2 0 (V 0 1 - 1)).1, (rn T n (rn T n (rn T n st 0 (V 0 0 - 1)).2 0 (V 0 1 - 1)).2 1 99).1] 4 (3 * i) ∧ apT V 4 8 3 [(rn T n st 0 (V 0 0 - 1)).1, (rn T n (rn T n st 0 (V 0 0 - 1)).2 0 (V 0 1 - 1)).1, (rn T n (rn T n (rn T n st 0 (V 0 0 - 1)).2 0 (V 0 1 - 1)).2 1 99).1] 4 (3 * i) < V 0 0) ∧ (0 ≤ apT V 4 8 3 [(rn T n st 0 (V 0 0 - 1)).1, (rn T n (rn T n st 0 (V 0 0 - 1)).2 0 (V 0 1 - 1)).1, (rn T n (rn T n (rn T n st 0 (V 0 0 - 1)).2 0 (V 0 1 - 1)).2 1 99).1] 4 (3 * i + 1) ∧ apT V 4 8 3 [(rn T n st 0 (V 0 0 - 1)).1, (rn T n (rn T n st 0 (V 0 0 - 1)).2 0 (V 0 1 - 1)).1, (rn T n (rn T n (rn T n st 0 (V 0 0 - 1)).2 0 (V 0 1 - 1)).2 1 99).1] 4 (3 * i + 1) < V 0 1) ∧ (1 ≤ apT V 4 8 3 [(rn T n st 0 (V 0 0 - 1)).1, (rn T n (rn T n st 0 (V 0 0 - 1)).2 0 (V 0 1 - 1)).1, (rn T n (rn T n (rn T n st 0 (V 0 0 - 1)).2 0 (V 0 1 - 1)).2 1 99).1] 4 (3 * i + 2) ∧ apT V 4 8 3 [(rn T n st 0 (V 0 0 - 1)).1, (rn T n (rn T n st 0 (V 0 0 - 1)).2 0 (V 0 1 - 1)).1, (rn T n (rn T n (rn T n st 0 (V 0 0 - 1)).2 0 (V 0 1 - 1)).2 1 99).1] 4 (3 * i + 2) ≤ 99)
        rw [e0, e1, e2]
        exact q
      · subst hc
        have e0 : apT V 4 8 3 [(rn T n st 0 (V 0 0 - 1)).1, (rn T n (rn T n st 0 (V 0 0 - 1)).2 0 (V 0 1 - 1)).1, (rn T n (rn T n (rn T n st 0 (V 0 0 - 1)).2 0 (V 0 1 - 1)).2 1 99).1] 4 (3 * (V 0 8).toNat) = (rn T n st 0 (V 0 0 - 1)).1 := apT_hi (l := [(rn T n st 0 (V 0 0 - 1)).1, (rn T n (rn T n st 0 (V 0 0 - 1)).2 0 (V 0 1 - 1)).1, (rn T n (rn T n (rn T n st 0 (V 0 0 - 1)).2 0 (V 0 1 - 1)).2 1 99).1]) (i := 0) (by omega)
        have e1 : apT V 4 8 3 [(rn T n st 0 (V 0 0 - 1)).1, (rn T n (rn T n st 0 (V 0 0 - 1)).2 0 (V 0 1 - 1)).1, (rn T n (rn T n (rn T n st 0 (V 0 0 - 1)).2 0 (V 0 1 - 1)).2 1 99).1] 4 (3 * (V 0 8).toNat + 1) = (rn T n (rn T n st 0 (V 0 0 - 1)).2 0 (V 0 1 - 1)).1 := apT_hi (l := [(rn T n st 0 (V 0 0 - 1)).1, (rn T n (rn T n st 0 (V 0 0 - 1)).2 0 (V 0 1 - 1)).1, (rn T n (rn T n (rn T n st 0 (V 0 0 - 1)).2 0 (V 0 1 - 1)).2 1 99).1]) (i := 1) (by omega)
        have e2 : apT V 4 8 3 [(rn T n st 0 (V 0 0 - 1)).1, (rn T n (rn T n st 0 (V 0 0 - 1)).2 0 (V 0 1 - 1)).1, (rn T n (rn T n (rn T n st 0 (V 0 0 - 1)).2 0 (V 0 1 - 1)).2 1 99).1] 4 (3 * (V 0 8).toNat + 2) = (rn T n (rn T n (rn T n st 0 (V 0 0 - 1)).2 0 (V 0 1 - 1)).2 1 99).1 := apT_hi (l := [(rn T n st 0 (V 0 0 - 1)).1, (rn T n (rn T n st 0 (V 0 0 - 1)).2 0 (V 0 1 - 1)).1, (rn T n (rn T n (rn T n st 0 (V 0 0 - 1)).2 0 (V 0 1 - 1)).2 1 99).1]) (i := 2) (by omega)
        show (0 ≤ apT V 4 8 3 [(rn T n st 0 (V 0 0 - 1)).1, (rn T n (rn T n st 0 (V 0 0 - 1)).2 0 (V 0 1 - 1)).1, (rn T n (rn T n (rn T n st 0 (V 0 0 - 1)).2 0 (V 0 1 - 1)).2 1 99).1] 4 (3 * (V 0 8).toNat) ∧ apT V 4 8 3 [(rn T n st 0 (V 0 0 - 1)).1, (rn T n (rn T n st 0 (V 0 0 - 1)).2 0 (V 0 1 - 1)).1, (rn T n (rn T n (rn T n st 0 (V 0 0 - 1)).2 0 (V 0 1 - 1)).2 1 99).1] 4 (3 * (V 0 8).toNat) < V 0 0) ∧ (0 ≤ apT V 4 8 3 [(rn T n st 0 (V 0 0 - 1)).1, (rn T n (rn T n st 0 (V 0 0 - 1)).2 0 (V 0 1 - 1)).1, (rn T n (rn T n (rn T n st 0 (V 0 0 - 1)).2 0 (V 0 1 - 1)).2 1 99).1] 4 (3 * (V 0 8).toNat + 1) ∧ apT V 4 8 3 [(rn T n st 0 (V 0 0 - 1)).1, (rn T n (rn T n st 0 (V 0 0 - 1)).2 0 (V 0 1 - 1)).1, (rn T n (rn T n (rn T n st 0 (V 0 0 - 1)).2 0 (V 0 1 - 1)).2 1 99).1] 4 (3 * (V 0 8).toNat + 1) < V 0 1) ∧ (1 ≤ apT V 4 8 3 [(rn T n st 0 (V 0 0 - 1)).1, (rn T n (rn T n st 0 (V 0 0 - 1)).2 0 (V 0 1 - 1)).1, (rn T n (rn T n (rn T n st 0 (V 0 0 - 1)).2 0 (V 0 1 - 1)).2 1 99).1] 4 (3 * (V 0 8).toNat + 2) ∧ apT V 4 8 3 [(rn T n st 0 (V 0 0 - 1)).1, (rn T n (rn T n st 0 (V 0 0 - 1)).2 0 (V 0 1 - 1)).1, (rn T n (rn T n (rn T n st 0 (V 0 0 - 1)).2 0 (V 0 1 - 1)).2 1 99).1] 4 (3 * (V 0 8).toNat + 2) ≤ 99)
        rw [e0, e1, e2]
        omega
  · have r5 := rn_ok hok
    obtain ⟨⟨a4, q4⟩, w4⟩ := r5
    have r4 := rn_ok q4
    obtain ⟨⟨a3, q3⟩, w3⟩ := r4
    have r3 := rn_ok q3
    obtain ⟨⟨a2, q2⟩, w2⟩ := r3
    have r2 := rn_ok q2
    obtain ⟨⟨a1, q1⟩, w1⟩ := r2
    have r1 := rn_ok q1
    have hrow : ∀ i : Nat, (i : Int) < V 0 5 + 1 → i < (V 0 5).toNat ∨ i = (V 0 5).toNat := fun i hi => by omega
    refine ⟨⟨v1, v2, v3, v4⟩, ⟨v5, v6⟩, ?_, ?_, v9, v10, v11, v12, v13⟩
    · have e : (apT V 1 5 5 [(rn T n st 0 (V 0 0 - 1)).1, (rn T n (rn T n st 0 (V 0 0 - 1)).2 0 (V 0 1 - 1)).1, (rn T n (rn T n (rn T n st 0 (V 0 0 - 1)).2 0 (V 0 1 - 1)).2 (rn T n st 0 (V 0 0 - 1)).1 (V 0 0 - 1)).1, (rn T n (rn T n (rn T n (rn T n st 0 (V 0 0 - 1)).2 0 (V 0 1 - 1)).2 (rn T n st 0 (V 0 0 - 1)).1 (V 0 0 - 1)).2 (rn T n (rn T n st 0 (V 0 0 - 1)).2 0 (V 0 1 - 1)).1 (V 0 1 - 1)).1, (rn T n (rn T n (rn T n (rn T n (rn T n st 0 (V 0 0 - 1)).2 0 (V 0 1 - 1)).2 (rn T n st 0 (V 0 0 - 1)).1 (V 0 0 - 1)).2 (rn T n (rn T n st 0 (V 0 0 - 1)).2 0 (V 0 1 - 1)).1 (V 0 1 - 1)).2 1 99).1]) 0 5 = V 0 5 + 1 := rfl
      obtain ⟨z5, z6, z7, z8, z9, z10⟩ := v7
      exact ⟨⟨show 0 ≤ V 0 5 + 1 by omega, show V 0 5 + 1 ≤ 5 by omega⟩, z6, z7, z8, z9, z10⟩
    · intro i hi
      rcases hrow i hi with hc | hc
      · have q := v8 i (by omega)
        have e0 : apT V 1 5 5 [(rn T n st 0 (V 0 0 - 1)).1, (rn T n (rn T n st 0 (V 0 0 - 1)).2 0 (V 0 1 - 1)).1, (rn T n (rn T n (rn T n st 0 (V 0 0 - 1)).2 0 (V 0 1 - 1)).2 (rn T n st 0 (V 0 0 - 1)).1 (V 0 0 - 1)).1, (rn T n (rn T n (rn T n (rn T n st 0 (V 0 0 - 1)).2 0 (V 0 1 - 1)).2 (rn T n st 0 (V 0 0 - 1)).1 (V 0 0 - 1)).2 (rn T n (rn T n st 0 (V 0 0 - 1)).2 0 (V 0 1 - 1)).1 (V 0 1 - 1)).1, (rn T n (rn T n (rn T n (rn T n (rn T n st 0 (V 0 0 - 1)).2 0 (V 0 1 - 1)).2 (rn T n st 0 (V 0 0 - 1)).1 (V 0 0 - 1)).2 (rn T n (rn T n st 0 (V 0 0 - 1)).2 0 (V 0 1 - 1)).1 (V 0 1 - 1)).2 1 99).1] 1 (5 * i) = V 1 (5 * i) := apT_lo (by omega) (by omega)
        have e1 : apT V 1 5 5 [(rn T n st 0 (V 0 0 - 1)).1, (rn T n (rn T n st 0 (V 0 0 - 1)).2 0 (V 0 1 - 1)).1, (rn T n (rn T n (rn T n st 0 (V 0 0 - 1)).2 0 (V 0 1 - 1)).2 (rn T n st 0 (V 0 0 - 1)).1 (V 0 0 - 1)).1, (rn T n (rn T n (rn T n (rn T n st 0 (V 0 0 - 1)).2 0 (V 0 1 - 1)).2 (rn T n st 0 (V 0 0 - 1)).1 (V 0 0 - 1)).2 (rn T n (rn T n st 0 (V 0 0 - 1)).2 0 (V 0 1 - 1)).1 (V 0 1 - 1)).1, (rn T n (rn T n (rn T n (rn T n (rn T n st 0 (V 0 0 - 1)).2 0 (V 0 1 - 1)).2 (rn T n st 0 (V 0 0 - 1)).1 (V 0 0 - 1)).2 (rn T n (rn T n st 0 (V 0 0 - 1)).2 0 (V 0 1 - 1)).1 (V 0 1 - 1)).2 1 99).1] 1 (5 * i + 1) = V 1 (5 * i + 1) := apT_lo (by omega) (by omega)
        have e2 : apT V 1 5 5 [(rn T n st 0 (V 0 0 - 1)).1, (rn T n (rn T n st 0 (V 0 0 - 1)).2 0 (V 0 1 - 1)).1, (rn T n (rn T n (rn T n st 0 (V 0 0 - 1)).2 0 (V 0 1 - 1)).2 (rn T n st 0 (V 0 0 - 1)).1 (V 0 0 - 1)).1, (rn T n (rn T n (rn T n (rn T n st 0 (V 0 0 - 1)).2 0 (V 0 1 - 1)).2 (rn T n st 0 (V 0 0 - 1)).1 (V 0 0 - 1)).2 (rn T n (rn T n st 0 (V 0 0 - 1)).2 0 (V 0 1 - 1)).1 (V 0 1 - 1)).1, (rn T n (rn T n (rn T n (rn T n (rn T n st 0 (V 0 0 - 1)).2 0 (V 0 1 - 1)).2 (rn T n st 0 (V 0 0 - 1)).1 (V 0 0 - 1)).2 (rn T n (rn T n st 0 (V 0 0 - 1)).2 0 (V 0 1 - 1)).1 (V 0 1 - 1)).2 1 99).1] 1 (5 * i + 2) = V 1 (5 * i + 2) := apT_lo (by omega) (by omega)
        have e3 : apT V 1 5 5 [(rn T n st 0 (V 0 0 - 1)).1, (rn T n (rn T n st 0 (V 0 0 - 1)).2 0 (V 0 1 - 1)).1, (rn T n (rn T n (rn T n st 0 (V 0 0 - 1)).2 0 (V 0 1 - 1)).2 (rn T n st 0 (V 0 0 - 1)).1 (V 0 0 - 1)).1, (rn T n (rn T n (rn T n (rn T n st 0 (V 0 0 - 1)).2 0 (V 0 1 - 1)).2 (rn T n st 0 (V 0 0 - 1)).1 (V 0 0 - 1)).2 (rn T n (rn T n st 0 (V 0 0 - 1)).2 0 (V 0 1 - 1)).1 (V 0 1 - 1)).1, (rn T n (rn T n (rn T n (rn T n (rn T n st 0 (V 0 0 - 1)).2 0 (V 0 1 - 1)).2 (rn T n st 0 (V 0 0 - 1)).1 (V 0 0 - 1)).2 (rn T n (rn T n st 0 (V 0 0 - 1)).2 0 (V 0 1 - 1)).1 (V 0 1 - 1)).2 1 99).1] 1 (5 * i + 3) = V 1 (5 * i + 3) := apT_lo (by omega) (by omega)
        have e4 : apT V 1 5 5 [(rn T n st 0 (V 0 0 - 1)).1, (rn T n (rn T n st 0 (V 0 0 - 1)).2 0 (V 0 1 - 1)).1, (rn T n (rn T n (rn T n st 0 (V 0 0 - 1)).2 0 (V 0 1 - 1)).2 (rn T n st 0 (V 0 0 - 1)).1 (V 0 0 - 1)).1, (rn T n (rn T n (rn T n (rn T n st 0 (V 0 0 - 1)).2 0 (V 0 1 - 1)).2 (rn T n st 0 (V 0 0 - 1)).1 (V 0 0 - 1)).2 (rn T n (rn T n st 0 (V 0 0 - 1)).2 0 (V 0 1 - 1)).1 (V 0 1 - 1)).1, (rn T n (rn T n (rn T n (rn T n (rn T n st 0 (V 0 0 - 1)).2 0 (V 0 1 - 1)).2 (rn T n st 0 (V 0 0 - 1)).1 (V 0 0 - 1)).2 (rn T n (rn T n st 0 (V 0 0 - 1)).2 0 (V 0 1 - 1)).1 (V 0 1 - 1)).2 1 99).1] 1 (5 * i + 4) = V 1 (5 * i + 4) := apT_lo (by omega) (by omega)
        show (0 ≤ apT V 1 5 5 [(rn T n st 0 (V 0 0 - 1)).1, (rn T n (rn T n st 0 (V 0 0 - 1)).2 0 (V 0 1 - 1)).1, (rn T n (rn T n (rn T n st 0 (V 0 0 - 1)).2 0 (V 0 1 - 1)).2 (rn T n st 0 (V 0 0 - 1)).1 (V 0 0 - 1)).1, (rn T n (rn T n (rn T n (rn T n st 0 (V 0 0 - 1)).2 0 (V 0 1 - 1)).2 (rn T n st 0 (V 0 0 - 1)).1 (V 0 0 - 1)).2 (rn T n (rn T n st 0 (V 0 0 - 1)).2 0 (V 0 1 - 1)).1 (V 0 1 - 1)).1, (rn T n (rn T n (rn T n (rn T n (rn T n st 0 (V 0 0 - 1)).2 0 (V 0 1 - 1)).2 (rn T n st 0 (V 0 0 - 1)).1 (V 0 0 - 1)).2 (rn T n (rn T n st 0 (V 0 0 - 1)).2 0 (V 0 1 - 1)).1 (V 0 1 - 1)).2 1 99).1] 1 (5 * i) ∧ apT V 1 5 5 [(rn T n st 0 (V 0 0 - 1)).1, (rn T n (rn T n st 0 (V 0 0 - 1)).2 0 (V 0 1 - 1)).1, (rn T n (rn T n (rn T n st 0 (V 0 0 - 1)).2 0 (V 0 1 - 1)).2 (rn T n st 0 (V 0 0 - 1)).1 (V 0 0 - 1)).1, (rn T n (rn T n (rn T n (rn T n st 0 (V 0 0 - 1)).2 0 (V 0 1 - 1)).2 (rn T n st 0 (V 0 0 - 1)).1 (V 0 0 - 1)).2 (rn T n (rn T n st 0 (V 0 0 - 1)).2 0 (V 0 1 - 1)).1 (V 0 1 - 1)).1, (rn T n (rn T n (rn T n (rn T n (rn T n st 0 (V 0 0 - 1)).2 0 (V 0 1 - 1)).2 (rn T n st 0 (V 0 0 - 1)).1 (V 0 0 - 1)).2 (rn T n (rn T n st 0 (V 0 0 - 1)).2 0 (V 0 1 - 1)).1 (V 0 1 - 1)).2 1 99).1] 1 (5 * i) ≤ apT V 1 5 5 [(rn T n st 0 (V 0 0 - 1)).1, (rn T n (rn T n st 0 (V 0 0 - 1)).2 0 (V 0 1 - 1)).1, (rn T n (rn T n (rn T n st 0 (V 0 0 - 1)).2 0 (V 0 1 - 1)).2 (rn T n st 0 (V 0 0 - 1)).1 (V 0 0 - 1)).1, (rn T n (rn T n (rn T n (rn T n st 0 (V 0 0 - 1)).2 0 (V 0 1 - 1)).2 (rn T n st 0 (V 0 0 - 1)).1 (V 0 0 - 1)).2 (rn T n (rn T n st 0 (V 0 0 - 1)).2 0 (V 0 1 - 1)).1 (V 0 1 - 1)).1, (rn T n (rn T n (rn T n (rn T n (rn T n st 0 (V 0 0 - 1)).2 0 (V 0 1 - 1)).2 (rn T n st 0 (V 0 0 - 1)).1 (V 0 0 - 1)).2 (rn T n (rn T n st 0 (V 0 0 - 1)).2 0 (V 0 1 - 1)).1 (V 0 1 - 1)).2 1 99).1] 1 (5 * i + 2) ∧ apT V 1 5 5 [(rn T n st 0 (V 0 0 - 1)).1, (rn T n (rn T n st 0 (V 0 0 - 1)).2 0 (V 0 1 - 1)).1, (rn T n (rn T n (rn T n st 0 (V 0 0 - 1)).2 0 (V 0 1 - 1)).2 (rn T n st 0 (V 0 0 - 1)).1 (V 0 0 - 1)).1, (rn T n (rn T n (rn T n (rn T n st 0 (V 0 0 - 1)).2 0 (V 0 1 - 1)).2 (rn T n st 0 (V 0 0 - 1)).1 (V 0 0 - 1)).2 (rn T n (rn T n st 0 (V 0 0 - 1)).2 0 (V 0 1 - 1)).1 (V 0 1 - 1)).1, (rn T n (rn T n (rn T n (rn T n (rn T n st 0 (V 0 0 - 1)).2 0 (V 0 1 - 1)).2 (rn T n st 0 (V 0 0 - 1)).1 (V 0 0 - 1)).2 (rn T n (rn T n st 0 (V 0 0 - 1)).2 0 (V 0 1 - 1)).1 (V 0 1 - 1)).2 1 99).1] 1 (5 * i + 2) < V 0 0) ∧ (0 ≤ apT V 1 5 5 [(rn T n st 0 (V 0 0 - 1)).1, (rn T n (rn T n st 0 (V 0 0 - 1)).2 0 (V 0 1 - 1)).1, (rn T n (rn T n (rn T n st 0 (V 0 0 - 1)).2 0 (V 0 1 - 1)).2 (rn T n st 0 (V 0 0 - 1)).1 (V 0 0 - 1)).1, (rn T n (rn T n (rn T n (rn T n st 0 (V 0 0 - 1)).2 0 (V 0 1 - 1)).2 (rn T n st 0 (V 0 0 - 1)).1 (V 0 0 - 1)).2 (rn T n (rn T n st 0 (V 0 0 - 1)).2 0 (V 0 1 - 1)).1 (V 0 1 - 1)).1, (rn T n (rn T n (rn T n (rn T n (rn T n st 0 (V 0 0 - 1)).2 0 (V 0 1 - 1)).2 (rn T n st 0 (V 0 0 - 1)).1 (V 0 0 - 1)).2 (rn T n (rn T n st 0 (V 0 0 - 1)).2 0 (V 0 1 - 1)).1 (V 0 1 - 1)).2 1 99).1] 1 (5 * i + 1) ∧ apT V 1 5 5 [(rn T n st 0 (V 0 0 - 1)).1, (rn T n (rn T n st 0 (V 0 0 - 1)).2 0 (V 0 1 - 1)).1, (rn T n (rn T n (rn T n st 0 (V 0 0 - 1)).2 0 (V 0 1 - 1)).2 (rn T n st 0 (V 0 0 - 1)).1 (V 0 0 - 1)).1, (rn T n (rn T n (rn T n (rn T n st 0 (V 0 0 - 1)).2 0 (V 0 1 - 1)).2 (rn T n st 0 (V 0 0 - 1)).1 (V 0 0 - 1)).2 (rn T n (rn T n st 0 (V 0 0 - 1)).2 0 (V 0 1 - 1)).1 (V 0 1 - 1)).1, (rn T n (rn T n (rn T n (rn T n (rn T n st 0 (V 0 0 - 1)).2 0 (V 0 1 - 1)).2 (rn T n st 0 (V 0 0 - 1)).1 (V 0 0 - 1)).2 (rn T n (rn T n st 0 (V 0 0 - 1)).2 0 (V 0 1 - 1)).1 (V 0 1 - 1)).2 1 99).1] 1 (5 * i + 1) ≤ apT V 1 5 5 [(rn T n st 0 (V 0 0 - 1)).1, (rn T n (rn T n st 0 (V 0 0 - 1)).2 0 (V 0 1 - 1)).1, (rn T n (rn T n (rn T n st 0 (V 0 0 - 1)).2 0 (V 0 1 - 1)).2 (rn T n st 0 (V 0 0 - 1)).1 (V 0 0 - 1)).1, (rn T n (rn T n (rn T n (rn T n st 0 (V 0 0 - 1)).2 0 (V 0 1 - 1)).2 (rn T n st 0 (V 0 0 - 1)).1 (V 0 0 - 1)).2 (rn T n (rn T n st 0 (V 0 0 - 1)).2 0 (V 0 1 - 1)).1 (V 0 1 - 1)).1, (rn T n (rn T n (rn T n (rn T n (rn T n st 0 (V 0 0 - 1)).2 0 (V 0 1 - 1)).2 (rn T n st 0 (V 0 0 - 1)).1 (V 0 0 - 1)).2 (rn T n (rn T n st 0 (V 0 0 - 1)).2 0 (V 0 1 - 1)).1 (V 0 1 - 1)).2 1 99).1] 1 (5 * i + 3) ∧ apT V 1 5 5 [(rn T n st 0 (V 0 0 - 1)).1, (rn T n (rn T n st 0 (V 0 0 - 1)).2 0 (V 0 1 - 1)).1, (rn T n (rn T n (rn T n st 0 (V 0 0 - 1)).2 0 (V 0 1 - 1)).2 (rn T n st 0 (V 0 0 - 1)).1 (V 0 0 - 1)).1, (rn T n (rn T n (rn T n (rn T n st 0 (V 0 0 - 1)).2 0 (V 0 1 - 1)).2 (rn T n st 0 (V 0 0 - 1)).1 (V 0 0 - 1)).2 (rn T n (rn T n st 0 (V 0 0 - 1)).2 0 (V 0 1 - 1)).1 (V 0 1 - 1)).1, (rn T n (rn T n (rn T n (rn T n (rn T n st 0 (V 0 0 - 1)).2 0 (V 0 1 - 1)).2 (rn T n st 0 (V 0 0 - 1)).1 (V 0 0 - 1)).2 (rn T n (rn T n st 0 (V 0 0 - 1)).2 0 (V 0 1 - 1)).1 (V 0 1 - 1)).2 1 99).1] 1 (5 * i + 3) < V 0 1) ∧ (1 ≤ apT V 1 5 5 [(rn T n st 0 (V 0 0 - 1)).1, (rn T n (rn T n st 0 (V 0 0 - 1)).2 0 (V 0 1 - 1)).1, (rn T n (rn T n (rn T n st 0 (V 0 0 - 1)).2 0 (V 0 1 - 1)).2 (rn T n st 0 (V 0 0 - 1)).1 (V 0 0 - 1)).1, (rn T n (rn T n (rn T n (rn T n st 0 (V 0 0 - 1)).2 0 (V 0 1 - 1)).2 (rn T n st 0 (V 0 0 - 1)).1 (V 0 0 - 1)).2 (rn T n (rn T n st 0 (V 0 0 - 1)).2 0 (V 0 1 - 1)).1 (V 0 1 - 1)).1, (rn T n (rn T n (rn T n (rn T n (rn T n st 0 (V 0 0 - 1)).2 0 (V 0 1 - 1)).2 (rn T n st 0 (V 0 0 - 1)).1 (V 0 0 - 1)).2 (rn T n (rn T n st 0 (V 0 0 - 1)).2 0 (V 0 1 - 1)).1 (V 0 1 - 1)).2 1 99).1] 1 (5 * i + 4) ∧ apT V 1 5 5 [(rn T n st 0 (V 0 0 - 1)).1, (rn T n (rn T n st 0 (V 0 0 - 1)).2 0 (V 0 1 - 1)).1, (rn T n (rn T n (rn T n st 0 (V 0 0 - 1)).2 0 (V 0 1 - 1)).2 (rn T n st 0 (V 0 0 - 1)).1 (V 0 0 - 1)).1, (rn T n (rn T n (rn T n (rn T n st 0 (V 0 0 - 1)).2 0 (V 0 1 - 1)).2 (rn T n st 0 (V 0 0 - 1)).1 (V 0 0 - 1)).2 (rn T n (rn T n st 0 (V 0 0 - 1)).2 0 (V 0 1 - 1)).1 (V 0 1 - 1)).1, (rn T n (rn T n (rn T n (rn T n (rn T n st 0 (V 0 0 - 1)).2 0 (V 0 1 - 1)).2 (rn T n st 0 (V 0 0 - 1)).1 (V 0 0 - 1)).2 (rn T n (rn T n st 0 (V 0 0 - 1)).2 0 (V 0 1 - 1)).1 (V 0 1 - 1)).2 1 99).1] 1 (5 * i + 4) ≤ 99)
        rw [e0, e1, e2, e3, e4]
        exact q
      · subst hc
        have e0 : apT V 1 5 5 [(rn T n st 0 (V 0 0 - 1)).1, (rn T n (rn T n st 0 (V 0 0 - 1)).2 0 (V 0 1 - 1)).1, (rn T n (rn T n (rn T n st 0 (V 0 0 - 1)).2 0 (V 0 1 - 1)).2 (rn T n st 0 (V 0 0 - 1)).1 (V 0 0 - 1)).1, (rn T n (rn T n (rn T n (rn T n st 0 (V 0 0 - 1)).2 0 (V 0 1 - 1)).2 (rn T n st 0 (V 0 0 - 1)).1 (V 0 0 - 1)).2 (rn T n (rn T n st 0 (V 0 0 - 1)).2 0 (V 0 1 - 1)).1 (V 0 1 - 1)).1, (rn T n (rn T n (rn T n (rn T n (rn T n st 0 (V 0 0 - 1)).2 0 (V 0 1 - 1)).2 (rn T n st 0 (V 0 0 - 1)).1 (V 0 0 - 1)).2 (rn T n (rn T n st 0 (V 0 0 - 1)).2 0 (V 0 1 - 1)).1 (V 0 1 - 1)).2 1 99).1] 1 (5 * (V 0 5).toNat) = (rn T n st 0 (V 0 0 - 1)).1 := apT_hi (l := [(rn T n st 0 (V 0 0 - 1)).1, (rn T n (rn T n st 0 (V 0 0 - 1)).2 0 (V 0 1 - 1)).1, (rn T n (rn T n (rn T n st 0 (V 0 0 - 1)).2 0 (V 0 1 - 1)).2 (rn T n st 0 (V 0 0 - 1)).1 (V 0 0 - 1)).1, (rn T n (rn T n (rn T n (rn T n st 0 (V 0 0 - 1)).2 0 (V 0 1 - 1)).2 (rn T n st 0 (V 0 0 - 1)).1 (V 0 0 - 1)).2 (rn T n (rn T n st 0 (V 0 0 - 1)).2 0 (V 0 1 - 1)).1 (V 0 1 - 1)).1, (rn T n (rn T n (rn T n (rn T n (rn T n st 0 (V 0 0 - 1)).2 0 (V 0 1 - 1)).2 (rn T n st 0 (V 0 0 - 1)).1 (V 0 0 - 1)).2 (rn T n (rn T n st 0 (V 0 0 - 1)).2 0 (V 0 1 - 1)).1 (V 0 1 - 1)).2 1 99).1]) (i := 0) (by omega)
        have e1 : apT V 1 5 5 [(rn T n st 0 (V 0 0 - 1)).1, (rn T n (rn T n st 0 (V 0 0 - 1)).2 0 (V 0 1 - 1)).1, (rn T n (rn T n (rn T n st 0 (V 0 0 - 1)).2 0 (V 0 1 - 1)).2 (rn T n st 0 (V 0 0 - 1)).1 (V 0 0 - 1)).1, (rn T n (rn T n (rn T n (rn T n st 0 (V 0 0 - 1)).2 0 (V 0 1 - 1)).2 (rn T n st 0 (V 0 0 - 1)).1 (V 0 0 - 1)).2 (rn T n (rn T n st 0 (V 0 0 - 1)).2 0 (V 0 1 - 1)).1 (V 0 1 - 1)).1, (rn T n (rn T n (rn T n (rn T n (rn T n st 0 (V 0 0 - 1)).2 0 (V 0 1 - 1)).2 (rn T n st 0 (V 0 0 - 1)).1 (V 0 0 - 1)).2 (rn T n (rn T n st 0 (V 0 0 - 1)).2 0 (V 0 1 - 1)).1 (V 0 1 - 1)).2 1 99).1] 1 (5 * (V 0 5).toNat + 1) = (rn T n (rn T n st 0 (V 0 0 - 1)).2 0 (V 0 1 - 1)).1 := apT_hi (l := [(rn T n st 0 (V 0 0 - 1)).1, (rn T n (rn T n st 0 (V 0 0 - 1)).2 0 (V 0 1 - 1)).1, (rn T n (rn T n (rn T n st 0 (V 0 0 - 1)).2 0 (V 0 1 - 1)).2 (rn T n st 0 (V 0 0 - 1)).1 (V 0 0 - 1)).1, (rn T n (rn T n (rn T n (rn T n st 0 (V 0 0 - 1)).2 0 (V 0 1 - 1)).2 (rn T n st 0 (V 0 0 - 1)).1 (V 0 0 - 1)).2 (rn T n (rn T n st 0 (V 0 0 - 1)).2 0 (V 0 1 - 1)).1 (V 0 1 - 1)).1, (rn T n (rn T n (rn T n (rn T n (rn T n st 0 (V 0 0 - 1)).2 0 (V 0 1 - 1)).2 (rn T n st 0 (V 0 0 - 1)).1 (V 0 0 - 1)).2 (rn T n (rn T n st 0 (V 0 0 - 1)).2 0 (V 0 1 - 1)).1 (V 0 1 - 1)).2 1 99).1]) (i := 1) (by omega)
        have e2 : apT V 1 5 5 [(rn T n st 0 (V 0 0 - 1)).1, (rn T n (rn T n st 0 (V 0 0 - 1)).2 0 (V 0 1 - 1)).1, (rn T n (rn T n (rn T n st 0 (V 0 0 - 1)).2 0 (V 0 1 - 1)).2 (rn T n st 0 (V 0 0 - 1)).1 (V 0 0 - 1)).1, (rn T n (rn T n (rn T n (rn T n st 0 (V 0 0 - 1)).2 0 (V 0 1 - 1)).2 (rn T n st 0 (V 0 0 - 1)).1 (V 0 0 - 1)).2 (rn T n (rn T n st 0 (V 0 0 - 1)).2 0 (V 0 1 - 1)).1 (V 0 1 - 1)).1, (rn T n (rn T n (rn T n (rn T n (rn T n st 0 (V 0 0 - 1)).2 0 (V 0 1 - 1)).2 (rn T n st 0 (V 0 0 - 1)).1 (V 0 0 - 1)).2 (rn T n (rn T n st 0 (V 0 0 - 1)).2 0 (V 0 1 - 1)).1 (V 0 1 - 1)).2 1 99).1] 1 (5 * (V 0 5).toNat + 2) = (rn T n (rn T n (rn T n st 0 (V 0 0 - 1)).2 0 (V 0 1 - 1)).2 (rn T n st 0 (V 0 0 - 1)).1 (V 0 0 - 1)).1 := apT_hi (l := [(rn T n st 0 (V 0 0 - 1)).1, (rn T n (rn T n st 0 (V 0 0 - 1)).2 0 (V 0 1 - 1)).1, (rn T n (rn T n (rn T n st 0 (V 0 0 - 1)).2 0 (V 0 1 - 1)).2 (rn T n st 0 (V 0 0 - 1)).1 (V 0 0 - 1)).1, (rn T n (rn T n (rn T n (rn T n st 0 (V 0 0 - 1)).2 0 (V 0 1 - 1)).2 (rn T n st 0 (V 0 0 - 1)).1 (V 0 0 - 1)).2 (rn T n (rn T n st 0 (V 0 0 - 1)).2 0 (V 0 1 - 1)).1 (V 0 1 - 1)).1, (rn T n (rn T n (rn T n (rn T n (rn T n st 0 (V 0 0 - 1)).2 0 (V 0 1 - 1)).2 (rn T n st 0 (V 0 0 - 1)).1 (V 0 0 - 1)).2 (rn T n (rn T n st 0 (V 0 0 - 1)).2 0 (V 0 1 - 1)).1 (V 0 1 - 1)).2 1 99).1]) (i := 2) (by omega)
        have e3 : apT V 1 5 5 [(rn T n st 0 (V 0 0 - 1)).1, (rn T n (rn T n st 0 (V 0 0 - 1)).2 0 (V 0 1 - 1)).1, (rn T n (rn T n (rn T n st 0 (V 0 0 - 1)).2 0 (V 0 1 - 1)).2 (rn T n st 0 (V 0 0 - 1)).1 (V 0 0 - 1)).1, (rn T n (rn T n (rn T n (rn T n st 0 (V 0 0 - 1)).2 0 (V 0 1 - 1)).2 (rn T n st 0 (V 0 0 - 1)).1 (V 0 0 - 1)).2 (rn T n (rn T n st 0 (V 0 0 - 1)).2 0 (V 0 1 - 1)).1 (V 0 1 - 1)).1, (rn T n (rn T n (rn T n (rn T n (rn T n st 0 (V 0 0 - 1)).2 0 (V 0 1 - 1)).2 (rn T n st 0 (V 0 0 - 1)).1 (V 0 0 - 1)).2 (rn T n (rn T n st 0 (V 0 0 - 1)).2 0 (V 0 1 - 1)).1 (V 0 1 - 1)).2 1 99).1] 1 (5 * (V 0 5).toNat + 3) = (rn T n (rn T n (rn T n (rn T n st 0 (V 0 0 - 1)).2 0 (V 0 1 - 1)).2 (rn T n st 0 (V 0 0 - 1)).1 (V 0 0 - 1)).2 (rn T n (rn T n st 0 (V 0 0 - 1)).2 0 (V 0 1 - 1)).1 (V 0 1 - 1)).1 := apT_hi (l := [(rn T n st 0 (V 0 0 - 1)).1, (rn T n (rn T n st 0 (V 0 0 - 1)).2 0 (V 0 1 - 1)).1, (rn T n (rn T n (rn T n st 0 (V 0 0 - 1)).2 0 (V 0 1 - 1)).2 (rn T n st 0 (V 0 0 - 1)).1 (V 0 0 - 1)).1, (rn T n (rn T n (rn T n (rn T n st 0 (V 0 0 - 1)).2 0 (V 0 1 - 1)).2 (rn T n st 0 (V 0 0 - 1)).1 (V 0 0 - 1)).2 (rn T n (rn T n st 0 (V 0 0 - 1)).2 0 (V 0 1 - 1)).1 (V 0 1 - 1)).1, (rn T n (rn T n (rn T n (rn T n (rn T n st 0 (V 0 0 - 1)).2 0 (V 0 1 - 1)).2 (rn T n st 0 (V 0 0 - 1)).1 (V 0 0 - 1)).2 (rn T n (rn T n st 0 (V 0 0 - 1)).2 0 (V 0 1 - 1)).1 (V 0 1 - 1)).2 1 99).1]) (i := 3) (by omega)
        have e4 : apT V 1 5 5 [(rn T n st 0 (V 0 0 - 1)).1, (rn T n (rn T n st 0 (V 0 0 - 1)).2 0 (V 0 1 - 1)).1, (rn T n (rn T n (rn T n st 0 (V 0 0 - 1)).2 0 (V 0 1 - 1)).2 (rn T n st 0 (V 0 0 - 1)).1 (V 0 0 - 1)).1, (rn T n (rn T n (rn T n (rn T n st 0 (V 0 0 - 1)).2 0 (V 0 1 - 1)).2 (rn T n st 0 (V 0 0 - 1)).1 (V 0 0 - 1)).2 (rn T n (rn T n st 0 (V 0 0 - 1)).2 0 (V 0 1 - 1)).1 (V 0 1 - 1)).1, (rn T n (rn T n (rn T n (rn T n (rn T n st 0 (V 0 0 - 1)).2 0 (V 0 1 - 1)).2 (rn T n st 0 (V 0 0 - 1)).1 (V 0 0 - 1)).2 (rn T n (rn T n st 0 (V 0 0 - 1)).2 0 (V 0 1 - 1)).1 (V 0 1 - 1)).2 1 99).1] 1 (5 * (V 0 5).toNat + 4) = (rn T n (rn T n (rn T n (rn T n (rn T n st 0 (V 0 0 - 1)).2 0 (V 0 1 - 1)).2 (rn T n st 0 (V 0 0 - 1)).1 (V 0 0 - 1)).2 (rn T n (rn T n st 0 (V 0 0 - 1)).2 0 (V 0 1 - 1)).1 (V 0 1 - 1)).2 1 99).1 := apT_hi (l := [(rn T n st 0 (V 0 0 - 1)).1, (rn T n (rn T n st 0 (V 0 0 - 1)).2 0 (V 0 1 - 1)).1, (rn T n (rn T n (rn T n st 0 (V 0 0 - 1)).2 0 (V 0 1 - 1)).2 (rn T n st 0 (V 0 0 - 1)).1 (V 0 0 - 1)).1, (rn T n (rn T n (rn T n (rn T n st 0 (V 0 0 - 1)).2 0 (V 0 1 - 1)).2 (rn T n st 0 (V 0 0 - 1)).1 (V 0 0 - 1)).2 (rn T n (rn T n st 0 (V 0 0 - 1)).2 0 (V 0 1 - 1)).1 (V 0 1 - 1)).1, (rn T n (rn T n (rn T n (rn T n (rn T n st 0 (V 0 0 - 1)).2 0 (V 0 1 - 1)).2 (rn T n st 0 (V 0 0 - 1)).1 (V 0 0 - 1)).2 (rn T n (rn T n st 0 (V 0 0 - 1)).2 0 (V 0 1 - 1)).1 (V 0 1 - 1)).2 1 99).1]) (i := 4) (by omega)
        show (0 ≤ apT V 1 5 5 [(rn T n st 0 (V 0 0 - 1)).1, (rn T n (rn T n st 0 (V 0 0 - 1)).2 0 (V 0 1 - 1)).1, (rn T n (rn T n (rn T n st 0 (V 0 0 - 1)).2 0 (V 0 1 - 1)).2 (rn T n st 0 (V 0 0 - 1)).1 (V 0 0 - 1)).1, (rn T n (rn T n (rn T n (rn T n st 0 (V 0 0 - 1)).2 0 (V 0 1 - 1)).2 (rn T n st 0 (V 0 0 - 1)).1 (V 0 0 - 1)).2 (rn T n (rn T n st 0 (V 0 0 - 1)).2 0 (V 0 1 - 1)).1 (V 0 1 - 1)).1, (rn T n (rn T n (rn T n (rn T n (rn T n st 0 (V 0 0 - 1)).2 0 (V 0 1 - 1)).2 (rn T n st 0 (V 0 0 - 1)).1 (V 0 0 - 1)).2 (rn T n (rn T n st 0 (V 0 0 - 1)).2 0 (V 0 1 - 1)).1 (V 0 1 - 1)).2 1 99).1] 1 (5 * (V 0 5).toNat) ∧ apT V 1 5 5 [(rn T n st 0 (V 0 0 - 1)).1, (rn T n (rn T n st 0 (V 0 0 - 1)).2 0 (V 0 1 - 1)).1, (rn T n (rn T n (rn T n st 0 (V 0 0 - 1)).2 0 (V 0 1 - 1)).2 (rn T n st 0 (V 0 0 - 1)).1 (V 0 0 - 1)).1, (rn T n (rn T n (rn T n (rn T n st 0 (V 0 0 - 1)).2 0 (V 0 1 - 1)).2 (rn T n st 0 (V 0 0 - 1)).1 (V 0 0 - 1)).2 (rn T n (rn T n st 0 (V 0 0 - 1)).2 0 (V 0 1 - 1)).1 (V 0 1 - 1)).1, (rn T n (rn T n (rn T n (rn T n (rn T n st 0 (V 0 0 - 1)).2 0 (V 0 1 - 1)).2 (rn T n st 0 (V 0 0 - 1)).1 (V 0 0 - 1)).2 (rn T n (rn T n st 0 (V 0 0 - 1)).2 0 (V 0 1 - 1)).1 (V 0 1 - 1)).2 1 99).1] 1 (5 * (V 0 5).toNat) ≤ apT V 1 5 5 [(rn T n st 0 (V 0 0 - 1)).1, (rn T n (rn T n st 0 (V 0 0 - 1)).2 0 (V 0 1 - 1)).1, (rn T n (rn T n (rn T n st 0 (V 0 0 - 1)).2 0 (V 0 1 - 1)).2 (rn T n st 0 (V 0 0 - 1)).1 (V 0 0 - 1)).1, (rn T n (rn T n (rn T n (rn T n st 0 (V 0 0 - 1)).2 0 (V 0 1 - 1)).2 (rn T n st 0 (V 0 0 - 1)).1 (V 0 0 - 1)).2 (rn T n (rn T n st 0 (V 0 0 - 1)).2 0 (V 0 1 - 1)).1 (V 0 1 - 1)).1, (rn T n (rn T n (rn T n (rn T n (rn T n st 0 (V 0 0 - 1)).2 0 (V 0 1 - 1)).2 (rn T n st 0 (V 0 0 - 1)).1 (V 0 0 - 1)).2 (rn T n (rn T n st 0 (V 0 0 - 1)).2 0 (V 0 1 - 1)).1 (V 0 1 - 1)).2 1 99).1] 1 (5 * (V 0 5).toNat + 2) ∧ apT V 1 5 5 [(rn T n st 0 (V 0 0 - 1)).1, (rn T n (rn T n st 0 (V 0 0 - 1)).2 0 (V 0 1 - 1)).1, (rn T n (rn T n (rn T n st 0 (V 0 0 - 1)).2 0 (V 0 1 - 1)).2 (rn T n st 0 (V 0 0 - 1)).1 (V 0 0 - 1)).1, (rn T n (rn T n (rn T n (rn T n st 0 (V 0 0 - 1)).2 0 (V 0 1 - 1)).2 (rn T n st 0 (V 0 0 - 1)).1 (V 0 0 - 1)).2 (rn T n (rn T n st 0 (V 0 0 - 1)).2 0 (V 0 1 - 1)).1 (V 0 1 - 1)).1, (rn T n (rn T n (rn T n (rn T n (rn T n st 0 (V 0 0 - 1)).2 0 (V 0 1 - 1)).2 (rn T n st 0 (V 0 0 - 1)).1 (V 0 0 - 1)).2 (rn T n (rn T n st 0 (V 0 0 - 1)).2 0 (V 0 1 - 1)).1 (V 0 1 - 1)).2 1 99).1] 1 (5 * (V 0 5).toNat + 2) < V 0 0) ∧ (0 ≤ apT V 1 5 5 [(rn T n st 0 (V 0 0 - 1)).1, (rn T n (rn T n st 0 (V 0 0 - 1)).2 0 (V 0 1 - 1)).1, (rn T n (rn T n (rn T n st 0 (V 0 0 - 1)).2 0 (V 0 1 - 1)).2 (rn T n st 0 (V 0 0 - 1)).1 (V 0 0 - 1)).1, (rn T n (rn T n (rn T n (rn T n st 0 (V 0 0 - 1)).2 0 (V 0 1 - 1)).2 (rn T n st 0 (V 0 0 - 1)).1 (V 0 0 - 1)).2 (rn T n (rn T n st 0 (V 0 0 - 1)).2 0 (V 0 1 - 1)).1 (V 0 1 - 1)).1, (rn T n (rn T n (rn T n (rn T n (rn T n st 0 (V 0 0 - 1)).2 0 (V 0 1 - 1)).2 (rn T n st 0 (V 0 0 - 1)).1 (V 0 0 - 1)).2 (rn T n (rn T n st 0 (V 0 0 - 1)).2 0 (V 0 1 - 1)).1 (V 0 1 - 1)).2 1 99).1] 1 (5 * (V 0 5).toNat + 1) ∧ apT V 1 5 5 [(rn T n st 0 (V 0 0 - 1)).1, (rn T n (rn T n st 0 (V 0 0 - 1)).2 0 (V 0 1 - 1)).1, (rn T n (rn T n (rn T n st 0 (V 0 0 - 1)).2 0 (V 0 1 - 1)).2 (rn T n st 0 (V 0 0 - 1)).1 (V 0 0 - 1)).1, (rn T n (rn T n (rn T n (rn T n st 0 (V 0 0 - 1)).2 0 (V 0 1 - 1)).2 (rn T n st 0 (V 0 0 - 1)).1 (V 0 0 - 1)).2 (rn T n (rn T n st 0 (V 0 0 - 1)).2 0 (V 0 1 - 1)).1 (V 0 1 - 1)).1, (rn T n (rn T n (rn T n (rn T n (rn T n st 0 (V 0 0 - 1)).2 0 (V 0 1 - 1)).2 (rn T n st 0 (V 0 0 - 1)).1 (V 0 0 - 1)).2 (rn T n (rn T n st 0 (V 0 0 - 1)).2 0 (V 0 1 - 1)).1 (V 0 1 - 1)).2 1 99).1] 1 (5 * (V 0 5).toNat + 1) ≤ apT V 1 5 5 [(rn T n st 0 (V 0 0 - 1)).1, (rn T n (rn T n st 0 (V 0 0 - 1)).2 0 (V 0 1 - 1)).1, (rn T n (rn T n (rn T n st 0 (V 0 0 - 1)).2 0 (V 0 1 - 1)).2 (rn T n st 0 (V 0 0 - 1)).1 (V 0 0 - 1)).1, (rn T n (rn T n (rn T n (rn T n st 0 (V 0 0 - 1)).2 0 (V 0 1 - 1)).2 (rn T n st 0 (V 0 0 - 1)).1 (V 0 0 - 1)).2 (rn T n (rn T n st 0 (V 0 0 - 1)).2 0 (V 0 1 - 1)).1 (V 0 1 - 1)).1, (rn T n (rn T n (rn T n (rn T n (rn T n st 0 (V 0 0 - 1)).2 0 (V 0 1 - 1)).2 (rn T n st 0 (V 0 0 - 1)).1 (V 0 0 - 1)).2 (rn T n (rn T n st 0 (V 0 0 - 1)).2 0 (V 0 1 - 1)).1 (V 0 1 - 1)).2 1 99).1] 1 (5 * (V 0 5).toNat + 3) ∧ apT V 1 5 5 [(rn T n st 0 (V 0 0 - 1)).1, (rn T n (rn T n st 0 (V 0 0 - 1)).2 0 (V 0 1 - 1)).1, (rn T n (rn T n (rn T n st 0 (V 0 0 - 1)).2 0 (V 0 1 - 1)).2 (rn T n st 0 (V 0 0 - 1)).1 (V 0 0 - 1)).1, (rn T n (rn T n (rn T n (rn T n st 0 (V 0 0 - 1)).2 0 (V 0 1 - 1)).2 (rn T n st 0 (V 0 0 - 1)).1 (V 0 0 - 1)).2 (rn T n (rn T n st 0 (V 0 0 - 1)).2 0 (V 0 1 - 1)).1 (V 0 1 - 1)).1, (rn T n (rn T n (rn T n (rn T n (rn T n st 0 (V 0 0 - 1)).2 0 (V 0 1 - 1)).2 (rn T n st 0 (V 0 0 - 1)).1 (V 0 0 - 1)).2 (rn T n (rn T n st 0 (V 0 0 - 1)).2 0 (V 0 1 - 1)).1 (V 0 1 - 1)).2 1 99).1] 1 (5 * (V 0 5).toNat + 3) < V 0 1) ∧ (1 ≤ apT V 1 5 5 [(rn T n st 0 (V 0 0 - 1)).1, (rn T n (rn T n st 0 (V 0 0 - 1)).2 0 (V 0 1 - 1)).1, (rn T n (rn T n (rn T n st 0 (V 0 0 - 1)).2 0 (V 0 1 - 1)).2 (rn T n st 0 (V 0 0 - 1)).1 (V 0 0 - 1)).1, (rn T n (rn T n (rn T n (rn T n st 0 (V 0 0 - 1)).2 0 (V 0 1 - 1)).2 (rn T n st 0 (V 0 0 - 1)).1 (V 0 0 - 1)).2 (rn T n (rn T n st 0 (V 0 0 - 1)).2 0 (V 0 1 - 1)).1 (V 0 1 - 1)).1, (rn T n (rn T n (rn T n (rn T n (rn T n st 0 (V 0 0 - 1)).2 0 (V 0 1 - 1)).2 (rn T n st 0 (V 0 0 - 1)).1 (V 0 0 - 1)).2 (rn T n (rn T n st 0 (V 0 0 - 1)).2 0 (V 0 1 - 1)).1 (V 0 1 - 1)).2 1 99).1] 1 (5 * (V 0 5).toNat + 4) ∧ apT V 1 5 5 [(rn T n st 0 (V 0 0 - 1)).1, (rn T n (rn T n st 0 (V 0 0 - 1)).2 0 (V 0 1 - 1)).1, (rn T n (rn T n (rn T n st 0 (V 0 0 - 1)).2 0 (V 0 1 - 1)).2 (rn T n st 0 (V 0 0 - 1)).1 (V 0 0 - 1)).1, (rn T n (rn T n (rn T n (rn T n st 0 (V 0 0 - 1)).2 0 (V 0 1 - 1)).2 (rn T n st 0 (V 0 0 - 1)).1 (V 0 0 - 1)).2 (rn T n (rn T n st 0 (V 0 0 - 1)).2 0 (V 0 1 - 1)).1 (V 0 1 - 1)).1, (rn T n (rn T n (rn T n (rn T n (rn T n st 0 (V 0 0 - 1)).2 0 (V 0 1 - 1)).2 (rn T n st 0 (V 0 0 - 1)).1 (V 0 0 - 1)).2 (rn T n (rn T n st 0 (V 0 0 - 1)).2 0 (V 0 1 - 1)).1 (V 0 1 - 1)).2 1 99).1] 1 (5 * (V 0 5).toNat + 4) ≤ 99)
        rw [e0, e1, e2, e3, e4]
        omega
  · have r3 := rn_ok hok
    obtain ⟨⟨a2, q2⟩, w2⟩ := r3
    have r2 := rn_ok q2
    obtain ⟨⟨a1, q1⟩, w1⟩ := r2
    have r1 := rn_ok q1
    have hrow : ∀ i : Nat, (i : Int) < V 0 6 + 1 → i < (V 0 6).toNat ∨ i = (V 0 6).toNat := fun i hi => by omega
    refine ⟨⟨v1, v2, v3, v4⟩, ⟨v5, v6⟩, ?_, v8, ?_, v10, v11, v12, v13⟩
    · have e : (apT V 2 6 3 [(rn T n st 0 (V 0 0 - 1)).1, (rn T n (rn T n st 0 (V 0 0 - 1)).2 0 (V 0 1 - 1)).1, (rn T n (rn T n (rn T n st 0 (V 0 0 - 1)).2 0 (V 0 1 - 1)).2 0 99).1]) 0 6 = V 0 6 + 1 := rfl
      obtain ⟨z5, z6, z7, z8, z9, z10⟩ := v7
      exact ⟨z5, ⟨show 0 ≤ V 0 6 + 1 by omega, show V 0 6 + 1 ≤ 4 by omega⟩, z7, z8, z9, z10⟩
    · intro i hi
      rcases hrow i hi with hc | hc
      · have q := v9 i (by omega)
        have e0 : apT V 2 6 3 [(rn T n st 0 (V 0 0 - 1)).1, (rn T n (rn T n st 0 (V 0 0 - 1)).2 0 (V 0 1 - 1)).1, (rn T n (rn T n (rn T n st 0 (V 0 0 - 1)).2 0 (V 0 1 - 1)).2 0 99).1] 2 (3 * i) = V 2 (3 * i) := apT_lo (by omega) (by omega)
        have e1 : apT V 2 6 3 [(rn T n st 0 (V 0 0 - 1)).1, (rn T n (rn T n st 0 (V 0 0 - 1)).2 0 (V 0 1 - 1)).1, (rn T n (rn T n (rn T n st 0 (V 0 0 - 1)).2 0 (V 0 1 - 1)).2 0 99).1] 2 (3 * i + 1) = V 2 (3 * i + 1) := apT_lo (by omega) (by omega)
        have e2 : apT V 2 6 3 [(rn T n st 0 (V 0 0 - 1)).1, (rn T n (rn T n st 0 (V 0 0 - 1)).2 0 (V 0 1 - 1)).1, (rn T n (rn T n (rn T n st 0 (V 0 0 - 1)).2 0 (V 0 1 - 1)).2 0 99).1] 2 (3 * i + 2) = V 2 (3 * i + 2) := apT_lo (by omega) (by omega)
        show (0 ≤ apT V 2 6 3 [(rn T n st 0 (V 0 0 - 1)).1, (rn T n (rn T n st 0 (V 0 0 - 1)).2 0 (V 0 1 - 1)).1, (rn T n (rn T n (rn T n st 0 (V 0 0 - 1)).2 0 (V 0 1 - 1)).2 0 99).1] 2 (3 * i) ∧ apT V 2 6 3 [(rn T n st 0 (V 0 0 - 1)).1, (rn T n (rn T n st 0 (V 0 0 - 1)).2 0 (V 0 1 - 1)).1, (rn T n (rn T n (rn T n st 0 (V 0 0 - 1)).2 0 (V 0 1 - 1)).2 0 99).1] 2 (3 * i) < V 0 0) ∧ (0 ≤ apT V 2 6 3 [(rn T n st 0 (V 0 0 - 1)).1, (rn T n (rn T n st 0 (V 0 0 - 1)).2 0 (V 0 1 - 1)).1, (rn T n (rn T n (rn T n st 0 (V 0 0 - 1)).2 0 (V 0 1 - 1)).2 0 99).1] 2 (3 * i + 1) ∧ apT V 2 6 3 [(rn T n st 0 (V 0 0 - 1)).1, (rn T n (rn T n st 0 (V 0 0 - 1)).2 0 (V 0 1 - 1)).1, (rn T n (rn T n (rn T n st 0 (V 0 0 - 1)).2 0 (V 0 1 - 1)).2 0 99).1] 2 (3 * i + 1) < V 0 1) ∧ (0 ≤ apT V 2 6 3 [(rn T n st 0 (V 0 0 - 1)).1, (rn T n (rn T n st 0 (V 0 0 - 1)).2 0 (V 0 1 - 1)).1, (rn T n (rn T n (rn T n st 0 (V 0 0 - 1)).2 0 (V 0 1 - 1)).2 0 99).1] 2 (3 * i + 2) ∧ apT V 2 6 3 [(rn T n st 0 (V 0 0 - 1)).1, (rn T n (rn T n st 0 (V 0 0 - 1)).2 0 (V 0 1 - 1)).1, (rn T n (rn T n (rn T n st 0 (V 0 0 - 1)).2 0 (V 0 1 - 1)).2 0 99).1] 2 (3 * i + 2) ≤ 99)
        rw [e0, e1, e2]
        exact q
      · subst hc
        have e0 : apT V 2 6 3 [(rn T n st 0 (V 0 0 - 1)).1, (rn T n (rn T n st 0 (V 0 0 - 1)).2 0 (V 0 1 - 1)).1, (rn T n (rn T n (rn T n st 0 (V 0 0 - 1)).2 0 (V 0 1 - 1)).2 0 99).1] 2 (3 * (V 0 6).toNat) = (rn T n st 0 (V 0 0 - 1)).1 := apT_hi (l := [(rn T n st 0 (V 0 0 - 1)).1, (rn T n (rn T n st 0 (V 0 0 - 1)).2 0 (V 0 1 - 1)).1, (rn T n (rn T n (rn T n st 0 (V 0 0 - 1)).2 0 (V 0 1 - 1)).2 0 99).1]) (i := 0) (by omega)
        have e1 : apT V 2 6 3 [(rn T n st 0 (V 0 0 - 1)).1, (rn T n (rn T n st 0 (V 0 0 - 1)).2 0 (V 0 1 - 1)).1, (rn T n (rn T n (rn T n st 0 (V 0 0 - 1)).2 0 (V 0 1 - 1)).2 0 99).1] 2 (3 * (V 0 6).toNat + 1) = (rn T n (rn T n st 0 (V 0 0 - 1)).2 0 (V 0 1 - 1)).1 := apT_hi (l := [(rn T n st 0 (V 0 0 - 1)).1, (rn T n (rn T n st 0 (V 0 0 - 1)).2 0 (V 0 1 - 1)).1, (rn T n (rn T n (rn T n st 0 (V 0 0 - 1)).2 0 (V 0 1 - 1)).2 0 99).1]) (i := 1) (by omega)
        have e2 : apT V 2 6 3 [(rn T n st 0 (V 0 0 - 1)).1, (rn T n (rn T n st 0 (V 0 0 - 1)).2 0 (V 0 1 - 1)).1, (rn T n (rn T n (rn T n st 0 (V 0 0 - 1)).2 0 (V 0 1 - 1)).2 0 99).1] 2 (3 * (V 0 6).toNat + 2) = (rn T n (rn T n (rn T n st 0 (V 0 0 - 1)).2 0 (V 0 1 - 1)).2 0 99).1 := apT_hi (l := [(rn T n st 0 (V 0 0 - 1)).1, (rn T n (rn T n st 0 (V 0 0 - 1)).2 0 (V 0 1 - 1)).1, (rn T n (rn T n (rn T n st 0 (V 0 0 - 1)).2 0 (V 0 1 - 1)).2 0 99).1]) (i := 2) (by omega)
        show (0 ≤ apT V 2 6 3 [(rn T n st 0 (V 0 0 - 1)).1, (rn T n (rn T n st 0 (V 0 0 - 1)).2 0 (V 0 1 - 1)).1, (rn T n (rn T n (rn T n st 0 (V 0 0 - 1)).2 0 (V 0 1 - 1)).2 0 99).1] 2 (3 * (V 0 6).toNat) ∧ apT V 2 6 3 [(rn T n st 0 (V 0 0 - 1)).1, (rn T n (rn T n st 0 (V 0 0 - 1)).2 0 (V 0 1 - 1)).1, (rn T n (rn T n (rn T n st 0 (V 0 0 - 1)).2 0 (V 0 1 - 1)).2 0 99).1] 2 (3 * (V 0 6).toNat) < V 0 0) ∧ (0 ≤ apT V 2 6 3 [(rn T n st 0 (V 0 0 - 1)).1, (rn T n (rn T n st 0 (V 0 0 - 1)).2 0 (V 0 1 - 1)).1, (rn T n (rn T n (rn T n st 0 (V 0 0 - 1)).2 0 (V 0 1 - 1)).2 0 99).1] 2 (3 * (V 0 6).toNat + 1) ∧ apT V 2 6 3 [(rn T n st 0 (V 0 0 - 1)).1, (rn T n (rn T n st 0 (V 0 0 - 1)).2 0 (V 0 1 - 1)).1, (rn T n (rn T n (rn T n st 0 (V 0 0 - 1)).2 0 (V 0 1 - 1)).2 0 99).1] 2 (3 * (V 0 6).toNat + 1) < V 0 1) ∧ (0 ≤ apT V 2 6 3 [(rn T n st 0 (V 0 0 - 1)).1, (rn T n (rn T n st 0 (V 0 0 - 1)).2 0 (V 0 1 - 1)).1, (rn T n (rn T n (rn T n st 0 (V 0 0 - 1)).2 0 (V 0 1 - 1)).2 0 99).1] 2 (3 * (V 0 6).toNat + 2) ∧ apT V 2 6 3 [(rn T n st 0 (V 0 0 - 1)).1, (rn T n (rn T n st 0 (V 0 0 - 1)).2 0 (V 0 1 - 1)).1, (rn T n (rn T n (rn T n st 0 (V 0 0 - 1)).2 0 (V 0 1 - 1)).2 0 99).1] 2 (3 * (V 0 6).toNat + 2) ≤ 99)
        rw [e0, e1, e2]
        omega
  · have r2 := rn_ok hok
    obtain ⟨⟨a1, q1⟩, w1⟩ := r2
    have r1 := rn_ok q1
    have hrow : ∀ i : Nat, (i : Int) < V 0 7 + 1 → i < (V 0 7).toNat ∨ i = (V 0 7).toNat := fun i hi => by omega
    refine ⟨⟨v1, v2, v3, v4⟩, ⟨v5, v6⟩, ?_, v8, v9, ?_, v11, v12, v13⟩
    · have e : (apT V 3 7 2 [(rn T n st 0 9).1, (rn T n (rn T n st 0 9).2 1 9).1]) 0 7 = V 0 7 + 1 := rfl
      obtain ⟨z5, z6, z7, z8, z9, z10⟩ := v7
      exact ⟨z5, z6, ⟨show 0 ≤ V 0 7 + 1 by omega, show V 0 7 + 1 ≤ 4 by omega⟩, z8, z9, z10⟩
    · intro i hi
      rcases hrow i hi with hc | hc
      · have q := v10 i (by omega)
        have e0 : apT V 3 7 2 [(rn T n st 0 9).1, (rn T n (rn T n st 0 9).2 1 9).1] 3 (2 * i) = V 3 (2 * i) := apT_lo (by omega) (by omega)
        have e1 : apT V 3 7 2 [(rn T n st 0 9).1, (rn T n (rn T n st 0 9).2 1 9).1] 3 (2 * i + 1) = V 3 (2 * i + 1) := apT_lo (by omega) (by omega)
        show (0 ≤ apT V 3 7 2 [(rn T n st 0 9).1, (rn T n (rn T n st 0 9).2 1 9).1] 3 (2 * i) ∧ apT V 3 7 2 [(rn T n st 0 9).1, (rn T n (rn T n st 0 9).2 1 9).1] 3 (2 * i) ≤ 9) ∧ (1 ≤ apT V 3 7 2 [(rn T n st 0 9).1, (rn T n (rn T n st 0 9).2 1 9).1] 3 (2 * i + 1) ∧ apT V 3 7 2 [(rn T n st 0 9).1, (rn T n (rn T n st 0 9).2 1 9).1] 3 (2 * i + 1) ≤ 9)
        rw [e0, e1]
        exact q
      · subst hc
        have e0 : apT V 3 7 2 [(rn T n st 0 9).1, (rn T n (rn T n st 0 9).2 1 9).1] 3 (2 * (V 0 7).toNat) = (rn T n st 0 9).1 := apT_hi (l := [(rn T n st 0 9).1, (rn T n (rn T n st 0 9).2 1 9).1]) (i := 0) (by omega)
        have e1 : apT V 3 7 2 [(rn T n st 0 9).1, (rn T n (rn T n st 0 9).2 1 9).1] 3 (2 * (V 0 7).toNat + 1) = (rn T n (rn T n st 0 9).2 1 9).1 := apT_hi (l := [(rn T n st 0 9).1, (rn T n (rn T n st 0 9).2 1 9).1]) (i := 1) (by omega)
        show (0 ≤ apT V 3 7 2 [(rn T n st 0 9).1, (rn T n (rn T n st 0 9).2 1 9).1] 3 (2 * (V 0 7).toNat) ∧ apT V 3 7 2 [(rn T n st 0 9).1, (rn T n (rn T n st 0 9).2 1 9).1] 3 (2 * (V 0 7).toNat) ≤ 9) ∧ (1 ≤ apT V 3 7 2 [(rn T n st 0 9).1, (rn T n (rn T n st 0 9).2 1 9).1] 3 (2 * (V 0 7).toNat + 1) ∧ apT V 3 7 2 [(rn T n st 0 9).1, (rn T n (rn T n st 0 9).2 1 9).1] 3 (2 * (V 0 7).toNat + 1) ≤ 9)
        rw [e0, e1]
        omega
  · have r2 := rn_ok hok
    obtain ⟨⟨a1, q1⟩, w1⟩ := r2
    have r1 := rn_ok q1
    have hrow : ∀ i : Nat, (i : Int) < V 0 9 + 1 → i < (V 0 9).toNat ∨ i = (V 0 9).toNat := fun i hi => by omega
    refine ⟨⟨v1, v2, v3, v4⟩, ⟨v5, v6⟩, ?_, v8, v9, v10, v11, ?_, v13⟩
    · have e : (apT V 5 9 2 [(rn T n st 0 (V 0 0 - 1)).1, (rn T n (rn T n st 0 (V 0 0 - 1)).2 0 (V 0 1 - 1)).1]) 0 9 = V 0 9 + 1 := rfl
      obtain ⟨z5, z6, z7, z8, z9, z10⟩ := v7
      exact ⟨z5, z6, z7, z8, ⟨show 0 ≤ V 0 9 + 1 by omega, show V 0 9 + 1 ≤ 8 by omega⟩, z10⟩
    · intro i hi
      rcases hrow i hi with hc | hc
      · have q := v12 i (by omega)
        have e0 : apT V 5 9 2 [(rn T n st 0 (V 0 0 - 1)).1, (rn T n (rn T n st 0 (V 0 0 - 1)).2 0 (V 0 1 - 1)).1] 5 (2 * i) = V 5 (2 * i) := apT_lo (by omega) (by omega)
        have e1 : apT V 5 9 2 [(rn T n st 0 (V 0 0 - 1)).1, (rn T n (rn T n st 0 (V 0 0 - 1)).2 0 (V 0 1 - 1)).1] 5 (2 * i + 1) = V 5 (2 * i + 1) := apT_lo (by omega) (by omega)
        show (0 ≤ apT V 5 9 2 [(rn T n st 0 (V 0 0 - 1)).1, (rn T n (rn T n st 0 (V 0 0 - 1)).2 0 (V 0 1 - 1)).1] 5 (2 * i) ∧ apT V 5 9 2 [(rn T n st 0 (V 0 0 - 1)).1, (rn T n (rn T n st 0 (V 0 0 - 1)).2 0 (V 0 1 - 1)).1] 5 (2 * i) < V 0 0) ∧ (0 ≤ apT V 5 9 2 [(rn T n st 0 (V 0 0 - 1)).1, (rn T n (rn T n st 0 (V 0 0 - 1)).2 0 (V 0 1 - 1)).1] 5 (2 * i + 1) ∧ apT V 5 9 2 [(rn T n st 0 (V 0 0 - 1)).1, (rn T n (rn T n st 0 (V 0 0 - 1)).2 0 (V 0 1 - 1)).1] 5 (2 * i + 1) < V 0 1)
        rw [e0, e1]
        exact q
      · subst hc
        have e0 : apT V 5 9 2 [(rn T n st 0 (V 0 0 - 1)).1, (rn T n (rn T n st 0 (V 0 0 - 1)).2 0 (V 0 1 - 1)).1] 5 (2 * (V 0 9).toNat) = (rn T n st 0 (V 0 0 - 1)).1 := apT_hi (l := [(rn T n st 0 (V 0 0 - 1)).1, (rn T n (rn T n st 0 (V 0 0 - 1)).2 0 (V 0 1 - 1)).1]) (i := 0) (by omega)
        have e1 : apT V 5 9 2 [(rn T n st 0 (V 0 0 - 1)).1, (rn T n (rn T n st 0 (V 0 0 - 1)).2 0 (V 0 1 - 1)).1] 5 (2 * (V 0 9).toNat + 1) = (rn T n (rn T n st 0 (V 0 0 - 1)).2 0 (V 0 1 - 1)).1 := apT_hi (l := [(rn T n st 0 (V 0 0 - 1)).1, (rn T n (rn T n st 0 (V 0 0 - 1)).2 0 (V 0 1 - 1)).1]) (i := 1) (by omega)
        show (0 ≤ apT V 5 9 2 [(rn T n st 0 (V 0 0 - 1)).1, (rn T n (rn T n st 0 (V 0 0 - 1)).2 0 (V 0 1 - 1)).1] 5 (2 * (V 0 9).toNat) ∧ apT V 5 9 2 [(rn T n st 0 (V 0 0 - 1)).1, (rn T n (rn T n st 0 (V 0 0 - 1)).2 0 (V 0 1 - 1)).1] 5 (2 * (V 0 9).toNat) < V 0 0) ∧ (0 ≤ apT V 5 9 2 [(rn T n st 0 (V 0 0 - 1)).1, (rn T n (rn T n st 0 (V 0 0 - 1)).2 0 (V 0 1 - 1)).1] 5 (2 * (V 0 9).toNat + 1) ∧ apT V 5 9 2 [(rn T n st 0 (V 0 0 - 1)).1, (rn T n (rn T n st 0 (V 0 0 - 1)).2 0 (V 0 1 - 1)).1] 5 (2 * (V 0 9).toNat + 1) < V 0 1)
        rw [e0, e1]
        omega
  · have r1 := rn_ok hok
    exact ⟨⟨v1, v2, v3, v4⟩, ⟨⟨show 1 ≤ (rn T n st 1 99).1 by omega, show (rn T n st 1 99).1 ≤ 99 by omega⟩, v6⟩, v7, v8, v9, v10, v11, v12, v13⟩
  · have r1 := rn_ok hok
    exact ⟨⟨v1, v2, v3, v4⟩, ⟨v5, ⟨show 0 ≤ (rn T n st 0 2).1 by omega, show (rn T n st 0 2).1 ≤ 2 by omega⟩⟩, v7, v8, v9, v10, v11, v12, v13⟩
def ZV (V : VL) : Prop := V 0 4 = 0 ∧ V 0 10 = 0
theorem ZV_cl (hZ : ZV V) {k : Int} (hk : 0 ≤ k ∧ k ≤ 9) : ZV (cl T n k.toNat V st).1 := by
  have : k = 0 ∨ k = 1 ∨ k = 2 ∨ k = 3 ∨ k = 4 ∨ k = 5 ∨ k = 6 ∨ k = 7 ∨ k = 8 ∨ k = 9 := by omega
  rcases this with rfl | rfl | rfl | rfl | rfl | rfl | rfl | rfl | rfl | rfl <;> exact hZ
theorem knS_ok {i a b : Nat} (h : knS T n i V a = .ok b) : b = ltr T n (n - a) a ∧ kn T n a ≠ -1 ∧ (kn T n a = 0 ↔ i = 0) ∧ i < 60 ∧ full V (kn T n a) = false := by
  unfold knS at h
  by_cases h1 : kn T n a = -1 ∨ ¬ (kn T n a = 0 ↔ i = 0)
  · rw [if_pos h1] at h; cases h
  · rw [if_neg h1] at h
    by_cases h2 : 60 ≤ i ∨ full V (kn T n a) = true
    · rw [if_pos h2] at h; cases h
    · rw [if_neg h2] at h
      cases h
      refine ⟨rfl, fun z => h1 (Or.inl z), ?_, ?_, ?_⟩
      · exact Classical.not_not.mp (fun z => h1 (Or.inr z))
      · omega
      · exact Bool.eq_false_iff.mpr (fun z => h2 (Or.inr z))
theorem kn_B {a : Nat} (ha : a ≤ n) : -1 ≤ kn T n a ∧ kn T n a ≤ 9 := by
  have hl := ltr_B (T := T) (n - a) a ha
  exact (kd_iff (T := T) hl.1 (fun i q1 q2 => ltr_L (n - a) a i q1 q2)).2
/-- what the text tells is a valley, if it has no fault -/
theorem pl_V : ∀ (d i : Nat) (V : VL) (a : Nat), VX V → ZV V → (i = 0 → V = V00) → a ≤ n → ∀ b, (pl T n d i V a).2 = .ok b → VX (pl T n d i V a).1 ∧ ZV (pl T n d i V a).1 := by
  intro d
  induction d with
  | zero => intro i V a hV hZ _ _ b _; exact ⟨hV, hZ⟩
  | succ d ih =>
    intro i V a hV hZ h0 ha b hb
    have hsB := skp_B (T := T) (n - a) a ha
    have e : pl T n (d + 1) i V a = if n ≤ skp T n (n - a) a then (V, .ok (skp T n (n - a) a)) else pl1 T n (pl T n d (i + 1)) (kn T n (skp T n (n - a) a)).toNat V (knS T n i V (skp T n (n - a) a)) := rfl
    rw [e] at hb ⊢
    by_cases hl : n ≤ skp T n (n - a) a
    · rw [if_pos hl]; exact ⟨hV, hZ⟩
    · rw [if_neg hl] at hb ⊢
      generalize hk : knS T n i V (skp T n (n - a) a) = ks at hb ⊢
      cases ks with
      | error e => have z : (Except.error e : ST) = .ok b := hb; cases z
      | ok b1 =>
        have q := knS_ok hk
        have qk := kn_B (T := T) hsB.2
        change (pl2 (pl T n d (i + 1)) (cl T n (kn T n (skp T n (n - a) a)).toNat V (.ok b1)).1 (enS T n (cl T n (kn T n (skp T n (n - a) a)).toNat V (.ok b1)).2)).2 = .ok b at hb
        show VX (pl2 (pl T n d (i + 1)) (cl T n (kn T n (skp T n (n - a) a)).toNat V (.ok b1)).1 (enS T n (cl T n (kn T n (skp T n (n - a) a)).toNat V (.ok b1)).2)).1 ∧ ZV (pl2 (pl T n d (i + 1)) (cl T n (kn T n (skp T n (n - a) a)).toNat V (.ok b1)).1 (enS T n (cl T n (kn T n (skp T n (n - a) a)).toNat V (.ok b1)).2)).1
        generalize hc : (cl T n (kn T n (skp T n (n - a) a)).toNat V (.ok b1)).2 = st1 at hb ⊢
        cases st1 with
        | error e => have z : (Except.error e : ST) = .ok b := hb; cases z
        | ok a1 =>
          have hV1 := VX_cl hV (by omega) q.2.2.2.2 (fun z => h0 (q.2.2.1.mp z)) hc
          have hZ1 := ZV_cl (T := T) (n := n) (st := .ok b1) hZ (k := kn T n (skp T n (n - a) a)) (by omega)
          have e2 : enS T n (.ok a1) = if skp T n (n - a1) a1 < n ∧ T (skp T n (n - a1) a1) = 59 then .ok (skp T n (n - a1) a1 + 1) else .error (1, skp T n (n - a1) a1) := rfl
          rw [e2] at hb ⊢
          by_cases hq : skp T n (n - a1) a1 < n ∧ T (skp T n (n - a1) a1) = 59
          · rw [if_pos hq] at hb ⊢
            exact ih (i + 1) _ _ hV1 hZ1 (fun z => by omega) (by omega) b hb
          · rw [if_neg hq] at hb
            have z : (Except.error (1, skp T n (n - a1) a1) : ST) = .ok b := hb
            cases z
theorem c_pl (hN : 602 ≤ N) (hT : TB T n) : ∀ (d i m : Nat) (V : VL) (a : Nat) (M : am_M), i + d = 60 → d + 1 < m → PT T n M → StC n (.ok a) M → RR V M → VX V → (i = 0 → V = V00) → wp (f_X5_readAll_44 N m (i32 (i : Int)) M) (rV fun M' => StC n (pl T n (d + 1) i V a).2 M' ∧ fK M M' ∧ ((∃ b, (pl T n (d + 1) i V a).2 = .ok b) → RR (pl T n (d + 1) i V a).1 M')) := by
  have h600 := hT.1
  have step : ∀ (d i m : Nat) (V : VL) (a : Nat) (M : am_M), i + d = 60 → 0 < m → PT T n M → StC n (.ok a) M → RR V M → VX V → (i = 0 → V = V00) → (∀ V' a' M', i < 60 → PT T n M' → StC n (.ok a') M' → RR V' M' → VX V' → wp (f_X5_readAll_44 N m (i32 ((i + 1 : Nat) : Int)) M') (rV fun M'' => StC n (pl T n d (i + 1) V' a').2 M'' ∧ fK M' M'' ∧ ((∃ b, (pl T n d (i + 1) V' a').2 = .ok b) → RR (pl T n d (i + 1) V' a').1 M''))) → wp (f_X5_readAll_44 N (m + 1) (i32 (i : Int)) M) (rV fun M' => StC n (pl T n (d + 1) i V a).2 M' ∧ fK M M' ∧ ((∃ b, (pl T n (d + 1) i V a).2 = .ok b) → RR (pl T n (d + 1) i V a).1 M')) := by
    intro d i m V a M hi hm hP hS hR hV h0 ih
    show wp (f_X5_readAll_44B N _ _ M) _
    unfold f_X5_readAll_44B
    have ha := hS.1
    have hsB := skp_B (T := T) (n - a) a ha
    refine wp_ng (fun q => absurd ((i32_60lt (by omega) (by omega)).mp q) (by omega)) (wp_gd hS.2.1 ?_)
    rw [c_skip hN hT hP ha hS.2.2.2]
    simp only [am_bv_v]
    have hP1 : PT T n (am_up M 18 6 (i32 (skp T n (n - a) a : Nat))) := hP.fr f18.at
    have hS1 : StC n (.ok (skp T n (n - a) a)) (am_up M 18 6 (i32 (skp T n (n - a) a : Nat))) := ⟨hsB.2, (up_ne (by omega)).trans hS.2.1, (up_ne (by omega)).trans hS.2.2.1, up_eq _ _ _ _⟩
    have hR1 : RR V (am_up M 18 6 (i32 (skp T n (n - a) a : Nat))) := RR.of hR (fun x y w => up_ne (by omega))
    have hK1 : fK M (am_up M 18 6 (i32 (skp T n (n - a) a : Nat))) := fK.of fK.rfl (fun x y w => up_ne (by omega))
    rw [up_eq, hP1.1]
    have e : pl T n (d + 1) i V a = if n ≤ skp T n (n - a) a then (V, .ok (skp T n (n - a) a)) else pl1 T n (pl T n d (i + 1)) (kn T n (skp T n (n - a) a)).toNat V (knS T n i V (skp T n (n - a) a)) := rfl
    rw [e]
    by_cases hl : n ≤ skp T n (n - a) a
    · rw [if_pos hl]
      exact wp_ng (fun q => absurd ((i32_lt (by omega) (by omega) (by omega) (by omega)).mp q) (by omega)) (wp_v ⟨hS1, hK1, fun _ => hR1⟩)
    · rw [if_neg hl]
      refine wp_gd ((i32_lt (by omega) (by omega) (by omega) (by omega)).mpr (by omega)) ?_
      refine wp_ci (c_kn hN hT hV ⟨hP1, hS1, fun _ _ _ => rfl⟩ hR1 (i := i) (by omega)) ?_
      rintro v M2 ⟨rfl, hP2, hS2, hE2⟩
      generalize hk : knS T n i V (skp T n (n - a) a) = ks at hS2 ⊢
      have hK2 : fK M M2 := hK1.of hE2
      have stop : ∀ (V' : VL) (e : Nat × Nat) (M' : am_M) , StC n (.error e) M' → fK M M' → wp (f_X5_readAll_44 N m (i32 ((i + 1 : Nat) : Int)) M') (rV fun M'' => StC n (V', (Except.error e : ST)).2 M'' ∧ fK M M'' ∧ ((∃ b, (V', (Except.error e : ST)).2 = .ok b) → RR (V', (Except.error e : ST)).1 M'')) := by
        intro V' e M' hSe hKe
        obtain ⟨m, rfl⟩ : ∃ k, m = k + 1 := ⟨m - 1, by omega⟩
        show wp (f_X5_readAll_44B N _ _ M') _
        unfold f_X5_readAll_44B
        have hne : M' 18 2 ≠ 0 := by rw [hSe.2.2.1]; exact fun z => by have := (i32_eq0 (by have := hSe.1; omega) (by have := hSe.1; omega)).mp z; have := hSe.1; omega
        refine wp_if (fun _ => wp_v ⟨hSe, hKe, fun z => by obtain ⟨b, z⟩ := z; cases z⟩) (fun _ => wp_ng hne (wp_v ⟨hSe, hKe, fun z => by obtain ⟨b, z⟩ := z; cases z⟩))
      cases ks with
      | error e =>
        have hne : M2 18 2 ≠ 0 := by rw [hS2.2.2.1]; exact fun z => by have := (i32_eq0 (by have := hS2.1; omega) (by have := hS2.1; omega)).mp z; have := hS2.1; omega
        refine wp_ng hne ?_
        rw [i32_s]
        exact stop V e M2 hS2 hK2
      | ok b1 =>
        refine wp_gd hS2.2.1 ?_
        have q := knS_ok hk
        have qk := kn_B (T := T) hsB.2
        have hR2 : RR V M2 := RR.of hR1 hE2
        refine wp_cv (c_clk hN hT hV hP2 hS2 hR2 (by omega) q.2.2.2.2) ?_
        rintro M3 ⟨hSC3, hK3, hR3⟩
        refine wp_cv (c_ende hN hT hSC3) ?_
        rintro M4 ⟨hP4, hS4, hE4⟩
        rw [i32_s]
        have hK4 : fK M M4 := (hK2.trans hK3).of hE4
        have hR4 := RR.of hR3 hE4
        show wp _ (rV fun M' => StC n (pl2 (pl T n d (i + 1)) (cl T n (kn T n (skp T n (n - a) a)).toNat V (.ok b1)).1 (enS T n (cl T n (kn T n (skp T n (n - a) a)).toNat V (.ok b1)).2)).2 M' ∧ fK M M' ∧ ((∃ b, (pl2 (pl T n d (i + 1)) (cl T n (kn T n (skp T n (n - a) a)).toNat V (.ok b1)).1 (enS T n (cl T n (kn T n (skp T n (n - a) a)).toNat V (.ok b1)).2)).2 = .ok b) → RR (pl2 (pl T n d (i + 1)) (cl T n (kn T n (skp T n (n - a) a)).toNat V (.ok b1)).1 (enS T n (cl T n (kn T n (skp T n (n - a) a)).toNat V (.ok b1)).2)).1 M'))
        generalize hc : (cl T n (kn T n (skp T n (n - a) a)).toNat V (.ok b1)).2 = st1 at hS4 ⊢
        cases st1 with
        | error e => exact stop _ e M4 hS4 hK4
        | ok a1 =>
          have hV1 := VX_cl hV (by omega) q.2.2.2.2 (fun z => h0 (q.2.2.1.mp z)) hc
          generalize he : enS T n (.ok a1) = st2 at hS4 ⊢
          cases st2 with
          | error e => exact stop _ e M4 hS4 hK4
          | ok a2 => exact wp_mv (ih _ a2 M4 q.2.2.2.1 hP4 hS4 hR4 hV1) (fun M5 z => ⟨z.1, hK4.trans z.2.1, z.2.2⟩)
  intro d
  induction d with
  | zero =>
    intro i m V a M hi hm hP hS hR hV h0
    obtain ⟨m, rfl⟩ : ∃ k, m = k + 1 := ⟨m - 1, by omega⟩
    exact step 0 i m V a M hi (by omega) hP hS hR hV h0 (fun V' a' M' h => by omega)
  | succ d ih =>
    intro i m V a M hi hm hP hS hR hV h0
    obtain ⟨m, rfl⟩ : ∃ k, m = k + 1 := ⟨m - 1, by omega⟩
    exact step (d + 1) i m V a M hi (by omega) hP hS hR hV h0 (fun V' a' M' h hP' hS' hR' hV' => ih (i + 1) m V' a' M' (by omega) (by omega) hP' hS' hR' hV' (fun z => by omega))
end LP
