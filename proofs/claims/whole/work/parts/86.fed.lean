/-! feeding the tape -/
def b8 (u : Int32) : Int := (u &&& 255).toInt
theorem b8_B (u : Int32) : (0 ≤ b8 u ∧ b8 u ≤ 255) ∧ u &&& 255 = i32 (b8 u) ∧ u.toInt8.toInt32 = i32 (sg (b8 u)) := by
  have hn : (u &&& 255).toBitVec.toNat = u.toBitVec.toNat % 256 := by
    rw [Int32.toBitVec_and, BitVec.toNat_and]
    exact Nat.and_two_pow_sub_one_eq_mod u.toBitVec.toNat 8
  have hlt : u.toBitVec.toNat % 256 < 256 := Nat.mod_lt _ (by omega)
  have hb : b8 u = ((u.toBitVec.toNat % 256 : Nat) : Int) := by
    show (u &&& 255).toBitVec.toInt = _
    rw [BitVec.toInt_eq_toNat_of_lt (by rw [hn]; omega), hn]
  refine ⟨by omega, (i32_of _).symm, ?_⟩
  have ht : (u.toInt8.toInt32).toInt = sg (b8 u) := by
    rw [Int8.toInt_toInt32, Int32.toInt_toInt8]
    have hu : u.toInt = u.toBitVec.toInt := rfl
    rw [hu, BitVec.toInt_eq_toNat_bmod, hb]
    unfold sg
    generalize u.toBitVec.toNat = m
    have h1 : ((m : Int).bmod (2 ^ 32)).bmod (2 ^ 8) = (m : Int).bmod (2 ^ 8) := Int.bmod_bmod_of_dvd (by decide)
    rw [h1]
    rw [Int.bmod_def]
    have e : ((m : Int) % ((2 ^ 8 : Nat) : Int)) = ((m % 256 : Nat) : Int) := by omega
    rw [e]
    split <;> split <;> omega
  rw [← ht]
  exact (i32_of _).symm
theorem b8_z (u : Int32) : (u.toInt8.toInt32).toInt8.toInt32 = u.toInt8.toInt32 := by rw [Int8.toInt8_toInt32]
/-- byte j of a number -/
def nb (v : Int32) (j : Nat) : Int := b8 (v >>> (i32 (24 - 8 * (j : Int)) &&& 31))
def TPc (T : Nat → Int) (t : Nat) (M : am_M) : Prop := M 0 1 = i32 (t : Int) ∧ ∀ i, i < t → M 1 i = i32 (sg (T i))
def TPm (T : Nat → Int) (t : Nat) (M : am_M) : Prop := M 0 2 = i32 (t : Int) ∧ ∀ i, i < t → M 2 i = i32 (T i)
def f01 (M M' : am_M) : Prop := ∀ a b, a ≠ 1 → (a ≠ 0 ∨ b ≠ 1) → M' a b = M a b
def f02 (M M' : am_M) : Prop := ∀ a b, a ≠ 2 → (a ≠ 0 ∨ b ≠ 2) → M' a b = M a b
theorem f01.trans {M M' M'' : am_M} (h1 : f01 M M') (h2 : f01 M' M'') : f01 M M'' := fun a b w1 w2 => (h2 a b w1 w2).trans (h1 a b w1 w2)
section FD
variable {N : Nat} {V : VL} {Mc Mm : am_M} {T : Nat → Int}
theorem c_tape_lp {v : Int32} {t : Nat} (ht : t + 4 ≤ 600) (hT : ∀ j, j < 4 → T (t + j) = nb v j) : ∀ (d j n : Nat) (M : am_M), j + d = 4 → d < n → TPc T (t + j) M → wp (f_X9_putOnTape_3 N v n (i32 (24 - 8 * (j : Int))) M) (rV fun M' => TPc T (t + 4) M' ∧ f01 M M') := by
  intro d
  induction d with
  | zero =>
    intro j n M hj hn hP
    obtain ⟨n, rfl⟩ : ∃ k, n = k + 1 := ⟨n - 1, by omega⟩
    show wp (f_X9_putOnTape_3B N _ _ _ M) _
    unfold f_X9_putOnTape_3B
    rw [show j = 4 from by omega] at hP ⊢
    exact wp_gd ((i32_lt0 (by omega) (by omega)).mpr (by omega)) (wp_v ⟨hP, fun _ _ _ _ => rfl⟩)
  | succ d ih =>
    intro j n M hj hn hP
    obtain ⟨n, rfl⟩ : ∃ k, n = k + 1 := ⟨n - 1, by omega⟩
    show wp (f_X9_putOnTape_3B N _ _ _ M) _
    unfold f_X9_putOnTape_3B
    have hb := b8_B (v >>> (i32 (24 - 8 * (j : Int)) &&& 31))
    rw [hP.1]
    refine wp_ng (fun q => absurd ((i32_lt0 (by omega) (by omega)).mp q) (by omega)) (wp_ng (fun q => by rw [show (600 : Int32) = i32 600 from rfl] at q; exact absurd ((i32_le (by omega) (by omega) (by omega) (by omega)).mp q) (by omega)) (wp_gd ⟨i32_in (by omega) (by omega) (by omega), b8_z _⟩ ?_))
    rw [i32_k (by omega), i32_s, hb.2.2, show (-8 : Int32) = i32 (-8) from rfl, i32_add, show 24 - 8 * (j : Int) + -8 = 24 - 8 * ((j + 1 : Nat) : Int) from by omega]
    refine wp_mv (ih (j + 1) n _ (by omega) (by omega) ⟨up_eq _ _ _ _, fun i hi => ?_⟩) (fun M' q => ⟨q.1, fun a b w1 w2 => by rw [q.2 a b w1 w2, up_ne (by omega), up_ne (by omega)]⟩)
    rw [up_ne (by omega)]
    by_cases hij : i = t + j
    · rw [hij, up_eq, hT j (by omega)]; rfl
    · rw [up_ne (by omega)]; exact hP.2 i (by omega)
theorem c_tape (hN : 602 ≤ N) {v : Int32} {t : Nat} (ht : t + 4 ≤ 600) (hT : ∀ j, j < 4 → T (t + j) = nb v j) {M : am_M} (hP : TPc T t M) : wp (f_X9_putOnTape N v M) (rV fun M' => TPc T (t + 4) M' ∧ f01 M M') :=
  c_tape_lp ht hT 4 0 N M (by omega) (by omega) hP
def av (a b c d e : Int32) (q : Nat) : Int32 := if q = 0 then a else if q = 1 then b else if q = 2 then c else if q = 3 then d else e
theorem m_feed_lp {a b c d e : Int32} {t : Nat} (ht : t + 20 ≤ 600) (hT : ∀ k, k < 20 → T (t + k) = nb (av a b c d e (k / 4)) (k % 4)) : ∀ (r k n : Nat) (M : am_M), k + r = 20 → r < n → TPm T (t + k) M → wp (f_X10_feed_23 N a b c d e n (i32 (k : Int)) M) (rI fun v M' => v = i32 ((t + 20 : Nat) : Int) ∧ TPm T (t + 20) M' ∧ f02 M M') := by
  intro r
  induction r with
  | zero =>
    intro k n M hk hn hP
    obtain ⟨n, rfl⟩ : ∃ k, n = k + 1 := ⟨n - 1, by omega⟩
    show wp (f_X10_feed_23B N _ _ _ _ _ _ _ M) _
    unfold f_X10_feed_23B
    rw [show k = 20 from by omega] at hP ⊢
    exact wp_gd (by decide) (wp_i ⟨hP.1, hP, fun _ _ _ _ => rfl⟩)
  | succ r ih =>
    intro k n M hk hn hP
    obtain ⟨n, rfl⟩ : ∃ k, n = k + 1 := ⟨n - 1, by omega⟩
    show wp (f_X10_feed_23B N _ _ _ _ _ _ _ M) _
    unfold f_X10_feed_23B
    refine wp_ng (fun q => absurd ((i32_20le (by omega) (by omega)).mp q) (by omega)) ?_
    have go : ∀ s0 : Int32, s0 = av a b c d e (k / 4) → wp (f_X10_feed_76 N (f_X10_feed_23 N a b c d e n) a b c d e (i32 (k : Int)) s0 M) (rI fun v M' => v = i32 ((t + 20 : Nat) : Int) ∧ TPm T (t + 20) M' ∧ f02 M M') := by
      intro s0 hs0
      unfold f_X10_feed_76
      rw [hP.1]
      refine wp_gd (i32_in (by omega) (by omega) (by omega)) ?_
      rw [i32_k (by omega), i32_s, i32_s, i32_4, i32_rem (by omega) (by omega) (by omega) (by omega), i32_8, i32_mul, i32_24, i32_sub, show 24 - 8 * ((k : Int) % 4) = 24 - 8 * ((k % 4 : Nat) : Int) from by omega]
      have hb := b8_B (s0 >>> (i32 (24 - 8 * ((k % 4 : Nat) : Int)) &&& 31))
      rw [hb.2.1]
      refine wp_mi (ih (k + 1) n _ (by omega) (by omega) ⟨up_eq _ _ _ _, fun i hi => ?_⟩) (fun v M' q => ⟨q.1, q.2.1, fun x y w1 w2 => by rw [q.2.2 x y w1 w2, up_ne (by omega), up_ne (by omega)]⟩)
      rw [up_ne (by omega)]
      by_cases hij : i = t + k
      · rw [hij, up_eq, hT k (by omega), ← hs0]; rfl
      · rw [up_ne (by omega)]; exact hP.2 i (by omega)
    by_cases h4 : 4 ≤ k
    · refine wp_gd ((i32_4le (by omega) (by omega)).mpr (by omega)) ?_
      by_cases h8 : 8 ≤ k
      · refine wp_gd ((i32_8le (by omega) (by omega)).mpr (by omega)) ?_
        by_cases h12 : 12 ≤ k
        · refine wp_gd ((i32_12le (by omega) (by omega)).mpr (by omega)) ?_
          by_cases h16 : 16 ≤ k
          · refine wp_gd (by rw [show (16 : Int32) = i32 16 from rfl]; exact (i32_le (by omega) (by omega) (by omega) (by omega)).mpr (by omega)) (go _ ?_)
            unfold av; rw [if_neg (by omega), if_neg (by omega), if_neg (by omega), if_neg (by omega)]
          · refine wp_ng (fun q => by rw [show (16 : Int32) = i32 16 from rfl] at q; have := (i32_le (by omega) (by omega) (by omega) (by omega)).mp q; omega) (go _ ?_)
            unfold av; rw [if_neg (by omega), if_neg (by omega), if_neg (by omega), if_pos (by omega)]
        · refine wp_ng (fun q => by have := (i32_12le (by omega) (by omega)).mp q; omega) (go _ ?_)
          unfold av; rw [if_neg (by omega), if_neg (by omega), if_pos (by omega)]
      · refine wp_ng (fun q => by have := (i32_8le (by omega) (by omega)).mp q; omega) (go _ ?_)
        unfold av; rw [if_neg (by omega), if_pos (by omega)]
    · refine wp_ng (fun q => by have := (i32_4le (by omega) (by omega)).mp q; omega) (go _ ?_)
      unfold av; rw [if_pos (by omega)]
theorem op_feed (hN : 4200 ≤ N) (h : Inv Mc Mm) (a b c d e : Int32) : OP0 (f_X9_feed N a b c d e Mc) (f_X10_feed N a b c d e Mm) := by
  obtain ⟨V, hV, hC, hM, hF, hI⟩ := h
  have hIz := hI.z
  obtain ⟨T, tp, I, ni, ⟨t1, t2, t3, t4⟩, hct, him, hrd⟩ := hIz
  unfold f_X9_feed f_X10_feed
  rw [show am_up Mm 0 0 0 = M00 Mm from rfl, t2, show Mm 0 2 = i32 tp from t3, show (20 : Int32) = i32 20 from rfl, i32_add, show (600 : Int32) = i32 600 from rfl]
  by_cases hl : tp + 20 ≤ 600
  · rw [if_pos ((i32_le (by omega) (by omega) (by omega) (by omega)).mpr hl), if_pos ((i32_le (by omega) (by omega) (by omega) (by omega)).mpr hl)]
    have hT' : ∀ k, k < 20 → (fun i => if i < tp.toNat then T i else nb (av a b c d e ((i - tp.toNat) / 4)) ((i - tp.toNat) % 4)) (tp.toNat + k) = nb (av a b c d e (k / 4)) (k % 4) := by
      intro k hk
      simp only []
      rw [if_neg (by omega), show tp.toNat + k - tp.toNat = k from by omega]
    generalize hTT : (fun i => if i < tp.toNat then T i else nb (av a b c d e ((i - tp.toNat) / 4)) ((i - tp.toNat) % 4)) = T' at hT'
    have hT0 : ∀ i, i < tp.toNat → T' i = T i := fun i hi => by rw [← hTT]; simp only []; rw [if_pos hi]
    have hB : ∀ i, i < tp.toNat + 20 → 0 ≤ T' i ∧ T' i ≤ 255 := by
      intro i hi
      by_cases h1 : i < tp.toNat
      · rw [hT0 i h1]; exact (t4 i (by omega)).1
      · have := hT' (i - tp.toNat) (by omega)
        rw [show tp.toNat + (i - tp.toNat) = i from by omega] at this
        rw [this]
        exact (b8_B _).1
    have P0 : TPc T' tp.toNat Mc := ⟨by rw [t2]; congr 1; omega, fun i hi => by rw [hT0 i hi]; exact (t4 i (by omega)).2.1⟩
    have Q0 : TPm T' tp.toNat (M00 Mm) := ⟨by rw [t3]; congr 1; omega, fun i hi => by rw [hT0 i hi]; exact (t4 i (by omega)).2.2⟩
    have cc : wp (am_bv (f_X9_putOnTape N a Mc) fun M17 => am_bv (f_X9_putOnTape N b M17) fun M22 => am_bv (f_X9_putOnTape N c M22) fun M27 => am_bv (f_X9_putOnTape N d M27) fun M33 => am_bv (f_X9_putOnTape N e M33) fun M39 => some (.ok (some (.int (M39 0 1))), M39)) (rI fun v M' => v = i32 ((tp.toNat + 20 : Nat) : Int) ∧ TPc T' (tp.toNat + 20) M' ∧ f01 Mc M') := by
      refine wp_cv (c_tape (by omega) (t := tp.toNat) (by omega) (fun j hj => by rw [hT' j (by omega), show j / 4 = 0 from by omega, show j % 4 = j from by omega]; rfl) P0) (fun M1 q1 => ?_)
      refine wp_cv (c_tape (by omega) (t := tp.toNat + 4) (by omega) (fun j hj => by rw [show tp.toNat + 4 + j = tp.toNat + (4 + j) from by omega, hT' (4 + j) (by omega), show (4 + j) / 4 = 1 from by omega, show (4 + j) % 4 = j from by omega]; rfl) q1.1) (fun M2 q2 => ?_)
      refine wp_cv (c_tape (by omega) (t := tp.toNat + 4 + 4) (by omega) (fun j hj => by rw [show tp.toNat + 4 + 4 + j = tp.toNat + (8 + j) from by omega, hT' (8 + j) (by omega), show (8 + j) / 4 = 2 from by omega, show (8 + j) % 4 = j from by omega]; rfl) q2.1) (fun M3 q3 => ?_)
      refine wp_cv (c_tape (by omega) (t := tp.toNat + 4 + 4 + 4) (by omega) (fun j hj => by rw [show tp.toNat + 4 + 4 + 4 + j = tp.toNat + (12 + j) from by omega, hT' (12 + j) (by omega), show (12 + j) / 4 = 3 from by omega, show (12 + j) % 4 = j from by omega]; rfl) q3.1) (fun M4 q4 => ?_)
      refine wp_cv (c_tape (by omega) (t := tp.toNat + 4 + 4 + 4 + 4) (by omega) (fun j hj => by rw [show tp.toNat + 4 + 4 + 4 + 4 + j = tp.toNat + (16 + j) from by omega, hT' (16 + j) (by omega), show (16 + j) / 4 = 4 from by omega, show (16 + j) % 4 = j from by omega]; rfl) q4.1) (fun M5 q5 => ?_)
      exact wp_i ⟨q5.1.1, q5.1, (((q1.2.trans q2.2).trans q3.2).trans q4.2).trans q5.2⟩
    have mm := m_feed_lp (N := N) (a := a) (b := b) (c := c) (d := d) (e := e) (t := tp.toNat) (by omega) hT' 20 0 N (M00 Mm) (by omega) (by omega) Q0
    obtain ⟨v1, M1, e1, rfl, p1, f1⟩ := wp_vi cc
    obtain ⟨v2, M2, e2, rfl, p2, f2⟩ := wp_vi mm
    refine ⟨_, _, _, e1, e2, V, hV, hC.of (fun x y w => f1 x y (by omega) (by omega)), hM.z.of (fun x y w => f2 x y (by omega) (by omega)), hF.z.of (fun x y w => f2 x y (by omega) (by omega)), T', tp + 20, I, ni, ⟨by omega, ?_, ?_, fun i hi => ⟨hB i (by omega), p1.2 i (by omega), p2.2 i (by omega)⟩⟩, ?_, ?_, ?_⟩
    · rw [p1.1]; congr 1; omega
    · rw [p2.1]; congr 1; omega
    · obtain ⟨c1, c2, c3, c4, c5⟩ := hct
      refine ⟨?_, ?_, ?_, ?_, (f1 51 6 (by omega) (by omega)).trans c5⟩
      · rw [f1 0 2 (by omega) (by omega), f2 0 8 (by omega) (by omega)]; exact c1
      · rw [f1 0 3 (by omega) (by omega), f2 1 0 (by omega) (by omega)]; exact c2
      · rw [f1 0 4 (by omega) (by omega), f2 1 1 (by omega) (by omega)]; exact c3
      · rw [f1 0 5 (by omega) (by omega), f2 1 2 (by omega) (by omega)]; exact c4
    · obtain ⟨i1, i2, i3, i4⟩ := him
      exact ⟨i1, (f1 0 10 (by omega) (by omega)).trans i2, (f2 0 65 (by omega) (by omega)).trans i3, fun k hk => ⟨(i4 k hk).1, (i4 k hk).2.1.fr (by omega) (fun x y w => f1 x y (by omega) (by omega)), (i4 k hk).2.2.fr (fun y => f2 28 y (by omega) (by omega))⟩⟩
    · obtain ⟨r1, r2, r3, r4, r5, r6⟩ := hrd
      exact ⟨⟨(f1 20 1 (by omega) (by omega)).trans r1.1, (f1 20 2 (by omega) (by omega)).trans r1.2⟩, ⟨(f1 22 1 (by omega) (by omega)).trans r2.1, (f1 22 2 (by omega) (by omega)).trans r2.2⟩, ⟨(f1 24 1 (by omega) (by omega)).trans r3.1, (f1 24 2 (by omega) (by omega)).trans r3.2⟩, ⟨(f1 26 1 (by omega) (by omega)).trans r4.1, (f1 26 2 (by omega) (by omega)).trans r4.2⟩, ⟨(f1 28 1 (by omega) (by omega)).trans r5.1, (f1 28 2 (by omega) (by omega)).trans r5.2⟩, ⟨(f1 33 1 (by omega) (by omega)).trans r6.1, (f1 33 2 (by omega) (by omega)).trans r6.2⟩⟩
  · rw [if_neg (fun q => hl ((i32_le (by omega) (by omega) (by omega) (by omega)).mp q)), if_neg (fun q => hl ((i32_le (by omega) (by omega) (by omega) (by omega)).mp q))]
    exact OP0.good hV hC hM.z hF.z hI.z (wp_i ⟨rfl, sC.rfl⟩) (wp_i ⟨rfl, sM.rfl⟩)
end FD
