/-! bits of a set -/
theorem bt_or {a b : Int32} {k : Nat} : bt (a ||| b) k = bt a k ||| bt b k := by
  unfold bt
  apply Int32.toBitVec_inj.mp
  simp only [Int32.toBitVec_and, Int32.toBitVec_or, Int32.toBitVec_shiftRight]
  apply BitVec.eq_of_getLsbD_eq
  intro i hi
  simp [BitVec.getLsbD_or, BitVec.getLsbD_and, BitVec.getLsbD_sshiftRight, Bool.and_or_distrib_right]
  split <;> simp [Bool.and_or_distrib_left, Bool.and_or_distrib_right]
theorem bt_bit : ∀ i : Fin 8, ∀ k : Fin 8, bt (bit i.1) k.1 = if i.1 = k.1 then 1 else 0 := by decide
theorem bt_zero : ∀ k : Fin 8, bt 0 k.1 = 0 := by decide
theorem bt_orB {A : Nat → Bool} {k : Nat} (hk : k < 8) : ∀ n, n ≤ 8 → bt (orB A 0 n) k = if k < n ∧ A k = true then 1 else 0 := by
  intro n
  induction n with
  | zero => intro _; rw [if_neg (by omega)]; exact bt_zero ⟨k, hk⟩
  | succ n ih =>
    intro hn
    have q := ih (by omega)
    have hb := bt_bit ⟨n, by omega⟩ ⟨k, hk⟩
    simp only at hb
    show bt (if A n then orB A 0 n ||| bit n else orB A 0 n) k = _
    by_cases hA : A n = true
    · rw [if_pos hA, bt_or, q, hb]
      by_cases h1 : k = n
      · rw [if_neg (show ¬ (k < n ∧ A k = true) from fun z => by omega), if_pos (show n = k from h1.symm), if_pos (show k < n + 1 ∧ A k = true from ⟨by omega, by rw [h1]; exact hA⟩)]; decide
      · rw [if_neg (show ¬ n = k from fun z => h1 z.symm)]
        by_cases h2 : k < n ∧ A k = true
        · rw [if_pos h2, if_pos (show k < n + 1 ∧ A k = true from ⟨by omega, h2.2⟩)]; decide
        · rw [if_neg h2, if_neg (show ¬ (k < n + 1 ∧ A k = true) from fun z => h2 ⟨by omega, z.2⟩)]; decide
    · rw [if_neg hA, q]
      by_cases h2 : k < n ∧ A k = true
      · rw [if_pos h2, if_pos (show k < n + 1 ∧ A k = true from ⟨by omega, h2.2⟩)]
      · rw [if_neg h2, if_neg]
        rintro ⟨z1, z2⟩
        by_cases h1 : k = n
        · rw [h1] at z2; exact hA z2
        · exact h2 ⟨by omega, z2⟩
/-! barns on the places of a set -/
def inS (cl : Nat → Int) (set : Int32) (n c : Nat) : Bool := it (fun k b => b || decide (bt set k ≠ 0 ∧ c = (cl k).toNat)) false n
theorem inS_nx {cl : Nat → Int} {set : Int32} {n c : Nat} : inS cl set (n + 1) c = (inS cl set n c || decide (bt set n ≠ 0 ∧ c = (cl n).toNat)) := rfl
def bH (hd cl : Nat → Int) (set : Int32) (n c : Nat) : Int := if hd c = 0 ∧ inS cl set n c = true then 5 else hd c
def vH (V : VL) (H : Nat → Int) : VL := fun a b => if a = 6 then H b else V a b
theorem VX.vH {V : VL} (h : VX V) {H : Nat → Int} (hH : ∀ c, c < 100 → 0 ≤ H c ∧ H c ≤ 9) : VX (vH V H) := ⟨⟨h.1.1, h.1.2.1, h.1.2.2.1, fun c hc => ⟨hH c hc, (h.1.2.2.2 c hc).2⟩⟩, h.2⟩
theorem RT.vH {V : VL} {M : am_M} (h : RT V M) {H : Nat → Int} : RT (vH V H) M := h
theorem bH_B {hd cl : Nat → Int} {set : Int32} {n : Nat} (h : ∀ c, c < 100 → 0 ≤ hd c ∧ hd c ≤ 9) : ∀ c, c < 100 → 0 ≤ bH hd cl set n c ∧ bH hd cl set n c ≤ 9 := by
  intro c hc
  have := h c hc
  unfold bH
  split <;> omega
/-- which places were raised -/
def rz (hd cl : Nat → Int) (set : Int32) (k : Nat) : Bool := decide (bt set k ≠ 0 ∧ bH hd cl set k (cl k).toNat = 0)
def inL (hd cl : Nat → Int) (set : Int32) (n c : Nat) : Bool := it (fun k b => b || (rz hd cl set k && decide (c = (cl k).toNat))) false n
theorem inL_nx {hd cl : Nat → Int} {set : Int32} {n c : Nat} : inL hd cl set (n + 1) c = (inL hd cl set n c || (rz hd cl set n && decide (c = (cl n).toNat))) := rfl
theorem inL_0 {hd cl : Nat → Int} {set : Int32} {c : Nat} (h : hd c = 0) : ∀ n, inL hd cl set n c = inS cl set n c := by
  intro n
  induction n with
  | zero => rfl
  | succ n ih =>
    rw [inL_nx, inS_nx, ih]
    cases hq : inS cl set n c with
    | true => rfl
    | false =>
      rw [Bool.false_or, Bool.false_or]
      by_cases hc : c = (cl n).toNat
      · have hb : bH hd cl set n (cl n).toNat = 0 := by
          unfold bH
          rw [← hc, hq, if_neg (by simp)]
          exact h
        rw [decide_eq_true hc, Bool.and_true]
        unfold rz
        by_cases hs : bt set n ≠ 0
        · rw [decide_eq_true ⟨hs, hb⟩, decide_eq_true ⟨hs, hc⟩]
        · rw [decide_eq_false (fun z => hs z.1), decide_eq_false (fun z => hs z.1)]
      · rw [decide_eq_false hc, Bool.and_false, decide_eq_false (fun z => hc z.2)]
theorem inL_1 {hd cl : Nat → Int} {set : Int32} {c : Nat} (h : hd c ≠ 0) : ∀ n, inL hd cl set n c = false := by
  intro n
  induction n with
  | zero => rfl
  | succ n ih =>
    rw [inL_nx, ih, Bool.false_or]
    by_cases hc : c = (cl n).toNat
    · rw [decide_eq_true hc, Bool.and_true]
      unfold rz
      refine decide_eq_false (fun z => ?_)
      have := z.2
      unfold bH at this
      rw [← hc, if_neg (fun y => h y.1)] at this
      exact h this
    · rw [decide_eq_false hc, Bool.and_false]
def lo (hd cl : Nat → Int) (set : Int32) (n j c : Nat) : Int := if inL hd cl set j c = true then 0 else bH hd cl set n c
theorem lo_end {hd cl : Nat → Int} {set : Int32} {n c : Nat} : lo hd cl set n n c = hd c := by
  unfold lo bH
  by_cases h : hd c = 0
  · rw [inL_0 h]
    by_cases q : inS cl set n c = true
    · rw [if_pos q, h]
    · rw [if_neg q, if_neg (fun z => q z.2)]
  · rw [inL_1 h, if_neg (by decide), if_neg (fun z => h z.1)]
/-- all but the faces -/
def fr14 (M M' : am_M) : Prop := ∀ a b, a ≠ 14 ∨ 100 ≤ b → M' a b = M a b
def fr21 (M M' : am_M) : Prop := ∀ a b, a ≠ 21 ∨ 100 ≤ b → M' a b = M a b
theorem fr14.trans {M M' M'' : am_M} (h1 : fr14 M M') (h2 : fr14 M' M'') : fr14 M M'' := fun a b h => (h2 a b h).trans (h1 a b h)
theorem fr21.trans {M M' M'' : am_M} (h1 : fr21 M M') (h2 : fr21 M' M'') : fr21 M M'' := fun a b h => (h2 a b h).trans (h1 a b h)
theorem TbC.fr {ob ar : Nat} {co li n : Int} {T : Nat → Int} {M M' : am_M} (h : TbC ob ar co li n T M) (q : fr14 M M') (h1 : ob ≠ 14) (h2 : ar ≠ 14) : TbC ob ar co li n T M' := by
  unfold TbC at *
  rw [q ob 1 (Or.inl h1), q ob 2 (Or.inl h1), q ob 3 (Or.inl h1)]
  refine ⟨h.1, h.2.1, h.2.2.1, fun j hj => ?_⟩
  rw [q ar j (Or.inl h2)]
  exact h.2.2.2 j hj
theorem RC.fr {V : VL} {M M' : am_M} (h : RC V M) (q : fr14 M M') {H : Nat → Int} (hH : ∀ c, c < 100 → M' 14 c = i32 (H c)) : RC (vH V H) M' := by
  obtain ⟨h1, h2, h3, h4, h5, h6, h7, h8⟩ := h
  refine ⟨⟨?_, ?_, ?_, fun c hc => ⟨hH c hc, ?_⟩⟩, ⟨?_, ?_⟩, h3.fr q (by omega) (by omega), h4.fr q (by omega) (by omega), h5.fr q (by omega) (by omega), h6.fr q (by omega) (by omega), h7.fr q (by omega) (by omega), h8.fr q (by omega) (by omega)⟩
  · rw [q 2 0 (by omega)]; exact h1.1
  · rw [q 2 1 (by omega)]; exact h1.2.1
  · rw [q 13 2 (by omega)]; exact h1.2.2.1
  · rw [q 15 c (by omega)]; exact (h1.2.2.2 c hc).2
  · rw [q 2 2 (by omega)]; exact h2.1
  · rw [q 2 3 (by omega)]; exact h2.2
theorem RT.fr {V : VL} {M M' : am_M} (h : RT V M) (q : fr21 M M') : RT V M' := h.of (fun a b z => q a b (by omega))
/-- a place's cell -/
def cl5 (V : VL) (k : Nat) : Int := 10 * V 2 (3 * k + 1) + V 2 (3 * k)
theorem VX.c5 {V : VL} (hV : VX V) {i : Nat} (hi : (i : Int) < V 0 6) : 0 ≤ cl5 V i ∧ cl5 V i < 100 := by
  have := hV.2.2.2.2.1 i hi
  have hw := hV.1.1
  have hh := hV.1.2.1
  unfold cl5
  omega
theorem c_raise5 {N : Nat} (hN : 102 ≤ N) {V : VL} (hV : VX V) {M0 : am_M} (hR : RC V M0) (set : Int32) : wp (f_X2_raise_13_5 N set M0) (rI fun v M' => v = orB (rz (V 6) (cl5 V) set) 0 (V 0 6).toNat ∧ fr14 M0 M' ∧ ∀ c, c < 100 → M' 14 c = i32 (bH (V 6) (cl5 V) set (V 0 6).toNat c)) := by
  have hns := hV.ns
  have lp : ∀ (d j n : Nat) (M : am_M), j + d = (V 0 6).toNat → d < n → fr14 M0 M → (∀ c, c < 100 → M 14 c = i32 (bH (V 6) (cl5 V) set j c)) → wp (f_X2_raise_13_5_5 N set n (orB (rz (V 6) (cl5 V) set) 0 j) (i32 (j : Int)) M) (rI fun v M' => v = orB (rz (V 6) (cl5 V) set) 0 (V 0 6).toNat ∧ fr14 M0 M' ∧ ∀ c, c < 100 → M' 14 c = i32 (bH (V 6) (cl5 V) set (V 0 6).toNat c)) := by
    intro d
    induction d with
    | zero =>
      intro j n M hj hn hF hM
      obtain ⟨n, rfl⟩ : ∃ k, n = k + 1 := ⟨n - 1, by omega⟩
      show wp (f_X2_raise_13_5_5B N _ _ _ _ M) _
      unfold f_X2_raise_13_5_5B
      rw [(hR.2.2.2.1.fr hF (by omega) (by omega)).2.2.1]
      rw [show j = (V 0 6).toNat from by omega] at hM
      refine wp_gd ((i32_le (by omega) (by omega) (by omega) (by omega)).mpr (by omega)) (wp_i ⟨?_, hF, hM⟩)
      rw [show j = (V 0 6).toNat from by omega]
    | succ d ih =>
      intro j n M hj hn hF hM
      obtain ⟨n, rfl⟩ : ∃ k, n = k + 1 := ⟨n - 1, by omega⟩
      show wp (f_X2_raise_13_5_5B N _ _ _ _ M) _
      unfold f_X2_raise_13_5_5B
      have hT := hR.2.2.2.1.fr hF (by omega) (by omega)
      have hc := hV.c5 (i := j) (by omega)
      have hB := bH_B (cl := cl5 V) (set := set) (n := j) (fun c hc => (hV.1.2.2.2 c hc).1) (cl5 V j).toNat (by omega)
      rw [hT.2.2.1]
      refine wp_ng (fun q => absurd ((i32_le (by omega) (by omega) (by omega) (by omega)).mp q) (by omega)) ?_
      rw [c_cellAt5 hT (by omega) (by omega)]
      simp only [am_bi_i]
      rw [show 10 * V 2 (3 * j + 1) + V 2 (3 * j) = cl5 V j from rfl, i32_s, show set >>> (i32 (j : Int) &&& 31) &&& 1 = bt set j from rfl, show (1 : Int32) <<< (i32 (j : Int) &&& 31) = bit j from rfl]
      have k1 : orB (rz (V 6) (cl5 V) set) 0 (j + 1) = if rz (V 6) (cl5 V) set j then orB (rz (V 6) (cl5 V) set) 0 j ||| bit j else orB (rz (V 6) (cl5 V) set) 0 j := rfl
      -- nothing is raised
      have kno : rz (V 6) (cl5 V) set j = false → wp (f_X2_raise_13_5_5 N set n (orB (rz (V 6) (cl5 V) set) 0 j) (i32 ((j + 1 : Nat) : Int)) M) (rI fun v M' => v = orB (rz (V 6) (cl5 V) set) 0 (V 0 6).toNat ∧ fr14 M0 M' ∧ ∀ c, c < 100 → M' 14 c = i32 (bH (V 6) (cl5 V) set (V 0 6).toNat c)) := by
        intro hr
        have q := ih (j + 1) n M (by omega) (by omega) hF (fun c hc => by
          rw [hM c hc]
          unfold bH
          rw [inS_nx]
          by_cases hcc : bt set j ≠ 0 ∧ c = (cl5 V j).toNat
          · rw [decide_eq_true hcc, Bool.or_true]
            by_cases h0 : V 6 c = 0
            · have h3 : inS (cl5 V) set j c = true := by
                by_cases h4 : inS (cl5 V) set j c = true
                · exact h4
                · exfalso
                  have h5 : rz (V 6) (cl5 V) set j = true := by
                    unfold rz
                    refine decide_eq_true ⟨hcc.1, ?_⟩
                    rw [← hcc.2]
                    unfold bH
                    rw [if_neg (fun z => h4 z.2)]
                    exact h0
                  rw [hr] at h5
                  cases h5
              rw [if_pos ⟨h0, h3⟩, if_pos ⟨h0, rfl⟩]
            · rw [if_neg (fun z => h0 z.1), if_neg (fun z => h0 z.1)]
          · rw [decide_eq_false hcc, Bool.or_false])
        rw [k1, if_neg (by rw [hr]; decide)] at q
        exact q
      by_cases h1 : bt set j = 0
      · exact wp_gd h1 (kno (decide_eq_false (fun z => z.1 h1)))
      · refine wp_ng h1 (wp_gd (i32_in (by omega) (by omega) (by omega)) ?_)
        rw [i32_cl (by omega) (by omega), hM _ (by omega)]
        by_cases h2 : bH (V 6) (cl5 V) set j (cl5 V j).toNat = 0
        · refine wp_gd ((i32_eq0 (by omega) (by omega)).mpr h2) (wp_gd (i32_in (by omega) (by omega) (by omega)) ?_)
          have hr : rz (V 6) (cl5 V) set j = true := decide_eq_true ⟨h1, h2⟩
          have q := ih (j + 1) n (am_up M 14 (cl5 V j).toNat 5) (by omega) (by omega) (fun a b hab => by rw [up_ne (by omega)]; exact hF a b hab) (fun c hc => by
            unfold bH
            rw [inS_nx]
            by_cases hcc : c = (cl5 V j).toNat
            · have h0 : V 6 c = 0 := by
                unfold bH at h2
                rw [← hcc] at h2
                split at h2
                · cases h2
                · exact h2
              rw [decide_eq_true ⟨h1, hcc⟩, Bool.or_true, if_pos ⟨h0, rfl⟩, hcc, up_eq]
              rfl
            · rw [up_ne (by omega), decide_eq_false (fun z => hcc z.2), Bool.or_false]
              exact hM c hc)
          rw [k1, if_pos hr] at q
          exact q
        · exact wp_ng (fun z => h2 ((i32_eq0 (by omega) (by omega)).mp z)) (kno (decide_eq_false (fun z => h2 z.2)))
  refine lp (V 0 6).toNat 0 N M0 (by omega) (by omega) (fun _ _ _ => rfl) (fun c hc => ?_)
  unfold bH
  rw [if_neg (fun z => by cases z.2)]
  exact (hR.1.2.2.2 c hc).1
theorem c_lower5 {N : Nat} (hN : 102 ≤ N) {V : VL} (hV : VX V) {M0 : am_M} {H : Nat → Int} (hR : RC (vH V H) M0) (set : Int32) (hM0 : ∀ c, c < 100 → M0 14 c = i32 (bH (V 6) (cl5 V) set (V 0 6).toNat c)) : wp (f_X2_lower_13_5 N (orB (rz (V 6) (cl5 V) set) 0 (V 0 6).toNat) M0) (rV fun M' => fr14 M0 M' ∧ ∀ c, c < 100 → M' 14 c = i32 (V 6 c)) := by
  have hns := hV.ns
  have lp : ∀ (d j n : Nat) (M : am_M), j + d = (V 0 6).toNat → d < n → fr14 M0 M → (∀ c, c < 100 → M 14 c = i32 (lo (V 6) (cl5 V) set (V 0 6).toNat j c)) → wp (f_X2_lower_13_5_2 N (orB (rz (V 6) (cl5 V) set) 0 (V 0 6).toNat) n (i32 (j : Int)) M) (rV fun M' => fr14 M0 M' ∧ ∀ c, c < 100 → M' 14 c = i32 (V 6 c)) := by
    intro d
    induction d with
    | zero =>
      intro j n M hj hn hF hM
      obtain ⟨n, rfl⟩ : ∃ k, n = k + 1 := ⟨n - 1, by omega⟩
      show wp (f_X2_lower_13_5_2B N _ _ _ M) _
      unfold f_X2_lower_13_5_2B
      have hT : TbC 5 6 3 4 (V 0 6) (V 2) M := hR.2.2.2.1.fr hF (by omega) (by omega)
      rw [hT.2.2.1]
      refine wp_gd ((i32_le (by omega) (by omega) (by omega) (by omega)).mpr (by omega)) (wp_v ⟨hF, fun c hc => ?_⟩)
      rw [hM c hc, show j = (V 0 6).toNat from by omega, lo_end]
    | succ d ih =>
      intro j n M hj hn hF hM
      obtain ⟨n, rfl⟩ : ∃ k, n = k + 1 := ⟨n - 1, by omega⟩
      show wp (f_X2_lower_13_5_2B N _ _ _ M) _
      unfold f_X2_lower_13_5_2B
      have hT : TbC 5 6 3 4 (V 0 6) (V 2) M := hR.2.2.2.1.fr hF (by omega) (by omega)
      have hc := hV.c5 (i := j) (by omega)
      rw [hT.2.2.1]
      refine wp_ng (fun q => absurd ((i32_le (by omega) (by omega) (by omega) (by omega)).mp q) (by omega)) ?_
      have hbt := bt_orB (A := rz (V 6) (cl5 V) set) (k := j) (by omega) (V 0 6).toNat (by omega)
      rw [i32_s, show (orB (rz (V 6) (cl5 V) set) 0 (V 0 6).toNat) >>> (i32 (j : Int) &&& 31) &&& 1 = bt (orB (rz (V 6) (cl5 V) set) 0 (V 0 6).toNat) j from rfl, hbt]
      by_cases hr : rz (V 6) (cl5 V) set j = true
      · rw [if_pos (show j < (V 0 6).toNat ∧ rz (V 6) (cl5 V) set j = true from ⟨by omega, hr⟩)]
        refine wp_ng (by decide) ?_
        rw [c_cellAt5 hT (by omega) (by omega)]
        simp only [am_bi_i]
        rw [show 10 * V 2 (3 * j + 1) + V 2 (3 * j) = cl5 V j from rfl]
        refine wp_gd (i32_in (by omega) (by omega) (by omega)) ?_
        rw [i32_cl (by omega) (by omega)]
        refine ih (j + 1) n _ (by omega) (by omega) (fun a b hab => by rw [up_ne (by omega)]; exact hF a b hab) (fun c hc => ?_)
        unfold lo
        rw [inL_nx, hr, Bool.true_and]
        by_cases hcc : c = (cl5 V j).toNat
        · rw [hcc, up_eq, decide_eq_true rfl, Bool.or_true, if_pos rfl]; rfl
        · rw [up_ne (by omega), decide_eq_false hcc, Bool.or_false]; exact hM c hc
      · rw [if_neg (show ¬ (j < (V 0 6).toNat ∧ rz (V 6) (cl5 V) set j = true) from fun z => hr z.2)]
        refine wp_gd rfl ?_
        refine ih (j + 1) n M (by omega) (by omega) hF (fun c hc => ?_)
        rw [hM c hc]
        unfold lo
        rw [inL_nx, show rz (V 6) (cl5 V) set j = false from Bool.eq_false_iff.mpr hr, Bool.false_and, Bool.or_false]
  refine lp (V 0 6).toNat 0 N M0 (by omega) (by omega) (fun _ _ _ => rfl) (fun c hc => ?_)
  unfold lo
  rw [if_neg (fun z => by cases z)]
  exact hM0 c hc
theorem m_stands1 {N : Nat} (hN : 102 ≤ N) {V : VL} (hV : VX V) {M0 : am_M} (hR : RT V M0) (set : Int32) (hM0 : ∀ c, c < 100 → M0 21 c = i32 0) : wp (f_X10_stands N set 1 M0) (rV fun M' => fr21 M0 M' ∧ ∀ c, c < 100 → M' 21 c = i32 (if inS (cl5 V) set (V 0 6).toNat c = true then 5 else 0)) := by
  have hns := hV.ns
  have lp : ∀ (d j n : Nat) (M : am_M), j + d = (V 0 6).toNat → d < n → fr21 M0 M → (∀ c, c < 100 → M 21 c = i32 (if inS (cl5 V) set j c = true then 5 else 0)) → wp (f_X10_stands_2 N set 1 n (i32 (j : Int)) M) (rV fun M' => fr21 M0 M' ∧ ∀ c, c < 100 → M' 21 c = i32 (if inS (cl5 V) set (V 0 6).toNat c = true then 5 else 0)) := by
    intro d
    induction d with
    | zero =>
      intro j n M hj hn hF hM
      obtain ⟨n, rfl⟩ : ∃ k, n = k + 1 := ⟨n - 1, by omega⟩
      show wp (f_X10_stands_2B N _ _ _ _ M) _
      unfold f_X10_stands_2B
      have hRs := hR.fr hF
      rw [hRs.2.1.2.1]
      refine wp_gd ((i32_le (by omega) (by omega) (by omega) (by omega)).mpr (by omega)) (wp_v ⟨hF, fun c hc => ?_⟩)
      rw [hM c hc, show j = (V 0 6).toNat from by omega]
    | succ d ih =>
      intro j n M hj hn hF hM
      obtain ⟨n, rfl⟩ : ∃ k, n = k + 1 := ⟨n - 1, by omega⟩
      show wp (f_X10_stands_2B N _ _ _ _ M) _
      unfold f_X10_stands_2B
      have hRs := hR.fr hF
      have hc := hV.c5 (i := j) (by omega)
      rw [hRs.2.1.2.1]
      refine wp_ng (fun q => absurd ((i32_le (by omega) (by omega) (by omega) (by omega)).mp q) (by omega)) ?_
      rw [i32_s, show set >>> (i32 (j : Int) &&& 31) &&& 1 = bt set j from rfl]
      by_cases hb : bt set j = 1
      · refine wp_gd hb ?_
        rw [i32_2, i32_mul]
        refine wp_gd (i32_in (by omega) (by omega) (by omega)) ?_
        rw [i32_cl (by omega) (by omega), show (2 * (j : Int)).toNat = 2 * j from by omega, (hRs.2.2.2.2.1 j (by omega)).1, show 10 * V 2 (3 * j + 1) + V 2 (3 * j) = cl5 V j from rfl]
        refine wp_ng (by decide) (wp_gd (i32_in (by omega) (by omega) (by omega)) ?_)
        rw [i32_cl (by omega) (by omega)]
        refine ih (j + 1) n _ (by omega) (by omega) (fun a b hab => by rw [up_ne (by omega)]; exact hF a b hab) (fun c hc => ?_)
        rw [inS_nx]
        by_cases hcc : c = (cl5 V j).toNat
        · rw [decide_eq_true ⟨by rw [hb]; decide, hcc⟩, Bool.or_true, if_pos rfl, hcc, up_eq]
          rfl
        · rw [up_ne (by omega), decide_eq_false (fun z => hcc z.2), Bool.or_false]
          exact hM c hc
      · refine wp_ng hb ?_
        have h0 : bt set j = 0 := (bt_01 set j).resolve_right hb
        refine ih (j + 1) n M (by omega) (by omega) hF (fun c hc => ?_)
        rw [inS_nx, decide_eq_false (fun z => z.1 h0), Bool.or_false]
        exact hM c hc
  refine lp (V 0 6).toNat 0 N M0 (by omega) (by omega) (fun _ _ _ => rfl) (fun c hc => ?_)
  rw [if_neg (fun z => by cases z)]
  exact hM0 c hc
theorem m_stands0 {N : Nat} (hN : 102 ≤ N) {V : VL} (hV : VX V) {M0 : am_M} (hR : RT V M0) (set : Int32) (hM0 : ∀ c, c < 100 → M0 21 c = i32 (if inS (cl5 V) set (V 0 6).toNat c = true then 5 else 0)) : wp (f_X10_stands N set 0 M0) (rV fun M' => fr21 M0 M' ∧ ∀ c, c < 100 → M' 21 c = i32 0) := by
  have hns := hV.ns
  have lp : ∀ (d j n : Nat) (M : am_M), j + d = (V 0 6).toNat → d < n → fr21 M0 M → (∀ c, c < 100 → M 21 c = i32 (if inS (cl5 V) set j c = true then 0 else (if inS (cl5 V) set (V 0 6).toNat c = true then 5 else 0))) → wp (f_X10_stands_2 N set 0 n (i32 (j : Int)) M) (rV fun M' => fr21 M0 M' ∧ ∀ c, c < 100 → M' 21 c = i32 0) := by
    intro d
    induction d with
    | zero =>
      intro j n M hj hn hF hM
      obtain ⟨n, rfl⟩ : ∃ k, n = k + 1 := ⟨n - 1, by omega⟩
      show wp (f_X10_stands_2B N _ _ _ _ M) _
      unfold f_X10_stands_2B
      have hRs := hR.fr hF
      rw [hRs.2.1.2.1]
      refine wp_gd ((i32_le (by omega) (by omega) (by omega) (by omega)).mpr (by omega)) (wp_v ⟨hF, fun c hc => ?_⟩)
      rw [hM c hc, show j = (V 0 6).toNat from by omega]
      congr 1
      split
      · rfl
      · rfl
    | succ d ih =>
      intro j n M hj hn hF hM
      obtain ⟨n, rfl⟩ : ∃ k, n = k + 1 := ⟨n - 1, by omega⟩
      show wp (f_X10_stands_2B N _ _ _ _ M) _
      unfold f_X10_stands_2B
      have hRs := hR.fr hF
      have hc := hV.c5 (i := j) (by omega)
      rw [hRs.2.1.2.1]
      refine wp_ng (fun q => absurd ((i32_le (by omega) (by omega) (by omega) (by omega)).mp q) (by omega)) ?_
      rw [i32_s, show set >>> (i32 (j : Int) &&& 31) &&& 1 = bt set j from rfl]
      by_cases hb : bt set j = 1
      · refine wp_gd hb ?_
        rw [i32_2, i32_mul]
        refine wp_gd (i32_in (by omega) (by omega) (by omega)) ?_
        rw [i32_cl (by omega) (by omega), show (2 * (j : Int)).toNat = 2 * j from by omega, (hRs.2.2.2.2.1 j (by omega)).1, show 10 * V 2 (3 * j + 1) + V 2 (3 * j) = cl5 V j from rfl]
        refine wp_gd rfl (wp_gd (i32_in (by omega) (by omega) (by omega)) ?_)
        rw [i32_cl (by omega) (by omega)]
        refine ih (j + 1) n _ (by omega) (by omega) (fun a b hab => by rw [up_ne (by omega)]; exact hF a b hab) (fun c hc => ?_)
        rw [inS_nx]
        by_cases hcc : c = (cl5 V j).toNat
        · rw [decide_eq_true ⟨by rw [hb]; decide, hcc⟩, Bool.or_true, if_pos rfl, hcc, up_eq]
          rfl
        · rw [up_ne (by omega), decide_eq_false (fun z => hcc z.2), Bool.or_false]
          exact hM c hc
      · refine wp_ng hb ?_
        have h0 : bt set j = 0 := (bt_01 set j).resolve_right hb
        refine ih (j + 1) n M (by omega) (by omega) hF (fun c hc => ?_)
        rw [inS_nx, decide_eq_false (fun z => z.1 h0), Bool.or_false]
        exact hM c hc
  refine lp (V 0 6).toNat 0 N M0 (by omega) (by omega) (fun _ _ _ => rfl) (fun c hc => ?_)
  rw [if_neg (fun z => by cases z)]
  exact hM0 c hc
theorem EM_b5 {V : VL} (hV : VX V) {M0 M : am_M} (hR : RT V M0) (hF : RF V M0) {set : Int32} (q : fr21 M0 M) (hM : ∀ c, c < 100 → M 21 c = i32 (if inS (cl5 V) set (V 0 6).toNat c = true then 5 else 0)) : EM (vH V (bH (V 6) (cl5 V) set (V 0 6).toNat)) M := by
  refine ⟨by rw [q 0 33 (by omega)]; exact hR.1.1, by rw [q 0 34 (by omega)]; exact hR.1.2.1, by rw [q 0 42 (by omega)]; exact hR.1.2.2.2.2, fun c hc => ?_⟩
  have b := (hV.1.2.2.2 c hc).1
  rw [hM c hc, q 10 c (by omega), q 11 c (by omega), (hF c hc).1]
  show (_ → _ = i32 (bH (V 6) (cl5 V) set (V 0 6).toNat c)) ∧ (_ → _ = i32 (bH (V 6) (cl5 V) set (V 0 6).toNat c)) ∧ _
  unfold bH
  refine ⟨fun z => ?_, fun z => ?_, hR.2.2.1 c hc⟩
  · have z := (i32_le0 (by omega) (by omega)).mp z
    have h0 : V 6 c = 0 := by omega
    by_cases h : inS (cl5 V) set (V 0 6).toNat c = true
    · rw [if_pos h, if_pos ⟨h0, h⟩]
    · rw [if_neg h, if_neg (fun y => h y.2), h0]
  · have h0 : V 6 c ≠ 0 := fun y => z ((i32_le0 (by omega) (by omega)).mpr (by omega))
    rw [if_neg (fun y => h0 y.1)]
/-- a place's cell -/
def cl11 (V : VL) (k : Nat) : Int := 10 * V 5 (2 * k + 1) + V 5 (2 * k)
theorem VX.c11 {V : VL} (hV : VX V) {i : Nat} (hi : (i : Int) < V 0 9) : 0 ≤ cl11 V i ∧ cl11 V i < 100 := by
  have := hV.2.2.2.2.2.2.2.1 i hi
  have hw := hV.1.1
  have hh := hV.1.2.1
  unfold cl11
  omega
theorem c_raise11 {N : Nat} (hN : 102 ≤ N) {V : VL} (hV : VX V) {M0 : am_M} (hR : RC V M0) (set : Int32) : wp (f_X2_raise_13_11 N set M0) (rI fun v M' => v = orB (rz (V 6) (cl11 V) set) 0 (V 0 9).toNat ∧ fr14 M0 M' ∧ ∀ c, c < 100 → M' 14 c = i32 (bH (V 6) (cl11 V) set (V 0 9).toNat c)) := by
  have hns := hV.ns
  have lp : ∀ (d j n : Nat) (M : am_M), j + d = (V 0 9).toNat → d < n → fr14 M0 M → (∀ c, c < 100 → M 14 c = i32 (bH (V 6) (cl11 V) set j c)) → wp (f_X2_raise_13_11_5 N set n (orB (rz (V 6) (cl11 V) set) 0 j) (i32 (j : Int)) M) (rI fun v M' => v = orB (rz (V 6) (cl11 V) set) 0 (V 0 9).toNat ∧ fr14 M0 M' ∧ ∀ c, c < 100 → M' 14 c = i32 (bH (V 6) (cl11 V) set (V 0 9).toNat c)) := by
    intro d
    induction d with
    | zero =>
      intro j n M hj hn hF hM
      obtain ⟨n, rfl⟩ : ∃ k, n = k + 1 := ⟨n - 1, by omega⟩
      show wp (f_X2_raise_13_11_5B N _ _ _ _ M) _
      unfold f_X2_raise_13_11_5B
      rw [(hR.2.2.2.2.2.2.1.fr hF (by omega) (by omega)).2.2.1]
      rw [show j = (V 0 9).toNat from by omega] at hM
      refine wp_gd ((i32_le (by omega) (by omega) (by omega) (by omega)).mpr (by omega)) (wp_i ⟨?_, hF, hM⟩)
      rw [show j = (V 0 9).toNat from by omega]
    | succ d ih =>
      intro j n M hj hn hF hM
      obtain ⟨n, rfl⟩ : ∃ k, n = k + 1 := ⟨n - 1, by omega⟩
      show wp (f_X2_raise_13_11_5B N _ _ _ _ M) _
      unfold f_X2_raise_13_11_5B
      have hT := hR.2.2.2.2.2.2.1.fr hF (by omega) (by omega)
      have hc := hV.c11 (i := j) (by omega)
      have hB := bH_B (cl := cl11 V) (set := set) (n := j) (fun c hc => (hV.1.2.2.2 c hc).1) (cl11 V j).toNat (by omega)
      rw [hT.2.2.1]
      refine wp_ng (fun q => absurd ((i32_le (by omega) (by omega) (by omega) (by omega)).mp q) (by omega)) ?_
      rw [c_cellAt11 hT (by omega) (by omega)]
      simp only [am_bi_i]
      rw [show 10 * V 5 (2 * j + 1) + V 5 (2 * j) = cl11 V j from rfl, i32_s, show set >>> (i32 (j : Int) &&& 31) &&& 1 = bt set j from rfl, show (1 : Int32) <<< (i32 (j : Int) &&& 31) = bit j from rfl]
      have k1 : orB (rz (V 6) (cl11 V) set) 0 (j + 1) = if rz (V 6) (cl11 V) set j then orB (rz (V 6) (cl11 V) set) 0 j ||| bit j else orB (rz (V 6) (cl11 V) set) 0 j := rfl
      -- nothing is raised
      have kno : rz (V 6) (cl11 V) set j = false → wp (f_X2_raise_13_11_5 N set n (orB (rz (V 6) (cl11 V) set) 0 j) (i32 ((j + 1 : Nat) : Int)) M) (rI fun v M' => v = orB (rz (V 6) (cl11 V) set) 0 (V 0 9).toNat ∧ fr14 M0 M' ∧ ∀ c, c < 100 → M' 14 c = i32 (bH (V 6) (cl11 V) set (V 0 9).toNat c)) := by
        intro hr
        have q := ih (j + 1) n M (by omega) (by omega) hF (fun c hc => by
          rw [hM c hc]
          unfold bH
          rw [inS_nx]
          by_cases hcc : bt set j ≠ 0 ∧ c = (cl11 V j).toNat
          · rw [decide_eq_true hcc, Bool.or_true]
            by_cases h0 : V 6 c = 0
            · have h3 : inS (cl11 V) set j c = true := by
                by_cases h4 : inS (cl11 V) set j c = true
                · exact h4
                · exfalso
                  have h5 : rz (V 6) (cl11 V) set j = true := by
                    unfold rz
                    refine decide_eq_true ⟨hcc.1, ?_⟩
                    rw [← hcc.2]
                    unfold bH
                    rw [if_neg (fun z => h4 z.2)]
                    exact h0
                  rw [hr] at h5
                  cases h5
              rw [if_pos ⟨h0, h3⟩, if_pos ⟨h0, rfl⟩]
            · rw [if_neg (fun z => h0 z.1), if_neg (fun z => h0 z.1)]
          · rw [decide_eq_false hcc, Bool.or_false])
        rw [k1, if_neg (by rw [hr]; decide)] at q
        exact q
      by_cases h1 : bt set j = 0
      · exact wp_gd h1 (kno (decide_eq_false (fun z => z.1 h1)))
      · refine wp_ng h1 (wp_gd (i32_in (by omega) (by omega) (by omega)) ?_)
        rw [i32_cl (by omega) (by omega), hM _ (by omega)]
        by_cases h2 : bH (V 6) (cl11 V) set j (cl11 V j).toNat = 0
        · refine wp_gd ((i32_eq0 (by omega) (by omega)).mpr h2) (wp_gd (i32_in (by omega) (by omega) (by omega)) ?_)
          have hr : rz (V 6) (cl11 V) set j = true := decide_eq_true ⟨h1, h2⟩
          have q := ih (j + 1) n (am_up M 14 (cl11 V j).toNat 5) (by omega) (by omega) (fun a b hab => by rw [up_ne (by omega)]; exact hF a b hab) (fun c hc => by
            unfold bH
            rw [inS_nx]
            by_cases hcc : c = (cl11 V j).toNat
            · have h0 : V 6 c = 0 := by
                unfold bH at h2
                rw [← hcc] at h2
                split at h2
                · cases h2
                · exact h2
              rw [decide_eq_true ⟨h1, hcc⟩, Bool.or_true, if_pos ⟨h0, rfl⟩, hcc, up_eq]
              rfl
            · rw [up_ne (by omega), decide_eq_false (fun z => hcc z.2), Bool.or_false]
              exact hM c hc)
          rw [k1, if_pos hr] at q
          exact q
        · exact wp_ng (fun z => h2 ((i32_eq0 (by omega) (by omega)).mp z)) (kno (decide_eq_false (fun z => h2 z.2)))
  refine lp (V 0 9).toNat 0 N M0 (by omega) (by omega) (fun _ _ _ => rfl) (fun c hc => ?_)
  unfold bH
  rw [if_neg (fun z => by cases z.2)]
  exact (hR.1.2.2.2 c hc).1
theorem c_lower11 {N : Nat} (hN : 102 ≤ N) {V : VL} (hV : VX V) {M0 : am_M} {H : Nat → Int} (hR : RC (vH V H) M0) (set : Int32) (hM0 : ∀ c, c < 100 → M0 14 c = i32 (bH (V 6) (cl11 V) set (V 0 9).toNat c)) : wp (f_X2_lower_13_11 N (orB (rz (V 6) (cl11 V) set) 0 (V 0 9).toNat) M0) (rV fun M' => fr14 M0 M' ∧ ∀ c, c < 100 → M' 14 c = i32 (V 6 c)) := by
  have hns := hV.ns
  have lp : ∀ (d j n : Nat) (M : am_M), j + d = (V 0 9).toNat → d < n → fr14 M0 M → (∀ c, c < 100 → M 14 c = i32 (lo (V 6) (cl11 V) set (V 0 9).toNat j c)) → wp (f_X2_lower_13_11_2 N (orB (rz (V 6) (cl11 V) set) 0 (V 0 9).toNat) n (i32 (j : Int)) M) (rV fun M' => fr14 M0 M' ∧ ∀ c, c < 100 → M' 14 c = i32 (V 6 c)) := by
    intro d
    induction d with
    | zero =>
      intro j n M hj hn hF hM
      obtain ⟨n, rfl⟩ : ∃ k, n = k + 1 := ⟨n - 1, by omega⟩
      show wp (f_X2_lower_13_11_2B N _ _ _ M) _
      unfold f_X2_lower_13_11_2B
      have hT : TbC 11 12 2 8 (V 0 9) (V 5) M := hR.2.2.2.2.2.2.1.fr hF (by omega) (by omega)
      rw [hT.2.2.1]
      refine wp_gd ((i32_le (by omega) (by omega) (by omega) (by omega)).mpr (by omega)) (wp_v ⟨hF, fun c hc => ?_⟩)
      rw [hM c hc, show j = (V 0 9).toNat from by omega, lo_end]
    | succ d ih =>
      intro j n M hj hn hF hM
      obtain ⟨n, rfl⟩ : ∃ k, n = k + 1 := ⟨n - 1, by omega⟩
      show wp (f_X2_lower_13_11_2B N _ _ _ M) _
      unfold f_X2_lower_13_11_2B
      have hT : TbC 11 12 2 8 (V 0 9) (V 5) M := hR.2.2.2.2.2.2.1.fr hF (by omega) (by omega)
      have hc := hV.c11 (i := j) (by omega)
      rw [hT.2.2.1]
      refine wp_ng (fun q => absurd ((i32_le (by omega) (by omega) (by omega) (by omega)).mp q) (by omega)) ?_
      have hbt := bt_orB (A := rz (V 6) (cl11 V) set) (k := j) (by omega) (V 0 9).toNat (by omega)
      rw [i32_s, show (orB (rz (V 6) (cl11 V) set) 0 (V 0 9).toNat) >>> (i32 (j : Int) &&& 31) &&& 1 = bt (orB (rz (V 6) (cl11 V) set) 0 (V 0 9).toNat) j from rfl, hbt]
      by_cases hr : rz (V 6) (cl11 V) set j = true
      · rw [if_pos (show j < (V 0 9).toNat ∧ rz (V 6) (cl11 V) set j = true from ⟨by omega, hr⟩)]
        refine wp_ng (by decide) ?_
        rw [c_cellAt11 hT (by omega) (by omega)]
        simp only [am_bi_i]
        rw [show 10 * V 5 (2 * j + 1) + V 5 (2 * j) = cl11 V j from rfl]
        refine wp_gd (i32_in (by omega) (by omega) (by omega)) ?_
        rw [i32_cl (by omega) (by omega)]
        refine ih (j + 1) n _ (by omega) (by omega) (fun a b hab => by rw [up_ne (by omega)]; exact hF a b hab) (fun c hc => ?_)
        unfold lo
        rw [inL_nx, hr, Bool.true_and]
        by_cases hcc : c = (cl11 V j).toNat
        · rw [hcc, up_eq, decide_eq_true rfl, Bool.or_true, if_pos rfl]; rfl
        · rw [up_ne (by omega), decide_eq_false hcc, Bool.or_false]; exact hM c hc
      · rw [if_neg (show ¬ (j < (V 0 9).toNat ∧ rz (V 6) (cl11 V) set j = true) from fun z => hr z.2)]
        refine wp_gd rfl ?_
        refine ih (j + 1) n M (by omega) (by omega) hF (fun c hc => ?_)
        rw [hM c hc]
        unfold lo
        rw [inL_nx, show rz (V 6) (cl11 V) set j = false from Bool.eq_false_iff.mpr hr, Bool.false_and, Bool.or_false]
  refine lp (V 0 9).toNat 0 N M0 (by omega) (by omega) (fun _ _ _ => rfl) (fun c hc => ?_)
  unfold lo
  rw [if_neg (fun z => by cases z)]
  exact hM0 c hc
theorem m_wonders1 {N : Nat} (hN : 102 ≤ N) {V : VL} (hV : VX V) {M0 : am_M} (hR : RT V M0) (set : Int32) (hM0 : ∀ c, c < 100 → M0 21 c = i32 0) : wp (f_X10_wonders N set 1 M0) (rV fun M' => fr21 M0 M' ∧ ∀ c, c < 100 → M' 21 c = i32 (if inS (cl11 V) set (V 0 9).toNat c = true then 5 else 0)) := by
  have hns := hV.ns
  have lp : ∀ (d j n : Nat) (M : am_M), j + d = (V 0 9).toNat → d < n → fr21 M0 M → (∀ c, c < 100 → M 21 c = i32 (if inS (cl11 V) set j c = true then 5 else 0)) → wp (f_X10_wonders_2 N set 1 n (i32 (j : Int)) M) (rV fun M' => fr21 M0 M' ∧ ∀ c, c < 100 → M' 21 c = i32 (if inS (cl11 V) set (V 0 9).toNat c = true then 5 else 0)) := by
    intro d
    induction d with
    | zero =>
      intro j n M hj hn hF hM
      obtain ⟨n, rfl⟩ : ∃ k, n = k + 1 := ⟨n - 1, by omega⟩
      show wp (f_X10_wonders_2B N _ _ _ _ M) _
      unfold f_X10_wonders_2B
      have hRs := hR.fr hF
      rw [hRs.2.1.2.2.2.2.1]
      refine wp_gd ((i32_le (by omega) (by omega) (by omega) (by omega)).mpr (by omega)) (wp_v ⟨hF, fun c hc => ?_⟩)
      rw [hM c hc, show j = (V 0 9).toNat from by omega]
    | succ d ih =>
      intro j n M hj hn hF hM
      obtain ⟨n, rfl⟩ : ∃ k, n = k + 1 := ⟨n - 1, by omega⟩
      show wp (f_X10_wonders_2B N _ _ _ _ M) _
      unfold f_X10_wonders_2B
      have hRs := hR.fr hF
      have hc := hV.c11 (i := j) (by omega)
      rw [hRs.2.1.2.2.2.2.1]
      refine wp_ng (fun q => absurd ((i32_le (by omega) (by omega) (by omega) (by omega)).mp q) (by omega)) ?_
      rw [i32_s, show set >>> (i32 (j : Int) &&& 31) &&& 1 = bt set j from rfl]
      by_cases hb : bt set j = 1
      · refine wp_gd hb ?_
        refine wp_gd (i32_in (by omega) (by omega) (by omega)) ?_
        rw [i32_k (by omega), hRs.2.2.2.2.2.2.2.1 j (by omega), show 10 * V 5 (2 * j + 1) + V 5 (2 * j) = cl11 V j from rfl]
        refine wp_ng (by decide) (wp_gd (i32_in (by omega) (by omega) (by omega)) ?_)
        rw [i32_cl (by omega) (by omega)]
        refine ih (j + 1) n _ (by omega) (by omega) (fun a b hab => by rw [up_ne (by omega)]; exact hF a b hab) (fun c hc => ?_)
        rw [inS_nx]
        by_cases hcc : c = (cl11 V j).toNat
        · rw [decide_eq_true ⟨by rw [hb]; decide, hcc⟩, Bool.or_true, if_pos rfl, hcc, up_eq]
          rfl
        · rw [up_ne (by omega), decide_eq_false (fun z => hcc z.2), Bool.or_false]
          exact hM c hc
      · refine wp_ng hb ?_
        have h0 : bt set j = 0 := (bt_01 set j).resolve_right hb
        refine ih (j + 1) n M (by omega) (by omega) hF (fun c hc => ?_)
        rw [inS_nx, decide_eq_false (fun z => z.1 h0), Bool.or_false]
        exact hM c hc
  refine lp (V 0 9).toNat 0 N M0 (by omega) (by omega) (fun _ _ _ => rfl) (fun c hc => ?_)
  rw [if_neg (fun z => by cases z)]
  exact hM0 c hc
theorem m_wonders0 {N : Nat} (hN : 102 ≤ N) {V : VL} (hV : VX V) {M0 : am_M} (hR : RT V M0) (set : Int32) (hM0 : ∀ c, c < 100 → M0 21 c = i32 (if inS (cl11 V) set (V 0 9).toNat c = true then 5 else 0)) : wp (f_X10_wonders N set 0 M0) (rV fun M' => fr21 M0 M' ∧ ∀ c, c < 100 → M' 21 c = i32 0) := by
  have hns := hV.ns
  have lp : ∀ (d j n : Nat) (M : am_M), j + d = (V 0 9).toNat → d < n → fr21 M0 M → (∀ c, c < 100 → M 21 c = i32 (if inS (cl11 V) set j c = true then 0 else (if inS (cl11 V) set (V 0 9).toNat c = true then 5 else 0))) → wp (f_X10_wonders_2 N set 0 n (i32 (j : Int)) M) (rV fun M' => fr21 M0 M' ∧ ∀ c, c < 100 → M' 21 c = i32 0) := by
    intro d
    induction d with
    | zero =>
      intro j n M hj hn hF hM
      obtain ⟨n, rfl⟩ : ∃ k, n = k + 1 := ⟨n - 1, by omega⟩
      show wp (f_X10_wonders_2B N _ _ _ _ M) _
      unfold f_X10_wonders_2B
      have hRs := hR.fr hF
      rw [hRs.2.1.2.2.2.2.1]
      refine wp_gd ((i32_le (by omega) (by omega) (by omega) (by omega)).mpr (by omega)) (wp_v ⟨hF, fun c hc => ?_⟩)
      rw [hM c hc, show j = (V 0 9).toNat from by omega]
      congr 1
      split
      · rfl
      · rfl
    | succ d ih =>
      intro j n M hj hn hF hM
      obtain ⟨n, rfl⟩ : ∃ k, n = k + 1 := ⟨n - 1, by omega⟩
      show wp (f_X10_wonders_2B N _ _ _ _ M) _
      unfold f_X10_wonders_2B
      have hRs := hR.fr hF
      have hc := hV.c11 (i := j) (by omega)
      rw [hRs.2.1.2.2.2.2.1]
      refine wp_ng (fun q => absurd ((i32_le (by omega) (by omega) (by omega) (by omega)).mp q) (by omega)) ?_
      rw [i32_s, show set >>> (i32 (j : Int) &&& 31) &&& 1 = bt set j from rfl]
      by_cases hb : bt set j = 1
      · refine wp_gd hb ?_
        refine wp_gd (i32_in (by omega) (by omega) (by omega)) ?_
        rw [i32_k (by omega), hRs.2.2.2.2.2.2.2.1 j (by omega), show 10 * V 5 (2 * j + 1) + V 5 (2 * j) = cl11 V j from rfl]
        refine wp_gd rfl (wp_gd (i32_in (by omega) (by omega) (by omega)) ?_)
        rw [i32_cl (by omega) (by omega)]
        refine ih (j + 1) n _ (by omega) (by omega) (fun a b hab => by rw [up_ne (by omega)]; exact hF a b hab) (fun c hc => ?_)
        rw [inS_nx]
        by_cases hcc : c = (cl11 V j).toNat
        · rw [decide_eq_true ⟨by rw [hb]; decide, hcc⟩, Bool.or_true, if_pos rfl, hcc, up_eq]
          rfl
        · rw [up_ne (by omega), decide_eq_false (fun z => hcc z.2), Bool.or_false]
          exact hM c hc
      · refine wp_ng hb ?_
        have h0 : bt set j = 0 := (bt_01 set j).resolve_right hb
        refine ih (j + 1) n M (by omega) (by omega) hF (fun c hc => ?_)
        rw [inS_nx, decide_eq_false (fun z => z.1 h0), Bool.or_false]
        exact hM c hc
  refine lp (V 0 9).toNat 0 N M0 (by omega) (by omega) (fun _ _ _ => rfl) (fun c hc => ?_)
  rw [if_neg (fun z => by cases z)]
  exact hM0 c hc
theorem EM_b11 {V : VL} (hV : VX V) {M0 M : am_M} (hR : RT V M0) (hF : RF V M0) {set : Int32} (q : fr21 M0 M) (hM : ∀ c, c < 100 → M 21 c = i32 (if inS (cl11 V) set (V 0 9).toNat c = true then 5 else 0)) : EM (vH V (bH (V 6) (cl11 V) set (V 0 9).toNat)) M := by
  refine ⟨by rw [q 0 33 (by omega)]; exact hR.1.1, by rw [q 0 34 (by omega)]; exact hR.1.2.1, by rw [q 0 42 (by omega)]; exact hR.1.2.2.2.2, fun c hc => ?_⟩
  have b := (hV.1.2.2.2 c hc).1
  rw [hM c hc, q 10 c (by omega), q 11 c (by omega), (hF c hc).1]
  show (_ → _ = i32 (bH (V 6) (cl11 V) set (V 0 9).toNat c)) ∧ (_ → _ = i32 (bH (V 6) (cl11 V) set (V 0 9).toNat c)) ∧ _
  unfold bH
  refine ⟨fun z => ?_, fun z => ?_, hR.2.2.1 c hc⟩
  · have z := (i32_le0 (by omega) (by omega)).mp z
    have h0 : V 6 c = 0 := by omega
    by_cases h : inS (cl11 V) set (V 0 9).toNat c = true
    · rw [if_pos h, if_pos ⟨h0, h⟩]
    · rw [if_neg h, if_neg (fun y => h y.2), h0]
  · have h0 : V 6 c ≠ 0 := fun y => z ((i32_le0 (by omega) (by omega)).mpr (by omega))
    rw [if_neg (fun y => h0 y.1)]
