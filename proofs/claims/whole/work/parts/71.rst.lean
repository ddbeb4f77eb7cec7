/-! rests: sets of at most four sites, as numbers -/
theorem or16 : ∀ a b : Fin 16, i32 ((a.1 : Nat) : Int) ||| i32 ((b.1 : Nat) : Int) = i32 (((a.1 ||| b.1 : Nat)) : Int) ∧ a.1 ||| b.1 < 16 := by decide +kernel
theorem sub16 : ∀ a b o : Fin 16, i32 ((a.1 : Nat) : Int) &&& (i32 ((o.1 : Nat) : Int) ^^^ (-1)) = 0 → i32 ((b.1 : Nat) : Int) &&& (i32 ((o.1 : Nat) : Int) ^^^ (-1)) = 0 → i32 ((a.1 ||| b.1 : Nat) : Int) &&& (i32 ((o.1 : Nat) : Int) ^^^ (-1)) = 0 := by decide +kernel
theorem sub1 : ∀ o : Fin 16, ∀ k : Fin 4, bt (i32 ((o.1 : Nat) : Int)) k.1 ≠ 0 → i32 ((2 ^ k.1 : Nat) : Int) &&& (i32 ((o.1 : Nat) : Int) ^^^ (-1)) = 0 := by decide +kernel
theorem orbit16 : ∀ o : Fin 16, ∀ k : Fin 4, ∃ p : Fin 16, i32 ((o.1 : Nat) : Int) ||| bit k.1 = i32 ((p.1 : Nat) : Int) := by decide +kernel
theorem orB_16 {A : Nat → Bool} : ∀ n, n ≤ 4 → ∃ o : Fin 16, orB A 0 n = i32 ((o.1 : Nat) : Int) := by
  intro n
  induction n with
  | zero => intro _; exact ⟨⟨0, by omega⟩, rfl⟩
  | succ n ih =>
    intro hn
    obtain ⟨o, ho⟩ := ih (by omega)
    show ∃ p : Fin 16, (if A n then orB A 0 n ||| bit n else orB A 0 n) = _
    by_cases hA : A n = true
    · rw [if_pos hA, ho]; exact orbit16 o ⟨n, by omega⟩
    · rw [if_neg hA]; exact ⟨o, ho⟩
variable {N : Nat} {V : VL} {M0 : am_M} {f : Nat}
theorem opn_16 (hV : VX V) : ∃ o : Fin 16, opn V = i32 ((o.1 : Nat) : Int) := have := hV.ns; orB_16 _ (by omega)
def wo (V : VL) (s f : Nat) : Int := wt (bV5 V (i32 (s : Int))) 0 (V 0 3) f
theorem wo_B (hV : VX V) (hff : (f : Int) < V 0 5) {s : Nat} : 0 ≤ wo V s f ∧ wo V s f ≤ 2376 := wt_B (V := bV5 V (i32 (s : Int))) hV.b5 (by omega) hff
def suO (V : VL) (s : Nat) : Prop := i32 (s : Int) &&& (opn V ^^^ (-1)) = 0
def isO (V : VL) (c : Nat) : Bool := decide (c = 0 ∨ bt (opn V) (c - 1) ≠ 0)
def bs (ch : Nat → Nat) (n : Nat) : Nat := it (fun k s => if 0 < ch k then s ||| 2 ^ (ch k - 1) else s) 0 n
theorem bs_nx {ch : Nat → Nat} {n : Nat} : bs ch (n + 1) = if 0 < ch n then bs ch n ||| 2 ^ (ch n - 1) else bs ch n := rfl
theorem bs_ok (hV : VX V) {ch : Nat → Nat} : ∀ n, (∀ k, k < n → ch k ≤ (V 0 6).toNat ∧ isO V (ch k) = true) → bs ch n < 2 ^ (V 0 6).toNat ∧ suO V (bs ch n) := by
  have hns := hV.ns
  have hp := pw_4 (n := (V 0 6).toNat) (by omega)
  obtain ⟨o, ho⟩ := opn_16 hV
  intro n
  induction n with
  | zero =>
    intro _
    refine ⟨hp.1, ?_⟩
    show i32 (0 : Int) &&& _ = 0
    rw [ho]
    exact (by decide : ∀ o : Fin 16, i32 (0 : Int) &&& (i32 ((o.1 : Nat) : Int) ^^^ (-1)) = 0) o
  | succ n ih =>
    intro h
    have q := ih (fun k hk => h k (by omega))
    have hn := h n (by omega)
    rw [bs_nx]
    split
    · rename_i h0
      have h1 : 2 ^ (ch n - 1) < 2 ^ (V 0 6).toNat := Nat.pow_lt_pow_right (by omega) (by omega)
      refine ⟨Nat.or_lt_two_pow q.1 h1, ?_⟩
      have h2 : bt (opn V) (ch n - 1) ≠ 0 := by
        rcases of_decide_eq_true hn.2 with z | z
        · omega
        · exact z
      unfold suO at *
      rw [ho] at q h2 ⊢
      exact sub16 ⟨bs ch n, by omega⟩ ⟨2 ^ (ch n - 1), by omega⟩ o q.2 (sub1 o ⟨ch n - 1, by omega⟩ h2)
    · exact q
def ups (ch : Nat → Nat) (f c : Nat) : Nat → Nat := fun k => if k = f then c else ch k
def out (V : VL) (ch : Nat → Nat) (f : Nat) : Int := wo V (bs ch (V 0 5).toNat) f - (if 0 < ch f then V 2 (3 * (ch f - 1) + 2) else 0)
/-- all is open -/
def AO (V : VL) (ch : Nat → Nat) : Prop := ∀ k, k < (V 0 5).toNat → ch k ≤ (V 0 6).toNat ∧ isO V (ch k) = true
theorem AO.up {ch : Nat → Nat} (h : AO V ch) {c : Nat} (hc : c ≤ (V 0 6).toNat) (ho : isO V c = true) : AO V (ups ch f c) := by
  intro k hk
  unfold ups
  split
  · exact ⟨hc, ho⟩
  · exact h k hk
theorem out_B (hV : VX V) {ch : Nat → Nat} (hA : AO V ch) (hff : (f : Int) < V 0 5) : -99 ≤ out V ch f ∧ out V ch f ≤ 2376 := by
  have := wo_B hV hff (s := bs ch (V 0 5).toNat)
  have hc := (hA f (by omega)).1
  unfold out
  split
  · have := (hV.sit (i := ch f - 1) (by omega)).2.2
    omega
  · omega
def hb (V : VL) (ch : Nat → Nat) (f n : Nat) : Bool := it (fun c b => b || (isO V c && decide (out V ch f < out V (ups ch f c) f))) false n
theorem hb_nx {ch : Nat → Nat} {n : Nat} : hb V ch f (n + 1) = (hb V ch f n || (isO V n && decide (out V ch f < out V (ups ch f n) f))) := rfl
theorem hb_mono {ch : Nat → Nat} {n : Nat} (h : hb V ch f n = true) : ∀ d, hb V ch f (n + d) = true := by
  intro d
  induction d with
  | zero => exact h
  | succ d ih => rw [← Nat.add_assoc, hb_nx, ih]; rfl
def iR (V : VL) (ch : Nat → Nat) (n : Nat) : Bool := it (fun f b => b && !hb V ch f ((V 0 6).toNat + 1)) true n
theorem iR_nx {ch : Nat → Nat} {n : Nat} : iR V ch (n + 1) = (iR V ch n && !hb V ch n ((V 0 6).toNat + 1)) := rfl
theorem iR_no {ch : Nat → Nat} {n : Nat} (h : iR V ch n = false) : ∀ d, iR V ch (n + d) = false := by
  intro d
  induction d with
  | zero => exact h
  | succ d ih => rw [← Nat.add_assoc, iR_nx, ih]; rfl
def aO (V : VL) (ch : Nat → Nat) (n : Nat) : Bool := it (fun f b => b && isO V (ch f)) true n
theorem aO_nx {ch : Nat → Nat} {n : Nat} : aO V ch (n + 1) = (aO V ch n && isO V (ch n)) := rfl
theorem aO_iff {ch : Nat → Nat} : ∀ n, aO V ch n = true ↔ ∀ k, k < n → isO V (ch k) = true := by
  intro n
  induction n with
  | zero => exact ⟨fun _ k hk => by omega, fun _ => rfl⟩
  | succ n ih =>
    rw [aO_nx, Bool.and_eq_true, ih]
    constructor
    · intro h k hk
      by_cases hkn : k = n
      · rw [hkn]; exact h.2
      · exact h.1 k (by omega)
    · intro h
      exact ⟨fun k hk => h k (by omega), h n (by omega)⟩
def dig (ch : Nat → Nat) (n : Nat) : Nat := it (fun k d => d * 10 + ch k) 0 n
theorem dig_nx {ch : Nat → Nat} {n : Nat} : dig ch (n + 1) = dig ch n * 10 + ch n := rfl
theorem dig_B {ch : Nat → Nat} : ∀ n, (∀ k, k < n → ch k ≤ 9) → dig ch n < 10 ^ n := by
  intro n
  induction n with
  | zero => intro _; exact Nat.one_pos
  | succ n ih =>
    intro h
    have := ih (fun k hk => h k (by omega))
    have := h n (by omega)
    rw [dig_nx, Nat.pow_succ]
    omega
theorem dig_5 {ch : Nat → Nat} {n : Nat} (hn : n ≤ 5) (h : ∀ k, k < n → ch k ≤ 9) : dig ch n < 100000 := Nat.lt_of_lt_of_le (dig_B n h) (show 10 ^ n ≤ 10 ^ 5 from Nat.pow_le_pow_right (by omega) hn)
/-- a row's choices -/
def dg (V : VL) (r f : Nat) : Nat := r / ((V 0 6).toNat + 1) ^ ((V 0 5).toNat - 1 - f) % ((V 0 6).toNat + 1)
theorem dg_le {r f : Nat} : dg V r f ≤ (V 0 6).toNat := Nat.le_of_lt_succ (Nat.mod_lt _ (by omega))
def rsF (V : VL) (r : Nat) (a : Int × Int) : Int × Int := if aO V (dg V r) (V 0 5).toNat && iR V (dg V r) (V 0 5).toNat then (a.1 + 1, if a.1 = 0 then (dig (dg V r) (V 0 5).toNat : Nat) else a.2) else a
def rsS (V : VL) (r : Nat) : Int × Int := it (rsF V) (0, -1) r
theorem rsS_nx {r : Nat} : rsS V (r + 1) = rsF V r (rsS V r) := rfl
theorem rsS_B (hV : VX V) : ∀ r : Nat, (0 ≤ (rsS V r).1 ∧ (rsS V r).1 ≤ r) ∧ (-1 ≤ (rsS V r).2 ∧ (rsS V r).2 ≤ 100000) ∧ ((rsS V r).1 = 0 ↔ (rsS V r).2 = -1) := by
  have hns := hV.ns
  intro r
  induction r with
  | zero => exact ⟨⟨Int.le_refl 0, Int.le_refl 0⟩, ⟨Int.le_refl (-1), (by decide : (-1 : Int) ≤ 100000)⟩, ⟨fun _ => rfl, fun _ => rfl⟩⟩
  | succ r ih =>
    rw [rsS_nx]
    unfold rsF
    have hd := dig_5 (ch := dg V r) (n := (V 0 5).toNat) (by omega) (fun k _ => by have := dg_le (V := V) (r := r) (f := k); omega)
    split
    · refine ⟨⟨?_, ?_⟩, ?_⟩
      · show 0 ≤ (rsS V r).1 + 1; omega
      · show (rsS V r).1 + 1 ≤ _; omega
      · show (-1 ≤ (if (rsS V r).1 = 0 then ((dig (dg V r) (V 0 5).toNat : Nat) : Int) else (rsS V r).2) ∧ (if (rsS V r).1 = 0 then ((dig (dg V r) (V 0 5).toNat : Nat) : Int) else (rsS V r).2) ≤ 100000) ∧ ((rsS V r).1 + 1 = 0 ↔ (if (rsS V r).1 = 0 then ((dig (dg V r) (V 0 5).toNat : Nat) : Int) else (rsS V r).2) = -1)
        split <;> omega
    · exact ⟨⟨ih.1.1, by omega⟩, ih.2⟩
def rows (V : VL) : Nat := ((V 0 6).toNat + 1) ^ (V 0 5).toNat
theorem rows_B (hV : VX V) : 1 ≤ rows V ∧ rows V ≤ 3125 := by
  have hns := hV.ns
  refine ⟨Nat.pow_pos (by omega), ?_⟩
  calc ((V 0 6).toNat + 1) ^ (V 0 5).toNat ≤ 5 ^ (V 0 5).toNat := Nat.pow_le_pow_left (by omega) _
    _ ≤ 5 ^ 5 := Nat.pow_le_pow_right (by omega) (by omega)
/-! the class's side -/
def CH (V : VL) (ch : Nat → Nat) (M : am_M) : Prop := ∀ k, k < (V 0 5).toNat → M 62 k = i32 (ch k : Int)
def WC (V : VL) (M : am_M) : Prop := ∀ s f, f < (V 0 5).toNat → s < 2 ^ (V 0 6).toNat → suO V s → M 61 (s * 5 + f) = i32 (wo V s f)
theorem c_out_lp (hV : VX V) {M : am_M} (hR : RC V M) {ch : Nat → Nat} (hA : AO V ch) (hC : CH V ch M) (hW : WC V M) (hff : (f : Int) < V 0 5) : ∀ (d j n : Nat), j + d = (V 0 5).toNat → d < n → f_X1_outcome_4 N (i32 (f : Int)) n (i32 ((bs ch j : Nat) : Int)) (i32 (j : Int)) M = some (.ok (some (.int (i32 (out V ch f)))), M) := by
  have hns := hV.ns
  have hp := pw_4 (n := (V 0 6).toNat) (by omega)
  intro d
  induction d with
  | zero =>
    intro j n hj hn
    obtain ⟨n, rfl⟩ : ∃ k, n = k + 1 := ⟨n - 1, by omega⟩
    show f_X1_outcome_4B N _ _ _ _ M = _
    unfold f_X1_outcome_4B
    have hb := bs_ok hV (V 0 5).toNat hA
    have hc := (hA f (by omega)).1
    have he : f_X1_outcome_78 N (i32 (f : Int)) (i32 ((bs ch j : Nat) : Int)) (i32 (if 0 < ch f then V 2 (3 * (ch f - 1) + 2) else 0)) M = some (.ok (some (.int (i32 (out V ch f)))), M) := by
      unfold f_X1_outcome_78
      rw [show j = (V 0 5).toNat from by omega, i32_5, i32_mul, i32_add, if_pos (i32_in (by omega) (by omega) (by omega)), i32_cl (by omega) (by omega), show (((bs ch (V 0 5).toNat : Nat) : Int) * 5 + (f : Int)).toNat = bs ch (V 0 5).toNat * 5 + f from by omega, hW _ _ (by omega) hb.1 hb.2, i32_sub]
      rfl
    rw [hR.2.2.1.2.2.1, if_pos ((i32_le (by omega) (by omega) (by omega) (by omega)).mpr (by omega)), if_pos (i32_in (by omega) (by omega) (by omega)), i32_k (by omega), hC f (by omega)]
    by_cases h0 : 0 < ch f
    · rw [if_neg (fun q => by have := (i32_le0 (by omega) (by omega)).mp q; omega), if_pos (i32_in (by omega) (by omega) (by omega)), i32_1, i32_sub, show ((ch f : Nat) : Int) - 1 = ((ch f - 1 : Nat) : Int) from by omega, show (2 : Int32) = i32 ((2 : Nat) : Int) from rfl, c_at5 hR.2.2.2.1 (by omega) (r := ch f - 1) (k := 2) (by omega) (by omega)]
      simp only [am_bi_i]
      rw [if_pos h0] at he
      exact he
    · rw [if_pos ((i32_le0 (by omega) (by omega)).mpr (by omega))]
      rw [if_neg h0] at he
      exact he
  | succ d ih =>
    intro j n hj hn
    obtain ⟨n, rfl⟩ : ∃ k, n = k + 1 := ⟨n - 1, by omega⟩
    show f_X1_outcome_4B N _ _ _ _ M = _
    unfold f_X1_outcome_4B
    have hb := bs_ok hV j (fun k hk => hA k (by omega))
    have hc := (hA j (by omega)).1
    have := ih (j + 1) n (by omega) (by omega)
    rw [bs_nx] at this
    rw [hR.2.2.1.2.2.1, if_neg (fun q => absurd ((i32_le (by omega) (by omega) (by omega) (by omega)).mp q) (by omega)), if_pos (i32_in (by omega) (by omega) (by omega)), i32_k (by omega), hC j (by omega), i32_s]
    by_cases h0 : 0 < ch j
    · rw [if_pos h0] at this
      have hpj := pw_4 (n := ch j - 1) (by omega)
      have h1 : 2 ^ (ch j - 1) < 2 ^ (V 0 6).toNat := Nat.pow_lt_pow_right (by omega) (by omega)
      rw [if_neg (fun q => by have := (i32_le0 (by omega) (by omega)).mp q; omega), if_pos (i32_in (by omega) (by omega) (by omega)), i32_1, i32_sub, show ((ch j : Nat) : Int) - 1 = ((ch j - 1 : Nat) : Int) from by omega, ← i32_1, sh_pw (by omega), show (((ch j - 1 : Nat) : Int)).toNat = ch j - 1 from by omega, (or16 ⟨bs ch j, by omega⟩ ⟨2 ^ (ch j - 1), by omega⟩).1]
      exact this
    · rw [if_neg h0] at this
      rw [if_pos ((i32_le0 (by omega) (by omega)).mpr (by omega))]
      exact this
theorem c_out (hN : 102 ≤ N) (hV : VX V) {M : am_M} (hR : RC V M) {ch : Nat → Nat} (hA : AO V ch) (hC : CH V ch M) (hW : WC V M) (hff : (f : Int) < V 0 5) : f_X1_outcome N (i32 (f : Int)) M = some (.ok (some (.int (i32 (out V ch f)))), M) :=
  have hns := hV.ns
  c_out_lp hV hR hA hC hW hff (V 0 5).toNat 0 N (by omega) (by omega)
def fr62 (M M' : am_M) : Prop := ∀ a b, a ≠ 62 → M' a b = M a b
theorem fr62.trans {M M' M'' : am_M} (h1 : fr62 M M') (h2 : fr62 M' M'') : fr62 M M'' := fun a b h => (h2 a b h).trans (h1 a b h)
theorem fr62.c {M M' : am_M} (h : fr62 M M') : sC M M' := fun a b q => h a b (by omega)
theorem WC.fr {M M' : am_M} (h : WC V M) (q : fr62 M M') : WC V M' := fun s f h1 h2 h3 => by rw [q 61 _ (by omega)]; exact h s f h1 h2 h3
theorem c_isOpen (hV : VX V) {M : am_M} (hO : M 60 6 = opn V) {c : Nat} (hc : c ≤ 4) : f_X1_isOpen N (i32 (c : Int)) M = some (.ok (some (.int (if isO V c then 1 else 0))), M) := by
  unfold f_X1_isOpen isO
  by_cases h0 : c = 0
  · rw [if_pos ((i32_eq0 (by omega) (by omega)).mpr (by omega)), if_pos (decide_eq_true (Or.inl h0))]
  · rw [if_neg (fun q => by have := (i32_eq0 (by omega) (by omega)).mp q; omega), hO, i32_1, i32_sub, show ((c : Nat) : Int) - 1 = ((c - 1 : Nat) : Int) from by omega, ← i32_1, show opn V >>> (i32 ((c - 1 : Nat) : Int) &&& 31) &&& 1 = bt (opn V) (c - 1) from rfl]
    by_cases hb : bt (opn V) (c - 1) = 0
    · rw [if_pos hb, if_neg]
      intro q
      rcases of_decide_eq_true q with z | z
      · exact h0 z
      · exact z hb
    · rw [if_neg hb, if_pos (decide_eq_true (Or.inr hb))]
theorem c_hb_end {M : am_M} {ch : Nat → Nat} (hV : VX V) (hff : (f : Int) < V 0 5) {v4 : Bool} (hC : ∀ k, k ≠ f → k < (V 0 5).toNat → M 62 k = i32 (ch k : Int)) : wp (f_X1_hasBetter_78 N (i32 (f : Int)) (i32 (ch f : Int)) (if v4 then 1 else 0) M) (rI fun v M' => v = (if v4 then 1 else 0) ∧ fr62 M M' ∧ CH V ch M') := by
  have hns := hV.ns
  unfold f_X1_hasBetter_78
  refine wp_gd (i32_in (by omega) (by omega) (by omega)) (wp_gd ?_ (wp_i ⟨rfl, fun a b q => up_ne (by omega), fun k hk => ?_⟩))
  · cases v4 <;> decide
  · rw [i32_k (by omega)]
    by_cases h : k = f
    · rw [h, up_eq]
    · rw [up_ne (by omega)]; exact hC k h hk
theorem c_hb_lp (hN : 102 ≤ N) (hV : VX V) {M : am_M} (hR : RC V M) (hO : M 60 6 = opn V) {ch : Nat → Nat} (hA : AO V ch) (hW : WC V M) (hff : (f : Int) < V 0 5) : ∀ (d j n : Nat) (M' : am_M), j + d = (V 0 6).toNat + 1 → d < n → fr62 M M' → (∀ k, k ≠ f → k < (V 0 5).toNat → M' 62 k = i32 (ch k : Int)) → wp (f_X1_hasBetter_19 N (i32 (f : Int)) (i32 (ch f : Int)) (i32 (out V ch f)) n (if hb V ch f j then 1 else 0) (i32 (j : Int)) M') (rI fun v M'' => v = (if hb V ch f ((V 0 6).toNat + 1) then 1 else 0) ∧ fr62 M M'' ∧ CH V ch M'') := by
  have hns := hV.ns
  have hoB := out_B hV hA hff
  intro d
  induction d with
  | zero =>
    intro j n M' hj hn hF hC
    obtain ⟨n, rfl⟩ : ∃ k, n = k + 1 := ⟨n - 1, by omega⟩
    show wp (f_X1_hasBetter_19B N _ _ _ _ _ _ M') _
    unfold f_X1_hasBetter_19B
    rw [(hR.sC hF.c).2.2.2.1.2.2.1]
    refine wp_gd ((i32_lt (by omega) (by omega) (by omega) (by omega)).mpr (by omega)) ?_
    rw [show j = (V 0 6).toNat + 1 from by omega]
    exact wp_mi (c_hb_end hV hff hC) (fun v M'' q => ⟨q.1, hF.trans q.2.1, q.2.2⟩)
  | succ d ih =>
    intro j n M' hj hn hF hC
    obtain ⟨n, rfl⟩ : ∃ k, n = k + 1 := ⟨n - 1, by omega⟩
    show wp (f_X1_hasBetter_19B N _ _ _ _ _ _ M') _
    unfold f_X1_hasBetter_19B
    have hRM := hR.sC hF.c
    rw [hRM.2.2.2.1.2.2.1]
    refine wp_ng (fun q => absurd ((i32_lt (by omega) (by omega) (by omega) (by omega)).mp q) (by omega)) ?_
    by_cases hbj : hb V ch f j = true
    · have he : hb V ch f ((V 0 6).toNat + 1) = true := by
        have := hb_mono hbj ((V 0 6).toNat + 1 - j)
        rw [show j + ((V 0 6).toNat + 1 - j) = (V 0 6).toNat + 1 from by omega] at this
        exact this
      refine wp_ng (by rw [if_pos hbj]; decide) ?_
      rw [he, hbj]
      exact wp_mi (c_hb_end (v4 := true) hV hff hC) (fun v M'' q => ⟨q.1, hF.trans q.2.1, q.2.2⟩)
    · have hbf : hb V ch f j = false := Bool.eq_false_iff.mpr hbj
      have ihj := fun M'' => ih (j + 1) n M'' (by omega) (by omega)
      rw [hb_nx, hbf, Bool.false_or] at ihj
      refine wp_gd (by rw [hbf]; rfl) ?_
      rw [c_isOpen hV ((hF 60 6 (by omega)).trans hO) (by omega)]
      simp only [am_bi_i]
      by_cases hjo : isO V j = true
      · rw [hjo, Bool.true_and] at ihj
        refine wp_ng (by rw [if_pos hjo]; decide) (wp_gd (i32_in (by omega) (by omega) (by omega)) ?_)
        rw [i32_k (by omega)]
        have hF2 : fr62 M (am_up M' 62 f (i32 (j : Int))) := fun a b q => (up_ne (by omega)).trans (hF a b q)
        have hC2 : ∀ k, k ≠ f → k < (V 0 5).toNat → am_up M' 62 f (i32 (j : Int)) 62 k = i32 (ch k : Int) := fun k h1 h2 => (up_ne (by omega)).trans (hC k h1 h2)
        have hA2 := hA.up (f := f) (c := j) (by omega) hjo
        have hoB2 := out_B hV hA2 hff
        rw [c_out hN hV (hR.sC hF2.c) hA2 (fun k hk => by
          unfold ups
          by_cases hkf : k = f
          · rw [if_pos hkf, hkf, up_eq]
          · rw [if_neg hkf]; exact hC2 k hkf hk) (hW.fr hF2) hff]
        simp only [am_bi_i]
        rw [i32_s]
        by_cases hlt : out V ch f < out V (ups ch f j) f
        · rw [decide_eq_true hlt] at ihj
          exact wp_ng (fun q => absurd ((i32_le (by omega) (by omega) (by omega) (by omega)).mp q) (by omega)) (ihj _ hF2 hC2)
        · rw [decide_eq_false hlt] at ihj
          exact wp_gd ((i32_le (by omega) (by omega) (by omega) (by omega)).mpr (by omega)) (ihj _ hF2 hC2)
      · have hjf : isO V j = false := Bool.eq_false_iff.mpr hjo
        rw [hjf, Bool.false_and] at ihj
        refine wp_gd (by rw [hjf]; rfl) ?_
        rw [i32_s, hbf]
        exact ihj M' hF hC
theorem c_hb (hN : 102 ≤ N) (hV : VX V) {M : am_M} (hR : RC V M) (hO : M 60 6 = opn V) {ch : Nat → Nat} (hA : AO V ch) (hC : CH V ch M) (hW : WC V M) (hff : (f : Int) < V 0 5) : wp (f_X1_hasBetter N (i32 (f : Int)) M) (rI fun v M'' => v = (if hb V ch f ((V 0 6).toNat + 1) then 1 else 0) ∧ fr62 M M'' ∧ CH V ch M'') := by
  have hns := hV.ns
  unfold f_X1_hasBetter
  refine wp_gd (i32_in (by omega) (by omega) (by omega)) ?_
  rw [c_out hN hV hR hA hC hW hff]
  simp only [am_bi_i]
  rw [i32_k (by omega), hC f (by omega)]
  exact c_hb_lp hN hV hR hO hA hW hff ((V 0 6).toNat + 1) 0 N M (by omega) (by omega) (fun _ _ _ => rfl) (fun k _ hk => hC k hk)
theorem c_rest2_lp (hN : 102 ≤ N) (hV : VX V) {M : am_M} (hR : RC V M) (hO : M 60 6 = opn V) {ch : Nat → Nat} (hA : AO V ch) (hW : WC V M) : ∀ (d j n : Nat) (M' : am_M), j + d = (V 0 5).toNat → d < n → fr62 M M' → CH V ch M' → iR V ch j = true → wp (f_X1_isRest_39 N n (i32 (j : Int)) M') (rI fun v M'' => v = (if iR V ch (V 0 5).toNat then 1 else 0) ∧ fr62 M M'' ∧ CH V ch M'') := by
  have hns := hV.ns
  intro d
  induction d with
  | zero =>
    intro j n M' hj hn hF hC hi
    obtain ⟨n, rfl⟩ : ∃ k, n = k + 1 := ⟨n - 1, by omega⟩
    show wp (f_X1_isRest_39B N _ _ M') _
    unfold f_X1_isRest_39B
    rw [(hR.sC hF.c).2.2.1.2.2.1]
    rw [show j = (V 0 5).toNat from by omega] at hi ⊢
    refine wp_gd ((i32_le (by omega) (by omega) (by omega) (by omega)).mpr (by omega)) (wp_i ⟨?_, hF, hC⟩)
    rw [hi]; rfl
  | succ d ih =>
    intro j n M' hj hn hF hC hi
    obtain ⟨n, rfl⟩ : ∃ k, n = k + 1 := ⟨n - 1, by omega⟩
    show wp (f_X1_isRest_39B N _ _ M') _
    unfold f_X1_isRest_39B
    have hRM := hR.sC hF.c
    rw [hRM.2.2.1.2.2.1]
    refine wp_ng (fun q => absurd ((i32_le (by omega) (by omega) (by omega) (by omega)).mp q) (by omega)) ?_
    refine wp_ci (c_hb hN hV hRM ((hF 60 6 (by omega)).trans hO) hA hC (hW.fr hF) (by omega)) ?_
    rintro v M2 ⟨rfl, hF2, hC2⟩
    have k1 := iR_nx (V := V) (ch := ch) (n := j)
    rw [hi, Bool.true_and] at k1
    by_cases hh : hb V ch j ((V 0 6).toNat + 1) = true
    · rw [hh] at k1
      refine wp_ng (by rw [if_pos hh]; decide) (wp_i ⟨?_, hF.trans hF2, hC2⟩)
      have := iR_no k1 d
      rw [show j + 1 + d = (V 0 5).toNat from by omega] at this
      rw [this]; rfl
    · have hf := Bool.eq_false_iff.mpr hh
      rw [hf] at k1
      refine wp_gd (by rw [hf]; rfl) ?_
      rw [i32_s]
      exact ih (j + 1) n M2 (by omega) (by omega) (hF.trans hF2) hC2 k1
theorem c_rest_lp (hN : 102 ≤ N) (hV : VX V) {M : am_M} (hR : RC V M) (hO : M 60 6 = opn V) {ch : Nat → Nat} (hL : ∀ k, ch k ≤ (V 0 6).toNat) (hC : CH V ch M) (hW : WC V M) : ∀ (d j n : Nat), j + d = (V 0 5).toNat → d < n → aO V ch j = true → wp (f_X1_isRest_2 N n (i32 (j : Int)) M) (rI fun v M'' => v = (if aO V ch (V 0 5).toNat && iR V ch (V 0 5).toNat then 1 else 0) ∧ fr62 M M'' ∧ CH V ch M'') := by
  have hns := hV.ns
  intro d
  induction d with
  | zero =>
    intro j n hj hn ha
    obtain ⟨n, rfl⟩ : ∃ k, n = k + 1 := ⟨n - 1, by omega⟩
    show wp (f_X1_isRest_2B N _ _ M) _
    unfold f_X1_isRest_2B
    rw [hR.2.2.1.2.2.1]
    rw [show j = (V 0 5).toNat from by omega] at ha ⊢
    rw [ha, Bool.true_and]
    refine wp_gd ((i32_le (by omega) (by omega) (by omega) (by omega)).mpr (by omega)) ?_
    exact c_rest2_lp hN hV hR hO (fun k hk => ⟨hL k, (aO_iff _).mp ha k hk⟩) hW (V 0 5).toNat 0 N M (by omega) (by omega) (fun _ _ _ => rfl) hC rfl
  | succ d ih =>
    intro j n hj hn ha
    obtain ⟨n, rfl⟩ : ∃ k, n = k + 1 := ⟨n - 1, by omega⟩
    show wp (f_X1_isRest_2B N _ _ M) _
    unfold f_X1_isRest_2B
    rw [hR.2.2.1.2.2.1]
    refine wp_ng (fun q => absurd ((i32_le (by omega) (by omega) (by omega) (by omega)).mp q) (by omega)) (wp_gd (i32_in (by omega) (by omega) (by omega)) ?_)
    have hl := hL j
    rw [i32_k (by omega), hC j (by omega), c_isOpen hV hO (by omega)]
    simp only [am_bi_i]
    by_cases hjo : isO V (ch j) = true
    · refine wp_ng (by rw [if_pos hjo]; decide) ?_
      rw [i32_s]
      exact ih (j + 1) n (by omega) (by omega) (by rw [aO_nx, ha, hjo]; rfl)
    · refine wp_gd (by rw [if_neg hjo]) (wp_i ⟨?_, fun _ _ _ => rfl, hC⟩)
      have : aO V ch (V 0 5).toNat ≠ true := fun q => hjo ((aO_iff _).mp q j (by omega))
      rw [Bool.eq_false_iff.mpr this]; rfl
theorem c_rest (hN : 102 ≤ N) (hV : VX V) {M : am_M} (hR : RC V M) (hO : M 60 6 = opn V) {ch : Nat → Nat} (hL : ∀ k, ch k ≤ (V 0 6).toNat) (hC : CH V ch M) (hW : WC V M) : wp (f_X1_isRest N M) (rI fun v M'' => v = (if aO V ch (V 0 5).toNat && iR V ch (V 0 5).toNat then 1 else 0) ∧ fr62 M M'' ∧ CH V ch M'') :=
  have hns := hV.ns
  c_rest_lp hN hV hR hO hL hC hW (V 0 5).toNat 0 N (by omega) (by omega) rfl
theorem c_dig_lp (hV : VX V) {M : am_M} (hR : RC V M) {ch : Nat → Nat} (hC : CH V ch M) : ∀ (d j n : Nat), j + d = (V 0 5).toNat → d < n → f_X1_digitsOfChoices_4 N n (i32 ((dig ch j : Nat) : Int)) (i32 (j : Int)) M = some (.ok (some (.int (i32 ((dig ch (V 0 5).toNat : Nat) : Int)))), M) := by
  have hns := hV.ns
  intro d
  induction d with
  | zero =>
    intro j n hj hn
    obtain ⟨n, rfl⟩ : ∃ k, n = k + 1 := ⟨n - 1, by omega⟩
    show f_X1_digitsOfChoices_4B N _ _ _ M = _
    unfold f_X1_digitsOfChoices_4B
    rw [hR.2.2.1.2.2.1, if_pos ((i32_le (by omega) (by omega) (by omega) (by omega)).mpr (by omega)), show j = (V 0 5).toNat from by omega]
  | succ d ih =>
    intro j n hj hn
    obtain ⟨n, rfl⟩ : ∃ k, n = k + 1 := ⟨n - 1, by omega⟩
    show f_X1_digitsOfChoices_4B N _ _ _ M = _
    unfold f_X1_digitsOfChoices_4B
    have := ih (j + 1) n (by omega) (by omega)
    rw [dig_nx] at this
    rw [hR.2.2.1.2.2.1, if_neg (fun q => absurd ((i32_le (by omega) (by omega) (by omega) (by omega)).mp q) (by omega)), if_pos (i32_in (by omega) (by omega) (by omega)), i32_k (by omega), hC j (by omega), i32_10, i32_mul, i32_add, i32_s]
    exact this
/-! the next row -/
theorem nxr_p {B P r : Nat} (hB : 1 ≤ B) (hP : 1 ≤ P) (h : r % P = P - 1) : (r + 1) % P = 0 ∧ (r + 1) / P = r / P + 1 := by
  have h1 := Nat.div_add_mod r P
  have h2 : r + 1 = P * (r / P + 1) := by rw [Nat.mul_add, Nat.mul_one]; omega
  constructor
  · rw [h2]; exact Nat.mul_mod_right _ _
  · rw [h2]; exact Nat.mul_div_cancel_left _ (by omega)
theorem nxr_lo {B r : Nat} (hB : 1 ≤ B) {p q : Nat} (hq : q < p) (h : r % B ^ p = B ^ p - 1) : (r + 1) / B ^ q % B = 0 := by
  have hP : 1 ≤ B ^ p := Nat.pow_pos hB
  have h1 := (nxr_p hB hP h).1
  have hd : B ^ p = B ^ q * (B * B ^ (p - q - 1)) := by
    rw [← Nat.pow_succ', ← Nat.pow_add]; congr 1; omega
  obtain ⟨c, hc⟩ := Nat.dvd_of_mod_eq_zero h1
  rw [hc, hd, Nat.mul_assoc, Nat.mul_div_cancel_left _ (Nat.pow_pos hB), Nat.mul_assoc]
  exact Nat.mul_mod_right _ _
theorem nxr_at {B r : Nat} (hB : 1 ≤ B) {p : Nat} (h : r % B ^ p = B ^ p - 1) (hl : r / B ^ p % B < B - 1) : (r + 1) / B ^ p % B = r / B ^ p % B + 1 ∧ ∀ d, (r + 1) / B ^ (p + 1 + d) % B = r / B ^ (p + 1 + d) % B := by
  have hP : 1 ≤ B ^ p := Nat.pow_pos hB
  have h1 := (nxr_p hB hP h).2
  have h3 := Nat.div_add_mod (r / B ^ p) B
  constructor
  · rw [h1, Nat.add_mod, Nat.mod_eq_of_lt (a := 1) (by omega)]
    exact Nat.mod_eq_of_lt (by omega)
  · intro d
    have h2 : (r + 1) / B ^ p / B = r / B ^ p / B := by
      rw [h1]
      have : r / B ^ p + 1 = B * (r / B ^ p / B) + (r / B ^ p % B + 1) := by omega
      rw [this, Nat.mul_add_div (by omega), Nat.div_eq_of_lt (a := r / B ^ p % B + 1) (by omega), Nat.add_zero]
    rw [show B ^ (p + 1 + d) = B ^ p * B * B ^ d from by rw [Nat.pow_add, Nat.pow_succ], ← Nat.div_div_eq_div_mul, ← Nat.div_div_eq_div_mul, h2, Nat.div_div_eq_div_mul, Nat.div_div_eq_div_mul, Nat.mul_assoc, ← Nat.div_div_eq_div_mul, Nat.div_div_eq_div_mul]
theorem nxr_all {B r : Nat} (hB : 1 ≤ B) {p : Nat} (h : r % B ^ p = B ^ p - 1) (hl : ¬ r / B ^ p % B < B - 1) : r % B ^ (p + 1) = B ^ (p + 1) - 1 := by
  have hP : 1 ≤ B ^ p := Nat.pow_pos hB
  have h2 : r / B ^ p % B = B - 1 := by have := Nat.mod_lt (r / B ^ p) (show B > 0 by omega); omega
  rw [Nat.pow_succ, Nat.mod_mul, h, h2, Nat.mul_sub, Nat.mul_one]
  have : B ^ p * 1 ≤ B ^ p * B := Nat.mul_le_mul_left _ hB
  omega
theorem c_next_lp (hV : VX V) (hR : RC V M0) {r : Nat} (hr : r < rows V) : ∀ (i n : Nat) (M : am_M), i ≤ (V 0 5).toNat → i < n → fr62 M0 M → r % ((V 0 6).toNat + 1) ^ ((V 0 5).toNat - i) = ((V 0 6).toNat + 1) ^ ((V 0 5).toNat - i) - 1 → (∀ k, k < i → M 62 k = i32 (dg V r k : Int)) → (∀ k, i ≤ k → k < (V 0 5).toNat → M 62 k = 0) → wp (f_X1_nextRow_13 N n (i32 ((i : Int) - 1)) M) (rI fun v M' => fr62 M0 M' ∧ ((v = 0 ∧ r + 1 = rows V) ∨ (v ≠ 0 ∧ r + 1 < rows V ∧ CH V (dg V (r + 1)) M'))) := by
  have hns := hV.ns
  have hB : 1 ≤ (V 0 6).toNat + 1 := by omega
  intro i
  induction i with
  | zero =>
    intro n M hi hn hF hm h1 h2
    obtain ⟨n, rfl⟩ : ∃ k, n = k + 1 := ⟨n - 1, by omega⟩
    show wp (f_X1_nextRow_13B N _ _ M) _
    unfold f_X1_nextRow_13B
    refine wp_gd ((i32_lt0 (by omega) (by omega)).mpr (by omega)) (wp_i ⟨hF, Or.inl ⟨rfl, ?_⟩⟩)
    rw [Nat.sub_zero] at hm
    unfold rows at *
    rw [Nat.mod_eq_of_lt hr] at hm
    omega
  | succ i ih =>
    intro n M hi hn hF hm h1 h2
    obtain ⟨n, rfl⟩ : ∃ k, n = k + 1 := ⟨n - 1, by omega⟩
    show wp (f_X1_nextRow_13B N _ _ M) _
    unfold f_X1_nextRow_13B
    have hd := dg_le (V := V) (r := r) (f := i)
    rw [show ((i + 1 : Nat) : Int) - 1 = (i : Int) from by omega]
    refine wp_ng (fun q => absurd ((i32_lt0 (by omega) (by omega)).mp q) (by omega)) (wp_gd (i32_in (by omega) (by omega) (by omega)) ?_)
    rw [i32_k (by omega), h1 i (by omega), (hR.sC hF.c).2.2.2.1.2.2.1]
    have hp : (V 0 5).toNat - (i + 1) = (V 0 5).toNat - 1 - i := by omega
    rw [hp] at hm
    by_cases hl : dg V r i < (V 0 6).toNat
    · refine wp_ng (fun q => absurd ((i32_le (by omega) (by omega) (by omega) (by omega)).mp q) (by omega)) (wp_gd (i32_in (by omega) (by omega) (by omega)) ?_)
      have ha := nxr_at hB hm (show r / _ % _ < _ from hl)
      refine wp_i ⟨fun a b q => (up_ne (by omega)).trans (hF a b q), Or.inr ⟨by decide, ?_, fun k hk => ?_⟩⟩
      · rcases Nat.lt_or_ge (r + 1) (rows V) with z | z
        · exact z
        · exfalso
          have hrr : r + 1 = rows V := by omega
          have e : (r + 1) / ((V 0 6).toNat + 1) ^ ((V 0 5).toNat - 1 - i) % ((V 0 6).toNat + 1) = 0 := by
            rw [hrr]
            unfold rows
            rw [show ((V 0 6).toNat + 1) ^ (V 0 5).toNat = ((V 0 6).toNat + 1) ^ ((V 0 5).toNat - 1 - i) * (((V 0 6).toNat + 1) * ((V 0 6).toNat + 1) ^ i) from by
              rw [← Nat.pow_succ', ← Nat.pow_add]; congr 1; omega]
            rw [Nat.mul_div_cancel_left _ (Nat.pow_pos hB)]
            exact Nat.mul_mod_right _ _
          rw [ha.1] at e
          omega
      · by_cases hki : k = i
        · rw [hki, up_eq, i32_1, i32_add]
          congr 1
          have := ha.1
          show ((dg V r i : Nat) : Int) + 1 = ((r + 1) / ((V 0 6).toNat + 1) ^ ((V 0 5).toNat - 1 - i) % ((V 0 6).toNat + 1) : Nat)
          rw [this]
          rfl
        · rw [up_ne (by omega)]
          rcases Nat.lt_or_ge k i with z | z
          · rw [h1 k (by omega)]
            have := ha.2 (i - 1 - k)
            rw [show (V 0 5).toNat - 1 - i + 1 + (i - 1 - k) = (V 0 5).toNat - 1 - k from by omega] at this
            congr 2
            exact this.symm
          · rw [h2 k (by omega) hk]
            have := nxr_lo hB (q := (V 0 5).toNat - 1 - k) (by omega) hm
            show 0 = i32 (((r + 1) / ((V 0 6).toNat + 1) ^ ((V 0 5).toNat - 1 - k) % ((V 0 6).toNat + 1) : Nat) : Int)
            rw [this]
            rfl
    · refine wp_gd ((i32_le (by omega) (by omega) (by omega) (by omega)).mpr (by omega)) (wp_gd (i32_in (by omega) (by omega) (by omega)) ?_)
      rw [i32_m1, i32_add, show (i : Int) + -1 = (i : Int) - 1 from by omega]
      refine ih n _ (by omega) (by omega) (fun a b q => (up_ne (by omega)).trans (hF a b q)) ?_ ?_ ?_
      · have := nxr_all hB hm (show ¬ r / _ % _ < _ from hl)
        rw [show (V 0 5).toNat - i = (V 0 5).toNat - 1 - i + 1 from by omega]
        exact this
      · intro k hk
        rw [up_ne (by omega)]
        exact h1 k (by omega)
      · intro k hk1 hk2
        by_cases hki : k = i
        · rw [hki, up_eq]
        · rw [up_ne (by omega)]; exact h2 k (by omega) hk2
theorem c_next (hN : 102 ≤ N) (hV : VX V) (hR : RC V M0) {r : Nat} (hr : r < rows V) (hC : CH V (dg V r) M0) : wp (f_X1_nextRow N M0) (rI fun v M' => fr62 M0 M' ∧ ((v = 0 ∧ r + 1 = rows V) ∨ (v ≠ 0 ∧ r + 1 < rows V ∧ CH V (dg V (r + 1)) M'))) := by
  have hns := hV.ns
  unfold f_X1_nextRow
  rw [hR.2.2.1.2.2.1, i32_1, i32_sub]
  have := c_next_lp (N := N) hV hR hr (V 0 5).toNat N M0 (by omega) (by omega) (fun _ _ _ => rfl) (by rw [Nat.sub_self, Nat.pow_zero, Nat.mod_one]) hC (fun k h1 h2 => by omega)
  rw [show (((V 0 5).toNat : Nat) : Int) - 1 = V 0 5 - 1 from by omega] at this
  exact this
