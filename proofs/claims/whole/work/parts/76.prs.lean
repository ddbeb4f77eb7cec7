/-! the text of a valley -/
def sg (c : Int) : Int := if c < 128 then c else c - 256
theorem sg_B {c : Int} (h : 0 ≤ c ∧ c ≤ 255) : -128 ≤ sg c ∧ sg c ≤ 127 := by unfold sg; split <;> omega
theorem sg_lo {c : Int} (h : 0 ≤ c ∧ c ≤ 255) {k : Int} (hk : 0 ≤ k ∧ k ≤ 127) : sg c = k ↔ c = k := by unfold sg; split <;> omega
def PT (T : Nat → Int) (n : Nat) (M : am_M) : Prop := M 18 5 = i32 (n : Int) ∧ ∀ i, i < n → M 1 i = i32 (sg (T i))
def MT (T : Nat → Int) (n : Nat) (M : am_M) : Prop := M 0 3 = i32 (n : Int) ∧ ∀ i, i < n → M 2 i = i32 (T i)
def TB (T : Nat → Int) (n : Nat) : Prop := n ≤ 600 ∧ ∀ i, i < n → 0 ≤ T i ∧ T i ≤ 255
/-- over blanks -/
def skp (T : Nat → Int) (n : Nat) : Nat → Nat → Nat
  | 0 => fun a => a
  | d + 1 => fun a => if a < n ∧ T a = 32 then skp T n d (a + 1) else a
theorem skp_B {T : Nat → Int} {n : Nat} : ∀ d a, a ≤ n → a ≤ skp T n d a ∧ skp T n d a ≤ n := by
  intro d
  induction d with
  | zero => intro a h; exact ⟨Nat.le_refl a, h⟩
  | succ d ih =>
    intro a h
    show a ≤ (if a < n ∧ T a = 32 then skp T n d (a + 1) else a) ∧ (if a < n ∧ T a = 32 then skp T n d (a + 1) else a) ≤ n
    split
    · have := ih (a + 1) (by omega); omega
    · omega
/-- over letters -/
def ltr (T : Nat → Int) (n : Nat) : Nat → Nat → Nat
  | 0 => fun a => a
  | d + 1 => fun a => if a < n ∧ 97 ≤ T a ∧ T a ≤ 122 then ltr T n d (a + 1) else a
theorem ltr_B {T : Nat → Int} {n : Nat} : ∀ d a, a ≤ n → a ≤ ltr T n d a ∧ ltr T n d a ≤ n := by
  intro d
  induction d with
  | zero => intro a h; exact ⟨Nat.le_refl a, h⟩
  | succ d ih =>
    intro a h
    show a ≤ (if a < n ∧ 97 ≤ T a ∧ T a ≤ 122 then ltr T n d (a + 1) else a) ∧ (if a < n ∧ 97 ≤ T a ∧ T a ≤ 122 then ltr T n d (a + 1) else a) ≤ n
    split
    · have := ih (a + 1) (by omega); omega
    · omega
theorem ltr_L {T : Nat → Int} {n : Nat} : ∀ d a, ∀ i, a ≤ i → i < ltr T n d a → 97 ≤ T i ∧ T i ≤ 122 := by
  intro d
  induction d with
  | zero => intro a i h1 h2; exact absurd h2 (Nat.not_lt.mpr h1)
  | succ d ih =>
    intro a i h1 h2
    have e : ltr T n (d + 1) a = if a < n ∧ 97 ≤ T a ∧ T a ≤ 122 then ltr T n d (a + 1) else a := rfl
    rw [e] at h2
    split at h2
    · rename_i hc
      by_cases hia : i = a
      · rw [hia]; exact hc.2
      · exact ih (a + 1) i (by omega) h2
    · omega
/-- over digits -/
def dgs (T : Nat → Int) (n : Nat) : Nat → Nat → Int → Nat × Int
  | 0 => fun a v => (a, v)
  | d + 1 => fun a v => if a < n ∧ 48 ≤ T a ∧ T a ≤ 57 then dgs T n d (a + 1) (if v * 10 + T a - 48 < 1000 then v * 10 + T a - 48 else 1000) else (a, v)
theorem dgs_B {T : Nat → Int} {n : Nat} : ∀ d a v, a ≤ n → 0 ≤ v → v ≤ 1000 → (a ≤ (dgs T n d a v).1 ∧ (dgs T n d a v).1 ≤ n) ∧ 0 ≤ (dgs T n d a v).2 ∧ (dgs T n d a v).2 ≤ 1000 := by
  intro d
  induction d with
  | zero => intro a v h h1 h2; exact ⟨⟨Nat.le_refl a, h⟩, h1, h2⟩
  | succ d ih =>
    intro a v h h1 h2
    have e : dgs T n (d + 1) a v = if a < n ∧ 48 ≤ T a ∧ T a ≤ 57 then dgs T n d (a + 1) (if v * 10 + T a - 48 < 1000 then v * 10 + T a - 48 else 1000) else (a, v) := rfl
    rw [e]
    by_cases hc : a < n ∧ 48 ≤ T a ∧ T a ≤ 57
    · rw [if_pos hc]
      have := ih (a + 1) (if v * 10 + T a - 48 < 1000 then v * 10 + T a - 48 else 1000) (by omega) (by split <;> omega) (by split <;> omega)
      omega
    · rw [if_neg hc]
      exact ⟨⟨Nat.le_refl a, h⟩, h1, h2⟩
/-- where the reader stands, or the first fault's kind and place -/
abbrev ST : Type := Except (Nat × Nat) Nat
def rn (T : Nat → Int) (n : Nat) (st : ST) (lo hi : Int) : Int × ST :=
  match st with
  | .error e => (0, .error e)
  | .ok a => if (dgs T n (n - skp T n (n - a) a) (skp T n (n - a) a) 0).1 = skp T n (n - a) a then (0, .error (1, skp T n (n - a) a)) else if (dgs T n (n - skp T n (n - a) a) (skp T n (n - a) a) 0).2 < lo ∨ hi < (dgs T n (n - skp T n (n - a) a) (skp T n (n - a) a) 0).2 then (0, .error (2, skp T n (n - a) a)) else ((dgs T n (n - skp T n (n - a) a) (skp T n (n - a) a) 0).2, .ok (dgs T n (n - skp T n (n - a) a) (skp T n (n - a) a) 0).1)
def StC (n : Nat) (st : ST) (M : am_M) : Prop :=
  match st with
  | .error e => (1 ≤ e.1 ∧ e.1 ≤ 3) ∧ e.2 ≤ 600 ∧ M 18 2 = i32 (e.1 : Int) ∧ M 18 3 = i32 (e.2 : Int) ∧ ∃ a, a ≤ n ∧ M 18 6 = i32 (a : Int)
  | .ok a => a ≤ n ∧ M 18 2 = 0 ∧ M 18 3 = -1 ∧ M 18 6 = i32 (a : Int)
def StM (n : Nat) (st : ST) (M : am_M) : Prop :=
  match st with
  | .error e => (1 ≤ e.1 ∧ e.1 ≤ 3) ∧ e.2 ≤ 600 ∧ M 0 6 = i32 (e.1 : Int) ∧ M 0 5 = i32 (e.2 : Int) ∧ ∃ a, a ≤ n ∧ M 0 4 = i32 (a : Int)
  | .ok a => a ≤ n ∧ M 0 5 = -1 ∧ M 0 4 = i32 (a : Int)
def f18 (M M' : am_M) : Prop := ∀ a b, a ≠ 18 ∨ (b ≠ 2 ∧ b ≠ 3 ∧ b ≠ 6) → M' a b = M a b
def f04 (M M' : am_M) : Prop := ∀ a b, a ≠ 0 ∨ (b ≠ 4 ∧ b ≠ 5 ∧ b ≠ 6) → M' a b = M a b
theorem f18.trans {M M' M'' : am_M} (h1 : f18 M M') (h2 : f18 M' M'') : f18 M M'' := fun a b h => (h2 a b h).trans (h1 a b h)
theorem f04.trans {M M' M'' : am_M} (h1 : f04 M M') (h2 : f04 M' M'') : f04 M M'' := fun a b h => (h2 a b h).trans (h1 a b h)
theorem PT.fr {T : Nat → Int} {n : Nat} {M M' : am_M} (h : PT T n M) (q : f18 M M') : PT T n M' := ⟨(q 18 5 (by omega)).trans h.1, fun i hi => (q 1 i (by omega)).trans (h.2 i hi)⟩
theorem MT.fr {T : Nat → Int} {n : Nat} {M M' : am_M} (h : MT T n M) (q : f04 M M') : MT T n M' := ⟨(q 0 3 (by omega)).trans h.1, fun i hi => (q 2 i (by omega)).trans (h.2 i hi)⟩
theorem f18.at {M : am_M} {v : Int32} : f18 M (am_up M 18 6 v) := fun a b q => up_ne (by omega)
theorem f04.at {M : am_M} {v : Int32} : f04 M (am_up M 0 4 v) := fun a b q => up_ne (by omega)
section PR
variable {N : Nat} {T : Nat → Int} {n : Nat}
theorem c_skp (hT : TB T n) : ∀ (d a m : Nat) (M : am_M), a + d = n → d < m → PT T n M → M 18 6 = i32 (a : Int) → f_X5_skipBlanks_0 N m M = some (.ok none, am_up M 18 6 (i32 (skp T n d a : Nat))) := by
  have h6 := hT.1
  intro d
  induction d with
  | zero =>
    intro a m M ha hm hP h
    obtain ⟨m, rfl⟩ : ∃ k, m = k + 1 := ⟨m - 1, by omega⟩
    show f_X5_skipBlanks_0B N _ M = _
    unfold f_X5_skipBlanks_0B
    rw [hP.1, h, if_pos ((i32_le (by omega) (by omega) (by omega) (by omega)).mpr (by omega))]
    show _ = some (_, am_up M 18 6 (i32 (a : Nat)))
    rw [← h, up_self]
  | succ d ih =>
    intro a m M ha hm hP h
    obtain ⟨m, rfl⟩ : ∃ k, m = k + 1 := ⟨m - 1, by omega⟩
    show f_X5_skipBlanks_0B N _ M = _
    unfold f_X5_skipBlanks_0B
    have hc := hT.2 a (by omega)
    have hs := sg_B hc
    rw [hP.1, h, if_neg (fun q => absurd ((i32_le (by omega) (by omega) (by omega) (by omega)).mp q) (by omega)), if_pos (i32_in (by omega) (by omega) (by omega)), i32_k (by omega), hP.2 a (by omega), i32_s, show (32 : Int32) = i32 32 from rfl]
    have e : skp T n (d + 1) a = if a < n ∧ T a = 32 then skp T n d (a + 1) else a := rfl
    rw [e]
    by_cases hb : T a = 32
    · rw [if_pos ((i32_eq (by omega) (by omega) (by omega) (by omega)).mpr ((sg_lo hc (by omega)).mpr hb)), if_pos ⟨by omega, hb⟩, ih (a + 1) m _ (by omega) (by omega) (hP.fr f18.at) (up_eq _ _ _ _), up_up]
    · rw [if_neg (fun q => hb ((sg_lo hc (by omega)).mp ((i32_eq (by omega) (by omega) (by omega) (by omega)).mp q))), if_neg (fun z => hb z.2), ← h, up_self]
theorem m_here (hT : TB T n) : ∀ (d a m : Nat) (M : am_M), a + d = n → d < m → MT T n M → M 0 4 = i32 (a : Int) → f_X10_here_0 N m M = some (.ok (some (.int (if skp T n d a < n then i32 (T (skp T n d a)) else 0))), am_up M 0 4 (i32 (skp T n d a : Nat))) := by
  have h6 := hT.1
  intro d
  induction d with
  | zero =>
    intro a m M ha hm hP h
    obtain ⟨m, rfl⟩ : ∃ k, m = k + 1 := ⟨m - 1, by omega⟩
    show f_X10_here_0B N _ M = _
    unfold f_X10_here_0B f_X10_here_38
    rw [hP.1, h, if_pos ((i32_le (by omega) (by omega) (by omega) (by omega)).mpr (by omega)), if_pos ((i32_le (by omega) (by omega) (by omega) (by omega)).mpr (by omega))]
    show _ = some (Except.ok (some (Value.int (if a < n then i32 (T a) else 0))), am_up M 0 4 (i32 (a : Nat)))
    rw [if_neg (by omega), ← h, up_self]
  | succ d ih =>
    intro a m M ha hm hP h
    obtain ⟨m, rfl⟩ : ∃ k, m = k + 1 := ⟨m - 1, by omega⟩
    show f_X10_here_0B N _ M = _
    unfold f_X10_here_0B f_X10_here_38
    have hc := hT.2 a (by omega)
    rw [hP.1, h, if_neg (fun q => absurd ((i32_le (by omega) (by omega) (by omega) (by omega)).mp q) (by omega)), if_pos (i32_in (by omega) (by omega) (by omega)), i32_k (by omega), hP.2 a (by omega), i32_s, show (32 : Int32) = i32 32 from rfl]
    have e : skp T n (d + 1) a = if a < n ∧ T a = 32 then skp T n d (a + 1) else a := rfl
    by_cases hb : T a = 32
    · rw [show skp T n (d + 1) a = skp T n d (a + 1) from by rw [e, if_pos ⟨by omega, hb⟩], if_pos ((i32_eq (by omega) (by omega) (by omega) (by omega)).mpr hb), ih (a + 1) m _ (by omega) (by omega) (hP.fr f04.at) (up_eq _ _ _ _), up_up]
    · rw [show skp T n (d + 1) a = a from by rw [e, if_neg (fun z => hb z.2)], if_neg (fun q => hb ((i32_eq (by omega) (by omega) (by omega) (by omega)).mp q)), if_neg (fun q => absurd ((i32_le (by omega) (by omega) (by omega) (by omega)).mp q) (by omega)), if_pos (i32_in (by omega) (by omega) (by omega)), if_pos (show a < n by omega), ← h, up_self]
/-- blanks, whatever has gone before -/
theorem c_skip (hN : 602 ≤ N) (hT : TB T n) {M : am_M} (hP : PT T n M) {a : Nat} (ha : a ≤ n) (h : M 18 6 = i32 (a : Int)) : f_X5_skipBlanks N M = some (.ok none, am_up M 18 6 (i32 (skp T n (n - a) a : Nat))) := by
  have := hT.1
  exact c_skp hT (n - a) a N M (by omega) (by omega) hP h
theorem c_ref0 {M : am_M} {k p : Nat} (h : M 18 2 = 0) : f_X5_refuse N (i32 (k : Int)) (i32 (p : Int)) M = some (.ok none, am_up (am_up M 18 2 (i32 (k : Int))) 18 3 (i32 (p : Int))) := by
  unfold f_X5_refuse
  rw [if_pos h]
theorem c_ref1 {M : am_M} {k p : Int32} (h : M 18 2 ≠ 0) : f_X5_refuse N k p M = some (.ok none, M) := by
  unfold f_X5_refuse
  rw [if_neg h]
theorem StC.er {k p a : Nat} {M : am_M} (hk : 1 ≤ k ∧ k ≤ 3) (hp : p ≤ 600) (ha : a ≤ n) (h : M 18 6 = i32 (a : Int)) : StC n (.error (k, p)) (am_up (am_up M 18 2 (i32 (k : Int))) 18 3 (i32 (p : Int))) :=
  ⟨hk, hp, by rw [up_ne (by omega), up_eq], by rw [up_eq], a, ha, by rw [up_ne (by omega), up_ne (by omega)]; exact h⟩
theorem c_rn_end {M : am_M} {lo hi v : Int} (hlo : -10 ≤ lo ∧ lo ≤ 1000) (hhi : -10 ≤ hi ∧ hi ≤ 1000) (hv : 0 ≤ v ∧ v ≤ 1000) {s b : Nat} (hs : s ≤ b) (hb : b ≤ n) (hn : n ≤ 600) (h6 : M 18 6 = i32 (b : Int)) {st0 : ST} (h0 : (∃ e, st0 = .error e ∧ StC n st0 M) ∨ (M 18 2 = 0 ∧ M 18 3 = -1 ∧ ∃ a, st0 = .ok a ∧ rn T n st0 lo hi = if b = s then (0, .error (1, s)) else if v < lo ∨ hi < v then (0, .error (2, s)) else (v, .ok b))) : wp (f_X5_readNumber_90 N (i32 lo) (i32 hi) (i32 (s : Int)) (i32 v) M) (rI fun r M' => r = i32 (rn T n st0 lo hi).1 ∧ StC n (rn T n st0 lo hi).2 M' ∧ f18 M M') := by
  have frF : ∀ k p : Int32, f18 M (am_up (am_up M 18 2 k) 18 3 p) := fun k p a b q => by rw [up_ne (by omega), up_ne (by omega)]
  unfold f_X5_readNumber_90
  rcases h0 with ⟨e, he, hst⟩ | ⟨h2, h3, a, ha, hr⟩
  · have hst' := hst
    rw [he] at hst'
    obtain ⟨q1, q2, q3, q4, q5⟩ := hst'
    have hne : M 18 2 ≠ 0 := by rw [q3]; exact fun z => by have := (i32_eq0 (by omega) (by omega)).mp z; omega
    have hrn : rn T n st0 lo hi = (0, st0) := by rw [he]; rfl
    have fin : wp (f_X5_readNumber_125 N (i32 v) M) (rI fun r M' => r = i32 (rn T n st0 lo hi).1 ∧ StC n (rn T n st0 lo hi).2 M' ∧ f18 M M') := by
      unfold f_X5_readNumber_125
      rw [hrn]
      exact wp_ng hne (wp_i ⟨rfl, hst, fun _ _ _ => rfl⟩)
    refine wp_if (fun _ => ?_) (fun _ => wp_if (fun _ => ?_) (fun _ => wp_if (fun _ => fin) (fun _ => ?_)))
    · rw [c_ref1 hne]; exact fin
    · unfold f_X5_readNumber_119; rw [c_ref1 hne]; exact fin
    · unfold f_X5_readNumber_119; rw [c_ref1 hne]; exact fin
  · have bad : ∀ k : Nat, 1 ≤ k → k ≤ 2 → (rn T n st0 lo hi = (0, .error (k, s))) → wp (f_X5_readNumber_125 N (i32 v) (am_up (am_up M 18 2 (i32 (k : Int))) 18 3 (i32 (s : Int)))) (rI fun r M' => r = i32 (rn T n st0 lo hi).1 ∧ StC n (rn T n st0 lo hi).2 M' ∧ f18 M M') := by
      intro k hk1 hk2 hk3
      unfold f_X5_readNumber_125
      rw [hk3, up_ne (by omega), up_eq]
      refine wp_ng (fun z => by have := (i32_eq0 (by omega) (by omega)).mp z; omega) (wp_i ⟨rfl, StC.er (by omega) (by omega) hb h6, frF _ _⟩)
    rw [h6]
    by_cases hbs : b = s
    · refine wp_gd (by rw [hbs]) ?_
      rw [if_pos hbs] at hr
      rw [show (1 : Int32) = i32 ((1 : Nat) : Int) from rfl, c_ref0 h2]
      exact bad 1 (by omega) (by omega) hr
    · refine wp_ng (fun z => hbs (by have := (i32_eq (by omega) (by omega) (by omega) (by omega)).mp z; omega)) ?_
      rw [if_neg hbs] at hr
      have bad2 : (v < lo ∨ hi < v) → wp (f_X5_readNumber_119 N (i32 (s : Int)) (i32 v) M) (rI fun r M' => r = i32 (rn T n st0 lo hi).1 ∧ StC n (rn T n st0 lo hi).2 M' ∧ f18 M M') := by
        intro hh
        rw [if_pos hh] at hr
        unfold f_X5_readNumber_119
        rw [show (2 : Int32) = i32 ((2 : Nat) : Int) from rfl, c_ref0 h2]
        exact bad 2 (by omega) (by omega) hr
      by_cases hl : v < lo
      · exact wp_gd ((i32_lt (by omega) (by omega) (by omega) (by omega)).mpr hl) (bad2 (Or.inl hl))
      · refine wp_ng (fun z => hl ((i32_lt (by omega) (by omega) (by omega) (by omega)).mp z)) ?_
        by_cases hh : hi < v
        · exact wp_ng (fun z => by have := (i32_le (by omega) (by omega) (by omega) (by omega)).mp z; omega) (bad2 (Or.inr hh))
        · refine wp_gd ((i32_le (by omega) (by omega) (by omega) (by omega)).mpr (by omega)) ?_
          rw [if_neg (fun z => by rcases z with z | z; exact hl z; exact hh z)] at hr
          unfold f_X5_readNumber_125
          rw [hr]
          exact wp_gd h2 (wp_i ⟨rfl, ⟨hb, h2, h3, h6⟩, fun _ _ _ => rfl⟩)
theorem c_dgs (hT : TB T n) {lo hi : Int} {s : Nat} {Q : Except Nat (Option Value) → am_M → Prop} : ∀ (d a m : Nat) (v : Int) (M : am_M), a + d = n → d < m → 0 ≤ v → v ≤ 1000 → PT T n M → M 18 6 = i32 (a : Int) → wp (f_X5_readNumber_90 N (i32 lo) (i32 hi) (i32 (s : Int)) (i32 (dgs T n d a v).2) (am_up M 18 6 (i32 ((dgs T n d a v).1 : Nat)))) Q → wp (f_X5_readNumber_12 N (i32 lo) (i32 hi) (i32 (s : Int)) m (i32 v) M) Q := by
  have h6 := hT.1
  intro d
  induction d with
  | zero =>
    intro a m v M ha hm hv1 hv2 hP h hk
    obtain ⟨m, rfl⟩ : ∃ k, m = k + 1 := ⟨m - 1, by omega⟩
    show wp (f_X5_readNumber_12B N _ _ _ _ _ M) _
    unfold f_X5_readNumber_12B
    rw [hP.1, h]
    refine wp_gd ((i32_le (by omega) (by omega) (by omega) (by omega)).mpr (by omega)) ?_
    have e : dgs T n 0 a v = (a, v) := rfl
    rw [e] at hk
    simp only at hk
    rw [← h, up_self] at hk
    exact hk
  | succ d ih =>
    intro a m v M ha hm hv1 hv2 hP h hk
    obtain ⟨m, rfl⟩ : ∃ k, m = k + 1 := ⟨m - 1, by omega⟩
    show wp (f_X5_readNumber_12B N _ _ _ _ _ M) _
    unfold f_X5_readNumber_12B
    have hc := hT.2 a (by omega)
    have hs := sg_B hc
    rw [hP.1, h, i32_k (by omega), hP.2 a (by omega)]
    refine wp_ng (fun q => absurd ((i32_le (by omega) (by omega) (by omega) (by omega)).mp q) (by omega)) (wp_gd (i32_in (by omega) (by omega) (by omega)) ?_)
    have e : dgs T n (d + 1) a v = if a < n ∧ 48 ≤ T a ∧ T a ≤ 57 then dgs T n d (a + 1) (if v * 10 + T a - 48 < 1000 then v * 10 + T a - 48 else 1000) else (a, v) := rfl
    have hno : ¬ (48 ≤ T a ∧ T a ≤ 57) → wp (f_X5_readNumber_90 N (i32 lo) (i32 hi) (i32 (s : Int)) (i32 v) M) Q := by
      intro hh
      rw [e, if_neg (fun z => hh z.2)] at hk
      simp only at hk
      rw [← h, up_self] at hk
      exact hk
    rw [show (48 : Int32) = i32 48 from rfl, show (57 : Int32) = i32 57 from rfl]
    by_cases h1 : sg (T a) < 48
    · refine wp_gd ((i32_lt (by omega) (by omega) (by omega) (by omega)).mpr h1) (hno ?_)
      unfold sg at h1
      split at h1 <;> omega
    · refine wp_ng (fun q => h1 ((i32_lt (by omega) (by omega) (by omega) (by omega)).mp q)) (wp_gd (i32_in (by omega) (by omega) (by omega)) ?_)
      by_cases h2 : 57 < sg (T a)
      · refine wp_gd ((i32_lt (by omega) (by omega) (by omega) (by omega)).mpr h2) (hno ?_)
        unfold sg at h2
        split at h2 <;> omega
      · have hd : 48 ≤ T a ∧ T a ≤ 57 := by
          unfold sg at h1 h2
          split at h1 <;> omega
        have hsg : sg (T a) = T a := by unfold sg; rw [if_pos (by omega)]
        refine wp_ng (fun q => h2 ((i32_lt (by omega) (by omega) (by omega) (by omega)).mp q)) (wp_gd (i32_in (by omega) (by omega) (by omega)) ?_)
        rw [e, if_pos ⟨by omega, hd⟩] at hk
        rw [hsg, i32_10, i32_mul, i32_add, i32_sub, i32_s, show (1000 : Int32) = i32 1000 from rfl]
        have ev : (if i32 (v * 10 + T a - 48) < i32 1000 then i32 (v * 10 + T a - 48) else i32 1000) = i32 (if v * 10 + T a - 48 < 1000 then v * 10 + T a - 48 else 1000) := by
          by_cases hl : v * 10 + T a - 48 < 1000
          · rw [if_pos hl, if_pos ((i32_lt (by omega) (by omega) (by omega) (by omega)).mpr hl)]
          · rw [if_neg hl, if_neg (fun q => hl ((i32_lt (by omega) (by omega) (by omega) (by omega)).mp q))]
        rw [ev]
        refine ih (a + 1) m _ _ (by omega) (by omega) (by split <;> omega) (by split <;> omega) (hP.fr f18.at) (up_eq _ _ _ _) ?_
        rw [up_up]
        exact hk
theorem c_rn (hN : 602 ≤ N) (hT : TB T n) {M : am_M} (hP : PT T n M) {st : ST} (hS : StC n st M) {lo hi : Int} (hlo : -10 ≤ lo ∧ lo ≤ 1000) (hhi : -10 ≤ hi ∧ hi ≤ 1000) : wp (f_X5_readNumber N (i32 lo) (i32 hi) M) (rI fun r M' => r = i32 (rn T n st lo hi).1 ∧ StC n (rn T n st lo hi).2 M' ∧ f18 M M') := by
  have h6 := hT.1
  obtain ⟨a, ha, hat⟩ : ∃ a, a ≤ n ∧ M 18 6 = i32 (a : Int) := by
    cases st with
    | error e => exact hS.2.2.2.2
    | ok a => exact ⟨a, hS.1, hS.2.2.2⟩
  have hsB := skp_B (T := T) (n - a) a ha
  have hdB := dgs_B (T := T) (n := n) (n - skp T n (n - a) a) (skp T n (n - a) a) 0 hsB.2 (by omega) (by omega)
  unfold f_X5_readNumber
  rw [c_skip hN hT hP ha hat]
  simp only [am_bv_v]
  rw [up_eq]
  have hP1 : PT T n (am_up M 18 6 (i32 (skp T n (n - a) a : Nat))) := hP.fr f18.at
  refine c_dgs hT (n - skp T n (n - a) a) (skp T n (n - a) a) N 0 _ (by omega) (by omega) (by omega) (by omega) hP1 (up_eq _ _ _ _) ?_
  rw [up_up]
  refine wp_mi (c_rn_end (T := T) (st0 := st) hlo hhi hdB.2 hdB.1.1 hdB.1.2 h6 (up_eq _ _ _ _) ?_) (fun v M' q => ⟨q.1, q.2.1, f18.at.trans q.2.2⟩)
  cases st with
  | error e =>
    refine Or.inl ⟨e, rfl, hS.1, hS.2.1, ?_, ?_, _, hdB.1.2, up_eq _ _ _ _⟩
    · rw [up_ne (by omega)]; exact hS.2.2.1
    · rw [up_ne (by omega)]; exact hS.2.2.2.1
  | ok a' =>
    have haa : a' = a := by
      have := hS.2.2.2
      rw [hat] at this
      have q := (i32_eq (by omega) (by omega) (by have := hS.1; omega) (by have := hS.1; omega)).mp this
      omega
    subst haa
    refine Or.inr ⟨?_, ?_, a', rfl, rfl⟩
    · rw [up_ne (by omega)]; exact hS.2.1
    · rw [up_ne (by omega)]; exact hS.2.2.1
/-! the reference -/
def stI (st : ST) : Int32 := match st with | .error _ => 0 | .ok _ => 1
theorem m_fine {M : am_M} {st : ST} (hS : StM n st M) (hn : n ≤ 600) : f_X10_fine N M = some (.ok (some (.int (stI st))), M) := by
  unfold f_X10_fine stI
  cases st with
  | error e =>
    have := hS.2.1
    rw [hS.2.2.2.1, if_neg (fun z => by have := (i32_eq (b := -1) (by omega) (by omega) (by omega) (by omega)).mp z; omega)]
  | ok a => rw [hS.2.1, if_pos rfl]
theorem m_dig {c : Int} (hc : 0 ≤ c ∧ c ≤ 255) {M : am_M} : f_X10_isDigit N (i32 c) M = some (.ok (some (.int (if 48 ≤ c ∧ c ≤ 57 then 1 else 0))), M) := by
  unfold f_X10_isDigit
  rw [show (48 : Int32) = i32 48 from rfl, show (57 : Int32) = i32 57 from rfl]
  by_cases h1 : c < 48
  · rw [if_pos ((i32_lt (by omega) (by omega) (by omega) (by omega)).mpr h1), if_neg (by omega)]
  · rw [if_neg (fun q => h1 ((i32_lt (by omega) (by omega) (by omega) (by omega)).mp q))]
    by_cases h2 : 57 < c
    · rw [if_pos ((i32_lt (by omega) (by omega) (by omega) (by omega)).mpr h2), if_neg (by omega)]
    · rw [if_neg (fun q => h2 ((i32_lt (by omega) (by omega) (by omega) (by omega)).mp q)), if_pos (by omega)]
theorem m_sml {c : Int} (hc : 0 ≤ c ∧ c ≤ 255) {M : am_M} : f_X10_isSmall N (i32 c) M = some (.ok (some (.int (if 97 ≤ c ∧ c ≤ 122 then 1 else 0))), M) := by
  unfold f_X10_isSmall
  rw [show (97 : Int32) = i32 97 from rfl, show (122 : Int32) = i32 122 from rfl]
  by_cases h1 : c < 97
  · rw [if_pos ((i32_lt (by omega) (by omega) (by omega) (by omega)).mpr h1), if_neg (by omega)]
  · rw [if_neg (fun q => h1 ((i32_lt (by omega) (by omega) (by omega) (by omega)).mp q))]
    by_cases h2 : 122 < c
    · rw [if_pos ((i32_lt (by omega) (by omega) (by omega) (by omega)).mpr h2), if_neg (by omega)]
    · rw [if_neg (fun q => h2 ((i32_lt (by omega) (by omega) (by omega) (by omega)).mp q)), if_pos (by omega)]
theorem m_wr0 {M : am_M} {k p : Int32} (h : M 0 5 = -1) : f_X10_wrong N k p M = some (.ok none, am_up (am_up M 0 5 p) 0 6 k) := by
  unfold f_X10_wrong
  rw [if_pos h]
theorem StM.er {k p a : Nat} {M : am_M} (hk : 1 ≤ k ∧ k ≤ 3) (hp : p ≤ 600) (ha : a ≤ n) (h : M 0 4 = i32 (a : Int)) : StM n (.error (k, p)) (am_up (am_up M 0 5 (i32 (p : Int))) 0 6 (i32 (k : Int))) :=
  ⟨hk, hp, by rw [up_eq], by rw [up_ne (by omega), up_eq], a, ha, by rw [up_ne (by omega), up_ne (by omega)]; exact h⟩
theorem m_rn_end {M : am_M} {lo hi v w : Int} (hlo : -10 ≤ lo ∧ lo ≤ 999) (hhi : -10 ≤ hi ∧ hi ≤ 999) (hv : 0 ≤ v ∧ v ≤ 1000) (hw : (v = w ∧ v < 1000) ∨ (v = 1000 ∧ 1000 ≤ w ∧ w ≤ 200000)) {s b : Nat} (hs : s ≤ b) (hb : b ≤ n) (hn : n ≤ 600) (h4 : M 0 4 = i32 (b : Int)) (h5 : M 0 5 = -1) {a : Nat} (hr : rn T n (.ok a) lo hi = if v < lo ∨ hi < v then (0, .error (2, s)) else (v, .ok b)) : wp (f_X10_readNumber_114 N (i32 lo) (i32 hi) (i32 (s : Int)) (i32 w) M) (rI fun r M' => r = i32 (rn T n (.ok a) lo hi).1 ∧ StM n (rn T n (.ok a) lo hi).2 M' ∧ f04 M M') := by
  have bad : (v < lo ∨ hi < v) → wp (f_X10_readNumber_126 N (i32 (s : Int)) M) (rI fun r M' => r = i32 (rn T n (.ok a) lo hi).1 ∧ StM n (rn T n (.ok a) lo hi).2 M' ∧ f04 M M') := by
    intro hh
    rw [if_pos hh] at hr
    unfold f_X10_readNumber_126
    rw [show (2 : Int32) = i32 ((2 : Nat) : Int) from rfl, m_wr0 h5]
    simp only [am_bv_v]
    rw [hr]
    exact wp_i ⟨rfl, StM.er (by omega) (by omega) hb h4, fun a b q => by rw [up_ne (by omega), up_ne (by omega)]⟩
  unfold f_X10_readNumber_114
  by_cases hl : v < lo
  · exact wp_gd ((i32_lt (by omega) (by omega) (by omega) (by omega)).mpr (by omega)) (bad (Or.inl hl))
  · refine wp_ng (fun z => by have := (i32_lt (by omega) (by omega) (by omega) (by omega)).mp z; omega) ?_
    by_cases hh : hi < v
    · exact wp_ng (fun z => by have := (i32_le (by omega) (by omega) (by omega) (by omega)).mp z; omega) (bad (Or.inr hh))
    · refine wp_gd ((i32_le (by omega) (by omega) (by omega) (by omega)).mpr (by omega)) ?_
      rw [if_neg (fun z => by rcases z with z | z; exact hl z; exact hh z)] at hr
      rw [hr]
      refine wp_i ⟨?_, ⟨hb, h5, h4⟩, fun _ _ _ => rfl⟩
      show i32 w = i32 v
      congr 1
      omega
theorem m_dgs (hT : TB T n) {lo hi : Int} {s : Nat} {Q : Except Nat (Option Value) → am_M → Prop} : ∀ (d a m : Nat) (v w : Int) (M : am_M), a + d = n → d < m → 0 ≤ v → v ≤ 1000 → ((v = w ∧ v < 1000) ∨ (v = 1000 ∧ 1000 ≤ w ∧ w ≤ 200000)) → MT T n M → M 0 4 = i32 (a : Int) → (∀ w', (((dgs T n d a v).2 = w' ∧ (dgs T n d a v).2 < 1000) ∨ ((dgs T n d a v).2 = 1000 ∧ 1000 ≤ w' ∧ w' ≤ 200000)) → wp (f_X10_readNumber_114 N (i32 lo) (i32 hi) (i32 (s : Int)) (i32 w') (am_up M 0 4 (i32 ((dgs T n d a v).1 : Nat)))) Q) → wp (f_X10_readNumber_41 N (i32 lo) (i32 hi) (i32 (s : Int)) m (i32 w) M) Q := by
  have h6 := hT.1
  intro d
  induction d with
  | zero =>
    intro a m v w M ha hm hv1 hv2 hvw hP h hk
    obtain ⟨m, rfl⟩ : ∃ k, m = k + 1 := ⟨m - 1, by omega⟩
    show wp (f_X10_readNumber_41B N _ _ _ _ _ M) _
    unfold f_X10_readNumber_41B
    rw [hP.1, h]
    refine wp_gd ((i32_le (by omega) (by omega) (by omega) (by omega)).mpr (by omega)) ?_
    have := hk w hvw
    have e : dgs T n 0 a v = (a, v) := rfl
    rw [e] at this
    simp only at this
    rw [← h, up_self] at this
    exact this
  | succ d ih =>
    intro a m v w M ha hm hv1 hv2 hvw hP h hk
    obtain ⟨m, rfl⟩ : ∃ k, m = k + 1 := ⟨m - 1, by omega⟩
    show wp (f_X10_readNumber_41B N _ _ _ _ _ M) _
    unfold f_X10_readNumber_41B
    have hc := hT.2 a (by omega)
    rw [hP.1, h, i32_k (by omega), hP.2 a (by omega), m_dig hc]
    simp only [am_bi_i]
    refine wp_ng (fun q => absurd ((i32_le (by omega) (by omega) (by omega) (by omega)).mp q) (by omega)) (wp_gd (i32_in (by omega) (by omega) (by omega)) ?_)
    have e : dgs T n (d + 1) a v = if a < n ∧ 48 ≤ T a ∧ T a ≤ 57 then dgs T n d (a + 1) (if v * 10 + T a - 48 < 1000 then v * 10 + T a - 48 else 1000) else (a, v) := rfl
    by_cases hd : 48 ≤ T a ∧ T a ≤ 57
    · rw [e, if_pos ⟨by omega, hd⟩] at hk
      refine wp_ng (by rw [if_pos hd]; decide) ?_
      rw [h, i32_k (by omega), hP.2 a (by omega)]
      have go : ∀ w', (((if v * 10 + T a - 48 < 1000 then v * 10 + T a - 48 else 1000) = w' ∧ (if v * 10 + T a - 48 < 1000 then v * 10 + T a - 48 else 1000) < 1000) ∨ ((if v * 10 + T a - 48 < 1000 then v * 10 + T a - 48 else 1000) = 1000 ∧ 1000 ≤ w' ∧ w' ≤ 200000)) → wp (f_X10_readNumber_99 N (f_X10_readNumber_41 N (i32 lo) (i32 hi) (i32 (s : Int)) m) (i32 lo) (i32 hi) (i32 (s : Int)) (i32 w') M) Q := by
        intro w' hw'
        unfold f_X10_readNumber_99
        rw [h, i32_s]
        refine ih (a + 1) m _ w' _ (by omega) (by omega) (by split <;> omega) (by split <;> omega) hw' (hP.fr f04.at) (up_eq _ _ _ _) ?_
        intro w2 hw2
        rw [up_up]
        exact hk w2 hw2
      rw [show (9999 : Int32) = i32 9999 from rfl]
      by_cases h9 : w ≤ 9999
      · refine wp_gd ((i32_le (by omega) (by omega) (by omega) (by omega)).mpr h9) (wp_gd (i32_in (by omega) (by omega) (by omega)) ?_)
        rw [i32_10, i32_mul, i32_add, show (48 : Int32) = i32 48 from rfl, i32_sub]
        refine go _ ?_
        split <;> omega
      · refine wp_ng (fun q => h9 ((i32_le (by omega) (by omega) (by omega) (by omega)).mp q)) (go 10000 ?_)
        split <;> omega
    · rw [e, if_neg (fun z => hd z.2)] at hk
      have := hk w hvw
      simp only at this
      rw [← h, up_self] at this
      exact wp_gd (by rw [if_neg hd]) this
theorem m_rn (hN : 602 ≤ N) (hT : TB T n) {M : am_M} (hP : MT T n M) {st : ST} (hS : StM n st M) {lo hi : Int} (hlo : -10 ≤ lo ∧ lo ≤ 999) (hhi : -10 ≤ hi ∧ hi ≤ 999) : wp (f_X10_readNumber N (i32 lo) (i32 hi) M) (rI fun r M' => r = i32 (rn T n st lo hi).1 ∧ StM n (rn T n st lo hi).2 M' ∧ f04 M M') := by
  have h6 := hT.1
  unfold f_X10_readNumber
  rw [m_fine hS h6]
  simp only [am_bi_i]
  cases st with
  | error e => exact wp_gd rfl (wp_i ⟨rfl, hS, fun _ _ _ => rfl⟩)
  | ok a =>
    refine wp_ng (show ¬ ((1 : Int32) = 0) by decide) ?_
    have ha := hS.1
    have hsB := skp_B (T := T) (n - a) a ha
    have hdB := dgs_B (T := T) (n := n) (n - skp T n (n - a) a) (skp T n (n - a) a) 0 hsB.2 (by omega) (by omega)
    rw [show f_X10_here N M = _ from m_here hT (n - a) a N M (by omega) (by omega) hP hS.2.2]
    simp only [am_bi_i]
    have hcB : 0 ≤ (if skp T n (n - a) a < n then T (skp T n (n - a) a) else 0) ∧ (if skp T n (n - a) a < n then T (skp T n (n - a) a) else 0) ≤ 255 := by
      split
      · rename_i hl; exact hT.2 _ hl
      · omega
    rw [show (if skp T n (n - a) a < n then i32 (T (skp T n (n - a) a)) else 0) = i32 (if skp T n (n - a) a < n then T (skp T n (n - a) a) else 0) from by split <;> rfl, m_dig hcB]
    simp only [am_bi_i]
    rw [up_eq]
    have h5 : am_up M 0 4 (i32 (skp T n (n - a) a : Nat)) 0 5 = -1 := by rw [up_ne (by omega)]; exact hS.2.1
    by_cases hd : skp T n (n - a) a < n ∧ 48 ≤ T (skp T n (n - a) a) ∧ T (skp T n (n - a) a) ≤ 57
    · refine wp_ng (by rw [if_pos (by rw [if_pos hd.1]; exact hd.2)]; decide) ?_
      refine m_dgs hT (n - skp T n (n - a) a) (skp T n (n - a) a) N 0 0 _ (by omega) (by omega) (by omega) (by omega) (Or.inl ⟨rfl, by omega⟩) (hP.fr f04.at) (up_eq _ _ _ _) ?_
      intro w' hw'
      rw [up_up]
      refine wp_mi (m_rn_end (T := T) (a := a) hlo hhi hdB.2 hw' hdB.1.1 hdB.1.2 h6 (up_eq _ _ _ _) (by rw [up_ne (by omega)]; exact hS.2.1) ?_) (fun v M' q => ⟨q.1, q.2.1, f04.at.trans q.2.2⟩)
      have hne : (dgs T n (n - skp T n (n - a) a) (skp T n (n - a) a) 0).1 ≠ skp T n (n - a) a := by
        obtain ⟨d, hd2⟩ : ∃ d, n - skp T n (n - a) a = d + 1 := ⟨n - skp T n (n - a) a - 1, by omega⟩
        rw [hd2]
        have e : dgs T n (d + 1) (skp T n (n - a) a) 0 = if skp T n (n - a) a < n ∧ 48 ≤ T (skp T n (n - a) a) ∧ T (skp T n (n - a) a) ≤ 57 then dgs T n d (skp T n (n - a) a + 1) (if 0 * 10 + T (skp T n (n - a) a) - 48 < 1000 then 0 * 10 + T (skp T n (n - a) a) - 48 else 1000) else (skp T n (n - a) a, 0) := rfl
        rw [e, if_pos hd]
        have := (dgs_B (T := T) (n := n) d (skp T n (n - a) a + 1) (if 0 * 10 + T (skp T n (n - a) a) - 48 < 1000 then 0 * 10 + T (skp T n (n - a) a) - 48 else 1000) (by omega) (by split <;> omega) (by split <;> omega)).1.1
        omega
      show (if _ then _ else _) = _
      rw [if_neg hne]
    · have hz : ¬ (48 ≤ (if skp T n (n - a) a < n then T (skp T n (n - a) a) else 0) ∧ (if skp T n (n - a) a < n then T (skp T n (n - a) a) else 0) ≤ 57) := by
        intro z
        split at z
        · rename_i hl; exact hd ⟨hl, z⟩
        · omega
      refine wp_gd (by rw [if_neg hz]) ?_
      rw [show (1 : Int32) = i32 ((1 : Nat) : Int) from rfl, m_wr0 h5]
      simp only [am_bv_v]
      have heq : (dgs T n (n - skp T n (n - a) a) (skp T n (n - a) a) 0).1 = skp T n (n - a) a := by
        rcases Nat.eq_zero_or_pos (n - skp T n (n - a) a) with z | z
        · rw [z]; rfl
        · obtain ⟨d, hd2⟩ : ∃ d, n - skp T n (n - a) a = d + 1 := ⟨n - skp T n (n - a) a - 1, by omega⟩
          rw [hd2]
          have e : dgs T n (d + 1) (skp T n (n - a) a) 0 = if skp T n (n - a) a < n ∧ 48 ≤ T (skp T n (n - a) a) ∧ T (skp T n (n - a) a) ≤ 57 then dgs T n d (skp T n (n - a) a + 1) (if 0 * 10 + T (skp T n (n - a) a) - 48 < 1000 then 0 * 10 + T (skp T n (n - a) a) - 48 else 1000) else (skp T n (n - a) a, 0) := rfl
          rw [e, if_neg hd]
      have hrn : rn T n (.ok a) lo hi = (0, .error (1, skp T n (n - a) a)) := by
        show (if _ then _ else _) = _
        rw [if_pos heq]
      rw [hrn]
      exact wp_i ⟨rfl, StM.er (by omega) (by omega) hsB.2 (up_eq _ _ _ _), fun x y q => by rw [up_ne (by omega), up_ne (by omega), up_ne (by omega)]⟩
/-- what is read lies within its bounds -/
theorem rn_ok {st : ST} {lo hi : Int} {b : Nat} (h : (rn T n st lo hi).2 = .ok b) : (∃ a, st = .ok a) ∧ lo ≤ (rn T n st lo hi).1 ∧ (rn T n st lo hi).1 ≤ hi := by
  cases st with
  | error e => cases h
  | ok a =>
    refine ⟨⟨a, rfl⟩, ?_⟩
    have e : rn T n (.ok a) lo hi = if (dgs T n (n - skp T n (n - a) a) (skp T n (n - a) a) 0).1 = skp T n (n - a) a then (0, .error (1, skp T n (n - a) a)) else if (dgs T n (n - skp T n (n - a) a) (skp T n (n - a) a) 0).2 < lo ∨ hi < (dgs T n (n - skp T n (n - a) a) (skp T n (n - a) a) 0).2 then (0, .error (2, skp T n (n - a) a)) else ((dgs T n (n - skp T n (n - a) a) (skp T n (n - a) a) 0).2, .ok (dgs T n (n - skp T n (n - a) a) (skp T n (n - a) a) 0).1) := rfl
    rw [e] at h ⊢
    split at h
    · cases h
    · rename_i h1
      rw [if_neg h1]
      split at h
      · cases h
      · rename_i h2
        rw [if_neg h2]
        show lo ≤ (dgs T n (n - skp T n (n - a) a) (skp T n (n - a) a) 0).2 ∧ (dgs T n (n - skp T n (n - a) a) (skp T n (n - a) a) 0).2 ≤ hi
        omega
theorem rn_B {st : ST} {lo hi : Int} (hlo : 0 ≤ lo) (hhi : hi ≤ 999) : 0 ≤ (rn T n st lo hi).1 ∧ ((rn T n st lo hi).1 ≤ hi ∨ (rn T n st lo hi).1 = 0) := by
  cases st with
  | error e => exact ⟨Int.le_refl 0, Or.inr rfl⟩
  | ok a =>
    have e : rn T n (.ok a) lo hi = if (dgs T n (n - skp T n (n - a) a) (skp T n (n - a) a) 0).1 = skp T n (n - a) a then (0, .error (1, skp T n (n - a) a)) else if (dgs T n (n - skp T n (n - a) a) (skp T n (n - a) a) 0).2 < lo ∨ hi < (dgs T n (n - skp T n (n - a) a) (skp T n (n - a) a) 0).2 then (0, .error (2, skp T n (n - a) a)) else ((dgs T n (n - skp T n (n - a) a) (skp T n (n - a) a) 0).2, .ok (dgs T n (n - skp T n (n - a) a) (skp T n (n - a) a) 0).1) := rfl
    rw [e]
    split
    · exact ⟨Int.le_refl 0, Or.inr rfl⟩
    · split
      · exact ⟨Int.le_refl 0, Or.inr rfl⟩
      · show 0 ≤ (dgs T n (n - skp T n (n - a) a) (skp T n (n - a) a) 0).2 ∧ ((dgs T n (n - skp T n (n - a) a) (skp T n (n - a) a) 0).2 ≤ hi ∨ (dgs T n (n - skp T n (n - a) a) (skp T n (n - a) a) 0).2 = 0)
        omega
end PR
