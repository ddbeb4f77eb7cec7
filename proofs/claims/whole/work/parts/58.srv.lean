/-! A FIELD'S SURVEY: most (0, at 1, 2), least (3, at 4, 5), sum 6, cells 7 -/
def CN (V : VL) (fog law x y : Int) : Int := cBy (shE V x y (V 0 2) fog 8) law
def svS (n x y : Int) (a : Nat → Int) (i : Nat) : Int :=
  if i = 0 then (if a 7 = 0 ∨ a 0 < n then n else a 0) else if i = 1 then (if a 7 = 0 ∨ a 0 < n then x else a 1) else if i = 2 then (if a 7 = 0 ∨ a 0 < n then y else a 2) else
  if i = 3 then (if a 7 = 0 ∨ n < a 3 then n else a 3) else if i = 4 then (if a 7 = 0 ∨ n < a 3 then x else a 4) else if i = 5 then (if a 7 = 0 ∨ n < a 3 then y else a 5) else
  if i = 6 then a 6 + n else a 7 + 1
def svX (V : VL) (fog law y x0 : Int) (a : Nat → Int) (k : Nat) : Nat → Int := it (fun j a => svS (CN V fog law (x0 + j) y) (x0 + j) y a) a k
def svY (V : VL) (fog law x0 : Int) (nx : Nat) (y0 : Int) (k : Nat) : Nat → Int := it (fun i a => svX V fog law (y0 + i) x0 a nx) (fun _ => 0) k
def nx (V : VL) (f : Nat) : Nat := (V 1 (5 * f + 2) - V 1 (5 * f) + 1).toNat
def ny (V : VL) (f : Nat) : Nat := (V 1 (5 * f + 3) - V 1 (5 * f + 1) + 1).toNat
def sv (V : VL) (f : Nat) (fog law : Int) : Nat → Int := svY V fog law (V 1 (5 * f)) (nx V f) (V 1 (5 * f + 1)) (ny V f)
/-- bounds behind m cells -/
def svB (m : Int) (a : Nat → Int) : Prop := a 7 = m ∧ (0 ≤ a 0 ∧ a 0 ≤ 24) ∧ (0 ≤ a 3 ∧ a 3 ≤ 24) ∧ (0 ≤ a 6 ∧ a 6 ≤ 24 * m) ∧ (0 ≤ a 1 ∧ a 1 < 10) ∧ (0 ≤ a 2 ∧ a 2 < 10) ∧ (0 ≤ a 4 ∧ a 4 < 10) ∧ (0 ≤ a 5 ∧ a 5 < 10)
theorem svS_B {m n x y : Int} {a : Nat → Int} (h : svB m a) (hn : 0 ≤ n ∧ n ≤ 24) (hx : 0 ≤ x ∧ x < 10) (hy : 0 ≤ y ∧ y < 10) : svB (m + 1) (svS n x y a) := by
  unfold svB at *
  obtain ⟨h7, h0, h3, h6, h1, h2, h4, h5⟩ := h
  refine ⟨by show a 7 + 1 = _; omega, ?_, ?_, ?_, ?_, ?_, ?_, ?_⟩
  · show 0 ≤ (if a 7 = 0 ∨ a 0 < n then n else a 0) ∧ (if a 7 = 0 ∨ a 0 < n then n else a 0) ≤ 24; split <;> omega
  · show 0 ≤ (if a 7 = 0 ∨ n < a 3 then n else a 3) ∧ (if a 7 = 0 ∨ n < a 3 then n else a 3) ≤ 24; split <;> omega
  · show 0 ≤ a 6 + n ∧ a 6 + n ≤ 24 * (m + 1); omega
  · show 0 ≤ (if a 7 = 0 ∨ a 0 < n then x else a 1) ∧ (if a 7 = 0 ∨ a 0 < n then x else a 1) < 10; split <;> omega
  · show 0 ≤ (if a 7 = 0 ∨ a 0 < n then y else a 2) ∧ (if a 7 = 0 ∨ a 0 < n then y else a 2) < 10; split <;> omega
  · show 0 ≤ (if a 7 = 0 ∨ n < a 3 then x else a 4) ∧ (if a 7 = 0 ∨ n < a 3 then x else a 4) < 10; split <;> omega
  · show 0 ≤ (if a 7 = 0 ∨ n < a 3 then y else a 5) ∧ (if a 7 = 0 ∨ n < a 3 then y else a 5) < 10; split <;> omega
theorem CN_B {V : VL} (hB : VB V) (hL : V 0 2 ≤ 99) {fog law x y : Int} (hf : 0 ≤ fog ∧ fog ≤ 9) : 0 ≤ CN V fog law x y ∧ CN V fog law x y ≤ 24 := by
  have h1 := cBy_B (law := law) (shE_B hB (x := x) (y := y) (s := V 0 2) hf hL 8)
  have h2 := shE_sz hB (x := x) (y := y) (s := V 0 2) hf 8
  unfold CN
  omega
theorem svX_B {V : VL} (hB : VB V) (hL : V 0 2 ≤ 99) {fog law y x0 : Int} (hf : 0 ≤ fog ∧ fog ≤ 9) (hy : 0 ≤ y ∧ y < 10) (hx : 0 ≤ x0) {m : Int} {a : Nat → Int} (h : svB m a) : ∀ k : Nat, x0 + k ≤ 10 → svB (m + k) (svX V fog law y x0 a k) := by
  intro k
  induction k with
  | zero => intro _; show svB (m + 0) a; rw [Int.add_zero]; exact h
  | succ k ih =>
    intro hk
    have q := ih (by omega)
    show svB (m + ((k + 1 : Nat) : Int)) (svS _ _ _ (svX V fog law y x0 a k))
    have := svS_B q (n := CN V fog law (x0 + k) y) (x := x0 + k) (y := y) (CN_B hB hL hf) (by omega) hy
    rw [show m + ((k + 1 : Nat) : Int) = m + k + 1 from by omega]
    exact this
theorem svY_B {V : VL} (hB : VB V) (hL : V 0 2 ≤ 99) {fog law x0 y0 : Int} (hf : 0 ≤ fog ∧ fog ≤ 9) (hx : 0 ≤ x0) (hy : 0 ≤ y0) {w : Nat} (hw : x0 + w ≤ 10) : ∀ k : Nat, y0 + k ≤ 10 → svB ((w : Int) * k) (svY V fog law x0 w y0 k) := by
  intro k
  induction k with
  | zero => intro _; show svB ((w : Int) * 0) (fun _ => 0); rw [Int.mul_zero]; unfold svB; simp
  | succ k ih =>
    intro hk
    have q := ih (by omega)
    have := svX_B hB hL (law := law) hf (y := y0 + k) (x0 := x0) (by omega) hx q w hw
    show svB ((w : Int) * ((k + 1 : Nat) : Int)) (svX V fog law (y0 + k) x0 (svY V fog law x0 w y0 k) w)
    rw [show (w : Int) * ((k + 1 : Nat) : Int) = (w : Int) * k + w from by rw [Int.natCast_add, Int.mul_add]; simp]
    exact this
/-- the class's market holds a -/
def svC (a : Nat → Int) (M : am_M) : Prop := M 57 6 = i32 (a 6) ∧ M 57 7 = i32 (a 7) ∧ (a 7 ≠ 0 → ∀ i, i < 6 → M 57 i = i32 (a i))
/-- the reference holds a -/
def svM (least : Int) (a : Nat → Int) (M : am_M) : Prop := M 0 52 = i32 (a 6) ∧ M 0 53 = i32 (a 7) ∧ (a 7 = 0 → M 0 50 = -1) ∧ (a 7 ≠ 0 → if least = 0 then M 0 50 = i32 (10 * a 2 + a 1) ∧ M 0 51 = i32 (a 0) else M 0 50 = i32 (10 * a 5 + a 4) ∧ M 0 51 = i32 (a 3))
theorem c_noteCount {N : Nat} {m n x y : Int} {a : Nat → Int} {M : am_M} (hb : svB m a) (hm : 0 ≤ m ∧ m ≤ 100) (hn : 0 ≤ n ∧ n ≤ 24) (h : svC a M) : wp (f_X3_noteCount N (i32 x) (i32 y) (i32 n) M) (rV fun M' => svC (svS n x y a) M' ∧ ∀ p q, p ≠ 57 → M' p q = M p q) := by
  obtain ⟨h7, h0, h3, h6, _⟩ := hb
  obtain ⟨c6, c7, c5⟩ := h
  have e7 : (M 57 7 = 0) ↔ a 7 = 0 := by rw [c7]; exact i32_eq0 (by omega) (by omega)
  -- behind the most
  have k60 : ∀ M1 : am_M, M1 57 6 = i32 (a 6) → M1 57 7 = i32 (a 7) → (∀ p q, p ≠ 57 → M1 p q = M p q) → (∀ i, i < 6 → M1 57 i = i32 (svS n x y a i)) → wp (f_X3_noteCount_60 N (i32 n) M1) (rV fun M' => svC (svS n x y a) M' ∧ ∀ p q, p ≠ 57 → M' p q = M p q) := by
    intro M1 q6 q7 qf q5
    unfold f_X3_noteCount_60
    refine wp_v ⟨⟨?_, ?_, fun _ i hi => ?_⟩, fun p q hp => ?_⟩
    · rw [up_ne (by omega), up_eq, q6, i32_add]; rfl
    · rw [up_eq, q7, i32_1, i32_add]; rfl
    · rw [up_ne (by omega), up_ne (by omega)]; exact q5 i hi
    · rw [up_ne (by omega), up_ne (by omega)]; exact qf p q hp
  have k30 : ∀ M1 : am_M, M1 57 6 = i32 (a 6) → M1 57 7 = i32 (a 7) → (∀ p q, p ≠ 57 → M1 p q = M p q) → (∀ i, i < 3 → M1 57 i = i32 (svS n x y a i)) → (∀ i, 3 ≤ i → M1 57 i = M 57 i) → wp (f_X3_noteCount_30 N (i32 x) (i32 y) (i32 n) M1) (rV fun M' => svC (svS n x y a) M' ∧ ∀ p q, p ≠ 57 → M' p q = M p q) := by
    intro M1 q6 q7 qf q3 q5
    have k45 : (a 7 = 0 ∨ n < a 3) → wp (f_X3_noteCount_45 N (i32 x) (i32 y) (i32 n) M1) (rV fun M' => svC (svS n x y a) M' ∧ ∀ p q, p ≠ 57 → M' p q = M p q) := by
      intro hc
      unfold f_X3_noteCount_45
      refine k60 _ ?_ ?_ (fun p q hp => ?_) (fun i hi => ?_)
      · rw [up_ne (by omega), up_ne (by omega), up_ne (by omega)]; exact q6
      · rw [up_ne (by omega), up_ne (by omega), up_ne (by omega)]; exact q7
      · rw [up_ne (by omega), up_ne (by omega), up_ne (by omega)]; exact qf p q hp
      · match i, hi with
        | 0, _ => rw [up_ne (by omega), up_ne (by omega), up_ne (by omega)]; exact q3 0 (by omega)
        | 1, _ => rw [up_ne (by omega), up_ne (by omega), up_ne (by omega)]; exact q3 1 (by omega)
        | 2, _ => rw [up_ne (by omega), up_ne (by omega), up_ne (by omega)]; exact q3 2 (by omega)
        | 3, _ => rw [up_ne (by omega), up_ne (by omega), up_eq]; show _ = i32 (if a 7 = 0 ∨ n < a 3 then n else a 3); rw [if_pos hc]
        | 4, _ => rw [up_ne (by omega), up_eq]; show _ = i32 (if a 7 = 0 ∨ n < a 3 then x else a 4); rw [if_pos hc]
        | 5, _ => rw [up_eq]; show _ = i32 (if a 7 = 0 ∨ n < a 3 then y else a 5); rw [if_pos hc]
    unfold f_X3_noteCount_30
    rw [q5 3 (by omega), q7]
    refine wp_if (fun z => ?_) (fun z => ?_)
    · exact k45 (Or.inl ((i32_eq0 (by omega) (by omega)).mp z))
    · have z : a 7 ≠ 0 := fun y => z ((i32_eq0 (by omega) (by omega)).mpr y)
      rw [c5 z 3 (by omega)]
      refine wp_if (fun z2 => ?_) (fun z2 => ?_)
      · have z2 := (i32_le (by omega) (by omega) (by omega) (by omega)).mp z2
        refine k60 M1 q6 q7 qf (fun i hi => ?_)
        match i, hi with
        | 0, _ => exact q3 0 (by omega)
        | 1, _ => exact q3 1 (by omega)
        | 2, _ => exact q3 2 (by omega)
        | 3, _ => rw [q5 3 (by omega), c5 z 3 (by omega)]; show _ = i32 (if a 7 = 0 ∨ n < a 3 then n else a 3); rw [if_neg (by omega)]
        | 4, _ => rw [q5 4 (by omega), c5 z 4 (by omega)]; show _ = i32 (if a 7 = 0 ∨ n < a 3 then x else a 4); rw [if_neg (by omega)]
        | 5, _ => rw [q5 5 (by omega), c5 z 5 (by omega)]; show _ = i32 (if a 7 = 0 ∨ n < a 3 then y else a 5); rw [if_neg (by omega)]
      · exact k45 (Or.inr (by
          have : ¬ a 3 ≤ n := fun t => z2 ((i32_le (by omega) (by omega) (by omega) (by omega)).mpr t)
          omega))
  have k15 : (a 7 = 0 ∨ a 0 < n) → wp (f_X3_noteCount_15 N (i32 x) (i32 y) (i32 n) M) (rV fun M' => svC (svS n x y a) M' ∧ ∀ p q, p ≠ 57 → M' p q = M p q) := by
    intro hc
    unfold f_X3_noteCount_15
    refine k30 _ ?_ ?_ (fun p q hp => ?_) (fun i hi => ?_) (fun i hi => ?_)
    · rw [up_ne (by omega), up_ne (by omega), up_ne (by omega)]; exact c6
    · rw [up_ne (by omega), up_ne (by omega), up_ne (by omega)]; exact c7
    · rw [up_ne (by omega), up_ne (by omega), up_ne (by omega)]
    · match i, hi with
      | 0, _ => rw [up_ne (by omega), up_ne (by omega), up_eq]; show _ = i32 (if a 7 = 0 ∨ a 0 < n then n else a 0); rw [if_pos hc]
      | 1, _ => rw [up_ne (by omega), up_eq]; show _ = i32 (if a 7 = 0 ∨ a 0 < n then x else a 1); rw [if_pos hc]
      | 2, _ => rw [up_eq]; show _ = i32 (if a 7 = 0 ∨ a 0 < n then y else a 2); rw [if_pos hc]
    · rw [up_ne (by omega), up_ne (by omega), up_ne (by omega)]
  unfold f_X3_noteCount
  refine wp_if (fun z => ?_) (fun z => ?_)
  · exact k15 (Or.inl (e7.mp z))
  · have z : a 7 ≠ 0 := fun y => z (e7.mpr y)
    rw [c5 z 0 (by omega)]
    refine wp_if (fun z2 => ?_) (fun z2 => ?_)
    · have z2 := (i32_le (by omega) (by omega) (by omega) (by omega)).mp z2
      refine k30 M c6 c7 (fun _ _ _ => rfl) (fun i hi => ?_) (fun _ _ => rfl)
      match i, hi with
      | 0, _ => rw [c5 z 0 (by omega)]; show _ = i32 (if a 7 = 0 ∨ a 0 < n then n else a 0); rw [if_neg (by omega)]
      | 1, _ => rw [c5 z 1 (by omega)]; show _ = i32 (if a 7 = 0 ∨ a 0 < n then x else a 1); rw [if_neg (by omega)]
      | 2, _ => rw [c5 z 2 (by omega)]; show _ = i32 (if a 7 = 0 ∨ a 0 < n then y else a 2); rw [if_neg (by omega)]
    · exact k15 (Or.inr (by
        have : ¬ n ≤ a 0 := fun t => z2 ((i32_le (by omega) (by omega) (by omega) (by omega)).mpr t)
        omega))
