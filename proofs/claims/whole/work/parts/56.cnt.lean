/-! the list of echoes: bounds, order -/
def eT (e : ES) (j : Nat) : Int := (e.2 0 j).toInt
def eS (e : ES) (j : Nat) : Int := (e.2 1 j).toInt
def ESB (e : ES) : Prop := (∀ j, j < e.1 → (1 ≤ eT e j ∧ eT e j ≤ 99) ∧ (1 ≤ eS e j ∧ eS e j ≤ 99)) ∧ ∀ i j, i ≤ j → j < e.1 → eT e i ≤ eT e j
theorem ep_hi {T : Nat → Int32} {t : Int32} : ∀ {k : Nat}, (∀ j, ep T t k ≤ j → j < k → ¬ T j ≤ t) ∧ (0 < ep T t k → T (ep T t k - 1) ≤ t) := by
  intro k
  induction k with
  | zero => exact ⟨fun j _ h => absurd h (Nat.not_lt_zero j), fun h => absurd h (Nat.not_lt_zero 0)⟩
  | succ k ih =>
    unfold ep
    by_cases h : T k ≤ t
    · rw [if_pos h]
      exact ⟨fun j h1 h2 => absurd h2 (by omega), fun _ => h⟩
    · rw [if_neg h]
      refine ⟨fun j h1 h2 => ?_, ih.2⟩
      by_cases hj : j = k
      · rw [hj]; exact h
      · exact ih.1 j h1 (by omega)
theorem ESB.nil : ESB esN := ⟨fun j h => absurd h (Nat.not_lt_zero j), fun i j _ h => absurd h (Nat.not_lt_zero j)⟩
theorem ei_at {T : Nat → Int32} {p n : Nat} {x : Int32} {j : Nat} (hp : p ≤ n) (hj : j < n + 1) : ei T p n x j = if j < p then T j else if j = p then x else T (j - 1) := by
  unfold ei
  by_cases h1 : j < p
  · rw [if_pos h1, if_pos h1]
  · rw [if_neg h1, if_neg h1]
    by_cases h2 : j = p
    · rw [if_pos h2, if_pos h2]
    · rw [if_neg h2, if_neg h2, if_pos (by omega)]
theorem ESB.ins {e : ES} (h : ESB e) {t s : Int} (ht : 1 ≤ t ∧ t ≤ 99) (hs : 1 ≤ s ∧ s ≤ 99) (w q : Int32) : ESB (esIns e (i32 t) (i32 s) w q) := by
  have hp := ep_le (e.2 0) (i32 t) e.1
  have hq := ep_hi (T := e.2 0) (t := i32 t) (k := e.1)
  have tt : (i32 t).toInt = t := i32_toInt (by omega) (by omega)
  have ts : (i32 s).toInt = s := i32_toInt (by omega) (by omega)
  have hlo : ∀ j, ep (e.2 0) (i32 t) e.1 ≤ j → j < e.1 → t < eT e j := fun j h1 h2 => by
    have := hq.1 j h1 h2
    rw [Int32.le_iff_toInt_le, tt] at this
    unfold eT
    omega
  have hhi : 0 < ep (e.2 0) (i32 t) e.1 → eT e (ep (e.2 0) (i32 t) e.1 - 1) ≤ t := fun h1 => by
    have := hq.2 h1
    rw [Int32.le_iff_toInt_le, tt] at this
    exact this
  generalize hpp : ep (e.2 0) (i32 t) e.1 = p at *
  have fT : ∀ j, j < e.1 + 1 → eT (esIns e (i32 t) (i32 s) w q) j = if j < p then eT e j else if j = p then t else eT e (j - 1) := fun j hj => by
    show (ei (e.2 0) (ep (e.2 0) (i32 t) e.1) e.1 (i32 t) j).toInt = _
    rw [hpp, ei_at hp hj]
    unfold eT
    split
    · rfl
    · split
      · exact tt
      · rfl
  have fS : ∀ j, j < e.1 + 1 → eS (esIns e (i32 t) (i32 s) w q) j = if j < p then eS e j else if j = p then s else eS e (j - 1) := fun j hj => by
    show (ei (e.2 1) (ep (e.2 0) (i32 t) e.1) e.1 (i32 s) j).toInt = _
    rw [hpp, ei_at hp hj]
    unfold eS
    split
    · rfl
    · split
      · exact ts
      · rfl
  refine ⟨fun j hj => ?_, fun i j hij hj => ?_⟩
  · have hj : j < e.1 + 1 := hj
    rw [fT j hj, fS j hj]
    by_cases h1 : j < p
    · rw [if_pos h1, if_pos h1]; exact h.1 j (by omega)
    · rw [if_neg h1, if_neg h1]
      by_cases h2 : j = p
      · rw [if_pos h2, if_pos h2]; exact ⟨ht, hs⟩
      · rw [if_neg h2, if_neg h2]; exact h.1 (j - 1) (by omega)
  · have hj : j < e.1 + 1 := hj
    rw [fT j hj, fT i (by omega)]
    by_cases h1 : i < p
    · rw [if_pos h1]
      have hl : eT e i ≤ t := Int.le_trans (h.2 i (p - 1) (by omega) (by omega)) (hhi (by omega))
      by_cases h2 : j < p
      · rw [if_pos h2]; exact h.2 i j hij (by omega)
      · rw [if_neg h2]
        by_cases h3 : j = p
        · rw [if_pos h3]; exact hl
        · rw [if_neg h3]; have := hlo (j - 1) (by omega) (by omega); omega
    · rw [if_neg h1, if_neg (by omega : ¬ j < p)]
      by_cases h2 : i = p
      · rw [if_pos h2]
        by_cases h3 : j = p
        · rw [if_pos h3]; omega
        · rw [if_neg h3]; have := hlo (j - 1) (by omega) (by omega); omega
      · rw [if_neg h2, if_neg (by omega : ¬ j = p)]
        exact h.2 (i - 1) (j - 1) (by omega) (by omega)
theorem ESB.fold {way s : Int} (hs : s ≤ 99) : ∀ (l : List (Int × Int × Int × Int)) (e : ES), (∀ v, v ∈ l → evB s 0 1 v) → ESB e → ESB (l.foldl (evE way) e) := by
  intro l
  induction l with
  | nil => intro e _ h; exact h
  | cons v l ih =>
    intro e hl h
    rw [List.foldl_cons]
    refine ih _ (fun v hv => hl v (List.mem_cons_of_mem _ hv)) ?_
    have hv := hl v List.mem_cons_self
    unfold evB at hv
    unfold evE
    split
    · exact h
    · exact h.ins (by omega) (by omega) _ _
theorem shE_B {V : VL} (hB : VB V) {x y s fog : Int} (hf : 0 ≤ fog ∧ fog ≤ 9) (hs : s ≤ 99) (k : Nat) : ESB (shE V x y s fog k) := by
  unfold shE
  refine it_ind (P := fun _ (e : ES) => ESB e) ESB.nil (fun j e hj => ?_) k
  exact ESB.fold hs _ _ (evs_B hB hf j).1 hj
/-! counting -/
def cTf (e : ES) (g : Int) (j : Nat) (a : Int × Int) : Int × Int := if j + 1 = e.1 ∨ eT e (j + 1) ≠ eT e j then (if g ≤ a.2 + eS e j then a.1 + 1 else a.1, 0) else (a.1, a.2 + eS e j)
def cT (e : ES) (g : Int) (j : Nat) : Int × Int := it (cTf e g) (0, 0) j
def cBy (e : ES) (law : Int) : Int := if law = 0 then (e.1 : Int) else (cT e (if law = 1 then 0 else 10) e.1).1
theorem cT_B {e : ES} (h : ESB e) (g : Int) : ∀ j, j ≤ e.1 → (0 ≤ (cT e g j).1 ∧ (cT e g j).1 ≤ j) ∧ (0 ≤ (cT e g j).2 ∧ (cT e g j).2 ≤ 99 * j) := by
  refine it_indB (P := fun j (a : Int × Int) => (0 ≤ a.1 ∧ a.1 ≤ j) ∧ (0 ≤ a.2 ∧ a.2 ≤ 99 * (j : Int))) (by simp) (fun j a hj ha => ?_)
  have := (h.1 j hj).2
  unfold cTf
  by_cases h1 : j + 1 = e.1 ∨ eT e (j + 1) ≠ eT e j
  · rw [if_pos h1]
    refine ⟨?_, by show 0 ≤ (0 : Int) ∧ (0 : Int) ≤ 99 * ((j + 1 : Nat) : Int); omega⟩
    show 0 ≤ (if g ≤ a.2 + eS e j then a.1 + 1 else a.1) ∧ (if g ≤ a.2 + eS e j then a.1 + 1 else a.1) ≤ ((j + 1 : Nat) : Int)
    split <;> omega
  · rw [if_neg h1]
    show (0 ≤ a.1 ∧ a.1 ≤ ((j + 1 : Nat) : Int)) ∧ (0 ≤ a.2 + eS e j ∧ a.2 + eS e j ≤ 99 * ((j + 1 : Nat) : Int))
    omega
theorem cBy_B {e : ES} (h : ESB e) {law : Int} : 0 ≤ cBy e law ∧ cBy e law ≤ e.1 := by
  unfold cBy
  split
  · omega
  · have := cT_B h (if law = 1 then 0 else 10) e.1 (Nat.le_refl _)
    omega
theorem ErC.T {e : ES} {M : am_M} (h : ErC e M) {j : Nat} (hj : j < e.1) : M 52 j = i32 (eT e j) := by
  rw [h.2 0 j (by omega) hj]; exact (i32_of _).symm
theorem ErC.S {e : ES} {M : am_M} (h : ErC e M) {j : Nat} (hj : j < e.1) : M 53 j = i32 (eS e j) := by
  rw [h.2 1 j (by omega) hj]; exact (i32_of _).symm
theorem ErM.T {e : ES} {M : am_M} (h : ErM e M) {j : Nat} (hj : j < e.1) : M 17 j = i32 (eT e j) := by
  rw [h.2 0 j (by omega) hj]; exact (i32_of _).symm
theorem ErM.S {e : ES} {M : am_M} (h : ErM e M) {j : Nat} (hj : j < e.1) : M 18 j = i32 (eS e j) := by
  rw [h.2 1 j (by omega) hj]; exact (i32_of _).symm
theorem i32_s (k : Nat) : i32 (k : Int) + 1 = i32 ((k + 1 : Nat) : Int) := by rw [i32_1, i32_add]; congr 1
theorem i32_k {k : Nat} (h : k < 2147483648) : (i32 (k : Int)).toNatClampNeg = k := by rw [i32_cl (by omega) (by omega)]; omega
theorem c_countTimes_lp {N : Nat} {e : ES} {M : am_M} (hE : ErC e M) (hB : ESB e) (h24 : e.1 ≤ 24) {g : Int} (hg : 0 ≤ g ∧ g ≤ 10) :
    ∀ (d j n : Nat), j + d = e.1 → d < n → f_X6_countTimes_7 N (i32 g) n (i32 (cT e g j).1) (i32 (cT e g j).2) (i32 (j : Int)) M = some (.ok (some (.int (i32 (cT e g e.1).1))), M) := by
  intro d
  induction d with
  | zero =>
    intro j n hj hn
    obtain ⟨n, rfl⟩ : ∃ k, n = k + 1 := ⟨n - 1, by omega⟩
    show f_X6_countTimes_7B N _ _ _ _ _ M = _
    unfold f_X6_countTimes_7B
    have e0 : j = e.1 := by omega
    rw [hE.1, if_pos ((i32_le (by omega) (by omega) (by omega) (by omega)).mpr (by omega)), e0]
  | succ d ih =>
    intro j n hj hn
    obtain ⟨n, rfl⟩ : ∃ k, n = k + 1 := ⟨n - 1, by omega⟩
    show f_X6_countTimes_7B N _ _ _ _ _ M = _
    unfold f_X6_countTimes_7B
    have hb := cT_B hB g j (by omega)
    have hs := (hB.1 j (by omega)).2
    have ht := (hB.1 j (by omega)).1
    have k1 : cT e g (j + 1) = cTf e g j (cT e g j) := rfl
    have q := ih (j + 1) n (by omega) (by omega)
    rw [hE.1, if_neg (fun q => absurd ((i32_le (by omega) (by omega) (by omega) (by omega)).mp q) (by omega)), if_pos (i32_in (by omega) (by omega) (by omega)), i32_s, i32_k (by omega), i32_k (by omega), hE.S (by omega), i32_add, hE.T (by omega : j < e.1)]
    unfold f_X6_countTimes_56
    rw [i32_s]
    have k56 : (if i32 ((cT e g j).2 + eS e j) < i32 g then f_X6_countTimes_7 N (i32 g) n (i32 (cT e g j).1) 0 (i32 ((j + 1 : Nat) : Int)) M else f_X6_countTimes_7 N (i32 g) n (i32 (cT e g j).1 + 1) 0 (i32 ((j + 1 : Nat) : Int)) M) = f_X6_countTimes_7 N (i32 g) n (i32 (if g ≤ (cT e g j).2 + eS e j then (cT e g j).1 + 1 else (cT e g j).1)) 0 (i32 ((j + 1 : Nat) : Int)) M := by
      by_cases h : g ≤ (cT e g j).2 + eS e j
      · rw [if_neg (fun q => absurd ((i32_lt (by omega) (by omega) (by omega) (by omega)).mp q) (by omega)), if_pos h, i32_1, i32_add]
      · rw [if_pos ((i32_lt (by omega) (by omega) (by omega) (by omega)).mpr (by omega)), if_neg h]
    rw [k56]
    by_cases h1 : j + 1 = e.1
    · rw [if_pos ((i32_eq (by omega) (by omega) (by omega) (by omega)).mpr (by omega)), ← q, k1]
      unfold cTf
      rw [if_pos (Or.inl h1)]
      rfl
    · rw [if_neg (fun q => h1 (by have := (i32_eq (by omega) (by omega) (by omega) (by omega)).mp q; omega)), if_pos ⟨i32_in (by omega) (by omega) (by omega), i32_in (by omega) (by omega) (by omega)⟩, hE.T (by omega)]
      have ht1 := (hB.1 (j + 1) (by omega)).1
      by_cases h2 : eT e (j + 1) = eT e j
      · rw [if_pos ((i32_eq (by omega) (by omega) (by omega) (by omega)).mpr h2), ← q, k1]
        unfold cTf
        rw [if_neg (by omega)]
      · rw [if_neg (fun q => h2 ((i32_eq (by omega) (by omega) (by omega) (by omega)).mp q)), ← q, k1]
        unfold cTf
        rw [if_pos (Or.inr h2)]
        rfl
theorem c_countBy {N : Nat} (hN : 100 ≤ N) {e : ES} {M : am_M} (hE : ErC e M) (hB : ESB e) (h24 : e.1 ≤ 24) {law : Int} (hl : 0 ≤ law ∧ law ≤ 2) : f_X6_countBy N (i32 law) M = some (.ok (some (.int (i32 (cBy e law)))), M) := by
  unfold f_X6_countBy cBy
  have q : ∀ g : Int, 0 ≤ g ∧ g ≤ 10 → f_X6_countBy_23 N (i32 g) M = some (.ok (some (.int (i32 (cT e g e.1).1))), M) := fun g hg => by
    unfold f_X6_countBy_23 f_X6_countTimes
    have := c_countTimes_lp (N := N) hE hB h24 hg e.1 0 N (by omega) (by omega)
    have t : f_X6_countTimes_7 N (i32 g) N 0 0 0 M = some (.ok (some (.int (i32 (cT e g e.1).1))), M) := this
    rw [t]
    rfl
  by_cases h0 : law = 0
  · rw [if_pos ((i32_eq0 (by omega) (by omega)).mpr h0), if_pos h0, hE.1]
  · rw [if_neg (fun z => h0 ((i32_eq0 (by omega) (by omega)).mp z)), if_neg h0]
    by_cases h1 : law = 1
    · rw [if_pos ((i32_eq1 (by omega) (by omega)).mpr h1), if_pos h1]
      exact q 0 (by omega)
    · rw [if_neg (fun z => h1 ((i32_eq1 (by omega) (by omega)).mp z)), if_neg h1]
      exact q 10 (by omega)
/-- the reference's sum before echo j -/
theorem m_count_lp {N : Nat} {e : ES} {M : am_M} (hE : ErM e M) (hB : ESB e) (h24 : e.1 ≤ 24) {law : Int} (hl : law = 1 ∨ law = 2) :
    ∀ (d j n : Nat) (u : Int), j + d = e.1 → d < n → (0 ≤ u ∧ u ≤ 99 * j) → (0 < j → j < e.1 → eT e j = eT e (j - 1) → u = (cT e (if law = 1 then 0 else 10) j).2) → (0 < j → j < e.1 → eT e j ≠ eT e (j - 1) → (cT e (if law = 1 then 0 else 10) j).2 = 0) → f_X10_countOf_28 N (i32 law) n (i32 (cT e (if law = 1 then 0 else 10) j).1) (i32 u) (i32 (j : Int)) M = some (.ok (some (.int (i32 (cT e (if law = 1 then 0 else 10) e.1).1))), M) := by
  intro d
  induction d with
  | zero =>
    intro j n u hj hn hu hu1 hu2
    obtain ⟨n, rfl⟩ : ∃ k, n = k + 1 := ⟨n - 1, by omega⟩
    show f_X10_countOf_28B N _ _ _ _ _ M = _
    unfold f_X10_countOf_28B
    have e0 : j = e.1 := by omega
    rw [hE.1, if_pos ((i32_le (by omega) (by omega) (by omega) (by omega)).mpr (by omega)), e0]
  | succ d ih =>
    intro j n u hj hn hu hu1 hu2
    obtain ⟨n, rfl⟩ : ∃ k, n = k + 1 := ⟨n - 1, by omega⟩
    show f_X10_countOf_28B N _ _ _ _ _ M = _
    unfold f_X10_countOf_28B
    have hb := cT_B hB (if law = 1 then 0 else 10) j (by omega)
    have hs := (hB.1 j (by omega)).2
    have ht := (hB.1 j (by omega)).1
    have k1 : cT e (if law = 1 then 0 else 10) (j + 1) = cTf e (if law = 1 then 0 else 10) j (cT e (if law = 1 then 0 else 10) j) := rfl
    have q := fun u => ih (j + 1) n u (by omega) (by omega)
    generalize hg : (if law = 1 then 0 else 10 : Int) = g at *
    have hg2 : law = 1 ∧ g = 0 ∨ law = 2 ∧ g = 10 := by
      rcases hl with rfl | rfl
      · left; exact ⟨rfl, by rw [← hg]; rfl⟩
      · right; exact ⟨rfl, by rw [← hg]; rfl⟩
    -- behind the sum
    have k81 : f_X10_countOf_81 N (f_X10_countOf_28 N (i32 law) n) (i32 law) (i32 (cT e g j).1) (i32 (j : Int)) (i32 ((cT e g j).2 + eS e j)) M = some (.ok (some (.int (i32 (cT e g e.1).1))), M) := by
      unfold f_X10_countOf_81
      have e1 : i32 (e.1 : Int) - 1 = i32 ((e.1 : Int) - 1) := by rw [i32_1, i32_sub]
      have e118 : ∀ b : Int32, f_X10_countOf_118 N (f_X10_countOf_28 N (i32 law) n) (i32 law) (i32 (cT e g j).1) (i32 ((cT e g j).2 + eS e j)) (i32 (j : Int)) b M = f_X10_countOf_28 N (i32 law) n (i32 (if b ≠ 0 ∧ g ≤ (cT e g j).2 + eS e j then (cT e g j).1 + 1 else (cT e g j).1)) (i32 ((cT e g j).2 + eS e j)) (i32 ((j + 1 : Nat) : Int)) M := by
        intro b
        unfold f_X10_countOf_118 f_X10_countOf_139
        have ez : i32 (cT e g j).1 + 0 = i32 (cT e g j).1 := by rw [i32_0, i32_add, Int.add_zero]
        rw [i32_s, ez]
        by_cases hb0 : b = 0
        · rw [if_pos hb0, if_neg (fun z => z.1 hb0)]
        · rw [if_neg hb0]
          rcases hg2 with hh | hh
          · rw [if_pos ((i32_eq1 (by omega) (by omega)).mpr hh.1), if_pos ⟨hb0, by omega⟩, i32_1, i32_add]
          · rw [if_neg (fun z => absurd ((i32_eq1 (by omega) (by omega)).mp z) (by omega))]
            by_cases h : g ≤ (cT e g j).2 + eS e j
            · rw [if_neg (fun q => absurd ((i32_lt10 (by omega) (by omega)).mp q) (by omega)), if_pos ⟨hb0, h⟩, i32_1, i32_add]
            · rw [if_pos ((i32_lt10 (by omega) (by omega)).mpr (by omega)), if_neg (fun z => h z.2)]
      have e113 : f_X10_countOf_113 N (f_X10_countOf_28 N (i32 law) n) (i32 law) (i32 (cT e g j).1) (i32 ((cT e g j).2 + eS e j)) (i32 (j : Int)) M = f_X10_countOf_28 N (i32 law) n (i32 (if g ≤ (cT e g j).2 + eS e j then (cT e g j).1 + 1 else (cT e g j).1)) (i32 ((cT e g j).2 + eS e j)) (i32 ((j + 1 : Nat) : Int)) M := by
        unfold f_X10_countOf_113
        rw [e118]
        congr 2
        by_cases h : g ≤ (cT e g j).2 + eS e j
        · rw [if_pos h, if_pos ⟨by decide, h⟩]
        · rw [if_neg h, if_neg (fun z => h z.2)]
      rw [hE.1, e1, e113, e118]
      have last : j + 1 = e.1 ∨ eT e (j + 1) ≠ eT e j → f_X10_countOf_28 N (i32 law) n (i32 (if g ≤ (cT e g j).2 + eS e j then (cT e g j).1 + 1 else (cT e g j).1)) (i32 ((cT e g j).2 + eS e j)) (i32 ((j + 1 : Nat) : Int)) M = some (.ok (some (.int (i32 (cT e g e.1).1))), M) := by
        intro hla
        have k2 : cT e g (j + 1) = (if g ≤ (cT e g j).2 + eS e j then (cT e g j).1 + 1 else (cT e g j).1, 0) := by
          rw [k1]; unfold cTf; rw [if_pos hla]
        have := q ((cT e g j).2 + eS e j) (by omega) (fun _ h2 h3 => by rw [Nat.add_sub_cancel] at h3; rcases hla with z | z; exact absurd z (by omega); exact absurd h3 z) (fun _ _ _ => by rw [k2])
        rw [k2] at this
        exact this
      by_cases h1 : j + 1 = e.1
      · rw [if_pos ((i32_eq (by omega) (by omega) (by omega) (by omega)).mpr (by omega))]
        exact last (Or.inl h1)
      · rw [if_neg (fun q => h1 (by have := (i32_eq (by omega) (by omega) (by omega) (by omega)).mp q; omega)), i32_s, if_pos ⟨i32_in (by omega) (by omega) (by omega), i32_in (by omega) (by omega) (by omega)⟩, i32_k (by omega), i32_k (by omega), hE.T (by omega), hE.T (by omega)]
        have ht1 := (hB.1 (j + 1) (by omega)).1
        by_cases h2 : eT e (j + 1) = eT e j
        · rw [if_pos ((i32_eq (by omega) (by omega) (by omega) (by omega)).mpr h2)]
          have k2 : cT e g (j + 1) = ((cT e g j).1, (cT e g j).2 + eS e j) := by
            rw [k1]; unfold cTf; rw [if_neg (by omega)]
          have := q ((cT e g j).2 + eS e j) (by omega) (fun _ _ _ => by rw [k2]) (fun _ _ h3 => absurd (by rw [Nat.add_sub_cancel]; exact h2) h3)
          rw [k2] at this
          rw [if_neg (fun z => z.1 rfl)]
          exact this
        · rw [if_neg (fun q => h2 ((i32_eq (by omega) (by omega) (by omega) (by omega)).mp q))]
          exact last (Or.inr h2)
    have k74 : (cT e g j).2 = 0 → f_X10_countOf_74 N (f_X10_countOf_28 N (i32 law) n) (i32 law) (i32 (cT e g j).1) (i32 (j : Int)) M = some (.ok (some (.int (i32 (cT e g e.1).1))), M) := by
      intro hz
      unfold f_X10_countOf_74
      rw [if_pos (i32_in (by omega) (by omega) (by omega)), i32_k (by omega), hE.S (by omega)]
      rw [hz, Int.zero_add] at k81
      exact k81
    rw [hE.1, if_neg (fun q => absurd ((i32_le (by omega) (by omega) (by omega) (by omega)).mp q) (by omega))]
    by_cases hj0 : j = 0
    · rw [if_pos ((i32_le0 (by omega) (by omega)).mpr (by omega))]
      exact k74 (by rw [hj0]; rfl)
    · have em : i32 (j : Int) - 1 = i32 ((j - 1 : Nat) : Int) := by rw [i32_1, i32_sub]; congr 1; omega
      rw [if_neg (fun z => absurd ((i32_le0 (by omega) (by omega)).mp z) (by omega)), em, if_pos ⟨i32_in (by omega) (by omega) (by omega), i32_in (by omega) (by omega) (by omega)⟩, i32_k (by omega), i32_k (by omega), hE.T (by omega), hE.T (by omega)]
      have ht1 := (hB.1 (j - 1) (by omega)).1
      by_cases h2 : eT e j = eT e (j - 1)
      · rw [if_pos ((i32_eq (by omega) (by omega) (by omega) (by omega)).mpr h2), if_pos (i32_in (by omega) (by omega) (by omega)), hE.S (by omega), hu1 (by omega) (by omega) h2, i32_add]
        exact k81
      · rw [if_neg (fun q => h2 ((i32_eq (by omega) (by omega) (by omega) (by omega)).mp q))]
        exact k74 (hu2 (by omega) (by omega) h2)
theorem m_countOf {N : Nat} (hN : 102 ≤ N) {V : VL} {x y fog law s : Int} {M : am_M} {ns : Nat} (hns : ns ≤ 8) (hB : VB V) (hE : EM V M) (hM : M 0 35 = i32 (ns : Int)) (hL : M 0 40 = i32 s) (hf : 0 ≤ fog ∧ fog ≤ 9) (hx : 0 ≤ x ∧ x < V 0 0) (hy : 0 ≤ y ∧ y < V 0 1) (hs : 1 ≤ s ∧ s ≤ 99) (hl : 0 ≤ law ∧ law ≤ 2) :
    f_X10_countOf N (i32 (10 * y + x)) (i32 fog) (i32 law) M = some (.ok (some (.int (i32 (cBy (shE V x y s fog 8) law)))), shM ns V x y s fog M 8) := by
  unfold f_X10_countOf
  rw [hL, m_shouts hN hns hB hE hM hf hx hy hs]
  show (if i32 law = 0 then _ else _) = _
  have hEr := shM_Er (ns := ns) hB (x := x) (y := y) (s := s) hf M 8 (by omega)
  have hsz := shE_sz hB (x := x) (y := y) (s := s) hf 8
  have hEB := shE_B hB (x := x) (y := y) (s := s) hf (by omega) 8
  unfold cBy
  by_cases h0 : law = 0
  · rw [if_pos ((i32_eq0 (by omega) (by omega)).mpr h0), if_pos h0, hEr.1]
  · rw [if_neg (fun z => h0 ((i32_eq0 (by omega) (by omega)).mp z)), if_neg h0]
    have := m_count_lp (N := N) hEr hEB (by omega) (law := law) (by omega) (shE V x y s fog 8).1 0 N 0 (by omega) (by omega) (by omega) (fun h => absurd h (Nat.lt_irrefl 0)) (fun h => absurd h (Nat.lt_irrefl 0))
    exact this
