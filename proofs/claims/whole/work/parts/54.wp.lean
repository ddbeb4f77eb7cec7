/-! what a run comes to: rules for runs of decompiled methods -/
def wp (o : am_O) (P : Except Nat (Option Value) → am_M → Prop) : Prop := ∃ r M', o = some (r, M') ∧ P r M'
def rI (P : Int32 → am_M → Prop) : Except Nat (Option Value) → am_M → Prop := fun r M => ∃ v, r = .ok (some (.int v)) ∧ P v M
def rV (P : am_M → Prop) : Except Nat (Option Value) → am_M → Prop := fun r M => r = .ok none ∧ P M
section WPR
variable {o x y : am_O} {c : Prop} {P Q : Except Nat (Option Value) → am_M → Prop} {A B : Int32 → am_M → Prop} {C D : am_M → Prop} {M : am_M} {v : Int32} {kv : am_M → am_O} {ki : Int32 → am_M → am_O}
theorem wp_s {r : Except Nat (Option Value)} (h : P r M) : wp (some (r, M)) P := ⟨r, M, rfl, h⟩
theorem wp_i (h : A v M) : wp (some (.ok (some (.int v)), M)) (rI A) := ⟨_, M, rfl, v, rfl, h⟩
theorem wp_v (h : C M) : wp (some (.ok none, M)) (rV C) := ⟨_, M, rfl, rfl, h⟩
theorem wp_if [Decidable c] (h1 : c → wp x P) (h2 : ¬ c → wp y P) : wp (if c then x else y) P := by
  by_cases h : c
  · rw [if_pos h]; exact h1 h
  · rw [if_neg h]; exact h2 h
theorem wp_gd [Decidable c] (hc : c) (h : wp x P) : wp (if c then x else y) P := by rw [if_pos hc]; exact h
theorem wp_ng [Decidable c] (hc : ¬ c) (h : wp y P) : wp (if c then x else y) P := by rw [if_neg hc]; exact h
theorem wp_mono (h : wp o P) (hi : ∀ r M, P r M → Q r M) : wp o Q := by
  obtain ⟨r, M, e, hp⟩ := h
  exact ⟨r, M, e, hi r M hp⟩
theorem wp_mi (h : wp o (rI A)) (hi : ∀ v M, A v M → B v M) : wp o (rI B) := wp_mono h (fun r M q => by obtain ⟨v, e, q⟩ := q; exact ⟨v, e, hi v M q⟩)
theorem wp_mv (h : wp o (rV C)) (hi : ∀ M, C M → D M) : wp o (rV D) := wp_mono h (fun r M q => ⟨q.1, hi M q.2⟩)
theorem wp_cv (h : wp o (rV C)) (hk : ∀ M, C M → wp (kv M) Q) : wp (am_bv o kv) Q := by
  obtain ⟨r, M, e, hr, hp⟩ := h
  subst hr
  rw [e]
  exact hk M hp
theorem wp_ci (h : wp o (rI A)) (hk : ∀ v M, A v M → wp (ki v M) Q) : wp (am_bi o ki) Q := by
  obtain ⟨r, M, e, v, hr, hp⟩ := h
  subst hr
  rw [e]
  exact hk v M hp
theorem wp_cvx (h : wp o P) (hk : ∀ M, P (.ok none) M → wp (kv M) Q) (hx : ∀ x M, P (.error x) M → Q (.error x) M) (hn : ∀ v M, ¬ P (.ok (some v)) M) : wp (am_bvx o kv) Q := by
  obtain ⟨r, M, e, hp⟩ := h
  rw [e]
  cases r with
  | error x => exact ⟨_, _, rfl, hx x M hp⟩
  | ok r =>
    cases r with
    | none => exact hk M hp
    | some v => exact absurd hp (hn v M)
theorem wp_cvx1 (h : wp o (rV C)) (hk : ∀ M, C M → wp (kv M) Q) : wp (am_bvx o kv) Q := by
  obtain ⟨r, M, e, hr, hp⟩ := h
  subst hr
  rw [e]
  exact hk M hp
theorem wp_cix1 (h : wp o (rI A)) (hk : ∀ v M, A v M → wp (ki v M) Q) : wp (am_bix o ki) Q := by
  obtain ⟨r, M, e, v, hr, hp⟩ := h
  subst hr
  rw [e]
  exact hk v M hp
theorem wp_vi (h : wp o (rI A)) : ∃ v M', o = some (.ok (some (.int v)), M') ∧ A v M' := by
  obtain ⟨r, M, e, v, hr, hp⟩ := h
  subst hr
  exact ⟨v, M, e, hp⟩
theorem wp_vv (h : wp o (rV C)) : ∃ M', o = some (.ok none, M') ∧ C M' := by
  obtain ⟨r, M, e, hr, hp⟩ := h
  subst hr
  exact ⟨M, e, hp⟩
theorem wp_eqv {M' : am_M} (h : o = some (.ok none, M')) (hc : C M') : wp o (rV C) := ⟨_, _, h, rfl, hc⟩
theorem wp_eqi {M' : am_M} (h : o = some (.ok (some (.int v)), M')) (hc : A v M') : wp o (rI A) := ⟨_, _, h, v, rfl, hc⟩
end WPR
/-- n steps of f from a -/
def it {α : Type} (f : Nat → α → α) (a : α) : Nat → α
  | 0 => a
  | n + 1 => f n (it f a n)
theorem it_congr {α : Type} {f g : Nat → α → α} {a : α} : ∀ {n : Nat}, (∀ j, j < n → ∀ x, f j x = g j x) → it f a n = it g a n := by
  intro n
  induction n with
  | zero => intro _; rfl
  | succ n ih =>
    intro h
    show f n (it f a n) = g n (it g a n)
    rw [ih (fun j hj => h j (by omega)), h n (by omega)]
theorem it_ind {α : Type} {f : Nat → α → α} {a : α} {P : Nat → α → Prop} (h0 : P 0 a) (hs : ∀ j x, P j x → P (j + 1) (f j x)) : ∀ n, P n (it f a n) := by
  intro n
  induction n with
  | zero => exact h0
  | succ n ih => exact hs n _ ih
theorem it_indB {α : Type} {f : Nat → α → α} {a : α} {m : Nat} {P : Nat → α → Prop} (h0 : P 0 a) (hs : ∀ j x, j < m → P j x → P (j + 1) (f j x)) : ∀ n, n ≤ m → P n (it f a n) := by
  intro n
  induction n with
  | zero => intro _; exact h0
  | succ n ih => intro hn; exact hs n _ (by omega) (ih (by omega))
/-! the echoes of a shout, as they stand in a list -/
abbrev ES : Type := Nat × (Nat → Nat → Int32)
def esN : ES := (0, fun _ _ => 0)
def esV (t s w q : Int32) (i : Nat) : Int32 := if i = 0 then t else if i = 1 then s else if i = 2 then w else q
def esIns (e : ES) (t s w q : Int32) : ES := (e.1 + 1, fun i => ei (e.2 i) (ep (e.2 0) t e.1) e.1 (esV t s w q i))
def ErC (e : ES) (M : am_M) : Prop := M 51 0 = i32 (e.1 : Int) ∧ ∀ i j, i < 4 → j < e.1 → M (52 + i) j = e.2 i j
def ErM (e : ES) (M : am_M) : Prop := M 0 48 = i32 (e.1 : Int) ∧ ∀ i j, i < 4 → j < e.1 → M (17 + i) j = e.2 i j
def evE (way : Int) (e : ES) (v : Int × Int × Int × Int) : ES := if v.2.2.2 = 0 then e else esIns e (i32 v.2.2.1) (i32 v.2.1) (i32 way) (i32 v.2.2.2)
theorem ei_congr {T U : Nat → Int32} {p n : Nat} (hp : p ≤ n) {x : Int32} (h : ∀ j, j < n → T j = U j) : ∀ j, j < n + 1 → ei T p n x j = ei U p n x j := by
  intro j hj
  unfold ei
  by_cases h1 : j < p
  · rw [if_pos h1, if_pos h1, h j (by omega)]
  · rw [if_neg h1, if_neg h1]
    by_cases h2 : j = p
    · rw [if_pos h2, if_pos h2]
    · rw [if_neg h2, if_neg h2, if_pos (by omega), if_pos (by omega), h (j - 1) (by omega)]
theorem c_insp_row {M : am_M} {p : Nat} {t s w q : Int32} {n i : Nat} (hi : i < 4) (b : Nat) : c_insp M p t s w q n (52 + i) b = ei (M (52 + i)) p n (esV t s w q i) b := by
  match i, hi with
  | 0, _ => rfl
  | 1, _ => rfl
  | 2, _ => rfl
  | 3, _ => rfl
theorem m_insp_row {M : am_M} {p : Nat} {t s w q : Int32} {n i : Nat} (hi : i < 4) (b : Nat) : m_insp M p t s w q n (17 + i) b = ei (M (17 + i)) p n (esV t s w q i) b := by
  match i, hi with
  | 0, _ => rfl
  | 1, _ => rfl
  | 2, _ => rfl
  | 3, _ => rfl
theorem ErC.ins {e : ES} {M : am_M} (h : ErC e M) (t s w q : Int32) : ErC (esIns e t s w q) (c_ins M t s w q e.1) := by
  have hp : ep (M 52) t e.1 = ep (e.2 0) t e.1 := ep_congr (fun j hj => h.2 0 j (by omega) hj)
  refine ⟨c_ins_sz, fun i j hi hj => ?_⟩
  unfold c_ins
  rw [c_insp_row hi, hp]
  exact ei_congr (ep_le _ _ _) (fun j hj => h.2 i j hi hj) j hj
theorem ErM.ins {e : ES} {M : am_M} (h : ErM e M) (t s w q : Int32) : ErM (esIns e t s w q) (m_ins M t s w q e.1) := by
  have hp : ep (M 17) t e.1 = ep (e.2 0) t e.1 := ep_congr (fun j hj => h.2 0 j (by omega) hj)
  refine ⟨m_ins_sz, fun i j hi hj => ?_⟩
  unfold m_ins
  rw [m_insp_row hi, hp]
  exact ei_congr (ep_le _ _ _) (fun j hj => h.2 i j hi hj) j hj
theorem ErC.ev {e : ES} {M : am_M} (h : ErC e M) (he : e.1 < 1000) (way : Int) (v : Int × Int × Int × Int) : ErC (evE way e v) (evC way M v) := by
  have hp : ErC e (pkC M v.1 v.2.1) := ⟨by rw [pkC_off (by omega)]; exact h.1, fun i j hi hj => by rw [pkC_off (by omega)]; exact h.2 i j hi hj⟩
  unfold evE evC
  split
  · exact hp
  · rw [hp.1, i32_cl (by omega) (by omega)]
    exact hp.ins _ _ _ _
theorem ErM.ev {e : ES} {M : am_M} (h : ErM e M) (he : e.1 < 1000) (ns : Nat) (way : Int) (v : Int × Int × Int × Int) : ErM (evE way e v) (evM ns way M v) := by
  have hp : ErM e (mFall ns M v.1 v.2.1) := ⟨by rw [mFall_off (by omega)]; exact h.1, fun i j hi hj => by rw [mFall_off (by omega)]; exact h.2 i j hi hj⟩
  unfold evE evM
  split
  · exact hp
  · rw [hp.1, i32_cl (by omega) (by omega)]
    exact hp.ins _ _ _ _
/-- how many echoes a walk has -/
def evK (l : List (Int × Int × Int × Int)) : Nat := (l.filter (fun v => decide (v.2.2.2 ≠ 0))).length
theorem evE_sz (way : Int) (e : ES) (v : Int × Int × Int × Int) : (evE way e v).1 = e.1 + (if v.2.2.2 = 0 then 0 else 1) := by
  unfold evE
  split
  · rfl
  · rfl
theorem evE_fold_sz (way : Int) : ∀ (l : List (Int × Int × Int × Int)) (e : ES), (l.foldl (evE way) e).1 = e.1 + evK l := by
  intro l
  induction l with
  | nil => intro e; rfl
  | cons v l ih =>
    intro e
    rw [List.foldl_cons, ih, evE_sz]
    unfold evK
    by_cases h : v.2.2.2 = 0
    · rw [if_pos h, List.filter_cons_of_neg (by simp [h])]; omega
    · rw [if_neg h, List.filter_cons_of_pos (by simp [h])]; simp only [List.length_cons]; omega
