/-! a walk's events: their bounds -/
def evB (s num t : Int) (e : Int × Int × Int × Int) : Prop := (0 ≤ e.1 ∧ e.1 < 100) ∧ (1 ≤ e.2.1 ∧ e.2.1 < s) ∧ (t ≤ e.2.2.1 ∧ e.2.2.1 ≤ 99) ∧ (e.2.2.2 = 0 ∨ (num < e.2.2.2 ∧ e.2.2.2 ≤ 3))
theorem evB.mono {s num t s' num' t' : Int} {e : Int × Int × Int × Int} (h : evB s num t e) (h1 : s ≤ s') (h2 : num' ≤ num) (h3 : t' ≤ t) : evB s' num' t' e := by
  unfold evB at *
  omega
theorem evK_nil : evK [] = 0 := rfl
theorem evK_0 {a b c : Int} {l : List (Int × Int × Int × Int)} : evK ((a, b, c, 0) :: l) = evK l := by
  unfold evK
  rw [List.filter_cons_of_neg (by simp)]
theorem evK_1 {a b c d : Int} (h : d ≠ 0) {l : List (Int × Int × Int × Int)} : evK ((a, b, c, d) :: l) = evK l + 1 := by
  unfold evK
  rw [List.filter_cons_of_pos (by simp [h])]
  rfl
theorem sh_go_B {w h yr fog sx sy : Int} {hd wd : Nat → Int} (hB : EnvB w h yr hd wd) (hf : 0 ≤ fog ∧ fog ≤ 9) :
    ∀ (n : Nat) (x y dx dy s num t : Int), (n : Int) + t = 100 → (0 ≤ num ∧ num < 3) →
      (∀ e, e ∈ sh_go w h hd wd yr fog sx sy n x y dx dy s num t → evB s num t e) ∧ (evK (sh_go w h hd wd yr fog sx sy n x y dx dy s num t) : Int) ≤ 3 - num := by
  intro n
  induction n with
  | zero =>
    intro x y dx dy s num t ht hnum
    refine ⟨fun e he => ?_, ?_⟩
    · cases he
    · show ((0 : Nat) : Int) ≤ _
      omega
  | succ n ih =>
    intro x y dx dy s num t ht hnum
    have hw := hB.1
    have hh := hB.2.1
    have hyr := hB.2.2.1
    rw [sh_go]
    generalize hX : x + dx = X
    generalize hY : y + dy = Y
    by_cases hout : X < 0 ∨ Y < 0 ∨ w ≤ X ∨ h ≤ Y
    · rw [if_pos hout]
      exact ⟨fun e he => (nomatch he), by rw [evK_nil]; omega⟩
    rw [if_neg hout]
    generalize hc : 10 * Y + X = c
    have hc0 : 0 ≤ c := by omega
    have hc1 : c < 100 := by omega
    have hb := hB.2.2.2 c.toNat (by omega)
    have hz1 : 0 ≤ (if 0 < wd c.toNat then wd c.toNat + yr else 0) := by split <;> omega
    generalize hg : s - (1 + fog) - (if 0 < wd c.toNat then wd c.toNat + yr else 0) = g
    by_cases h6 : g < 1
    · rw [if_pos h6]
      exact ⟨fun e he => (nomatch he), by rw [evK_nil]; omega⟩
    rw [if_neg h6]
    have hgs : g < s := by omega
    clear hg hz1
    by_cases h7 : X = sx ∧ Y = sy
    · rw [if_pos h7]
      by_cases h8 : num + 1 = 3
      · rw [if_pos h8]
        refine ⟨fun e he => ?_, by rw [evK_1 (by omega), evK_nil]; omega⟩
        rw [List.mem_singleton] at he
        subst he
        unfold evB
        simp only
        omega
      · rw [if_neg h8]
        have q := ih X Y dx dy g (num + 1) (t + 1) (by omega) (by omega)
        refine ⟨fun e he => ?_, by rw [evK_1 (by omega)]; omega⟩
        rcases List.mem_cons.mp he with he | he
        · subst he
          unfold evB
          simp only
          omega
        · exact (q.1 e he).mono (by omega) (by omega) (by omega)
    · rw [if_neg h7]
      have tl : ∀ l : List (Int × Int × Int × Int), (∀ e, e ∈ l → evB g num (t + 1) e) ∧ (evK l : Int) ≤ 3 - num → (∀ e, e ∈ (c, g, t, (0 : Int)) :: l → evB s num t e) ∧ (evK ((c, g, t, (0 : Int)) :: l) : Int) ≤ 3 - num := by
        intro l hl
        refine ⟨fun e he => ?_, by rw [evK_0]; exact hl.2⟩
        rcases List.mem_cons.mp he with he | he
        · subst he
          exact ⟨⟨hc0, hc1⟩, ⟨by show 1 ≤ g; omega, hgs⟩, ⟨Int.le_refl _, by show t ≤ 99; omega⟩, Or.inl rfl⟩
        · exact (hl.1 e he).mono (by omega) (by omega) (by omega)
      apply tl
      by_cases h9 : 0 < hd c.toNat
      · rw [if_pos h9]
        by_cases h10 : g - (10 - hd c.toNat) < 1
        · rw [if_pos h10]
          exact ⟨fun e he => (nomatch he), by rw [evK_nil]; omega⟩
        · rw [if_neg h10]
          have q := ih X Y (-dx) (-dy) (g - (10 - hd c.toNat)) num (t + 1) (by omega) hnum
          exact ⟨fun e he => (q.1 e he).mono (by omega) (by omega) (by omega), q.2⟩
      · rw [if_neg h9]
        exact ih X Y dx dy g num (t + 1) (by omega) hnum
/-! THE VALLEY AS NUMBERS: V 0: width, height, loud, law, years, how many fields, sites, seasons, snows, maybes, lines; V 1..5 those tables; V 6 faces, V 7 wood, V 8 the book -/
abbrev VL : Type := Nat → Nat → Int
def VB (V : VL) : Prop := EnvB (V 0 0) (V 0 1) (V 0 4) (V 6) (V 7)
def EC (V : VL) (M : am_M) : Prop := EnvC (V 0 0) (V 0 1) (V 0 4) (V 6) (V 7) M
def EM (V : VL) (M : am_M) : Prop := EnvM (V 0 0) (V 0 1) (V 0 4) (V 6) (V 7) M
def rgt (k : Nat) : Int := if k = 0 ∨ k = 1 ∨ k = 7 then 1 else if k = 2 ∨ k = 6 then 0 else -1
def dwn (k : Nat) : Int := if 1 ≤ k ∧ k ≤ 3 then 1 else if 5 ≤ k ∧ k ≤ 7 then -1 else 0
theorem rgt_B (k : Nat) : -1 ≤ rgt k ∧ rgt k ≤ 1 := by unfold rgt; split <;> (try split) <;> omega
theorem dwn_B (k : Nat) : -1 ≤ dwn k ∧ dwn k ≤ 1 := by unfold dwn; split <;> (try split) <;> omega
/-- what happens on one way of a shout -/
def evs (V : VL) (x y s fog : Int) (k : Nat) : List (Int × Int × Int × Int) := sh_go (V 0 0) (V 0 1) (V 6) (V 7) (V 0 4) fog x y 99 x y (rgt k) (dwn k) s 0 1
/-- the echoes of a shout -/
def shE (V : VL) (x y s fog : Int) (k : Nat) : ES := it (fun j e => (evs V x y s fog j).foldl (evE (j : Int)) e) esN k
theorem evs_B {V : VL} (hB : VB V) {x y s fog : Int} (hf : 0 ≤ fog ∧ fog ≤ 9) (k : Nat) : (∀ e, e ∈ evs V x y s fog k → evB s 0 1 e) ∧ evK (evs V x y s fog k) ≤ 3 := by
  have q := sh_go_B (sx := x) (sy := y) hB hf 99 x y (rgt k) (dwn k) s 0 1 (by omega) (by omega)
  exact ⟨q.1, by have := q.2; unfold evs; omega⟩
theorem shE_sz {V : VL} (hB : VB V) {x y s fog : Int} (hf : 0 ≤ fog ∧ fog ≤ 9) (k : Nat) : (shE V x y s fog k).1 ≤ 3 * k := by
  unfold shE
  refine it_ind (P := fun k (e : ES) => e.1 ≤ 3 * k) (Nat.le_refl 0) (fun j e hj => ?_) k
  show (List.foldl (evE (j : Int)) e (evs V x y s fog j)).1 ≤ _
  rw [evE_fold_sz]
  have := (evs_B hB (x := x) (y := y) (s := s) hf j).2
  omega
/-! frames: what a shout leaves as it was -/
def sC (M M' : am_M) : Prop := ∀ a b, a < 51 ∨ (a = 51 ∧ b = 6) → M' a b = M a b
def mS (a b : Nat) : Prop := (a = 0 ∧ (48 ≤ b ∧ b ≤ 53 ∨ b = 57 ∨ b = 58 ∨ b = 62)) ∨ (17 ≤ a ∧ a ≤ 20) ∨ (22 ≤ a ∧ a ≤ 24) ∨ a = 26 ∨ a = 27
def sM (M M' : am_M) : Prop := ∀ a b, ¬ mS a b → M' a b = M a b
theorem sC.rfl {M : am_M} : sC M M := fun _ _ _ => Eq.refl _
theorem sM.rfl {M : am_M} : sM M M := fun _ _ _ => Eq.refl _
theorem sC.trans {M M' M'' : am_M} (h1 : sC M M') (h2 : sC M' M'') : sC M M'' := fun a b h => (h2 a b h).trans (h1 a b h)
theorem sM.trans {M M' M'' : am_M} (h1 : sM M M') (h2 : sM M' M'') : sM M M'' := fun a b h => (h2 a b h).trans (h1 a b h)
theorem sC.up {M M' : am_M} (h : sC M M') {k j : Nat} {v : Int32} (hk : 51 ≤ k) (hj : k ≠ 51 ∨ j ≠ 6) : sC M (am_up M' k j v) := fun a b q => by
  rw [up_ne (by omega)]; exact h a b q
theorem sM.up {M M' : am_M} (h : sM M M') {k j : Nat} {v : Int32} (hk : mS k j) : sM M (am_up M' k j v) := fun a b q => by
  rw [up_ne]
  · exact h a b q
  · by_cases hka : a = k
    · right; intro hb; subst hka; subst hb; exact q hk
    · exact Or.inl hka
theorem EC.sC {V : VL} {M M' : am_M} (h : EC V M) (q : sC M M') : EC V M' := by
  unfold EC EnvC at *
  rw [q 2 0 (by omega), q 2 1 (by omega), q 13 2 (by omega)]
  refine ⟨h.1, h.2.1, h.2.2.1, fun c hc => ?_⟩
  rw [q 14 c (by omega), q 15 c (by omega)]
  exact h.2.2.2 c hc
theorem EM.sM {V : VL} {M M' : am_M} (h : EM V M) (q : sM M M') : EM V M' := by
  unfold EM EnvM at *
  rw [q 0 33 (by unfold mS; omega), q 0 34 (by unfold mS; omega), q 0 42 (by unfold mS; omega)]
  refine ⟨h.1, h.2.1, h.2.2.1, fun c hc => ?_⟩
  rw [q 10 c (by unfold mS; omega), q 11 c (by unfold mS; omega), q 21 c (by unfold mS; omega)]
  exact h.2.2.2 c hc
theorem foldC_off {way : Int} {a b : Nat} (h : a < 51 ∨ (a = 51 ∧ b ≠ 0) ∨ 56 < a) : ∀ (l : List (Int × Int × Int × Int)) (M : am_M), l.foldl (evC way) M a b = M a b := by
  intro l
  induction l with
  | nil => intro M; rfl
  | cons v l ih => intro M; rw [List.foldl_cons, ih, evC_off h]
theorem foldM_off {ns : Nat} {way : Int} {a b : Nat} (h : (a = 0 ∧ b ≠ 48 ∧ b ≠ 49) ∨ (0 < a ∧ a < 17) ∨ 20 < a) : ∀ (l : List (Int × Int × Int × Int)) (M : am_M), l.foldl (evM ns way) M a b = M a b := by
  intro l
  induction l with
  | nil => intro M; rfl
  | cons v l ih => intro M; rw [List.foldl_cons, ih, evM_off h]
theorem foldC_Er (way : Int) : ∀ (l : List (Int × Int × Int × Int)) (e : ES) (M : am_M), e.1 + evK l < 1000 → ErC e M → ErC (l.foldl (evE way) e) (l.foldl (evC way) M) := by
  intro l
  induction l with
  | nil => intro e M _ h; exact h
  | cons v l ih =>
    intro e M hl h
    rw [List.foldl_cons, List.foldl_cons]
    have hk : evK (v :: l) = evK l + (if v.2.2.2 = 0 then 0 else 1) := by
      obtain ⟨a, b, c, d⟩ := v
      show _ = _ + (if d = 0 then 0 else 1)
      by_cases hd : d = 0
      · subst hd; rw [evK_0, if_pos rfl, Nat.add_zero]
      · rw [evK_1 hd, if_neg hd]
    refine ih _ _ ?_ (h.ev (by omega) way v)
    rw [evE_sz]
    omega
theorem foldM_Er (ns : Nat) (way : Int) : ∀ (l : List (Int × Int × Int × Int)) (e : ES) (M : am_M), e.1 + evK l < 1000 → ErM e M → ErM (l.foldl (evE way) e) (l.foldl (evM ns way) M) := by
  intro l
  induction l with
  | nil => intro e M _ h; exact h
  | cons v l ih =>
    intro e M hl h
    rw [List.foldl_cons, List.foldl_cons]
    have hk : evK (v :: l) = evK l + (if v.2.2.2 = 0 then 0 else 1) := by
      obtain ⟨a, b, c, d⟩ := v
      show _ = _ + (if d = 0 then 0 else 1)
      by_cases hd : d = 0
      · subst hd; rw [evK_0, if_pos rfl, Nat.add_zero]
      · rw [evK_1 hd, if_neg hd]
    refine ih _ _ ?_ (h.ev (by omega) ns way v)
    rw [evE_sz]
    omega
/-- the class's memory behind the first k ways of a shout -/
def shC (V : VL) (x y s fog : Int) (M : am_M) (k : Nat) : am_M := it (fun j M => (evs V x y s fog j).foldl (evC (j : Int)) M) (am_up M 51 0 0) k
def shM (ns : Nat) (V : VL) (x y s fog : Int) (M : am_M) (k : Nat) : am_M := it (fun j M => (evs V x y s fog j).foldl (evM ns (j : Int)) M) (mFall ns (am_up (am_up M 0 48 0) 0 49 0) (10 * y + x) s) k
theorem shC_off {V : VL} {x y s fog : Int} {M : am_M} {k a b : Nat} (h : a < 51 ∨ (a = 51 ∧ b ≠ 0) ∨ 56 < a) : shC V x y s fog M k a b = M a b := by
  unfold shC
  refine it_ind (P := fun _ (N : am_M) => N a b = M a b) (up_ne (by omega)) (fun j N hj => ?_) k
  show List.foldl (evC (j : Int)) N (evs V x y s fog j) a b = _
  rw [foldC_off h]
  exact hj
theorem shM_off {ns : Nat} {V : VL} {x y s fog : Int} {M : am_M} {k a b : Nat} (h : (a = 0 ∧ b ≠ 48 ∧ b ≠ 49) ∨ (0 < a ∧ a < 17) ∨ 20 < a) : shM ns V x y s fog M k a b = M a b := by
  unfold shM
  refine it_ind (P := fun _ (N : am_M) => N a b = M a b) ?_ (fun j N hj => ?_) k
  · rw [mFall_off (by omega), up_ne (by omega), up_ne (by omega)]
  · show List.foldl (evM ns (j : Int)) N (evs V x y s fog j) a b = _
    rw [foldM_off h]
    exact hj
theorem shC_s {V : VL} {x y s fog : Int} {M : am_M} {k : Nat} : sC M (shC V x y s fog M k) := fun a b q => shC_off (by omega)
theorem shM_s {ns : Nat} {V : VL} {x y s fog : Int} {M : am_M} {k : Nat} : sM M (shM ns V x y s fog M k) := fun a b q => shM_off (by unfold mS at q; omega)
theorem shC_Er {V : VL} (hB : VB V) {x y s fog : Int} (hf : 0 ≤ fog ∧ fog ≤ 9) (M : am_M) : ∀ k, k ≤ 8 → ErC (shE V x y s fog k) (shC V x y s fog M k) := by
  intro k
  induction k with
  | zero => intro _; exact ⟨(up_eq M 51 0 0 : am_up M 51 0 0 51 0 = 0), fun i j hi hj => absurd hj (Nat.not_lt_zero j)⟩
  | succ k ih =>
    intro hk
    refine foldC_Er _ _ _ _ ?_ (ih (by omega))
    have h1 := shE_sz hB (x := x) (y := y) (s := s) hf k
    have h2 := (evs_B hB (x := x) (y := y) (s := s) hf k).2
    have h3 : (it (fun j e => (evs V x y s fog j).foldl (evE (j : Int)) e) esN k : ES).1 = (shE V x y s fog k).1 := rfl
    rw [h3]
    omega
theorem shM_Er {ns : Nat} {V : VL} (hB : VB V) {x y s fog : Int} (hf : 0 ≤ fog ∧ fog ≤ 9) (M : am_M) : ∀ k, k ≤ 8 → ErM (shE V x y s fog k) (shM ns V x y s fog M k) := by
  intro k
  induction k with
  | zero =>
    intro _
    refine ⟨?_, fun i j hi hj => absurd hj (Nat.not_lt_zero j)⟩
    show mFall ns (am_up (am_up M 0 48 0) 0 49 0) (10 * y + x) s 0 48 = 0
    rw [mFall_off (by omega), up_ne (by omega), up_eq]
  | succ k ih =>
    intro hk
    refine foldM_Er _ _ _ _ _ ?_ (ih (by omega))
    have h1 := shE_sz hB (x := x) (y := y) (s := s) hf k
    have h2 := (evs_B hB (x := x) (y := y) (s := s) hf k).2
    have h3 : (it (fun j e => (evs V x y s fog j).foldl (evE (j : Int)) e) esN k : ES).1 = (shE V x y s fog k).1 := rfl
    rw [h3]
    omega
theorem am_right_k : ∀ k : Nat, k < 8 → am_right.getD k 0 = i32 (rgt k) ∧ am_down.getD k 0 = i32 (dwn k) := by
  intro k hk
  match k, hk with
  | 0, _ => exact ⟨rfl, rfl⟩
  | 1, _ => exact ⟨rfl, rfl⟩
  | 2, _ => exact ⟨rfl, rfl⟩
  | 3, _ => exact ⟨rfl, rfl⟩
  | 4, _ => exact ⟨rfl, rfl⟩
  | 5, _ => exact ⟨rfl, rfl⟩
  | 6, _ => exact ⟨rfl, rfl⟩
  | 7, _ => exact ⟨rfl, rfl⟩
theorem m_across {N : Nat} {M : am_M} : ∀ k : Nat, k < 8 → f_X10_across N (i32 (k : Int)) M = some (.ok (some (.int (i32 (rgt k)))), M) ∧ f_X10_down N (i32 (k : Int)) M = some (.ok (some (.int (i32 (dwn k)))), M) := by
  intro k hk
  match k, hk with
  | 0, _ => exact ⟨rfl, rfl⟩
  | 1, _ => exact ⟨rfl, rfl⟩
  | 2, _ => exact ⟨rfl, rfl⟩
  | 3, _ => exact ⟨rfl, rfl⟩
  | 4, _ => exact ⟨rfl, rfl⟩
  | 5, _ => exact ⟨rfl, rfl⟩
  | 6, _ => exact ⟨rfl, rfl⟩
  | 7, _ => exact ⟨rfl, rfl⟩
section SHO
variable {N : Nat} {V : VL} {x y s fog : Int} {M : am_M}
theorem c_follow (hN : 100 ≤ N) (hB : VB V) (hE : EC V M) (hf : 0 ≤ fog ∧ fog ≤ 9) (hx : 0 ≤ x ∧ x < V 0 0) (hy : 0 ≤ y ∧ y < V 0 1) (hs : 1 ≤ s ∧ s ≤ 99) {k : Nat} (hk : k < 8) {z : Nat} (hz : M 51 0 = i32 (z : Int)) (hz9 : z ≤ 21) :
    f_X6_follow N (i32 x) (i32 y) (i32 (k : Int)) (i32 s) (i32 fog) M = some (.ok none, (evs V x y s fog k).foldl (evC (k : Int)) M) := by
  have hw := hB.1
  have hh := hB.2.1
  unfold f_X6_follow
  have ek : (i32 (k : Int)).toNatClampNeg = k := by rw [i32_cl (by omega) (by omega)]; omega
  rw [if_pos (i32_in (by omega) (by omega) (by omega)), ek, (am_right_k k hk).1, (am_right_k k hk).2]
  exact c_go hN hB hf (by omega) (by omega) 99 x y (rgt k) (dwn k) s 0 1 N M (by omega) hE (by omega) (by omega) hx hy (rgt_B k) (dwn_B k) hs (by omega) ⟨z, hz, by omega⟩
theorem m_goes (hN : 102 ≤ N) {ns : Nat} (hns : ns ≤ 8) (hB : VB V) (hE : EM V M) (hM : M 0 35 = i32 (ns : Int)) (hf : 0 ≤ fog ∧ fog ≤ 9) (hx : 0 ≤ x ∧ x < V 0 0) (hy : 0 ≤ y ∧ y < V 0 1) (hs : 1 ≤ s ∧ s ≤ 99) {k : Nat} (hk : k < 8) {z : Nat} (hz : M 0 48 = i32 (z : Int)) (hz9 : z ≤ 21) :
    f_X10_goes N (i32 (10 * y + x)) (i32 (k : Int)) (i32 fog) (i32 s) M = some (.ok none, (evs V x y s fog k).foldl (evM ns (k : Int)) M) := by
  have hw := hB.1
  have hh := hB.2.1
  unfold f_X10_goes
  rw [(m_across k hk).1]
  show am_bi (f_X10_down N _ M) _ = _
  rw [(m_across k hk).2]
  show f_X10_goes_34 N _ _ _ N _ _ _ _ _ 0 0 M = _
  have e1 : i32 (10 * y + x) / 10 = i32 y := by
    rw [i32_10, i32_div (by omega) (by omega) (by omega) (by omega)]; congr 1; omega
  have e2 : i32 (10 * y + x) - i32 y * 10 = i32 x := by
    rw [i32_10, i32_mul, i32_sub]; congr 1; omega
  rw [e1, e2]
  exact m_go (by omega) hns hB hf (by omega) (by omega) 99 x y (rgt k) (dwn k) s 0 1 N M (by omega) hE hM (by omega) (by omega) (by omega) hx hy (rgt_B k) (dwn_B k) hs (by omega) ⟨z, hz, by omega⟩
theorem c_shout_lp (hN : 100 ≤ N) (hB : VB V) (hE : EC V M) (hf : 0 ≤ fog ∧ fog ≤ 9) (hx : 0 ≤ x ∧ x < V 0 0) (hy : 0 ≤ y ∧ y < V 0 1) (hs : 1 ≤ s ∧ s ≤ 99) :
    ∀ (d k n : Nat), k + d = 8 → d < n → f_X6_shout_8 N (i32 x) (i32 y) (i32 s) (i32 fog) n (i32 (k : Int)) (shC V x y s fog M k) = some (.ok none, shC V x y s fog M 8) := by
  intro d
  induction d with
  | zero =>
    intro k n hk hn
    obtain ⟨n, rfl⟩ : ∃ j, n = j + 1 := ⟨n - 1, by omega⟩
    show f_X6_shout_8B N _ _ _ _ _ _ _ = _
    unfold f_X6_shout_8B
    rw [if_pos ((i32_8le (by omega) (by omega)).mpr (by omega))]
    have : k = 8 := by omega
    rw [this]
  | succ d ih =>
    intro k n hk hn
    obtain ⟨n, rfl⟩ : ∃ j, n = j + 1 := ⟨n - 1, by omega⟩
    show f_X6_shout_8B N _ _ _ _ _ _ _ = _
    unfold f_X6_shout_8B
    have h1 := shE_sz hB (x := x) (y := y) (s := s) hf k
    have h2 := (shC_Er hB (x := x) (y := y) (s := s) hf M k (by omega)).1
    rw [if_neg (fun q => absurd ((i32_8le (by omega) (by omega)).mp q) (by omega)), c_follow hN hB (hE.sC shC_s) hf hx hy hs (by omega) h2 (by omega)]
    have e4 : i32 (k : Int) + 1 = i32 ((k + 1 : Nat) : Int) := by rw [i32_1, i32_add]; congr 1
    rw [e4]
    exact ih (k + 1) n (by omega) (by omega)
theorem c_shout (hN : 100 ≤ N) (hB : VB V) (hE : EC V M) (hf : 0 ≤ fog ∧ fog ≤ 9) (hx : 0 ≤ x ∧ x < V 0 0) (hy : 0 ≤ y ∧ y < V 0 1) (hs : 1 ≤ s ∧ s ≤ 99) : f_X6_shout N (i32 x) (i32 y) (i32 s) (i32 fog) M = some (.ok none, shC V x y s fog M 8) :=
  c_shout_lp hN hB hE hf hx hy hs 8 0 N (by omega) (by omega)
theorem m_shouts_lp (hN : 102 ≤ N) {ns : Nat} (hns : ns ≤ 8) (hB : VB V) (hE : EM V M) (hM : M 0 35 = i32 (ns : Int)) (hf : 0 ≤ fog ∧ fog ≤ 9) (hx : 0 ≤ x ∧ x < V 0 0) (hy : 0 ≤ y ∧ y < V 0 1) (hs : 1 ≤ s ∧ s ≤ 99) :
    ∀ (d k n : Nat), k + d = 8 → d < n → f_X10_shouts_19 N (i32 (10 * y + x)) (i32 fog) (i32 s) n (i32 (k : Int)) (shM ns V x y s fog M k) = some (.ok none, shM ns V x y s fog M 8) := by
  intro d
  induction d with
  | zero =>
    intro k n hk hn
    obtain ⟨n, rfl⟩ : ∃ j, n = j + 1 := ⟨n - 1, by omega⟩
    show f_X10_shouts_19B N _ _ _ _ _ _ = _
    unfold f_X10_shouts_19B
    rw [if_pos ((i32_8le (by omega) (by omega)).mpr (by omega))]
    have : k = 8 := by omega
    rw [this]
  | succ d ih =>
    intro k n hk hn
    obtain ⟨n, rfl⟩ : ∃ j, n = j + 1 := ⟨n - 1, by omega⟩
    show f_X10_shouts_19B N _ _ _ _ _ _ = _
    unfold f_X10_shouts_19B
    have h1 := shE_sz hB (x := x) (y := y) (s := s) hf k
    have h2 := (shM_Er (ns := ns) hB (x := x) (y := y) (s := s) hf M k (by omega)).1
    rw [if_neg (fun q => absurd ((i32_8le (by omega) (by omega)).mp q) (by omega)), m_goes hN hns hB (hE.sM shM_s) (by rw [shM_off (by omega)]; exact hM) hf hx hy hs (by omega) h2 (by omega)]
    have e4 : i32 (k : Int) + 1 = i32 ((k + 1 : Nat) : Int) := by rw [i32_1, i32_add]; congr 1
    rw [e4]
    exact ih (k + 1) n (by omega) (by omega)
theorem m_shouts (hN : 102 ≤ N) {ns : Nat} (hns : ns ≤ 8) (hB : VB V) (hE : EM V M) (hM : M 0 35 = i32 (ns : Int)) (hf : 0 ≤ fog ∧ fog ≤ 9) (hx : 0 ≤ x ∧ x < V 0 0) (hy : 0 ≤ y ∧ y < V 0 1) (hs : 1 ≤ s ∧ s ≤ 99) : f_X10_shouts N (i32 (10 * y + x)) (i32 fog) (i32 s) M = some (.ok none, shM ns V x y s fog M 8) := by
  unfold f_X10_shouts
  rw [m_falls (by omega) hns (by rw [up_ne (by omega), up_ne (by omega)]; exact hM)]
  exact m_shouts_lp hN hns hB hE hM hf hx hy hs 8 0 N (by omega) (by omega)
end SHO
