/-! the greatest strength that comes to each cell; the snow that falls -/
def pkS (P : Nat → Int) (e : Int × Int × Int × Int) (c : Nat) : Int := if c = e.1.toNat ∧ P c < e.2.1 then e.2.1 else P c
def pk0 (x y s : Int) (c : Nat) : Int := if c = (10 * y + x).toNat then s else 0
def pkA (V : VL) (x y s : Int) (k : Nat) : Nat → Int := it (fun j P => (evs V x y s 0 j).foldl pkS P) (pk0 x y s) k
theorem pkS_le {P : Nat → Int} {e : Int × Int × Int × Int} {c : Nat} {g : Int} : g ≤ pkS P e c ↔ g ≤ P c ∨ (c = e.1.toNat ∧ g ≤ e.2.1) := by
  unfold pkS
  by_cases h : c = e.1.toNat ∧ P c < e.2.1
  · rw [if_pos h]
    have h1 := h.1
    omega
  · rw [if_neg h]
    by_cases h1 : c = e.1.toNat
    · omega
    · constructor
      · intro q; exact Or.inl q
      · rintro (q | q)
        · exact q
        · exact absurd q.1 h1
theorem pkS_fold {c : Nat} {g : Int} : ∀ (l : List (Int × Int × Int × Int)) (P : Nat → Int), g ≤ l.foldl pkS P c ↔ g ≤ P c ∨ ∃ e, e ∈ l ∧ c = e.1.toNat ∧ g ≤ e.2.1 := by
  intro l
  induction l with
  | nil => intro P; exact ⟨fun h => Or.inl h, fun h => h.elim id (fun ⟨e, he, _⟩ => (nomatch he))⟩
  | cons v l ih =>
    intro P
    rw [List.foldl_cons, ih, pkS_le]
    constructor
    · rintro ((q | q) | ⟨e, he, q⟩)
      · exact Or.inl q
      · exact Or.inr ⟨v, List.mem_cons_self, q⟩
      · exact Or.inr ⟨e, List.mem_cons_of_mem _ he, q⟩
    · rintro (q | ⟨e, he, q⟩)
      · exact Or.inl (Or.inl q)
      · rcases List.mem_cons.mp he with he | he
        · subst he; exact Or.inl (Or.inr q)
        · exact Or.inr ⟨e, he, q⟩
theorem pkA_le {V : VL} {x y s : Int} {c : Nat} {g : Int} : ∀ k, g ≤ pkA V x y s k c ↔ g ≤ pk0 x y s c ∨ ∃ j, j < k ∧ ∃ e, e ∈ evs V x y s 0 j ∧ c = e.1.toNat ∧ g ≤ e.2.1 := by
  intro k
  induction k with
  | zero => exact ⟨fun h => Or.inl h, fun h => h.elim id (fun ⟨j, hj, _⟩ => absurd hj (Nat.not_lt_zero j))⟩
  | succ k ih =>
    show g ≤ (evs V x y s 0 k).foldl pkS (pkA V x y s k) c ↔ _
    rw [pkS_fold, ih]
    constructor
    · rintro ((q | ⟨j, hj, q⟩) | q)
      · exact Or.inl q
      · exact Or.inr ⟨j, by omega, q⟩
      · exact Or.inr ⟨k, by omega, q⟩
    · rintro (q | ⟨j, hj, q⟩)
      · exact Or.inl (Or.inl q)
      · by_cases h : j = k
        · subst h; exact Or.inr q
        · exact Or.inl (Or.inr ⟨j, by omega, q⟩)
theorem pkA_B {V : VL} (hB : VB V) {x y s : Int} (hs : 0 ≤ s ∧ s ≤ 99) (c : Nat) (k : Nat) : 0 ≤ pkA V x y s k c ∧ pkA V x y s k c ≤ 99 := by
  constructor
  · rw [pkA_le]
    left
    unfold pk0
    split <;> omega
  · have : ¬ 100 ≤ pkA V x y s k c := by
      rw [pkA_le]
      rintro (q | ⟨j, hj, e, he, q⟩)
      · unfold pk0 at q
        split at q <;> omega
      · have := (evs_B hB (x := x) (y := y) (s := s) (fog := 0) (by omega) j).1 e he
        unfold evB at this
        omega
    omega
/-- a weaker shout goes the same way, weaker by as much -/
theorem sh_go_lt {w h yr fog sx sy : Int} {hd wd : Nat → Int} (hB : EnvB w h yr hd wd) (hf : 0 ≤ fog ∧ fog ≤ 9) {n : Nat} {x y dx dy s num t : Int} (ht : (n : Int) + t = 100) (hn : 0 ≤ num ∧ num < 3) {e : Int × Int × Int × Int} (he : e ∈ sh_go w h hd wd yr fog sx sy n x y dx dy s num t) : e.2.1 < s := by
  have := (sh_go_B (sx := sx) (sy := sy) hB hf n x y dx dy s num t ht hn).1 e he
  unfold evB at this
  omega
theorem sh_go_sh {w h yr fog sx sy : Int} {hd wd : Nat → Int} (hB : EnvB w h yr hd wd) (hf : 0 ≤ fog ∧ fog ≤ 9) {D g : Int} (hD : 0 ≤ D) (hg : 1 ≤ g) {C : Int → Prop} :
    ∀ (n : Nat) (x y dx dy s num t : Int), (n : Int) + t = 100 → (0 ≤ num ∧ num < 3) →
      ((∃ e, e ∈ sh_go w h hd wd yr fog sx sy n x y dx dy (s - D) num t ∧ C e.1 ∧ g ≤ e.2.1) ↔ (∃ e, e ∈ sh_go w h hd wd yr fog sx sy n x y dx dy s num t ∧ C e.1 ∧ g + D ≤ e.2.1)) := by
  intro n
  induction n with
  | zero => intro x y dx dy s num t ht hnum; exact ⟨fun ⟨e, he, _⟩ => (nomatch he), fun ⟨e, he, _⟩ => (nomatch he)⟩
  | succ n ih =>
    intro x y dx dy s num t ht hnum
    rw [sh_go, sh_go]
    generalize hX : x + dx = X
    generalize hY : y + dy = Y
    by_cases hout : X < 0 ∨ Y < 0 ∨ w ≤ X ∨ h ≤ Y
    · rw [if_pos hout, if_pos hout]
      exact ⟨fun ⟨e, he, _⟩ => (nomatch he), fun ⟨e, he, _⟩ => (nomatch he)⟩
    rw [if_neg hout, if_neg hout]
    have hw := hB.1
    have hh := hB.2.1
    generalize hc : 10 * Y + X = c
    have hb := hB.2.2.2 c.toNat (by omega)
    generalize hW : (if 0 < wd c.toNat then wd c.toNat + yr else 0) = W
    rw [show s - D - (1 + fog) - W = (s - (1 + fog) - W) - D from by omega]
    generalize hu : s - (1 + fog) - W = u
    by_cases h1 : u < 1
    · rw [if_pos h1, if_pos (by omega : u - D < 1)]
      exact ⟨fun ⟨e, he, _⟩ => (nomatch he), fun ⟨e, he, _⟩ => (nomatch he)⟩
    rw [if_neg h1]
    by_cases h2 : u - D < 1
    · rw [if_pos h2]
      refine ⟨fun ⟨e, he, _⟩ => (nomatch he), fun ⟨e, he, _, q⟩ => ?_⟩
      exfalso
      have hle : e.2.1 ≤ u := by
        by_cases h7 : X = sx ∧ Y = sy
        · rw [if_pos h7] at he
          rcases List.mem_cons.mp he with he | he
          · subst he; exact Int.le_refl _
          · by_cases h8 : num + 1 = 3
            · rw [if_pos h8] at he; nomatch he
            · rw [if_neg h8] at he
              have := sh_go_lt hB hf (by omega) (by omega) he
              omega
        · rw [if_neg h7] at he
          rcases List.mem_cons.mp he with he | he
          · subst he; exact Int.le_refl _
          · by_cases h9 : 0 < hd c.toNat
            · rw [if_pos h9] at he
              by_cases h10 : u - (10 - hd c.toNat) < 1
              · rw [if_pos h10] at he; nomatch he
              · rw [if_neg h10] at he
                have := sh_go_lt hB hf (by omega) hnum he
                omega
            · rw [if_neg h9] at he
              have := sh_go_lt hB hf (by omega) hnum he
              omega
      omega
    rw [if_neg h2]
    have cons : ∀ (k1 k2 : Int) (l1 l2 : List (Int × Int × Int × Int)), ((∃ e, e ∈ l1 ∧ C e.1 ∧ g ≤ e.2.1) ↔ (∃ e, e ∈ l2 ∧ C e.1 ∧ g + D ≤ e.2.1)) → ((∃ e, e ∈ (c, u - D, t, k1) :: l1 ∧ C e.1 ∧ g ≤ e.2.1) ↔ (∃ e, e ∈ (c, u, t, k2) :: l2 ∧ C e.1 ∧ g + D ≤ e.2.1)) := by
      intro k1 k2 l1 l2 hl
      constructor
      · rintro ⟨e, he, hC, q⟩
        rcases List.mem_cons.mp he with he | he
        · subst he
          exact ⟨_, List.mem_cons_self, hC, by show g + D ≤ u; have : g ≤ u - D := q; omega⟩
        · obtain ⟨e, he, q⟩ := hl.mp ⟨e, he, hC, q⟩
          exact ⟨e, List.mem_cons_of_mem _ he, q⟩
      · rintro ⟨e, he, hC, q⟩
        rcases List.mem_cons.mp he with he | he
        · subst he
          exact ⟨_, List.mem_cons_self, hC, by show g ≤ u - D; have : g + D ≤ u := q; omega⟩
        · obtain ⟨e, he, q⟩ := hl.mpr ⟨e, he, hC, q⟩
          exact ⟨e, List.mem_cons_of_mem _ he, q⟩
    by_cases h7 : X = sx ∧ Y = sy
    · rw [if_pos h7, if_pos h7]
      refine cons _ _ _ _ ?_
      by_cases h8 : num + 1 = 3
      · rw [if_pos h8, if_pos h8]
        exact ⟨fun ⟨e, he, _⟩ => (nomatch he), fun ⟨e, he, _⟩ => (nomatch he)⟩
      · rw [if_neg h8, if_neg h8]
        exact ih X Y dx dy u (num + 1) (t + 1) (by omega) (by omega)
    · rw [if_neg h7, if_neg h7]
      refine cons _ _ _ _ ?_
      by_cases h9 : 0 < hd c.toNat
      · rw [if_pos h9, if_pos h9, show u - D - (10 - hd c.toNat) = u - (10 - hd c.toNat) - D from by omega]
        by_cases h10 : u - (10 - hd c.toNat) < 1
        · rw [if_pos h10, if_pos (by omega)]
          exact ⟨fun ⟨e, he, _⟩ => (nomatch he), fun ⟨e, he, _⟩ => (nomatch he)⟩
        · rw [if_neg h10]
          by_cases h11 : u - (10 - hd c.toNat) - D < 1
          · rw [if_pos h11]
            refine ⟨fun ⟨e, he, _⟩ => (nomatch he), fun ⟨e, he, _, q⟩ => ?_⟩
            have := sh_go_lt hB hf (by omega) hnum he
            omega
          · rw [if_neg h11]
            exact ih X Y (-dx) (-dy) _ num (t + 1) (by omega) hnum
      · rw [if_neg h9, if_neg h9]
        exact ih X Y dx dy u num (t + 1) (by omega) hnum
theorem pkA_sh {V : VL} (hB : VB V) {x y s : Int} (hs : 0 ≤ s ∧ s ≤ 99) {c : Nat} {g : Int} (hg : 1 ≤ g) {k : Nat} : g ≤ pkA V x y s k c ↔ g + (99 - s) ≤ pkA V x y 99 k c := by
  rw [pkA_le, pkA_le]
  have h0 : g ≤ pk0 x y s c ↔ g + (99 - s) ≤ pk0 x y 99 c := by
    unfold pk0
    split <;> omega
  have hj : ∀ j, (∃ e, e ∈ evs V x y s 0 j ∧ c = e.1.toNat ∧ g ≤ e.2.1) ↔ ∃ e, e ∈ evs V x y 99 0 j ∧ c = e.1.toNat ∧ g + (99 - s) ≤ e.2.1 := fun j => by
    have := sh_go_sh (sx := x) (sy := y) hB (fog := 0) (by omega) (D := 99 - s) (g := g) (by omega) hg (C := fun z => c = z.toNat) 99 x y (rgt j) (dwn j) 99 0 1 (by omega) (by omega)
    rw [show (99 : Int) - (99 - s) = s from by omega] at this
    exact this
  constructor
  · rintro (q | ⟨j, h1, q⟩)
    · exact Or.inl (h0.mp q)
    · exact Or.inr ⟨j, h1, (hj j).mp q⟩
  · rintro (q | ⟨j, h1, q⟩)
    · exact Or.inl (h0.mpr q)
    · exact Or.inr ⟨j, h1, (hj j).mpr q⟩
/-! bits -/
def bit (k : Nat) : Int32 := 1 <<< (i32 (k : Int) &&& 31)
def orB (A : Nat → Bool) (b : Int32) (n : Nat) : Int32 := it (fun k b => if A k then b ||| bit k else b) b n
theorem orB_acc {A : Nat → Bool} {b : Int32} : ∀ n, orB A b n = b ||| orB A 0 n := by
  intro n
  induction n with
  | zero => exact Int32.or_zero.symm
  | succ n ih =>
    show (if A n then orB A b n ||| bit n else orB A b n) = b ||| (if A n then orB A 0 n ||| bit n else orB A 0 n)
    cases A n with
    | true => rw [if_pos rfl, if_pos rfl, ih, Int32.or_assoc]
    | false => rw [if_neg (by decide), if_neg (by decide), ih]
theorem orB_or {A B C : Nat → Bool} : ∀ n, (∀ k, k < n → C k = (A k || B k)) → orB A 0 n ||| orB B 0 n = orB C 0 n := by
  intro n
  induction n with
  | zero => intro _; exact Int32.or_zero
  | succ n ih =>
    intro h
    have hn := h n (by omega)
    have q := ih (fun k hk => h k (by omega))
    show (if A n then orB A 0 n ||| bit n else orB A 0 n) ||| (if B n then orB B 0 n ||| bit n else orB B 0 n) = (if C n then orB C 0 n ||| bit n else orB C 0 n)
    rw [hn, ← q]
    cases A n with
    | true =>
      cases B n with
      | true =>
        simp only [Bool.or_true, if_true]
        rw [Int32.or_assoc, ← Int32.or_assoc (bit n), Int32.or_comm (bit n) (orB B 0 n), Int32.or_assoc (orB B 0 n), Int32.or_self, Int32.or_assoc]
      | false =>
        simp only [Bool.or_false, if_true]
        rw [if_neg (by decide), Int32.or_assoc, Int32.or_comm (bit n) (orB B 0 n), Int32.or_assoc]
    | false =>
      cases B n with
      | true =>
        simp only [Bool.or_true, if_true]
        rw [if_neg (by decide), Int32.or_assoc]
      | false =>
        simp only [Bool.or_false]
        rw [if_neg (by decide), if_neg (by decide), if_neg (by decide)]
theorem orB_congr {A B : Nat → Bool} {b : Int32} {n : Nat} (h : ∀ k, k < n → A k = B k) : orB A b n = orB B b n := it_congr (fun j hj x => by rw [h j hj])
theorem i32_or0 {a b : Int32} : a ||| b = 0 ↔ a = 0 ∧ b = 0 := by
  constructor
  · intro h
    have h2 : (a ||| b).toBitVec = 0#32 := by rw [h]; rfl
    rw [Int32.toBitVec_or, BitVec.or_eq_zero_iff] at h2
    exact ⟨Int32.toBitVec_inj.mp h2.1, Int32.toBitVec_inj.mp h2.2⟩
  · rintro ⟨rfl, rfl⟩; rfl
theorem bit_ne {k : Nat} (h : k < 8) : bit k ≠ 0 := by
  match k, h with
  | 0, _ => decide
  | 1, _ => decide
  | 2, _ => decide
  | 3, _ => decide
  | 4, _ => decide
  | 5, _ => decide
  | 6, _ => decide
  | 7, _ => decide
theorem orB_0 {A : Nat → Bool} : ∀ n, n ≤ 8 → (orB A 0 n = 0 ↔ ∀ k, k < n → A k = false) := by
  intro n
  induction n with
  | zero => intro _; exact ⟨fun _ k hk => absurd hk (Nat.not_lt_zero k), fun _ => rfl⟩
  | succ n ih =>
    intro hn
    show (if A n then orB A 0 n ||| bit n else orB A 0 n) = 0 ↔ _
    cases hA : A n with
    | true =>
      rw [if_pos rfl, i32_or0]
      exact ⟨fun h => absurd h.2 (bit_ne (by omega)), fun h => absurd (h n (by omega)) (by rw [hA]; decide)⟩
    | false =>
      rw [if_neg (by decide), ih (by omega)]
      exact ⟨fun h k hk => by by_cases q : k = n; rw [q]; exact hA; exact h k (by omega), fun h k hk => h k (by omega)⟩
theorem it_shift {α : Type} {f : Nat → α → α} {a : α} : ∀ n, it f a (n + 1) = it (fun k => f (k + 1)) (f 0 a) n := by
  intro n
  induction n with
  | zero => rfl
  | succ n ih =>
    show f (n + 1) (it f a (n + 1)) = f (n + 1) (it (fun k => f (k + 1)) (f 0 a) n)
    rw [ih]
/-- the reference's falls, as bits -/
theorem fbR_orB {S : Nat → Int32} {c s : Int32} : ∀ (d j : Nat) (b : Int32), fbR S c s d j b = it (fun k b => if S (2 * (j + k)) = c ∧ ¬ s < S (2 * (j + k) + 1) then b ||| bit (j + k) else b) b d := by
  intro d
  induction d with
  | zero => intro j b; rfl
  | succ d ih =>
    intro j b
    rw [fbR, it_shift, ih]
    refine it_congr (fun k hk x => ?_)
    rw [show j + 1 + k = j + (k + 1) from by omega]
/-- what snow falls -/
def sCell (V : VL) (k : Nat) : Int := 10 * V 4 (3 * k + 1) + V 4 (3 * k)
def fallV (V : VL) (P : Nat → Int) : Int32 := orB (fun k => decide (V 4 (3 * k + 2) ≤ P (sCell V k).toNat)) 0 (V 0 8).toNat
