/-! A NEW ECHO: its place, and the rows behind it -/
def ep (T : Nat → Int32) (t : Int32) : Nat → Nat
  | 0 => 0
  | k + 1 => if T k ≤ t then k + 1 else ep T t k
theorem ep_le (T : Nat → Int32) (t : Int32) : ∀ k, ep T t k ≤ k := by
  intro k
  induction k with
  | zero => exact Nat.le_refl 0
  | succ k ih =>
    unfold ep
    split
    · exact Nat.le_refl _
    · omega
theorem ep_congr {T U : Nat → Int32} {t : Int32} : ∀ {k : Nat}, (∀ j, j < k → T j = U j) → ep T t k = ep U t k := by
  intro k
  induction k with
  | zero => intro _; rfl
  | succ k ih =>
    intro h
    unfold ep
    rw [h k (by omega), ih (fun j hj => h j (by omega))]
/-- a row of n places with x put in at p -/
def ei (T : Nat → Int32) (p n : Nat) (x : Int32) : Nat → Int32 := fun j => if j < p then T j else if j = p then x else if j ≤ n then T (j - 1) else T j
theorem ei_sf {T : Nat → Int32} {p n b : Nat} (hp : p ≤ n) (x : Int32) : (if b = p then x else if p < b ∧ b ≤ n then T (b - 1) else T b) = ei T p n x b := by
  unfold ei
  by_cases h1 : b < p
  · rw [if_pos h1, if_neg (by omega), if_neg (by omega)]
  · rw [if_neg h1]
    by_cases h2 : b = p
    · rw [if_pos h2, if_pos h2]
    · rw [if_neg h2, if_neg h2]
      by_cases h3 : b ≤ n
      · rw [if_pos h3, if_pos (by omega)]
      · rw [if_neg h3, if_neg (by omega)]
/-- the place of a new echo among k of them -/

def c_sf (M : am_M) (p k : Nat) : am_M := fun a b => if (a = 52 ∨ a = 53 ∨ a = 54 ∨ a = 55) ∧ p < b ∧ b ≤ k then M a (b - 1) else M a b
theorem c_loop (N : Nat) (t s w q : Int32) : ∀ (k n : Nat) (M : am_M), k < n → k < 24 → f_X6_addEcho_16 N t s w q n (i32 (k : Int)) M = f_X6_addEcho_104 N t s w q (i32 ((ep (M 52) t k : Nat) : Int)) (c_sf M (ep (M 52) t k) k) := by
  intro k
  induction k with
  | zero =>
    intro n M hn hk
    obtain ⟨n, rfl⟩ : ∃ m, n = m + 1 := ⟨n - 1, by omega⟩
    show f_X6_addEcho_16B N t s w q _ _ M = _
    unfold f_X6_addEcho_16B
    rw [i32_0, if_pos ((i32_le (by omega) (by omega) (by omega) (by omega)).mpr (by omega))]
    have e0 : ep (M 52) t 0 = 0 := rfl
    rw [e0]
    congr 1
    funext a b
    unfold c_sf
    rw [if_neg (by omega)]
  | succ k ih =>
    intro n M hn hk
    obtain ⟨n, rfl⟩ : ∃ m, n = m + 1 := ⟨n - 1, by omega⟩
    show f_X6_addEcho_16B N t s w q _ _ M = _
    unfold f_X6_addEcho_16B
    have e1 : i32 ((k + 1 : Nat) : Int) - 1 = i32 (k : Int) := by
      rw [i32_1, i32_sub]; congr 1; omega
    have e2 : (i32 (k : Int)).toNatClampNeg = k := by rw [i32_cl (by omega) (by omega)]; omega
    have e3 : (i32 ((k + 1 : Nat) : Int)).toNatClampNeg = k + 1 := by rw [i32_cl (by omega) (by omega)]; omega
    rw [i32_0, if_neg (fun h => absurd ((i32_le (by omega) (by omega) (by omega) (by omega)).mp h) (by omega)), e1, if_pos (i32_in (by omega) (by omega) (by omega)), e2]
    by_cases hc : M 52 k ≤ t
    · rw [if_pos hc]
      have ee : ep (M 52) t (k + 1) = k + 1 := by unfold ep; rw [if_pos hc]
      rw [ee]
      congr 1
      funext a b
      unfold c_sf
      rw [if_neg (by omega)]
    · rw [if_neg hc, if_pos ⟨i32_in (by omega) (by omega) (by omega), i32_in (by omega) (by omega) (by omega)⟩, e3]
      have ee : ep (M 52) t (k + 1) = ep (M 52) t k := by
        conv => lhs; unfold ep
        rw [if_neg hc]
      have e4 : i32 ((k + 1 : Nat) : Int) + -1 = i32 (k : Int) := by
        rw [i32_m1, i32_add]; congr 1; omega
      rw [e4, ih n _ (by omega) (by omega), ee]
      have e5 : ep (am_up (am_up (am_up (am_up M 52 (k + 1) (M 52 k)) 53 (k + 1) (M 53 k)) 54 (k + 1) (M 54 k)) 55 (k + 1) (M 55 k) 52) t k = ep (M 52) t k := by
        refine ep_congr (fun j hj => ?_)
        rw [up_ne (Or.inl (by decide)), up_ne (Or.inl (by decide)), up_ne (Or.inl (by decide)), up_ne (Or.inr (by omega))]
      rw [e5]
      have hp := ep_le (M 52) t k
      congr 1
      funext a b
      unfold c_sf
      by_cases hb : b = k + 1
      · subst hb
        rw [if_neg (by omega)]
        by_cases ha : a = 52 ∨ a = 53 ∨ a = 54 ∨ a = 55
        · rw [if_pos ⟨ha, by omega, by omega⟩]
          rcases ha with rfl | rfl | rfl | rfl <;> simp [am_up]
        · rw [if_neg (fun z => ha z.1)]
          rw [up_ne (Or.inl (by omega)), up_ne (Or.inl (by omega)), up_ne (Or.inl (by omega)), up_ne (Or.inl (by omega))]
      · have h4 : ∀ j, j ≠ k + 1 → am_up (am_up (am_up (am_up M 52 (k + 1) (M 52 k)) 53 (k + 1) (M 53 k)) 54 (k + 1) (M 54 k)) 55 (k + 1) (M 55 k) a j = M a j := fun j hj => by
          rw [up_ne (Or.inr hj), up_ne (Or.inr hj), up_ne (Or.inr hj), up_ne (Or.inr hj)]
        rw [h4 b hb]
        by_cases hq : (a = 52 ∨ a = 53 ∨ a = 54 ∨ a = 55) ∧ ep (M 52) t k < b ∧ b ≤ k
        · rw [if_pos hq, if_pos ⟨hq.1, hq.2.1, by omega⟩, h4 (b - 1) (by omega)]
        · rw [if_neg hq, if_neg (fun z => hq ⟨z.1, z.2.1, by omega⟩)]
/-- the memory behind a new echo -/
def c_insp (M : am_M) (p : Nat) (t s w q : Int32) (n : Nat) : am_M := fun a b =>
  if a = 52 then ei (M 52) p n t b
  else if a = 53 then ei (M 53) p n s b
  else if a = 54 then ei (M 54) p n w b
  else if a = 55 then ei (M 55) p n q b
  else if a = 51 ∧ b = 0 then i32 ((n : Int) + 1) else M a b
def c_ins (M : am_M) (t s w q : Int32) (n : Nat) : am_M := c_insp M (ep (M 52) t n) t s w q n
theorem c_end (N : Nat) (t s w q : Int32) (p n : Nat) (M : am_M) (hp : p ≤ n) (hn : n < 24) (hM : M 51 0 = i32 (n : Int)) : f_X6_addEcho_104 N t s w q (i32 (p : Int)) (c_sf M p n) = some (.ok none, c_insp M p t s w q n) := by
  unfold f_X6_addEcho_104
  have ec : (i32 (p : Int)).toNatClampNeg = p := by rw [i32_cl (by omega) (by omega)]; omega
  rw [if_pos (i32_in (by omega) (by omega) (by omega)), ec]
  have e1 : c_sf M p n 51 0 = i32 (n : Int) := by
    unfold c_sf; rw [if_neg (by omega)]; exact hM
  rw [e1, i32_1, i32_add]
  have row : ∀ c, (c = 52 ∨ c = 53 ∨ c = 54 ∨ c = 55) → ∀ (x : Int32) (b : Nat), am_up (c_sf M p n) c p x c b = ei (M c) p n x b := by
    intro c hc x b
    rw [← ei_sf hp]
    by_cases hb : b = p
    · subst hb
      rw [up_eq, if_pos rfl]
    · rw [up_ne (Or.inr hb), if_neg hb]
      unfold c_sf
      by_cases hq : p < b ∧ b ≤ n
      · rw [if_pos ⟨hc, hq⟩, if_pos hq]
      · rw [if_neg (fun z => hq z.2), if_neg hq]
  have mem : am_up (am_up (am_up (am_up (am_up (c_sf M p n) 52 p t) 53 p s) 54 p w) 55 p q) 51 0 (i32 ((n : Int) + 1)) = c_insp M p t s w q n := by
    funext a b
    unfold c_insp
    by_cases h0 : a = 52
    · subst h0
      rw [if_pos rfl, up_ne (Or.inl (by decide)), up_ne (Or.inl (by decide)), up_ne (Or.inl (by decide)), up_ne (Or.inl (by decide))]
      exact row _ (by omega) _ _
    · rw [if_neg h0]
      by_cases h1 : a = 53
      · subst h1
        rw [if_pos rfl, up_ne (Or.inl (by decide)), up_ne (Or.inl (by decide)), up_ne (Or.inl (by decide)), ← row _ (by omega)]
        unfold am_up
        simp
      · rw [if_neg h1]
        by_cases h2 : a = 54
        · subst h2
          rw [if_pos rfl, up_ne (Or.inl (by decide)), up_ne (Or.inl (by decide)), ← row _ (by omega)]
          unfold am_up
          simp
        · rw [if_neg h2]
          by_cases h3 : a = 55
          · subst h3
            rw [if_pos rfl, up_ne (Or.inl (by decide)), ← row _ (by omega)]
            unfold am_up
            simp
          · rw [if_neg h3]
            by_cases h4 : a = 51 ∧ b = 0
            · rw [if_pos h4]
              obtain ⟨rfl, rfl⟩ := h4
              exact up_eq _ _ _ _
            · rw [if_neg h4, up_ne (by omega), up_ne (Or.inl h3), up_ne (Or.inl h2), up_ne (Or.inl h1), up_ne (Or.inl h0)]
              unfold c_sf
              rw [if_neg (by omega)]
  rw [mem]

def m_sf (M : am_M) (p k : Nat) : am_M := fun a b => if (a = 17 ∨ a = 18 ∨ a = 19 ∨ a = 20) ∧ p < b ∧ b ≤ k then M a (b - 1) else M a b
theorem m_loop (N : Nat) (t s w q : Int32) : ∀ (k n : Nat) (M : am_M), k < n → k < 24 → f_X10_puts_6 N t s w q n (i32 (k : Int)) M = f_X10_puts_94 N t s w q (i32 ((ep (M 17) t k : Nat) : Int)) (m_sf M (ep (M 17) t k) k) := by
  intro k
  induction k with
  | zero =>
    intro n M hn hk
    obtain ⟨n, rfl⟩ : ∃ m, n = m + 1 := ⟨n - 1, by omega⟩
    show f_X10_puts_6B N t s w q _ _ M = _
    unfold f_X10_puts_6B
    rw [i32_0, if_pos ((i32_le (by omega) (by omega) (by omega) (by omega)).mpr (by omega))]
    have e0 : ep (M 17) t 0 = 0 := rfl
    rw [e0]
    congr 1
    funext a b
    unfold m_sf
    rw [if_neg (by omega)]
  | succ k ih =>
    intro n M hn hk
    obtain ⟨n, rfl⟩ : ∃ m, n = m + 1 := ⟨n - 1, by omega⟩
    show f_X10_puts_6B N t s w q _ _ M = _
    unfold f_X10_puts_6B
    have e1 : i32 ((k + 1 : Nat) : Int) - 1 = i32 (k : Int) := by
      rw [i32_1, i32_sub]; congr 1; omega
    have e2 : (i32 (k : Int)).toNatClampNeg = k := by rw [i32_cl (by omega) (by omega)]; omega
    have e3 : (i32 ((k + 1 : Nat) : Int)).toNatClampNeg = k + 1 := by rw [i32_cl (by omega) (by omega)]; omega
    rw [i32_0, if_neg (fun h => absurd ((i32_le (by omega) (by omega) (by omega) (by omega)).mp h) (by omega)), e1, if_pos (i32_in (by omega) (by omega) (by omega)), e2]
    by_cases hc : M 17 k ≤ t
    · rw [if_pos hc]
      have ee : ep (M 17) t (k + 1) = k + 1 := by unfold ep; rw [if_pos hc]
      rw [ee]
      congr 1
      funext a b
      unfold m_sf
      rw [if_neg (by omega)]
    · rw [if_neg hc, if_pos ⟨i32_in (by omega) (by omega) (by omega), i32_in (by omega) (by omega) (by omega)⟩, e3]
      have ee : ep (M 17) t (k + 1) = ep (M 17) t k := by
        conv => lhs; unfold ep
        rw [if_neg hc]
      have e4 : i32 ((k + 1 : Nat) : Int) + -1 = i32 (k : Int) := by
        rw [i32_m1, i32_add]; congr 1; omega
      rw [e4, ih n _ (by omega) (by omega), ee]
      have e5 : ep (am_up (am_up (am_up (am_up M 17 (k + 1) (M 17 k)) 18 (k + 1) (M 18 k)) 19 (k + 1) (M 19 k)) 20 (k + 1) (M 20 k) 17) t k = ep (M 17) t k := by
        refine ep_congr (fun j hj => ?_)
        rw [up_ne (Or.inl (by decide)), up_ne (Or.inl (by decide)), up_ne (Or.inl (by decide)), up_ne (Or.inr (by omega))]
      rw [e5]
      have hp := ep_le (M 17) t k
      congr 1
      funext a b
      unfold m_sf
      by_cases hb : b = k + 1
      · subst hb
        rw [if_neg (by omega)]
        by_cases ha : a = 17 ∨ a = 18 ∨ a = 19 ∨ a = 20
        · rw [if_pos ⟨ha, by omega, by omega⟩]
          rcases ha with rfl | rfl | rfl | rfl <;> simp [am_up]
        · rw [if_neg (fun z => ha z.1)]
          rw [up_ne (Or.inl (by omega)), up_ne (Or.inl (by omega)), up_ne (Or.inl (by omega)), up_ne (Or.inl (by omega))]
      · have h4 : ∀ j, j ≠ k + 1 → am_up (am_up (am_up (am_up M 17 (k + 1) (M 17 k)) 18 (k + 1) (M 18 k)) 19 (k + 1) (M 19 k)) 20 (k + 1) (M 20 k) a j = M a j := fun j hj => by
          rw [up_ne (Or.inr hj), up_ne (Or.inr hj), up_ne (Or.inr hj), up_ne (Or.inr hj)]
        rw [h4 b hb]
        by_cases hq : (a = 17 ∨ a = 18 ∨ a = 19 ∨ a = 20) ∧ ep (M 17) t k < b ∧ b ≤ k
        · rw [if_pos hq, if_pos ⟨hq.1, hq.2.1, by omega⟩, h4 (b - 1) (by omega)]
        · rw [if_neg hq, if_neg (fun z => hq ⟨z.1, z.2.1, by omega⟩)]
/-- the memory behind a new echo -/
def m_insp (M : am_M) (p : Nat) (t s w q : Int32) (n : Nat) : am_M := fun a b =>
  if a = 17 then ei (M 17) p n t b
  else if a = 18 then ei (M 18) p n s b
  else if a = 19 then ei (M 19) p n w b
  else if a = 20 then ei (M 20) p n q b
  else if a = 0 ∧ b = 48 then i32 ((n : Int) + 1) else M a b
def m_ins (M : am_M) (t s w q : Int32) (n : Nat) : am_M := m_insp M (ep (M 17) t n) t s w q n
theorem m_end (N : Nat) (t s w q : Int32) (p n : Nat) (M : am_M) (hp : p ≤ n) (hn : n < 24) (hM : M 0 48 = i32 (n : Int)) : f_X10_puts_94 N t s w q (i32 (p : Int)) (m_sf M p n) = some (.ok none, m_insp M p t s w q n) := by
  unfold f_X10_puts_94
  have ec : (i32 (p : Int)).toNatClampNeg = p := by rw [i32_cl (by omega) (by omega)]; omega
  rw [if_pos (i32_in (by omega) (by omega) (by omega)), ec]
  have e1 : m_sf M p n 0 48 = i32 (n : Int) := by
    unfold m_sf; rw [if_neg (by omega)]; exact hM
  rw [e1, i32_1, i32_add]
  have row : ∀ c, (c = 17 ∨ c = 18 ∨ c = 19 ∨ c = 20) → ∀ (x : Int32) (b : Nat), am_up (m_sf M p n) c p x c b = ei (M c) p n x b := by
    intro c hc x b
    rw [← ei_sf hp]
    by_cases hb : b = p
    · subst hb
      rw [up_eq, if_pos rfl]
    · rw [up_ne (Or.inr hb), if_neg hb]
      unfold m_sf
      by_cases hq : p < b ∧ b ≤ n
      · rw [if_pos ⟨hc, hq⟩, if_pos hq]
      · rw [if_neg (fun z => hq z.2), if_neg hq]
  have mem : am_up (am_up (am_up (am_up (am_up (m_sf M p n) 17 p t) 18 p s) 19 p w) 20 p q) 0 48 (i32 ((n : Int) + 1)) = m_insp M p t s w q n := by
    funext a b
    unfold m_insp
    by_cases h0 : a = 17
    · subst h0
      rw [if_pos rfl, up_ne (Or.inl (by decide)), up_ne (Or.inl (by decide)), up_ne (Or.inl (by decide)), up_ne (Or.inl (by decide))]
      exact row _ (by omega) _ _
    · rw [if_neg h0]
      by_cases h1 : a = 18
      · subst h1
        rw [if_pos rfl, up_ne (Or.inl (by decide)), up_ne (Or.inl (by decide)), up_ne (Or.inl (by decide)), ← row _ (by omega)]
        unfold am_up
        simp
      · rw [if_neg h1]
        by_cases h2 : a = 19
        · subst h2
          rw [if_pos rfl, up_ne (Or.inl (by decide)), up_ne (Or.inl (by decide)), ← row _ (by omega)]
          unfold am_up
          simp
        · rw [if_neg h2]
          by_cases h3 : a = 20
          · subst h3
            rw [if_pos rfl, up_ne (Or.inl (by decide)), ← row _ (by omega)]
            unfold am_up
            simp
          · rw [if_neg h3]
            by_cases h4 : a = 0 ∧ b = 48
            · rw [if_pos h4]
              obtain ⟨rfl, rfl⟩ := h4
              exact up_eq _ _ _ _
            · rw [if_neg h4, up_ne (by omega), up_ne (Or.inl h3), up_ne (Or.inl h2), up_ne (Or.inl h1), up_ne (Or.inl h0)]
              unfold m_sf
              rw [if_neg (by omega)]
  rw [mem]

theorem c_addEcho (N : Nat) (hN : 100 ≤ N) (t s w q : Int32) (n : Nat) (M : am_M) (hn : n < 24) (hM : M 51 0 = i32 (n : Int)) : f_X6_addEcho N t s w q M = some (.ok none, c_ins M t s w q n) := by
  unfold f_X6_addEcho
  rw [hM, i32_24, if_pos ((i32_lt (by omega) (by omega) (by omega) (by omega)).mpr (by omega)), c_loop N t s w q n N M (by omega) hn]
  exact c_end N t s w q _ n M (ep_le _ _ _) hn hM
theorem m_puts (N : Nat) (hN : 100 ≤ N) (t s w q : Int32) (n : Nat) (M : am_M) (hn : n < 24) (hM : M 0 48 = i32 (n : Int)) : f_X10_puts N t s w q M = some (.ok none, m_ins M t s w q n) := by
  unfold f_X10_puts
  rw [hM, m_loop N t s w q n N M (by omega) hn]
  exact m_end N t s w q _ n M (ep_le _ _ _) hn hM
