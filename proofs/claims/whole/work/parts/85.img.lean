/-! images -/
theorem upA_eq {M : am_M} {k : Nat} {f : Nat → Int32} : am_upA M k f k = f := by unfold am_upA; rw [if_pos rfl]
theorem upA_ne {M : am_M} {k a : Nat} {f : Nat → Int32} (h : a ≠ k) : am_upA M k f a = M a := by unfold am_upA; rw [if_neg h]
theorem cpyL {f g : Nat → Int32} {n : Int32} {m j : Nat} (hn : n.toNatClampNeg = m) (h : j < m) : va_cpy f g (0 : Int32).toNatClampNeg (0 : Int32).toNatClampNeg n.toNatClampNeg j = f j := by
  rw [hn]
  show (if 0 ≤ j ∧ j < 0 + m then f (0 + (j - 0)) else g j) = f j
  rw [if_pos (by omega)]
  congr 1
  omega
def TK (d s : Nat) (M M' : am_M) : Prop := (∀ c, c < 100 → M' (d + 1) c = M (s + 1) c ∧ M' (d + 2) c = M (s + 2) c) ∧ M' d 2 = M s 2 ∧ M' (d + 3) 3 = M (s + 3) 3 ∧ (∀ j, j < 36 → M' (d + 4) j = M (s + 4) j) ∧ ∀ a b, (a ≠ d ∨ b ≠ 2) → a ≠ d + 1 → a ≠ d + 2 → (a ≠ d + 3 ∨ b ≠ 3) → a ≠ d + 4 → M' a b = M a b
section IM
variable {N : Nat} {V : VL} {Mc Mm : am_M}
theorem tk_13_30 (M : am_M) : ∃ M', f_X2_take_13_30 N M = some (.ok none, M') ∧ TK 13 30 M M' := by
  refine ⟨_, rfl, fun c hc => ⟨?_, ?_⟩, ?_, ?_, fun j hj => ?_, fun a b h1 h2 h3 h4 h5 => ?_⟩
  · rw [up_ne (by omega), upA_ne (by omega), up_ne (by omega), upA_ne (by omega), upA_eq, cpyL (m := 100) (by decide) hc]
  · rw [up_ne (by omega), upA_ne (by omega), up_ne (by omega), upA_eq, cpyL (m := 100) (by decide) hc]
  · rw [up_ne (by omega), upA_ne (by omega), up_eq]
  · rw [up_eq, up_ne (by omega), upA_ne (by omega), upA_ne (by omega)]
  · rw [up_ne (by omega), upA_eq, cpyL (m := 36) (by decide) hj, up_ne (by omega), upA_ne (by omega), upA_ne (by omega)]
  · rw [up_ne (by omega), upA_ne (by omega), up_ne (by omega), upA_ne (by omega), upA_ne (by omega)]
theorem tk_36_13 (M : am_M) : ∃ M', f_X2_take_36_13 N M = some (.ok none, M') ∧ TK 36 13 M M' := by
  refine ⟨_, rfl, fun c hc => ⟨?_, ?_⟩, ?_, ?_, fun j hj => ?_, fun a b h1 h2 h3 h4 h5 => ?_⟩
  · rw [up_ne (by omega), upA_ne (by omega), up_ne (by omega), upA_ne (by omega), upA_eq, cpyL (m := 100) (by decide) hc]
  · rw [up_ne (by omega), upA_ne (by omega), up_ne (by omega), upA_eq, cpyL (m := 100) (by decide) hc]
  · rw [up_ne (by omega), upA_ne (by omega), up_eq]
  · rw [up_eq, up_ne (by omega), upA_ne (by omega), upA_ne (by omega)]
  · rw [up_ne (by omega), upA_eq, cpyL (m := 36) (by decide) hj, up_ne (by omega), upA_ne (by omega), upA_ne (by omega)]
  · rw [up_ne (by omega), upA_ne (by omega), up_ne (by omega), upA_ne (by omega), upA_ne (by omega)]
theorem tk_41_13 (M : am_M) : ∃ M', f_X2_take_41_13 N M = some (.ok none, M') ∧ TK 41 13 M M' := by
  refine ⟨_, rfl, fun c hc => ⟨?_, ?_⟩, ?_, ?_, fun j hj => ?_, fun a b h1 h2 h3 h4 h5 => ?_⟩
  · rw [up_ne (by omega), upA_ne (by omega), up_ne (by omega), upA_ne (by omega), upA_eq, cpyL (m := 100) (by decide) hc]
  · rw [up_ne (by omega), upA_ne (by omega), up_ne (by omega), upA_eq, cpyL (m := 100) (by decide) hc]
  · rw [up_ne (by omega), upA_ne (by omega), up_eq]
  · rw [up_eq, up_ne (by omega), upA_ne (by omega), upA_ne (by omega)]
  · rw [up_ne (by omega), upA_eq, cpyL (m := 36) (by decide) hj, up_ne (by omega), upA_ne (by omega), upA_ne (by omega)]
  · rw [up_ne (by omega), upA_ne (by omega), up_ne (by omega), upA_ne (by omega), upA_ne (by omega)]
theorem tk_46_13 (M : am_M) : ∃ M', f_X2_take_46_13 N M = some (.ok none, M') ∧ TK 46 13 M M' := by
  refine ⟨_, rfl, fun c hc => ⟨?_, ?_⟩, ?_, ?_, fun j hj => ?_, fun a b h1 h2 h3 h4 h5 => ?_⟩
  · rw [up_ne (by omega), upA_ne (by omega), up_ne (by omega), upA_ne (by omega), upA_eq, cpyL (m := 100) (by decide) hc]
  · rw [up_ne (by omega), upA_ne (by omega), up_ne (by omega), upA_eq, cpyL (m := 100) (by decide) hc]
  · rw [up_ne (by omega), upA_ne (by omega), up_eq]
  · rw [up_eq, up_ne (by omega), upA_ne (by omega), upA_ne (by omega)]
  · rw [up_ne (by omega), upA_eq, cpyL (m := 36) (by decide) hj, up_ne (by omega), upA_ne (by omega), upA_ne (by omega)]
  · rw [up_ne (by omega), upA_ne (by omega), up_ne (by omega), upA_ne (by omega), upA_ne (by omega)]
theorem tk_13_36 (M : am_M) : ∃ M', f_X2_take_13_36 N M = some (.ok none, M') ∧ TK 13 36 M M' := by
  refine ⟨_, rfl, fun c hc => ⟨?_, ?_⟩, ?_, ?_, fun j hj => ?_, fun a b h1 h2 h3 h4 h5 => ?_⟩
  · rw [up_ne (by omega), upA_ne (by omega), up_ne (by omega), upA_ne (by omega), upA_eq, cpyL (m := 100) (by decide) hc]
  · rw [up_ne (by omega), upA_ne (by omega), up_ne (by omega), upA_eq, cpyL (m := 100) (by decide) hc]
  · rw [up_ne (by omega), upA_ne (by omega), up_eq]
  · rw [up_eq, up_ne (by omega), upA_ne (by omega), upA_ne (by omega)]
  · rw [up_ne (by omega), upA_eq, cpyL (m := 36) (by decide) hj, up_ne (by omega), upA_ne (by omega), upA_ne (by omega)]
  · rw [up_ne (by omega), upA_ne (by omega), up_ne (by omega), upA_ne (by omega), upA_ne (by omega)]
theorem tk_13_41 (M : am_M) : ∃ M', f_X2_take_13_41 N M = some (.ok none, M') ∧ TK 13 41 M M' := by
  refine ⟨_, rfl, fun c hc => ⟨?_, ?_⟩, ?_, ?_, fun j hj => ?_, fun a b h1 h2 h3 h4 h5 => ?_⟩
  · rw [up_ne (by omega), upA_ne (by omega), up_ne (by omega), upA_ne (by omega), upA_eq, cpyL (m := 100) (by decide) hc]
  · rw [up_ne (by omega), upA_ne (by omega), up_ne (by omega), upA_eq, cpyL (m := 100) (by decide) hc]
  · rw [up_ne (by omega), upA_ne (by omega), up_eq]
  · rw [up_eq, up_ne (by omega), upA_ne (by omega), upA_ne (by omega)]
  · rw [up_ne (by omega), upA_eq, cpyL (m := 36) (by decide) hj, up_ne (by omega), upA_ne (by omega), upA_ne (by omega)]
  · rw [up_ne (by omega), upA_ne (by omega), up_ne (by omega), upA_ne (by omega), upA_ne (by omega)]
theorem tk_13_46 (M : am_M) : ∃ M', f_X2_take_13_46 N M = some (.ok none, M') ∧ TK 13 46 M M' := by
  refine ⟨_, rfl, fun c hc => ⟨?_, ?_⟩, ?_, ?_, fun j hj => ?_, fun a b h1 h2 h3 h4 h5 => ?_⟩
  · rw [up_ne (by omega), upA_ne (by omega), up_ne (by omega), upA_ne (by omega), upA_eq, cpyL (m := 100) (by decide) hc]
  · rw [up_ne (by omega), upA_ne (by omega), up_ne (by omega), upA_eq, cpyL (m := 100) (by decide) hc]
  · rw [up_ne (by omega), upA_ne (by omega), up_eq]
  · rw [up_eq, up_ne (by omega), upA_ne (by omega), upA_ne (by omega)]
  · rw [up_ne (by omega), upA_eq, cpyL (m := 36) (by decide) hj, up_ne (by omega), upA_ne (by omega), upA_ne (by omega)]
  · rw [up_ne (by omega), upA_ne (by omega), up_ne (by omega), upA_ne (by omega), upA_ne (by omega)]
theorem ks_10 {s : Nat} (hs : s + 100 ≤ 687) : ∀ (d j m : Nat) (M : am_M), j + d = 100 → d < m → wp (f_X10_keeps_10_3 N (i32 (s : Int)) 100 1 m (i32 (j : Int)) M) (rI fun v M' => v = i32 ((s + 100 : Nat) : Int) ∧ (∀ c, j ≤ c → c < 100 → M' 28 (s + c) = M 10 c) ∧ (∀ a b, a ≠ 28 ∨ b < s + j ∨ s + 100 ≤ b → M' a b = M a b)) := by
  intro d
  induction d with
  | zero =>
    intro j m M hj hm
    obtain ⟨m, rfl⟩ : ∃ k, m = k + 1 := ⟨m - 1, by omega⟩
    show wp (f_X10_keeps_10_3B N _ _ _ _ _ M) _
    unfold f_X10_keeps_10_3B
    rw [show (100 : Int32) = i32 100 from rfl, i32_add]
    exact wp_gd ((i32_le (by omega) (by omega) (by omega) (by omega)).mpr (by omega)) (wp_i ⟨rfl, fun c h1 h2 => by omega, fun _ _ _ => rfl⟩)
  | succ d ih =>
    intro j m M hj hm
    obtain ⟨m, rfl⟩ : ∃ k, m = k + 1 := ⟨m - 1, by omega⟩
    show wp (f_X10_keeps_10_3B N _ _ _ _ _ M) _
    unfold f_X10_keeps_10_3B
    refine wp_ng (fun q => by rw [show (100 : Int32) = i32 100 from rfl] at q; exact absurd ((i32_le (by omega) (by omega) (by omega) (by omega)).mp q) (by omega)) (wp_ng (by decide) ?_)
    rw [i32_add]
    refine wp_gd ⟨i32_in (by omega) (by omega) (by omega), i32_in (by omega) (by omega) (by omega)⟩ ?_
    rw [i32_cl (by omega) (by omega), i32_k (by omega), show ((s : Int) + (j : Int)).toNat = s + j from by omega, i32_s]
    refine wp_mi (ih (j + 1) m _ (by omega) (by omega)) (fun v M' q => ⟨q.1, fun c h1 h2 => ?_, fun a b w => ?_⟩)
    · by_cases hcj : c = j
      · rw [hcj, q.2.2 28 (s + j) (by omega), up_eq]
      · rw [q.2.1 c (by omega) h2, up_ne (by omega)]
    · rw [q.2.2 a b (by omega), up_ne (by omega)]
theorem kr_10 {s : Nat} (hs : s + 100 ≤ 687) : ∀ (d j m : Nat) (M : am_M), j + d = 100 → d < m → wp (f_X10_keeps_10_3 N (i32 (s : Int)) 100 0 m (i32 (j : Int)) M) (rI fun v M' => v = i32 ((s + 100 : Nat) : Int) ∧ (∀ c, j ≤ c → c < 100 → M' 10 c = M 28 (s + c)) ∧ (∀ a b, a ≠ 10 ∨ b < j ∨ 100 ≤ b → M' a b = M a b)) := by
  intro d
  induction d with
  | zero =>
    intro j m M hj hm
    obtain ⟨m, rfl⟩ : ∃ k, m = k + 1 := ⟨m - 1, by omega⟩
    show wp (f_X10_keeps_10_3B N _ _ _ _ _ M) _
    unfold f_X10_keeps_10_3B
    rw [show (100 : Int32) = i32 100 from rfl, i32_add]
    exact wp_gd ((i32_le (by omega) (by omega) (by omega) (by omega)).mpr (by omega)) (wp_i ⟨rfl, fun c h1 h2 => by omega, fun _ _ _ => rfl⟩)
  | succ d ih =>
    intro j m M hj hm
    obtain ⟨m, rfl⟩ : ∃ k, m = k + 1 := ⟨m - 1, by omega⟩
    show wp (f_X10_keeps_10_3B N _ _ _ _ _ M) _
    unfold f_X10_keeps_10_3B
    refine wp_ng (fun q => by rw [show (100 : Int32) = i32 100 from rfl] at q; exact absurd ((i32_le (by omega) (by omega) (by omega) (by omega)).mp q) (by omega)) (wp_gd rfl ?_)
    rw [i32_add]
    refine wp_gd ⟨i32_in (by omega) (by omega) (by omega), i32_in (by omega) (by omega) (by omega)⟩ ?_
    rw [i32_k (by omega), i32_cl (by omega) (by omega), show ((s : Int) + (j : Int)).toNat = s + j from by omega, i32_s]
    refine wp_mi (ih (j + 1) m _ (by omega) (by omega)) (fun v M' q => ⟨q.1, fun c h1 h2 => ?_, fun a b w => ?_⟩)
    · by_cases hcj : c = j
      · rw [hcj, q.2.2 10 j (by omega), up_eq]
      · rw [q.2.1 c (by omega) h2, up_ne (by omega)]
    · rw [q.2.2 a b (by omega), up_ne (by omega)]
theorem ks_11 {s : Nat} (hs : s + 100 ≤ 687) : ∀ (d j m : Nat) (M : am_M), j + d = 100 → d < m → wp (f_X10_keeps_11_3 N (i32 (s : Int)) 100 1 m (i32 (j : Int)) M) (rI fun v M' => v = i32 ((s + 100 : Nat) : Int) ∧ (∀ c, j ≤ c → c < 100 → M' 28 (s + c) = M 11 c) ∧ (∀ a b, a ≠ 28 ∨ b < s + j ∨ s + 100 ≤ b → M' a b = M a b)) := by
  intro d
  induction d with
  | zero =>
    intro j m M hj hm
    obtain ⟨m, rfl⟩ : ∃ k, m = k + 1 := ⟨m - 1, by omega⟩
    show wp (f_X10_keeps_11_3B N _ _ _ _ _ M) _
    unfold f_X10_keeps_11_3B
    rw [show (100 : Int32) = i32 100 from rfl, i32_add]
    exact wp_gd ((i32_le (by omega) (by omega) (by omega) (by omega)).mpr (by omega)) (wp_i ⟨rfl, fun c h1 h2 => by omega, fun _ _ _ => rfl⟩)
  | succ d ih =>
    intro j m M hj hm
    obtain ⟨m, rfl⟩ : ∃ k, m = k + 1 := ⟨m - 1, by omega⟩
    show wp (f_X10_keeps_11_3B N _ _ _ _ _ M) _
    unfold f_X10_keeps_11_3B
    refine wp_ng (fun q => by rw [show (100 : Int32) = i32 100 from rfl] at q; exact absurd ((i32_le (by omega) (by omega) (by omega) (by omega)).mp q) (by omega)) (wp_ng (by decide) ?_)
    rw [i32_add]
    refine wp_gd ⟨i32_in (by omega) (by omega) (by omega), i32_in (by omega) (by omega) (by omega)⟩ ?_
    rw [i32_cl (by omega) (by omega), i32_k (by omega), show ((s : Int) + (j : Int)).toNat = s + j from by omega, i32_s]
    refine wp_mi (ih (j + 1) m _ (by omega) (by omega)) (fun v M' q => ⟨q.1, fun c h1 h2 => ?_, fun a b w => ?_⟩)
    · by_cases hcj : c = j
      · rw [hcj, q.2.2 28 (s + j) (by omega), up_eq]
      · rw [q.2.1 c (by omega) h2, up_ne (by omega)]
    · rw [q.2.2 a b (by omega), up_ne (by omega)]
theorem kr_11 {s : Nat} (hs : s + 100 ≤ 687) : ∀ (d j m : Nat) (M : am_M), j + d = 100 → d < m → wp (f_X10_keeps_11_3 N (i32 (s : Int)) 100 0 m (i32 (j : Int)) M) (rI fun v M' => v = i32 ((s + 100 : Nat) : Int) ∧ (∀ c, j ≤ c → c < 100 → M' 11 c = M 28 (s + c)) ∧ (∀ a b, a ≠ 11 ∨ b < j ∨ 100 ≤ b → M' a b = M a b)) := by
  intro d
  induction d with
  | zero =>
    intro j m M hj hm
    obtain ⟨m, rfl⟩ : ∃ k, m = k + 1 := ⟨m - 1, by omega⟩
    show wp (f_X10_keeps_11_3B N _ _ _ _ _ M) _
    unfold f_X10_keeps_11_3B
    rw [show (100 : Int32) = i32 100 from rfl, i32_add]
    exact wp_gd ((i32_le (by omega) (by omega) (by omega) (by omega)).mpr (by omega)) (wp_i ⟨rfl, fun c h1 h2 => by omega, fun _ _ _ => rfl⟩)
  | succ d ih =>
    intro j m M hj hm
    obtain ⟨m, rfl⟩ : ∃ k, m = k + 1 := ⟨m - 1, by omega⟩
    show wp (f_X10_keeps_11_3B N _ _ _ _ _ M) _
    unfold f_X10_keeps_11_3B
    refine wp_ng (fun q => by rw [show (100 : Int32) = i32 100 from rfl] at q; exact absurd ((i32_le (by omega) (by omega) (by omega) (by omega)).mp q) (by omega)) (wp_gd rfl ?_)
    rw [i32_add]
    refine wp_gd ⟨i32_in (by omega) (by omega) (by omega), i32_in (by omega) (by omega) (by omega)⟩ ?_
    rw [i32_k (by omega), i32_cl (by omega) (by omega), show ((s : Int) + (j : Int)).toNat = s + j from by omega, i32_s]
    refine wp_mi (ih (j + 1) m _ (by omega) (by omega)) (fun v M' q => ⟨q.1, fun c h1 h2 => ?_, fun a b w => ?_⟩)
    · by_cases hcj : c = j
      · rw [hcj, q.2.2 11 j (by omega), up_eq]
      · rw [q.2.1 c (by omega) h2, up_ne (by omega)]
    · rw [q.2.2 a b (by omega), up_ne (by omega)]
theorem ks_25 {s : Nat} (hs : s + 27 ≤ 687) : ∀ (d j m : Nat) (M : am_M), j + d = 27 → d < m → wp (f_X10_keeps_25_3 N (i32 (s : Int)) 27 1 m (i32 (j : Int)) M) (rI fun v M' => v = i32 ((s + 27 : Nat) : Int) ∧ (∀ c, j ≤ c → c < 27 → M' 28 (s + c) = M 25 c) ∧ (∀ a b, a ≠ 28 ∨ b < s + j ∨ s + 27 ≤ b → M' a b = M a b)) := by
  intro d
  induction d with
  | zero =>
    intro j m M hj hm
    obtain ⟨m, rfl⟩ : ∃ k, m = k + 1 := ⟨m - 1, by omega⟩
    show wp (f_X10_keeps_25_3B N _ _ _ _ _ M) _
    unfold f_X10_keeps_25_3B
    rw [show (27 : Int32) = i32 27 from rfl, i32_add]
    exact wp_gd ((i32_le (by omega) (by omega) (by omega) (by omega)).mpr (by omega)) (wp_i ⟨rfl, fun c h1 h2 => by omega, fun _ _ _ => rfl⟩)
  | succ d ih =>
    intro j m M hj hm
    obtain ⟨m, rfl⟩ : ∃ k, m = k + 1 := ⟨m - 1, by omega⟩
    show wp (f_X10_keeps_25_3B N _ _ _ _ _ M) _
    unfold f_X10_keeps_25_3B
    refine wp_ng (fun q => by rw [show (27 : Int32) = i32 27 from rfl] at q; exact absurd ((i32_le (by omega) (by omega) (by omega) (by omega)).mp q) (by omega)) (wp_ng (by decide) ?_)
    rw [i32_add]
    refine wp_gd ⟨i32_in (by omega) (by omega) (by omega), i32_in (by omega) (by omega) (by omega)⟩ ?_
    rw [i32_cl (by omega) (by omega), i32_k (by omega), show ((s : Int) + (j : Int)).toNat = s + j from by omega, i32_s]
    refine wp_mi (ih (j + 1) m _ (by omega) (by omega)) (fun v M' q => ⟨q.1, fun c h1 h2 => ?_, fun a b w => ?_⟩)
    · by_cases hcj : c = j
      · rw [hcj, q.2.2 28 (s + j) (by omega), up_eq]
      · rw [q.2.1 c (by omega) h2, up_ne (by omega)]
    · rw [q.2.2 a b (by omega), up_ne (by omega)]
theorem kr_25 {s : Nat} (hs : s + 27 ≤ 687) : ∀ (d j m : Nat) (M : am_M), j + d = 27 → d < m → wp (f_X10_keeps_25_3 N (i32 (s : Int)) 27 0 m (i32 (j : Int)) M) (rI fun v M' => v = i32 ((s + 27 : Nat) : Int) ∧ (∀ c, j ≤ c → c < 27 → M' 25 c = M 28 (s + c)) ∧ (∀ a b, a ≠ 25 ∨ b < j ∨ 27 ≤ b → M' a b = M a b)) := by
  intro d
  induction d with
  | zero =>
    intro j m M hj hm
    obtain ⟨m, rfl⟩ : ∃ k, m = k + 1 := ⟨m - 1, by omega⟩
    show wp (f_X10_keeps_25_3B N _ _ _ _ _ M) _
    unfold f_X10_keeps_25_3B
    rw [show (27 : Int32) = i32 27 from rfl, i32_add]
    exact wp_gd ((i32_le (by omega) (by omega) (by omega) (by omega)).mpr (by omega)) (wp_i ⟨rfl, fun c h1 h2 => by omega, fun _ _ _ => rfl⟩)
  | succ d ih =>
    intro j m M hj hm
    obtain ⟨m, rfl⟩ : ∃ k, m = k + 1 := ⟨m - 1, by omega⟩
    show wp (f_X10_keeps_25_3B N _ _ _ _ _ M) _
    unfold f_X10_keeps_25_3B
    refine wp_ng (fun q => by rw [show (27 : Int32) = i32 27 from rfl] at q; exact absurd ((i32_le (by omega) (by omega) (by omega) (by omega)).mp q) (by omega)) (wp_gd rfl ?_)
    rw [i32_add]
    refine wp_gd ⟨i32_in (by omega) (by omega) (by omega), i32_in (by omega) (by omega) (by omega)⟩ ?_
    rw [i32_k (by omega), i32_cl (by omega) (by omega), show ((s : Int) + (j : Int)).toNat = s + j from by omega, i32_s]
    refine wp_mi (ih (j + 1) m _ (by omega) (by omega)) (fun v M' q => ⟨q.1, fun c h1 h2 => ?_, fun a b w => ?_⟩)
    · by_cases hcj : c = j
      · rw [hcj, q.2.2 25 j (by omega), up_eq]
      · rw [q.2.1 c (by omega) h2, up_ne (by omega)]
    · rw [q.2.2 a b (by omega), up_ne (by omega)]
def KS (k : Nat) (M M' : am_M) : Prop := (∀ c, c < 100 → M' 28 (229 * k + c) = M 10 c ∧ M' 28 (229 * k + 100 + c) = M 11 c) ∧ (∀ j, j < 27 → M' 28 (229 * k + 200 + j) = M 25 j) ∧ M' 28 (229 * k + 227) = M 0 42 ∧ M' 28 (229 * k + 228) = M 0 60 ∧ ∀ a b, a ≠ 28 ∨ b < 229 * k ∨ 229 * k + 229 ≤ b → M' a b = M a b
def KT (k : Nat) (M M' : am_M) : Prop := (∀ c, c < 100 → M' 10 c = M 28 (229 * k + c) ∧ M' 11 c = M 28 (229 * k + 100 + c)) ∧ (∀ j, j < 27 → M' 25 j = M 28 (229 * k + 200 + j)) ∧ M' 0 42 = M 28 (229 * k + 227) ∧ M' 0 60 = M 28 (229 * k + 228) ∧ ∀ a b, a ≠ 10 → a ≠ 11 → a ≠ 25 → (a ≠ 0 ∨ (b ≠ 42 ∧ b ≠ 60)) → M' a b = M a b
theorem m_keep1 (hN : 602 ≤ N) {k : Nat} (hk : k < 3) (M : am_M) : wp (f_X10_keepsAll N (i32 (k : Int)) 1 M) (rV fun M' => KS k M M') := by
  unfold f_X10_keepsAll
  rw [show (229 : Int32) = i32 229 from rfl, i32_mul, show (229 * (k : Int)) = ((229 * k : Nat) : Int) from by omega]
  refine wp_ci (ks_10 (s := 229 * k) (by omega) 100 0 N M (by omega) (by omega)) ?_
  rintro v M1 ⟨rfl, a1, b1⟩
  refine wp_ci (ks_11 (s := 229 * k + 100) (by omega) 100 0 N M1 (by omega) (by omega)) ?_
  rintro v M2 ⟨rfl, a2, b2⟩
  refine wp_ci (ks_25 (s := 229 * k + 100 + 100) (by omega) 27 0 N M2 (by omega) (by omega)) ?_
  rintro v M3 ⟨rfl, a3, b3⟩
  refine wp_ng (by decide) ?_
  rw [i32_1, i32_add]
  refine wp_gd ⟨i32_in (by omega) (by omega) (by omega), i32_in (by omega) (by omega) (by omega)⟩ ?_
  rw [i32_cl (by omega) (by omega), i32_cl (by omega) (by omega), show (((229 * k + 100 + 100 + 27 : Nat)) : Int).toNat = 229 * k + 227 from by omega, show ((((229 * k + 100 + 100 + 27 : Nat)) : Int) + 1).toNat = 229 * k + 228 from by omega]
  refine wp_v ⟨fun c hc => ⟨?_, ?_⟩, fun j hj => ?_, ?_, ?_, fun a b w => ?_⟩
  · rw [up_ne (by omega), up_ne (by omega), b3 _ _ (by omega), b2 _ _ (by omega), a1 c (by omega) hc]
  · rw [up_ne (by omega), up_ne (by omega), b3 _ _ (by omega), a2 c (by omega) hc, b1 _ _ (by omega)]
  · rw [up_ne (by omega), up_ne (by omega), show 229 * k + 200 + j = 229 * k + 100 + 100 + j from by omega, a3 j (by omega) hj, b2 _ _ (by omega), b1 _ _ (by omega)]
  · rw [up_ne (by omega), up_eq, b3 _ _ (by omega), b2 _ _ (by omega), b1 _ _ (by omega)]
  · rw [up_eq, b3 _ _ (by omega), b2 _ _ (by omega), b1 _ _ (by omega)]
  · rw [up_ne (by omega), up_ne (by omega), b3 _ _ (by omega), b2 _ _ (by omega), b1 _ _ (by omega)]
theorem m_keep0 (hN : 602 ≤ N) {k : Nat} (hk : k < 3) (M : am_M) : wp (f_X10_keepsAll N (i32 (k : Int)) 0 M) (rV fun M' => KT k M M') := by
  unfold f_X10_keepsAll
  rw [show (229 : Int32) = i32 229 from rfl, i32_mul, show (229 * (k : Int)) = ((229 * k : Nat) : Int) from by omega]
  refine wp_ci (kr_10 (s := 229 * k) (by omega) 100 0 N M (by omega) (by omega)) ?_
  rintro v M1 ⟨rfl, a1, b1⟩
  refine wp_ci (kr_11 (s := 229 * k + 100) (by omega) 100 0 N M1 (by omega) (by omega)) ?_
  rintro v M2 ⟨rfl, a2, b2⟩
  refine wp_ci (kr_25 (s := 229 * k + 100 + 100) (by omega) 27 0 N M2 (by omega) (by omega)) ?_
  rintro v M3 ⟨rfl, a3, b3⟩
  refine wp_gd rfl ?_
  rw [i32_1, i32_add]
  refine wp_gd ⟨i32_in (by omega) (by omega) (by omega), i32_in (by omega) (by omega) (by omega)⟩ ?_
  rw [i32_cl (by omega) (by omega), i32_cl (by omega) (by omega), show (((229 * k + 100 + 100 + 27 : Nat)) : Int).toNat = 229 * k + 227 from by omega, show ((((229 * k + 100 + 100 + 27 : Nat)) : Int) + 1).toNat = 229 * k + 228 from by omega]
  refine wp_v ⟨fun c hc => ⟨?_, ?_⟩, fun j hj => ?_, ?_, ?_, fun a b w1 w2 w3 w4 => ?_⟩
  · rw [up_ne (by omega), up_ne (by omega), b3 _ _ (by omega), b2 _ _ (by omega), a1 c (by omega) hc]
  · rw [up_ne (by omega), up_ne (by omega), b3 _ _ (by omega), a2 c (by omega) hc, b1 _ _ (by omega)]
  · rw [up_ne (by omega), up_ne (by omega), a3 j (by omega) hj, b2 _ _ (by omega), b1 _ _ (by omega)]
  · rw [up_ne (by omega), up_eq, b3 _ _ (by omega), b2 _ _ (by omega), b1 _ _ (by omega)]
  · rw [up_eq, b3 _ _ (by omega), b2 _ _ (by omega), b1 _ _ (by omega)]
  · rw [up_ne (by omega), up_ne (by omega), b3 _ _ (by omega), b2 _ _ (by omega), b1 _ _ (by omega)]
theorem ld_self : ld V V = V := by
  funext a b
  unfold ld
  split <;> rfl
theorem IR.im (h : IR V Mc Mm) : ∃ ni : Int, (0 ≤ ni ∧ ni ≤ 3) ∧ Mc 0 10 = i32 ni ∧ Mm 0 65 = i32 ni := by
  obtain ⟨T, tp, I, ni, _, _, hi, _⟩ := h
  exact ⟨ni, hi.1, hi.2.1, hi.2.2.1⟩
/-- one more image -/
theorem Inv.img (hV : VX V) (hC : RC V Mc) (hM : RT V Mm) (hF : RF V Mm) (hI : IR V Mc Mm) {k : Nat} (hk : k < 3) (hn : Mc 0 10 = i32 (k : Int)) {M1 M2 : am_M} (h1 : TK (36 + 5 * k) 13 Mc M1) (h2 : KS k Mm M2) : Inv (am_up M1 0 10 (i32 ((k : Int) + 1))) (am_up M2 0 65 (i32 ((k : Int) + 1))) := by
  have hns := hV.ns
  obtain ⟨t1, t2, t3, t4, t5⟩ := h1
  obtain ⟨s1, s2, s3, s4, s5⟩ := h2
  have u1 : ∀ a b, (a < 36 ∨ 50 < a) → (a ≠ 0 ∨ b ≠ 10) → am_up M1 0 10 (i32 ((k : Int) + 1)) a b = Mc a b := fun a b w1 w2 => by rw [up_ne w2, t5 a b (by omega) (by omega) (by omega) (by omega) (by omega)]
  have u2 : ∀ a b, a ≠ 28 → (a ≠ 0 ∨ b ≠ 65) → am_up M2 0 65 (i32 ((k : Int) + 1)) a b = Mm a b := fun a b w1 w2 => by rw [up_ne w2, s5 a b (by omega)]
  refine ⟨V, hV, hC.of (fun a b w => u1 a b (by omega) (by omega)), hM.of (fun a b w => u2 a b (by omega) (by omega)), hF.of (fun a b w => u2 a b (by omega) (by omega)), ?_⟩
  obtain ⟨T, tp, I, ni, ⟨p1, p2, p3, p4⟩, ⟨c1, c2, c3, c4, c5⟩, ⟨i1, i2, i3, i4⟩, ⟨r1, r2, r3, r4, r5, r6⟩⟩ := hI
  have hnk : ni = (k : Int) := by
    rw [hn] at i2
    exact ((i32_eq (by omega) (by omega) (by omega) (by omega)).mp i2).symm
  refine ⟨T, tp, fun j => if j = k then V else I j, ni + 1, ⟨p1, (u1 0 1 (by omega) (by omega)).trans p2, (u2 0 2 (by omega) (by omega)).trans p3, fun i hi => ⟨(p4 i hi).1, (u1 1 i (by omega) (by omega)).trans (p4 i hi).2.1, (u2 2 i (by omega) (by omega)).trans (p4 i hi).2.2⟩⟩, ⟨?_, ?_, ?_, ?_, (u1 51 6 (by omega) (by omega)).trans c5⟩, ⟨by omega, by rw [up_eq, hnk], by rw [up_eq, hnk], fun j hj => ?_⟩, ?_⟩
  · rw [u1 0 2 (by omega) (by omega), u2 0 8 (by omega) (by omega)]; exact c1
  · rw [u1 0 3 (by omega) (by omega), u2 1 0 (by omega) (by omega)]; exact c2
  · rw [u1 0 4 (by omega) (by omega), u2 1 1 (by omega) (by omega)]; exact c3
  · rw [u1 0 5 (by omega) (by omega), u2 1 2 (by omega) (by omega)]; exact c4
  · by_cases hjk : j = k
    · subst hjk
      simp only [if_true]
      refine ⟨by rw [ld_self]; exact hV, ⟨fun c hc => ⟨?_, ?_⟩, ?_, ?_, fun q hq => ?_⟩, ⟨fun c hc => ⟨?_, ?_⟩, fun i hi => ⟨?_, ?_, ?_⟩, ?_, ?_⟩⟩
      · rw [up_ne (by omega), show 37 + 5 * j = 36 + 5 * j + 1 from by omega, (t1 c hc).1]; exact (hC.1.2.2.2 c hc).1
      · rw [up_ne (by omega), show 38 + 5 * j = 36 + 5 * j + 2 from by omega, (t1 c hc).2]; exact (hC.1.2.2.2 c hc).2
      · rw [up_ne (by omega), t2]; exact hC.1.2.2.1
      · rw [up_ne (by omega), show 39 + 5 * j = 36 + 5 * j + 3 from by omega, t3]; exact hC.2.2.2.2.2.2.2.2.2.1
      · rw [up_ne (by omega), show 40 + 5 * j = 36 + 5 * j + 4 from by omega, t4 q (by omega)]; exact hC.2.2.2.2.2.2.2.2.2.2 q hq
      · rw [up_ne (by omega), (s1 c hc).1]; exact (hF c hc).1
      · rw [up_ne (by omega), (s1 c hc).2]; exact hM.2.2.1 c hc
      · rw [up_ne (by omega), s2 (3 * i) (by omega)]; exact (hM.2.2.2.2.2.2.2.2 i hi).1
      · rw [up_ne (by omega), s2 (3 * i + 1) (by omega)]; exact (hM.2.2.2.2.2.2.2.2 i hi).2.1
      · rw [up_ne (by omega), s2 (3 * i + 2) (by omega)]; exact (hM.2.2.2.2.2.2.2.2 i hi).2.2
      · rw [up_ne (by omega), s3]; exact hM.1.2.2.2.2
      · rw [up_ne (by omega), s4]; exact hM.2.1.2.2.2.2.2
    · simp only [if_neg hjk]
      have z := i4 j (by omega)
      have w1 : ∀ a b, (36 + 5 * j ≤ a ∧ a ≤ 40 + 5 * j) → am_up M1 0 10 (i32 ((k : Int) + 1)) a b = Mc a b := fun a b w => by rw [up_ne (by omega), t5 a b (by omega) (by omega) (by omega) (by omega) (by omega)]
      have w2 : ∀ b, b < 229 * k → am_up M2 0 65 (i32 ((k : Int) + 1)) 28 b = Mm 28 b := fun b w => by rw [up_ne (by omega), s5 28 b (by omega)]
      obtain ⟨z1, ⟨y1, y2, y3, y4⟩, ⟨x1, x2, x3, x4⟩⟩ := z
      have hL := z1.ns.2.2.2.2.2
      have hL' : 0 ≤ I j 0 10 ∧ I j 0 10 ≤ 9 := hL
      exact ⟨z1, ⟨fun c hc => ⟨(w1 _ _ (by omega)).trans (y1 c hc).1, (w1 _ _ (by omega)).trans (y1 c hc).2⟩, (w1 _ _ (by omega)).trans y2, (w1 _ _ (by omega)).trans y3, fun q hq => (w1 _ _ (by omega)).trans (y4 q hq)⟩, ⟨fun c hc => ⟨(w2 _ (by omega)).trans (x1 c hc).1, (w2 _ (by omega)).trans (x1 c hc).2⟩, fun i hi => ⟨(w2 _ (by omega)).trans (x2 i hi).1, (w2 _ (by omega)).trans (x2 i hi).2.1, (w2 _ (by omega)).trans (x2 i hi).2.2⟩, (w2 _ (by omega)).trans x3, (w2 _ (by omega)).trans x4⟩⟩
  · exact ⟨⟨(u1 20 1 (by omega) (by omega)).trans r1.1, (u1 20 2 (by omega) (by omega)).trans r1.2⟩, ⟨(u1 22 1 (by omega) (by omega)).trans r2.1, (u1 22 2 (by omega) (by omega)).trans r2.2⟩, ⟨(u1 24 1 (by omega) (by omega)).trans r3.1, (u1 24 2 (by omega) (by omega)).trans r3.2⟩, ⟨(u1 26 1 (by omega) (by omega)).trans r4.1, (u1 26 2 (by omega) (by omega)).trans r4.2⟩, ⟨(u1 28 1 (by omega) (by omega)).trans r5.1, (u1 28 2 (by omega) (by omega)).trans r5.2⟩, ⟨(u1 33 1 (by omega) (by omega)).trans r6.1, (u1 33 2 (by omega) (by omega)).trans r6.2⟩⟩
theorem op_image (hN : 4200 ≤ N) (h : Inv Mc Mm) : OP0 (f_X9_image N Mc) (f_X10_image N Mm) := by
  obtain ⟨V, hV, hC, hM, hF, hI⟩ := h
  obtain ⟨ni, hn, e1, e2⟩ := hI.im
  unfold f_X9_image f_X10_image
  rw [show am_up Mm 0 0 0 = M00 Mm from rfl, e1, e2]
  have hk : ni = 0 ∨ ni = 1 ∨ ni = 2 ∨ ni = 3 := by omega
  rcases hk with rfl | rfl | rfl | rfl
  · rw [if_neg (show ¬ (i32 0 = 3) by decide), if_pos (show i32 0 < 3 by decide), if_pos (show i32 0 = 0 by decide)]
    obtain ⟨M1, q1, t⟩ := tk_36_13 (N := N) Mc
    obtain ⟨M2, q2, s⟩ := wp_vv (m_keep1 (N := N) (by omega) (k := 0) (by omega) (M00 Mm))
    rw [q1, am_bv_v, show f_X10_keepsAll N (i32 0) 1 (M00 Mm) = _ from q2, am_bv_v]
    have g1 : M1 0 10 = i32 0 := (t.2.2.2.2 0 10 (by omega) (by omega) (by omega) (by omega) (by omega)).trans e1
    have g2 : M2 0 65 = i32 0 := (s.2.2.2.2 0 65 (by omega)).trans ((M00_n (by omega)).trans e2)
    rw [g1, g2, i32_1, i32_add]
    exact ⟨_, _, _, rfl, rfl, Inv.img hV hC hM.z hF.z hI.z (k := 0) (by omega) e1 t s⟩
  · rw [if_neg (show ¬ (i32 1 = 3) by decide), if_pos (show i32 1 < 3 by decide), if_neg (show ¬ (i32 1 = 0) by decide), if_pos (show i32 1 = 1 by decide)]
    obtain ⟨M1, q1, t⟩ := tk_41_13 (N := N) Mc
    obtain ⟨M2, q2, s⟩ := wp_vv (m_keep1 (N := N) (by omega) (k := 1) (by omega) (M00 Mm))
    rw [q1, am_bv_v, show f_X10_keepsAll N (i32 1) 1 (M00 Mm) = _ from q2, am_bv_v]
    have g1 : M1 0 10 = i32 1 := (t.2.2.2.2 0 10 (by omega) (by omega) (by omega) (by omega) (by omega)).trans e1
    have g2 : M2 0 65 = i32 1 := (s.2.2.2.2 0 65 (by omega)).trans ((M00_n (by omega)).trans e2)
    rw [g1, g2, i32_1, i32_add]
    exact ⟨_, _, _, rfl, rfl, Inv.img hV hC hM.z hF.z hI.z (k := 1) (by omega) e1 t s⟩
  · rw [if_neg (show ¬ (i32 2 = 3) by decide), if_pos (show i32 2 < 3 by decide), if_neg (show ¬ (i32 2 = 0) by decide), if_neg (show ¬ (i32 2 = 1) by decide), if_pos (show i32 2 = 2 by decide)]
    obtain ⟨M1, q1, t⟩ := tk_46_13 (N := N) Mc
    obtain ⟨M2, q2, s⟩ := wp_vv (m_keep1 (N := N) (by omega) (k := 2) (by omega) (M00 Mm))
    rw [q1, am_bv_v, show f_X10_keepsAll N (i32 2) 1 (M00 Mm) = _ from q2, am_bv_v]
    have g1 : M1 0 10 = i32 2 := (t.2.2.2.2 0 10 (by omega) (by omega) (by omega) (by omega) (by omega)).trans e1
    have g2 : M2 0 65 = i32 2 := (s.2.2.2.2 0 65 (by omega)).trans ((M00_n (by omega)).trans e2)
    rw [g1, g2, i32_1, i32_add]
    exact ⟨_, _, _, rfl, rfl, Inv.img hV hC hM.z hF.z hI.z (k := 2) (by omega) e1 t s⟩
  · rw [if_pos (show i32 3 = 3 by decide), if_neg (show ¬ (i32 3 < 3) by decide)]
    exact OP0.good hV hC hM.z hF.z hI.z (wp_i ⟨rfl, sC.rfl⟩) (wp_i ⟨rfl, sM.rfl⟩)
/-- back to the latest image -/
theorem Inv.rst (hV : VX V) (hC : RC V Mc) (hM : RT V Mm) (hF : RF V Mm) (hI : IR V Mc Mm) {k : Nat} (hk : k < 3) (hn : Mc 0 10 = i32 ((k : Int) + 1)) {M1 M2 : am_M} (h1 : TK 13 (36 + 5 * k) (am_up Mc 0 10 (i32 (k : Int))) M1) (h2 : KT k (am_up Mm 0 65 (i32 (k : Int))) M2) : Inv M1 M2 := by
  obtain ⟨t1, t2, t3, t4, t5⟩ := h1
  obtain ⟨s1, s2, s3, s4, s5⟩ := h2
  have u1 : ∀ a b, (a < 13 ∨ 17 < a) → (a ≠ 0 ∨ b ≠ 10) → M1 a b = Mc a b := fun a b w1 w2 => by rw [t5 a b (by omega) (by omega) (by omega) (by omega) (by omega), up_ne w2]
  have u2 : ∀ a b, a ≠ 10 → a ≠ 11 → a ≠ 25 → (a ≠ 0 ∨ (b ≠ 42 ∧ b ≠ 60 ∧ b ≠ 65)) → M2 a b = Mm a b := fun a b w1 w2 w3 w4 => by rw [s5 a b w1 w2 w3 (by omega), up_ne (by omega)]
  obtain ⟨T, tp, I, ni, ⟨p1, p2, p3, p4⟩, ⟨c1, c2, c3, c4, c5⟩, ⟨i1, i2, i3, i4⟩, ⟨r1, r2, r3, r4, r5, r6⟩⟩ := hI
  have hnk : ni = (k : Int) + 1 := by
    rw [hn] at i2
    exact ((i32_eq (by omega) (by omega) (by omega) (by omega)).mp i2).symm
  obtain ⟨z1, ⟨y1, y2, y3, y4⟩, ⟨x1, x2, x3, x4⟩⟩ := i4 k (by omega)
  have hL : 0 ≤ I k 0 10 ∧ I k 0 10 ≤ 9 := z1.ns.2.2.2.2.2
  refine ⟨ld V (I k), z1, ?_, ?_, fun c hc => ⟨?_, ?_⟩, ?_⟩
  · obtain ⟨g1, g2, g3, g4, g5, g6, g7, g8⟩ := hC
    refine ⟨⟨(u1 2 0 (by omega) (by omega)).trans g1.1, (u1 2 1 (by omega) (by omega)).trans g1.2.1, ?_, fun c hc => ⟨?_, ?_⟩⟩, ⟨(u1 2 2 (by omega) (by omega)).trans g2.1, (u1 2 3 (by omega) (by omega)).trans g2.2⟩, g3.of (fun a b w => u1 a b (by omega) (by omega)), g4.of (fun a b w => u1 a b (by omega) (by omega)), g5.of (fun a b w => u1 a b (by omega) (by omega)), g6.of (fun a b w => u1 a b (by omega) (by omega)), g7.of (fun a b w => u1 a b (by omega) (by omega)), ⟨?_, ?_, ?_, fun j hj => ?_⟩⟩
    · rw [t2, up_ne (by omega)]; exact y2
    · rw [(t1 c hc).1, up_ne (by omega), show 36 + 5 * k + 1 = 37 + 5 * k from by omega]; exact (y1 c hc).1
    · rw [(t1 c hc).2, up_ne (by omega), show 36 + 5 * k + 2 = 38 + 5 * k from by omega]; exact (y1 c hc).2
    · rw [t5 16 1 (by omega) (by omega) (by omega) (by omega) (by omega), up_ne (by omega)]; exact g8.1
    · rw [t5 16 2 (by omega) (by omega) (by omega) (by omega) (by omega), up_ne (by omega)]; exact g8.2.1
    · rw [show 16 = 13 + 3 from rfl, t3, up_ne (by omega), show 36 + 5 * k + 3 = 39 + 5 * k from by omega]; exact y3
    · have hj' : (j : Int) < I k 0 10 * 4 := hj
      rw [show 17 = 13 + 4 from rfl, t4 j (by omega), up_ne (by omega), show 36 + 5 * k + 4 = 40 + 5 * k from by omega]; exact y4 j hj'
  · obtain ⟨g1, g2, g3, g4, g5, g6, g7, g8, g9⟩ := hM
    refine ⟨⟨(u2 _ _ (by omega) (by omega) (by omega) (by omega)).trans g1.1, (u2 _ _ (by omega) (by omega) (by omega) (by omega)).trans g1.2.1, (u2 _ _ (by omega) (by omega) (by omega) (by omega)).trans g1.2.2.1, (u2 _ _ (by omega) (by omega) (by omega) (by omega)).trans g1.2.2.2.1, ?_⟩, ⟨(u2 _ _ (by omega) (by omega) (by omega) (by omega)).trans g2.1, (u2 _ _ (by omega) (by omega) (by omega) (by omega)).trans g2.2.1, (u2 _ _ (by omega) (by omega) (by omega) (by omega)).trans g2.2.2.1, (u2 _ _ (by omega) (by omega) (by omega) (by omega)).trans g2.2.2.2.1, (u2 _ _ (by omega) (by omega) (by omega) (by omega)).trans g2.2.2.2.2.1, ?_⟩, fun d hd => ?_, fun j hj => (u2 _ _ (by omega) (by omega) (by omega) (by omega)).trans (g4 j hj), fun i hi => ⟨(u2 _ _ (by omega) (by omega) (by omega) (by omega)).trans (g5 i hi).1, (u2 _ _ (by omega) (by omega) (by omega) (by omega)).trans (g5 i hi).2⟩, fun j hj => (u2 _ _ (by omega) (by omega) (by omega) (by omega)).trans (g6 j hj), fun i hi => ⟨(u2 _ _ (by omega) (by omega) (by omega) (by omega)).trans (g7 i hi).1, (u2 _ _ (by omega) (by omega) (by omega) (by omega)).trans (g7 i hi).2⟩, fun i hi => (u2 _ _ (by omega) (by omega) (by omega) (by omega)).trans (g8 i hi), fun i hi => ?_⟩
    · rw [s3, up_ne (by omega)]; exact x3
    · rw [s4, up_ne (by omega)]; exact x4
    · rw [(s1 d hd).2, up_ne (by omega)]; exact (x1 d hd).2
    · have hi' : (i : Int) < I k 0 10 := hi
      rw [s2 (3 * i) (by omega), s2 (3 * i + 1) (by omega), s2 (3 * i + 2) (by omega), up_ne (by omega), up_ne (by omega), up_ne (by omega)]
      exact x2 i hi'
  · rw [(s1 c hc).1, up_ne (by omega)]; exact (x1 c hc).1
  · rw [u2 21 c (by omega) (by omega) (by omega) (by omega)]; exact (hF c hc).2
  · have hIR : IR V M1 M2 := by
      refine ⟨T, tp, I, (k : Int), ⟨p1, (u1 0 1 (by omega) (by omega)).trans p2, (u2 0 2 (by omega) (by omega) (by omega) (by omega)).trans p3, fun i hi => ⟨(p4 i hi).1, (u1 1 i (by omega) (by omega)).trans (p4 i hi).2.1, (u2 2 i (by omega) (by omega) (by omega) (by omega)).trans (p4 i hi).2.2⟩⟩, ⟨?_, ?_, ?_, ?_, (u1 51 6 (by omega) (by omega)).trans c5⟩, ⟨by omega, ?_, ?_, fun j hj => ?_⟩, ?_⟩
      · rw [u1 0 2 (by omega) (by omega), u2 0 8 (by omega) (by omega) (by omega) (by omega)]; exact c1
      · rw [u1 0 3 (by omega) (by omega), u2 1 0 (by omega) (by omega) (by omega) (by omega)]; exact c2
      · rw [u1 0 4 (by omega) (by omega), u2 1 1 (by omega) (by omega) (by omega) (by omega)]; exact c3
      · rw [u1 0 5 (by omega) (by omega), u2 1 2 (by omega) (by omega) (by omega) (by omega)]; exact c4
      · rw [t5 0 10 (by omega) (by omega) (by omega) (by omega) (by omega), up_eq]
      · rw [s5 0 65 (by omega) (by omega) (by omega) (by omega), up_eq]
      · have z := i4 j (by omega)
        exact ⟨z.1, z.2.1.fr (by omega) (fun a b w => u1 a b (by omega) (by omega)), z.2.2.fr (fun b => u2 28 b (by omega) (by omega) (by omega) (by omega))⟩
      · exact ⟨⟨(u1 20 1 (by omega) (by omega)).trans r1.1, (u1 20 2 (by omega) (by omega)).trans r1.2⟩, ⟨(u1 22 1 (by omega) (by omega)).trans r2.1, (u1 22 2 (by omega) (by omega)).trans r2.2⟩, ⟨(u1 24 1 (by omega) (by omega)).trans r3.1, (u1 24 2 (by omega) (by omega)).trans r3.2⟩, ⟨(u1 26 1 (by omega) (by omega)).trans r4.1, (u1 26 2 (by omega) (by omega)).trans r4.2⟩, ⟨(u1 28 1 (by omega) (by omega)).trans r5.1, (u1 28 2 (by omega) (by omega)).trans r5.2⟩, ⟨(u1 33 1 (by omega) (by omega)).trans r6.1, (u1 33 2 (by omega) (by omega)).trans r6.2⟩⟩
    refine hIR.vv (fun a b w => ?_)
    unfold ld
    rw [if_neg w]
theorem op_restore (hN : 4200 ≤ N) (h : Inv Mc Mm) : OP0 (f_X9_restore N Mc) (f_X10_restore N Mm) := by
  obtain ⟨V, hV, hC, hM, hF, hI⟩ := h
  obtain ⟨ni, hn, e1, e2⟩ := hI.im
  unfold f_X9_restore f_X10_restore
  rw [show am_up Mm 0 0 0 = M00 Mm from rfl, e1, e2]
  have hk : ni = 0 ∨ ni = 1 ∨ ni = 2 ∨ ni = 3 := by omega
  rcases hk with rfl | rfl | rfl | rfl
  · rw [if_pos (show i32 0 = 0 by decide), if_neg (show ¬ (0 < i32 0) by decide)]
    exact OP0.good hV hC hM.z hF.z hI.z (wp_i ⟨rfl, sC.rfl⟩) (wp_i ⟨rfl, sM.rfl⟩)
  · rw [show i32 1 - 1 = i32 0 from by decide, if_neg (show ¬ (i32 1 = 0) by decide), if_pos (show 0 < i32 1 by decide), if_pos (show i32 0 = 0 by decide)]
    obtain ⟨M1, q1, t⟩ := tk_13_36 (N := N) (am_up Mc 0 10 (i32 0))
    obtain ⟨M2, q2, s⟩ := wp_vv (m_keep0 (N := N) (by omega) (k := 0) (by omega) (am_up (M00 Mm) 0 65 (i32 0)))
    rw [q1, am_bv_v, show f_X10_keepsAll N (i32 0) 0 (am_up (M00 Mm) 0 65 (i32 0)) = _ from q2, am_bv_v]
    have g1 : M1 0 10 = i32 0 := (t.2.2.2.2 0 10 (by omega) (by omega) (by omega) (by omega) (by omega)).trans (up_eq _ _ _ _)
    have g2 : M2 0 65 = i32 0 := (s.2.2.2.2 0 65 (by omega) (by omega) (by omega) (by omega)).trans (up_eq _ _ _ _)
    rw [g1, g2]
    exact ⟨_, _, _, rfl, rfl, Inv.rst hV hC hM.z hF.z hI.z (k := 0) (by omega) e1 t s⟩
  · rw [show i32 2 - 1 = i32 1 from by decide, if_neg (show ¬ (i32 2 = 0) by decide), if_pos (show 0 < i32 2 by decide), if_neg (show ¬ (i32 1 = 0) by decide), if_pos (show i32 1 = 1 by decide)]
    obtain ⟨M1, q1, t⟩ := tk_13_41 (N := N) (am_up Mc 0 10 (i32 1))
    obtain ⟨M2, q2, s⟩ := wp_vv (m_keep0 (N := N) (by omega) (k := 1) (by omega) (am_up (M00 Mm) 0 65 (i32 1)))
    rw [q1, am_bv_v, show f_X10_keepsAll N (i32 1) 0 (am_up (M00 Mm) 0 65 (i32 1)) = _ from q2, am_bv_v]
    have g1 : M1 0 10 = i32 1 := (t.2.2.2.2 0 10 (by omega) (by omega) (by omega) (by omega) (by omega)).trans (up_eq _ _ _ _)
    have g2 : M2 0 65 = i32 1 := (s.2.2.2.2 0 65 (by omega) (by omega) (by omega) (by omega)).trans (up_eq _ _ _ _)
    rw [g1, g2]
    exact ⟨_, _, _, rfl, rfl, Inv.rst hV hC hM.z hF.z hI.z (k := 1) (by omega) e1 t s⟩
  · rw [show i32 3 - 1 = i32 2 from by decide, if_neg (show ¬ (i32 3 = 0) by decide), if_pos (show 0 < i32 3 by decide), if_neg (show ¬ (i32 2 = 0) by decide), if_neg (show ¬ (i32 2 = 1) by decide), if_pos (show i32 2 = 2 by decide)]
    obtain ⟨M1, q1, t⟩ := tk_13_46 (N := N) (am_up Mc 0 10 (i32 2))
    obtain ⟨M2, q2, s⟩ := wp_vv (m_keep0 (N := N) (by omega) (k := 2) (by omega) (am_up (M00 Mm) 0 65 (i32 2)))
    rw [q1, am_bv_v, show f_X10_keepsAll N (i32 2) 0 (am_up (M00 Mm) 0 65 (i32 2)) = _ from q2, am_bv_v]
    have g1 : M1 0 10 = i32 2 := (t.2.2.2.2 0 10 (by omega) (by omega) (by omega) (by omega) (by omega)).trans (up_eq _ _ _ _)
    have g2 : M2 0 65 = i32 2 := (s.2.2.2.2 0 65 (by omega) (by omega) (by omega) (by omega)).trans (up_eq _ _ _ _)
    rw [g1, g2]
    exact ⟨_, _, _, rfl, rfl, Inv.rst hV hC hM.z hF.z hI.z (k := 2) (by omega) e1 t s⟩
end IM
