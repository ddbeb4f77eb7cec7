/-! a pool's row, kind by kind -/
theorem am_cb0 {own : String} {k ci j : Nat} {hs : List (Nat × Nat)} (h : am_cb own ((k, 0, ci, j), hs) = true) : ∃ C T N, vwCl[ci]? = some (C, T, N) ∧ j < N ∧ Cond.fieldLink own k (T j).1 (T j).2.1 (T j).2.2.1 ∈ am_gw ∧ ((T j).2.2.2 = true ∨ (T j).2.2.1 = "I") := by
  change (match vwCl[ci]? with
    | some (_, T, N) => Nat.blt j N && (am_hb (.fieldLink own k (T j).1 (T j).2.1 (T j).2.2.1) (am_h hs 0) && ((T j).2.2.2 || decide ((T j).2.2.1 = "I")))
    | none => false) = true at h
  split at h
  · rename_i C T N hcl
    simp only [Bool.and_eq_true, Bool.or_eq_true, decide_eq_true_eq] at h
    exact ⟨C, T, N, hcl, Nat.le_of_ble_eq_true h.1, am_hb_in h.2.1, h.2.2⟩
  · cases h
theorem am_cb9 {own : String} {k ci j : Nat} {hs : List (Nat × Nat)} (h : am_cb own ((k, 9, ci, j), hs) = true) : ∃ C T N, vwCl[ci]? = some (C, T, N) ∧ j < N ∧ Cond.fieldLink own k (T j).1 (T j).2.1 (T j).2.2.1 ∈ am_gw ∧ (T j).2.2.2 = false ∧ (T j).2.2.1 = "Z" := by
  change (match vwCl[ci]? with
    | some (_, T, N) => Nat.blt j N && (am_hb (.fieldLink own k (T j).1 (T j).2.1 (T j).2.2.1) (am_h hs 0) && (!(T j).2.2.2 && decide ((T j).2.2.1 = "Z")))
    | none => false) = true at h
  split at h
  · rename_i C T N hcl
    simp only [Bool.and_eq_true, Bool.not_eq_true', decide_eq_true_eq] at h
    exact ⟨C, T, N, hcl, Nat.le_of_ble_eq_true h.1, am_hb_in h.2.1, h.2.2⟩
  · cases h
theorem am_cb1 {own : String} {k n b : Nat} {hs : List (Nat × Nat)} (h : am_cb own ((k, 1, n, b), hs) = true) : n < 13 ∧ (own, k, n) ∈ am_srs := by
  change (Nat.blt n 13 && decide ((own, k, n) ∈ am_srs)) = true at h
  simp only [Bool.and_eq_true, decide_eq_true_eq] at h
  exact ⟨Nat.le_of_ble_eq_true h.1, h.2⟩
theorem am_cb2 {own : String} {k n b : Nat} {hs : List (Nat × Nat)} (h : am_cb own ((k, 2, n, b), hs) = true) : n < 4 ∧ Cond.fieldLink own k (am_sn n).1 (am_sn n).2.1 (am_sn n).2.2 ∈ am_gw := by
  change (Nat.blt n 4 && am_hb (.fieldLink own k (am_sn n).1 (am_sn n).2.1 (am_sn n).2.2) (am_h hs 0)) = true at h
  simp only [Bool.and_eq_true] at h
  exact ⟨Nat.le_of_ble_eq_true h.1, am_hb_in h.2⟩
theorem am_cb3 {own : String} {k n b : Nat} {hs : List (Nat × Nat)} {e : am_Me} (he : am_mt n = some e) (h : am_cb own ((k, 3, n, b), hs) = true) : (am_stc e = true → (b = 0 ∧ Cond.methodLink own k (am_y e) ∈ am_gw) ∨ (Cond.methodLinkNest own k (am_y e) "SoldEchoes" ∈ am_nst)) ∧ (am_stc e = false → Cond.methodLink own k (am_y e) ∈ am_gw ∧ ∃ C T N, vwCl[b]? = some (C, T, N) ∧ (am_y e).cls = C) := by
  change (match am_mt n with
    | some e => (bif am_stc e then (bif Nat.beq b 0 then am_hb (.methodLink own k (am_y e)) (am_h hs 0) else decide (Cond.methodLinkNest own k (am_y e) "SoldEchoes" ∈ am_nst))
        else am_hb (.methodLink own k (am_y e)) (am_h hs 0) && (match vwCl[b]? with
          | some (C, _, _) => decide ((am_y e).cls = C)
          | none => false))
    | none => false) = true at h
  rw [he] at h
  refine ⟨fun q => ?_, fun q => ?_⟩
  · simp only [q, cond_true] at h
    cases hb : Nat.beq b 0 with
    | true =>
      rw [hb] at h
      exact Or.inl ⟨Nat.eq_of_beq_eq_true hb, am_hb_in h⟩
    | false =>
      rw [hb] at h
      exact Or.inr (of_decide_eq_true h)
  · simp only [q, cond_false, Bool.and_eq_true] at h
    refine ⟨am_hb_in h.1, ?_⟩
    have h2 := h.2
    split at h2
    · rename_i C T N hcl
      exact ⟨C, T, N, hcl, of_decide_eq_true h2⟩
    · cases h2
theorem am_cb10 {own : String} {k n b : Nat} {hs : List (Nat × Nat)} {e : am_Me} (he : am_mt n = some e) (h : am_cb own ((k, 10, n, b), hs) = true) : Cond.methodLink own k (am_y e) ∈ am_gw ∧ (am_y e).cls = "java/lang/String" := by
  change (match am_mt n with
    | some e => am_hb (.methodLink own k (am_y e)) (am_h hs 0) && decide ((am_y e).cls = "java/lang/String")
    | none => false) = true at h
  rw [he] at h
  simp only [Bool.and_eq_true, decide_eq_true_eq] at h
  exact ⟨am_hb_in h.1, h.2⟩
theorem am_cb4 {own : String} {k x b : Nat} {hs : List (Nat × Nat)} (h : am_cb own ((k, 4, x, b), hs) = true) : Cond.classLink own k (am_exc x) ∈ am_gw ∧ Cond.initialized (am_exc x) ∈ am_gw := by
  change (am_hb (.classLink own k (am_exc x)) (am_h hs 0) && am_hb (.initialized (am_exc x)) (am_h hs 1)) = true at h
  simp only [Bool.and_eq_true] at h
  exact ⟨am_hb_in h.1, am_hb_in h.2⟩
theorem am_cb6 {own : String} {k a b : Nat} {hs : List (Nat × Nat)} (h : am_cb own ((k, 6, a, b), hs) = true) : Cond.methodLink own k arraycopyName ∈ am_gw ∧ Cond.native arraycopyName ∈ am_gw ∧ Cond.static arraycopyName ∈ am_gw ∧ Cond.initialized "java/lang/System" ∈ am_gw := by
  change (am_hb (.methodLink own k arraycopyName) (am_h hs 0) && (am_hb (.native arraycopyName) (am_h hs 1) && (am_hb (.static arraycopyName) (am_h hs 2) && am_hb (.initialized "java/lang/System") (am_h hs 3)))) = true at h
  simp only [Bool.and_eq_true] at h
  exact ⟨am_hb_in h.1, am_hb_in h.2.1, am_hb_in h.2.2.1, am_hb_in h.2.2.2⟩
theorem am_cb7 {own : String} {k a b : Nat} {hs : List (Nat × Nat)} (h : am_cb own ((k, 7, a, b), hs) = true) : Cond.fieldLink own k "java/lang/String" "value" "[B" ∈ am_gw := am_hb_in (i := am_h hs 0) h
theorem am_cb8 {own : String} {k a b : Nat} {hs : List (Nat × Nat)} (h : am_cb own ((k, 8, a, b), hs) = true) : Cond.fieldLink own k "java/lang/String" "coder" "B" ∈ am_gw := am_hb_in (i := am_h hs 0) h
theorem am_cb11 {own : String} {k a b : Nat} {hs : List (Nat × Nat)} (h : am_cb own ((k, 11, a, b), hs) = true) : Cond.methodLink own k Lib.Math.max.name ∈ am_gw ∧ Cond.static Lib.Math.max.name ∈ am_gw ∧ Cond.initialized "java/lang/Math" ∈ am_gw ∧ Cond.code Lib.Math.max.name Lib.Math.max.code 2 (some .int) ∈ am_gw := by
  change (am_hb (.methodLink own k Lib.Math.max.name) (am_h hs 0) && (am_hb (.static Lib.Math.max.name) (am_h hs 1) && (am_hb (.initialized "java/lang/Math") (am_h hs 2) && am_hb (.code Lib.Math.max.name Lib.Math.max.code 2 (some .int)) (am_h hs 3)))) = true at h
  simp only [Bool.and_eq_true] at h
  exact ⟨am_hb_in h.1, am_hb_in h.2.1, am_hb_in h.2.2.1, am_hb_in h.2.2.2⟩
theorem am_cb12 {own : String} {k a b : Nat} {hs : List (Nat × Nat)} (h : am_cb own ((k, 12, a, b), hs) = true) : Cond.methodLink own k Lib.Math.min.name ∈ am_gw ∧ Cond.static Lib.Math.min.name ∈ am_gw ∧ Cond.initialized "java/lang/Math" ∈ am_gw ∧ Cond.code Lib.Math.min.name Lib.Math.min.code 2 (some .int) ∈ am_gw := by
  change (am_hb (.methodLink own k Lib.Math.min.name) (am_h hs 0) && (am_hb (.static Lib.Math.min.name) (am_h hs 1) && (am_hb (.initialized "java/lang/Math") (am_h hs 2) && am_hb (.code Lib.Math.min.name Lib.Math.min.code 2 (some .int)) (am_h hs 3)))) = true at h
  simp only [Bool.and_eq_true] at h
  exact ⟨am_hb_in h.1, am_hb_in h.2.1, am_hb_in h.2.2.1, am_hb_in h.2.2.2⟩
theorem am_cb13 {own : String} {k a b : Nat} {hs : List (Nat × Nat)} (h : am_cb own ((k, 13, a, b), hs) = true) : Cond.methodLink own k Lib.Math.abs.name ∈ am_gw ∧ Cond.static Lib.Math.abs.name ∈ am_gw ∧ Cond.initialized "java/lang/Math" ∈ am_gw ∧ Cond.code Lib.Math.abs.name Lib.Math.abs.code 1 (some .int) ∈ am_gw := by
  change (am_hb (.methodLink own k Lib.Math.abs.name) (am_h hs 0) && (am_hb (.static Lib.Math.abs.name) (am_h hs 1) && (am_hb (.initialized "java/lang/Math") (am_h hs 2) && am_hb (.code Lib.Math.abs.name Lib.Math.abs.code 1 (some .int)) (am_h hs 3)))) = true at h
  simp only [Bool.and_eq_true] at h
  exact ⟨am_hb_in h.1, am_hb_in h.2.1, am_hb_in h.2.2.1, am_hb_in h.2.2.2⟩
