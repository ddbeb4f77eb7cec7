/-! THE ABSTRACT HEAP IN THE MACHINE'S -/
def am_tv (ad : Nat → Nat) (v : Value) : Value := match v with
  | .ref a => .ref (ad a)
  | .int x => .int x
  | .long x => .long x
  | .float x => .float x
  | .double x => .double x
  | .null => .null
  | .retAddr x => .retAddr x
def am_fv (ad : Nat → Nat) (m : Nat → Int32) (j : Nat) (o : Option Nat) : Value := match o with
  | some r => .ref (ad r)
  | none => .int (m j)
def am_fs (ad : Nat → Nat) (m : Nat → Int32) : Nat → List (Option Nat) → List Value
  | _, [] => []
  | j, o :: t => am_fv ad m j o :: am_fs ad m (j + 1) t
def am_ce (ad : Nat → Nat) (cy : Nat → ClassId) (M : am_M) (k : Nat) (c : am_Sc) : va_E := match c with
  | .inl (t, n) => .inl (cy t, n, .inl (M k))
  | .inr (.inl (ci, fs)) => .inr (ci, am_fs ad (M k) 0 fs)
  | .inr (.inr rs) => .inl (cy 3, rs.length, .inr (.inr (.inr (.inr (fun j => some (ad (rs.getD j 0)))))))
def am_wdA (ad : Nat → Nat) (cy : Nat → ClassId) (M : am_M) : Nat → List am_Sc → va_W
  | _, [] => []
  | k, c :: t => (ad k, am_ce ad cy M k c) :: am_wdA ad cy M (k + 1) t
def am_wd (ad : Nat → Nat) (cy : Nat → ClassId) (sh : List am_Sc) (M : am_M) : va_W := am_wdA ad cy M 0 sh
theorem am_wdA_at (ad : Nat → Nat) (cy : Nat → ClassId) (M : am_M) : ∀ (sh : List am_Sc) (k j : Nat), (am_wdA ad cy M k sh)[j]? = (sh[j]?).map (fun c => (ad (k + j), am_ce ad cy M (k + j) c)) := by
  intro sh
  induction sh with
  | nil => intro k j; rfl
  | cons c t ih =>
    intro k j
    cases j with
    | zero => rfl
    | succ j =>
      show (am_wdA ad cy M (k + 1) t)[j]? = _
      rw [ih (k + 1) j, List.getElem?_cons_succ, show k + 1 + j = k + (j + 1) by omega]
theorem am_wd_at (ad : Nat → Nat) (cy : Nat → ClassId) (sh : List am_Sc) (M : am_M) (k : Nat) : (am_wd ad cy sh M)[k]? = (sh[k]?).map (fun c => (ad k, am_ce ad cy M k c)) := by
  rw [am_wd, am_wdA_at, Nat.zero_add]
theorem am_wd_get {ad : Nat → Nat} {cy : Nat → ClassId} {sh : List am_Sc} {M : am_M} {k : Nat} {c : am_Sc} (h : sh[k]? = some c) : (am_wd ad cy sh M)[k]? = some (ad k, am_ce ad cy M k c) := by
  rw [am_wd_at, h]; rfl
theorem am_fs_at (ad : Nat → Nat) (m : Nat → Int32) : ∀ (fs : List (Option Nat)) (k j : Nat), (am_fs ad m k fs)[j]? = (fs[j]?).map (am_fv ad m (k + j)) := by
  intro fs
  induction fs with
  | nil => intro k j; rfl
  | cons c t ih =>
    intro k j
    cases j with
    | zero => rfl
    | succ j =>
      show (am_fs ad m (k + 1) t)[j]? = _
      rw [ih (k + 1) j, List.getElem?_cons_succ, show k + 1 + j = k + (j + 1) by omega]
theorem am_fs_get {ad : Nat → Nat} {m : Nat → Int32} {fs : List (Option Nat)} {j : Nat} {o : Option Nat} (h : fs[j]? = some o) : (am_fs ad m 0 fs)[j]? = some (am_fv ad m j o) := by
  rw [am_fs_at, h, Nat.zero_add]; rfl
theorem am_fs_len (ad : Nat → Nat) (m : Nat → Int32) : ∀ (fs : List (Option Nat)) (k : Nat), (am_fs ad m k fs).length = fs.length := by
  intro fs
  induction fs with
  | nil => intro k; rfl
  | cons c t ih => intro k; show (am_fs ad m (k + 1) t).length + 1 = _; rw [ih]; rfl
theorem am_up_same {M : am_M} {k i j : Nat} {v : Int32} (h : j ≠ k) : am_up M k i v j = M j := by
  funext b
  show (if j = k ∧ b = i then v else M j b) = M j b
  rw [if_neg (fun z => h z.1)]
theorem am_up_row {M : am_M} {k i : Nat} {v : Int32} : am_up M k i v k = upd (M k) i v := by
  funext b
  show (if k = k ∧ b = i then v else M k b) = if b = i then v else M k b
  by_cases e : b = i
  · rw [if_pos ⟨rfl, e⟩, if_pos e]
  · rw [if_neg (fun z => e z.2), if_neg e]
theorem am_upA_same {M : am_M} {k j : Nat} {f : Nat → Int32} (h : j ≠ k) : am_upA M k f j = M j := by
  show (if j = k then f else M j) = M j
  rw [if_neg h]
theorem am_upA_row {M : am_M} {k : Nat} {f : Nat → Int32} : am_upA M k f k = f := by
  show (if k = k then f else M k) = f
  rw [if_pos rfl]
theorem am_ce_same {ad : Nat → Nat} {cy : Nat → ClassId} {M M' : am_M} {k : Nat} {c : am_Sc} (h : M' k = M k) : am_ce ad cy M' k c = am_ce ad cy M k c := by
  rcases c with ⟨t, n⟩ | ⟨ci, fs⟩ | rs
  · show Sum.inl (cy t, n, Sum.inl (M' k)) = _; rw [h]; rfl
  · show Sum.inr (ci, am_fs ad (M' k) 0 fs) = _; rw [h]; rfl
  · rfl
theorem am_wd_set {ad : Nat → Nat} {cy : Nat → ClassId} {sh : List am_Sc} {M M' : am_M} {k : Nat} {c : am_Sc} (h : sh[k]? = some c) (ho : ∀ j, j ≠ k → M' j = M j) : (am_wd ad cy sh M).set k (ad k, am_ce ad cy M' k c) = am_wd ad cy sh M' := by
  refine List.ext_getElem? fun j => ?_
  by_cases e : j = k
  · subst e
    have hl : j < (am_wd ad cy sh M).length := (List.getElem?_eq_some_iff.mp (am_wd_get (ad := ad) (cy := cy) (M := M) h)).1
    rw [List.getElem?_set_self hl, am_wd_get h]
  · rw [List.getElem?_set_ne (fun z => e z.symm), am_wd_at, am_wd_at]
    cases hs : sh[j]? with
    | none => rfl
    | some d =>
      show some (ad j, am_ce ad cy M j d) = some (ad j, am_ce ad cy M' j d)
      rw [am_ce_same (ho j e)]
theorem am_wd_arr {ad : Nat → Nat} {cy : Nat → ClassId} {sh : List am_Sc} {M : am_M} {k t n i : Nat} {x : Int32} (h : sh[k]? = some (.inl (t, n))) : (am_wd ad cy sh M).set k (ad k, .inl (cy t, n, .inl (upd (M k) i x))) = am_wd ad cy sh (am_up M k i x) := by
  rw [← am_wd_set (M := M) (M' := am_up M k i x) h (fun j hj => am_up_same hj)]
  show _ = (am_wd ad cy sh M).set k (ad k, .inl (cy t, n, .inl (am_up M k i x k)))
  rw [am_up_row]
theorem am_wd_arrA {ad : Nat → Nat} {cy : Nat → ClassId} {sh : List am_Sc} {M : am_M} {k t n : Nat} {f : Nat → Int32} (h : sh[k]? = some (.inl (t, n))) : (am_wd ad cy sh M).set k (ad k, .inl (cy t, n, .inl f)) = am_wd ad cy sh (am_upA M k f) := by
  rw [← am_wd_set (M := M) (M' := am_upA M k f) h (fun j hj => am_upA_same hj)]
  show _ = (am_wd ad cy sh M).set k (ad k, .inl (cy t, n, .inl (am_upA M k f k)))
  rw [am_upA_row]
theorem am_fs_set {ad : Nat → Nat} {m : Nat → Int32} {fs : List (Option Nat)} {j : Nat} {v : Int32} (h : fs[j]? = some none) : (am_fs ad m 0 fs).set j (.int v) = am_fs ad (upd m j v) 0 fs := by
  refine List.ext_getElem? fun i => ?_
  have hl : j < (am_fs ad m 0 fs).length := by rw [am_fs_len]; exact (List.getElem?_eq_some_iff.mp h).1
  by_cases e : i = j
  · subst e
    rw [List.getElem?_set_self hl, am_fs_get h]
    show some (Value.int v) = some (Value.int (if i = i then v else m i))
    rw [if_pos rfl]
  · rw [List.getElem?_set_ne (fun z => e z.symm), am_fs_at, am_fs_at]
    cases hs : fs[i]? with
    | none => rfl
    | some d =>
      cases d with
      | some r => rfl
      | none =>
        show some (Value.int (m (0 + i))) = some (Value.int (if 0 + i = j then v else m (0 + i)))
        rw [if_neg (by omega)]
theorem am_wd_fld {ad : Nat → Nat} {cy : Nat → ClassId} {sh : List am_Sc} {M : am_M} {k ci j : Nat} {fs : List (Option Nat)} {v : Int32} (h : sh[k]? = some (.inr (.inl (ci, fs)))) (hf : fs[j]? = some none) : (am_wd ad cy sh M).set k (ad k, .inr (ci, (am_fs ad (M k) 0 fs).set j (.int v))) = am_wd ad cy sh (am_up M k j v) := by
  rw [am_fs_set hf, ← am_wd_set (M := M) (M' := am_up M k j v) h (fun j hj => am_up_same hj)]
  show _ = (am_wd ad cy sh M).set k (ad k, .inr (ci, am_fs ad (am_up M k j v k) 0 fs))
  rw [am_up_row]
theorem am_wd_D {ad : Nat → Nat} {cy : Nat → ClassId} {sh : List am_Sc} {M M' : am_M} {A : Nat → Prop} (h : va_D A (am_wd ad cy sh M)) : va_D A (am_wd ad cy sh M') := by
  have key : ∀ (k : Nat) (q : Nat × va_E), (am_wd ad cy sh M')[k]? = some q → ∃ q0, (am_wd ad cy sh M)[k]? = some q0 ∧ q0.1 = q.1 := by
    intro k q hk
    rw [am_wd_at] at hk
    cases hs : sh[k]? with
    | none => rw [hs] at hk; cases hk
    | some d => rw [hs] at hk; cases hk; exact ⟨_, am_wd_get hs, rfl⟩
  refine ⟨fun i j p q hi hj e => ?_, fun k q hk => ?_⟩
  · obtain ⟨p0, h1, h2⟩ := key i p hi
    obtain ⟨q0, h3, h4⟩ := key j q hj
    exact h.1 i j p0 q0 h1 h3 (by rw [h2, h4]; exact e)
  · obtain ⟨q0, h1, h2⟩ := key k q hk
    have := h.2 k q0 h1
    rw [h2] at this
    exact this
/-- the locals -/
def am_L (ad : Nat → Nat) (ls : Array Slot) (nL : Nat) (L : am_Ls) : Prop := ls.size = nL ∧ lv_wf ls ∧ L.length = nL ∧ ∀ (i : Nat) (v : Value), L[i]? = some (some v) → v.category = 1 ∧ ls[i]? = some (.val (am_tv ad v))
def am_lvA (ad : Nat → Nat) : Nat → am_Ls → List (Nat × Value)
  | _, [] => []
  | k, some v :: t => (k, am_tv ad v) :: am_lvA ad (k + 1) t
  | k, none :: t => am_lvA ad (k + 1) t
theorem am_lvA_mem {ad : Nat → Nat} : ∀ (L : am_Ls) (k j : Nat) (v : Value), L[j]? = some (some v) → (k + j, am_tv ad v) ∈ am_lvA ad k L := by
  intro L
  induction L with
  | nil => intro k j v h; cases h
  | cons o t ih =>
    intro k j v h
    cases j with
    | zero => cases h; exact List.mem_cons_self
    | succ j =>
      have h2 := ih (k + 1) j v h
      rw [show k + 1 + j = k + (j + 1) by omega] at h2
      cases o with
      | none => exact h2
      | some w => exact List.mem_cons_of_mem _ h2
theorem am_lvA_of {ad : Nat → Nat} : ∀ (L : am_Ls) (k : Nat) (q : Nat × Value), q ∈ am_lvA ad k L → ∃ j v, L[j]? = some (some v) ∧ q = (k + j, am_tv ad v) := by
  intro L
  induction L with
  | nil => intro k q h; cases h
  | cons o t ih =>
    intro k q h
    cases o with
    | none =>
      obtain ⟨j, v, h1, h2⟩ := ih (k + 1) q h
      exact ⟨j + 1, v, h1, by rw [h2, show k + 1 + j = k + (j + 1) by omega]⟩
    | some w =>
      rcases List.mem_cons.mp h with h | h
      · exact ⟨0, w, rfl, h⟩
      · obtain ⟨j, v, h1, h2⟩ := ih (k + 1) q h
        exact ⟨j + 1, v, h1, by rw [h2, show k + 1 + j = k + (j + 1) by omega]⟩
theorem am_tv_cat (ad : Nat → Nat) (v : Value) : (am_tv ad v).category = v.category := by cases v <;> rfl
theorem am_L.has {ad : Nat → Nat} {ls : Array Slot} {nL : Nat} {L : am_Ls} (h : am_L ad ls nL L) : lv_has ls nL (am_lvA ad 0 L) := by
  refine ⟨h.1, h.2.1, fun q hq => ?_⟩
  obtain ⟨j, v, h1, h2⟩ := am_lvA_of L 0 q hq
  rw [h2, Nat.zero_add]
  exact (h.2.2.2 j v h1).2
theorem am_L.store {ad : Nat → Nat} {ls ls' : Array Slot} {nL k : Nat} {L : am_Ls} {x : Value} (h : am_L ad ls nL L) (hx : x.category = 1) (hk : k < nL)
    (h' : lv_has ls' nL ((k, am_tv ad x) :: (am_lvA ad 0 L).filter (fun q => !(q.1 == k) && !(q.1 + 1 == k && q.2.category == 2)))) : am_L ad ls' nL (L.set k (some x)) := by
  refine ⟨h'.1, h'.2.1, by rw [List.length_set]; exact h.2.2.1, fun i v hi => ?_⟩
  by_cases e : i = k
  · subst e
    rw [List.getElem?_set_self (by rw [h.2.2.1]; exact hk)] at hi
    cases hi
    exact ⟨hx, h'.2.2 _ List.mem_cons_self⟩
  · rw [List.getElem?_set_ne (fun z => e z.symm)] at hi
    have h1 := h.2.2.2 i v hi
    refine ⟨h1.1, h'.2.2 (i, am_tv ad v) (List.mem_cons_of_mem _ (List.mem_filter.mpr ⟨?_, ?_⟩))⟩
    · have := am_lvA_mem (ad := ad) L 0 i v hi
      rw [Nat.zero_add] at this
      exact this
    · show (!(i == k) && !(i + 1 == k && (am_tv ad v).category == 2)) = true
      rw [am_tv_cat, h1.1]
      simp [e]
theorem am_sub_entry (ad : Nat → Nat) (vs : List Value) (h : ∀ v ∈ vs, v.category = 1) : ∀ (k i : Nat) (v : Value), vs[i]? = some v → (k + i, am_tv ad v) ∈ lv_args k (vs.map (am_tv ad)) := by
  induction vs with
  | nil => intro k i v hi; cases hi
  | cons w t ih =>
    intro k i v hi
    have hw : (am_tv ad w).category = 1 := by rw [am_tv_cat]; exact h w List.mem_cons_self
    cases i with
    | zero =>
      cases hi
      show _ ∈ lv_args k (am_tv ad w :: t.map (am_tv ad))
      unfold lv_args
      first
        | exact List.mem_cons_self
        | (split <;> first | exact List.mem_cons_self | (rename_i q; rw [hw] at q; cases q))
    | succ i =>
      have h2 := ih (fun v hv => h v (List.mem_cons_of_mem _ hv)) (k + 1) i v hi
      rw [show k + 1 + i = k + (i + 1) by omega] at h2
      show _ ∈ lv_args k (am_tv ad w :: t.map (am_tv ad))
      unfold lv_args
      rw [hw]
      exact List.mem_cons_of_mem _ h2
