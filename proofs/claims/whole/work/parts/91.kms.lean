/-! THE CONSTRUCTORS' MACHINE IN THE MACHINE'S -/
def km_ad (b : Nat) : Nat → Nat := fun i => b + i
def km_ce (b : Nat) (cy : Nat → ClassId) (c : km_C) : va_E := match c with
  | .inl (t, n) => .inl (cy t, n, .inl (fun _ => 0))
  | .inr (.inl (ci, fs)) => .inr (ci, fs.map (am_tv (km_ad b)))
  | .inr (.inr l) => .inl (cy 3, l.length, .inr (.inr (.inr (.inr (fun j => (l.getD j none).map (km_ad b))))))
def km_wdA (b : Nat) (cy : Nat → ClassId) : Nat → List km_C → va_W
  | _, [] => []
  | k, c :: t => (b + k, km_ce b cy c) :: km_wdA b cy (k + 1) t
def km_wd (b : Nat) (cy : Nat → ClassId) (w : List km_C) : va_W := km_wdA b cy 0 w
abbrev km_A (b : Nat) : Nat → Prop := fun q => b ≤ q
theorem km_wdA_at (b : Nat) (cy : Nat → ClassId) : ∀ (w : List km_C) (k j : Nat), (km_wdA b cy k w)[j]? = (w[j]?).map (fun c => (b + (k + j), km_ce b cy c)) := by
  intro w
  induction w with
  | nil => intro k j; rfl
  | cons c t ih =>
    intro k j
    cases j with
    | zero => rfl
    | succ j =>
      show (km_wdA b cy (k + 1) t)[j]? = _
      rw [ih (k + 1) j, List.getElem?_cons_succ, show k + 1 + j = k + (j + 1) by omega]
theorem km_wd_at (b : Nat) (cy : Nat → ClassId) (w : List km_C) (j : Nat) : (km_wd b cy w)[j]? = (w[j]?).map (fun c => (b + j, km_ce b cy c)) := by
  rw [km_wd, km_wdA_at, Nat.zero_add]
theorem km_wd_get {b : Nat} {cy : Nat → ClassId} {w : List km_C} {k : Nat} {c : km_C} (h : w[k]? = some c) : (km_wd b cy w)[k]? = some (b + k, km_ce b cy c) := by
  rw [km_wd_at, h]; rfl
theorem km_wd_some {b : Nat} {cy : Nat → ClassId} {w : List km_C} {k : Nat} {q : Nat × va_E} (h : (km_wd b cy w)[k]? = some q) : k < w.length ∧ q.1 = b + k := by
  rw [km_wd_at] at h
  cases hw : w[k]? with
  | none => rw [hw] at h; cases h
  | some c =>
    rw [hw] at h
    cases h
    exact ⟨(List.getElem?_eq_some_iff.mp hw).1, rfl⟩
theorem km_wd_set {b : Nat} {cy : Nat → ClassId} {w : List km_C} {a : Nat} (c : km_C) (ha : a < w.length) : (km_wd b cy w).set a (b + a, km_ce b cy c) = km_wd b cy (w.set a c) := by
  refine List.ext_getElem? fun j => ?_
  rw [List.getElem?_set, km_wd_at, km_wd_at, List.getElem?_set]
  by_cases h : a = j
  · subst h
    have hl : a < (km_wd b cy w).length := by
      have := km_wd_get (b := b) (cy := cy) (List.getElem?_eq_getElem ha)
      exact (List.getElem?_eq_some_iff.mp this).1
    rw [if_pos rfl, if_pos hl, if_pos rfl, if_pos ha]
    rfl
  · rw [if_neg h, if_neg h]
theorem km_wd_len (b : Nat) (cy : Nat → ClassId) : ∀ (w : List km_C) (k : Nat), (km_wdA b cy k w).length = w.length := by
  intro w
  induction w with
  | nil => intro k; rfl
  | cons c t ih => intro k; show (km_wdA b cy (k + 1) t).length + 1 = t.length + 1; rw [ih]
theorem km_wd_app (b : Nat) (cy : Nat → ClassId) (w : List km_C) (c : km_C) : km_wd b cy (w ++ [c]) = km_wd b cy w ++ [(b + w.length, km_ce b cy c)] := by
  refine List.ext_getElem? fun j => ?_
  have hl : (km_wd b cy w).length = w.length := km_wd_len b cy w 0
  rw [km_wd_at]
  rcases Nat.lt_trichotomy j w.length with h | h | h
  · rw [List.getElem?_append_left h, List.getElem?_append_left (by rw [hl]; exact h), km_wd_at]
  · subst h
    rw [List.getElem?_append_right (Nat.le_refl _), List.getElem?_append_right (by rw [hl]; exact Nat.le_refl _), hl, Nat.sub_self]
    rfl
  · rw [List.getElem?_append_right (Nat.le_of_lt h), List.getElem?_append_right (by rw [hl]; exact Nat.le_of_lt h), hl]
    obtain ⟨d, hd⟩ : ∃ d, j - w.length = d + 1 := ⟨j - w.length - 1, by omega⟩
    rw [hd]
    rfl
theorem km_D (b : Nat) (cy : Nat → ClassId) (w : List km_C) : va_D (km_A b) (km_wd b cy w) := by
  refine ⟨fun i j p q hi hj h => ?_, fun k q hk => ?_⟩
  · have h1 := (km_wd_some hi).2
    have h2 := (km_wd_some hj).2
    omega
  · have h1 := (km_wd_some hk).2
    show b ≤ q.1
    omega
theorem km_sl_app (w : List km_C) (c : km_C) : km_sl (w ++ [c]) = km_sl w + km_sz c := by
  induction w with
  | nil => show km_sz c + 0 = 0 + km_sz c; omega
  | cons x t ih => show km_sz x + km_sl (t ++ [c]) = km_sz x + km_sl t + km_sz c; rw [ih]; omega
theorem km_sl_set : ∀ (w : List km_C) (a : Nat) (c c' : km_C), w[a]? = some c → km_sz c' = km_sz c → km_sl (w.set a c') = km_sl w := by
  intro w
  induction w with
  | nil => intro a c c' h; cases h
  | cons x t ih =>
    intro a c c' h hs
    cases a with
    | zero => cases h; show km_sz c' + km_sl t = km_sz x + km_sl t; rw [hs]
    | succ a => show km_sz x + km_sl (t.set a c') = km_sz x + km_sl t; rw [ih a c c' h hs]
/-- what a constructor's rows say -/
def km_ok (e : km_Me) : Prop := ∀ (pc : Nat) (i : Instr) (len a : Nat), km_at (km_pg e) pc = some (i, len, a) → decode (km_code e) pc = .ok (i, len) ∧ km_ob e i a = true ∧ ∀ w ∈ km_ws e i a, w ∈ am_gw
theorem km_at_in : ∀ (pg : km_Pg) (pc : Nat) (q : Instr × Nat × Nat), km_at pg pc = some q → (pc, q) ∈ pg := by
  intro pg
  induction pg with
  | nil => intro pc q h; cases h
  | cons x t ih =>
    intro pc q h
    unfold km_at at h
    cases hb : Nat.beq x.1 pc with
    | true =>
      rw [hb] at h
      have e : x.1 = pc := Nat.eq_of_beq_eq_true hb
      cases h
      subst e
      exact List.mem_cons_self
    | false => rw [hb] at h; exact List.mem_cons_of_mem _ (ih pc q h)
theorem km_ok_of {e : km_Me} {hs : List (List (Nat × Nat))} (h : ((km_pg e).zip hs).all (km_wb e) = true ∧ (km_pg e).length = hs.length) : km_ok e := by
  intro pc i len a hat
  obtain ⟨h9, hz⟩ := am_zip_in _ hs h.2 _ (km_at_in _ _ _ hat)
  have h1 := List.all_eq_true.mp h.1 _ hz
  unfold km_wb at h1
  simp only [Bool.and_eq_true] at h1
  obtain ⟨h2, h3, h4, h5⟩ := h1
  refine ⟨?_, h3, fun w hw => ?_⟩
  · unfold km_db at h2
    split at h2
    · rename_i j len' hd
      simp only [Bool.and_eq_true] at h2
      have e1 : len' = len := Nat.eq_of_beq_eq_true h2.1
      have e2 : j = i := of_decide_eq_true h2.2
      subst e1; subst e2
      exact hd
    · cases h2
  · obtain ⟨z, hz⟩ := am_zip_in _ h9 (Nat.eq_of_beq_eq_true h4) _ hw
    exact am_hb_in (List.all_eq_true.mp h5 _ hz)
/-- of each table: its words, types, names -/
theorem km_cls {ci : Nat} {C : String} {T : u_T} {N : Nat} (h : vwCl[ci]? = some (C, T, N)) : (∀ w ∈ u_ws C T N, w ∈ am_gw) ∧ (∀ k, k < N → parseFieldDescriptor (T k).2.2.1 = some (km_ty ci k)) ∧ (∀ a, a < N → ∀ b, b < N → a ≠ b → (T a).2.1 ≠ (T b).2.1) := by
  have h9 := am_cls h
  refine ⟨h9.1, ?_, h9.2.2⟩
  match ci, h with
  | 0, h => cases h; exact tyX0_ok
  | 1, h => cases h; exact tyX1_ok
  | 2, h => cases h; exact tyX2_ok
  | 3, h => cases h; exact tyX3_ok
  | 4, h => cases h; exact tyX4_ok
  | 5, h => cases h; exact tyX5_ok
  | 6, h => cases h; exact tyX6_ok
  | 7, h => cases h; exact tyX7_ok
  | 8, h => cases h; exact tyX8_ok
  | 9, h => cases h; exact tyX9_ok
  | 10, h => cases h; exact tyX10_ok
  | n + 11, h => exact absurd h (by simp [vwCl])
theorem km_tvd (b : Nat) (ty : FieldType) : am_tv (km_ad b) (defaultValue ty) = defaultValue ty := by cases ty <;> rfl
theorem km_fitk {ty : FieldType} {v : Value} (b : Nat) (h : km_fit ty v = true) : narrow ty (am_tv (km_ad b) v) = am_tv (km_ad b) v ∧ fits ty (am_tv (km_ad b) v) = true := by
  unfold km_fit at h
  split at h
  · exact ⟨rfl, rfl⟩
  · exact ⟨rfl, rfl⟩
  · exact ⟨rfl, rfl⟩
  · cases h
section KMS
variable {p : Program} {l : Launch} {en : Env} {R : Room} {s : State} {m : MethodId} {args : Array Value} {below : List Frame} {meth : Method} {c : Code} {H : Heap} {locs : List Loc} {Q : State → Prop} {cells slots : Nat}
variable {b n0 : Nat} {cy : Nat → ClassId} {D : va_G} {e : km_Me}
/-- the heap's size is known -/
theorem km_sized {g : JFrame} (kk : H.size ≤ s.heap.size + cells → W p l en R s m args below meth c H locs cells slots Q g) : W p l en R s m args below meth c H locs cells slots Q g :=
  fun T hT X => kk (by rw [← hT]; exact X.heapSize) T hT X
theorem km_size {w : List km_C} (h1 : H.size ≤ s.heap.size + cells) (h0 : s.heap.size = b + n0) (hc : cells + n0 = w.length) (hP : va_P D vwCl (km_wd b cy w) H) (hS : va_S (km_A b) s.heap H locs) : H.size = b + w.length := by
  have h2 := hS.1
  rcases Nat.eq_zero_or_pos w.length with h | h
  · omega
  · have h3 := hP (w.length - 1) _ (km_wd_get (List.getElem?_eq_getElem (by omega)))
    have h4 := h3.lt
    dsimp only at h4
    omega
/-- a new cell's address -/
theorem km_new {w : List km_C} {q : Nat} {E : va_E} {H1 : Heap} (h1 : H1.size ≤ s.heap.size + (cells + 1)) (h0 : s.heap.size = b + n0) (hc : cells + n0 = w.length) (hP : va_P D vwCl (km_wd b cy w ++ [(q, E)]) H1) (hD : va_D (km_A b) (km_wd b cy w ++ [(q, E)])) : q = b + w.length := by
  have hl : (km_wd b cy w).length = w.length := km_wd_len b cy w 0
  have hq : (km_wd b cy w ++ [(q, E)])[w.length]? = some (q, E) := by
    rw [List.getElem?_append_right (by rw [hl]; exact Nat.le_refl _), hl, Nat.sub_self]; rfl
  have h2 := (hP _ _ hq).lt
  have h3 : b ≤ q := hD.2 _ _ hq
  dsimp only at h2
  rcases Nat.lt_or_ge q (b + w.length) with h | h
  · exfalso
    have hj : q - b < w.length := by omega
    have h4 := km_wd_get (b := b) (cy := cy) (List.getElem?_eq_getElem hj)
    have h5 : (km_wd b cy w ++ [(q, E)])[q - b]? = some (b + (q - b), km_ce b cy w[q - b]) := by
      rw [List.getElem?_append_left (by rw [hl]; exact hj)]; exact h4
    have h6 := hD.1 _ _ _ _ hq h5 (by dsimp only; omega)
    omega
  · omega
/-- the body of a constructor -/
def km_bd (cy : Nat → ClassId) (D : va_G) (e : km_Me) (p : Program) (R : Room) (s : State) (m : MethodId) (args : Array Value) (meth : Method) (c : Code) : Prop :=
  km_ok e ∧ p.tables.exec = Jvm.exec ∧ c.code = km_code e ∧ c.maxLocals = km_mL e ∧ s.vm.findClass (km_y e).cls = some m.cls ∧ (∀ w ∈ am_gw, w.before args s = true) ∧ meth.locks = false ∧ meth.name = "<init>" ∧ va_K D vwCl (am_tys cy) s ∧ va_AO "SoldEchoes$Land" s ∧ 1 ≤ R.frames ∧ 24 ≤ R.locals ∧ km_fr e ≤ R.frames ∧ km_lc e ≤ R.locals
theorem km_cA {t : Nat} {ty : FieldType} {cA : ClassId} (hK : va_K D vwCl (am_tys cy) s) (hK' : va_K D vwCl (am_tys cy ++ [(cA, ty)]) s) (ht : (am_tys cy)[t]? = some (cy t, ty)) : cA = cy t := by
  have h1 := (hK.2 t _ ht).2
  have h2 := (hK'.2 4 (cA, ty) rfl).2
  cases ty with
  | object C =>
    obtain ⟨_, _, _, _, _, f1⟩ := h1
    obtain ⟨_, _, _, _, _, f2⟩ := h2
    exact Option.some.inj (f2.symm.trans f1)
  | _ => exact Option.some.inj (Eq.trans (Eq.symm h2) h1)
theorem km_pf_spec {w w1 : List km_C} {r ci j : Nat} {v : Value} (h : km_pf w r ci j v = some w1) : ∃ fs, w[r]? = some (.inr (.inl (ci, fs))) ∧ j < fs.length ∧ km_fit (km_ty ci j) v = true ∧ w1 = w.set r (.inr (.inl (ci, fs.set j v))) := by
  unfold km_pf at h
  split at h
  · rename_i c9 fs hw
    cases hb : (Nat.beq c9 ci && (Nat.blt j fs.length && km_fit (km_ty ci j) v)) with
    | false => rw [hb] at h; cases h
    | true =>
      rw [hb] at h
      simp only [Bool.and_eq_true] at hb
      have e1 := Nat.eq_of_beq_eq_true hb.1
      subst e1
      cases h
      exact ⟨fs, hw, Nat.le_of_ble_eq_true hb.2.1, hb.2.2, rfl⟩
  · cases h
theorem km_cat1 {st : List Value} (h : am_s1 st) (hl : st.length ≤ 8) : ((st.map (am_tv (km_ad b))).map fun v => v.category).sum ≤ 8 := by rw [am_cat _ h]; exact hl
theorem km_put (B : km_bd cy D e p R s m args meth c) {k len a pc r : Nat} {v : Value} {st : List Value} {w w1 : List km_C} {ls : Array Slot} (hat : km_at (km_pg e) pc = some (.putfield k, 3, a)) (hpf : km_pf w r (km_ci e) a v = some w1) (hP : va_P D vwCl (km_wd b cy w) H) (hS : va_S (km_A b) s.heap H locs)
    (kk : ∀ (H' : Heap) (locs' : List Loc), w1.length = w.length → km_sl w1 = km_sl w → va_P D vwCl (km_wd b cy w1) H' → va_S (km_A b) s.heap H' locs' → W p l en R s m args below meth c H' locs' cells slots Q (F0 m (pc + 3) ls (st.map (am_tv (km_ad b))))) :
    W p l en R s m args below meth c H locs cells slots Q (F0 m pc ls ((v :: .ref r :: st).map (am_tv (km_ad b)))) := by
  obtain ⟨hok, hx, hb, hml, hown, hts, hlk, hin, hK, hAO, hf1, hl1, -, -⟩ := B
  obtain ⟨hd, ho, hw⟩ := hok pc _ _ a hat
  obtain ⟨fs, hwr, hj, hft, rfl⟩ := km_pf_spec hpf
  have ho : (match vwCl[km_ci e]? with
    | some (C, T, N) => decide (C = (km_y e).cls) && (decide ((T a).1 = C) && Nat.blt a N)
    | none => false) = true := ho
  split at ho
  · rename_i C T N hcl
    simp only [Bool.and_eq_true, decide_eq_true_eq] at ho
    obtain ⟨o1, o2, o3⟩ := ho
    have o3 : a < N := Nat.le_of_ble_eq_true o3
    have hw9 : Cond.fieldLink (km_y e).cls k (T a).1 (T a).2.1 (T a).2.2.1 ∈ am_gw := by
      apply hw
      show _ ∈ (match vwCl[km_ci e]? with
        | some (_, T, _) => [Cond.fieldLink (km_y e).cls k (T a).1 (T a).2.1 (T a).2.2.1]
        | none => [])
      rw [hcl]
      exact List.mem_cons_self
    obtain ⟨hin9, hty, hnm⟩ := km_cls hcl
    obtain ⟨n1, n2⟩ := km_fitk b hft
    have hrl : r < w.length := (List.getElem?_eq_some_iff.mp hwr).1
    have fin : ∀ (H1 : Heap) (locs1 : List Loc), va_P D vwCl ((km_wd b cy w).set r (b + r, .inr (km_ci e, (fs.map (am_tv (km_ad b))).set a (am_tv (km_ad b) v)))) H1 → va_S (km_A b) s.heap H1 locs1 → W p l en R s m args below meth c H1 locs1 cells slots Q (F0 m (pc + 3) ls (st.map (am_tv (km_ad b)))) := by
      intro H1 locs1 hP1 hS1
      refine kk H1 locs1 (List.length_set ..) (km_sl_set w r _ _ hwr (by show (fs.set a v).length = fs.length; rw [List.length_set])) ?_ hS1
      rw [← km_wd_set _ hrl]
      show va_P D vwCl ((km_wd b cy w).set r (b + r, .inr (km_ci e, (fs.set a v).map (am_tv (km_ad b))))) H1
      rw [List.map_set]
      exact hP1
    cases hfin : (T a).2.2.2 with
    | false => exact va_put hx hb hts hin9 (km_ty (km_ci e)) hty hnm hown hK hP (km_D b cy w) hS r (km_wd_get hwr) hcl a o3 (hts _ hw9) (fun _ h => h) hfin (hty a o3) n1 n2 (by rw [List.length_map]; exact hj) hd (fun H1 locs1 hP1 _ hS1 => fin H1 locs1 hP1 hS1)
    | true => exact va_putF hx hb hts hin9 (km_ty (km_ci e)) hty hnm hown hK hP (km_D b cy w) hS r (km_wd_get hwr) hcl a o3 (hts _ hw9) (fun _ h => h) hfin hin (o2.trans o1) (hty a o3) n1 n2 (by rw [List.length_map]; exact hj) hd (fun H1 locs1 hP1 _ hS1 => fin H1 locs1 hP1 hS1)
  · cases ho
set_option maxHeartbeats 4000000 in
theorem km_step {s0 : Nat} (B : km_bd cy D e p R s m args meth c) (h0 : s.heap.size = b + n0) {i : Instr} {len a pc : Nat} {L : am_Ls} {st : List Value} {w : List km_C} {q : km_St} (hat : km_at (km_pg e) pc = some (i, len, a)) (hs : km_s i len a (km_ci e) pc L st w = some q) (hc : cells + n0 = w.length) (hc2 : slots + s0 = km_sl w) (hr1 : q.2.2.2.length ≤ R.cells + n0) (hr2 : km_sl q.2.2.2 ≤ R.slots + s0)
    {ls : Array Slot} (hL : am_L (km_ad b) ls (km_mL e) L) (h1 : am_s1 st) (hP : va_P D vwCl (km_wd b cy w) H) (hS : va_S (km_A b) s.heap H locs)
    (kk : ∀ (H' : Heap) (locs' : List Loc) (ls' : Array Slot) (cells' slots' : Nat), am_L (km_ad b) ls' (km_mL e) q.2.1 → am_s1 q.2.2.1 → cells' + n0 = q.2.2.2.length → slots' + s0 = km_sl q.2.2.2 → va_P D vwCl (km_wd b cy q.2.2.2) H' → va_S (km_A b) s.heap H' locs' → W p l en R s m args below meth c H' locs' cells' slots' Q (F0 m q.1 ls' (q.2.2.1.map (am_tv (km_ad b))))) :
    W p l en R s m args below meth c H locs cells slots Q (F0 m pc ls (st.map (am_tv (km_ad b)))) := by
  have B9 := B
  obtain ⟨hok, hx, hb, hml, hown, hts, hlk, hin, hK, hAO, hf1, hl1, -, -⟩ := B
  obtain ⟨hd, ho, hw⟩ := hok pc _ _ a hat
  have hA : ∀ q, s.heap.size ≤ q → km_A b q := fun q h => by show b ≤ q; omega
  have c1 : ∀ {v : Value} {t : List Value}, v.category = 1 → am_s1 t → am_s1 (v :: t) := fun hv ht w hw => (List.mem_cons.mp hw).elim (fun q => by rw [q]; exact hv) (ht w)
  have t1 : ∀ {v : Value} {t : List Value}, am_s1 (v :: t) → am_s1 t := fun h w hw => h w (List.mem_cons_of_mem _ hw)
  unfold km_s at hs
  split at hs
  · -- iconst
    cases hs
    exact lv_iconst hx hb hd rfl (kk H locs ls cells slots hL (c1 rfl h1) hc hc2 hP hS)
  · cases hs
    exact lv_bipush hx hb hd rfl (kk H locs ls cells slots hL (c1 rfl h1) hc hc2 hP hS)
  · cases hs
    exact lv_sipush hx hb hd rfl (kk H locs ls cells slots hL (c1 rfl h1) hc hc2 hP hS)
  · -- aload
    split at hs
    · rename_i x hk
      cases hs
      exact lv_aload_n hx hb hd rfl (hL.2.2.2 _ _ hk).2 (kk H locs ls cells slots hL (c1 rfl h1) hc hc2 hP hS)
    · cases hs
  · -- iload
    split at hs
    · rename_i x hk
      cases hs
      exact lv_iload_n hx hb hd rfl (hL.2.2.2 _ _ hk).2 (kk H locs ls cells slots hL (c1 rfl h1) hc hc2 hP hS)
    · cases hs
  · -- istore
    rename_i k x st0
    cases hq : Nat.blt k L.length with
    | false => rw [hq] at hs; cases hs
    | true =>
      rw [hq] at hs
      cases hs
      have hlt : (k : Nat) < km_mL e := by
        have q := Nat.le_of_ble_eq_true hq
        rw [hL.2.2.1] at q
        exact q
      exact lv_istore_n hx hb hd rfl hL.has hlt rfl (fun ls' h' => kk H locs ls' cells slots (hL.store (x := .int x) rfl hlt h') (t1 h1) hc hc2 hP hS)
  · -- new
    rename_i k
    split at hs
    · rename_i fs hdf
      cases hs
      unfold km_def at hdf
      split at hdf
      · rename_i C T N hcl
        cases hdf
        have hw9 : ∀ x ∈ [Cond.classLink (km_y e).cls k C, .instantiable C N, .initialized C], x ∈ am_gw := by
          intro x hx9
          apply hw
          show x ∈ (match vwCl[a]? with
            | some (C, _, N) => [Cond.classLink (km_y e).cls k C, .instantiable C N, .initialized C]
            | none => [])
          rw [hcl]
          exact hx9
        obtain ⟨hin9, hty, hnm⟩ := km_cls hcl
        have z1 : (w ++ [(.inr (.inl (a, (List.range N).map (fun j => defaultValue (km_ty a j)))) : km_C)]).length = w.length + 1 := by rw [List.length_append]; rfl
        have z2 : km_sl (w ++ [.inr (.inl (a, (List.range N).map (fun j => defaultValue (km_ty a j))))]) = km_sl w + N := by
          rw [km_sl_app]
          show km_sl w + ((List.range N).map _).length = _
          rw [List.length_map, List.length_range]
        dsimp only at hr1 hr2 kk
        rw [z1] at hr1
        rw [z2] at hr2
        refine va_new hx hb hts hin9 (km_ty a) hty hown (hts _ (hw9 _ List.mem_cons_self)) (hts _ (hw9 _ (List.mem_cons_of_mem _ List.mem_cons_self))) (hts _ (hw9 _ (List.mem_cons_of_mem _ (List.mem_cons_of_mem _ List.mem_cons_self)))) hK hP (km_D b cy w) hS hA hcl (fs := ((List.range N).map (fun j => defaultValue (km_ty a j))).map (am_tv (km_ad b))) ?_ (by omega) (by omega) hd (fun q9 H1 hP1 hD1 hS1 => km_sized fun hz => ?_)
        · intro j hj
          unfold vp_V
          rw [List.getD_eq_getElem?_getD, List.getElem?_map, List.getElem?_map, List.getElem?_range hj]
          exact (km_tvd b _).symm
        · obtain rfl := km_new hz h0 hc hP1 hD1
          exact kk H1 locs ls (cells + 1) (slots + N) hL (c1 rfl h1) (by rw [z1]; omega) (by rw [z2]; omega) (by rw [km_wd_app]; exact hP1) hS1
      · cases hdf
    · cases hs
  · -- dup
    cases hs
    exact lv_dup hx hb hd rfl (kk H locs ls cells slots hL (c1 rfl h1) hc hc2 hP hS)
  · -- Object()
    rename_i k r st0
    cases hq : (Nat.beq a 100 && Nat.ble st0.length 8) with
    | false => rw [hq] at hs; cases hs
    | true =>
      rw [hq] at hs
      cases hs
      simp only [Bool.and_eq_true] at hq
      have e1 := Nat.eq_of_beq_eq_true hq.1
      subst e1
      have hl9 := km_cat1 (b := b) (t1 h1) (Nat.le_of_ble_eq_true hq.2)
      have hw9 : ∀ x ∈ [Cond.methodLink (km_y e).cls k objectInit, .instanceMethod objectInit, .code objectInit ⟨#[0xb1]⟩ 1 none], x ∈ am_gw := hw
      refine W.objInit hx hb hown (hts _ (hw9 _ List.mem_cons_self)) (hts _ (hw9 _ (List.mem_cons_of_mem _ List.mem_cons_self))) (hts _ (hw9 _ (List.mem_cons_of_mem _ (List.mem_cons_of_mem _ List.mem_cons_self)))) rfl (by rw [hml]; exact hL.1) rfl hd hf1 (by show 2 * 0 + _ + 12 ≤ _; omega) ?_
      exact kk H locs ls cells slots hL (t1 h1) hc hc2 hP hS
  · -- putfield
    rename_i k v r st0
    split at hs
    · rename_i w1 hpf
      cases hs
      exact km_put (len := 3) B9 hat hpf hP hS (fun H' locs' z1 z2 hP1 hS1 => kk H' locs' ls cells slots hL (t1 (t1 h1)) (by rw [z1]; exact hc) (by rw [z2]; exact hc2) hP1 hS1)
    · cases hs
  · rename_i k v r st0
    split at hs
    · rename_i w1 hpf
      cases hs
      exact km_put (len := 3) B9 hat hpf hP hS (fun H' locs' z1 z2 hP1 hS1 => kk H' locs' ls cells slots hL (t1 (t1 h1)) (by rw [z1]; exact hc) (by rw [z2]; exact hc2) hP1 hS1)
    · cases hs
  · -- getfield
    rename_i k r st0
    split at hs
    · rename_i c9 fs hwr
      cases hq : Nat.beq c9 (km_ci e) with
      | false => rw [hq] at hs; cases hs
      | true =>
        rw [hq] at hs
        have e1 := Nat.eq_of_beq_eq_true hq
        subst e1
        change (match fs[a]? with
          | some (.ref x) => some (pc + 3, L, Value.ref x :: st0, w)
          | _ => none) = some q at hs
        split at hs
        · rename_i x hf
          cases hs
          have ho : (match vwCl[km_ci e]? with
            | some (C, T, N) => decide (C = (km_y e).cls) && (decide ((T a).1 = C) && Nat.blt a N)
            | none => false) = true := ho
          split at ho
          · rename_i C T N hcl
            simp only [Bool.and_eq_true, decide_eq_true_eq] at ho
            obtain ⟨o1, o2, o3⟩ := ho
            have o3 : a < N := Nat.le_of_ble_eq_true o3
            have hw9 : Cond.fieldLink (km_y e).cls k (T a).1 (T a).2.1 (T a).2.2.1 ∈ am_gw := by
              apply hw
              show _ ∈ (match vwCl[km_ci e]? with
                | some (_, T, _) => [Cond.fieldLink (km_y e).cls k (T a).1 (T a).2.1 (T a).2.2.1]
                | none => [])
              rw [hcl]
              exact List.mem_cons_self
            obtain ⟨hin9, hty, hnm⟩ := km_cls hcl
            exact va_get hx hb hts hin9 hown hK hP r (km_wd_get hwr) hcl a o3 (hts _ hw9) (fun _ h => h) (v := .ref (km_ad b x)) (by rw [List.getElem?_map, hf]; rfl) hd (kk H locs ls cells slots hL (c1 rfl (t1 h1)) hc hc2 hP hS)
          · cases ho
        · cases hs
    · cases hs
  · -- newarray
    rename_i k n st0
    cases hq : (decide (¬ n < 0) && Nat.ble (n.toNatClampNeg * 8) 536870912) with
    | false => rw [hq] at hs; cases hs
    | true =>
      rw [hq] at hs
      cases hs
      simp only [Bool.and_eq_true, decide_eq_true_eq] at hq
      obtain ⟨q1, q2⟩ := hq
      have q2 := Nat.le_of_ble_eq_true q2
      have ho : (Nat.blt a 3 && decide (newarray.typeOf k = km_at1 a)) = true := ho
      simp only [Bool.and_eq_true, decide_eq_true_eq] at ho
      obtain ⟨o1, o2⟩ := ho
      have o1 : a < 3 := Nat.le_of_ble_eq_true o1
      have hw9 : Cond.arrayClass (km_at1 a) ∈ am_gw := hw _ List.mem_cons_self
      have z1 : (w ++ [(.inl (a, n.toNatClampNeg) : km_C)]).length = w.length + 1 := by rw [List.length_append]; rfl
      have z2 : km_sl (w ++ [.inl (a, n.toNatClampNeg)]) = km_sl w + n.toNatClampNeg := by rw [km_sl_app]; rfl
      dsimp only at hr1 hr2 kk
      rw [z1] at hr1
      rw [z2] at hr2
      have hty3 : (am_tys cy)[a]? = some (cy a, km_at1 a) ∧ defaultValue (km_at1 a) = .int 0 ∧ componentBytes (km_at1 a) ≤ 8 := by
        match a, o1 with
        | 0, _ => exact ⟨rfl, rfl, by decide⟩
        | 1, _ => exact ⟨rfl, rfl, by decide⟩
        | 2, _ => exact ⟨rfl, rfl, by decide⟩
      refine va_newa hx hb (by rw [o2]; exact hts _ hw9) o2 hK hP (km_D b cy w) hS hA (a0 := (n.toNatClampNeg, .inl (fun _ => 0))) ?_ q1 rfl (Nat.le_trans (Nat.mul_le_mul_left _ hty3.2.2) q2) (by omega) (by omega) hd (fun q9 cA H1 hK1 hP1 hD1 hS1 => km_sized fun hz => ?_)
      · intro cA
        rw [hty3.2.1]
        rfl
      · obtain rfl := km_cA hK hK1 hty3.1
        obtain rfl := km_new hz h0 hc hP1 hD1
        exact kk H1 locs ls (cells + 1) (slots + n.toNatClampNeg) hL (c1 rfl (t1 h1)) (by rw [z1]; omega) (by rw [z2]; omega) (by rw [km_wd_app]; exact hP1) hS1
  · -- anewarray
    rename_i k n st0
    cases hq : (decide (¬ n < 0) && Nat.ble (n.toNatClampNeg * 8) 536870912) with
    | false => rw [hq] at hs; cases hs
    | true =>
      rw [hq] at hs
      cases hs
      simp only [Bool.and_eq_true, decide_eq_true_eq] at hq
      obtain ⟨q1, q2⟩ := hq
      have q2 := Nat.le_of_ble_eq_true q2
      have hw9 : Cond.classLink (km_y e).cls k "SoldEchoes$Land" ∈ am_gw := hw _ List.mem_cons_self
      have z1 : (w ++ [(.inr (.inr (List.replicate n.toNatClampNeg none)) : km_C)]).length = w.length + 1 := by rw [List.length_append]; rfl
      have z2 : km_sl (w ++ [.inr (.inr (List.replicate n.toNatClampNeg none))]) = km_sl w + n.toNatClampNeg := by
        rw [km_sl_app]
        show km_sl w + (List.replicate n.toNatClampNeg none).length = _
        rw [List.length_replicate]
      dsimp only at hr1 hr2 kk
      rw [z1] at hr1
      rw [z2] at hr2
      refine va_newq hx hb hown (hts _ hw9) hAO hK hP (km_D b cy w) hS hA q1 rfl (by omega) (by omega) (by omega) hd (fun q9 cA H1 hK1 hP1 hD1 hS1 => km_sized fun hz => ?_)
      obtain rfl := km_cA (t := 3) hK hK1 rfl
      obtain rfl := km_new hz h0 hc hP1 hD1
      refine kk H1 locs ls (cells + 1) (slots + n.toNatClampNeg) hL (c1 rfl (t1 h1)) (by rw [z1]; omega) (by rw [z2]; omega) ?_ hS1
      rw [km_wd_app]
      have e9 : km_ce b cy (.inr (.inr (List.replicate n.toNatClampNeg none))) = .inl (cy 3, n.toNatClampNeg, .inr (.inr (.inr (.inr (fun _ => none))))) := by
        show Sum.inl (cy 3, (List.replicate n.toNatClampNeg none).length, _) = _
        rw [List.length_replicate]
        congr 7
        funext j
        rw [List.getD_eq_getElem?_getD, List.getElem?_replicate]
        split <;> rfl
      rw [e9]
      exact hP1
  · -- aastore
    rename_i v i9 r st0
    split at hs
    · rename_i l9 fs9 hwr hwv
      cases hq : (decide (0 ≤ i9.toInt) && decide (i9.toInt < l9.length)) with
      | false => rw [hq] at hs; cases hs
      | true =>
        rw [hq] at hs
        cases hs
        simp only [Bool.and_eq_true, decide_eq_true_eq] at hq
        have hrl : r < w.length := (List.getElem?_eq_some_iff.mp hwr).1
        have z1 : (w.set r (.inr (.inr (l9.set i9.toNatClampNeg (some v))))).length = w.length := List.length_set ..
        have z2 : km_sl (w.set r (.inr (.inr (l9.set i9.toNatClampNeg (some v))))) = km_sl w := km_sl_set w r _ _ hwr (by show (l9.set _ _).length = l9.length; rw [List.length_set])
        refine va_astq (r := (RX2, TX2, 4)) hx hb hK hP (km_D b cy w) hS r 3 v 2 (km_wd_get hwr) rfl (km_wd_get hwv) rfl (am_vpin hq) hd (fun H1 locs1 hP1 _ hS1 => ?_)
        refine kk H1 locs1 ls cells slots hL (t1 (t1 (t1 h1))) (by rw [z1]; exact hc) (by rw [z2]; exact hc2) ?_ hS1
        rw [← km_wd_set _ hrl]
        have e9 : km_ce b cy (.inr (.inr (l9.set i9.toNatClampNeg (some v)))) = .inl (cy 3, l9.length, .inr (.inr (.inr (.inr (va_up (fun j => (l9.getD j none).map (km_ad b)) i9.toNatClampNeg (some (km_ad b v))))))) := by
          show Sum.inl (cy 3, (l9.set _ _).length, _) = _
          rw [List.length_set]
          congr 7
          funext j
          have hlt : i9.toNatClampNeg < l9.length := by
            have := am_vpin hq
            exact Nat.not_le.mp fun q => this (Or.inr q)
          show ((l9.set i9.toNatClampNeg (some v)).getD j none).map (km_ad b) = va_up _ _ _ j
          unfold va_up
          rw [List.getD_eq_getElem?_getD, List.getElem?_set]
          by_cases hj : j = i9.toNatClampNeg
          · subst hj
            rw [if_pos rfl, if_pos hlt, if_pos rfl]
            rfl
          · rw [if_neg (fun h => hj h.symm), if_neg hj]
            show _ = (l9.getD j none).map (km_ad b)
            rw [List.getD_eq_getElem?_getD]
        rw [e9]
        exact hP1
    · cases hs
  · -- imul
    cases hs
    exact lv_imul hx hb hd (kk H locs ls cells slots hL (c1 rfl (t1 (t1 h1))) hc hc2 hP hS)
  · -- if_icmpge
    rename_i off y x st0
    split at hs
    · rename_i t ht
      cases hq : decide (y ≤ x) with
      | false =>
        rw [hq] at hs
        cases hs
        exact lv_icmp_ge hx hb hd (am_tg_eq ht) (fun h => absurd h (of_decide_eq_false hq)) (fun _ => kk H locs ls cells slots hL (t1 (t1 h1)) hc hc2 hP hS)
      | true =>
        rw [hq] at hs
        cases hs
        exact lv_icmp_ge hx hb hd (am_tg_eq ht) (fun _ => kk H locs ls cells slots hL (t1 (t1 h1)) hc hc2 hP hS) (fun h => absurd (of_decide_eq_true hq) h)
    · cases hs
  · -- goto
    split at hs
    · rename_i t ht
      cases hs
      exact lv_goto hx hb hd (am_tg_eq ht) (kk H locs ls cells slots hL h1 hc hc2 hP hS)
    · cases hs
  · -- iinc
    rename_i k dd
    split at hs
    · rename_i x hk
      cases hs
      have hlt : k < km_mL e := by
        have q := (List.getElem?_eq_some_iff.mp hk).1
        rw [hL.2.2.1] at q
        exact q
      have hmm := am_lvA_mem (ad := km_ad b) L 0 k _ hk
      rw [Nat.zero_add] at hmm
      obtain ⟨kx, hkx⟩ := List.getElem?_of_mem hmm
      exact lv_iinc hx hb hd hL.has hkx rfl hlt rfl (fun ls' h' => kk H locs ls' cells slots (hL.store (x := .int (x + Int32.ofInt dd)) rfl hlt h') h1 hc hc2 hP hS)
    · cases hs
  · -- Math.max
    rename_i k y x st0
    cases hq : Nat.ble st0.length 8 with
    | false => rw [hq] at hs; cases hs
    | true =>
      rw [hq] at hs
      cases hs
      have hl9 := km_cat1 (b := b) (t1 (t1 h1)) (Nat.le_of_ble_eq_true hq)
      have hw9 : ∀ z ∈ [Cond.methodLink (km_y e).cls k Lib.Math.max.name, .static Lib.Math.max.name, .initialized "java/lang/Math", .code Lib.Math.max.name Lib.Math.max.code 2 (some .int)], z ∈ am_gw := hw
      dsimp only at hr1 hr2
      exact va_mmax hx hb (by rw [hml, hL.1]) hown (hts _ (hw9 _ List.mem_cons_self)) (hts _ (hw9 _ (List.mem_cons_of_mem _ List.mem_cons_self))) (hts _ (hw9 _ (List.mem_cons_of_mem _ (List.mem_cons_of_mem _ List.mem_cons_self)))) (hts _ (hw9 _ (List.mem_cons_of_mem _ (List.mem_cons_of_mem _ (List.mem_cons_of_mem _ List.mem_cons_self))))) hf1 (by omega) (by omega) (by omega) hd (kk H locs ls cells slots hL (c1 rfl (t1 (t1 h1))) hc hc2 hP hS)
  · cases hs
end KMS
