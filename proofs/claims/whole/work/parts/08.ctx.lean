/-! what the pools' and methods' rows say -/
theorem am_zip_in {α β : Type} : ∀ (l : List α) (r : List β), l.length = r.length → ∀ a ∈ l, ∃ b, (a, b) ∈ l.zip r := by
  intro l
  induction l with
  | nil => intro r _ a h; cases h
  | cons x t ih =>
    intro r hr a h
    cases r with
    | nil => cases hr
    | cons y u =>
      rcases List.mem_cons.mp h with h | h
      · exact ⟨y, by rw [h]; exact List.mem_cons_self⟩
      · obtain ⟨b, hb⟩ := ih u (Nat.succ.inj hr) a h
        exact ⟨b, List.mem_cons_of_mem _ hb⟩
theorem am_fd_in : ∀ (l : List (Nat × am_Cp)) (k : Nat) (q : am_Cp), am_fd l k = some q → (k, q) ∈ l := by
  intro l
  induction l with
  | nil => intro k q h; cases h
  | cons x t ih =>
    intro k q h
    unfold am_fd at h
    cases hb : Nat.beq x.1 k with
    | true =>
      rw [hb] at h
      have e : x.1 = k := Nat.eq_of_beq_eq_true hb
      cases h
      subst e
      exact List.mem_cons_self
    | false => rw [hb] at h; exact List.mem_cons_of_mem _ (ih k q h)
theorem am_pool1 {own : String} {l : List (Nat × am_Cp)} {r : List (List (Nat × Nat))} (hb : (l.zip r).all (am_cb own) = true) (hl : l.length = r.length) {k : Nat} {q : am_Cp} (h : am_fd l k = some q) : ∃ hs, am_cb own ((k, q), hs) = true := by
  obtain ⟨hs, hz⟩ := am_zip_in l r hl _ (am_fd_in l k q h)
  exact ⟨hs, List.all_eq_true.mp hb _ hz⟩
theorem am_pool {c k : Nat} {q : am_Cp} {own : String} (ho : am_nth am_pn c = some own) (h : am_cp c k = some q) : ∃ hs, am_cb own ((k, q), hs) = true := by
  match c, ho, h with
  | 0, ho, h => cases ho; exact am_pool1 cb_0 cl_0 h
  | 1, ho, h => cases ho; exact am_pool1 cb_1 cl_1 h
  | 2, ho, h => cases ho; exact am_pool1 cb_2 cl_2 h
  | 3, ho, h => cases ho; exact am_pool1 cb_3 cl_3 h
  | 4, ho, h => cases ho; exact am_pool1 cb_4 cl_4 h
  | 5, ho, h => cases ho; exact am_pool1 cb_5 cl_5 h
  | 6, ho, h => cases ho; exact am_pool1 cb_6 cl_6 h
  | 7, ho, h => cases ho; exact am_pool1 cb_7 cl_7 h
  | 8, ho, h => cases ho; exact am_pool1 cb_8 cl_8 h
  | 9, ho, h => cases ho; exact am_pool1 cb_9 cl_9 h
  | 10, ho, h => cases ho; exact am_pool1 cb_10 cl_10 h
  | 11, ho, h => cases ho; exact am_pool1 cb_11 cl_11 h
  | 12, ho, h => cases ho; exact am_pool1 cb_12 cl_12 h
  | 13, ho, h => cases ho; exact am_pool1 cb_13 cl_13 h
  | 14, ho, h => cases ho; exact am_pool1 cb_14 cl_14 h
  | n + 15, ho, h => cases ho
theorem am_uws {w : List Cond} {r : List (Nat × Nat)} (h : (w.zip r).all (fun q => am_hb q.1 q.2) = true) (hl : w.length = r.length) : ∀ v ∈ w, v ∈ am_gw := by
  intro v hv
  obtain ⟨hs, hz⟩ := am_zip_in w r hl _ hv
  exact am_hb_in (List.all_eq_true.mp h _ hz)
/-- of each table: its words, types, names -/
theorem am_cls {ci : Nat} {C : String} {T : u_T} {N : Nat} (h : vwCl[ci]? = some (C, T, N)) : (∀ w ∈ u_ws C T N, w ∈ am_gw) ∧ (∃ ty : Nat → FieldType, ∀ k, k < N → parseFieldDescriptor (T k).2.2.1 = some (ty k)) ∧ (∀ a, a < N → ∀ b, b < N → a ≠ b → (T a).2.1 ≠ (T b).2.1) := by
  match ci, h with
  | 0, h => cases h; exact ⟨am_uws wc_0 wl_0, ⟨tyX0, tyX0_ok⟩, nmX0⟩
  | 1, h => cases h; exact ⟨am_uws wc_1 wl_1, ⟨tyX1, tyX1_ok⟩, nmX1⟩
  | 2, h => cases h; exact ⟨am_uws wc_2 wl_2, ⟨tyX2, tyX2_ok⟩, nmX2⟩
  | 3, h => cases h; exact ⟨am_uws wc_3 wl_3, ⟨tyX3, tyX3_ok⟩, nmX3⟩
  | 4, h => cases h; exact ⟨am_uws wc_4 wl_4, ⟨tyX4, tyX4_ok⟩, nmX4⟩
  | 5, h => cases h; exact ⟨am_uws wc_5 wl_5, ⟨tyX5, tyX5_ok⟩, nmX5⟩
  | 6, h => cases h; exact ⟨am_uws wc_6 wl_6, ⟨tyX6, tyX6_ok⟩, nmX6⟩
  | 7, h => cases h; exact ⟨am_uws wc_7 wl_7, ⟨tyX7, tyX7_ok⟩, nmX7⟩
  | 8, h => cases h; exact ⟨am_uws wc_8 wl_8, ⟨tyX8, tyX8_ok⟩, nmX8⟩
  | 9, h => cases h; exact ⟨am_uws wc_9 wl_9, ⟨tyX9, tyX9_ok⟩, nmX9⟩
  | 10, h => cases h; exact ⟨am_uws wc_10 wl_10, ⟨tyX10, tyX10_ok⟩, nmX10⟩
  | n + 11, h => exact absurd h (by simp [vwCl])
theorem am_meth {e : am_Me} (h : e ∈ am_ms) : plainName (am_y e).cls = true ∧ (parseMethodDescriptor (am_y e).desc).map (fun d => d.parameters.length) = some (am_np e) ∧ Cond.initialized (am_y e).cls ∈ am_gw ∧ am_nth am_pn (am_cn e) = some (am_y e).cls ∧
    (am_stc e = true → Cond.static (am_y e) ∈ am_gw) ∧ (am_stc e = false → Cond.instanceMethod (am_y e) ∈ am_gw ∧ Cond.selects (am_y e).cls (am_y e) (am_y e) ∈ am_gw) := by
  obtain ⟨hs, hz⟩ := am_zip_in am_ms mh_a ml_a _ h
  have h1 := List.all_eq_true.mp mb_a _ hz
  unfold am_mb at h1
  simp only [Bool.and_eq_true, decide_eq_true_eq] at h1
  obtain ⟨h2, h3, h4, h5, h6⟩ := h1
  refine ⟨h2, h3, am_hb_in h4, h5, fun hq => ?_, fun hq => ?_⟩
  · rw [hq] at h6
    exact am_hb_in h6
  · rw [hq] at h6
    simp only [cond_false, Bool.and_eq_true] at h6
    exact ⟨am_hb_in h6.1, am_hb_in h6.2⟩
theorem am_at_in : ∀ (pg : am_Pg) (pc : Nat) (q : am_Op × Nat), am_at pg pc = some q → (pc, q) ∈ pg := by
  intro pg
  induction pg with
  | nil => intro pc q h; cases h
  | cons x t ih =>
    intro pc q h
    unfold am_at at h
    cases hb : Nat.beq x.1 pc with
    | true =>
      rw [hb] at h
      have e : x.1 = pc := Nat.eq_of_beq_eq_true hb
      cases h
      subst e
      exact List.mem_cons_self
    | false => rw [hb] at h; exact List.mem_cons_of_mem _ (ih pc q h)
theorem am_dec {e : am_Me} (h : e ∈ am_ms) {pc len : Nat} {i : am_Op} (ha : am_at (am_pg e) pc = some (i, len)) : ∃ j, decode (am_code e) pc = .ok (j, len) ∧ (match i with
    | .inl k => j = k
    | .inr v => am_kb j v len (am_y e).cls = true) := by
  have h1 := List.all_eq_true.mp (db_a e h) _ (am_at_in _ _ _ ha)
  unfold am_db at h1
  split at h1
  · rename_i j len' hd
    simp only [Bool.and_eq_true] at h1
    have el : len' = len := Nat.eq_of_beq_eq_true h1.1
    subst el
    refine ⟨j, hd, ?_⟩
    cases i with
    | inl k => exact of_decide_eq_true h1.2
    | inr v => exact h1.2
  · cases h1
theorem am_room {e : am_Me} (h : e ∈ am_ms) {pc len : Nat} {i : am_Op} (ha : am_at (am_pg e) pc = some (i, len)) : am_ib e (pc, i, len) = true :=
  List.all_eq_true.mp (List.all_eq_true.mp ib_a e h) _ (am_at_in _ _ _ ha)
/-! what holds of a state, beside the heap's ints -/
def am_tys (cy : Nat → ClassId) : List (ClassId × FieldType) := [(cy 0, .int), (cy 1, .byte), (cy 2, .boolean), (cy 3, .object "SoldEchoes$Land")]
def am_sta (z : Value) (ad : Nat → Nat) (A : Nat → Prop) (U : State) (H : Heap) : Prop :=
  vk_S 13 am_len am_byt (fun i => ad (1000 + i)) (fun i => ad (2000 + i)) A U H ∧
  (va_Z (am_sn 0).1 (am_sn 0).2.1 (am_sn 0).2.2 (.ref (ad 3000)) A U H ∧ va_T .int (ad 3000) 8 (fun j => .int (am_right.getD j 0)) A U H) ∧
  (va_Z (am_sn 1).1 (am_sn 1).2.1 (am_sn 1).2.2 (.ref (ad 3001)) A U H ∧ va_T .int (ad 3001) 8 (fun j => .int (am_down.getD j 0)) A U H) ∧
  va_Z (am_sn 2).1 (am_sn 2).2.1 (am_sn 2).2.2 (.int 1) A U H ∧ va_Z (am_sn 3).1 (am_sn 3).2.1 (am_sn 3).2.2 (am_tv ad z) A U H ∧
  (vx_Zq Bundle.tN "UNASSIGNED_STACK" Bundle.steD A U H ∧ vx_Zq Bundle.tN "SUPPRESSED_SENTINEL" Bundle.listD A U H)
def am_tbw (ad : Nat → Nat) (U : State) : Prop := (∀ q ∈ am_srs, vk_R q.1 q.2.1 (am_txt.getD q.2.2 "") (ad (1000 + q.2.2)) U) ∧ ∀ w ∈ am_nst, va_Nw w U
def am_cx (l : Launch) (z : Value) (ad : Nat → Nat) (cy : Nat → ClassId) (D : va_G) (A : Nat → Prop) (sh : List am_Sc) (U : State) : Prop :=
  va_K D vwCl (am_tys cy) U ∧ va_D A (am_wd ad cy sh (fun _ _ => 0)) ∧ am_sta z ad A U U.heap ∧ am_tbw ad U ∧ (∀ q, U.heap.size ≤ q → A q) ∧ l.stackTraces = false ∧ (z = .null ∨ z = .ref 4000)
theorem am_nst_ok : ∀ w ∈ am_nst, w.onTables = true := by decide +kernel
theorem am_nst_warm {s U : State} (hW : s.WarmedH U.vm) : ∀ w ∈ am_nst, va_Nw w s → va_Nw w U := by
  intro w hw h
  simp only [am_nst, List.mem_cons, List.not_mem_nil, or_false] at hw
  rcases hw with rfl | rfl | rfl | rfl | rfl | rfl | rfl | rfl | rfl | rfl | rfl | rfl | rfl | rfl <;> first | exact va_Nw.warmM hW h | exact va_Nw.warmC hW h | exact va_Nw.warmD hW h
theorem am_sta.go {z : Value} {ad : Nat → Nat} {A : Nat → Prop} {s U : State} {H H1 : Heap} (h : am_sta z ad A s H) (ha : s.vm.Alike U.vm) (hq : ∀ a : Nat, a < H.size → ¬ A a → H1[a]? = H[a]?) : am_sta z ad A U H1 := by
  obtain ⟨h1, ⟨h2, h3⟩, ⟨h4, h5⟩, h6, h7, h8, h9⟩ := h
  exact ⟨vk_S.moved ha (h1.kept hq), ⟨va_Z.moved ha (h2.kept hq), va_T.moved ha (h3.kept hq)⟩, ⟨va_Z.moved ha (h4.kept hq), va_T.moved ha (h5.kept hq)⟩, va_Z.moved ha (h6.kept hq), va_Z.moved ha (h7.kept hq), vx_Zq.moved ha (h8.kept hq), vx_Zq.moved ha (h9.kept hq)⟩
theorem am_cx.go {l : Launch} {z : Value} {ad : Nat → Nat} {cy : Nat → ClassId} {D : va_G} {A : Nat → Prop} {sh : List am_Sc} {s U : State} {H : Heap} {locs : List Loc} (h : am_cx l z ad cy D A sh s) (hS : va_S A s.heap H locs) (hU : U.heap = H) (hW : s.WarmedH U.vm) : am_cx l z ad cy D A sh U := by
  obtain ⟨h1, h2, h3, h4, h5, h6⟩ := h
  refine ⟨va_K.moved hW.alike h1, h2, ?_, ⟨fun q hq => vk_R.warm hW (h4.1 q hq), fun w hw => am_nst_warm hW w hw (h4.2 w hw)⟩, fun q hq => h5 q (Nat.le_trans hS.1 (by rw [← hU]; exact hq)), h6⟩
  rw [hU]
  exact h3.go hW.alike hS.2.1
theorem am_cx.same {l : Launch} {z : Value} {ad : Nat → Nat} {cy : Nat → ClassId} {D : va_G} {A : Nat → Prop} {sh : List am_Sc} {s U : State} (h : am_cx l z ad cy D A sh s) (hv : U.vm = s.vm) (hU : U.heap = s.heap) : am_cx l z ad cy D A sh U := by
  obtain ⟨h1, h2, h3, h4, h5, h6⟩ := h
  have ha : s.vm.Alike U.vm := by rw [hv]; exact Vm.Alike.refl _
  refine ⟨va_K.moved ha h1, h2, ?_, ⟨fun q hq => vk_R.same hv (h4.1 q hq), fun w hw => va_Nw.same (am_nst_ok w hw) hv.symm (h4.2 w hw)⟩, fun q hq => h5 q (by rw [← hU]; exact hq), h6⟩
  rw [hU]
  exact h3.go ha (fun _ _ _ => rfl)
