/-! THE LAW: its context -/
set_option maxRecDepth 100000 in
theorem nw_nc : nw_at 64 nw_T 1201 = some (Cond.not (.castable (am_exc 2) (am_exc 0))) ∧ nw_at 64 nw_T 4081 = some (Cond.not (.castable (am_exc 2) (am_exc 1))) ∧ nw_at 64 nw_T 1713 = some (Cond.not (.castable (am_exc 1) (am_exc 0))) := by refine ⟨?_, ?_, ?_⟩ <;> decide +kernel
def lc_ad (base : Nat) (ao : Nat → Nat) (i : Nat) : Nat := if i < 200 then base + i else ao i
theorem lc_ad_lo {base : Nat} {ao : Nat → Nat} {i : Nat} (h : i < 200) : lc_ad base ao i = base + i := if_pos h
theorem lc_ad_hi {base : Nat} {ao : Nat → Nat} (i : Nat) (h : 200 ≤ i) : lc_ad base ao i = ao i := if_neg (by omega)
def LC (p : Program) (l : Launch) (s : State) (m : MethodId) (meth : Method) (c : Code) (b L : Nat) (xs : Nat → Int32) (z : Value) (ao : Nat → Nat) (cy : Nat → ClassId) (cyL : ClassId) (D : va_G) : Prop :=
  (p.tables.exec = Jvm.exec ∧ c.code = code ∧ meth.sig.returnType = ret ∧ c.maxLocals = 7 ∧ s.vm.findClass RL = some m.cls ∧ meth.locks = false) ∧ (∀ w ∈ am_gw, w.before #[Value.ref b] s = true) ∧ (va_X b L xs s s.heap ∧ b < s.heap.size ∧ L ≤ 3072) ∧
  (va_K D vwCl (am_tys cy) s ∧ va_AO "SoldEchoes$Land" s ∧ va_K D vwCl [(cyL, .long)] s ∧ lh_nc s) ∧
  (∀ ad : Nat → Nat, (∀ i, 200 ≤ i → ad i = ao i) → am_tbw ad s ∧ ∀ A : Nat → Prop, (∀ q, A q → s.heap.size ≤ q) → am_sta z ad A s s.heap) ∧ l.stackTraces = false ∧ (z = .null ∨ z = .ref 4000)
section LCS
variable {p : Program} {l : Launch} {en : Env} {s : State} {m : MethodId} {below : List Frame} {meth : Method} {c : Code} {b L : Nat} {xs : Nat → Int32} {z : Value} {ao : Nat → Nat} {cy : Nat → ClassId} {cyL : ClassId} {D : va_G}
theorem lc_of (h : lw_At p s m meth c b L xs) (hL : L ≤ 3072) (hst : l.stackTraces = false) : ∃ (z : Value) (ao : Nat → Nat) (cy : Nat → ClassId) (cyL : ClassId) (D : va_G), LC p l s m meth c b L xs z ao cy cyL D := by
  obtain ⟨hx, hb, hr, hml, hown, hts, hX, hbl, hlk, hT⟩ := h
  obtain ⟨D, cy, hK, hAO⟩ := sx_K hts
  obtain ⟨z, ao, hz, hsta⟩ := sx_sta hts hT
  have hwl : ∀ w ∈ nw_wl, w.before #[Value.ref b] s = true := fun w h => hts w (nw_tb nw_wk w h)
  obtain ⟨cL, k, comp, h1, h2, h3⟩ := Cond.arrayClass_spec (hwl _ (List.mem_of_getElem? (i := 13) rfl))
  have hat : ∀ {n : Nat} {w : Cond}, nw_at 64 nw_T n = some w → w.before #[Value.ref b] s = true := fun h => nw_of 64 nw_T _ h hT
  refine ⟨z, ao, cy, cL, D, ⟨hx, hb, hr, hml, hown, hlk⟩, fun w h => hts w (am_gw_tbl w h), ⟨hX, hbl, hL⟩, ⟨hK, hAO, ⟨hK.1, fun k9 q h => ?_⟩, va_Nc.of (hat nw_nc.1), va_Nc.of (hat nw_nc.2.1), va_Nc.of (hat nw_nc.2.2)⟩, hsta, hst, hz⟩
  match k9, h with
  | 0, h => cases h; exact ⟨fun n z => ⟨fun k h => (by cases h), k, h2, comp, h3⟩, h1⟩
  | n + 1, h => cases h
theorem lc_D {base : Nat} {sh : List am_Sc} {A : Nat → Prop} (hl : sh.length ≤ 200) (hA : ∀ i, i < sh.length → A (base + i)) {M : am_M} : va_D A (am_wd (lc_ad base ao) cy sh M) := by
  have key : ∀ i q, (am_wd (lc_ad base ao) cy sh M)[i]? = some q → i < sh.length ∧ q.1 = base + i := by
    intro i q h
    rw [am_wd_at] at h
    cases hs : sh[i]? with
    | none => rw [hs] at h; cases h
    | some x =>
      rw [hs] at h
      have hi := (List.getElem?_eq_some_iff.mp hs).1
      cases h
      exact ⟨hi, lc_ad_lo (by omega)⟩
  refine ⟨fun i j p q hi hj h => ?_, fun k q hk => ?_⟩
  · have h1 := (key i p hi).2
    have h2 := (key j q hj).2
    rw [h1, h2] at h
    omega
  · obtain ⟨h1, h2⟩ := key k q hk
    rw [h2]
    exact hA k h1
theorem lc_cx (C : LC p l s m meth c b L xs z ao cy cyL D) {base : Nat} {sh : List am_Sc} {A : Nat → Prop} {H : Heap} {locs : List Loc} (hl : sh.length ≤ 200) (hA : ∀ i, i < sh.length → A (base + i)) (hA0 : ∀ q, A q → s.heap.size ≤ q) (hz : ∀ q, H.size ≤ q → A q) (hS : va_S (km_A s.heap.size) s.heap H locs) : ∀ U : State, U.heap = H → s.WarmedH U.vm → am_cx l z (lc_ad base ao) cy D A sh U := by
  intro U hU hW
  obtain ⟨-, -, -, ⟨hK, -, -, -⟩, hsta, hst, hzz⟩ := C
  obtain ⟨h4, h3⟩ := hsta (lc_ad base ao) (fun i h => lc_ad_hi i h)
  refine ⟨va_K.moved hW.alike hK, lc_D hl hA, ?_, ⟨fun q hq => vk_R.warm hW (h4.1 q hq), fun w hw => am_nst_warm hW w hw (h4.2 w hw)⟩, fun q hq => hz q (by rw [← hU]; exact hq), hst, hzz⟩
  rw [hU]
  exact (h3 A hA0).go hW.alike (fun a h1 h2 => hS.2.1 a h1 (by show ¬ s.heap.size ≤ a; omega))
def lc_Ac (base : Nat) : Nat → Prop := fun q => (base ≤ q ∧ q < base + 69) ∨ base + 99 ≤ q
def lc_Am (base : Nat) : Nat → Prop := fun q => (base + 69 ≤ q ∧ q < base + 98) ∨ base + 99 ≤ q
/-- the three worlds -/
def LW (s : State) (ao : Nat → Nat) (cy : Nat → ClassId) (cyL : ClassId) (D : va_G) (Mc Mm : am_M) (f : Nat → Int64) (H : Heap) : Prop :=
  va_P D vwCl (am_wd (lc_ad s.heap.size ao) cy cs_sh Mc) H ∧ va_P D vwCl (am_wd (lc_ad (s.heap.size + 69) ao) cy ms_sh Mm) H ∧ va_P D vwCl (lh_ow (s.heap.size + 98) cyL f) H ∧ s.heap.size + 99 ≤ H.size
theorem lc_cxC (C : LC p l s m meth c b L xs z ao cy cyL D) {H : Heap} {locs : List Loc} (hz : s.heap.size + 99 ≤ H.size) (hS : va_S (km_A s.heap.size) s.heap H locs) : ∀ U : State, U.heap = H → s.WarmedH U.vm → am_cx l z (lc_ad s.heap.size ao) cy D (lc_Ac s.heap.size) cs_sh U :=
  lc_cx C (by rw [km_shc.1]; exact Nat.le_of_ble_eq_true rfl) (fun i h => Or.inl ⟨Nat.le_add_right _ _, by rw [km_shc.1] at h; omega⟩) (fun q h => by rcases h with h | h <;> omega) (fun q h => Or.inr (by omega)) hS
theorem lc_cxM (C : LC p l s m meth c b L xs z ao cy cyL D) {H : Heap} {locs : List Loc} (hz : s.heap.size + 99 ≤ H.size) (hS : va_S (km_A s.heap.size) s.heap H locs) : ∀ U : State, U.heap = H → s.WarmedH U.vm → am_cx l z (lc_ad (s.heap.size + 69) ao) cy D (lc_Am s.heap.size) ms_sh U :=
  lc_cx C (by rw [km_shm.1]; exact Nat.le_of_ble_eq_true rfl) (fun i h => Or.inl ⟨Nat.le_add_right _ _, by rw [km_shm.1] at h; omega⟩) (fun q h => by rcases h with h | h <;> omega) (fun q h => Or.inr (by omega)) hS
/-- a world's place is inside the heap, a world is kept where its cells are -/
theorem lc_keep {base : Nat} {sh : List am_Sc} {M : am_M} {H H1 : Heap} {A : Nat → Prop} (hl : sh.length ≤ 200) (hP : va_P D vwCl (am_wd (lc_ad base ao) cy sh M) H) (hk : ∀ q, q < H.size → ¬ A q → H1[q]? = H[q]?) (hA : ∀ i, i < sh.length → ¬ A (base + i)) : va_P D vwCl (am_wd (lc_ad base ao) cy sh M) H1 := by
  refine hP.kept (fun k q hq => ?_)
  have h1 := (hP k q hq).lt
  rw [am_wd_at] at hq
  cases hs : sh[k]? with
  | none => rw [hs] at hq; cases hq
  | some x =>
    rw [hs] at hq
    have hi := (List.getElem?_eq_some_iff.mp hs).1
    cases hq
    dsimp only at h1 ⊢
    rw [lc_ad_lo (by omega)] at h1 ⊢
    exact hk _ h1 (hA k hi)
theorem lc_keepO {qo : Nat} {f : Nat → Int64} {H H1 : Heap} {A : Nat → Prop} (hP : va_P D vwCl (lh_ow qo cyL f) H) (hk : ∀ q, q < H.size → ¬ A q → H1[q]? = H[q]?) (hA : ¬ A qo) : va_P D vwCl (lh_ow qo cyL f) H1 := by
  refine hP.kept (fun k q hq => ?_)
  have h1 := (hP k q hq).lt
  have h2 : k < 1 := (List.getElem?_eq_some_iff.mp hq).1
  obtain rfl : k = 0 := by omega
  cases hq
  exact hk _ h1 hA
theorem lc_afterC {Mc Mc' Mm : am_M} {f f' : Nat → Int64} {H H1 : Heap} (h : LW s ao cy cyL D Mc Mm f H) (hP : va_P D vwCl (am_wd (lc_ad s.heap.size ao) cy cs_sh Mc') H1) (hPo : va_P D vwCl (lh_ow (s.heap.size + 98) cyL f') H1) (hz : H.size ≤ H1.size) (hk : ∀ q, q < H.size → ¬ lh_A (lc_Ac s.heap.size) (s.heap.size + 98) q → H1[q]? = H[q]?) : LW s ao cy cyL D Mc' Mm f' H1 :=
  ⟨hP, lc_keep (by rw [km_shm.1]; exact Nat.le_of_ble_eq_true rfl) h.2.1 hk (fun i hi q => by
    rw [km_shm.1] at hi
    rcases q with (q | q) | q <;> omega), hPo, Nat.le_trans h.2.2.2 hz⟩
theorem lc_afterCn {Mc Mc' Mm : am_M} {f : Nat → Int64} {H H1 : Heap} (h : LW s ao cy cyL D Mc Mm f H) (hP : va_P D vwCl (am_wd (lc_ad s.heap.size ao) cy cs_sh Mc') H1) (hz : H.size ≤ H1.size) (hk : ∀ q, q < H.size → ¬ lc_Ac s.heap.size q → H1[q]? = H[q]?) : LW s ao cy cyL D Mc' Mm f H1 :=
  lc_afterC h hP (lc_keepO h.2.2.1 hk (fun q => by rcases q with q | q <;> omega)) hz (fun q h1 h2 => hk q h1 (fun h3 => h2 (Or.inl h3)))
theorem lc_afterM {Mc Mm Mm' : am_M} {f : Nat → Int64} {H H1 : Heap} (h : LW s ao cy cyL D Mc Mm f H) (hP : va_P D vwCl (am_wd (lc_ad (s.heap.size + 69) ao) cy ms_sh Mm') H1) (hz : H.size ≤ H1.size) (hk : ∀ q, q < H.size → ¬ lc_Am s.heap.size q → H1[q]? = H[q]?) : LW s ao cy cyL D Mc Mm' f H1 :=
  ⟨lc_keep (by rw [km_shc.1]; exact Nat.le_of_ble_eq_true rfl) h.1 hk (fun i hi q => by
    rw [km_shc.1] at hi
    rcases q with q | q <;> omega), hP, lc_keepO h.2.2.1 hk (fun q => by rcases q with q | q <;> omega), Nat.le_trans h.2.2.2 hz⟩
end LCS
