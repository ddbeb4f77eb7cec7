/-! CALLS FROM OUTSIDE: a method of the abstract machine, called from a frame that is not of it -/
section LWA
variable {p : Program} {l : Launch} {en : Env} {R : Room} {s : State} {m : MethodId} {args : Array Value} {below : List Frame} {meth : Method} {c : Code} {H H0 : Heap} {locs : List Loc} {Q : State → Prop} {cells slots : Nat}
variable {z : Value} {ad : Nat → Nat} {cy : Nat → ClassId} {D : va_G} {A A0 : Nat → Prop} {sh : List am_Sc} {e : am_Me} {as rest : List Value} {M M' : am_M} {own : String} {cc : ByteArray} {k pc : Nat} {ls : Array Slot} {tys : List (ClassId × FieldType)} {ci : Nat} {fs : List (Option Nat)} {T : u_T} {N : Nat}
theorem lw_am {v : Option Value} (he : e ∈ am_ms) (hst : am_stc e = false) (hci : sh[0]? = some (.inr (.inl (ci, fs)))) (hcl : vwCl[ci]? = some ((am_y e).cls, T, N)) (hx : p.tables.exec = Jvm.exec) (hb : c.code = cc) (hlen : ls.size = c.maxLocals) (hown : s.vm.findClass own = some m.cls) (hts : ∀ w ∈ am_gw, w.before args s = true) (hK : va_K D vwCl tys s)
    (hC : am_Ct l z ad cy D A sh e (.ref 0 :: as) M (.ok v) M') (hnp : as.length = am_np e) (wl : Cond.methodLink own k (am_y e) ∈ am_gw) (hR : am_fr e + 1 ≤ R.frames ∧ 8 + (am_mL e + 11) + am_lc e ≤ R.locals) (hcat : (rest.map fun v => v.category).sum ≤ 8) (hd : decode cc pc = .ok (.invokevirtual k, 3)) (hcc : cells ≤ R.cells) (hss : slots ≤ R.slots)
    (hpre : ∀ U : State, U.heap = H → s.WarmedH U.vm → am_cx l z ad cy D A sh U) (hP : va_P D vwCl (am_wd ad cy sh M) H) (hS : va_S A0 H0 H locs) (hA : ∀ q, A q → A0 q)
    (kk : ∀ (H1 : Heap) (locs1 : List Loc), va_P D vwCl (am_wd ad cy sh M') H1 → H.size ≤ H1.size → (∀ q, q < H.size → ¬ A q → H1[q]? = H[q]?) → va_S A0 H0 H1 locs1 → W p l en R s m args below meth c H1 locs1 cells slots Q (F0 m (pc + 3) ls ((v.map (am_tv ad)).toList ++ rest))) :
    W p l en R s m args below meth c H locs cells slots Q (F0 m pc ls ((as.map (am_tv ad)).reverse ++ .ref (ad 0) :: rest)) := by
  obtain ⟨hi9, hs9⟩ := (am_meth he).2.2.2.2.2 hst
  have hr := va_runV (e := en) (below := below) (meth := meth) (locs := locs) (cells := cells) (slots := slots) (g := F0 m pc ls ((as.map (am_tv ad)).reverse ++ .ref (ad 0) :: rest)) (As := as.map (am_tv ad)) (rest := rest) (b := ad 0) (C := (am_y e).cls) (own := own) (index := k) (n := am_np e) (nL := c.maxLocals) (Ts := am_gw) (R := R) (H := H) ⟨hx, hb, rfl, hown, hts⟩ hC ⟨callB_of (am_np e) hts (am_good e he) rfl rfl rfl (hts _ (am_meth he).2.2.1) (hts _ wl) ⟨(am_notH he).1, (am_notH he).2, (am_meth he).2.1⟩ (by rw [am_rm_fr, am_rm_lc]; exact hR), hts _ hi9, hts _ hs9⟩ ⟨am_blind, va_recv hK hP hcl (am_wd_get hci), fun U hU hW => ⟨rfl, hpre U hU hW, by rw [hU]; exact hP⟩⟩ rfl (by rw [List.length_map]; exact hnp) hlen rfl (by show 2 * 0 + _ ≤ 8; omega) hd ⟨hcc, hss⟩
  intro T9 hT X
  obtain ⟨v', st₀, t, T', L, h0, X', hL, e1, e2, ⟨hv, hP1, hF⟩, st⟩ := hr T9 hT X
  cases hv
  obtain ⟨k1, k2, k3⟩ := vx_keep (A0 := A0) (H0 := H0) (A1 := A) h0 e1 hS (fun q _ h => hA q h) hA hL hF
  obtain ⟨t2, a1, b1⟩ := kk T'.heap (locs ++ L) (by rw [e1]; exact hP1) k1 k2 k3 T' rfl X'
  exact ⟨t2, st t2 a1, b1⟩
theorem lw_ax {x : Nat} (he : e ∈ am_ms) (hst : am_stc e = false) (hci : sh[0]? = some (.inr (.inl (ci, fs)))) (hcl : vwCl[ci]? = some ((am_y e).cls, T, N)) (hx : p.tables.exec = Jvm.exec) (hb : c.code = cc) (hlen : ls.size = c.maxLocals) (hown : s.vm.findClass own = some m.cls) (hts : ∀ w ∈ am_gw, w.before args s = true) (hK : va_K D vwCl tys s)
    (hC : am_Ct l z ad cy D A sh e (.ref 0 :: as) M (.error x) M') (hnp : as.length = am_np e) (wl : Cond.methodLink own k (am_y e) ∈ am_gw) (hR : am_fr e + 1 ≤ R.frames ∧ 8 + (am_mL e + 11) + am_lc e ≤ R.locals) (hcat : (rest.map fun v => v.category).sum ≤ 8) (hd : decode cc pc = .ok (.invokevirtual k, 3)) (hcc : cells + 1 ≤ R.cells) (hss : slots + 6 ≤ R.slots)
    (hpre : ∀ U : State, U.heap = H → s.WarmedH U.vm → am_cx l z ad cy D A sh U) (hP : va_P D vwCl (am_wd ad cy sh M) H) (hS : va_S A0 H0 H locs) (hA : ∀ q, A q → A0 q)
    (kx : ∀ (H1 : Heap) (locs1 : List Loc) (q : Addr) (ce : Cell), va_P D vwCl (am_wd ad cy sh M') H1 → H.size ≤ H1.size → (∀ q, q < H.size → ¬ A q → H1[q]? = H[q]?) → va_S A0 H0 H1 locs1 → H1[q]? = some ce → ce.vm = .none → s.vm.findClass (am_exc x) = some ce.cls → vx_W p l en R s m args below meth c H1 locs1 (cells + 1) (slots + 6) Q (F0 m pc ls rest) q) :
    W p l en R s m args below meth c H locs cells slots Q (F0 m pc ls ((as.map (am_tv ad)).reverse ++ .ref (ad 0) :: rest)) := by
  obtain ⟨hi9, hs9⟩ := (am_meth he).2.2.2.2.2 hst
  have hr := vx_runV (e := en) (below := below) (meth := meth) (locs := locs) (cells := cells) (slots := slots) (g := F0 m pc ls ((as.map (am_tv ad)).reverse ++ .ref (ad 0) :: rest)) (As := as.map (am_tv ad)) (rest := rest) (b := ad 0) (C := (am_y e).cls) (own := own) (index := k) (n := am_np e) (nL := c.maxLocals) (Ts := am_gw) (R := R) (H := H) ⟨hx, hb, rfl, hown, hts⟩ hC ⟨callB_of (am_np e) hts (am_good e he) rfl rfl rfl (hts _ (am_meth he).2.2.1) (hts _ wl) ⟨(am_notH he).1, (am_notH he).2, (am_meth he).2.1⟩ (by rw [am_rm_fr, am_rm_lc]; exact hR), hts _ hi9, hts _ hs9⟩ ⟨am_blind, va_recv hK hP hcl (am_wd_get hci), fun U hU hW => ⟨rfl, hpre U hU hW, by rw [hU]; exact hP⟩⟩ rfl (by rw [List.length_map]; exact hnp) hlen rfl (by show 2 * 0 + _ ≤ 8; omega) hd ⟨hcc, hss⟩
  intro T9 hT X
  rcases hr T9 hT X with ⟨v, st₀, t, T', L, h0, X', hL, e1, e2, hno, st⟩ | ⟨q, st₀, t, T', L, E, ce, h0, X', hL, e1, e2, ⟨rfl, hP1, hF⟩, hce, hcv, hcl9, st⟩
  · exact hno.elim
  · obtain ⟨k1, k2, k3⟩ := vx_keep (A0 := A0) (H0 := H0) (A1 := A) h0 e1 hS (fun q _ h => hA q h) hA hL hF
    obtain ⟨t2, a1, b1⟩ := kx T'.heap (locs ++ L) q ce (by rw [e1]; exact hP1) k1 k2 k3 (by rw [e1]; exact hce) hcv hcl9 T' rfl X'
    exact ⟨t2, st.trans a1, b1⟩
end LWA
/-! THE HELPERS -/
section LH
variable {l : Launch} {z : Value} {ad : Nat → Nat} {cy : Nat → ClassId} {cyL : ClassId} {D : va_G} {A : Nat → Prop} {qo : Nat}
abbrev lh_ow (qo : Nat) (cyL : ClassId) (f : Nat → Int64) : va_W := [(qo, .inl (cyL, 1, .inr (.inl f)))]
abbrev lh_A (A : Nat → Prop) (qo : Nat) : Nat → Prop := fun q => A q ∨ q = qo
def lh_nc (U : State) : Prop := va_Nc (am_exc 2) (am_exc 0) U ∧ va_Nc (am_exc 2) (am_exc 1) U ∧ va_Nc (am_exc 1) (am_exc 0) U
theorem lh_nc.go {s U : State} (h : lh_nc s) (ha : s.vm.Alike U.vm) : lh_nc U := ⟨h.1.moved ha, h.2.1.moved ha, h.2.2.moved ha⟩
def lh_cx (l : Launch) (z : Value) (ad : Nat → Nat) (cy : Nat → ClassId) (cyL : ClassId) (D : va_G) (A : Nat → Prop) (U : State) : Prop := am_cx l z ad cy D A cs_sh U ∧ va_K D vwCl [(cyL, .long)] U ∧ lh_nc U
def lh_P (l : Launch) (z : Value) (ad : Nat → Nat) (cy : Nat → ClassId) (cyL : ClassId) (D : va_G) (A : Nat → Prop) (qo : Nat) (ps : List Int32) (M : am_M) (f : Nat → Int64) : Array Value → State → Prop := va_Pc (.ref (ad 0) :: (ps.map Value.int ++ [.ref qo])) (fun U => lh_cx l z ad cy cyL D A U ∧ va_P D vwCl (am_wd ad cy cs_sh M) U.heap ∧ va_P D vwCl (lh_ow qo cyL f) U.heap)
def lh_Q (ad : Nat → Nat) (cy : Nat → ClassId) (cyL : ClassId) (D : va_G) (A : Nat → Prop) (qo : Nat) (v : Int32) (M' : am_M) (f : Nat → Int64) : Array Value → State → Outcome → State → Prop := fun _ st o t => o = .returned (some (.int v)) ∧ va_P D vwCl (am_wd ad cy cs_sh M') t.heap ∧ va_P D vwCl (lh_ow qo cyL f) t.heap ∧ va_F (lh_A A qo) st t
def lh_w (y : MethodName) (cc : ByteArray) (maxL : Nat) (hh : List (Nat × Nat × Nat × Nat)) : List Cond := Cond.codeWith y cc maxL (some .int) hh :: am_gw
def lh_rm (e : am_Me) (a b : Nat) : Room := { frames := am_fr e + 1, cells := a, slots := b, locals := 8 + (am_mL e + 11) + am_lc e }
theorem lh_blind {ps : List Int32} {M : am_M} {f : Nat → Int64} : FrameBlind (lh_P l z ad cy cyL D A qo ps M f) := by
  intro a U g mk h
  obtain ⟨h1, ⟨h2, h3, h4⟩, h5, h6⟩ := h
  exact ⟨h1, ⟨h2.same rfl rfl, va_K.moved (u := U) (U := U.calling g mk a) (Vm.Alike.refl U.vm) h3, h4.go (U := U.calling g mk a) (Vm.Alike.refl U.vm)⟩, h5, h6⟩
/-- what a helper's first rows do: they push the array, 0, the object, the numbers -/
def lh_ld (cc : ByteArray) (maxL pI : Nat) (k : Nat) : Prop := ∀ {p : Program} {l : Launch} {en : Env} {R : Room} {s : State} {m : MethodId} {args : Array Value} {below : List Frame} {meth : Method} {c : Code} {H : Heap} {locs : List Loc} {Q : State → Prop} {cells slots : Nat} {ls : Array Slot} (a qo : Nat) (ps : List Int32), ps.length = k → p.tables.exec = Jvm.exec → c.code = cc → lv_has ls maxL (lv_args 0 (.ref a :: (ps.map Value.int ++ [.ref qo]))) →
  W p l en R s m args below meth c H locs cells slots Q (F0 m pI ls ((ps.map Value.int).reverse ++ .ref a :: [.int 0, .ref qo])) → W p l en R s m args below meth c H locs cells slots Q (F0 m 0 ls [])

theorem lh_wd_len (ad : Nat → Nat) (cy : Nat → ClassId) (M : am_M) : ∀ (sh : List am_Sc) (k : Nat), (am_wdA ad cy M k sh).length = sh.length := by
  intro sh
  induction sh with
  | nil => intro k; rfl
  | cons c t ih => intro k; show (am_wdA ad cy M (k + 1) t).length + 1 = t.length + 1; rw [ih]
theorem lh_joint {M : am_M} {f : Nat → Int64} (hD : va_D A (am_wd ad cy cs_sh M)) (hq : ¬ A qo) : va_D (lh_A A qo) (am_wd ad cy cs_sh M ++ lh_ow qo cyL f) := by
  refine va_D.app (hD.weaken (fun k q _ h => Or.inl h)) ⟨fun i j p q hi hj _ => ?_, fun k q hk => ?_⟩ (fun i j p q hi hj h => ?_)
  · have h1 : i < 1 := (List.getElem?_eq_some_iff.mp hi).1
    have h2 : j < 1 := (List.getElem?_eq_some_iff.mp hj).1
    omega
  · have h1 : k < 1 := (List.getElem?_eq_some_iff.mp hk).1
    obtain rfl : k = 0 := by omega
    cases hk
    exact Or.inr rfl
  · have h1 : j < 1 := (List.getElem?_eq_some_iff.mp hj).1
    obtain rfl : j = 0 := by omega
    cases hj
    exact hq (by have := hD.2 i p hi; rw [h] at this; exact this)
section LHB
variable {p : Program} {en : Env} {R : Room} {s : State} {m : MethodId} {args : Array Value} {below : List Frame} {meth : Method} {c : Code} {e : am_Me} {ps : List Int32} {M M' : am_M} {f : Nat → Int64} {y : MethodName} {cc : ByteArray} {maxL pI pE idx : Nat} {hh : List (Nat × Nat × Nat × Nat)}
theorem lh_sta (ps : List Int32) : am_s1 (ps.map Value.int) := fun v hv => by
  obtain ⟨x, -, rfl⟩ := List.mem_map.mp hv
  rfl
theorem lh_tv (ad : Nat → Nat) (ps : List Int32) : (ps.map Value.int).map (am_tv ad) = ps.map Value.int := by
  rw [List.map_map]; rfl
theorem lh_ok {v : Int32} (he : e ∈ am_ms) (hst : am_stc e = false) (hcls : (am_y e).cls = RX9) (hnp : ps.length = am_np e) (hy : plainName y.cls = true) (hq : ¬ A qo) (hml : ps.length + 2 ≤ maxL)
    (wl : Cond.methodLink y.cls idx (am_y e) ∈ am_gw) (hld : lh_ld cc maxL pI ps.length) (dI : decode cc pI = .ok (.invokevirtual idx, 3)) (d3 : decode cc (pI + 3) = .ok (.i2l, 1)) (d4 : decode cc (pI + 4) = .ok (.lastore, 1)) {off : Int} (d5 : decode cc (pI + 5) = .ok (.goto off, 3)) (ht : ((pI + 5 : Nat) : Int) + off = (pE : Int)) (dE : decode cc pE = .ok (.iconst 0, 1)) (dR : decode cc (pE + 1) = .ok (.ireturn, 1))
    (hC : am_Ct l z ad cy D A cs_sh e (.ref 0 :: ps.map Value.int) M (.ok (some (.int v))) M') : Met l y (lh_w y cc maxL hh) (lh_rm e 0 0) (lh_P l z ad cy cyL D A qo ps M f) (lh_Q ad cy cyL D A qo 0 M' (fun _ => v.toInt64)) 0 0 (lh_A A qo) := by
  refine va_MetW (cc := cc) (maxL := maxL) (ret := some .int) (hh := hh) hy rfl ?_
  intro p en s m args below meth c s₁ B hmx hv
  have hts := atoms_spec (ws := lh_w y cc maxL hh) B.pre
  have hgw : ∀ w ∈ am_gw, w.before args s = true := fun w h => hts w (List.mem_cons_of_mem _ h)
  obtain ⟨rfl, ⟨hcx, hKL, hnc⟩, hP, hPo⟩ := hv
  have hx := B.exec
  have hb := B.bytes
  have hown : s.vm.findClass y.cls = some m.cls := findClass_of_methodNamed B.named
  have hS0 : va_S (lh_A A qo) s.heap s.heap [] := va_S.rf
  have hlt : qo < s.heap.size := (hPo 0 _ rfl).lt
  have hs1 : am_s1 (Value.ref (ad 0) :: (ps.map Value.int ++ [.ref qo])) := fun w hw => by
    rcases List.mem_cons.mp hw with rfl | hw
    · rfl
    · rcases List.mem_append.mp hw with hw | hw
      · exact lh_sta ps w hw
      · rw [List.mem_singleton.mp hw]; rfl
  have hlg : (lg_sl (Value.ref (ad 0) :: (ps.map Value.int ++ [.ref qo]))).length ≤ maxL := by
    have h9 := am_lgsl (fun i => i) _ hs1
    have e9 : (Value.ref (ad 0) :: (ps.map Value.int ++ [.ref qo])).map (am_tv (fun i => i)) = Value.ref (ad 0) :: (ps.map Value.int ++ [.ref qo]) := by
      rw [List.map_cons, List.map_append, lh_tv]; rfl
    rw [e9] at h9
    rw [h9]
    simp only [List.length_cons, List.length_append, List.length_map, List.length_nil]
    omega
  have hl := lv_entry _ hlg
  rw [lg_entry_eq]
  generalize (lg_sl (Value.ref (ad 0) :: (ps.map Value.int ++ [.ref qo])) ++ List.replicate (maxL - (lg_sl (Value.ref (ad 0) :: (ps.map Value.int ++ [.ref qo]))).length) Slot.unset).toArray = ls at hl ⊢
  refine hld (ad 0) qo ps rfl hx hb hl ?_
  refine W.eq (g2 := F0 m pI ls (((ps.map Value.int).map (am_tv ad)).reverse ++ .ref (ad 0) :: [.int 0, .ref qo])) (by rw [lh_tv]) ?_
  refine lw_am (T := TX9) (N := 16) (ci := 9) (A0 := lh_A A qo) (H0 := s.heap) he hst rfl (by rw [hcls]; rfl) hx hb (by rw [hl.1, hmx]) hown hgw hcx.1 hC (by rw [List.length_map]; exact hnp) wl ⟨Nat.le_refl _, Nat.le_refl _⟩ (Nat.le_of_ble_eq_true rfl) dI (Nat.le_refl _) (Nat.le_refl _) (fun U hU hW => hcx.go (H := s.heap) (locs := []) va_S.rf hU hW) hP hS0 (fun q h => Or.inl h) (fun H1 locs1 hP1 hz hk hS1 => ?_)
  have hPo1 : va_P D vwCl (lh_ow qo cyL f) H1 := hPo.kept (fun k q hq9 => by
    have h1 : k < 1 := (List.getElem?_eq_some_iff.mp hq9).1
    obtain rfl : k = 0 := by omega
    cases hq9
    exact hk qo hlt hq)
  refine lv_i2l hx hb d3 rfl ?_
  have hlw : (am_wd ad cy cs_sh M').length = 69 := by rw [am_wd, lh_wd_len]; exact km_shc.1
  have hat : (am_wd ad cy cs_sh M' ++ lh_ow qo cyL f)[69]? = some (qo, .inl (cyL, 1, .inr (.inl f))) := by
    rw [List.getElem?_append_right (by rw [hlw]; exact Nat.le_refl _), hlw]; rfl
  refine va_last (A := lh_A A qo) (ws := am_wd ad cy cs_sh M' ++ lh_ow qo cyL f) (f := f) (n := 1) (cA := cyL) hx hb hKL (hP1.app hPo1) (lh_joint (am_wd_D hcx.2.1) hq) hS1 69 0 hat rfl (by unfold vp_in; decide) d4 (fun H2 locs2 hP2 _ hS2 => ?_)
  have es : (am_wd ad cy cs_sh M' ++ lh_ow qo cyL f).set 69 (qo, .inl (cyL, 1, .inr (.inl (vp_updL f (0 : Int32).toNatClampNeg v.toInt64)))) = am_wd ad cy cs_sh M' ++ lh_ow qo cyL (vp_updL f (0 : Int32).toNatClampNeg v.toInt64) := by
    rw [List.set_append_right _ _ (by rw [hlw]; exact Nat.le_refl _), hlw]; rfl
  rw [es] at hP2
  have hP3 : va_P D vwCl (am_wd ad cy cs_sh M') H2 := fun k q hk9 => hP2 k q (by rw [List.getElem?_append_left (List.getElem?_eq_some_iff.mp hk9).1]; exact hk9)
  have hP4 : va_P D vwCl (lh_ow qo cyL (fun _ => v.toInt64)) H2 := by
    intro k q hk9
    have h1 : k < 1 := (List.getElem?_eq_some_iff.mp hk9).1
    obtain rfl : k = 0 := by omega
    cases hk9
    have h2 := hP2 69 _ (by rw [List.getElem?_append_right (by rw [hlw]; exact Nat.le_refl _), hlw]; rfl)
    have h3 : H2[qo]? = some (vp_cell cyL (1, .inr (.inl (vp_updL f (0 : Int32).toNatClampNeg v.toInt64)))) := h2
    show H2[qo]? = some (vp_cell cyL (1, .inr (.inl (fun _ => v.toInt64))))
    rw [h3]
    refine congrArg some ?_
    show arrV cyL 1 (fun j => .long (vp_updL f _ v.toInt64 j)) = arrV cyL 1 (fun j => .long v.toInt64)
    unfold arrV
    congr 2
    funext j
    have hj : j.val = 0 := by have := j.isLt; omega
    show Value.long (vp_updL f _ v.toInt64 j.val) = _
    rw [hj]
    rfl
  refine lv_goto hx hb d5 ht ?_
  refine lv_iconst hx hb dE rfl ?_
  exact W.iret (v := 0) hx hb B.returns (fun t ht9 hW => ⟨rfl, by rw [ht9]; exact hP3, by rw [ht9]; exact hP4, hS2.F ht9⟩) hS2.2.2 dR B.notSynchronized
theorem lh_er {x : Nat} {v : Int32} {n : Int} (he : e ∈ am_ms) (hst : am_stc e = false) (hcls : (am_y e).cls = RX9) (hnp : ps.length = am_np e) (hy : plainName y.cls = true) (hq : ¬ A qo) (hml : ps.length + 2 ≤ maxL)
    (wl : Cond.methodLink y.cls idx (am_y e) ∈ am_gw) (hld : lh_ld cc maxL pI ps.length) (dI : decode cc pI = .ok (.invokevirtual idx, 3))
    (pre : List ExceptionTableEntry) (xT : ExceptionTableEntry) (suf : List ExceptionTableEntry) (hsp : tableOf hh = pre ++ xT :: suf) (hcov : covers xT pI = true) (h0 : xT.catchType ≠ 0) (wcl : Cond.classLink y.cls xT.catchType (am_exc x) ∈ am_gw) (hcs : Cond.castable (am_exc x) (am_exc x) ∈ am_nst)
    (hpass : ∀ u ∈ pre, u.catchType ≠ 0 ∧ ∃ x', Cond.classLink y.cls u.catchType (am_exc x') ∈ am_gw ∧ ((x, x') = (2, 0) ∨ (x, x') = (2, 1) ∨ (x, x') = (1, 0)))
    {pN : Nat} (dH : (∃ k : Fin 4, (k : Nat) < maxL ∧ decode cc xT.handlerPc = .ok (.astore_n k, 1) ∧ pN = xT.handlerPc + 1) ∨ (∃ k : Nat, k < maxL ∧ decode cc xT.handlerPc = .ok (.astore k, 2) ∧ pN = xT.handlerPc + 2)) (dE : decode cc pN = .ok (.iconst n, 1)) (hn : Int32.ofInt n = v) (dR : decode cc (pN + 1) = .ok (.ireturn, 1))
    (hC : am_Ct l z ad cy D A cs_sh e (.ref 0 :: ps.map Value.int) M (.error x) M') : Met l y (lh_w y cc maxL hh) (lh_rm e 1 6) (lh_P l z ad cy cyL D A qo ps M f) (lh_Q ad cy cyL D A qo v M' f) 1 6 (lh_A A qo) := by
  refine va_MetW (cc := cc) (maxL := maxL) (ret := some .int) (hh := hh) hy rfl ?_
  intro p en s m args below meth c s₁ B hmx hv
  have hts := atoms_spec (ws := lh_w y cc maxL hh) B.pre
  have hgw : ∀ w ∈ am_gw, w.before args s = true := fun w h => hts w (List.mem_cons_of_mem _ h)
  have htab : c.exceptionTable.toList = pre ++ xT :: suf := by rw [← hsp]; exact vx_table (x := y) B (hts _ List.mem_cons_self)
  obtain ⟨rfl, ⟨hcx, hKL, hnc⟩, hP, hPo⟩ := hv
  have hx := B.exec
  have hb := B.bytes
  have hown : s.vm.findClass y.cls = some m.cls := findClass_of_methodNamed B.named
  have hS0 : va_S (lh_A A qo) s.heap s.heap [] := va_S.rf
  have hlt : qo < s.heap.size := (hPo 0 _ rfl).lt
  have hs1 : am_s1 (Value.ref (ad 0) :: (ps.map Value.int ++ [.ref qo])) := fun w hw => by
    rcases List.mem_cons.mp hw with rfl | hw
    · rfl
    · rcases List.mem_append.mp hw with hw | hw
      · exact lh_sta ps w hw
      · rw [List.mem_singleton.mp hw]; rfl
  have hlg : (lg_sl (Value.ref (ad 0) :: (ps.map Value.int ++ [.ref qo]))).length ≤ maxL := by
    have h9 := am_lgsl (fun i => i) _ hs1
    have e9 : (Value.ref (ad 0) :: (ps.map Value.int ++ [.ref qo])).map (am_tv (fun i => i)) = Value.ref (ad 0) :: (ps.map Value.int ++ [.ref qo]) := by
      rw [List.map_cons, List.map_append, lh_tv]; rfl
    rw [e9] at h9
    rw [h9]
    simp only [List.length_cons, List.length_append, List.length_map, List.length_nil]
    omega
  have hl := lv_entry _ hlg
  rw [lg_entry_eq]
  generalize (lg_sl (Value.ref (ad 0) :: (ps.map Value.int ++ [.ref qo])) ++ List.replicate (maxL - (lg_sl (Value.ref (ad 0) :: (ps.map Value.int ++ [.ref qo]))).length) Slot.unset).toArray = ls at hl ⊢
  refine hld (ad 0) qo ps rfl hx hb hl ?_
  refine W.eq (g2 := F0 m pI ls (((ps.map Value.int).map (am_tv ad)).reverse ++ .ref (ad 0) :: [.int 0, .ref qo])) (by rw [lh_tv]) ?_
  refine lw_ax (T := TX9) (N := 16) (ci := 9) (A0 := lh_A A qo) (H0 := s.heap) he hst rfl (by rw [hcls]; rfl) hx hb (by rw [hl.1, hmx]) hown hgw hcx.1 hC (by rw [List.length_map]; exact hnp) wl ⟨Nat.le_refl _, Nat.le_refl _⟩ (Nat.le_of_ble_eq_true rfl) dI (Nat.le_refl _) (Nat.le_refl _) (fun U hU hW => hcx.go (H := s.heap) (locs := []) va_S.rf hU hW) hP hS0 (fun q h => Or.inl h) (fun H1 locs1 q9 ce hP1 hz hk hS1 hce hcv hcl9 => ?_)
  have hPo1 : va_P D vwCl (lh_ow qo cyL f) H1 := hPo.kept (fun k q hq9 => by
    have h1 : k < 1 := (List.getElem?_eq_some_iff.mp hq9).1
    obtain rfl : k = 0 := by omega
    cases hq9
    exact hk qo hlt hq)
  refine vx_catch (own := y.cls) (name := am_exc x) hown pre xT suf htab ?_ hcov h0 (hgw _ wcl) (hcx.2.2.2.1.2 _ hcs) hce hcv hcl9 ?_
  · intro u hu
    obtain ⟨g1, x', g2, g3⟩ := hpass u hu
    refine Or.inr ⟨g1, am_exc x', hgw _ g2, ?_⟩
    rcases g3 with g3 | g3 | g3
    · cases g3; exact hnc.1
    · cases g3; exact hnc.2.1
    · cases g3; exact hnc.2.2
  · have fin : ∀ ls' : Array Slot, W p l en (lh_rm e 1 6) s m (Value.ref (ad 0) :: (ps.map Value.int ++ [.ref qo])).toArray below meth c H1 locs1 (0 + 1) (0 + 6) (MQ below (lh_Q ad cy cyL D A qo v M' f) (Value.ref (ad 0) :: (ps.map Value.int ++ [.ref qo])).toArray s 1 6 (lh_A A qo)) (F0 m pN ls' []) := fun ls' => by
      refine lv_iconst hx hb dE hn ?_
      exact W.iret (v := v) hx hb B.returns (fun t ht9 hW => ⟨rfl, by rw [ht9]; exact hP1, by rw [ht9]; exact hPo1, hS1.F ht9⟩) hS1.2.2 dR B.notSynchronized
    rcases dH with ⟨k, k1, k2, rfl⟩ | ⟨k, k1, k2, rfl⟩
    · exact lv_astore_n hx hb k2 rfl hl k1 rfl (fun ls' _ => fin ls')
    · exact lv_astore hx hb k2 hl k1 rfl (fun ls' _ => fin ls')
end LHB
theorem lh_ld1 {cc : ByteArray} (d0 : decode cc 0 = .ok (.aload_n 2, 1)) (d1 : decode cc 1 = .ok (.iconst 0, 1)) (d2 : decode cc 2 = .ok (.aload_n 0, 1)) (d3 : decode cc 3 = .ok (.iload_n 1, 1)) : lh_ld cc 4 4 1 := by
  intro p l en R s m args below meth c H locs Q cells slots ls a qo ps hl hx hb hv kk
  match ps, hl with
  | [p1], _ =>
    have hv : lv_has ls 4 [(0, .ref a), (1, .int p1), (2, .ref qo)] := hv
    refine lv_aload_n hx hb d0 rfl (lv_at hv 2 rfl) ?_
    refine lv_iconst hx hb d1 rfl ?_
    refine lv_aload_n hx hb d2 rfl (lv_at hv 0 rfl) ?_
    refine lv_iload_n hx hb d3 rfl (lv_at hv 1 rfl) ?_
    exact kk
theorem lh_ld2 {cc : ByteArray} (d0 : decode cc 0 = .ok (.aload_n 3, 1)) (d1 : decode cc 1 = .ok (.iconst 0, 1)) (d2 : decode cc 2 = .ok (.aload_n 0, 1)) (d3 : decode cc 3 = .ok (.iload_n 1, 1)) (d4 : decode cc 4 = .ok (.iload_n 2, 1)) : lh_ld cc 5 5 2 := by
  intro p l en R s m args below meth c H locs Q cells slots ls a qo ps hl hx hb hv kk
  match ps, hl with
  | [p1, p2], _ =>
    have hv : lv_has ls 5 [(0, .ref a), (1, .int p1), (2, .int p2), (3, .ref qo)] := hv
    refine lv_aload_n hx hb d0 rfl (lv_at hv 3 rfl) ?_
    refine lv_iconst hx hb d1 rfl ?_
    refine lv_aload_n hx hb d2 rfl (lv_at hv 0 rfl) ?_
    refine lv_iload_n hx hb d3 rfl (lv_at hv 1 rfl) ?_
    refine lv_iload_n hx hb d4 rfl (lv_at hv 2 rfl) ?_
    exact kk
theorem lh_ld3 {cc : ByteArray} (d0 : decode cc 0 = .ok (.aload 4, 2)) (d1 : decode cc 2 = .ok (.iconst 0, 1)) (d2 : decode cc 3 = .ok (.aload_n 0, 1)) (d3 : decode cc 4 = .ok (.iload_n 1, 1)) (d4 : decode cc 5 = .ok (.iload_n 2, 1)) (d5 : decode cc 6 = .ok (.iload_n 3, 1)) : lh_ld cc 6 7 3 := by
  intro p l en R s m args below meth c H locs Q cells slots ls a qo ps hl hx hb hv kk
  match ps, hl with
  | [p1, p2, p3], _ =>
    have hv : lv_has ls 6 [(0, .ref a), (1, .int p1), (2, .int p2), (3, .int p3), (4, .ref qo)] := hv
    refine lv_aload hx hb d0 (lv_at hv 4 rfl) ?_
    refine lv_iconst hx hb d1 rfl ?_
    refine lv_aload_n hx hb d2 rfl (lv_at hv 0 rfl) ?_
    refine lv_iload_n hx hb d3 rfl (lv_at hv 1 rfl) ?_
    refine lv_iload_n hx hb d4 rfl (lv_at hv 2 rfl) ?_
    refine lv_iload_n hx hb d5 rfl (lv_at hv 3 rfl) ?_
    exact kk
theorem lh_ld4 {cc : ByteArray} (d0 : decode cc 0 = .ok (.aload 5, 2)) (d1 : decode cc 2 = .ok (.iconst 0, 1)) (d2 : decode cc 3 = .ok (.aload_n 0, 1)) (d3 : decode cc 4 = .ok (.iload_n 1, 1)) (d4 : decode cc 5 = .ok (.iload_n 2, 1)) (d5 : decode cc 6 = .ok (.iload_n 3, 1)) (d6 : decode cc 7 = .ok (.iload 4, 2)) : lh_ld cc 7 9 4 := by
  intro p l en R s m args below meth c H locs Q cells slots ls a qo ps hl hx hb hv kk
  match ps, hl with
  | [p1, p2, p3, p4], _ =>
    have hv : lv_has ls 7 [(0, .ref a), (1, .int p1), (2, .int p2), (3, .int p3), (4, .int p4), (5, .ref qo)] := hv
    refine lv_aload hx hb d0 (lv_at hv 5 rfl) ?_
    refine lv_iconst hx hb d1 rfl ?_
    refine lv_aload_n hx hb d2 rfl (lv_at hv 0 rfl) ?_
    refine lv_iload_n hx hb d3 rfl (lv_at hv 1 rfl) ?_
    refine lv_iload_n hx hb d4 rfl (lv_at hv 2 rfl) ?_
    refine lv_iload_n hx hb d5 rfl (lv_at hv 3 rfl) ?_
    refine lv_iload hx hb d6 (lv_at hv 4 rfl) ?_
    exact kk
theorem lh_ld5 {cc : ByteArray} (d0 : decode cc 0 = .ok (.aload 6, 2)) (d1 : decode cc 2 = .ok (.iconst 0, 1)) (d2 : decode cc 3 = .ok (.aload_n 0, 1)) (d3 : decode cc 4 = .ok (.iload_n 1, 1)) (d4 : decode cc 5 = .ok (.iload_n 2, 1)) (d5 : decode cc 6 = .ok (.iload_n 3, 1)) (d6 : decode cc 7 = .ok (.iload 4, 2)) (d7 : decode cc 9 = .ok (.iload 5, 2)) : lh_ld cc 8 11 5 := by
  intro p l en R s m args below meth c H locs Q cells slots ls a qo ps hl hx hb hv kk
  match ps, hl with
  | [p1, p2, p3, p4, p5], _ =>
    have hv : lv_has ls 8 [(0, .ref a), (1, .int p1), (2, .int p2), (3, .int p3), (4, .int p4), (5, .int p5), (6, .ref qo)] := hv
    refine lv_aload hx hb d0 (lv_at hv 6 rfl) ?_
    refine lv_iconst hx hb d1 rfl ?_
    refine lv_aload_n hx hb d2 rfl (lv_at hv 0 rfl) ?_
    refine lv_iload_n hx hb d3 rfl (lv_at hv 1 rfl) ?_
    refine lv_iload_n hx hb d4 rfl (lv_at hv 2 rfl) ?_
    refine lv_iload_n hx hb d5 rfl (lv_at hv 3 rfl) ?_
    refine lv_iload hx hb d6 (lv_at hv 4 rfl) ?_
    refine lv_iload hx hb d7 (lv_at hv 5 rfl) ?_
    exact kk
end LH
