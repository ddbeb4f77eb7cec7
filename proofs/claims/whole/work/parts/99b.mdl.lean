/-! THE REFERENCE'S CONSTRUCTOR -/
set_option maxRecDepth 100000 in
theorem mk_d : decode cX10_init 234 = .ok (.aload_n 0, 1) ∧ decode cX10_init 235 = .ok (.invokevirtual 102, 3) ∧ decode cX10_init 238 = .ok (.aload_n 0, 1) ∧ decode cX10_init 239 = .ok (.invokevirtual 105, 3) ∧ decode cX10_init 242 = .ok (.return_, 1) := by refine ⟨?_, ?_, ?_, ?_, ?_⟩ <;> decide +kernel
theorem mk_l1 : Cond.methodLink RX10 102 yX10_clears ∈ am_gw := am_hb_in (i := (6, 49)) (by decide +kernel)
theorem mk_l2 : Cond.methodLink RX10 105 yX10_sets ∈ am_gw := am_hb_in (i := (6, 53)) (by decide +kernel)
def mk_P (l : Launch) (z : Value) (ao : Nat → Nat) (b : Nat) (cy : Nat → ClassId) (D : va_G) : Array Value → State → Prop := fun v U => v = #[Value.ref b] ∧ U.heap.size = b + 1 ∧ va_P D vwCl (km_wd b cy km_w10) U.heap ∧ va_K D vwCl (am_tys cy) U ∧ va_AO "SoldEchoes$Land" U ∧ am_cx l z (lc_ad b ao) cy D (km_A b) ms_sh U
def mk_Q (ao : Nat → Nat) (b : Nat) (cy : Nat → ClassId) (D : va_G) (M : am_M) : Array Value → State → Outcome → State → Prop := fun _ st oc t => oc = .returned none ∧ va_P D vwCl (am_wd (lc_ad b ao) cy ms_sh M) t.heap ∧ va_F (km_A b) st t
def mk_c : Nat := (km_of ms_sh M0m).length - km_w10.length
def mk_s : Nat := km_sl (km_of ms_sh M0m) - km_sl km_w10
def mk_rm : Room := { frames := 4, cells := mk_c, slots := mk_s, locals := 60 }
theorem mk_blind {l : Launch} {z : Value} {ao : Nat → Nat} {b : Nat} {cy : Nat → ClassId} {D : va_G} : FrameBlind (mk_P l z ao b cy D) := by
  intro a U g mk h
  obtain ⟨h1, h2, h3, h4, h5, h6⟩ := h
  exact ⟨h1, h2, h3, va_K.moved (u := U) (U := U.calling g mk a) (Vm.Alike.refl U.vm) h4, va_AO.moved (u := U) (U := U.calling g mk a) (Vm.Alike.refl U.vm) h5, h6.same rfl rfl⟩
theorem mk_ad0 (b : Nat) (ao : Nat → Nat) : lc_ad b ao 0 = b := by rw [lc_ad_lo (by decide), Nat.add_zero]
theorem mk_contract {l : Launch} {z : Value} {ao : Nat → Nat} {b : Nat} {cy : Nat → ClassId} {D : va_G} {M1 M2 : am_M} (h1 : f_X10_clears 4200 M0m = some (.ok none, M1)) (h2 : f_X10_sets 4200 M1 = some (.ok none, M2)) : Met l yX10_init (km_w ke_X10_init) mk_rm (mk_P l z ao b cy D) (mk_Q ao b cy D M2) mk_c mk_s (km_A b) := by
  have k1 : km_ok ke_X10_init := km_ok_of kw_X10_init
  have hm := km_mono 3000 km_run10
  refine Met.ofW (cc := cX10_init) (maxL := 1) (ret := none) (by decide +kernel) rfl ?_
  intro p en s m args below meth c s₁ B hml hv
  have hts := atoms_spec (ws := km_w ke_X10_init) B.pre
  have hgw : ∀ w ∈ am_gw, w.before args s = true := fun w h => hts w (List.mem_cons_of_mem _ h)
  have hin : meth.name = "<init>" := (name_of_methodNamed B.named B.method).1
  have hown : s.vm.findClass RX10 = some m.cls := findClass_of_methodNamed B.named
  have hx := B.exec
  have hb := B.bytes
  obtain ⟨rfl, hsz, hP, hK, hAO, hcx⟩ := hv
  have hbd : km_bd cy D ke_X10_init p mk_rm s m #[Value.ref b] meth c := ⟨k1, hx, hb, hml, hown, hgw, B.notSynchronized, hin, hK, hAO, by decide, by decide, by decide, by decide⟩
  have hL0 := am_entry (ad := km_ad b) (e := (yX10_init, 0, cX10_init, 1, none, false, 0, 0, 0, [])) (as := [Value.ref 0]) (fun w hw => by rw [List.mem_singleton.mp hw]; rfl) (by decide)
  have hfr : entryFrame m #[Value.ref b] 1 = entryFrame m ([Value.ref 0].map (am_tv (km_ad b))).toArray 1 := rfl
  rw [hfr, lg_entry_eq]
  refine km_walk 3000 km_run10 (n0 := 1) (s0 := km_sl km_w10) hbd hsz (cells := 0) (slots := 0) rfl (Nat.zero_add _) ?_ ?_ hL0 (fun _ h => nomatch h) hP va_S.rf ?_
  · show (km_of ms_sh M0m).length ≤ (km_of ms_sh M0m).length - km_w10.length + 1
    have e1 : km_w10.length = 1 := rfl
    rw [e1]
    omega
  · show km_sl (km_of ms_sh M0m) ≤ km_sl (km_of ms_sh M0m) - km_sl km_w10 + km_sl km_w10
    have := hm.2
    dsimp only at this
    omega
  · intro H' locs' ls' cells' slots' hL' _ e1 e2 hP' hS'
    have e1 : cells' = mk_c := by
      have e9 : km_w10.length = 1 := rfl
      dsimp only at e1
      show cells' = (km_of ms_sh M0m).length - km_w10.length
      rw [e9]
      omega
    have e2 : slots' = mk_s := by
      dsimp only at e2
      show slots' = km_sl (km_of ms_sh M0m) - km_sl km_w10
      omega
    subst e1; subst e2
    have hP0 : va_P D vwCl (am_wd (lc_ad b ao) cy ms_sh M0m) H' := km_of_P (fun i hi => lc_ad_lo hi) (by rw [km_shm.1]; exact Nat.le_of_ble_eq_true rfl) km_shm.2.1 km_Mz hP'
    have h0 : ls'[0]? = some (.val (.ref b)) := (hL'.2.2.2 0 (.ref 0) rfl).2
    refine lv_aload_n hx hb mk_d.1 rfl h0 ?_
    refine W.eq (g2 := F0 m 235 ls' ((([] : List Value).map (am_tv (lc_ad b ao))).reverse ++ .ref (lc_ad b ao 0) :: [])) (by rw [mk_ad0]; rfl) ?_
    refine lw_am (e := me_X10_clears) (T := TX10) (N := 66) (ci := 10) (A := km_A b) (A0 := km_A b) (H0 := s.heap) (cc := cX10_init) (as := []) (am_mt_in (n := 137) rfl) rfl rfl rfl hx hb (by rw [hL'.1, hml]; rfl) hown hgw hK (am_sound trivial lt_ms (am_mt_in (n := 137) rfl) (lh_s1 []) (Nat.le_of_ble_eq_true rfl) (t_X10_clears z 4200 M0m h1)) rfl mk_l1 (by decide) (by decide) mk_d.2.1 (Nat.le_refl _) (Nat.le_refl _) (fun U hU hW => hcx.go hS' hU hW) hP0 hS' (fun _ h => h) (fun H1 locs1 hP1 hz1 hk1 hS1 => ?_)
    refine lv_aload_n hx hb mk_d.2.2.1 rfl h0 ?_
    refine W.eq (g2 := F0 m 239 ls' ((([] : List Value).map (am_tv (lc_ad b ao))).reverse ++ .ref (lc_ad b ao 0) :: [])) (by rw [mk_ad0]; rfl) ?_
    refine lw_am (e := me_X10_sets) (T := TX10) (N := 66) (ci := 10) (A := km_A b) (A0 := km_A b) (H0 := s.heap) (cc := cX10_init) (as := []) (am_mt_in (n := 139) rfl) rfl rfl rfl hx hb (by rw [hL'.1, hml]; rfl) hown hgw hK (am_sound trivial lt_ms (am_mt_in (n := 139) rfl) (lh_s1 []) (Nat.le_of_ble_eq_true rfl) (t_X10_sets z 4200 M1 h2)) rfl mk_l2 (by decide) (by decide) mk_d.2.2.2.1 (Nat.le_refl _) (Nat.le_refl _) (fun U hU hW => hcx.go hS1 hU hW) hP1 hS1 (fun _ h => h) (fun H2 locs2 hP2 hz2 hk2 hS2 => ?_)
    exact W.vret hx hb B.returns (fun t ht hW => ⟨rfl, by rw [ht]; exact hP2, hS2.F ht⟩) hS2.2.2 mk_d.2.2.2.2 B.notSynchronized
