/-! THE CONTEXT AT THE START -/
section SX
variable {s : State} {args : Array Value}
theorem sx_K (hts : ∀ w ∈ lw_tbl, w.before args s = true) : ∃ (D : va_G) (cy : Nat → ClassId), va_K D vwCl (am_tys cy) s ∧ va_AO "SoldEchoes$Land" s := by
  have hgw : ∀ w ∈ am_gw, w.before args s = true := fun w h => hts w (am_gw_tbl w h)
  have hwl : ∀ w ∈ nw_wl, w.before args s = true := fun w h => hts w (nw_tb nw_wk w h)
  have h0 : ∀ c : Nat, ∃ d : ClassId × (Nat → Nat), ∀ q : vw_C, vwCl[c]? = some q → u_Kn s q.1 q.2.1 q.2.2 d.1 d.2 := by
    intro c
    cases hc : vwCl[c]? with
    | none => exact ⟨(0, fun _ => 0), fun q h => by cases h⟩
    | some q =>
      obtain ⟨C, T, N⟩ := q
      obtain ⟨hin, -, -⟩ := am_cls hc
      have hi : (Cond.instantiable C N).before args s = true := by
        match c, hc with
        | 0, hc => cases hc; exact hwl _ (List.mem_of_getElem? (i := 15) rfl)
        | 1, hc => cases hc; exact hwl _ (List.mem_of_getElem? (i := 16) rfl)
        | 2, hc => cases hc; exact hwl _ (List.mem_of_getElem? (i := 17) rfl)
        | 3, hc => cases hc; exact hwl _ (List.mem_of_getElem? (i := 18) rfl)
        | 4, hc => cases hc; exact hwl _ (List.mem_of_getElem? (i := 19) rfl)
        | 5, hc => cases hc; exact hwl _ (List.mem_of_getElem? (i := 20) rfl)
        | 6, hc => cases hc; exact hwl _ (List.mem_of_getElem? (i := 21) rfl)
        | 7, hc => cases hc; exact hwl _ (List.mem_of_getElem? (i := 22) rfl)
        | 8, hc => cases hc; exact hwl _ (List.mem_of_getElem? (i := 23) rfl)
        | 9, hc => cases hc; exact hwl _ (List.mem_of_getElem? (i := 24) rfl)
        | 10, hc => cases hc; exact hwl _ (List.mem_of_getElem? (i := 25) rfl)
        | n + 11, hc => exact absurd hc (by simp [vwCl])
      obtain ⟨cC, iS, hKn⟩ := u_known hgw hin hi
      exact ⟨(cC, iS), fun q h => by cases h; exact hKn⟩
  obtain ⟨d, hd⟩ := Classical.axiomOfChoice h0
  have arr : ∀ ty : FieldType, (Cond.arrayClass ty).before args s = true → ∃ c : ClassId, ArrOfT s c ty ∧ s.vm.findClass ("[" ++ ty.toString) = some c := by
    intro ty h
    obtain ⟨c, k, comp, h1, h2, h3⟩ := Cond.arrayClass_spec h
    exact ⟨c, fun n z => ⟨fun k h => (by cases h), k, h2, comp, h3⟩, h1⟩
  obtain ⟨c0, a0, f0⟩ := arr .int (hwl _ (List.mem_of_getElem? (i := 10) rfl))
  obtain ⟨c1, a1, f1⟩ := arr .byte (hwl _ (List.mem_of_getElem? (i := 11) rfl))
  obtain ⟨c2, a2, f2⟩ := arr .boolean (hwl _ (List.mem_of_getElem? (i := 12) rfl))
  have hAO : va_AO "SoldEchoes$Land" s := va_AO.of (hwl _ (List.mem_of_getElem? (i := 14) rfl))
  obtain ⟨comp, c3, k, g1, g2, g3, g4, g5⟩ := Cond.arrayOver_spec hAO
  refine ⟨(fun c => (d c).1, fun c => (d c).2), (fun t => match t with | 0 => c0 | 1 => c1 | 2 => c2 | _ => c3), ⟨fun c q h => hd c q h, fun k9 q h => ?_⟩, hAO⟩
  match k9, h with
  | 0, h => cases h; exact ⟨a0, f0⟩
  | 1, h => cases h; exact ⟨a1, f1⟩
  | 2, h => cases h; exact ⟨a2, f2⟩
  | 3, h => cases h; exact ⟨fun n z => ⟨fun k h => (by cases h), k, g3, comp, g4⟩, k, comp, g3, g4, g1, g5⟩
  | n + 4, h => cases h
theorem sx_sta (hts : ∀ w ∈ lw_tbl, w.before args s = true) (hT : nw_T.before args s = true) : ∃ (z : Value) (ao : Nat → Nat), (z = .null ∨ z = .ref 4000) ∧ ∀ (ad : Nat → Nat), (∀ i, 200 ≤ i → ad i = ao i) → am_tbw ad s ∧ ∀ (A : Nat → Prop), (∀ q, A q → s.heap.size ≤ q) → am_sta z ad A s s.heap := by
  have hwl : ∀ w ∈ nw_wl, w.before args s = true := fun w h => hts w (nw_tb nw_wk w h)
  have hat : ∀ {n : Nat} {w : Cond}, nw_at 64 nw_T n = some w → w.before args s = true := fun h => nw_of 64 nw_T _ h hT
  have hA0 : ∀ a : Nat, a < s.heap.size → ¬ s.heap.size ≤ a := fun a h => by omega
  obtain ⟨adK, adV, hK, hev⟩ := vk_Sof (args := args) (s := s) (N := 13) (tm := nw_tm) (len := am_len) (byt := am_byt) (A := fun q => s.heap.size ≤ q) nw_len (fun i hi => hat (nw_ex i hi)) (fun i hi => hat (nw_co i hi)) (fun i hi => hat (nw_ar i hi)) (fun i hi => hat (nw_le i hi)) (fun i hi j hj => hat (nw_el i hi j hj)) (fun i j hi hj hij => (nw_ne i hi j hj hij).elim (fun h => Or.inl (hat h)) (fun h => Or.inr (hat h))) hA0
  obtain ⟨r, hr, hR⟩ := va_Tof (args := args) (s := s) (N := 8) (f := fun j => .int (am_right.getD j 0)) (A := fun q => s.heap.size ≤ q) (by decide) (hat nw_ra.1) (va_eqt (hat nw_ra.2.1)) (fun j hj => va_eqt (hat (nw_ra.2.2 j hj))) hA0
  obtain ⟨d, hd, hDn⟩ := va_Tof (args := args) (s := s) (N := 8) (f := fun j => .int (am_down.getD j 0)) (A := fun q => s.heap.size ≤ q) (by decide) (hat nw_da.1) (va_eqt (hat nw_da.2.1)) (fun j hj => va_eqt (hat (nw_da.2.2 j hj))) hA0
  have z0 := va_Zof (A := fun q => s.heap.size ≤ q) (hwl _ (List.mem_of_getElem? (i := 0) rfl)) (hwl _ (List.mem_of_getElem? (i := 6) rfl)) hr hA0
  have z1 := va_Zof (A := fun q => s.heap.size ≤ q) (hwl _ (List.mem_of_getElem? (i := 1) rfl)) (hwl _ (List.mem_of_getElem? (i := 6) rfl)) hd hA0
  have z2 := va_Zof (A := fun q => s.heap.size ≤ q) (hwl _ (List.mem_of_getElem? (i := 2) rfl)) (hwl _ (List.mem_of_getElem? (i := 7) rfl)) (va_eqt (hat nw_ot.1)) hA0
  obtain ⟨v, hv, hvr⟩ := Cond.isRef_spec (hat nw_ot.2.1)
  have z3 := va_Zof (A := fun q => s.heap.size ≤ q) (hwl _ (List.mem_of_getElem? (i := 3) rfl)) (hwl _ (List.mem_of_getElem? (i := 8) rfl)) hv hA0
  have z4 := vx_Zqof (A := fun q => s.heap.size ≤ q) (hwl _ (List.mem_of_getElem? (i := 4) rfl)) (hwl _ (List.mem_of_getElem? (i := 9) rfl)) (hat nw_ot.2.2.1) hA0
  have z5 := vx_Zqof (A := fun q => s.heap.size ≤ q) (hwl _ (List.mem_of_getElem? (i := 5) rfl)) (hwl _ (List.mem_of_getElem? (i := 9) rfl)) (hat nw_ot.2.2.2) hA0
  obtain ⟨z, zq, hz, hzq⟩ : ∃ (z : Value) (zq : Nat), (z = .null ∨ z = .ref 4000) ∧ ∀ ad : Nat → Nat, ad 4000 = zq → am_tv ad z = v := by
    cases v with
    | null => exact ⟨.null, 0, Or.inl rfl, fun _ _ => rfl⟩
    | ref a => exact ⟨.ref 4000, a, Or.inr rfl, fun ad h => by show Value.ref (ad 4000) = _; rw [h]⟩
    | _ => cases hvr
  refine ⟨z, fun i => if i < 2000 then adK (i - 1000) else if i < 3000 then adV (i - 2000) else if i = 3000 then r else if i = 3001 then d else zq, hz, fun ad had => ?_⟩
  dsimp only at had
  refine ⟨⟨fun q hq => ?_, fun w hw => ?_⟩, fun A hA => ?_⟩
  · obtain ⟨b, hzp⟩ := am_zip_in am_srs nh_sr nw_sr.2 q hq
    have h1 := List.all_eq_true.mp nw_sr.1 _ hzp
    simp only [Bool.and_eq_true, Bool.or_eq_true, decide_eq_true_eq] at h1
    obtain ⟨g1, g2, g3⟩ := h1
    have g2 : q.2.2 < 13 := Nat.le_of_ble_eq_true g2
    have e9 : ad (1000 + q.2.2) = adK q.2.2 := by
      rw [had _ (by omega), if_pos (by omega), Nat.add_sub_cancel_left]
    rw [e9]
    have hev9 : (Term.string q.1 q.2.1).eval args s none [] s = some (.ref (adK q.2.2)) := by
      rcases g3 with g3 | g3
      · rw [g3]; exact hev _ g2
      · exact va_eqR (hat g3) (hev _ g2)
    exact vk_R.of (hts _ (am_tb_in _ _ (am_nth_in _ _ _ g1))) hev9
  · have h1 := hts w (nw_tb nw_ns w hw)
    simp only [am_nst, List.mem_cons, List.not_mem_nil, or_false] at hw
    rcases hw with rfl | rfl | rfl | rfl | rfl | rfl | rfl | rfl | rfl | rfl | rfl | rfl | rfl | rfl <;> exact h1
  · have hKK : vk_S 13 am_len am_byt (fun i => ad (1000 + i)) (fun i => ad (2000 + i)) (fun q => s.heap.size ≤ q) s s.heap := by
      refine ⟨fun i hi => ?_, fun i j hi hj h => ?_⟩
      · have e1 : ad (1000 + i) = adK i := by
          rw [had _ (by omega), if_pos (by omega), Nat.add_sub_cancel_left]
        have e2 : ad (2000 + i) = adV i := by
          rw [had _ (by omega), if_neg (by omega), if_pos (by omega), Nat.add_sub_cancel_left]
        dsimp only
        rw [e1, e2]
        exact hK.1 i hi
      · have e1 : ∀ i, i < 13 → ad (1000 + i) = adK i := fun i hi => by
          rw [had _ (by omega), if_pos (by omega), Nat.add_sub_cancel_left]
        dsimp only at h
        rw [e1 i hi, e1 j hj] at h
        exact hK.2 i j hi hj h
    have e3 : ad 3000 = r := by rw [had _ (by omega)]; rfl
    have e4 : ad 3001 = d := by rw [had _ (by omega)]; rfl
    have e5 : ad 4000 = zq := by rw [had _ (by omega)]; rfl
    have hAB : ∀ q, A q → s.heap.size ≤ q := hA
    refine ⟨hKK.narrow hAB, ⟨?_, ?_⟩, ⟨?_, ?_⟩, z2.narrow hAB, ?_, z4.narrow hAB, z5.narrow hAB⟩
    · rw [e3]; exact z0.narrow hAB
    · rw [e3]; exact hR.narrow hAB
    · rw [e4]; exact z1.narrow hAB
    · rw [e4]; exact hDn.narrow hAB
    · rw [hzq ad e5]; exact z3.narrow hAB
end SX
