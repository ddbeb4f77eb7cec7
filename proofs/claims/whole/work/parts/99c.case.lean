/-! THE LAW: a case of the switch -/
def lc_ck (l : List (Nat × Instr × Nat)) : Bool := l.all (fun x => match decode code x.1 with
  | .ok q => decide (q = x.2)
  | _ => false)
theorem lc_at {l : List (Nat × Instr × Nat)} (h : lc_ck l = true) (i : Nat) {pc : Nat} {j : Instr} {n : Nat} (hx : l[i]? = some (pc, j, n)) : decode code pc = .ok (j, n) := by
  have h1 := List.all_eq_true.mp h _ (List.mem_of_getElem? hx)
  dsimp only at h1
  split at h1
  · rename_i q hq
    rw [hq, of_decide_eq_true h1]
  · cases h1
def lc_ab (p : Nat) : Nat → List (Nat × Instr × Nat)
  | 0 => []
  | k + 1 => lc_ab p k ++ [(p + 6 * k, .aload_n 0, 1), (p + 6 * k + 1, .iload 4, 2), (p + 6 * k + 3, .iconst ((k : Int) + 1), 1), (p + 6 * k + 4, .iadd, 1), (p + 6 * k + 5, .iaload, 1)]
theorem lc_app {a b : List (Nat × Instr × Nat)} (h : lc_ck (a ++ b) = true) : lc_ck a = true ∧ lc_ck b = true := by
  unfold lc_ck at h
  rw [List.all_append, Bool.and_eq_true] at h
  exact h
def lw_ps (xs : Nat → Int32) (n : Nat) : Nat → List Int32
  | 0 => []
  | k + 1 => lw_ps xs n k ++ [xs (n + (k + 1))]
theorem lw_ps_len (xs : Nat → Int32) (n : Nat) : ∀ k, (lw_ps xs n k).length = k := by
  intro k
  induction k with
  | zero => rfl
  | succ k ih => show (lw_ps xs n k ++ [_]).length = _; rw [List.length_append, ih]; rfl
abbrev lw_lv (s : State) (b n : Nat) : List (Nat × Value) := [(0, .ref b), (1, .ref s.heap.size), (2, .ref (s.heap.size + 69)), (3, .ref (s.heap.size + 98)), (4, .int (i32 n))]
section LWC
variable {p : Program} {l : Launch} {en : Env} {s : State} {m : MethodId} {below : List Frame} {meth : Method} {c : Code} {b L : Nat} {xs : Nat → Int32} {z : Value} {ao : Nat → Nat} {cy : Nat → ClassId} {cyL : ClassId} {D : va_G}
variable {H : Heap} {locs : List Loc} {ls : Array Slot} {cells slots : Nat} {Q : State → Prop} {n : Nat}
theorem lw_has {lv : List (Nat × Value)} (h : lv_has ls 7 lv) (hs : ∀ q ∈ lw_lv s b n, q ∈ lv) : lv_has ls 7 (lw_lv s b n) := ⟨h.1, h.2.1, fun q hq => h.2.2 q (hs q hq)⟩
theorem lw_args (C : LC p l s m meth c b L xs z ao cy cyL D) (h0 : ls[0]? = some (.val (.ref b))) (h4 : ls[4]? = some (.val (.int (i32 n)))) (hn : n + 6 ≤ L) (hS : va_S (km_A s.heap.size) s.heap H locs) (pc : Nat) (rest : List Value) : ∀ (k : Nat), k ≤ 5 → lc_ck (lc_ab pc k) = true → W p l en room_1 s m #[Value.ref b] below meth c H locs cells slots Q (F0 m (pc + 6 * k) ls (((lw_ps xs n k).map Value.int).reverse ++ rest)) → W p l en room_1 s m #[Value.ref b] below meth c H locs cells slots Q (F0 m pc ls rest) := by
  obtain ⟨⟨hx, hb, -, -, -, -⟩, -, ⟨hX, hbl, hL⟩, -⟩ := C
  intro k
  induction k with
  | zero => intro _ _ kk; exact kk
  | succ k ih =>
    intro hk hck kk
    obtain ⟨c1, c2⟩ := lc_app (a := lc_ab pc k) hck
    refine ih (by omega) c1 ?_
    refine lv_aload_n hx hb (lc_at c2 0 rfl) rfl h0 ?_
    refine lv_iload hx hb (lc_at c2 1 rfl) h4 ?_
    refine lv_iconst (v := i32 ((k : Int) + 1)) hx hb (lc_at c2 2 rfl) rfl ?_
    refine lv_iadd hx hb (lc_at c2 3 rfl) ?_
    rw [i32_add]
    have e1 : (n : Int) + ((k : Int) + 1) = ((n + (k + 1) : Nat) : Int) := by omega
    rw [e1]
    have e2 : (i32 ((n + (k + 1) : Nat) : Int)).toNatClampNeg = n + (k + 1) := by rw [i32_cl (by omega) (by omega)]; omega
    refine va_sld (A := km_A s.heap.size) hx hb hX hbl (by show ¬ s.heap.size ≤ b; omega) hS (by
      show ¬ (_ ∨ _)
      rw [i32_lt0 (by omega) (by omega), e2]
      omega) (lc_at c2 4 rfl) ?_
    rw [e2]
    refine W.eq (g2 := F0 m (pc + 6 * (k + 1)) ls (((lw_ps xs n (k + 1)).map Value.int).reverse ++ rest)) ?_ kk
    show _ = F0 m _ ls (((lw_ps xs n k ++ [xs (n + (k + 1))]).map Value.int).reverse ++ rest)
    rw [List.map_append, List.reverse_append]
    rfl
theorem lw_hlp (C : LC p l s m meth c b L xs z ao cy cyL D) {y : MethodName} {cc : ByteArray} {maxL mc ms hi pc : Nat} {hh : List (Nat × Nat × Nat × Nat)} {eC : am_Me} {ps : List Int32} {cd : Int32} {Mc Mc' Mm : am_M} {f f' : Nat → Int64}
    (hM : Met l y (lh_w y cc maxL hh) (lh_rm eC mc ms) (lh_P l z (lc_ad s.heap.size ao) cy cyL D (lc_Ac s.heap.size) (s.heap.size + 98) ps Mc f) (lh_Q (lc_ad s.heap.size ao) cy cyL D (lc_Ac s.heap.size) (s.heap.size + 98) cd Mc' f') mc ms (lh_A (lc_Ac s.heap.size) (s.heap.size + 98)))
    (hG : GoodIn am_gw (va_wsS RL hi y (lh_w y cc maxL hh))) (hd : y.cls ≠ "java/lang/invoke/MethodHandle" ∧ y.cls ≠ "java/lang/invoke/VarHandle" ∧ (parseMethodDescriptor y.desc).map (fun d => d.parameters.length) = some (ps.length + 2)) (hR : am_fr eC + 1 + 1 ≤ 13 ∧ 8 + (maxL + 11) + (8 + (am_mL eC + 11) + am_lc eC) ≤ 486)
    (hlen : ls.size = 7) (hdc : decode code pc = .ok (.invokestatic hi, 3)) (hc1 : cells + mc ≤ room_1.cells) (hc2 : slots + ms ≤ room_1.slots) (hW : LW s ao cy cyL D Mc Mm f H) (hS : va_S (km_A s.heap.size) s.heap H locs)
    (kk : ∀ (H1 : Heap) (locs1 : List Loc), LW s ao cy cyL D Mc' Mm f' H1 → va_S (km_A s.heap.size) s.heap H1 locs1 → W p l en room_1 s m #[Value.ref b] below meth c H1 locs1 (cells + mc) (slots + ms) Q (F0 m (pc + 3) ls [.int cd])) :
    W p l en room_1 s m #[Value.ref b] below meth c H locs cells slots Q (F0 m pc ls (.ref (s.heap.size + 98) :: ((ps.map Value.int).reverse ++ [.ref s.heap.size]))) := by
  have C0 := C
  obtain ⟨⟨hx, hb, -, hml, hown, -⟩, hts, -, ⟨hK, -, hKL, hnc⟩, -⟩ := C
  have est : (.ref (s.heap.size + 98) :: ((ps.map Value.int).reverse ++ [.ref s.heap.size]) : List Value) = (Value.ref (lc_ad s.heap.size ao 0) :: (ps.map Value.int ++ [.ref (s.heap.size + 98)])).reverse ++ [] := by
    rw [mk_ad0, List.reverse_cons, List.reverse_append, List.append_nil]; rfl
  have hr := vx_runSW (e := en) (below := below) (meth := meth) (locs := locs) (cells := cells) (slots := slots) (g := F0 m pc ls (.ref (s.heap.size + 98) :: ((ps.map Value.int).reverse ++ [.ref s.heap.size]))) (As := .ref (lc_ad s.heap.size ao 0) :: (ps.map Value.int ++ [.ref (s.heap.size + 98)])) (rest := []) (own := RL) (index := hi) (n := ps.length + 2) (nL := 7) (Ts := am_gw) (R := room_1) (H := H) ⟨hx, hb, hml, hown, hts⟩ hM (vx_cwSW (ps.length + 2) hts hG rfl rfl rfl hd hR) ⟨lh_blind, fun U hU hWm => ⟨rfl, ⟨lc_cxC C0 hW.2.2.2 hS U hU hWm, va_K.moved hWm.alike hKL, hnc.go hWm.alike⟩, by rw [hU]; exact hW.1, by rw [hU]; exact hW.2.2.1⟩⟩ rfl (by simp only [List.length_cons, List.length_append, List.length_map, List.length_nil]) hlen est (Nat.le_of_ble_eq_true rfl) hdc ⟨hc1, hc2⟩
  intro T hT X
  obtain ⟨v', st₀, t, T', L9, h0, X', hL9, e1, e2, ⟨hv, hP1, hPo1, hF⟩, st⟩ := hr T hT X
  cases hv
  have hA : ∀ q, lh_A (lc_Ac s.heap.size) (s.heap.size + 98) q → km_A s.heap.size q := fun q h => by
    show s.heap.size ≤ q
    rcases h with (h | h) | h <;> omega
  obtain ⟨k1, k2, k3⟩ := vx_keep (A0 := km_A s.heap.size) (H0 := s.heap) (A1 := lh_A (lc_Ac s.heap.size) (s.heap.size + 98)) h0 e1 hS (fun q _ h => hA q h) hA hL9 hF
  obtain ⟨t2, a1, b1⟩ := kk T'.heap (locs ++ L9) (lc_afterC hW (by rw [e1]; exact hP1) (by rw [e1]; exact hPo1) k1 k2) k3 T' rfl X'
  exact ⟨t2, st t2 a1, b1⟩
/-- a call of the reference -/
theorem lw_mdl (C : LC p l s m meth c b L xs z ao cy cyL D) {eM : am_Me} {mi pc : Nat} {ps : List Int32} {v : Int32} {rest : List Value} {Mc Mm Mm' : am_M} {f : Nat → Int64} (he : eM ∈ am_ms) (hst : am_stc eM = false) (hcls : (am_y eM).cls = RX10) (hnp : ps.length = am_np eM) (wl : Cond.methodLink RL mi (am_y eM) ∈ am_gw) (hR : am_fr eM + 1 ≤ 13 ∧ 8 + (am_mL eM + 11) + am_lc eM ≤ 486)
    (hC : am_Ct l z (lc_ad (s.heap.size + 69) ao) cy D (lc_Am s.heap.size) ms_sh eM (.ref 0 :: ps.map Value.int) Mm (.ok (some (.int v))) Mm') (hlen : ls.size = 7) (hcat : (rest.map fun v => v.category).sum ≤ 8) (hdc : decode code pc = .ok (.invokevirtual mi, 3)) (hc1 : cells ≤ room_1.cells) (hc2 : slots ≤ room_1.slots) (hW : LW s ao cy cyL D Mc Mm f H) (hS : va_S (km_A s.heap.size) s.heap H locs)
    (kk : ∀ (H1 : Heap) (locs1 : List Loc), LW s ao cy cyL D Mc Mm' f H1 → va_S (km_A s.heap.size) s.heap H1 locs1 → W p l en room_1 s m #[Value.ref b] below meth c H1 locs1 cells slots Q (F0 m (pc + 3) ls (.int v :: rest))) :
    W p l en room_1 s m #[Value.ref b] below meth c H locs cells slots Q (F0 m pc ls ((ps.map Value.int).reverse ++ .ref (s.heap.size + 69) :: rest)) := by
  have C0 := C
  obtain ⟨⟨hx, hb, -, hml, hown, -⟩, hts, -, ⟨hK, -, hKL, hnc⟩, -⟩ := C
  refine W.eq (g2 := F0 m pc ls (((ps.map Value.int).map (am_tv (lc_ad (s.heap.size + 69) ao))).reverse ++ .ref (lc_ad (s.heap.size + 69) ao 0) :: rest)) (by rw [mk_ad0, lh_tv]) ?_
  refine lw_am (T := TX10) (N := 66) (ci := 10) (A := lc_Am s.heap.size) (A0 := km_A s.heap.size) (H0 := s.heap) he hst rfl (by rw [hcls]; rfl) hx hb (by rw [hlen, hml]) hown hts hK hC (by rw [List.length_map]; exact hnp) wl hR hcat hdc hc1 hc2 (lc_cxM C0 hW.2.2.2 hS) hW.2.1 hS (fun q h => by show s.heap.size ≤ q; rcases h with h | h <;> omega) (fun H1 locs1 hP1 hz1 hk1 hS1 => ?_)
  exact kk H1 locs1 (lc_afterM hW hP1 hz1 hk1) hS1
/-- a call of the class that never throws -/
theorem lw_cls (C : LC p l s m meth c b L xs z ao cy cyL D) {eC : am_Me} {mi pc : Nat} {ps : List Int32} {v : Int32} {rest : List Value} {Mc Mc' Mm : am_M} {f : Nat → Int64} (he : eC ∈ am_ms) (hst : am_stc eC = false) (hcls : (am_y eC).cls = RX9) (hnp : ps.length = am_np eC) (wl : Cond.methodLink RL mi (am_y eC) ∈ am_gw) (hR : am_fr eC + 1 ≤ 13 ∧ 8 + (am_mL eC + 11) + am_lc eC ≤ 486)
    (hC : am_Ct l z (lc_ad s.heap.size ao) cy D (lc_Ac s.heap.size) cs_sh eC (.ref 0 :: ps.map Value.int) Mc (.ok (some (.int v))) Mc') (hlen : ls.size = 7) (hcat : (rest.map fun v => v.category).sum ≤ 8) (hdc : decode code pc = .ok (.invokevirtual mi, 3)) (hc1 : cells ≤ room_1.cells) (hc2 : slots ≤ room_1.slots) (hW : LW s ao cy cyL D Mc Mm f H) (hS : va_S (km_A s.heap.size) s.heap H locs)
    (kk : ∀ (H1 : Heap) (locs1 : List Loc), LW s ao cy cyL D Mc' Mm f H1 → va_S (km_A s.heap.size) s.heap H1 locs1 → W p l en room_1 s m #[Value.ref b] below meth c H1 locs1 cells slots Q (F0 m (pc + 3) ls (.int v :: rest))) :
    W p l en room_1 s m #[Value.ref b] below meth c H locs cells slots Q (F0 m pc ls ((ps.map Value.int).reverse ++ .ref s.heap.size :: rest)) := by
  have C0 := C
  obtain ⟨⟨hx, hb, -, hml, hown, -⟩, hts, -, ⟨hK, -, hKL, hnc⟩, -⟩ := C
  refine W.eq (g2 := F0 m pc ls (((ps.map Value.int).map (am_tv (lc_ad s.heap.size ao))).reverse ++ .ref (lc_ad s.heap.size ao 0) :: rest)) (by rw [mk_ad0, lh_tv]) ?_
  refine lw_am (T := TX9) (N := 16) (ci := 9) (A := lc_Ac s.heap.size) (A0 := km_A s.heap.size) (H0 := s.heap) he hst rfl (by rw [hcls]; rfl) hx hb (by rw [hlen, hml]) hown hts hK hC (by rw [List.length_map]; exact hnp) wl hR hcat hdc hc1 hc2 (lc_cxC C0 hW.2.2.2 hS) hW.1 hS (fun q h => by show s.heap.size ≤ q; rcases h with h | h <;> omega) (fun H1 locs1 hP1 hz1 hk1 hS1 => ?_)
  exact kk H1 locs1 (lc_afterCn hW hP1 hz1 hk1) hS1
def lc_T (pc0 p1 p2 k hi mi : Nat) : List (Nat × Instr × Nat) := [(pc0, .aload_n 1, 1), (p1, .aload_n 3, 1), (p1 + 1, .invokestatic hi, 3), (p1 + 4, .istore 5, 2), (p1 + 6, .aload_n 2, 1), (p2, .invokevirtual mi, 3), (p2 + 3, .istore 6, 2), (p2 + 5, .aload_n 2, 1), (p2 + 6, .invokevirtual 121, 3), (p2 + 9, .iload 5, 2), (p2 + 11, .if_icmp .eq 5, 3), (p2 + 16, .iload 5, 2), (p2 + 18, .ifCond .ne 15, 3), (p2 + 21, .aload_n 3, 1), (p2 + 22, .iconst 0, 1), (p2 + 23, .laload, 1), (p2 + 24, .iload 6, 2), (p2 + 26, .i2l, 1), (p2 + 27, .lcmp, 1), (p2 + 28, .ifCond .eq 5, 3), (p2 + 33, .goto (2556 - ((p2 : Int) + 33)), 3)]
/-- a case whose call may throw -/
theorem lw_T (C : LC p l s m meth c b L xs z ao cy cyL D) {y : MethodName} {cc : ByteArray} {maxL hi mi pc0 p1 p2 k : Nat} {hh : List (Nat × Nat × Nat × Nat)} {eC eM : am_Me} {Mc Mm : am_M} {f : Nat → Int64}
    (hp1 : pc0 + 1 + 6 * k = p1) (hp2 : p1 + 7 + 6 * k = p2) (hck : (lc_ck (lc_T pc0 p1 p2 k hi mi) && (lc_ck (lc_ab (pc0 + 1) k) && lc_ck (lc_ab (p1 + 7) k))) = true)
    (hG : GoodIn am_gw (va_wsS RL hi y (lh_w y cc maxL hh))) (hd : y.cls ≠ "java/lang/invoke/MethodHandle" ∧ y.cls ≠ "java/lang/invoke/VarHandle" ∧ (parseMethodDescriptor y.desc).map (fun d => d.parameters.length) = some (k + 2)) (hR1 : am_fr eC + 1 + 1 ≤ 13 ∧ 8 + (maxL + 11) + (8 + (am_mL eC + 11) + am_lc eC) ≤ 486)
    (he : eM ∈ am_ms) (hst : am_stc eM = false) (hcls : (am_y eM).cls = RX10) (hnp : k = am_np eM) (wl : Cond.methodLink RL mi (am_y eM) ∈ am_gw) (hR2 : am_fr eM + 1 ≤ 13 ∧ 8 + (am_mL eM + 11) + am_lc eM ≤ 486) (wt : Cond.methodLink RL 121 yX10_thrown ∈ am_gw)
    (hLT : LT l z (lc_ad s.heap.size ao) (lc_ad (s.heap.size + 69) ao) cy cyL D (lc_Ac s.heap.size) (lc_Am s.heap.size) (s.heap.size + 98) y cc maxL hh eC eM (lw_ps xs n k) Mc Mm f) (hk : k ≤ 5) (hn : n + 6 ≤ L) (hc1 : cells + 1 ≤ room_1.cells) (hc2 : slots + 6 ≤ room_1.slots) (hW : LW s ao cy cyL D Mc Mm f H) (hS : va_S (km_A s.heap.size) s.heap H locs) (hl : lv_has ls 7 (lw_lv s b n))
    (kk : ∀ (H1 : Heap) (locs1 : List Loc) (ls1 : Array Slot) (Mc' Mm' : am_M) (f' : Nat → Int64), Inv Mc' Mm' → LW s ao cy cyL D Mc' Mm' f' H1 → va_S (km_A s.heap.size) s.heap H1 locs1 → lv_has ls1 7 (lw_lv s b n) → W p l en room_1 s m #[Value.ref b] below meth c H1 locs1 (cells + 1) (slots + 6) Q (F0 m 2556 ls1 [])) :
    W p l en room_1 s m #[Value.ref b] below meth c H locs cells slots Q (F0 m pc0 ls []) := by
  have C0 := C
  obtain ⟨⟨hx, hb, -, hml, hown, -⟩, hts, -, ⟨hK, -, hKL, hnc⟩, -⟩ := C
  simp only [Bool.and_eq_true] at hck
  obtain ⟨ck, ck1, ck2⟩ := hck
  obtain ⟨mc, ms, cd, Mc', f', v, Mm', ⟨hmc, hms⟩, hM, hCt, hcd, hval, hI⟩ := hLT
  have hpl := lw_ps_len xs n k
  refine lv_aload_n hx hb (lc_at ck 0 rfl) rfl (lv_at hl 1 rfl) ?_
  refine lw_args C0 (lv_at hl 0 rfl) (lv_at hl 4 rfl) hn hS (pc0 + 1) _ k hk ck1 ?_
  rw [hp1]
  refine lv_aload_n hx hb (lc_at ck 1 rfl) rfl (lv_at hl 3 rfl) ?_
  refine lw_hlp C0 hM hG (by rw [hpl]; exact hd) hR1 hl.1 (lc_at ck 2 rfl) (by omega) (by omega) hW hS (fun H1 locs1 hW1 hS1 => ?_)
  refine lv_istore hx hb (lc_at ck 3 rfl) hl (by decide) rfl (fun ls1 hl1 => ?_)
  refine lv_aload_n hx hb (lc_at ck 4 rfl) rfl (lv_at hl1 3 rfl) ?_
  refine lw_args C0 (lv_at hl1 1 rfl) (lv_at hl1 5 rfl) hn hS1 (p1 + 7) _ k hk ck2 ?_
  rw [hp2]
  refine lw_mdl C0 he hst hcls (by rw [hpl]; exact hnp) wl hR2 hCt hl1.1 (by decide) (lc_at ck 5 rfl) (by omega) (by omega) hW1 hS1 (fun H2 locs2 hW2 hS2 => ?_)
  refine lv_istore hx hb (lc_at ck 6 rfl) hl1 (by decide) rfl (fun ls2 hl2 => ?_)
  refine lv_aload_n hx hb (lc_at ck 7 rfl) rfl (lv_at hl2 4 rfl) ?_
  refine lw_mdl (eM := me_X10_thrown) (ps := []) (v := Mm' 0 0) (Mm' := Mm') (rest := []) C0 (am_mt_in (n := 119) rfl) rfl rfl rfl wt (by decide) (am_sound trivial lt_ms (am_mt_in (n := 119) rfl) (lh_s1 []) (Nat.le_of_ble_eq_true rfl) (t_X10_thrown z 4200 Mm' rfl)) hl2.1 (by decide) (lc_at ck 8 rfl) (by omega) (by omega) hW2 hS2 (fun H3 locs3 hW3 hS3 => ?_)
  have hl3 : lv_has ls2 7 (lw_lv s b n) := lw_has hl2 (by
    intro q hq
    exact List.mem_cons_of_mem _ (List.mem_cons_of_mem _ hq))
  have fin : W p l en room_1 s m #[Value.ref b] below meth c H3 locs3 (cells + mc) (slots + ms) Q (F0 m (p2 + 33) ls2 []) := by
    refine lv_goto (tgt := 2556) hx hb (lc_at ck 20 rfl) (by omega) ?_
    exact W.widen (by omega) (by omega) (kk H3 locs3 ls2 Mc' Mm' f' hI hW3 hS3 hl3)
  refine lv_iload hx hb (lc_at ck 9 rfl) (lv_at hl2 1 rfl) ?_
  refine lv_icmp_eq (tgt := p2 + 16) hx hb (lc_at ck 10 rfl) (by omega) (fun _ => ?_) (fun h => absurd hcd h)
  refine lv_iload hx hb (lc_at ck 11 rfl) (lv_at hl2 1 rfl) ?_
  refine lv_if_ne (tgt := p2 + 33) hx hb (lc_at ck 12 rfl) (by omega) (fun _ => fin) (fun h0 => ?_)
  refine lv_aload_n hx hb (lc_at ck 13 rfl) rfl (lv_at hl2 5 rfl) ?_
  refine lv_iconst hx hb (lc_at ck 14 rfl) rfl ?_
  refine va_lald (D := D) (cl := vwCl) (ws := lh_ow (s.heap.size + 98) cyL f') (n := 1) (f := f') hx hb hKL hW3.2.2.1 0 0 rfl rfl (by unfold vp_in; decide) (lc_at ck 15 rfl) ?_
  refine lv_iload hx hb (lc_at ck 16 rfl) (lv_at hl2 0 rfl) ?_
  refine lv_i2l hx hb (lc_at ck 17 rfl) rfl ?_
  refine W.lcmp hx hb (lc_at ck 18 rfl) ?_
  refine lv_if_eq (tgt := p2 + 33) hx hb (lc_at ck 19 rfl) (by omega) (fun _ => fin) (fun h => absurd ?_ h)
  have e9 : f' (Int32.toNatClampNeg (Int32.ofInt 0)) = v.toInt64 := hval h0
  rw [e9]
  simp [lg_cmp]
def lc_N (pc0 p1 p2 k ci mi : Nat) : List (Nat × Instr × Nat) := [(pc0, .aload_n 1, 1), (p1, .invokevirtual ci, 3), (p1 + 3, .aload_n 2, 1), (p2, .invokevirtual mi, 3), (p2 + 3, .if_icmp .eq (2556 - ((p2 : Int) + 3)), 3)]
/-- a case whose call never throws -/
theorem lw_N (C : LC p l s m meth c b L xs z ao cy cyL D) {ci mi pc0 p1 p2 k : Nat} {eC eM : am_Me} {Mc Mm : am_M} {f : Nat → Int64}
    (hp1 : pc0 + 1 + 6 * k = p1) (hp2 : p1 + 4 + 6 * k = p2) (hck : (lc_ck (lc_N pc0 p1 p2 k ci mi) && (lc_ck (lc_ab (pc0 + 1) k) && lc_ck (lc_ab (p1 + 4) k))) = true)
    (he1 : eC ∈ am_ms) (hst1 : am_stc eC = false) (hcls1 : (am_y eC).cls = RX9) (hnp1 : k = am_np eC) (wl1 : Cond.methodLink RL ci (am_y eC) ∈ am_gw) (hR1 : am_fr eC + 1 ≤ 13 ∧ 8 + (am_mL eC + 11) + am_lc eC ≤ 486)
    (he : eM ∈ am_ms) (hst : am_stc eM = false) (hcls : (am_y eM).cls = RX10) (hnp : k = am_np eM) (wl : Cond.methodLink RL mi (am_y eM) ∈ am_gw) (hR2 : am_fr eM + 1 ≤ 13 ∧ 8 + (am_mL eM + 11) + am_lc eM ≤ 486)
    (hLN : LN l z (lc_ad s.heap.size ao) (lc_ad (s.heap.size + 69) ao) cy D (lc_Ac s.heap.size) (lc_Am s.heap.size) eC eM (lw_ps xs n k) Mc Mm) (hk : k ≤ 5) (hn : n + 6 ≤ L) (hc1 : cells + 1 ≤ room_1.cells) (hc2 : slots + 6 ≤ room_1.slots) (hW : LW s ao cy cyL D Mc Mm f H) (hS : va_S (km_A s.heap.size) s.heap H locs) (hl : lv_has ls 7 (lw_lv s b n))
    (kk : ∀ (H1 : Heap) (locs1 : List Loc) (ls1 : Array Slot) (Mc' Mm' : am_M) (f' : Nat → Int64), Inv Mc' Mm' → LW s ao cy cyL D Mc' Mm' f' H1 → va_S (km_A s.heap.size) s.heap H1 locs1 → lv_has ls1 7 (lw_lv s b n) → W p l en room_1 s m #[Value.ref b] below meth c H1 locs1 (cells + 1) (slots + 6) Q (F0 m 2556 ls1 [])) :
    W p l en room_1 s m #[Value.ref b] below meth c H locs cells slots Q (F0 m pc0 ls []) := by
  have C0 := C
  obtain ⟨⟨hx, hb, -, hml, hown, -⟩, hts, -, ⟨hK, -, hKL, hnc⟩, -⟩ := C
  simp only [Bool.and_eq_true] at hck
  obtain ⟨ck, ck1, ck2⟩ := hck
  obtain ⟨v, Mc', Mm', hCc, hCt, hI⟩ := hLN
  have hpl := lw_ps_len xs n k
  refine lv_aload_n hx hb (lc_at ck 0 rfl) rfl (lv_at hl 1 rfl) ?_
  refine lw_args C0 (lv_at hl 0 rfl) (lv_at hl 4 rfl) hn hS (pc0 + 1) _ k hk ck1 ?_
  rw [hp1]
  refine lw_cls C0 he1 hst1 hcls1 (by rw [hpl]; exact hnp1) wl1 hR1 hCc hl.1 (by decide) (lc_at ck 1 rfl) (by omega) (by omega) hW hS (fun H1 locs1 hW1 hS1 => ?_)
  refine lv_aload_n hx hb (lc_at ck 2 rfl) rfl (lv_at hl 2 rfl) ?_
  refine lw_args C0 (lv_at hl 0 rfl) (lv_at hl 4 rfl) hn hS1 (p1 + 4) _ k hk ck2 ?_
  rw [hp2]
  refine lw_mdl C0 he hst hcls (by rw [hpl]; exact hnp) wl hR2 hCt hl.1 (Nat.le_of_ble_eq_true rfl) (lc_at ck 3 rfl) (by omega) (by omega) hW1 hS1 (fun H2 locs2 hW2 hS2 => ?_)
  refine lv_icmp_eq (tgt := 2556) hx hb (lc_at ck 4 rfl) (by omega) (fun _ => ?_) (fun h => absurd rfl h)
  exact W.widen (by omega) (by omega) (kk H2 locs2 ls Mc' Mm' f hI hW2 hS2 hl)
end LWC
