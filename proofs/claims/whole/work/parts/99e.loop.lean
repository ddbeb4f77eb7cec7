/-! THE LAW: its loop, its start -/
theorem nt_cl9 : Cond.classLink RL 8 RX9 ∈ am_gw := am_hb_in (i := (1, 25)) (by decide +kernel)
theorem nt_in9 : Cond.instantiable RX9 16 ∈ am_gw := am_hb_in (i := (1, 26)) (by decide +kernel)
theorem nt_iz9 : Cond.initialized RX9 ∈ am_gw := am_hb_in (i := (1, 1)) (by decide +kernel)
theorem nt_ml9 : Cond.methodLink RL 107 yX9_init ∈ am_gw := am_hb_in (i := (1, 27)) (by decide +kernel)
theorem nt_im9 : Cond.instanceMethod yX9_init ∈ am_gw := am_hb_in (i := (1, 28)) (by decide +kernel)
theorem nt_clx : Cond.classLink RL 108 RX10 ∈ am_gw := am_hb_in (i := (6, 43)) (by decide +kernel)
theorem nt_inx : Cond.instantiable RX10 66 ∈ am_gw := am_hb_in (i := (6, 44)) (by decide +kernel)
theorem nt_izx : Cond.initialized RX10 ∈ am_gw := am_hb_in (i := (1, 12)) (by decide +kernel)
theorem nt_mlx : Cond.methodLink RL 110 yX10_init ∈ am_gw := am_hb_in (i := (6, 45)) (by decide +kernel)
theorem nt_imx : Cond.instanceMethod yX10_init ∈ am_gw := am_hb_in (i := (6, 46)) (by decide +kernel)
theorem nt_arl : Cond.arrayClass .long ∈ am_gw := am_hb_in (i := (8, 131)) (by decide +kernel)
def lw_lp : List (Nat × Instr × Nat) := [(23, .iload 4, 2), (25, .aload_n 0, 1), (26, .arraylength, 1), (27, .bipush 6, 2), (29, .isub, 1), (30, .if_icmp .gt 2532, 3), (33, .aload_n 0, 1), (34, .iload 4, 2), (36, .iaload, 1), (37, .bipush 63, 2), (39, .iand, 1), (2556, .iinc 4 6, 3), (2559, .goto (-2536), 3), (2562, .iconst 1, 1), (2563, .ireturn, 1), (0, .new 8, 3), (3, .dup, 1), (4, .invokespecial 107, 3), (7, .astore_n 1, 1), (8, .new 108, 3), (11, .dup, 1), (12, .invokespecial 110, 3), (15, .astore_n 2, 1), (16, .iconst 1, 1), (17, .newarray .long, 2), (19, .astore_n 3, 1), (20, .iconst 0, 1), (21, .istore 4, 2)]
set_option maxRecDepth 100000 in
theorem lw_lk : lc_ck lw_lp = true := by decide +kernel
section LWL
variable {p : Program} {l : Launch} {en : Env} {s : State} {m : MethodId} {below : List Frame} {meth : Method} {c : Code} {b L : Nat} {xs : Nat → Int32} {z : Value} {ao : Nat → Nat} {cy : Nat → ClassId} {cyL : ClassId} {D : va_G}
theorem lw_ofNat (n : Nat) : Int32.ofNat n = i32 (n : Int) := Int32.ofInt_eq_ofNat.symm
def lw_G (p : Program) (l : Launch) (en : Env) (s : State) (m : MethodId) (below : List Frame) (meth : Method) (c : Code) (b : Nat) (ao : Nat → Nat) (cy : Nat → ClassId) (cyL : ClassId) (D : va_G) (j : Nat) : Prop :=
  ∀ {H : Heap} {locs : List Loc} {ls : Array Slot} {Mc Mm : am_M} {f : Nat → Int64}, Inv Mc Mm → LW s ao cy cyL D Mc Mm f H → va_S (km_A s.heap.size) s.heap H locs → lv_has ls 7 (lw_lv s b (6 * j)) → W p l en room_1 s m #[Value.ref b] below meth c H locs (99 + j) (30000 + 6 * j) (lw_Z below #[Value.ref b] s) (F0 m 23 ls [])
theorem lw_step (C : LC p l s m meth c b L xs z ao cy cyL D) (j : Nat) (hj : j ≤ 513) (go : 6 * j + 6 ≤ L → lw_G p l en s m below meth c b ao cy cyL D (j + 1)) : lw_G p l en s m below meth c b ao cy cyL D j := by
  intro H locs ls Mc Mm f hI hW hS hl
  have C0 := C
  obtain ⟨⟨hx, hb, hr, hml, hown, hlk⟩, hts, ⟨hX, hbl, hL⟩, -⟩ := C
  have hbA : ¬ km_A s.heap.size b := by show ¬ s.heap.size ≤ b; omega
  refine lv_iload hx hb (lc_at lw_lk 0 rfl) (lv_at hl 4 rfl) ?_
  refine lv_aload_n hx hb (lc_at lw_lk 1 rfl) rfl (lv_at hl 0 rfl) ?_
  refine va_slen (A := km_A s.heap.size) hx hb hX hbl hbA hS (lc_at lw_lk 2 rfl) ?_
  refine lv_bipush (v := i32 6) hx hb (lc_at lw_lk 3 rfl) rfl ?_
  refine lv_isub hx hb (lc_at lw_lk 4 rfl) ?_
  rw [lw_ofNat, i32_sub]
  refine lv_icmp_gt (tgt := 2562) hx hb (lc_at lw_lk 5 rfl) rfl (fun _ => ?_) (fun h => ?_)
  · refine lv_iconst (v := 1) hx hb (lc_at lw_lk 13 rfl) rfl ?_
    refine va_forget (fun q hq => hS.2.2 q hq) ?_
    exact W.widen (by omega) (by omega) (lw_ret hx hb hr hlk (lc_at lw_lk 14 rfl))
  · rw [i32_lt (by omega) (by omega) (by omega) (by omega)] at h
    have hn : 6 * j + 6 ≤ L := by omega
    refine lv_aload_n hx hb (lc_at lw_lk 6 rfl) rfl (lv_at hl 0 rfl) ?_
    refine lv_iload hx hb (lc_at lw_lk 7 rfl) (lv_at hl 4 rfl) ?_
    refine va_sld (A := km_A s.heap.size) hx hb hX hbl hbA hS (by
      show ¬ (_ ∨ _)
      rw [i32_lt0 (by omega) (by omega), i32_cl (by omega) (by omega)]
      omega) (lc_at lw_lk 8 rfl) ?_
    refine lv_bipush (v := 63) hx hb (lc_at lw_lk 9 rfl) rfl ?_
    refine lv_iand hx hb (lc_at lw_lk 10 rfl) ?_
    refine lw_sw (n := 6 * j) C0 hI hn (by show 99 + j + 1 ≤ 601024; omega) (by show 30000 + 6 * j + 6 ≤ 7293034; omega) hW hS hl ?_ (by
      rw [Jvm.Kit.i32_mask _ 63 (k := 6) (by decide) (by decide)]
      omega)
    intro H1 locs1 ls1 Mc' Mm' f' hI' hW' hS' hl'
    refine lv_iinc (v := i32 ((6 * (j + 1) : Nat) : Int)) hx hb (lc_at lw_lk 11 rfl) hl' (k := 4) rfl (by
      show i32 _ + i32 6 = _
      rw [i32_add]
      exact congrArg i32 (by omega)) (by decide) rfl (fun ls2 hl2 => ?_)
    refine lv_goto (tgt := 23) hx hb (lc_at lw_lk 12 rfl) rfl ?_
    refine W.widen (k := 99 + (j + 1)) (n := 30000 + 6 * (j + 1)) (by omega) (by omega) (go hn hI' hW' hS' ⟨hl2.1, hl2.2.1, fun q hq => hl2.2.2 q ?_⟩)
    have e9 : q ∈ ([(4, .int (i32 ((6 * (j + 1) : Nat) : Int))), (0, .ref b), (1, .ref s.heap.size), (2, .ref (s.heap.size + 69)), (3, .ref (s.heap.size + 98))] : List (Nat × Value)) := by
      simp only [List.mem_cons, List.not_mem_nil, or_false] at hq ⊢
      rcases hq with h | h | h | h | h <;> simp [h]
    exact e9
theorem lw_loop (C : LC p l s m meth c b L xs z ao cy cyL D) : ∀ (d j : Nat), d + j = 513 → lw_G p l en s m below meth c b ao cy cyL D j := by
  have hL : L ≤ 3072 := C.2.2.1.2.2
  intro d
  induction d with
  | zero => intro j hj; exact lw_step C j (by omega) (fun h => absurd h (by omega))
  | succ d ih => intro j hj; exact lw_step C j (by omega) (fun _ => ih (j + 1) (by omega))
/-- the law makes an object -/
theorem lw_new (C : LC p l s m meth c b L xs z ao cy cyL D) {H : Heap} {locs : List Loc} {ls : Array Slot} {cells slots ci pc k N : Nat} {Q : State → Prop} {Cn : String} {T : u_T} {rest : List Value} {w : List km_C} (hcl : vwCl[ci]? = some (Cn, T, N)) (w1 : Cond.classLink RL k Cn ∈ am_gw) (w2 : Cond.instantiable Cn N ∈ am_gw) (w3 : Cond.initialized Cn ∈ am_gw)
    (hc : cells = w.length) (hP : va_P D vwCl (km_wd s.heap.size cy w) H) (hS : va_S (km_A s.heap.size) s.heap H locs) (hr1 : cells + 1 ≤ room_1.cells) (hr2 : slots + N ≤ room_1.slots) (hd : decode code pc = .ok (.new k, 3))
    (kk : ∀ (H1 : Heap), va_P D vwCl (km_wd s.heap.size cy (w ++ [.inr (.inl (ci, (List.range N).map (fun j => defaultValue (km_ty ci j))))])) H1 → va_S (km_A s.heap.size) s.heap H1 locs → H1.size = s.heap.size + (w.length + 1) → W p l en room_1 s m #[Value.ref b] below meth c H1 locs (cells + 1) (slots + N) Q (F0 m (pc + 3) ls (.ref (s.heap.size + w.length) :: rest))) :
    W p l en room_1 s m #[Value.ref b] below meth c H locs cells slots Q (F0 m pc ls rest) := by
  obtain ⟨⟨hx, hb, hr, hml, hown, hlk⟩, hts, -, ⟨hK, hAO, -⟩, -⟩ := C
  obtain ⟨hin9, hty, hnm⟩ := km_cls hcl
  refine va_new hx hb hts hin9 (km_ty ci) hty hown (hts _ w1) (hts _ w2) (hts _ w3) hK hP (km_D s.heap.size cy w) hS (fun q h => h) hcl (fs := ((List.range N).map (fun j => defaultValue (km_ty ci j))).map (am_tv (km_ad s.heap.size))) ?_ hr1 hr2 hd (fun q9 H1 hP1 hD1 hS1 => km_sized fun hz => ?_)
  · intro j hj
    unfold vp_V
    rw [List.getD_eq_getElem?_getD, List.getElem?_map, List.getElem?_map, List.getElem?_range hj]
    exact (km_tvd _ _).symm
  · obtain rfl := km_new (n0 := 0) hz rfl hc hP1 hD1
    have hP2 : va_P D vwCl (km_wd s.heap.size cy (w ++ [.inr (.inl (ci, (List.range N).map (fun j => defaultValue (km_ty ci j))))])) H1 := by rw [km_wd_app]; exact hP1
    refine kk H1 hP2 hS1 ?_
    have h9 := km_size (n0 := 0) (w := w ++ [.inr (.inl (ci, (List.range N).map (fun j => defaultValue (km_ty ci j))))]) hz rfl (by rw [List.length_append, ← hc]; rfl) hP2 hS1
    rw [List.length_append] at h9
    exact h9
theorem mk_good : GoodIn am_gw (km_w ke_X10_init) := by
  intro w hw
  rcases List.mem_cons.mp hw with rfl | hw
  · exact ⟨kc_X10_init, am_gw_good _ kc_X10_init⟩
  · exact ⟨hw, am_gw_good _ hw⟩
/-- the law makes the reference -/
theorem mk_call (C : LC p l s m meth c b L xs z ao cy cyL D) {H : Heap} {locs : List Loc} {ls : Array Slot} {cells slots pc : Nat} {Q : State → Prop} {rest : List Value} {M1 M2 : am_M} (h1 : f_X10_clears 4200 M0m = some (.ok none, M1)) (h2 : f_X10_sets 4200 M1 = some (.ok none, M2)) (hlen : ls.size = 7) (hz : H.size = s.heap.size + 69 + 1) (hcat : (rest.map fun v => v.category).sum ≤ 8) (hd : decode code pc = .ok (.invokespecial 110, 3))
    (hr1 : cells + mk_c ≤ room_1.cells) (hr2 : slots + mk_s ≤ room_1.slots) (hP : va_P D vwCl (km_wd (s.heap.size + 69) cy km_w10) H) (hS : va_S (km_A s.heap.size) s.heap H locs)
    (kk : ∀ (H1 : Heap) (locs1 : List Loc), va_P D vwCl (am_wd (lc_ad (s.heap.size + 69) ao) cy ms_sh M2) H1 → H.size ≤ H1.size → (∀ q, q < s.heap.size + 69 → H1[q]? = H[q]?) → va_S (km_A s.heap.size) s.heap H1 locs1 → W p l en room_1 s m #[Value.ref b] below meth c H1 locs1 (cells + mk_c) (slots + mk_s) Q (F0 m (pc + 3) ls rest)) :
    W p l en room_1 s m #[Value.ref b] below meth c H locs cells slots Q (F0 m pc ls (.ref (s.heap.size + 69) :: rest)) := by
  have C0 := C
  obtain ⟨⟨hx, hb, hr9, hml, hown, hlk⟩, hts, -, ⟨hK, hAO, -⟩, -⟩ := C
  have hr := va_runI (e := en) (below := below) (meth := meth) (locs := locs) (cells := cells) (slots := slots) (g := F0 m pc ls (.ref (s.heap.size + 69) :: rest)) (As := []) (rest := rest) (b := s.heap.size + 69) (own := RL) (index := 110) (n := 0) (nL := 7) (Ts := am_gw) (R := room_1) (H := H) ⟨hx, hb, hml, hown, hts⟩ (mk_contract (z := z) (ao := ao) (b := s.heap.size + 69) (cy := cy) (D := D) h1 h2) ⟨callB_of 0 hts mk_good rfl rfl rfl (hts _ nt_izx) (hts _ nt_mlx) ⟨by decide +kernel, by decide +kernel, by decide +kernel⟩ (by decide), rfl, hts _ nt_imx⟩ ⟨mk_blind, fun U hU hWm => ⟨rfl, by rw [hU]; exact hz, by rw [hU]; exact hP, va_K.moved hWm.alike hK, va_AO.moved hWm.alike hAO, lc_cx C0 (by rw [km_shm.1]; exact Nat.le_of_ble_eq_true rfl) (fun i _ => Nat.le_add_right _ _) (fun q h => by have h : s.heap.size + 69 ≤ q := h; omega) (fun q h => by show s.heap.size + 69 ≤ q; omega) hS U hU hWm⟩⟩ rfl rfl hlen rfl (by show 2 * 0 + _ ≤ 8; omega) hd ⟨hr1, hr2⟩
  intro T hT X
  obtain ⟨v, st₀, t, T', L9, h0, X', hL, e1, e2, ⟨hv, hP1, hF⟩, st⟩ := hr T hT X
  cases hv
  rw [va_F, h0] at hF
  have g1 : ∀ q, q < s.heap.size + 69 → T'.heap[q]? = H[q]? := fun q hq => by
    rw [e1]
    exact hF.2 q (by omega) (by show ¬ s.heap.size + 69 ≤ q; omega)
  have g2 : va_S (km_A s.heap.size) s.heap T'.heap (locs ++ L9) := by
    refine ⟨Nat.le_trans hS.1 (by rw [e1]; exact hF.1), fun q q1 q2 => ?_, fun q hq => ?_⟩
    · rw [g1 q (by omega)]
      exact hS.2.1 q q1 q2
    · rcases List.mem_append.mp hq with h | h
      · exact hS.2.2 q h
      · have h9 : s.heap.size + 69 ≤ q.base := hL q h
        show s.heap.size ≤ q.base
        omega
  obtain ⟨t2, a1, b1⟩ := kk T'.heap (locs ++ L9) (by rw [e1]; exact hP1) (by rw [e1]; exact hF.1) g1 g2 T' rfl X'
  exact ⟨t2, st t2 a1, b1⟩
end LWL
