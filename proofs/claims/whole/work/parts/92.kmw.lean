/-! THE CONSTRUCTORS' WALK -/
theorem km_mono : ∀ (n : Nat) {e : km_Me} {q : km_St} {r : am_Ls × List Value × List km_C}, km_run n e q = some r → q.2.2.2.length ≤ r.2.2.length ∧ km_sl q.2.2.2 ≤ km_sl r.2.2 := by
  intro n
  induction n with
  | zero => intro e q r h; cases h
  | succ n ih =>
    intro e q r h
    obtain ⟨pc, L, st, w⟩ := q
    unfold km_run at h
    cases hq : Nat.beq pc (km_end e) with
    | true => rw [hq] at h; cases h; exact ⟨Nat.le_refl _, Nat.le_refl _⟩
    | false =>
      rw [hq] at h
      simp only [cond_false] at h
      split at h
      · cases h
      · split at h
        · rename_i q1 _
          cases hb : (Nat.ble w.length q1.2.2.2.length && Nat.ble (km_sl w) (km_sl q1.2.2.2)) with
          | false => rw [hb] at h; cases h
          | true =>
            rw [hb] at h
            simp only [cond_true] at h
            simp only [Bool.and_eq_true] at hb
            have h9 := ih h
            exact ⟨Nat.le_trans (Nat.le_of_ble_eq_true hb.1) h9.1, Nat.le_trans (Nat.le_of_ble_eq_true hb.2) h9.2⟩
        · split at h
          · split at h
            · rename_i h1
              have h8 := ih h1
              have h9 := ih h
              exact ⟨Nat.le_trans h8.1 h9.1, Nat.le_trans h8.2 h9.2⟩
            · cases h
          · cases h
def km_w (e : km_Me) : List Cond := Cond.code (km_y e) (km_code e) (km_mL e) none :: am_gw
def km_rm (e : km_Me) (w w' : List km_C) : Room := { frames := km_fr e, cells := w'.length - w.length, slots := km_sl w' - km_sl w, locals := km_lc e }
def km_Pc (b : Nat) (cy : Nat → ClassId) (D : va_G) (as : List Value) (w : List km_C) : Array Value → State → Prop := fun v U => v = (as.map (am_tv (km_ad b))).toArray ∧ U.heap.size = b + w.length ∧ va_P D vwCl (km_wd b cy w) U.heap ∧ va_K D vwCl (am_tys cy) U ∧ va_AO "SoldEchoes$Land" U
def km_Qo (b : Nat) (cy : Nat → ClassId) (D : va_G) (w' : List km_C) : Array Value → State → Outcome → State → Prop := fun _ st oc t => oc = .returned none ∧ va_P D vwCl (km_wd b cy w') t.heap ∧ va_F (km_A b) st t
/-- what holds of a constructor that is called -/
def km_mk (e : km_Me) : Prop := km_ok e ∧ Cond.code (km_y e) (km_code e) (km_mL e) none ∈ am_gw ∧ km_at (km_pg e) (km_end e) = some (.return_, 1, 0) ∧ plainName (km_y e).cls = true ∧ (km_y e).name = "<init>" ∧ ((km_y e).cls ≠ "java/lang/invoke/MethodHandle" ∧ (km_y e).cls ≠ "java/lang/invoke/VarHandle") ∧ (parseMethodDescriptor (km_y e).desc).map (fun d => d.parameters.length) = some (km_np e) ∧ km_np e + 1 ≤ km_mL e ∧ 1 ≤ km_fr e ∧ 24 ≤ km_lc e
set_option maxRecDepth 100000 in
theorem km_mka : ∀ e ∈ km_ms, km_mk e := List.forall_mem_cons.mpr ⟨⟨km_ok_of kw_X8_init, kc_X8_init, by decide +kernel, by decide +kernel, by decide +kernel, by decide +kernel, by decide +kernel, by decide +kernel, by decide +kernel, by decide +kernel⟩, List.forall_mem_cons.mpr ⟨⟨km_ok_of kw_X4_init, kc_X4_init, by decide +kernel, by decide +kernel, by decide +kernel, by decide +kernel, by decide +kernel, by decide +kernel, by decide +kernel, by decide +kernel⟩, List.forall_mem_cons.mpr ⟨⟨km_ok_of kw_X2_init, kc_X2_init, by decide +kernel, by decide +kernel, by decide +kernel, by decide +kernel, by decide +kernel, by decide +kernel, by decide +kernel, by decide +kernel⟩, List.forall_mem_cons.mpr ⟨⟨km_ok_of kw_X5_init, kc_X5_init, by decide +kernel, by decide +kernel, by decide +kernel, by decide +kernel, by decide +kernel, by decide +kernel, by decide +kernel, by decide +kernel⟩, List.forall_mem_cons.mpr ⟨⟨km_ok_of kw_X6_init, kc_X6_init, by decide +kernel, by decide +kernel, by decide +kernel, by decide +kernel, by decide +kernel, by decide +kernel, by decide +kernel, by decide +kernel⟩, List.forall_mem_cons.mpr ⟨⟨km_ok_of kw_X3_init, kc_X3_init, by decide +kernel, by decide +kernel, by decide +kernel, by decide +kernel, by decide +kernel, by decide +kernel, by decide +kernel, by decide +kernel⟩, List.forall_mem_cons.mpr ⟨⟨km_ok_of kw_X1_init, kc_X1_init, by decide +kernel, by decide +kernel, by decide +kernel, by decide +kernel, by decide +kernel, by decide +kernel, by decide +kernel, by decide +kernel⟩, List.forall_mem_cons.mpr ⟨⟨km_ok_of kw_X7_init, kc_X7_init, by decide +kernel, by decide +kernel, by decide +kernel, by decide +kernel, by decide +kernel, by decide +kernel, by decide +kernel, by decide +kernel⟩, List.forall_mem_cons.mpr ⟨⟨km_ok_of kw_X0_init, kc_X0_init, by decide +kernel, by decide +kernel, by decide +kernel, by decide +kernel, by decide +kernel, by decide +kernel, by decide +kernel, by decide +kernel⟩, List.forall_mem_cons.mpr ⟨⟨km_ok_of kw_X9_init, kc_X9_init, by decide +kernel, by decide +kernel, by decide +kernel, by decide +kernel, by decide +kernel, by decide +kernel, by decide +kernel, by decide +kernel⟩, fun _ h => absurd h List.not_mem_nil⟩⟩⟩⟩⟩⟩⟩⟩⟩⟩
theorem km_mt_in {n : Nat} {e : km_Me} (h : km_mt n = some e) : e ∈ km_ms := am_nth_in _ _ _ h
theorem km_cl_spec {i : Instr} {len a : Nat} {st as rest : List Value} {e' : km_Me} {r : Nat} (h : km_cl i len a st = some (e', r, as, rest)) : len = 3 ∧ (∃ k, i = .invokespecial k) ∧ km_mt a = some e' ∧ st = as.reverse ++ .ref r :: rest ∧ as.length = km_np e' ∧ rest.length ≤ 8 := by
  unfold km_cl at h
  split at h
  · rename_i k e9 hm
    split at h
    · rename_i r9 as9 rest9 hsp
      cases h
      unfold km_sp at hsp
      split at hsp
      · rename_i r8 rest8 hdr
        cases hb : (Nat.beq (st.take (km_np e')).length (km_np e') && Nat.ble rest8.length 8) with
        | false => rw [hb] at hsp; cases hsp
        | true =>
          rw [hb] at hsp
          cases hsp
          simp only [Bool.and_eq_true] at hb
          refine ⟨rfl, ⟨k, rfl⟩, hm, ?_, ?_, Nat.le_of_ble_eq_true hb.2⟩
          · rw [List.reverse_reverse, ← hdr, List.take_append_drop]
          · rw [List.length_reverse]; exact Nat.eq_of_beq_eq_true hb.1
      · cases hsp
    · cases h
  · cases h
section KMW
variable {l : Launch}
def km_Wk (l : Launch) (n : Nat) : Prop :=
  ∀ {e : km_Me} {q : km_St} {r : am_Ls × List Value × List km_C}, km_run n e q = some r →
   ∀ {p : Program} {en : Env} {R : Room} {s : State} {m : MethodId} {args : Array Value} {below : List Frame} {meth : Method} {c : Code} {b n0 s0 : Nat} {cy : Nat → ClassId} {D : va_G} {Q : State → Prop}, km_bd cy D e p R s m args meth c → s.heap.size = b + n0 →
   ∀ {H : Heap} {locs : List Loc} {ls : Array Slot} {cells slots : Nat}, cells + n0 = q.2.2.2.length → slots + s0 = km_sl q.2.2.2 → r.2.2.length ≤ R.cells + n0 → km_sl r.2.2 ≤ R.slots + s0 → am_L (km_ad b) ls (km_mL e) q.2.1 → am_s1 q.2.2.1 → va_P D vwCl (km_wd b cy q.2.2.2) H → va_S (km_A b) s.heap H locs →
   (∀ (H' : Heap) (locs' : List Loc) (ls' : Array Slot) (cells' slots' : Nat), am_L (km_ad b) ls' (km_mL e) r.1 → am_s1 r.2.1 → cells' + n0 = r.2.2.length → slots' + s0 = km_sl r.2.2 → va_P D vwCl (km_wd b cy r.2.2) H' → va_S (km_A b) s.heap H' locs' → W p l en R s m args below meth c H' locs' cells' slots' Q (F0 m (km_end e) ls' (r.2.1.map (am_tv (km_ad b))))) →
   W p l en R s m args below meth c H locs cells slots Q (F0 m q.1 ls (q.2.2.1.map (am_tv (km_ad b))))
theorem km_contract {n : Nat} (hW : km_Wk l n) {e : km_Me} (he : km_mk e) {r b : Nat} {as : List Value} {w w' : List km_C} {Lr : am_Ls} (cy : Nat → ClassId) (D : va_G) (hrun : km_run n e (0, km_l0 e (.ref r :: as), [], w) = some (Lr, [], w')) (h1 : am_s1 as) (hn : as.length = km_np e) :
    Met l (km_y e) (km_w e) (km_rm e w w') (km_Pc b cy D (.ref r :: as) w) (km_Qo b cy D w') (w'.length - w.length) (km_sl w' - km_sl w) (km_A b) := by
  obtain ⟨k1, k2, k3, k4, k5, k6, k7, k8, k9, k10⟩ := he
  have hm := km_mono n hrun
  refine Met.ofW (cc := km_code e) (maxL := km_mL e) (ret := none) k4 rfl ?_
  intro p en s m args below meth c s₁ B hml hv
  have hts := atoms_spec (ws := km_w e) B.pre
  have hin : meth.name = "<init>" := (name_of_methodNamed B.named B.method).1.trans k5
  obtain ⟨rfl, hsz, hP, hK, hAO⟩ := hv
  have hbd : km_bd cy D e p (km_rm e w w') s m ((Value.ref r :: as).map (am_tv (km_ad b))).toArray meth c := ⟨k1, B.exec, B.bytes, hml, findClass_of_methodNamed B.named, fun w h => hts w (List.mem_cons_of_mem _ h), B.notSynchronized, hin, hK, hAO, k9, k10, Nat.le_refl _, Nat.le_refl _⟩
  rw [lg_entry_eq]
  have hs1 : am_s1 (Value.ref r :: as) := fun w hw => (List.mem_cons.mp hw).elim (fun q => by rw [q]; rfl) (h1 w)
  have hL0 := am_entry (ad := km_ad b) (e := (km_y e, 0, km_code e, km_mL e, none, false, 0, 0, 0, [])) hs1 (by show as.length + 1 ≤ km_mL e; omega)
  refine hW hrun (n0 := w.length) (s0 := km_sl w) hbd hsz (cells := 0) (slots := 0) (Nat.zero_add _) (Nat.zero_add _) ?_ ?_ hL0 (fun _ h => nomatch h) hP va_S.rf ?_
  · show w'.length ≤ w'.length - w.length + w.length
    have := hm.1
    dsimp only at this
    omega
  · show km_sl w' ≤ km_sl w' - km_sl w + km_sl w
    have := hm.2
    dsimp only at this
    omega
  · intro H' locs' ls' cells' slots' hL' _ e1 e2 hP' hS'
    have e1 : cells' = w'.length - w.length := by dsimp only at e1; omega
    have e2 : slots' = km_sl w' - km_sl w := by dsimp only at e2; omega
    subst e1; subst e2
    exact W.vret B.exec B.bytes B.returns (fun t ht hW => ⟨rfl, by rw [ht]; exact hP', hS'.F ht⟩) hS'.2.2 (k1 _ _ _ _ k3).1 B.notSynchronized
theorem km_blind {b : Nat} {cy : Nat → ClassId} {D : va_G} {as : List Value} {w : List km_C} : FrameBlind (km_Pc b cy D as w) := by
  intro a U g mk h
  obtain ⟨h1, h2, h3, h4, h5⟩ := h
  exact ⟨h1, h2, h3, va_K.moved (u := U) (U := U.calling g mk a) (Vm.Alike.refl U.vm) h4, va_AO.moved (u := U) (U := U.calling g mk a) (Vm.Alike.refl U.vm) h5⟩
theorem km_good {e : km_Me} (he : km_mk e) : GoodIn am_gw (km_w e) := by
  intro w hw
  rcases List.mem_cons.mp hw with rfl | hw
  · exact ⟨he.2.1, am_gw_good _ he.2.1⟩
  · exact ⟨hw, am_gw_good _ hw⟩
/-- a call of a constructor, by anyone who has the words -/
theorem km_call {n : Nat} (hW : km_Wk l n) {e' : km_Me} (he' : km_mk e') {p : Program} {en : Env} {R : Room} {s : State} {m : MethodId} {args : Array Value} {below : List Frame} {meth : Method} {c : Code} {b : Nat} {cy : Nat → ClassId} {D : va_G} {Q : State → Prop} {A0 : Nat → Prop} {H0 : Heap} {own : String} {cc : ByteArray}
    (hx : p.tables.exec = Jvm.exec) (hb : c.code = cc) (hown : s.vm.findClass own = some m.cls) (hts : ∀ w ∈ am_gw, w.before args s = true) (hK : va_K D vwCl (am_tys cy) s) (hAO : va_AO "SoldEchoes$Land" s)
    {H : Heap} {locs : List Loc} {ls : Array Slot} {cells slots k r pc : Nat} {as rest0 : List Value} {w w' : List km_C} {Lr : am_Ls} (hlen : ls.size = c.maxLocals) (hrun : km_run n e' (0, km_l0 e' (.ref r :: as), [], w) = some (Lr, [], w')) (h1 : am_s1 as) (hn : as.length = km_np e') (hz : H.size = b + w.length)
    (w1 : Cond.methodLink own k (km_y e') ∈ am_gw) (w2 : Cond.instanceMethod (km_y e') ∈ am_gw) (w3 : Cond.initialized (km_y e').cls ∈ am_gw) (hR : km_fr e' + 1 ≤ R.frames ∧ 8 + (km_mL e' + 11) + km_lc e' ≤ R.locals) (hcat : (rest0.map fun v => v.category).sum ≤ 8) (hd : decode cc pc = .ok (.invokespecial k, 3))
    (hr1 : cells + (w'.length - w.length) ≤ R.cells) (hr2 : slots + (km_sl w' - km_sl w) ≤ R.slots) (hP : va_P D vwCl (km_wd b cy w) H) (hS : va_S A0 H0 H locs) (hA0 : ∀ q, b ≤ q → A0 q)
    (kk : ∀ (H1 : Heap) (locs1 : List Loc), va_P D vwCl (km_wd b cy w') H1 → H.size ≤ H1.size → (∀ q, q < b → H1[q]? = H[q]?) → va_S A0 H0 H1 locs1 → W p l en R s m args below meth c H1 locs1 (cells + (w'.length - w.length)) (slots + (km_sl w' - km_sl w)) Q (F0 m (pc + 3) ls rest0)) :
    W p l en R s m args below meth c H locs cells slots Q (F0 m pc ls ((as.map (am_tv (km_ad b))).reverse ++ .ref (b + r) :: rest0)) := by
  have hr := va_runI (e := en) (below := below) (meth := meth) (locs := locs) (cells := cells) (slots := slots) (g := F0 m pc ls ((as.map (am_tv (km_ad b))).reverse ++ .ref (b + r) :: rest0)) (As := as.map (am_tv (km_ad b))) (rest := rest0) (b := b + r) (own := own) (index := k) (n := km_np e') (nL := c.maxLocals) (Ts := am_gw) (R := R) (H := H) ⟨hx, hb, rfl, hown, hts⟩ (km_contract hW he' cy D hrun h1 hn (b := b)) ⟨callB_of (km_np e') hts (km_good he') rfl rfl rfl (hts _ w3) (hts _ w1) ⟨he'.2.2.2.2.2.1.1, he'.2.2.2.2.2.1.2, he'.2.2.2.2.2.2.1⟩ hR, he'.2.2.2.2.1, hts _ w2⟩ ⟨km_blind, fun U hU hWm => ⟨rfl, by rw [hU]; exact hz, by rw [hU]; exact hP, va_K.moved hWm.alike hK, va_AO.moved hWm.alike hAO⟩⟩ rfl (by rw [List.length_map]; exact hn) hlen rfl (by show 2 * 0 + _ ≤ 8; omega) hd ⟨hr1, hr2⟩
  intro T hT X
  obtain ⟨v, st₀, t, T', L9, h0, X', hL, e1, e2, ⟨hv, hP1, hF⟩, st⟩ := hr T hT X
  cases hv
  have hF2 := hF
  rw [va_F, h0] at hF
  have g1 : ∀ q, q < b → T'.heap[q]? = H[q]? := fun q hq => by
    rw [e1]
    exact hF.2 q (by omega) (by show ¬ b ≤ q; omega)
  have g2 : va_S A0 H0 T'.heap (locs ++ L9) := by
    refine ⟨Nat.le_trans hS.1 (by rw [e1]; exact hF.1), fun q q1 q2 => ?_, fun q hq => ?_⟩
    · rw [e1, hF.2 q (Nat.lt_of_lt_of_le q1 hS.1) (fun z => q2 (hA0 q z))]
      exact hS.2.1 q q1 q2
    · rcases List.mem_append.mp hq with h | h
      · exact hS.2.2 q h
      · exact hA0 _ (hL q h)
  obtain ⟨t2, a1, b1⟩ := kk T'.heap (locs ++ L9) (by rw [e1]; exact hP1) (by rw [e1]; exact hF.1) g1 g2 T' rfl X'
  exact ⟨t2, st t2 a1, b1⟩
theorem km_walk : ∀ n : Nat, km_Wk l n := by
  intro n
  induction n with
  | zero => intro e q r h; cases h
  | succ n ih =>
    intro e q r h p en R s m args below meth c b n0 s0 cy D Q hB h0 H locs ls cells slots hc hc2 hr1 hr2 hL h1 hP hS kk
    obtain ⟨pc, L, st, w⟩ := q
    have h9 := h
    unfold km_run at h
    cases hq : Nat.beq pc (km_end e) with
    | true =>
      rw [hq] at h
      cases h
      have e1 := Nat.eq_of_beq_eq_true hq
      subst e1
      exact kk H locs ls cells slots hL h1 hc hc2 hP hS
    | false =>
      rw [hq] at h
      simp only [cond_false] at h
      split at h
      · cases h
      · rename_i i len a hat
        split at h
        · rename_i q1 hs
          cases hb : (Nat.ble w.length q1.2.2.2.length && Nat.ble (km_sl w) (km_sl q1.2.2.2)) with
          | false => rw [hb] at h; cases h
          | true =>
            rw [hb] at h
            simp only [cond_true] at h
            have hm := km_mono n h
            exact km_step (s0 := s0) hB h0 hat hs hc hc2 (Nat.le_trans hm.1 hr1) (Nat.le_trans hm.2 hr2) hL h1 hP hS (fun H' locs' ls' cells' slots' hL' h1' e1 e2 hP' hS' => ih h hB h0 e1 e2 hr1 hr2 hL' h1' hP' hS' kk)
        · split at h
          · rename_i e' r9 as rest hcl
            split at h
            · rename_i Lr w1 hrun
              obtain ⟨rfl, ⟨k, rfl⟩, hmt, rfl, hnp, hrl⟩ := km_cl_spec hcl
              have hm1 := km_mono n hrun
              have hm2 := km_mono n h
              dsimp only at hm1 hm2 hc hc2 hP
              have he' := km_mka e' (km_mt_in hmt)
              obtain ⟨hok, hx, hb, hml, hown, hts, hlk, hin, hK, hAO, hf1, hl1, hf2, hl2⟩ := hB
              obtain ⟨hd, ho, hw⟩ := hok pc _ _ a hat
              have ha : Nat.beq a 100 = false := by
                cases hb9 : Nat.beq a 100 with
                | false => rfl
                | true =>
                  have e1 := Nat.eq_of_beq_eq_true hb9
                  subst e1
                  cases hmt
              have ho : (bif Nat.beq a 100 then true else (match km_mt a with
                | some e' => Nat.ble (km_fr e' + 1) (km_fr e) && (Nat.ble (8 + (km_mL e' + 11) + km_lc e') (km_lc e) && Nat.ble (km_np e' + 1) (km_mL e'))
                | none => false)) = true := ho
              rw [ha, hmt] at ho
              simp only [cond_false, Bool.and_eq_true] at ho
              obtain ⟨o1, o2, o3⟩ := ho
              have o1 := Nat.le_of_ble_eq_true o1
              have o2 := Nat.le_of_ble_eq_true o2
              have hw9 : ∀ x ∈ [Cond.methodLink (km_y e).cls k (km_y e'), .instanceMethod (km_y e'), .initialized (km_y e').cls], x ∈ am_gw := by
                intro x hx9
                apply hw
                show x ∈ (bif Nat.beq a 100 then [Cond.methodLink (km_y e).cls k objectInit, .instanceMethod objectInit, .code objectInit ⟨#[0xb1]⟩ 1 none] else (match km_mt a with
                  | some e' => [Cond.methodLink (km_y e).cls k (km_y e'), .instanceMethod (km_y e'), .initialized (km_y e').cls]
                  | none => []))
                rw [ha, hmt]
                exact hx9
              have h1r : am_s1 rest := fun v hv => h1 v (List.mem_append_right _ (List.mem_cons_of_mem _ hv))
              have h1a : am_s1 as := fun v hv => h1 v (List.mem_append_left _ (List.mem_reverse.mpr hv))
              refine km_sized fun hz => ?_
              have hz := km_size hz h0 hc hP hS
              have est : (as.reverse ++ Value.ref r9 :: rest).map (am_tv (km_ad b)) = (as.map (am_tv (km_ad b))).reverse ++ Value.ref (b + r9) :: rest.map (am_tv (km_ad b)) := am_rev as (.ref r9) rest
              dsimp only
              rw [est]
              refine km_call (A0 := km_A b) (H0 := s.heap) ih he' hx hb hown hts hK hAO (by rw [hL.1, hml]) hrun h1a hnp hz (hw9 _ List.mem_cons_self) (hw9 _ (List.mem_cons_of_mem _ List.mem_cons_self)) (hw9 _ (List.mem_cons_of_mem _ (List.mem_cons_of_mem _ List.mem_cons_self))) ⟨by omega, by omega⟩ (km_cat1 h1r hrl) hd (by omega) (by omega) hP hS (fun _ h => h) (fun H1 locs1 hP1 _ _ hS1 => ?_)
              exact ih h ⟨hok, hx, hb, hml, hown, hts, hlk, hin, hK, hAO, hf1, hl1, hf2, hl2⟩ h0 (by dsimp only; omega) (by dsimp only; omega) hr1 hr2 hL h1r hP1 hS1 kk
            · cases h
          · cases h
end KMW
