section MAIN
variable {l : Launch} {zz : Value} {ad : Nat → Nat} {cy : Nat → ClassId} {D : va_G} {A : Nat → Prop} {sh : List am_Sc}
variable {p : Program} {en : Env} {R : Room} {s : State} {m : MethodId} {args : Array Value} {below : List Frame} {meth : Method} {c : Code}
theorem am_walk_ret {e : am_Me} {i : am_Op} {len pc : Nat} {st : List Value} {M : am_M} {z : Prop × Option Value} {H : Heap} {locs : List Loc} {ls : Array Slot} (B : am_bd l zz ad cy D A sh e p R s m args meth c) (hat : am_at (am_pg e) pc = some (i, len)) (he : am_e (am_rt e) i len st = some z) (hc : z.1)
    (hP : va_P D vwCl (am_wd ad cy sh M) H) (hS : va_S A s.heap H locs) : W p l en R s m args below meth c H locs 0 0 (am_Po ad cy D A sh below args s (.ok z.2) M) (F0 m pc ls (st.map (am_tv ad))) := by
  obtain ⟨hmem, hx, hb, hml, hrt, hown, hts, hlk, hex, hcx, hfr, hlc⟩ := B
  obtain ⟨j, hd, hj⟩ := am_dec hmem hat
  unfold am_e at he
  split at he
  · rename_i hq
    cases he
    dsimp only at hj
    subst hj
    exact W.vret hx hb (hrt.trans hq) (fun t ht hW => ⟨rfl, by rw [ht]; exact hP, hS.F ht⟩) hS.2.2 hd hlk
  · rename_i v hq
    cases he
    dsimp only at hj
    subst hj
    exact W.iret (v := v) hx hb (hrt.trans hq) (fun t ht hW => ⟨rfl, by rw [ht]; exact hP, hS.F ht⟩) hS.2.2 hd hlk
  · rename_i v hq
    cases he
    dsimp only at hj
    subst hj
    exact W.zret (v := v) hx hb (hrt.trans hq) (by rcases (show v = 0 ∨ v = 1 from hc) with rfl | rfl <;> rfl) (fun t ht hW => ⟨rfl, by rw [ht]; exact hP, hS.F ht⟩) hS.2.2 hd hlk
  · rename_i v hq
    cases he
    dsimp only at hj
    subst hj
    have hc9 : v.toInt8.toInt32 = v := hc
    exact W.zret (v := v) hx hb (hrt.trans hq) (by rw [← hc9]; exact pk_nb v) (fun t ht hW => ⟨rfl, by rw [ht]; exact hP, hS.F ht⟩) hS.2.2 hd hlk
  · rename_i v hq
    cases he
    dsimp only at hj
    subst hj
    have hc9 : (v.toUInt32 % 65536).toInt32 = v := hc
    exact W.zret (v := v) hx hb (hrt.trans hq) (by rw [← hc9]; exact pk_nc v) (fun t ht hW => ⟨rfl, by rw [ht]; exact hP, hS.F ht⟩) hS.2.2 hd hlk
  · rename_i v C hq
    cases he
    dsimp only at hj
    subst hj
    exact W.aret (v := .ref (ad v)) hx hb (hrt.trans hq) (Or.inl ⟨_, rfl⟩) (Or.inr ⟨_, rfl⟩) (fun t ht hW => ⟨rfl, by rw [ht]; exact hP, hS.F ht⟩) hS.2.2 hd hlk
  · cases he
theorem am_walk_thr {e : am_Me} {i : am_Op} {len pc x k a b : Nat} {M : am_M} {H : Heap} {locs : List Loc} {ls : Array Slot} {L : am_Ls} (B : am_bd l zz ad cy D A sh e p (am_rm e (.error x)) s m args meth c) (hat : am_at (am_pg e) pc = some (i, len)) (ht : am_t (am_cp (am_cn e)) (am_pg e) pc i len = some (x, k, a, b))
    (hL : am_L ad ls (am_mL e) L) (hP : va_P D vwCl (am_wd ad cy sh M) H) (hS : va_S A s.heap H locs) : W p l en (am_rm e (.error x)) s m args below meth c H locs 0 0 (am_Po ad cy D A sh below args s (.error x) M) (F0 m pc ls []) := by
  obtain ⟨hmem, hx, hb, hml, hrt, hown, hts, hlk, hex, hcx, hfr, hlc⟩ := B
  obtain ⟨hK, hD0, hsta, htbw, hA, hst, hzz⟩ := hcx
  obtain ⟨hcls, ⟨n, hn⟩, htw⟩ := am_tsite hmem hat ht
  obtain ⟨rfl, rfl, q3, q4, q7, q10, y, hcp⟩ := am_t_spec ht
  obtain ⟨hs, hq⟩ := am_pool (am_meth hmem).2.2.2.1 hcp
  obtain ⟨w1, w2⟩ := am_cb4 hq
  obtain ⟨r1, r2⟩ := am_roomN (am_room hmem hat)
  obtain ⟨j0, d0, e0⟩ := am_dec hmem hat
  obtain ⟨j3, d3, e3⟩ := am_dec hmem q3
  obtain ⟨j4, d4, e4⟩ := am_dec hmem q4
  obtain ⟨j7, d7, e7⟩ := am_dec hmem q7
  obtain ⟨j10, d10, e10⟩ := am_dec hmem q10
  dsimp only at e0 e3 e4 e7 e10
  subst e0; subst e3; subst e4; subst e7; subst e10
  rw [hcls] at hown w1
  have hat9 := am_hat htw hts htbw.2
  refine am_thr (own := "SoldEchoes") (cls := am_exc x) (names := am_nms) (ik := k) (is := a) (ic := b) (A := A) (text := am_txt.getD n "") (sa := ad (1000 + n)) (mc := 1) (ms := 6) hx hb hst (am_x0 x) (am_x1 x) (am_x2 x) (am_x5 x) hown (am_xfit x) am_nfit (hts _ w1) (hts _ w2) (htbw.1 _ hn) hat9 ?_ hsta.2.2.2.2.2.1 hsta.2.2.2.2.2.2 hS (by rw [hL.1, hml]) d0 d3 d4 d7 d10 (fun x hx => (hex x hx).elim) ?_ ?_ (Nat.le_refl _) (Nat.le_refl _) hlk ?_ hS.2.2 (Nat.le_refl _) (Nat.le_refl _)
  · intro w hw
    rcases List.mem_cons.mp hw with rfl | hw
    · exact Bool.or_eq_true_iff.mpr (Or.inr rfl)
    · rcases List.mem_cons.mp hw with rfl | hw
      · exact Bool.or_eq_true_iff.mpr (Or.inr rfl)
      · exact am_two_ot (List.all_eq_true.mp htw w hw)
  · rw [hfr]; show 2 + 3 < am_fr e; omega
  · rw [hlc]; show 0 + (13 * (2 + 1) + 43) ≤ am_lc e; omega
  · intro t ht1 ht2 ht3
    refine ⟨rfl, fun k q hk => (hP k q hk).kept (ht3 _ (hP k q hk).lt), Nat.le_trans hS.1 ht2, fun q h1 h2 => ?_⟩
    rw [ht3 q (Nat.lt_of_lt_of_le h1 hS.1)]
    exact hS.2.1 q h1 h2
/-- behind a call that came back -/
theorem am_after {e' : am_Me} {as0 rest : List Value} {v : Option Value} {M1 : am_M} {H : Heap} {locs : List Loc} {ls : Array Slot} {pc : Nat} {st0 : List Value} {Q : State → Prop} {av : Array Value} (hS : va_S A s.heap H locs) (hr : va_Run p l en R s m args below meth c H locs 0 0 0 0 (F0 m pc ls st0) (rest.map (am_tv ad)) (am_Qo ad cy D A sh v M1 av) A)
    (kk : ∀ (H1 : Heap) (locs1 : List Loc), va_P D vwCl (am_wd ad cy sh M1) H1 → va_S A s.heap H1 locs1 → W p l en R s m args below meth c H1 locs1 0 0 Q (F0 m (pc + 3) ls ((v.toList ++ rest).map (am_tv ad)))) : W p l en R s m args below meth c H locs 0 0 Q (F0 m pc ls st0) := by
  intro T hT X
  obtain ⟨v', st₀, t, T', L, h0, X', hL, e1, e2, ⟨hv, hP1, hF⟩, st⟩ := hr T hT X
  cases hv
  obtain ⟨k1, k2, k3⟩ := vx_keep (A1 := A) h0 e1 hS (fun _ _ h => h) (fun _ h => h) hL hF
  obtain ⟨t2, a1, b1⟩ := kk T'.heap (locs ++ L) (by rw [e1]; exact hP1) k3 T' rfl X'
  refine ⟨t2, st t2 ?_, b1⟩
  have hfr : (F0 m (pc + 3) ls ((v.toList ++ rest).map (am_tv ad))) = { F0 m pc ls st0 with pc := (F0 m pc ls st0).pc + 3, stack := (v.map (am_tv ad)).toList ++ rest.map (am_tv ad) } := by
    cases v <;> rfl
  rw [hfr] at a1
  exact a1
/-- the words of a call -/
theorem am_callB {e e' : am_Me} {r' : Except Nat (Option Value)} {k : Nat} {mc ms : Nat} (he' : e' ∈ am_ms) (hts : ∀ w ∈ am_gw, w.before args s = true) (hl : Cond.methodLink (am_y e).cls k (am_y e') ∈ am_gw) (hrc : (am_rm e' r').cells = mc) (hrs : (am_rm e' r').slots = ms) (hR : am_fr e' + 1 ≤ R.frames ∧ 8 + (am_mL e' + 11) + am_lc e' ≤ R.locals) :
    CallB R s args (am_y e).cls k (am_y e') (am_code e') (am_mL e') (am_rt e') (am_w e') (am_rm e' r') mc ms (am_np e') :=
  callB_of (am_np e') hts (am_good e' he') rfl hrc hrs (hts _ (am_meth he').2.2.1) (hts _ hl) ⟨(am_notH he').1, (am_notH he').2, (am_meth he').2.1⟩ (by rw [am_rm_fr, am_rm_lc]; exact hR)
theorem am_pre {as : List Value} {M : am_M} {H : Heap} {locs : List Loc} (hcx : am_cx l zz ad cy D A sh s) (hP : va_P D vwCl (am_wd ad cy sh M) H) (hS : va_S A s.heap H locs) : ∀ U : State, U.heap = H → s.WarmedH U.vm → am_Pc l zz ad cy D A sh as M (as.map (am_tv ad)).toArray U :=
  fun U hU hW => ⟨rfl, hcx.go hS hU hW, by rw [hU]; exact hP⟩
theorem am_recv {a ci : Nat} {fs : List (Option Nat)} {C : String} {T : u_T} {N : Nat} {M : am_M} {H : Heap} (hcx : am_cx l zz ad cy D A sh s) (hP : va_P D vwCl (am_wd ad cy sh M) H) (hsh : sh[a]? = some (.inr (.inl (ci, fs)))) (hcl : vwCl[ci]? = some (C, T, N)) : ∃ cellB : Cell, H[ad a]? = some cellB ∧ cellB.vm.isStatics = false ∧ s.vm.findClass C = some cellB.cls :=
  va_recv hcx.1 hP (ci := ci) (q0 := a) hcl (am_wd_get hsh)
theorem am_rev {ad : Nat → Nat} (as : List Value) (v : Value) (rest : List Value) : (as.reverse ++ v :: rest).map (am_tv ad) = (as.map (am_tv ad)).reverse ++ am_tv ad v :: rest.map (am_tv ad) := by
  rw [List.map_append, List.map_reverse, List.map_cons]
theorem am_revS {ad : Nat → Nat} (as : List Value) (rest : List Value) : (as.reverse ++ rest).map (am_tv ad) = (as.map (am_tv ad)).reverse ++ rest.map (am_tv ad) := by
  rw [List.map_append, List.map_reverse]
set_option maxHeartbeats 4000000 in
theorem am_walk_call {e e' : am_Me} {i : am_Op} {len pc : Nat} {st as rest : List Value} {v : Option Value} {M M1 : am_M} {H : Heap} {locs : List Loc} {ls : Array Slot} {L : am_Ls} {Q : State → Prop} (B : am_bd l zz ad cy D A sh e p R s m args meth c) (hat : am_at (am_pg e) pc = some (i, len)) (hcl : am_cl am_mt (am_cp (am_cn e)) sh i len st = some (e', as, rest)) (hrw : rest.length ≤ 8)
    (hL : am_L ad ls (am_mL e) L) (h1 : am_s1 st) (hP : va_P D vwCl (am_wd ad cy sh M) H) (hS : va_S A s.heap H locs) (hC : am_Ct l zz ad cy D A sh e' as M (.ok v) M1)
    (kk : ∀ (H1 : Heap) (locs1 : List Loc), va_P D vwCl (am_wd ad cy sh M1) H1 → va_S A s.heap H1 locs1 → W p l en R s m args below meth c H1 locs1 0 0 Q (F0 m (pc + 3) ls ((v.toList ++ rest).map (am_tv ad)))) : W p l en R s m args below meth c H locs 0 0 Q (F0 m pc ls (st.map (am_tv ad))) := by
  obtain ⟨hmem, hx, hb, hml, hrt, hown, hts, hlk, hex, hcx, hfr, hlc⟩ := B
  obtain ⟨j, hd, hj⟩ := am_dec hmem hat
  have hib := am_room hmem hat
  have hpn := (am_meth hmem).2.2.2.1
  have hwt : ∀ {t : List Value}, am_s1 t → t.length ≤ 8 → 2 * 0 + ((t.map (am_tv ad)).map fun v => v.category).sum ≤ 8 := fun ht hl => by rw [am_cat _ ht]; omega
  obtain ⟨rfl, hk⟩ := am_cl_spec hcl
  rcases hk with ⟨k, n, b, rfl, hcp, hmt, hst9, hnp, rfl⟩ | ⟨k, n, ci, a, as', fs, rfl, hcp, hmt, hst9, rfl, hnp, rfl, hsh⟩ | ⟨k, n, b, a, as', rfl, hcp, hmt, hst9, rfl, hnp, rfl, ha1, ha2⟩
  · have he' := am_mt_in hmt
    dsimp only at hj
    subst hj
    have hr9 := am_roomC (Or.inl rfl) (Or.inl hcp) hmt hib
    rw [← hfr, ← hlc] at hr9
    obtain ⟨hs, hq⟩ := am_pool hpn hcp
    have h1r : am_s1 rest := fun w hw => h1 w (List.mem_append_right _ hw)
    have hstc := hts _ ((am_meth he').2.2.2.2.1 hst9)
    rw [am_revS]
    rcases (am_cb3 hmt hq).1 hst9 with ⟨-, hw⟩ | hw
    · refine am_after (e' := e') (as0 := as) hS (va_runS (As := as.map (am_tv ad)) (rest := rest.map (am_tv ad)) (n := am_np e') ⟨hx, hb, hml, hown, hts⟩ hC ⟨am_callB he' hts hw rfl rfl hr9, hstc⟩ ⟨am_blind, am_pre hcx hP hS⟩ rfl (by rw [List.length_map]; exact hnp) hL.1 rfl (hwt h1r hrw) hd ⟨Nat.zero_le _, Nat.zero_le _⟩) kk
    · have hnw := hcx.2.2.2.1.2 _ hw
      refine am_after (e' := e') (as0 := as) hS (va_runSN (As := as.map (am_tv ad)) (rest := rest.map (am_tv ad)) (n := am_np e') (host := "SoldEchoes") ⟨hx, hb, hml, hown, hts⟩ hC ⟨va_cnB (am_np e') hts (am_good e' he') rfl rfl rfl hnw (hts _ (am_meth he').2.2.1) ⟨(am_notH he').1, (am_notH he').2, (am_meth he').2.1⟩ (by rw [am_rm_fr, am_rm_lc]; exact hr9), hstc, trivial⟩ ⟨am_blind, am_pre hcx hP hS⟩ rfl (by rw [List.length_map]; exact hnp) hL.1 rfl (hwt h1r hrw) hd ⟨Nat.zero_le _, Nat.zero_le _⟩) kk
  · have he' := am_mt_in hmt
    dsimp only at hj
    subst hj
    have hr9 := am_roomC (Or.inr rfl) (Or.inl hcp) hmt hib
    rw [← hfr, ← hlc] at hr9
    obtain ⟨hs, hq⟩ := am_pool hpn hcp
    have h1r : am_s1 rest := fun w hw => h1 w (List.mem_append_right _ (List.mem_cons_of_mem _ hw))
    obtain ⟨hw, C, T, N, hcl9, hC9⟩ := (am_cb3 hmt hq).2 hst9
    obtain ⟨hi9, hs9⟩ := (am_meth he').2.2.2.2.2 hst9
    rw [am_rev]
    subst hC9
    refine am_after (e' := e') (as0 := as') hS (va_runV (As := as'.map (am_tv ad)) (rest := rest.map (am_tv ad)) (b := ad a) (C := (am_y e').cls) (n := am_np e') ⟨hx, hb, hml, hown, hts⟩ hC ⟨am_callB he' hts hw rfl rfl hr9, hts _ hi9, hts _ hs9⟩ ⟨am_blind, am_recv hcx hP hsh hcl9, am_pre hcx hP hS⟩ rfl (by rw [List.length_map]; exact hnp) hL.1 rfl (hwt h1r hrw) hd ⟨Nat.zero_le _, Nat.zero_le _⟩) kk
  · have he' := am_mt_in hmt
    dsimp only at hj
    subst hj
    have hr9 := am_roomC (Or.inr rfl) (Or.inr hcp) hmt hib
    rw [← hfr, ← hlc] at hr9
    obtain ⟨hs, hq⟩ := am_pool hpn hcp
    have h1r : am_s1 rest := fun w hw => h1 w (List.mem_append_right _ (List.mem_cons_of_mem _ hw))
    obtain ⟨hw, hC9⟩ := am_cb10 hmt hq
    obtain ⟨hi9, hs9⟩ := (am_meth he').2.2.2.2.2 hst9
    obtain ⟨n9, hn9, rfl⟩ := am_k1 a ⟨ha1, ha2⟩
    rw [am_rev]
    have hrv := vk_recv (i := n9) hcx.2.2.1.1 hn9 hS
    rw [← hC9] at hrv
    refine am_after (e' := e') (as0 := as') hS (va_runV (As := as'.map (am_tv ad)) (rest := rest.map (am_tv ad)) (b := ad (1000 + n9)) (C := (am_y e').cls) (n := am_np e') ⟨hx, hb, hml, hown, hts⟩ hC ⟨am_callB he' hts hw rfl rfl hr9, hts _ hi9, hts _ hs9⟩ ⟨am_blind, hrv, am_pre hcx hP hS⟩ rfl (by rw [List.length_map]; exact hnp) hL.1 rfl (hwt h1r hrw) hd ⟨Nat.zero_le _, Nat.zero_le _⟩) kk
set_option maxHeartbeats 4000000 in
theorem am_walk_callx {e e' : am_Me} {i : am_Op} {len pc x : Nat} {st as rest : List Value} {M M' : am_M} {H : Heap} {locs : List Loc} {ls : Array Slot} {L : am_Ls} (B : am_bd l zz ad cy D A sh e p (am_rm e (.error x)) s m args meth c) (hat : am_at (am_pg e) pc = some (i, len)) (hcl : am_cl am_mt (am_cp (am_cn e)) sh i len st = some (e', as, rest)) (hrw : rest.length ≤ 8) (hnst : am_stc e' = false)
    (hL : am_L ad ls (am_mL e) L) (h1 : am_s1 st) (hP : va_P D vwCl (am_wd ad cy sh M) H) (hS : va_S A s.heap H locs) (hC : am_Ct l zz ad cy D A sh e' as M (.error x) M') : W p l en (am_rm e (.error x)) s m args below meth c H locs 0 0 (am_Po ad cy D A sh below args s (.error x) M') (F0 m pc ls (st.map (am_tv ad))) := by
  obtain ⟨hmem, hx, hb, hml, hrt, hown, hts, hlk, hex, hcx, hfr, hlc⟩ := B
  obtain ⟨j, hd, hj⟩ := am_dec hmem hat
  have hib := am_room hmem hat
  have hpn := (am_meth hmem).2.2.2.1
  have hwt : ∀ {t : List Value}, am_s1 t → t.length ≤ 8 → 2 * 0 + ((t.map (am_tv ad)).map fun v => v.category).sum ≤ 8 := fun ht hl => by rw [am_cat _ ht]; omega
  obtain ⟨rfl, hk⟩ := am_cl_spec hcl
  have fin : ∀ {av : Array Value} {st0 : List Value}, vx_Run p l en (am_rm e (.error x)) s m args below meth c H locs 0 0 1 6 (F0 m pc ls st0) (rest.map (am_tv ad)) (am_No av) (am_XC ad cy D A sh x M') A → W p l en (am_rm e (.error x)) s m args below meth c H locs 0 0 (am_Po ad cy D A sh below args s (.error x) M') (F0 m pc ls st0) := by
    intro av st0 hr T hT X
    rcases hr T hT X with ⟨v, st₀, t, T', L, h0, X', hL, e1, e2, hno, st⟩ | ⟨q, st₀, t, T', L, E, ce, h0, X', hL, e1, e2, ⟨rfl, hP1, hF⟩, hce, hcv, hcl, st⟩
    · exact hno.elim
    · obtain ⟨k1, k2, k3⟩ := vx_keep (A1 := A) h0 e1 hS (fun _ _ h => h) (fun _ h => h) hL hF
      have hout : vx_W p l en (am_rm e (.error x)) s m args below meth c T'.heap (locs ++ L) (0 + 1) (0 + 6) (vx_MQ below am_No (am_XC ad cy D A sh x M') args s 1 6 A) (F0 m pc ls (rest.map (am_tv ad))) q :=
        vx_out (fun x hx => (hex x hx).elim) hlk (by rw [e1]; exact hce) hcv hcl (fun t9 ht9 ha9 => ⟨rfl, by rw [ht9, e1]; exact hP1, k3.F ht9⟩) k3.2.2 (Nat.le_refl _) (Nat.le_refl _)
      obtain ⟨t2, a1, b1⟩ := hout T' rfl X'
      exact ⟨t2, st.trans a1, b1⟩
  rcases hk with ⟨k, n, b, rfl, hcp, hmt, hst9, hnp, rfl⟩ | ⟨k, n, ci, a, as', fs, rfl, hcp, hmt, hst9, rfl, hnp, rfl, hsh⟩ | ⟨k, n, b, a, as', rfl, hcp, hmt, hst9, rfl, hnp, rfl, ha1, ha2⟩
  · rw [hnst] at hst9; cases hst9
  · have he' := am_mt_in hmt
    dsimp only at hj
    subst hj
    have hr9 := am_roomC (Or.inr rfl) (Or.inl hcp) hmt hib
    rw [← hfr, ← hlc] at hr9
    obtain ⟨hs, hq⟩ := am_pool hpn hcp
    have h1r : am_s1 rest := fun w hw => h1 w (List.mem_append_right _ (List.mem_cons_of_mem _ hw))
    obtain ⟨hw, C, T, N, hcl9, hC9⟩ := (am_cb3 hmt hq).2 hst9
    obtain ⟨hi9, hs9⟩ := (am_meth he').2.2.2.2.2 hst9
    rw [am_rev]
    subst hC9
    exact fin (vx_runV (As := as'.map (am_tv ad)) (rest := rest.map (am_tv ad)) (b := ad a) (C := (am_y e').cls) (n := am_np e') ⟨hx, hb, hml, hown, hts⟩ hC ⟨am_callB he' hts hw rfl rfl hr9, hts _ hi9, hts _ hs9⟩ ⟨am_blind, am_recv hcx hP hsh hcl9, am_pre hcx hP hS⟩ rfl (by rw [List.length_map]; exact hnp) hL.1 rfl (hwt h1r hrw) hd ⟨Nat.le_refl _, Nat.le_refl _⟩)
  · have he' := am_mt_in hmt
    dsimp only at hj
    subst hj
    have hr9 := am_roomC (Or.inr rfl) (Or.inr hcp) hmt hib
    rw [← hfr, ← hlc] at hr9
    obtain ⟨hs, hq⟩ := am_pool hpn hcp
    have h1r : am_s1 rest := fun w hw => h1 w (List.mem_append_right _ (List.mem_cons_of_mem _ hw))
    obtain ⟨hw, hC9⟩ := am_cb10 hmt hq
    obtain ⟨hi9, hs9⟩ := (am_meth he').2.2.2.2.2 hst9
    obtain ⟨n9, hn9, rfl⟩ := am_k1 a ⟨ha1, ha2⟩
    rw [am_rev]
    have hrv := vk_recv (i := n9) hcx.2.2.1.1 hn9 hS
    rw [← hC9] at hrv
    exact fin (vx_runV (As := as'.map (am_tv ad)) (rest := rest.map (am_tv ad)) (b := ad (1000 + n9)) (C := (am_y e').cls) (n := am_np e') ⟨hx, hb, hml, hown, hts⟩ hC ⟨am_callB he' hts hw rfl rfl hr9, hts _ hi9, hts _ hs9⟩ ⟨am_blind, hrv, am_pre hcx hP hS⟩ rfl (by rw [List.length_map]; exact hnp) hL.1 rfl (hwt h1r hrw) hd ⟨Nat.le_refl _, Nat.le_refl _⟩)
theorem am_as1 {cp : Nat → Option am_Cp} {i : am_Op} {len : Nat} {st as rest : List Value} {e' : am_Me} (hcl : am_cl am_mt cp sh i len st = some (e', as, rest)) (h1 : am_s1 st) : e' ∈ am_ms ∧ am_s1 as ∧ am_s1 rest ∧ as.length ≤ am_mL e' := by
  obtain ⟨-, hk⟩ := am_cl_spec hcl
  rcases hk with ⟨k, n, b, rfl, hcp, hmt, hst9, hnp, rfl⟩ | ⟨k, n, ci, a, as', fs, rfl, hcp, hmt, hst9, rfl, hnp, rfl, hsh⟩ | ⟨k, n, b, a, as', rfl, hcp, hmt, hst9, rfl, hnp, rfl, ha1, ha2⟩
  · have h := am_npm e' (am_mt_in hmt)
    rw [hst9] at h
    refine ⟨am_mt_in hmt, fun w hw => h1 w (List.mem_append_left _ (List.mem_reverse.mpr hw)), fun w hw => h1 w (List.mem_append_right _ hw), ?_⟩
    rw [hnp]; exact h
  · have h := am_npm e' (am_mt_in hmt)
    rw [hst9] at h
    refine ⟨am_mt_in hmt, fun w hw => ?_, fun w hw => h1 w (List.mem_append_right _ (List.mem_cons_of_mem _ hw)), ?_⟩
    · rcases List.mem_cons.mp hw with rfl | hw
      · rfl
      · exact h1 w (List.mem_append_left _ (List.mem_reverse.mpr hw))
    · rw [List.length_cons, hnp]; exact h
  · have h := am_npm e' (am_mt_in hmt)
    rw [hst9] at h
    refine ⟨am_mt_in hmt, fun w hw => ?_, fun w hw => h1 w (List.mem_append_right _ (List.mem_cons_of_mem _ hw)), ?_⟩
    · rcases List.mem_cons.mp hw with rfl | hw
      · rfl
      · exact h1 w (List.mem_append_left _ (List.mem_reverse.mpr hw))
    · rw [List.length_cons, hnp]; exact h
theorem am_e_cat {rt : Option FieldType} {i : am_Op} {len : Nat} {st : List Value} {z : Prop × Option Value} (h : am_e rt i len st = some z) : am_s1 z.2.toList := by
  unfold am_e at h
  split at h <;> first | cases h | skip
  all_goals (intro w hw; cases hw <;> first | rfl | (rename_i q; cases q))
theorem am_N_cat : ∀ (n : Nat) {e : am_Me} {q : am_St} {v : Option Value} {M' : am_M}, am_N am_mt am_cp sh (am_sv zz) am_sa n e q (.ok v) M' → am_s1 v.toList := by
  intro n
  induction n with
  | zero => intro e q v M' h; exact h.elim
  | succ n ih =>
    intro e q v M' h
    obtain ⟨i, len, hat, hcase⟩ := h
    rcases hcase with ⟨z, hz, hc, hn⟩ | ⟨z, he, hc, hv, -⟩ | ⟨x, k, a, b, ht, hst, hr, -⟩ | ⟨e', as, rest, hcl, hrw, ⟨v1, M1, ha, hb⟩ | ⟨x, ha, hr, -⟩⟩
    · exact ih hn
    · cases hv; exact am_e_cat he
    · cases hr
    · exact ih hb
    · cases hr
/-- THE WALK -/
theorem am_walk (hok : am_shk sh) (hsk : am_shA sh) : ∀ n : Nat, am_Wk l zz ad cy D A sh n := by
  intro n
  induction n with
  | zero => intro e q r M' h; exact h.elim
  | succ n ih =>
    intro e q r M' hN p en s m args below meth c hB H locs ls hL h1 hP hS
    obtain ⟨pc, L, st, M⟩ := q
    obtain ⟨i, len, hat, hcase⟩ := hN
    rcases hcase with ⟨z, hz, hc, hn⟩ | ⟨z, he, hc, rfl, rfl⟩ | ⟨x, k, a, b, ht, hst, rfl, rfl⟩ | ⟨e', as, rest, hcl, hrw, hcase⟩
    · exact am_step hB hat hz hc (Nat.zero_le _) (Nat.zero_le _) hok hsk hL h1 hP hS (fun h1' H' locs' ls' hL' hP' hS' => ih hn hB hL' h1' hP' hS')
    · exact am_walk_ret hB hat he hc hP hS
    · dsimp only at hst
      subst hst
      exact am_walk_thr hB hat ht hL hP hS
    · obtain ⟨q1, q2, q3, q4⟩ := am_as1 hcl h1
      rcases hcase with ⟨v, M1, ha, hb⟩ | ⟨x, ha, rfl, hns⟩
      · refine am_walk_call hB hat hcl hrw hL h1 hP hS (am_contract ih q1 q2 q4 ha) (fun H1 locs1 hP1 hS1 => ih hb hB hL ?_ hP1 hS1)
        intro w hw
        rcases List.mem_append.mp hw with hw | hw
        · exact am_N_cat n ha w hw
        · exact q3 w hw
      · exact am_walk_callx hB hat hcl hrw hns hL h1 hP hS (am_contract ih q1 q2 q4 ha)
/-- A METHOD's CONTRACT: what the abstract machine comes to -/
theorem am_sound (hok : am_shk sh) (hsk : am_shA sh) {e : am_Me} {as : List Value} {M M' : am_M} {r : Except Nat (Option Value)} (he : e ∈ am_ms) (h1 : am_s1 as) (hn : as.length ≤ am_mL e) (h : am_R am_mt am_cp sh (am_sv zz) am_sa e (0, am_l0 e as, [], M) r M') : am_Ct l zz ad cy D A sh e as M r M' := by
  obtain ⟨n, hN⟩ := h
  exact am_contract (am_walk hok hsk n) he h1 hn hN
end MAIN
