/-! THE WALK: what the abstract machine does, the machine does -/
theorem am_lgsl (ad : Nat → Nat) : ∀ (as : List Value), am_s1 as → (lg_sl (as.map (am_tv ad))).length = as.length := by
  intro as
  induction as with
  | nil => intro _; rfl
  | cons v t ih =>
    intro h
    have hv : (am_tv ad v).category = 1 := by rw [am_tv_cat]; exact h v List.mem_cons_self
    have ht := ih (fun w hw => h w (List.mem_cons_of_mem _ hw))
    unfold lg_sl at ht ⊢
    rw [List.map_cons, List.flatMap_cons, hv]
    simp only [List.length_append, List.length_cons, ht]
    simp
    omega
theorem am_l0_get {e : am_Me} {as : List Value} {i : Nat} {v : Value} (h : (am_l0 e as)[i]? = some (some v)) : as[i]? = some v := by
  unfold am_l0 at h
  rcases Nat.lt_or_ge i as.length with q | q
  · rw [List.getElem?_append_left (by rw [List.length_map]; exact q), List.getElem?_map] at h
    cases ha : as[i]? with
    | none => rw [ha] at h; cases h
    | some w => rw [ha] at h; cases h; rfl
  · rw [List.getElem?_append_right (by rw [List.length_map]; exact q)] at h
    exfalso
    have := List.getElem?_eq_some_iff.mp h
    obtain ⟨h1, h2⟩ := this
    rw [List.getElem_replicate] at h2
    cases h2
theorem am_entry {ad : Nat → Nat} {e : am_Me} {as : List Value} (h1 : am_s1 as) (hn : as.length ≤ am_mL e) : am_L ad ((lg_sl (as.map (am_tv ad)) ++ List.replicate (am_mL e - (lg_sl (as.map (am_tv ad))).length) Slot.unset).toArray) (am_mL e) (am_l0 e as) := by
  have h := lv_entry (as.map (am_tv ad)) (n := am_mL e) (by rw [am_lgsl ad as h1]; exact hn)
  refine ⟨h.1, h.2.1, ?_, fun i v hi => ?_⟩
  · unfold am_l0
    rw [List.length_append, List.length_map, List.length_replicate]
    omega
  · have hv := am_l0_get hi
    have hc := h1 v (List.mem_of_getElem? hv)
    refine ⟨hc, ?_⟩
    have hm := am_sub_entry ad as h1 0 i v hv
    rw [Nat.zero_add] at hm
    exact h.2.2 _ hm
set_option maxRecDepth 100000 in
theorem am_nh : ∀ e ∈ am_ms, (am_y e).cls ≠ "java/lang/invoke/MethodHandle" ∧ (am_y e).cls ≠ "java/lang/invoke/VarHandle" := by decide +kernel
set_option maxRecDepth 100000 in
theorem am_npm : ∀ e ∈ am_ms, am_np e + (bif am_stc e then 0 else 1) ≤ am_mL e := by decide +kernel
section WALK
variable {l : Launch} {zz : Value} {ad : Nat → Nat} {cy : Nat → ClassId} {D : va_G} {A : Nat → Prop} {sh : List am_Sc}
def am_Wk (l : Launch) (zz : Value) (ad : Nat → Nat) (cy : Nat → ClassId) (D : va_G) (A : Nat → Prop) (sh : List am_Sc) (n : Nat) : Prop :=
  ∀ {e : am_Me} {q : am_St} {r : Except Nat (Option Value)} {M' : am_M}, am_N am_mt am_cp sh (am_sv zz) am_sa n e q r M' →
   ∀ {p : Program} {en : Env} {s : State} {m : MethodId} {args : Array Value} {below : List Frame} {meth : Method} {c : Code}, am_bd l zz ad cy D A sh e p (am_rm e r) s m args meth c →
   ∀ {H : Heap} {locs : List Loc} {ls : Array Slot}, am_L ad ls (am_mL e) q.2.1 → am_s1 q.2.2.1 → va_P D vwCl (am_wd ad cy sh q.2.2.2) H → va_S A s.heap H locs →
   W p l en (am_rm e r) s m args below meth c H locs 0 0 (am_Po ad cy D A sh below args s r M') (F0 m q.1 ls (q.2.2.1.map (am_tv ad)))
theorem am_rm_fr (e : am_Me) (r : Except Nat (Option Value)) : (am_rm e r).frames = am_fr e := by cases r <;> rfl
theorem am_rm_lc (e : am_Me) (r : Except Nat (Option Value)) : (am_rm e r).locals = am_lc e := by cases r <;> rfl
theorem am_bd_of {e : am_Me} (he : e ∈ am_ms) {r : Except Nat (Option Value)} {p : Program} {en : Env} {s s₁ : State} {m : MethodId} {args : Array Value} {below : List Frame} {meth : Method} {c : Code} {as : List Value} {M : am_M}
    (B : BodyLoose p l (am_y e) (headSpec (am_w e) (am_rm e r)) (am_code e) (am_mL e) (am_rt e) en s m args below meth c s₁) (hml : c.maxLocals = am_mL e) (hv : am_Pc l zz ad cy D A sh as M args s) : am_bd l zz ad cy D A sh e p (am_rm e r) s m args meth c := by
  have hts := atoms_spec (ws := am_w e) B.pre
  have hw : (Cond.code (am_y e) (am_code e) (am_mL e) (am_rt e)).before args s = true := hts _ List.mem_cons_self
  refine ⟨he, B.exec, B.bytes, hml, B.returns, findClass_of_methodNamed B.named, fun w h => hts w (List.mem_cons_of_mem _ h), B.notSynchronized, ?_, hv.2.1, am_rm_fr e r, am_rm_lc e r⟩
  intro x hx
  have h7 := B.noHandlers hw
  rw [Array.isEmpty_iff.mp h7] at hx
  cases hx
theorem am_contract {n : Nat} (hW : am_Wk l zz ad cy D A sh n) {e : am_Me} {as : List Value} {M M' : am_M} {r : Except Nat (Option Value)} (he : e ∈ am_ms) (h1 : am_s1 as) (hn : as.length ≤ am_mL e) (hN : am_N am_mt am_cp sh (am_sv zz) am_sa n e (0, am_l0 e as, [], M) r M') : am_Ct l zz ad cy D A sh e as M r M' := by
  have hy := (am_meth he).1
  cases r with
  | ok v =>
    refine Met.ofW (cc := am_code e) (maxL := am_mL e) (ret := am_rt e) hy rfl ?_
    intro p en s m args below meth c s₁ B hml hv
    have hb := am_bd_of he B hml hv
    obtain ⟨rfl, hcx, hP⟩ := hv
    rw [lg_entry_eq]
    exact hW hN hb (am_entry h1 hn) (fun _ h => nomatch h) hP va_S.rf
  | error x =>
    refine vx_ofW (cc := am_code e) (maxL := am_mL e) (ret := am_rt e) hy rfl ?_
    intro p en s m args below meth c s₁ B hml _ hv
    have hb := am_bd_of he B hml hv
    obtain ⟨rfl, hcx, hP⟩ := hv
    rw [lg_entry_eq]
    exact hW hN hb (am_entry h1 hn) (fun _ h => nomatch h) hP va_S.rf
theorem am_blind {as : List Value} {M : am_M} : FrameBlind (am_Pc l zz ad cy D A sh as M) := by
  intro a U g mk h
  obtain ⟨h1, h2, h3⟩ := h
  exact ⟨h1, h2.same rfl rfl, h3⟩
theorem am_good (e' : am_Me) (he : e' ∈ am_ms) : GoodIn am_gw (am_w e') := by
  intro w hw
  rcases List.mem_cons.mp hw with rfl | hw
  · have := mc_a e' he
    exact ⟨this, am_gw_good _ this⟩
  · exact ⟨hw, am_gw_good _ hw⟩
theorem am_notH {e' : am_Me} (he : e' ∈ am_ms) : (am_y e').cls ≠ "java/lang/invoke/MethodHandle" ∧ (am_y e').cls ≠ "java/lang/invoke/VarHandle" := am_nh e' he
end WALK
