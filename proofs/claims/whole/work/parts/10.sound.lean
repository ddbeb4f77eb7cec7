/-! A METHOD OF THE ABSTRACT MACHINE, AS A CONTRACT OF THE MACHINE'S -/
def am_Pc (l : Launch) (zz : Value) (ad : Nat → Nat) (cy : Nat → ClassId) (D : va_G) (A : Nat → Prop) (sh : List am_Sc) (as : List Value) (M : am_M) : Array Value → State → Prop := va_Pc (as.map (am_tv ad)) (fun U => am_cx l zz ad cy D A sh U ∧ va_P D vwCl (am_wd ad cy sh M) U.heap)
def am_Qo (ad : Nat → Nat) (cy : Nat → ClassId) (D : va_G) (A : Nat → Prop) (sh : List am_Sc) (v : Option Value) (M' : am_M) : Array Value → State → Outcome → State → Prop := fun _ st o t => o = .returned (v.map (am_tv ad)) ∧ va_P D vwCl (am_wd ad cy sh M') t.heap ∧ va_F A st t
def am_XC (ad : Nat → Nat) (cy : Nat → ClassId) (D : va_G) (A : Nat → Prop) (sh : List am_Sc) (x : Nat) (M' : am_M) : String → State → State → Prop := fun E st t => E = am_exc x ∧ va_P D vwCl (am_wd ad cy sh M') t.heap ∧ va_F A st t
def am_w (e : am_Me) : List Cond := Cond.code (am_y e) (am_code e) (am_mL e) (am_rt e) :: am_gw
def am_rm (e : am_Me) (r : Except Nat (Option Value)) : Room := match r with
  | .ok _ => { frames := am_fr e, cells := 0, slots := 0, locals := am_lc e }
  | .error _ => { frames := am_fr e, cells := 1, slots := 6, locals := am_lc e }
def am_No : Array Value → State → Outcome → State → Prop := fun _ _ _ _ => False
def am_Ct (l : Launch) (zz : Value) (ad : Nat → Nat) (cy : Nat → ClassId) (D : va_G) (A : Nat → Prop) (sh : List am_Sc) (e : am_Me) (as : List Value) (M : am_M) (r : Except Nat (Option Value)) (M' : am_M) : Prop := match r with
  | .ok v => Met l (am_y e) (am_w e) (am_rm e (.ok v)) (am_Pc l zz ad cy D A sh as M) (am_Qo ad cy D A sh v M') 0 0 A
  | .error x => vx_Met l (am_y e) (am_w e) (am_rm e (.error x)) (am_Pc l zz ad cy D A sh as M) am_No (am_XC ad cy D A sh x M') 1 6 A
def am_Po (ad : Nat → Nat) (cy : Nat → ClassId) (D : va_G) (A : Nat → Prop) (sh : List am_Sc) (below : List Frame) (args : Array Value) (s : State) (r : Except Nat (Option Value)) (M' : am_M) : State → Prop := match r with
  | .ok v => MQ below (am_Qo ad cy D A sh v M') args s 0 0 A
  | .error x => vx_MQ below am_No (am_XC ad cy D A sh x M') args s 1 6 A
/-! throws: the three places -/
def am_nms : List String := ["java/lang/RuntimeException", "java/lang/Exception"]
def am_tpl : List (Nat × Nat × Nat × Nat × Nat) := [(0, 346, 348, 350, 10), (1, 353, 355, 357, 11), (2, 358, 360, 362, 12)]
def am_tk (e : am_Me) (q : Nat × am_Op × Nat) : Bool := match am_t (am_cp (am_cn e)) (am_pg e) q.1 q.2.1 q.2.2 with
  | some (x, k, a, b) => decide ((am_y e).cls = "SoldEchoes") && am_tpl.any (fun v => decide (v.1 = x ∧ v.2.1 = k ∧ v.2.2.1 = a ∧ v.2.2.2.1 = b))
  | none => true
set_option maxRecDepth 100000 in
theorem am_tka : am_ms.all (fun e => (am_pg e).all (am_tk e)) = true := by decide +kernel
def am_ix (x : Nat) : Nat := match x with
  | 1 => 13
  | _ => 7
def am_rx (x : Nat) : ByteArray := match x with
  | 1 => prog_29_method_4_code
  | _ => Bundle.six
def am_tws (x b : Nat) : List Cond := (Bundle.ownAtomsX "SoldEchoes" b (am_exc x) (am_ix x) (am_rx x) am_nms).filter vx_no
def am_two (w : Cond) : Bool := (goodWord w && lw_tbl.any (fun v => decide (v = w))) || (!goodWord w && decide (w ∈ am_nst))
set_option maxRecDepth 100000 in
theorem am_tw_0 : (am_tws 0 350).all am_two = true := by decide +kernel
set_option maxRecDepth 100000 in
theorem am_tw_1 : (am_tws 1 357).all am_two = true := by decide +kernel
set_option maxRecDepth 100000 in
theorem am_tw_2 : (am_tws 2 362).all am_two = true := by decide +kernel
theorem am_hat {x b : Nat} (h : (am_tws x b).all am_two = true) {args : Array Value} {s : State} (hts : ∀ w ∈ am_gw, w.before args s = true) (hn : ∀ w ∈ am_nst, va_Nw w s) : ∀ w ∈ am_tws x b, w.before args s = true := by
  intro w hw
  have h1 := List.all_eq_true.mp h w hw
  unfold am_two at h1
  simp only [Bool.or_eq_true, Bool.and_eq_true, List.any_eq_true, decide_eq_true_eq] at h1
  rcases h1 with ⟨g, v, hv, rfl⟩ | ⟨_, g⟩
  · exact hts _ (List.mem_filter.mpr ⟨hv, g⟩)
  · exact va_Nw.use (am_nst_ok w g) (hn w g)
set_option maxRecDepth 100000 in
theorem am_two_ot {w : Cond} (h : am_two w = true) : vx_ot w = true := by
  unfold am_two at h
  simp only [Bool.or_eq_true, Bool.and_eq_true, decide_eq_true_eq] at h
  unfold vx_ot
  rw [Bool.or_eq_true]
  rcases h with ⟨g, _⟩ | ⟨_, g⟩
  · exact Or.inr g
  · exact Or.inl (am_nst_ok w g)
theorem am_x0 (x : Nat) : decode (am_rx x) 0 = .ok (.aload_n 0, 1) := by unfold am_rx; split <;> decide +kernel
theorem am_x1 (x : Nat) : decode (am_rx x) 1 = .ok (.aload_n 1, 1) := by unfold am_rx; split <;> decide +kernel
theorem am_x2 (x : Nat) : decode (am_rx x) 2 = .ok (.invokespecial (am_ix x), 3) := by unfold am_rx am_ix; split <;> decide +kernel
theorem am_x5 (x : Nat) : decode (am_rx x) 5 = .ok (.return_, 1) := by unfold am_rx; split <;> decide +kernel
theorem am_xfit (x : Nat) : Bundle.fit (am_exc x) = true := by unfold am_exc; split <;> decide +kernel
theorem am_nfit : ∀ n ∈ am_nms, Bundle.fit n = true := by decide +kernel
/-- of a place that throws -/
theorem am_tsite {e : am_Me} (he : e ∈ am_ms) {pc len x k a b : Nat} {i : am_Op} (ha : am_at (am_pg e) pc = some (i, len)) (h : am_t (am_cp (am_cn e)) (am_pg e) pc i len = some (x, k, a, b)) :
    (am_y e).cls = "SoldEchoes" ∧ (∃ n, ("SoldEchoes", a, n) ∈ am_srs) ∧ (am_tws x b).all am_two = true := by
  have h1 := List.all_eq_true.mp (List.all_eq_true.mp am_tka e he) _ (am_at_in _ _ _ ha)
  unfold am_tk at h1
  rw [h] at h1
  simp only [Bool.and_eq_true, decide_eq_true_eq, List.any_eq_true] at h1
  obtain ⟨hc, v, hv, e1, e2, e3, e4⟩ := h1
  refine ⟨hc, ?_⟩
  simp only [am_tpl, List.mem_cons, List.not_mem_nil, or_false] at hv
  rcases hv with rfl | rfl | rfl
  · dsimp only at e1 e3 e4
    subst e1; subst e3; subst e4
    exact ⟨⟨10, by decide +kernel⟩, am_tw_0⟩
  · dsimp only at e1 e3 e4
    subst e1; subst e3; subst e4
    exact ⟨⟨11, by decide +kernel⟩, am_tw_1⟩
  · dsimp only at e1 e3 e4
    subst e1; subst e3; subst e4
    exact ⟨⟨12, by decide +kernel⟩, am_tw_2⟩
theorem am_t_spec {cp : Nat → Option am_Cp} {pg : am_Pg} {pc len x k a b : Nat} {i : am_Op} (h : am_t cp pg pc i len = some (x, k, a, b)) : i = .inl (.new k) ∧ len = 3 ∧ am_at pg (pc + 3) = some (.inl .dup, 1) ∧ am_at pg (pc + 4) = some (.inl (.ldc_w a), 3) ∧ am_at pg (pc + 7) = some (.inl (.invokespecial b), 3) ∧ am_at pg (pc + 10) = some (.inl .athrow, 1) ∧ ∃ y, cp k = some (4, x, y) := by
  unfold am_t at h
  split at h
  · rename_i k9 a9 b9 h1 h2 h3 h4
    split at h
    · rename_i x9 y9 hcp
      cases h
      exact ⟨rfl, rfl, h1, h2, h3, h4, y9, hcp⟩
    · cases h
  · cases h
theorem am_roomN {e : am_Me} {k pc len : Nat} (h : am_ib e (pc, .inl (.new k), len) = true) : 6 ≤ am_fr e ∧ 90 ≤ am_lc e := by
  simp only [am_ib, Bool.and_eq_true] at h
  exact ⟨Nat.le_of_ble_eq_true h.1, Nat.le_of_ble_eq_true h.2⟩
/-! calls: what am_cl says -/
theorem am_pop_spec : ∀ (n : Nat) (acc st as rest : List Value), am_pop n acc st = some (as, rest) → ∃ pre, pre.length = n ∧ st = pre ++ rest ∧ as = pre.reverse ++ acc := by
  intro n
  induction n with
  | zero =>
    intro acc st as rest h
    cases h
    exact ⟨[], rfl, rfl, rfl⟩
  | succ n ih =>
    intro acc st as rest h
    cases st with
    | nil => cases h
    | cons v st =>
      obtain ⟨pre, h1, h2, h3⟩ := ih (v :: acc) st as rest h
      exact ⟨v :: pre, by rw [List.length_cons, h1], by rw [h2]; rfl, by rw [h3, List.reverse_cons, List.append_assoc]; rfl⟩
theorem am_mt_in {n : Nat} {e : am_Me} (h : am_mt n = some e) : e ∈ am_ms := am_nth_in _ _ _ h
theorem am_cl_spec {cp : Nat → Option am_Cp} {sh : List am_Sc} {i : am_Op} {len : Nat} {st : List Value} {e' : am_Me} {as rest : List Value} (h : am_cl am_mt cp sh i len st = some (e', as, rest)) :
    len = 3 ∧ ((∃ k n b, i = .inl (.invokestatic k) ∧ cp k = some (3, n, b) ∧ am_mt n = some e' ∧ am_stc e' = true ∧ as.length = am_np e' ∧ st = as.reverse ++ rest) ∨
      (∃ k n ci a as' fs, i = .inl (.invokevirtual k) ∧ cp k = some (3, n, ci) ∧ am_mt n = some e' ∧ am_stc e' = false ∧ as = .ref a :: as' ∧ as'.length = am_np e' ∧ st = as'.reverse ++ .ref a :: rest ∧ sh[a]? = some (.inr (.inl (ci, fs)))) ∨
      (∃ k n b a as', i = .inl (.invokevirtual k) ∧ cp k = some (10, n, b) ∧ am_mt n = some e' ∧ am_stc e' = false ∧ as = .ref a :: as' ∧ as'.length = am_np e' ∧ st = as'.reverse ++ .ref a :: rest ∧ 1000 ≤ a ∧ a < 1013)) := by
  unfold am_cl at h
  split at h
  · rename_i k
    refine ⟨rfl, Or.inl ?_⟩
    split at h
    · rename_i n b hcp
      split at h
      · rename_i e9 he
        cases hs : am_stc e9 with
        | false => simp only [hs, cond_false] at h; cases h
        | true =>
          simp only [hs, cond_true] at h
          split at h
          · rename_i as9 rest9 hp
            cases h
            obtain ⟨pre, h1, h2, h3⟩ := am_pop_spec _ _ _ _ _ hp
            rw [List.append_nil] at h3
            subst h3
            exact ⟨k, n, b, rfl, hcp, he, hs, by rw [List.length_reverse, h1], by rw [List.reverse_reverse]; exact h2⟩
          · cases h
      · cases h
    · cases h
  · rename_i k
    refine ⟨rfl, Or.inr ?_⟩
    split at h
    · rename_i n ci hcp
      refine Or.inl ?_
      split at h
      · rename_i e9 he
        cases hs : am_stc e9 with
        | true => simp only [hs, cond_true] at h; cases h
        | false =>
          simp only [hs, cond_false] at h
          split at h
          · rename_i a as9 rest9 hp
            split at h
            · rename_i c2 fs hsh
              cases hb : Nat.beq ci c2 with
              | false => simp only [hb, cond_false] at h; cases h
              | true =>
                simp only [hb, cond_true] at h
                have e2 := Nat.eq_of_beq_eq_true hb
                subst e2
                cases h
                obtain ⟨pre, h1, h2, h3⟩ := am_pop_spec _ _ _ _ _ hp
                rw [List.append_nil] at h3
                have h4 : pre = as9.reverse ++ [Value.ref a] := by
                  rw [← List.reverse_cons, h3, List.reverse_reverse]
                refine ⟨k, n, ci, a, as9, fs, rfl, hcp, he, hs, rfl, ?_, ?_, hsh⟩
                · rw [h4, List.length_append, List.length_reverse] at h1
                  exact Nat.succ.inj h1
                · rw [h2, h4, List.append_assoc]; rfl
            · cases h
          · cases h
      · cases h
    · rename_i n b hcp
      refine Or.inr ?_
      split at h
      · rename_i e9 he
        cases hs : am_stc e9 with
        | true => simp only [hs, cond_true] at h; cases h
        | false =>
          simp only [hs, cond_false] at h
          split at h
          · rename_i a as9 rest9 hp
            cases hb : (Nat.ble 1000 a && Nat.blt a 1013) with
            | false => rw [hb] at h; cases h
            | true =>
              rw [hb] at h
              cases h
              simp only [Bool.and_eq_true] at hb
              obtain ⟨pre, h1, h2, h3⟩ := am_pop_spec _ _ _ _ _ hp
              rw [List.append_nil] at h3
              have h4 : pre = as9.reverse ++ [Value.ref a] := by
                rw [← List.reverse_cons, h3, List.reverse_reverse]
              refine ⟨k, n, b, a, as9, rfl, hcp, he, hs, rfl, ?_, ?_, Nat.le_of_ble_eq_true hb.1, Nat.le_of_ble_eq_true hb.2⟩
              · rw [h4, List.length_append, List.length_reverse] at h1
                exact Nat.succ.inj h1
              · rw [h2, h4, List.append_assoc]; rfl
          · cases h
      · cases h
    · cases h
  · cases h
theorem am_roomC {e e' : am_Me} {i : am_Op} {pc len k n b : Nat} (hi : i = .inl (.invokestatic k) ∨ i = .inl (.invokevirtual k)) (hcp : am_cp (am_cn e) k = some (3, n, b) ∨ am_cp (am_cn e) k = some (10, n, b)) (he : am_mt n = some e') (h : am_ib e (pc, i, len) = true) : am_fr e' + 1 ≤ am_fr e ∧ 8 + (am_mL e' + 11) + am_lc e' ≤ am_lc e := by
  rcases hi with rfl | rfl <;> rcases hcp with hcp | hcp <;> (
    simp only [am_ib, hcp, he, Bool.and_eq_true] at h
    exact ⟨Nat.le_of_ble_eq_true h.1, Nat.le_of_ble_eq_true h.2.1⟩)
