/-! EVERY STEP OF THE ABSTRACT MACHINE IS ONE OF THE MACHINE'S -/
theorem am_kin {own : String} {k : Nat} {v : Int32} (h : Cond.constant own k v ∈ tables_1) : Cond.constant own k v ∈ am_gw := by
  unfold am_gw
  refine List.mem_filter.mpr ⟨?_, rfl⟩
  unfold lw_tbl
  exact List.mem_append.mpr (Or.inr h)
set_option maxRecDepth 100000 in
theorem am_kbs {i : Instr} {v : Int32} {len : Nat} {own : String} (h : am_kb i v len own = true) : (∃ n, i = .iconst n ∧ len = 1 ∧ Int32.ofInt n = v) ∨ (∃ n, i = .bipush n ∧ len = 2 ∧ (Int8.ofInt n).toInt32 = v) ∨ (∃ n, i = .sipush n ∧ len = 3 ∧ (Int16.ofInt n).toInt32 = v) ∨ (∃ k, i = .ldc_w k ∧ len = 3 ∧ Cond.constant own k v ∈ am_gw) := by
  unfold am_kb at h
  split at h
  · exact Or.inl ⟨_, rfl, rfl, of_decide_eq_true h⟩
  · exact Or.inr (Or.inl ⟨_, rfl, rfl, of_decide_eq_true h⟩)
  · exact Or.inr (Or.inr (Or.inl ⟨_, rfl, rfl, of_decide_eq_true h⟩))
  · rename_i k
    refine Or.inr (Or.inr (Or.inr ⟨_, rfl, rfl, am_kin ?_⟩))
    rw [decide_eq_true_eq] at h
    exact h
  · cases h
theorem am_k1 (a : Nat) (h : 1000 ≤ a ∧ a < 1013) : ∃ n, n < 13 ∧ a = 1000 + n := ⟨a - 1000, by omega, by omega⟩
theorem am_k2 (n : Nat) : 1000 + n + 1000 = 2000 + n := by omega
theorem am_vpin {i : Int32} {n : Nat} (h : am_in i n) : vp_in i n := vp_in_iff.mpr h
theorem am_tg_eq {pc t : Nat} {off : Int} (h : am_tg pc off = some t) : (pc : Int) + off = (t : Int) := by
  unfold am_tg at h
  split at h
  · rename_i n hn
    cases h
    rw [hn]; rfl
  · cases h
theorem am_sw_in {pc : Nat} {L : am_Ls} {st : List Value} {M : am_M} {x : Int32} {lo : Int} : ∀ (l : List Int) (j : Nat) (z : Option Prop × am_St), z ∈ am_sw pc L st M x lo j l → ∃ i o t, l[i]? = some o ∧ am_tg pc o = some t ∧ z = (some (x.toInt = lo + ((j + i : Nat) : Int)), t, L, st, M) := by
  intro l
  induction l with
  | nil => intro j z h; cases h
  | cons o t ih =>
    intro j z h
    unfold am_sw at h
    split at h
    · rename_i g hg
      rcases List.mem_cons.mp h with h | h
      · exact ⟨0, o, g, rfl, hg, h⟩
      · obtain ⟨i, o2, t2, h1, h2, h3⟩ := ih (j + 1) z h
        exact ⟨i + 1, o2, t2, h1, h2, by rw [h3, show j + 1 + i = j + (i + 1) by omega]⟩
    · cases h
theorem am_lk_in {pc : Nat} {L : am_Ls} {st : List Value} {M : am_M} {x : Int32} : ∀ (l : List (Int × Int)) (z : Option Prop × am_St), z ∈ am_lk pc L st M x l → ∃ q ∈ l, ∃ t, am_tg pc q.2 = some t ∧ z = (some (x.toInt = q.1), t, L, st, M) := by
  intro l
  induction l with
  | nil => intro z h; cases h
  | cons q t ih =>
    intro z h
    unfold am_lk at h
    split at h
    · rename_i g hg
      rcases List.mem_cons.mp h with h | h
      · exact ⟨q, List.mem_cons_self, g, hg, h⟩
      · obtain ⟨q2, h0, t2, h2, h3⟩ := ih z h
        exact ⟨q2, List.mem_cons_of_mem _ h0, t2, h2, h3⟩
    · cases h
theorem am_cat {ad : Nat → Nat} : ∀ (st : List Value), (∀ v ∈ st, v.category = 1) → ((st.map (am_tv ad)).map fun v => v.category).sum = st.length := by
  intro st
  induction st with
  | nil => intro _; rfl
  | cons v t ih =>
    intro h
    simp only [List.map_cons, List.sum_cons, List.length_cons]
    rw [ih (fun w hw => h w (List.mem_cons_of_mem _ hw)), am_tv_cat, h v List.mem_cons_self]
    omega
section AMS
variable {p : Program} {l : Launch} {en : Env} {R : Room} {s : State} {m : MethodId} {args : Array Value} {below : List Frame} {meth : Method} {c : Code} {H : Heap} {locs : List Loc} {Q : State → Prop} {cells slots : Nat}
variable {zz : Value} {ad : Nat → Nat} {cy : Nat → ClassId} {D : va_G} {A : Nat → Prop} {sh : List am_Sc} {e : am_Me}
/-- the body of a method: machine, code, words, room -/
def am_bd (l : Launch) (zz : Value) (ad : Nat → Nat) (cy : Nat → ClassId) (D : va_G) (A : Nat → Prop) (sh : List am_Sc) (e : am_Me) (p : Program) (R : Room) (s : State) (m : MethodId) (args : Array Value) (meth : Method) (c : Code) : Prop :=
  e ∈ am_ms ∧ p.tables.exec = Jvm.exec ∧ c.code = am_code e ∧ c.maxLocals = am_mL e ∧ meth.sig.returnType = am_rt e ∧ s.vm.findClass (am_y e).cls = some m.cls ∧ (∀ w ∈ am_gw, w.before args s = true) ∧ meth.locks = false ∧ (∀ x ∈ c.exceptionTable.toList, False) ∧ am_cx l zz ad cy D A sh s ∧ R.frames = am_fr e ∧ R.locals = am_lc e
/-- the stack holds ints and references alone -/
def am_s1 (st : List Value) : Prop := ∀ v ∈ st, v.category = 1
/-- an int in the shape is a field of that type, not a final one -/
def am_shk (_ : List am_Sc) : Prop := True
def am_shA (sh : List am_Sc) : Prop := ∀ (a t n : Nat), sh[a]? = some (.inl (t, n)) → t < 3
theorem am_tyk (cy : Nat → ClassId) {t : Nat} (h : t < 3) : ∃ (t0 : Nat) (ty : FieldType), (am_tys cy)[t0]? = some (cy t, ty) := by
  match t, h with
  | 0, _ => exact ⟨0, _, rfl⟩
  | 1, _ => exact ⟨1, _, rfl⟩
  | 2, _ => exact ⟨2, _, rfl⟩
theorem am_len_byt : ∀ n, n < 13 → am_len.getD n 0 = (am_byt.getD n []).length := by decide +kernel
theorem am_saK {z : Value} {ad : Nat → Nat} {A : Nat → Prop} {s : State} {H : Heap} {a t : Nat} {l9 : List Int32} (h : am_sta z ad A s H) (ha : am_sa a = some (t, l9)) : (t = 0 ∧ va_T .int (ad a) l9.length (fun j => .int (l9.getD j 0)) A s H) ∨ (t = 1 ∧ va_T .byte (ad a) l9.length (fun j => .int (l9.getD j 0)) A s H) := by
  unfold am_sa at ha
  split at ha
  · cases ha
    exact Or.inl ⟨rfl, h.2.1.2⟩
  · cases ha
    exact Or.inl ⟨rfl, h.2.2.1.2⟩
  · cases hq : (Nat.ble 2000 a && Nat.blt a 2013) with
    | false => rw [hq] at ha; cases ha
    | true =>
      rw [hq] at ha
      cases ha
      simp only [Bool.and_eq_true] at hq
      have q1 := Nat.le_of_ble_eq_true hq.1
      have q2 : a < 2013 := Nat.le_of_ble_eq_true hq.2
      obtain ⟨n, hn, rfl⟩ : ∃ n, n < 13 ∧ a = 2000 + n := ⟨a - 2000, by omega, by omega⟩
      have h3 := (h.1.1 n hn).2.2.2
      rw [am_len_byt n hn] at h3
      rw [show 2000 + n - 2000 = n by omega]
      exact Or.inr ⟨rfl, h3⟩
theorem am_saT {z : Value} {ad : Nat → Nat} {A : Nat → Prop} {s : State} {H : Heap} {a t : Nat} {l9 : List Int32} (h : am_sta z ad A s H) (ha : am_sa a = some (t, l9)) : ∃ (ft : FieldType) (f : Nat → Value), va_T ft (ad a) l9.length f A s H := by
  rcases am_saK h ha with ⟨-, q⟩ | ⟨-, q⟩
  · exact ⟨_, _, q⟩
  · exact ⟨_, _, q⟩
theorem am_saI {z : Value} {ad : Nat → Nat} {A : Nat → Prop} {s : State} {H : Heap} {a : Nat} {l9 : List Int32} (h : am_sta z ad A s H) (ha : am_sa a = some (0, l9)) : va_T .int (ad a) l9.length (fun j => .int (l9.getD j 0)) A s H := by
  rcases am_saK h ha with ⟨-, q⟩ | ⟨q, -⟩
  · exact q
  · cases q
theorem am_saB {z : Value} {ad : Nat → Nat} {A : Nat → Prop} {s : State} {H : Heap} {a : Nat} {l9 : List Int32} (h : am_sta z ad A s H) (ha : am_sa a = some (1, l9)) : va_T .byte (ad a) l9.length (fun j => .int (l9.getD j 0)) A s H := by
  rcases am_saK h ha with ⟨q, -⟩ | ⟨-, q⟩
  · cases q
  · exact q
/-- a field that is written is no final one, and an int -/
def am_pb (e : am_Me) (q : Nat × am_Op × Nat) : Bool := match q.2.1 with
  | .inl (.putfield k) => (match am_cp (am_cn e) k with
    | some (0, ci, j) => (match vwCl[ci]? with
      | some (_, T, _) => !(T j).2.2.2 && decide ((T j).2.2.1 = "I")
      | none => false)
    | _ => true)
  | _ => true
set_option maxRecDepth 100000 in
theorem am_pba : am_ms.all (fun e => (am_pg e).all (am_pb e)) = true := by decide +kernel
theorem am_pbk {e : am_Me} (h : e ∈ am_ms) {pc len k ci j : Nat} {C : String} {T : u_T} {N : Nat} (ha : am_at (am_pg e) pc = some (.inl (.putfield k), len)) (hc : am_cp (am_cn e) k = some (0, ci, j)) (hv : vwCl[ci]? = some (C, T, N)) : (T j).2.2.2 = false ∧ (T j).2.2.1 = "I" := by
  have h1 := List.all_eq_true.mp (List.all_eq_true.mp am_pba e h) _ (am_at_in _ _ _ ha)
  change (match am_cp (am_cn e) k with
    | some (0, ci, j) => (match vwCl[ci]? with
      | some (_, T, _) => !(T j).2.2.2 && decide ((T j).2.2.1 = "I")
      | none => false)
    | _ => true) = true at h1
  rw [hc] at h1
  change (match vwCl[ci]? with
    | some (_, T, _) => !(T j).2.2.2 && decide ((T j).2.2.1 = "I")
    | none => false) = true at h1
  rw [hv] at h1
  change (!(T j).2.2.2 && decide ((T j).2.2.1 = "I")) = true at h1
  simp only [Bool.and_eq_true, Bool.not_eq_true', decide_eq_true_eq] at h1
  exact h1
/-- every switch's table has hi - lo + 1 rows; a lookupswitch's are in order -/
def am_swb (q : Nat × am_Op × Nat) : Bool := match q.2.1 with
  | .inl (.tableswitch _ lo hi offs) => decide (lo + offs.toList.length = hi + 1)
  | .inl (.lookupswitch _ ps) => (ps.toList.zip (ps.toList.drop 1)).all (fun (a, next) => a.1 < next.1) && decide (ps.toList.Pairwise (fun a b => ¬ a.1 = b.1))
  | _ => true
set_option maxRecDepth 100000 in
theorem am_swa : am_ms.all (fun e => (am_pg e).all am_swb) = true := by decide +kernel
theorem am_swk {e : am_Me} (h : e ∈ am_ms) : ∀ (pc len : Nat) (d lo hi : Int) (offs : Array Int), am_at (am_pg e) pc = some (.inl (.tableswitch d lo hi offs), len) → ∀ (i : Nat) (o : Int), offs.toList[i]? = some o → ∀ x : Int32, x.toInt = lo + ((0 + i : Nat) : Int) → ¬ hi < x.toInt := by
  intro pc len d lo hi offs ha i o hi9 x hx
  have h1 := List.all_eq_true.mp (List.all_eq_true.mp am_swa e h) _ (am_at_in _ _ _ ha)
  have h2 : lo + offs.toList.length = hi + 1 := of_decide_eq_true h1
  have h3 := (List.getElem?_eq_some_iff.mp hi9).1
  omega
theorem am_lkk {e : am_Me} (h : e ∈ am_ms) : ∀ (pc len : Nat) (d : Int) (ps : Array (Int × Int)), am_at (am_pg e) pc = some (.inl (.lookupswitch d ps), len) → (ps.toList.zip (ps.toList.drop 1)).all (fun (a, next) => a.1 < next.1) = true ∧ ps.toList.Pairwise (fun a b => ¬ a.1 = b.1) := by
  intro pc len d ps ha
  have h1 := List.all_eq_true.mp (List.all_eq_true.mp am_swa e h) _ (am_at_in _ _ _ ha)
  have h2 : ((ps.toList.zip (ps.toList.drop 1)).all (fun (a, next) => a.1 < next.1) && decide (ps.toList.Pairwise (fun a b => ¬ a.1 = b.1))) = true := h1
  simp only [Bool.and_eq_true, decide_eq_true_eq] at h2
  exact h2
theorem am_lko_no (x : Int32) (d : Int) : ∀ (l : List (Int × Int)), am_lkn x l → Op.lookupswitch.offset l d x.toInt = d := by
  intro l
  induction l with
  | nil => intro _; rfl
  | cons q t ih =>
    intro h
    obtain ⟨h1, h2⟩ := h
    simp only [Op.lookupswitch.offset]
    rw [if_neg (by first | exact h1 | exact fun z => h1 z.symm | simpa using h1 | simpa using (fun z => h1 (Eq.symm z)))]
    exact ih h2
theorem am_lko_yes (x : Int32) (d : Int) : ∀ (l : List (Int × Int)), l.Pairwise (fun a b => ¬ a.1 = b.1) → ∀ q ∈ l, x.toInt = q.1 → Op.lookupswitch.offset l d x.toInt = q.2 := by
  intro l
  induction l with
  | nil => intro _ q h; cases h
  | cons r t ih =>
    intro hp q hq hx
    rw [List.pairwise_cons] at hp
    simp only [Op.lookupswitch.offset]
    rcases List.mem_cons.mp hq with rfl | hq
    · rw [if_pos (by first | exact hx | exact hx.symm | simpa using hx | simpa using hx.symm)]
    · have hne : ¬ r.1 = q.1 := hp.1 q hq
      rw [if_neg (by first | exact fun z => hne (z.symm.trans hx) | exact fun z => hne (z.trans hx) | (rw [hx]; simpa using hne) | (rw [hx]; simpa using (fun z => hne (Eq.symm z))))]
      exact ih hp.2 q hq hx
theorem am_nn {x : Int32} (h : 0 ≤ x.toInt) : ¬ x < 0 := by
  intro q
  have q2 := Int32.lt_iff_toInt_lt.mp q
  have q3 : (0 : Int32).toInt = 0 := rfl
  omega
theorem am_room6 {e : am_Me} {k a b pc len : Nat} (hcp : am_cp (am_cn e) k = some (6, a, b)) (h : am_ib e (pc, .inl (.invokestatic k), len) = true) : 1 ≤ am_fr e ∧ 60 ≤ am_lc e := by
  simp only [am_ib, hcp, Bool.and_eq_true] at h
  exact ⟨Nat.le_of_ble_eq_true h.1, Nat.le_of_ble_eq_true h.2⟩
theorem am_room11 {e : am_Me} {k a b pc len : Nat} (hcp : am_cp (am_cn e) k = some (11, a, b)) (h : am_ib e (pc, .inl (.invokestatic k), len) = true) : 1 ≤ am_fr e ∧ 60 ≤ am_lc e := by
  simp only [am_ib, hcp, Bool.and_eq_true] at h
  exact ⟨Nat.le_of_ble_eq_true h.1, Nat.le_of_ble_eq_true h.2⟩
theorem am_room12 {e : am_Me} {k a b pc len : Nat} (hcp : am_cp (am_cn e) k = some (12, a, b)) (h : am_ib e (pc, .inl (.invokestatic k), len) = true) : 1 ≤ am_fr e ∧ 60 ≤ am_lc e := by
  simp only [am_ib, hcp, Bool.and_eq_true] at h
  exact ⟨Nat.le_of_ble_eq_true h.1, Nat.le_of_ble_eq_true h.2⟩
set_option maxHeartbeats 4000000 in
theorem am_room13 {e : am_Me} {k a b pc len : Nat} (hcp : am_cp (am_cn e) k = some (13, a, b)) (h : am_ib e (pc, .inl (.invokestatic k), len) = true) : 1 ≤ am_fr e ∧ 60 ≤ am_lc e := by
  simp only [am_ib, hcp, Bool.and_eq_true] at h
  exact ⟨Nat.le_of_ble_eq_true h.1, Nat.le_of_ble_eq_true h.2⟩
set_option maxHeartbeats 4000000 in
theorem am_step (B : am_bd l zz ad cy D A sh e p R s m args meth c) {i : am_Op} {len pc : Nat} {L : am_Ls} {st : List Value} {M : am_M} {z : Option Prop × am_St} (hat : am_at (am_pg e) pc = some (i, len)) (hz : z ∈ am_i (am_cp (am_cn e)) sh (am_sv zz) am_sa i len pc L st M) (hc : am_ho z.1) (hcl : cells ≤ R.cells) (hsl : slots ≤ R.slots) (hok : am_shk sh) (hsk : am_shA sh)
    {ls : Array Slot} (hL : am_L ad ls (am_mL e) L) (h1 : am_s1 st) (hP : va_P D vwCl (am_wd ad cy sh M) H) (hS : va_S A s.heap H locs)
    (kk : am_s1 z.2.2.2.1 → ∀ (H' : Heap) (locs' : List Loc) (ls' : Array Slot), am_L ad ls' (am_mL e) z.2.2.1 → va_P D vwCl (am_wd ad cy sh z.2.2.2.2) H' → va_S A s.heap H' locs' → W p l en R s m args below meth c H' locs' cells slots Q (F0 m z.2.1 ls' (z.2.2.2.1.map (am_tv ad)))) :
    W p l en R s m args below meth c H locs cells slots Q (F0 m pc ls (st.map (am_tv ad))) := by
  obtain ⟨hmem, hx, hb, hml, hrt, hown, hts, hlk, hex, hcx, hfr, hlc⟩ := B
  obtain ⟨hK, hD0, hsta, htbw, hA, hst, hzz⟩ := hcx
  have hD : va_D A (am_wd ad cy sh M) := am_wd_D hD0
  obtain ⟨j, hd, hj⟩ := am_dec hmem hat
  have hsw := am_swk hmem
  have hlk9 := am_lkk hmem
  have hib := am_room hmem hat
  have hpl := fun {k : Nat} {q : am_Cp} (h : am_cp (am_cn e) k = some q) => am_pool (am_meth hmem).2.2.2.1 h
  have c1 : ∀ {v : Value} {t : List Value}, v.category = 1 → am_s1 t → am_s1 (v :: t) := fun hv ht w hw => (List.mem_cons.mp hw).elim (fun q => by rw [q]; exact hv) (ht w)
  have t1 : ∀ {v : Value} {t : List Value}, am_s1 (v :: t) → am_s1 t := fun h w hw => h w (List.mem_cons_of_mem _ hw)
  unfold am_i at hz
  split at hz
  · -- a constant
    rename_i v
    obtain rfl := List.mem_singleton.mp hz
    dsimp only at hj kk
    have k0 := kk (c1 rfl h1) H locs ls hL hP hS
    rcases am_kbs hj with ⟨n9, rfl, rfl, h9⟩ | ⟨n9, rfl, rfl, h9⟩ | ⟨n9, rfl, rfl, h9⟩ | ⟨n9, rfl, rfl, h9⟩
    · exact lv_iconst hx hb hd h9 k0
    · exact lv_bipush hx hb hd h9 k0
    · exact lv_sipush hx hb hd h9 k0
    · exact lv_ldcw hx hb hown (hts _ h9) hd k0
  · -- iload_n
    split at hz
    · rename_i x hk
      obtain rfl := List.mem_singleton.mp hz
      dsimp only at hj kk
      subst hj
      exact lv_iload_n hx hb hd rfl (hL.2.2.2 _ _ hk).2 (kk (c1 rfl h1) H locs ls hL hP hS)
    · cases hz
  · -- iload
    split at hz
    · rename_i x hk
      obtain rfl := List.mem_singleton.mp hz
      dsimp only at hj kk
      subst hj
      exact lv_iload hx hb hd (hL.2.2.2 _ _ hk).2 (kk (c1 rfl h1) H locs ls hL hP hS)
    · cases hz
  · -- aload_n
    split at hz
    · rename_i x hk
      obtain rfl := List.mem_singleton.mp hz
      dsimp only at hj kk
      subst hj
      exact lv_aload_n hx hb hd rfl (hL.2.2.2 _ _ hk).2 (kk (c1 rfl h1) H locs ls hL hP hS)
    · cases hz
  · -- aload
    split at hz
    · rename_i x hk
      obtain rfl := List.mem_singleton.mp hz
      dsimp only at hj kk
      subst hj
      exact lv_aload hx hb hd (hL.2.2.2 _ _ hk).2 (kk (c1 rfl h1) H locs ls hL hP hS)
    · cases hz
  · -- istore_n
    rename_i k x st0
    cases hq : Nat.blt k L.length with
    | false => rw [hq] at hz; cases hz
    | true =>
      rw [hq] at hz
      obtain rfl := List.mem_singleton.mp hz
      dsimp only at hj kk
      subst hj
      have hlt : (k : Nat) < am_mL e := by
        have q := Nat.le_of_ble_eq_true hq
        rw [hL.2.2.1] at q
        exact q
      exact lv_istore_n hx hb hd rfl hL.has hlt rfl (fun ls' h' => kk (t1 h1) H locs ls' (hL.store (x := .int x) rfl hlt h') hP hS)
  · -- istore
    rename_i k x st0
    cases hq : Nat.blt k L.length with
    | false => rw [hq] at hz; cases hz
    | true =>
      rw [hq] at hz
      obtain rfl := List.mem_singleton.mp hz
      dsimp only at hj kk
      subst hj
      have hlt : (k : Nat) < am_mL e := by
        have q := Nat.le_of_ble_eq_true hq
        rw [hL.2.2.1] at q
        exact q
      exact lv_istore hx hb hd hL.has hlt rfl (fun ls' h' => kk (t1 h1) H locs ls' (hL.store (x := .int x) rfl hlt h') hP hS)
  · -- astore_n
    rename_i k x st0
    cases hq : Nat.blt k L.length with
    | false => rw [hq] at hz; cases hz
    | true =>
      rw [hq] at hz
      obtain rfl := List.mem_singleton.mp hz
      dsimp only at hj kk
      subst hj
      have hlt : (k : Nat) < am_mL e := by
        have q := Nat.le_of_ble_eq_true hq
        rw [hL.2.2.1] at q
        exact q
      exact lv_astore_n hx hb hd rfl hL.has hlt rfl (fun ls' h' => kk (t1 h1) H locs ls' (hL.store (x := .ref x) rfl hlt h') hP hS)
  · -- astore
    rename_i k x st0
    cases hq : Nat.blt k L.length with
    | false => rw [hq] at hz; cases hz
    | true =>
      rw [hq] at hz
      obtain rfl := List.mem_singleton.mp hz
      dsimp only at hj kk
      subst hj
      have hlt : (k : Nat) < am_mL e := by
        have q := Nat.le_of_ble_eq_true hq
        rw [hL.2.2.1] at q
        exact q
      exact lv_astore hx hb hd hL.has hlt rfl (fun ls' h' => kk (t1 h1) H locs ls' (hL.store (x := .ref x) rfl hlt h') hP hS)
  · -- iinc
    rename_i k dd
    split at hz
    · rename_i x hk
      obtain rfl := List.mem_singleton.mp hz
      dsimp only at hj kk
      subst hj
      have hlt : k < am_mL e := by
        have q := (List.getElem?_eq_some_iff.mp hk).1
        rw [hL.2.2.1] at q
        exact q
      have hmm := am_lvA_mem (ad := ad) L 0 k _ hk
      rw [Nat.zero_add] at hmm
      obtain ⟨kx, hkx⟩ := List.getElem?_of_mem hmm
      exact lv_iinc hx hb hd hL.has hkx rfl hlt rfl (fun ls' h' => kk h1 H locs ls' (hL.store (x := .int (x + Int32.ofInt dd)) rfl hlt h') hP hS)
    · cases hz
  · -- iadd
    obtain rfl := List.mem_singleton.mp hz
    dsimp only at hj kk
    subst hj
    exact lv_iadd hx hb hd (kk (c1 rfl (t1 (t1 h1))) H locs ls hL hP hS)
  · -- isub
    obtain rfl := List.mem_singleton.mp hz
    dsimp only at hj kk
    subst hj
    exact lv_isub hx hb hd (kk (c1 rfl (t1 (t1 h1))) H locs ls hL hP hS)
  · -- imul
    obtain rfl := List.mem_singleton.mp hz
    dsimp only at hj kk
    subst hj
    exact lv_imul hx hb hd (kk (c1 rfl (t1 (t1 h1))) H locs ls hL hP hS)
  · -- idiv
    obtain rfl := List.mem_singleton.mp hz
    dsimp only at hj kk
    subst hj
    exact lv_idiv hx hb hd hc (kk (c1 rfl (t1 (t1 h1))) H locs ls hL hP hS)
  · -- irem
    obtain rfl := List.mem_singleton.mp hz
    dsimp only at hj kk
    subst hj
    exact lv_irem hx hb hd hc (kk (c1 rfl (t1 (t1 h1))) H locs ls hL hP hS)
  · -- ineg
    obtain rfl := List.mem_singleton.mp hz
    dsimp only at hj kk
    subst hj
    exact lv_ineg hx hb hd (kk (c1 rfl (t1 h1)) H locs ls hL hP hS)
  · -- iand
    obtain rfl := List.mem_singleton.mp hz
    dsimp only at hj kk
    subst hj
    exact lv_iand hx hb hd (kk (c1 rfl (t1 (t1 h1))) H locs ls hL hP hS)
  · -- ior
    obtain rfl := List.mem_singleton.mp hz
    dsimp only at hj kk
    subst hj
    exact lv_ior hx hb hd (kk (c1 rfl (t1 (t1 h1))) H locs ls hL hP hS)
  · -- ixor
    obtain rfl := List.mem_singleton.mp hz
    dsimp only at hj kk
    subst hj
    exact lv_ixor hx hb hd (kk (c1 rfl (t1 (t1 h1))) H locs ls hL hP hS)
  · -- ishl
    obtain rfl := List.mem_singleton.mp hz
    dsimp only at hj kk
    subst hj
    exact lv_ishl hx hb hd (kk (c1 rfl (t1 (t1 h1))) H locs ls hL hP hS)
  · -- ishr
    obtain rfl := List.mem_singleton.mp hz
    dsimp only at hj kk
    subst hj
    exact lv_ishr hx hb hd (kk (c1 rfl (t1 (t1 h1))) H locs ls hL hP hS)
  · -- iushr
    obtain rfl := List.mem_singleton.mp hz
    dsimp only at hj kk
    subst hj
    exact lv_iushr hx hb hd rfl (kk (c1 rfl (t1 (t1 h1))) H locs ls hL hP hS)
  · -- i2b
    obtain rfl := List.mem_singleton.mp hz
    dsimp only at hj kk
    subst hj
    exact lv_i2b hx hb hd rfl (kk (c1 rfl (t1 h1)) H locs ls hL hP hS)
  · -- i2c
    obtain rfl := List.mem_singleton.mp hz
    dsimp only at hj kk
    subst hj
    exact lv_i2c hx hb hd rfl (kk (c1 rfl (t1 h1)) H locs ls hL hP hS)
  · -- dup int
    obtain rfl := List.mem_singleton.mp hz
    dsimp only at hj kk
    subst hj
    exact lv_dup hx hb hd rfl (kk (c1 rfl (c1 rfl (t1 h1))) H locs ls hL hP hS)
  · -- dup ref
    obtain rfl := List.mem_singleton.mp hz
    dsimp only at hj kk
    subst hj
    exact lv_dup hx hb hd rfl (kk (c1 rfl (c1 rfl (t1 h1))) H locs ls hL hP hS)
  · -- dup2
    obtain rfl := List.mem_singleton.mp hz
    dsimp only at hj kk
    subst hj
    exact lv_dup2_11 hx hb hd rfl rfl (kk (c1 rfl (c1 rfl h1)) H locs ls hL hP hS)
  · -- pop
    obtain rfl := List.mem_singleton.mp hz
    dsimp only at hj kk
    subst hj
    exact lv_pop hx hb hd rfl (kk (t1 h1) H locs ls hL hP hS)
  · -- goto
    split at hz
    · rename_i t ht
      obtain rfl := List.mem_singleton.mp hz
      dsimp only at hj kk
      subst hj
      exact lv_goto hx hb hd (am_tg_eq ht) (kk h1 H locs ls hL hP hS)
    · cases hz
  · -- if_icmp
    rename_i op off y x st0
    split at hz
    · rename_i t ht
      dsimp only at hj
      subst hj
      rcases List.mem_cons.mp hz with rfl | hz
      · dsimp only at kk
        have k0 := kk (t1 (t1 h1)) H locs ls hL hP hS
        cases op with
        | eq => exact lv_icmp_eq hx hb hd (am_tg_eq ht) (fun _ => k0) (fun h => absurd hc h)
        | ne => exact lv_icmp_ne hx hb hd (am_tg_eq ht) (fun _ => k0) (fun h => absurd h hc)
        | lt => exact lv_icmp_lt hx hb hd (am_tg_eq ht) (fun _ => k0) (fun h => absurd hc h)
        | ge => exact lv_icmp_ge hx hb hd (am_tg_eq ht) (fun _ => k0) (fun h => absurd hc h)
        | gt => exact lv_icmp_gt hx hb hd (am_tg_eq ht) (fun _ => k0) (fun h => absurd hc h)
        | le => exact lv_icmp_le hx hb hd (am_tg_eq ht) (fun _ => k0) (fun h => absurd hc h)
      · obtain rfl := List.mem_singleton.mp hz
        dsimp only at kk
        have k0 := kk (t1 (t1 h1)) H locs ls hL hP hS
        cases op with
        | eq => exact lv_icmp_eq hx hb hd (am_tg_eq ht) (fun h => absurd h hc) (fun _ => k0)
        | ne => exact lv_icmp_ne hx hb hd (am_tg_eq ht) (fun h => absurd h hc) (fun _ => k0)
        | lt => exact lv_icmp_lt hx hb hd (am_tg_eq ht) (fun h => absurd h hc) (fun _ => k0)
        | ge => exact lv_icmp_ge hx hb hd (am_tg_eq ht) (fun h => absurd h hc) (fun _ => k0)
        | gt => exact lv_icmp_gt hx hb hd (am_tg_eq ht) (fun h => absurd h hc) (fun _ => k0)
        | le => exact lv_icmp_le hx hb hd (am_tg_eq ht) (fun h => absurd h hc) (fun _ => k0)
    · cases hz
  · -- ifCond
    rename_i op off x st0
    split at hz
    · rename_i t ht
      dsimp only at hj
      subst hj
      rcases List.mem_cons.mp hz with rfl | hz
      · dsimp only at kk
        have k0 := kk (t1 h1) H locs ls hL hP hS
        cases op with
        | eq => exact lv_if_eq hx hb hd (am_tg_eq ht) (fun _ => k0) (fun h => absurd hc h)
        | ne => exact lv_if_ne hx hb hd (am_tg_eq ht) (fun _ => k0) (fun h => absurd h hc)
        | lt => exact lv_if_lt hx hb hd (am_tg_eq ht) (fun _ => k0) (fun h => absurd hc h)
        | ge => exact lv_if_ge hx hb hd (am_tg_eq ht) (fun _ => k0) (fun h => absurd hc h)
        | gt => exact lv_if_gt hx hb hd (am_tg_eq ht) (fun _ => k0) (fun h => absurd hc h)
        | le => exact lv_if_le hx hb hd (am_tg_eq ht) (fun _ => k0) (fun h => absurd hc h)
      · obtain rfl := List.mem_singleton.mp hz
        dsimp only at kk
        have k0 := kk (t1 h1) H locs ls hL hP hS
        cases op with
        | eq => exact lv_if_eq hx hb hd (am_tg_eq ht) (fun h => absurd h hc) (fun _ => k0)
        | ne => exact lv_if_ne hx hb hd (am_tg_eq ht) (fun h => absurd h hc) (fun _ => k0)
        | lt => exact lv_if_lt hx hb hd (am_tg_eq ht) (fun h => absurd h hc) (fun _ => k0)
        | ge => exact lv_if_ge hx hb hd (am_tg_eq ht) (fun h => absurd h hc) (fun _ => k0)
        | gt => exact lv_if_gt hx hb hd (am_tg_eq ht) (fun h => absurd h hc) (fun _ => k0)
        | le => exact lv_if_le hx hb hd (am_tg_eq ht) (fun h => absurd h hc) (fun _ => k0)
    · cases hz
  · -- getfield
    rename_i k a st0
    split at hz
    · rename_i ci jj hcp
      obtain ⟨hs, hq⟩ := hpl hcp
      split at hz
      · rename_i c2 fs hsh
        cases hbq : Nat.beq ci c2 with
        | false => rw [hbq] at hz; cases hz
        | true =>
          rw [hbq] at hz
          have e2 := Nat.eq_of_beq_eq_true hbq
          subst e2
          obtain ⟨C, T, N, hcl9, hN, hlk2, hq2⟩ := am_cb0 hq
          have hlk2 := hts _ hlk2
          have hin := (am_cls hcl9).1
          change z ∈ (match fs[jj]? with
            | some (some r) => [(none, pc + 3, L, Value.ref r :: st0, M)]
            | some none => [(none, pc + 3, L, Value.int (M a jj) :: st0, M)]
            | none => []) at hz
          split at hz
          · rename_i r hf
            obtain rfl := List.mem_singleton.mp hz
            dsimp only at hj kk
            subst hj
            exact va_get hx hb hts hin hown hK hP a (am_wd_get hsh) hcl9 jj hN hlk2 (fun _ h => h) (am_fs_get hf) hd (kk (c1 rfl (t1 h1)) H locs ls hL hP hS)
          · rename_i hf
            obtain rfl := List.mem_singleton.mp hz
            dsimp only at hj kk
            subst hj
            exact va_get hx hb hts hin hown hK hP a (am_wd_get hsh) hcl9 jj hN hlk2 (fun _ h => h) (am_fs_get hf) hd (kk (c1 rfl (t1 h1)) H locs ls hL hP hS)
          · cases hz
      · cases hz
    · rename_i ci jj hcp
      obtain ⟨hs, hq⟩ := hpl hcp
      split at hz
      · rename_i c2 fs hsh
        cases hbq : Nat.beq ci c2 with
        | false => rw [hbq] at hz; cases hz
        | true =>
          rw [hbq] at hz
          have e2 := Nat.eq_of_beq_eq_true hbq
          subst e2
          obtain ⟨C, T, N, hcl9, hN, hlk2, hq2⟩ := am_cb9 hq
          have hlk2 := hts _ hlk2
          have hin := (am_cls hcl9).1
          change z ∈ (match fs[jj]? with
            | some none => [(none, pc + 3, L, Value.int (M a jj) :: st0, M)]
            | _ => []) at hz
          split at hz
          · rename_i hf
            obtain rfl := List.mem_singleton.mp hz
            dsimp only at hj kk
            subst hj
            exact va_get hx hb hts hin hown hK hP a (am_wd_get hsh) hcl9 jj hN hlk2 (fun _ h => h) (am_fs_get hf) hd (kk (c1 rfl (t1 h1)) H locs ls hL hP hS)
          · cases hz
      · cases hz
    · rename_i hcp
      obtain ⟨hs, hq⟩ := hpl hcp
      obtain rfl := List.mem_singleton.mp hz
      dsimp only at hj kk
      subst hj
      obtain ⟨n, hn, rfl⟩ := am_k1 a hc
      have k0 := kk (c1 rfl (t1 h1)) H locs ls hL hP hS
      rw [am_k2 n] at k0
      exact vk_getf hx hb (hsta.1.1 n hn).2.2.1 hS hown (hts _ (am_cb7 hq)) (fun _ h => h) hd k0
    · rename_i hcp
      obtain ⟨hs, hq⟩ := hpl hcp
      obtain rfl := List.mem_singleton.mp hz
      dsimp only at hj kk
      subst hj
      obtain ⟨n, hn, rfl⟩ := am_k1 a hc
      exact vk_getf hx hb (hsta.1.1 n hn).2.1 hS hown (hts _ (am_cb8 hq)) (fun _ h => h) hd (kk (c1 rfl (t1 h1)) H locs ls hL hP hS)
    · cases hz
  · -- putfield
    rename_i k v a st0
    split at hz
    · rename_i ci jj hcp
      obtain ⟨hs, hq⟩ := hpl hcp
      split at hz
      · rename_i c2 fs hsh
        cases hbq : Nat.beq ci c2 with
        | false => rw [hbq] at hz; cases hz
        | true =>
          rw [hbq] at hz
          have e2 := Nat.eq_of_beq_eq_true hbq
          subst e2
          obtain ⟨C, T, N, hcl9, hN, hlk2, hq2⟩ := am_cb0 hq
          have hlk2 := hts _ hlk2
          obtain ⟨hin, ⟨ty0, hty0⟩, hnm⟩ := am_cls hcl9
          change z ∈ (match fs[jj]? with
            | some none => [(none, pc + 3, L, st0, am_up M a jj v)]
            | _ => []) at hz
          split at hz
          · rename_i hf
            obtain rfl := List.mem_singleton.mp hz
            dsimp only at hj kk
            subst hj
            obtain ⟨hf1, hf2⟩ := am_pbk hmem hat hcp hcl9
            exact va_put hx hb hts hin ty0 hty0 hnm hown hK hP hD hS a (am_wd_get hsh) hcl9 jj hN hlk2 (fun _ h => h) hf1 (by rw [hf2]; rfl) rfl rfl (by rw [am_fs_len]; exact (List.getElem?_eq_some_iff.mp hf).1) hd (fun H1 locs1 hP1 hD1 hS1 => kk (t1 (t1 h1)) H1 locs1 ls hL (by rw [← am_wd_fld hsh hf]; exact hP1) hS1)
          · cases hz
      · cases hz
    · rename_i ci jj hcp
      obtain ⟨hs, hq⟩ := hpl hcp
      split at hz
      · rename_i c2 fs hsh
        cases hbq : Nat.beq ci c2 with
        | false => rw [hbq] at hz; cases hz
        | true =>
          rw [hbq] at hz
          have e2 := Nat.eq_of_beq_eq_true hbq
          subst e2
          obtain ⟨C, T, N, hcl9, hN, hlk2, hq2⟩ := am_cb9 hq
          have hlk2 := hts _ hlk2
          obtain ⟨hin, ⟨ty0, hty0⟩, hnm⟩ := am_cls hcl9
          change z ∈ (match fs[jj]? with
            | some none => [(some (am_z v), pc + 3, L, st0, am_up M a jj v)]
            | _ => []) at hz
          split at hz
          · rename_i hf
            obtain rfl := List.mem_singleton.mp hz
            dsimp only at hj kk
            subst hj
            have hv : narrow .boolean (.int v) = .int v ∧ fits .boolean (.int v) = true := by
              rcases (show v = 0 ∨ v = 1 from hc) with rfl | rfl
              · exact ⟨rfl, rfl⟩
              · exact ⟨rfl, rfl⟩
            exact va_put hx hb hts hin ty0 hty0 hnm hown hK hP hD hS a (am_wd_get hsh) hcl9 jj hN hlk2 (fun _ h => h) hq2.1 (by rw [hq2.2]; rfl) hv.1 hv.2 (by rw [am_fs_len]; exact (List.getElem?_eq_some_iff.mp hf).1) hd (fun H1 locs1 hP1 hD1 hS1 => kk (t1 (t1 h1)) H1 locs1 ls hL (by rw [← am_wd_fld hsh hf]; exact hP1) hS1)
          · cases hz
      · cases hz
    · cases hz
  · -- getstatic
    rename_i k
    split at hz
    · rename_i n b0 hcp
      obtain ⟨hs, hq⟩ := hpl hcp
      obtain ⟨hn, hw⟩ := am_cb2 hq
      obtain rfl := List.mem_singleton.mp hz
      dsimp only at hj kk
      subst hj
      have hw := hts _ hw
      obtain ⟨hs1, ⟨hs2, hs3⟩, ⟨hs4, hs5⟩, hs6, hs7, hs8, hs9⟩ := hsta
      match n, hn, hw, kk with
      | 0, _, hw, kk => exact va_gets hx hb hs2 hS hown hw (fun _ h => h) hd (kk (c1 rfl h1) H locs ls hL hP hS)
      | 1, _, hw, kk => exact va_gets hx hb hs4 hS hown hw (fun _ h => h) hd (kk (c1 rfl h1) H locs ls hL hP hS)
      | 2, _, hw, kk => exact va_gets hx hb hs6 hS hown hw (fun _ h => h) hd (kk (c1 rfl h1) H locs ls hL hP hS)
      | 3, _, hw, kk => exact va_gets hx hb hs7 hS hown hw (fun _ h => h) hd (kk (c1 (by rcases hzz with rfl | rfl <;> rfl) h1) H locs ls hL hP hS)
    · cases hz
  · -- ldc
    rename_i k
    split at hz
    · rename_i n b0 hcp
      obtain ⟨hs, hq⟩ := hpl hcp
      obtain ⟨hn, hw⟩ := am_cb1 hq
      obtain rfl := List.mem_singleton.mp hz
      dsimp only at hj kk
      subst hj
      exact va_ldcS hx hb hown (htbw.1 _ hw) hd (kk (c1 rfl h1) H locs ls hL hP hS)
    · cases hz
  · -- arraylength
    rename_i a st0
    split at hz
    · rename_i t n hsh
      obtain rfl := List.mem_singleton.mp hz
      dsimp only at hj kk
      subst hj
      have k0 := kk (c1 rfl (t1 h1)) H locs ls hL hP hS
      obtain ⟨t0, ty, ht0⟩ := am_tyk cy (hsk a t n hsh)
      exact va_alen hx hb hK hP a t0 (am_wd_get hsh) ht0 rfl hd k0
    · split at hz
      · rename_i ty l9 hsa
        obtain rfl := List.mem_singleton.mp hz
        dsimp only at hj kk
        subst hj
        have k0 := kk (c1 rfl (t1 h1)) H locs ls hL hP hS
        obtain ⟨ft, f, hT⟩ := am_saT hsta hsa
        exact va_tlen hx hb hT hS rfl hd k0
      · cases hz
  · -- iaload
    rename_i i9 a st0
    split at hz
    · rename_i n hsh
      obtain rfl := List.mem_singleton.mp hz
      dsimp only at hj kk
      subst hj
      exact va_iald hx hb hK hP a 0 (am_wd_get hsh) rfl (am_vpin hc) hd (kk (c1 rfl (t1 (t1 h1))) H locs ls hL hP hS)
    · split at hz
      · rename_i l9 hsa
        obtain rfl := List.mem_singleton.mp hz
        dsimp only at hj kk
        subst hj
        exact va_ti hx hb (am_saI hsta hsa) hS (am_vpin hc) rfl hd (kk (c1 rfl (t1 (t1 h1))) H locs ls hL hP hS)
      · cases hz
  · -- baload
    rename_i i9 a st0
    split at hz
    · rename_i n hsh
      obtain rfl := List.mem_singleton.mp hz
      dsimp only at hj kk
      subst hj
      exact va_bald hx hb hK hP a 1 (am_wd_get hsh) rfl (am_vpin hc) hd (kk (c1 rfl (t1 (t1 h1))) H locs ls hL hP hS)
    · rename_i n hsh
      obtain rfl := List.mem_singleton.mp hz
      dsimp only at hj kk
      subst hj
      exact va_zald hx hb hK hP a 2 (am_wd_get hsh) rfl (am_vpin hc) hd (kk (c1 rfl (t1 (t1 h1))) H locs ls hL hP hS)
    · split at hz
      · rename_i l9 hsa
        obtain rfl := List.mem_singleton.mp hz
        dsimp only at hj kk
        subst hj
        exact va_tb hx hb (am_saB hsta hsa) hS (am_vpin hc) rfl hd (kk (c1 rfl (t1 (t1 h1))) H locs ls hL hP hS)
      · cases hz
  · -- iastore
    rename_i v i9 a st0
    split at hz
    · rename_i n hsh
      obtain rfl := List.mem_singleton.mp hz
      dsimp only at hj kk
      subst hj
      exact va_iast hx hb hK hP hD hS a 0 (am_wd_get hsh) rfl (am_vpin hc) hd (fun H1 locs1 hP1 hD1 hS1 => kk (t1 (t1 (t1 h1))) H1 locs1 ls hL (by rw [← am_wd_arr hsh]; exact hP1) hS1)
    · cases hz
  · -- bastore
    rename_i v i9 a st0
    split at hz
    · rename_i n hsh
      obtain rfl := List.mem_singleton.mp hz
      dsimp only at hj kk
      subst hj
      have hv : vp_nar .byte v = v := by rw [vp_nar_byte]; exact hc.2
      exact va_bast hx hb hK hP hD hS a 1 (am_wd_get hsh) rfl (am_vpin hc.1) hd (fun H1 locs1 hP1 hD1 hS1 => kk (t1 (t1 (t1 h1))) H1 locs1 ls hL (by rw [← am_wd_arr hsh, ← hv]; rw [hv] at hP1 ⊢; exact hP1) hS1)
    · rename_i n hsh
      obtain rfl := List.mem_singleton.mp hz
      dsimp only at hj kk
      subst hj
      have hv : vp_nar .boolean v = v := by
        rcases (show v = 0 ∨ v = 1 from hc.2) with rfl | rfl <;> rfl
      exact va_zast hx hb hK hP hD hS a 2 (am_wd_get hsh) rfl (am_vpin hc.1) hd (fun H1 locs1 hP1 hD1 hS1 => kk (t1 (t1 (t1 h1))) H1 locs1 ls hL (by rw [← am_wd_arr hsh]; rw [hv] at hP1; exact hP1) hS1)
    · cases hz
  · -- aaload
    rename_i i9 a st0
    split at hz
    · rename_i rs hsh
      obtain rfl := List.mem_singleton.mp hz
      dsimp only at hj kk
      subst hj
      exact va_aldq hx hb hK hP a 3 (am_wd_get hsh) rfl (am_vpin hc) hd (kk (c1 rfl (t1 (t1 h1))) H locs ls hL hP hS)
    · cases hz
  · -- tableswitch
    rename_i dflt lo hi offs x st0
    split at hz
    · rename_i t ht
      dsimp only at hj
      subst hj
      rcases List.mem_cons.mp hz with rfl | hz
      · exact lv_tableOut hx hb hd hc (am_tg_eq ht) (kk (t1 h1) H locs ls hL hP hS)
      · obtain ⟨i9, o, t9, h3, h4, rfl⟩ := am_sw_in _ _ _ hz
        have hc9 : x.toInt = lo + ((0 + i9 : Nat) : Int) := hc
        have hhi : ¬ hi < x.toInt := hsw _ _ _ _ _ _ hat i9 o h3 x hc9
        exact lv_tableIn hx hb hd (by omega) hhi (by rw [show (x.toInt - lo).toNat = i9 by omega, ← Array.getElem?_toList]; exact h3) (am_tg_eq h4) (kk (t1 h1) H locs ls hL hP hS)
    · cases hz
  · -- lookupswitch
    rename_i dflt ps x st0
    split at hz
    · rename_i t ht
      dsimp only at hj
      subst hj
      obtain ⟨hp1, hp2⟩ := hlk9 _ _ _ _ hat
      rcases List.mem_cons.mp hz with rfl | hz
      · exact lv_lookup hx hb hd hp1 (am_lko_no _ _ _ hc) (am_tg_eq ht) (kk (t1 h1) H locs ls hL hP hS)
      · obtain ⟨q9, h3, t9, h4, rfl⟩ := am_lk_in _ _ hz
        exact lv_lookup hx hb hd hp1 (am_lko_yes _ _ _ hp2 q9 h3 hc) (am_tg_eq h4) (kk (t1 h1) H locs ls hL hP hS)
    · cases hz
  · -- arraycopy, Math.max, Math.min
    rename_i k
    split at hz
    · rename_i a0 b0 hcp
      obtain ⟨hs, hq⟩ := hpl hcp
      obtain ⟨w1, w2, w3, w4⟩ := am_cb6 hq
      split at hz
      · rename_i n dp b sp a st0
        split at hz
        · rename_i na nb hsa hsb
          cases hbl : Nat.ble st0.length 8 with
          | false => rw [hbl] at hz; cases hz
          | true =>
            rw [hbl] at hz
            obtain rfl := List.mem_singleton.mp hz
            dsimp only at hj kk
            subst hj
            have hle : st0.length ≤ 8 := Nat.le_of_ble_eq_true hbl
            obtain ⟨⟨g1, g2, g3⟩, g4, g5⟩ := hc
            have h1' : am_s1 st0 := t1 (t1 (t1 (t1 (t1 h1))))
            have hrm := am_room6 hcp hib
            exact va_copyi hx hb (by rw [hml, hL.1]) hown (hts _ w1) (hts _ w2) (hts _ w3) (hts _ w4) hK hP hD hS a b 0 0 (am_wd_get hsa) (am_wd_get hsb) rfl rfl rfl (am_nn g1) (am_nn g2) (am_nn g3) g4 g5 (fun _ _ => rfl) (by rw [hfr]; exact hrm.1) (by rw [am_cat st0 h1', hlc]; have := hrm.2; show st0.length + (5 + 2 + 11) ≤ _; omega) hd (fun H1 locs1 hP1 hD1 hS1 => kk h1' H1 locs1 ls hL (by rw [← am_wd_arrA hsb]; exact hP1) hS1)
        · cases hz
      · cases hz
    · rename_i a0 b0 hcp
      obtain ⟨hs, hq⟩ := hpl hcp
      obtain ⟨w1, w2, w3, w4⟩ := am_cb11 hq
      split at hz
      · rename_i y x st0
        cases hbl : Nat.ble st0.length 8 with
        | false => rw [hbl] at hz; cases hz
        | true =>
          rw [hbl] at hz
          obtain rfl := List.mem_singleton.mp hz
          dsimp only at hj kk
          subst hj
          have hle : st0.length ≤ 8 := Nat.le_of_ble_eq_true hbl
          have h1' : am_s1 st0 := t1 (t1 h1)
          have hrm := am_room11 hcp hib
          exact va_mmax hx hb (by rw [hml, hL.1]) hown (hts _ w1) (hts _ w2) (hts _ w3) (hts _ w4) (by rw [hfr]; exact hrm.1) (by rw [am_cat st0 h1', hlc]; have := hrm.2; omega) hcl hsl hd (kk (c1 rfl h1') H locs ls hL hP hS)
      · cases hz
    · rename_i a0 b0 hcp
      obtain ⟨hs, hq⟩ := hpl hcp
      obtain ⟨w1, w2, w3, w4⟩ := am_cb12 hq
      split at hz
      · rename_i y x st0
        cases hbl : Nat.ble st0.length 8 with
        | false => rw [hbl] at hz; cases hz
        | true =>
          rw [hbl] at hz
          obtain rfl := List.mem_singleton.mp hz
          dsimp only at hj kk
          subst hj
          have hle : st0.length ≤ 8 := Nat.le_of_ble_eq_true hbl
          have h1' : am_s1 st0 := t1 (t1 h1)
          have hrm := am_room12 hcp hib
          exact va_mmin hx hb (by rw [hml, hL.1]) hown (hts _ w1) (hts _ w2) (hts _ w3) (hts _ w4) (by rw [hfr]; exact hrm.1) (by rw [am_cat st0 h1', hlc]; have := hrm.2; omega) hcl hsl hd (kk (c1 rfl h1') H locs ls hL hP hS)
      · cases hz
    · rename_i a0 b0 hcp
      obtain ⟨hs, hq⟩ := hpl hcp
      obtain ⟨w1, w2, w3, w4⟩ := am_cb13 hq
      split at hz
      · rename_i x st0
        cases hbl : Nat.ble st0.length 8 with
        | false => rw [hbl] at hz; cases hz
        | true =>
          rw [hbl] at hz
          obtain rfl := List.mem_singleton.mp hz
          dsimp only at hj kk
          subst hj
          have hle : st0.length ≤ 8 := Nat.le_of_ble_eq_true hbl
          have h1' : am_s1 st0 := t1 h1
          have hrm := am_room13 hcp hib
          exact va_mabs hx hb (by rw [hml, hL.1]) hown (hts _ w1) (hts _ w2) (hts _ w3) (hts _ w4) (by rw [hfr]; exact hrm.1) (by rw [am_cat st0 h1', hlc]; have := hrm.2; omega) hcl hsl hd (kk (c1 rfl h1') H locs ls hL hP hS)
      · cases hz
    · cases hz
  · cases hz
end AMS
