/-! THE WORLDS AT THE START -/
def km_lk : List (Nat × Nat × Int32) → Nat → Nat → Int32
  | [], _, _ => 0
  | e :: t, k, j => bif Nat.beq e.1 k && Nat.beq e.2.1 j then e.2.2 else km_lk t k j
/-- a memory: ints of objects by a list, all else 0 -/
def km_M (sh : List am_Sc) (l : List (Nat × Nat × Int32)) : am_M := fun k j => match sh[k]? with
  | some (.inr (.inl _)) => km_lk l k j
  | _ => 0
def km_fs (m : Nat → Int32) : Nat → List (Option Nat) → List Value
  | _, [] => []
  | j, some r :: t => .ref r :: km_fs m (j + 1) t
  | j, none :: t => .int (m j) :: km_fs m (j + 1) t
def km_c1 (M : am_M) (k : Nat) (c : am_Sc) : km_C := match c with
  | .inl (t, n) => .inl (t, n)
  | .inr (.inl (ci, fs)) => .inr (.inl (ci, km_fs (M k) 0 fs))
  | .inr (.inr rs) => .inr (.inr (rs.map some))
def km_ofA (M : am_M) : Nat → List am_Sc → List km_C
  | _, [] => []
  | k, c :: r => km_c1 M k c :: km_ofA M (k + 1) r
def km_of (sh : List am_Sc) (M : am_M) : List km_C := km_ofA M 0 sh
theorem km_ofA_at (M : am_M) : ∀ (sh : List am_Sc) (k j : Nat), (km_ofA M k sh)[j]? = (sh[j]?).map (fun c => km_c1 M (k + j) c) := by
  intro sh
  induction sh with
  | nil => intro k j; rfl
  | cons c t ih =>
    intro k j
    cases j with
    | zero => rfl
    | succ j =>
      show (km_ofA M (k + 1) t)[j]? = _
      rw [ih (k + 1) j, List.getElem?_cons_succ, show k + 1 + j = k + (j + 1) by omega]
theorem km_of_len (M : am_M) : ∀ (sh : List am_Sc) (k : Nat), (km_ofA M k sh).length = sh.length := by
  intro sh
  induction sh with
  | nil => intro k; rfl
  | cons c t ih => intro k; show (km_ofA M (k + 1) t).length + 1 = t.length + 1; rw [ih]
/-- every reference of the shape is a small number -/
def km_rb (c : am_Sc) : Bool := match c with
  | .inl _ => true
  | .inr (.inl (_, fs)) => fs.all (fun o => match o with
    | some r => Nat.blt r 200
    | none => true)
  | .inr (.inr rs) => rs.all (fun r => Nat.blt r 200)
theorem km_fs_tv {ad : Nat → Nat} {b : Nat} (had : ∀ i, i < 200 → ad i = b + i) (m : Nat → Int32) : ∀ (fs : List (Option Nat)) (j : Nat), fs.all (fun o => match o with
    | some r => Nat.blt r 200
    | none => true) = true → (km_fs m j fs).map (am_tv (km_ad b)) = am_fs ad m j fs := by
  intro fs
  induction fs with
  | nil => intro j _; rfl
  | cons o t ih =>
    intro j h
    simp only [List.all_cons, Bool.and_eq_true] at h
    cases o with
    | none => show Value.int (m j) :: (km_fs m (j + 1) t).map _ = Value.int (m j) :: am_fs ad m (j + 1) t; rw [ih (j + 1) h.2]
    | some r =>
      have hr : r < 200 := Nat.le_of_ble_eq_true h.1
      show Value.ref (b + r) :: (km_fs m (j + 1) t).map _ = Value.ref (ad r) :: am_fs ad m (j + 1) t
      rw [ih (j + 1) h.2, had r hr]
theorem km_arr {cA : ClassId} {n : Nat} {f g : Nat → Option Nat} (h : ∀ j, j < n → f j = g j) : vp_cell cA (n, .inr (.inr (.inr (.inr f)))) = vp_cell cA (n, .inr (.inr (.inr (.inr g)))) := by
  show arrV cA n (fun j => va_rf (f j)) = arrV cA n (fun j => va_rf (g j))
  unfold arrV
  congr 2
  funext j
  show va_rf (f j.val) = va_rf (g j.val)
  rw [h j.val j.isLt]
theorem km_of_P {ad : Nat → Nat} {b : Nat} {cy : Nat → ClassId} {D : va_G} {cl : List vw_C} {H : Heap} {M : am_M} {sh : List am_Sc} (had : ∀ i, i < 200 → ad i = b + i) (hl : sh.length ≤ 200) (ha : sh.all km_rb = true) (hz : ∀ j t n, sh[j]? = some (.inl (t, n)) → M j = fun _ => 0) (hP : va_P D cl (km_wd b cy (km_of sh M)) H) : va_P D cl (am_wd ad cy sh M) H := by
  intro k q hq
  rw [am_wd_at] at hq
  cases hc : sh[k]? with
  | none => rw [hc] at hq; cases hq
  | some c =>
    rw [hc] at hq
    cases hq
    have hk : k < sh.length := (List.getElem?_eq_some_iff.mp hc).1
    have h1 : (km_of sh M)[k]? = some (km_c1 M k c) := by
      rw [km_of, km_ofA_at, hc, Nat.zero_add]; rfl
    have h2 := hP k _ (km_wd_get h1)
    have hcb : km_rb c = true := List.all_eq_true.mp ha c (List.mem_of_getElem? hc)
    rw [← had k (by omega)] at h2
    match c, hc, h2, hcb with
    | .inl (t, n), hc, h2, hcb =>
      show H[ad k]? = some (vp_cell (cy t) (n, .inl (M k)))
      rw [hz k t n hc]
      exact h2
    | .inr (.inl (ci, fs)), hc, h2, hcb =>
      show va_at D cl (ad k, .inr (ci, am_fs ad (M k) 0 fs)) H
      rw [← km_fs_tv had (M k) fs 0 hcb]
      exact h2
    | .inr (.inr rs), hc, h2, hcb =>
      have h3 : H[ad k]? = some (vp_cell (cy 3) ((rs.map some).length, .inr (.inr (.inr (.inr (fun j => ((rs.map some).getD j none).map (km_ad b))))))) := h2
      rw [List.length_map] at h3
      show H[ad k]? = some (vp_cell (cy 3) (rs.length, .inr (.inr (.inr (.inr (fun j => some (ad (rs.getD j 0))))))))
      rw [h3]
      refine congrArg some (km_arr fun j hj => ?_)
      have hr : rs[j] < 200 := Nat.le_of_ble_eq_true (List.all_eq_true.mp hcb _ (List.getElem_mem hj))
      rw [List.getD_eq_getElem?_getD, List.getD_eq_getElem?_getD, List.getElem?_map, List.getElem?_eq_getElem hj]
      show some (b + rs[j]) = some (ad rs[j])
      rw [had _ hr]
theorem km_Mz {sh : List am_Sc} {l : List (Nat × Nat × Int32)} : ∀ j t n, sh[j]? = some (.inl (t, n)) → km_M sh l j = fun _ => 0 := by
  intro j t n h
  funext i
  unfold km_M
  rw [h]
def km_deC : (a b : km_C) → Decidable (a = b)
  | .inl a, .inl b => decidable_of_iff (a = b) ⟨fun h => by rw [h], fun h => Sum.inl.inj h⟩
  | .inr (.inl a), .inr (.inl b) => decidable_of_iff (a = b) ⟨fun h => by rw [h], fun h => Sum.inl.inj (Sum.inr.inj h)⟩
  | .inr (.inr a), .inr (.inr b) => decidable_of_iff (a = b) ⟨fun h => by rw [h], fun h => Sum.inr.inj (Sum.inr.inj h)⟩
  | .inl _, .inr _ => isFalse (fun h => by cases h)
  | .inr _, .inl _ => isFalse (fun h => by cases h)
  | .inr (.inl _), .inr (.inr _) => isFalse (fun h => by cases h)
  | .inr (.inr _), .inr (.inl _) => isFalse (fun h => by cases h)
def km_deR : (a b : Option (am_Ls × List Value × List km_C)) → Decidable (a = b) :=
  letI : DecidableEq km_C := km_deC
  inferInstance
def M0c : am_M := km_M cs_sh [(0, 2, (-1)), (2, 2, 20), (3, 1, 5), (3, 2, 5), (5, 1, 3), (5, 2, 4), (7, 1, 2), (7, 2, 4), (9, 1, 3), (9, 2, 8), (11, 1, 2), (11, 2, 8), (16, 1, 4), (16, 2, 9), (18, 3, (-1)), (19, 2, 20), (20, 1, 5), (20, 2, 5), (22, 1, 3), (22, 2, 4), (24, 1, 2), (24, 2, 4), (26, 1, 3), (26, 2, 8), (28, 1, 2), (28, 2, 8), (33, 1, 4), (33, 2, 9), (39, 1, 4), (39, 2, 9), (44, 1, 4), (44, 2, 9), (49, 1, 4), (49, 2, 9)]
def M0m : am_M := km_M ms_sh [(0, 8, -1)]
def km_w9 : List km_C := [.inr (.inl (9, (km_def 9).getD []))]
def km_w10 : List km_C := [.inr (.inl (10, (km_def 10).getD []))]
set_option maxRecDepth 100000 in
theorem km_run9 : km_run 3000 ke_X9_init (0, km_l0 ke_X9_init [.ref 0], [], km_w9) = some ([some (.ref 0), some (.int 3)], [], km_of cs_sh M0c) := @of_decide_eq_true _ (km_deR _ _) (by decide +kernel)
set_option maxRecDepth 100000 in
theorem km_run10 : km_run 3000 ke_X10_init (0, km_l0 ke_X10_init [.ref 0], [], km_w10) = some ([some (.ref 0)], [], km_of ms_sh M0m) := @of_decide_eq_true _ (km_deR _ _) (by decide +kernel)
set_option maxRecDepth 100000 in
theorem km_shc : cs_sh.length = 69 ∧ cs_sh.all km_rb = true ∧ km_sl (km_of cs_sh M0c) - km_sl km_w9 ≤ 10000 := by decide +kernel
set_option maxRecDepth 100000 in
theorem km_shm : ms_sh.length = 29 ∧ ms_sh.all km_rb = true ∧ km_sl (km_of ms_sh M0m) - km_sl km_w10 ≤ 10000 := by decide +kernel
