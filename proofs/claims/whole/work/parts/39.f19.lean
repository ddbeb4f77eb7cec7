def f_X10_building_156 (N : Nat) (k64 : Int32 → Int32 → Int32 → am_M → Option (Except Nat (Option Value) × am_M)) (v1 : Int32) (v2 : Int32) (v3 : Int32) (v4 : Int32) (v5 : Int32) (v6 : Int32) (v7 : Int32) (v8 : Int32) (M : am_M) : Option (Except Nat (Option Value) × am_M) :=
  am_bv (f_X10_stands N v7 1 M) fun M160 =>
    am_bv (f_X10_findField N v1 0 (M160 0 41) 0 M160) fun M171 =>
      am_bv (f_X10_stands N v7 0 M171) fun M178 =>
        if v2 ≤ (M178 0 51) then
          k64 v7 v8 (v7 + 1) M178
        else
          k64 v5 v6 (v7 + 1) M178
set_option maxRecDepth 100000 in
theorem t_X10_building_156 (z : Value) (N : Nat) (k64 : Int32 → Int32 → Int32 → am_M → Option (Except Nat (Option Value) × am_M)) {r : Except Nat (Option Value)} {M' : am_M} (v1 : Int32) (v2 : Int32) (v3 : Int32) (v4 : Int32) (v5 : Int32) (v6 : Int32) (v7 : Int32) (v8 : Int32) (d9 : Option Value) (M : am_M) (hk64 : ∀ (v5 : Int32) (v6 : Int32) (v7 : Int32) (d8 : Option Value) (d9 : Option Value) (M : am_M), k64 v5 v6 v7 M = some (r, M') → mR z me_X10_building (64, [some (.ref 0), some (.int v1), some (.int v2), some (.int v3), some (.int v4), some (.int v5), some (.int v6), some (.int v7), d8, d9], [], M) r M') (h : f_X10_building_156 N k64 v1 v2 v3 v4 v5 v6 v7 v8 M = some (r, M')) : mR z me_X10_building (156, [some (.ref 0), some (.int v1), some (.int v2), some (.int v3), some (.int v4), some (.int v5), some (.int v6), some (.int v7), some (.int v8), d9], [], M) r M' := by
  unfold f_X10_building_156 at h
  refine am_R.go 3 (q' := (160, [some (.ref 0), some (.int v1), some (.int v2), some (.int v3), some (.int v4), some (.int v5), some (.int v6), some (.int v7), some (.int v8), d9], [.int 1, .int v7, .ref 0], M)) rfl trivial ?_
  obtain ⟨M160, hz, h⟩ := am_bv_s h
  refine am_R.call (e' := me_X10_stands) (as := [.ref 0, .int v7, .int 1]) (rest := []) rfl rfl (Nat.le_of_ble_eq_true rfl) (t_X10_stands z N v7 1 _ hz) ?_
  refine am_R.go 6 (q' := (171, [some (.ref 0), some (.int v1), some (.int v2), some (.int v3), some (.int v4), some (.int v5), some (.int v6), some (.int v7), some (.int v8), d9], [.int 0, .int (M160 0 41), .int 0, .int v1, .ref 0], M160)) rfl trivial ?_
  obtain ⟨M171, hz, h⟩ := am_bv_s h
  refine am_R.call (e' := me_X10_findField) (as := [.ref 0, .int v1, .int 0, .int (M160 0 41), .int 0]) (rest := []) rfl rfl (Nat.le_of_ble_eq_true rfl) (t_X10_findField z N v1 0 (M160 0 41) 0 _ hz) ?_
  refine am_R.go 3 (q' := (178, [some (.ref 0), some (.int v1), some (.int v2), some (.int v3), some (.int v4), some (.int v5), some (.int v6), some (.int v7), some (.int v8), d9], [.int 0, .int v7, .ref 0], M171)) rfl trivial ?_
  obtain ⟨M178, hz, h⟩ := am_bv_s h
  refine am_R.call (e' := me_X10_stands) (as := [.ref 0, .int v7, .int 0]) (rest := []) rfl rfl (Nat.le_of_ble_eq_true rfl) (t_X10_stands z N v7 0 _ hz) ?_
  refine am_R.go 3 (q' := (186, [some (.ref 0), some (.int v1), some (.int v2), some (.int v3), some (.int v4), some (.int v5), some (.int v6), some (.int v7), some (.int v8), d9], [.int v2, .int (M178 0 51)], M178)) rfl trivial ?_
  rcases am_it h with ⟨hc, h⟩ | ⟨hc, h⟩
  · refine am_R.bt rfl rfl hc ?_
    refine am_R.go 6 (q' := (64, [some (.ref 0), some (.int v1), some (.int v2), some (.int v3), some (.int v4), some (.int v7), some (.int v8), some (.int (v7 + 1)), some (.int v8), d9], [], M178)) rfl trivial ?_
    exact hk64 v7 v8 (v7 + 1) _ _ _ h
  · refine am_R.bn rfl rfl hc ?_
    refine am_R.go 3 (q' := (64, [some (.ref 0), some (.int v1), some (.int v2), some (.int v3), some (.int v4), some (.int v5), some (.int v6), some (.int (v7 + 1)), some (.int v8), d9], [], M178)) rfl trivial ?_
    exact hk64 v5 v6 (v7 + 1) _ _ _ h
def f_X10_building_94B (N : Nat) (v1 : Int32) (v2 : Int32) (v3 : Int32) (v4 : Int32) (v5 : Int32) (v6 : Int32) (v7 : Int32) (k64 : Int32 → Int32 → Int32 → am_M → Option (Except Nat (Option Value) × am_M)) (k94 : Int32 → Int32 → am_M → Option (Except Nat (Option Value) × am_M)) (v8 : Int32) (v9 : Int32) (M : am_M) : Option (Except Nat (Option Value) × am_M) :=
  if (M 0 37) ≤ v9 then
    if v5 = (-1) then
      f_X10_building_156 N k64 v1 v2 v3 v4 v5 v6 v7 v8 M
    else
      if v8 < v6 then
        f_X10_building_156 N k64 v1 v2 v3 v4 v5 v6 v7 v8 M
      else
        k64 v5 v6 (v7 + 1) M
  else
    if ((v7 >>> (v9 &&& 31)) &&& 1) = 1 then
      if am_in ((2 * v9) + 1) 8 then
        k94 (v8 + (M 14 (((2 * v9) + 1).toNatClampNeg))) (v9 + 1) M
      else none
    else
      k94 (v8 + 0) (v9 + 1) M
def f_X10_building_94 (N : Nat) (v1 : Int32) (v2 : Int32) (v3 : Int32) (v4 : Int32) (v5 : Int32) (v6 : Int32) (v7 : Int32) (k64 : Int32 → Int32 → Int32 → am_M → Option (Except Nat (Option Value) × am_M)) : Nat → Int32 → Int32 → am_M → Option (Except Nat (Option Value) × am_M)
  | 0 => fun _ _ _ => none
  | n + 1 => f_X10_building_94B N v1 v2 v3 v4 v5 v6 v7 k64 (f_X10_building_94 N v1 v2 v3 v4 v5 v6 v7 k64 n)
set_option maxRecDepth 100000 in
theorem t_X10_building_94B (z : Value) (N : Nat) (v1 : Int32) (v2 : Int32) (v3 : Int32) (v4 : Int32) (v5 : Int32) (v6 : Int32) (v7 : Int32) (k64 : Int32 → Int32 → Int32 → am_M → Option (Except Nat (Option Value) × am_M)) {r : Except Nat (Option Value)} {M' : am_M} (hk64 : ∀ (v5 : Int32) (v6 : Int32) (v7 : Int32) (d8 : Option Value) (d9 : Option Value) (M : am_M), k64 v5 v6 v7 M = some (r, M') → mR z me_X10_building (64, [some (.ref 0), some (.int v1), some (.int v2), some (.int v3), some (.int v4), some (.int v5), some (.int v6), some (.int v7), d8, d9], [], M) r M') (k94 : Int32 → Int32 → am_M → Option (Except Nat (Option Value) × am_M)) (hk94 : ∀ (v8 : Int32) (v9 : Int32) (M : am_M), k94 v8 v9 M = some (r, M') → mR z me_X10_building (94, [some (.ref 0), some (.int v1), some (.int v2), some (.int v3), some (.int v4), some (.int v5), some (.int v6), some (.int v7), some (.int v8), some (.int v9)], [], M) r M') (v8 : Int32) (v9 : Int32) (M : am_M) (h : f_X10_building_94B N v1 v2 v3 v4 v5 v6 v7 k64 k94 v8 v9 M = some (r, M')) : mR z me_X10_building (94, [some (.ref 0), some (.int v1), some (.int v2), some (.int v3), some (.int v4), some (.int v5), some (.int v6), some (.int v7), some (.int v8), some (.int v9)], [], M) r M' := by
  unfold f_X10_building_94B at h
  refine am_R.go 3 (q' := (100, [some (.ref 0), some (.int v1), some (.int v2), some (.int v3), some (.int v4), some (.int v5), some (.int v6), some (.int v7), some (.int v8), some (.int v9)], [.int (M 0 37), .int v9], M)) rfl trivial ?_
  rcases am_it h with ⟨hc, h⟩ | ⟨hc, h⟩
  · refine am_R.bt rfl rfl hc ?_
    refine am_R.go 2 (q' := (143, [some (.ref 0), some (.int v1), some (.int v2), some (.int v3), some (.int v4), some (.int v5), some (.int v6), some (.int v7), some (.int v8), some (.int v9)], [.int (-1), .int v5], M)) rfl trivial ?_
    rcases am_it h with ⟨hc, h⟩ | ⟨hc, h⟩
    · refine am_R.bt rfl rfl hc ?_
      exact t_X10_building_156 z N k64 v1 v2 v3 v4 v5 v6 v7 v8 _ _ hk64 h
    · refine am_R.bn rfl rfl hc ?_
      refine am_R.go 2 (q' := (150, [some (.ref 0), some (.int v1), some (.int v2), some (.int v3), some (.int v4), some (.int v5), some (.int v6), some (.int v7), some (.int v8), some (.int v9)], [.int v6, .int v8], M)) rfl trivial ?_
      rcases am_it h with ⟨hc, h⟩ | ⟨hc, h⟩
      · refine am_R.bt rfl rfl hc ?_
        exact t_X10_building_156 z N k64 v1 v2 v3 v4 v5 v6 v7 v8 _ _ hk64 h
      · refine am_R.bn rfl rfl hc ?_
        refine am_R.go 3 (q' := (64, [some (.ref 0), some (.int v1), some (.int v2), some (.int v3), some (.int v4), some (.int v5), some (.int v6), some (.int (v7 + 1)), some (.int v8), some (.int v9)], [], M)) rfl trivial ?_
        exact hk64 v5 v6 (v7 + 1) _ _ _ h
  · refine am_R.bn rfl rfl hc ?_
    refine am_R.go 7 (q' := (113, [some (.ref 0), some (.int v1), some (.int v2), some (.int v3), some (.int v4), some (.int v5), some (.int v6), some (.int v7), some (.int v8), some (.int v9)], [.int 1, .int ((v7 >>> (v9 &&& 31)) &&& 1), .int v8], M)) rfl trivial ?_
    rcases am_it h with ⟨hc, h⟩ | ⟨hc, h⟩
    · refine am_R.bn rfl rfl (fun q => q hc) ?_
      obtain ⟨hC, h⟩ := am_gd h
      refine am_R.go 13 (q' := (94, [some (.ref 0), some (.int v1), some (.int v2), some (.int v3), some (.int v4), some (.int v5), some (.int v6), some (.int v7), some (.int (v8 + (M 14 (((2 * v9) + 1).toNatClampNeg)))), some (.int (v9 + 1))], [], M)) rfl ⟨hC, trivial⟩ ?_
      exact hk94 (v8 + (M 14 (((2 * v9) + 1).toNatClampNeg))) (v9 + 1) _ h
    · refine am_R.bt rfl rfl hc ?_
      refine am_R.go 5 (q' := (94, [some (.ref 0), some (.int v1), some (.int v2), some (.int v3), some (.int v4), some (.int v5), some (.int v6), some (.int v7), some (.int (v8 + 0)), some (.int (v9 + 1))], [], M)) rfl trivial ?_
      exact hk94 (v8 + 0) (v9 + 1) _ h
set_option maxRecDepth 100000 in
theorem t_X10_building_94 (z : Value) (N : Nat) (v1 : Int32) (v2 : Int32) (v3 : Int32) (v4 : Int32) (v5 : Int32) (v6 : Int32) (v7 : Int32) (k64 : Int32 → Int32 → Int32 → am_M → Option (Except Nat (Option Value) × am_M)) {r : Except Nat (Option Value)} {M' : am_M} (hk64 : ∀ (v5 : Int32) (v6 : Int32) (v7 : Int32) (d8 : Option Value) (d9 : Option Value) (M : am_M), k64 v5 v6 v7 M = some (r, M') → mR z me_X10_building (64, [some (.ref 0), some (.int v1), some (.int v2), some (.int v3), some (.int v4), some (.int v5), some (.int v6), some (.int v7), d8, d9], [], M) r M') : ∀ (n : Nat) (v8 : Int32) (v9 : Int32) (M : am_M), f_X10_building_94 N v1 v2 v3 v4 v5 v6 v7 k64 n v8 v9 M = some (r, M') → mR z me_X10_building (94, [some (.ref 0), some (.int v1), some (.int v2), some (.int v3), some (.int v4), some (.int v5), some (.int v6), some (.int v7), some (.int v8), some (.int v9)], [], M) r M' := by
  intro n
  induction n with
  | zero => intro v8 v9 M h; cases h
  | succ n ih => intro v8 v9 M h; exact t_X10_building_94B z N v1 v2 v3 v4 v5 v6 v7 k64 hk64 _ ih v8 v9 M h
def f_X10_building_64B (N : Nat) (v1 : Int32) (v2 : Int32) (v3 : Int32) (v4 : Int32) (k64 : Int32 → Int32 → Int32 → am_M → Option (Except Nat (Option Value) × am_M)) (v5 : Int32) (v6 : Int32) (v7 : Int32) (M : am_M) : Option (Except Nat (Option Value) × am_M) :=
  if (1 <<< ((M 0 37) &&& 31)) ≤ v7 then
    if v5 = (-1) then
      some (.ok (some (.int (-1))), M)
    else
      if v3 = 0 then
        some (.ok (some (.int v6)), M)
      else
        some (.ok (some (.int v5)), M)
  else
    if (v7 &&& (v4 ^^^ (-1))) = 0 then
      f_X10_building_94 N v1 v2 v3 v4 v5 v6 v7 k64 N 0 0 M
    else
      k64 v5 v6 (v7 + 1) M
def f_X10_building_64 (N : Nat) (v1 : Int32) (v2 : Int32) (v3 : Int32) (v4 : Int32) : Nat → Int32 → Int32 → Int32 → am_M → Option (Except Nat (Option Value) × am_M)
  | 0 => fun _ _ _ _ => none
  | n + 1 => f_X10_building_64B N v1 v2 v3 v4 (f_X10_building_64 N v1 v2 v3 v4 n)
set_option maxRecDepth 100000 in
theorem t_X10_building_64B (z : Value) (N : Nat) (v1 : Int32) (v2 : Int32) (v3 : Int32) (v4 : Int32) {r : Except Nat (Option Value)} {M' : am_M} (k64 : Int32 → Int32 → Int32 → am_M → Option (Except Nat (Option Value) × am_M)) (hk64 : ∀ (v5 : Int32) (v6 : Int32) (v7 : Int32) (d8 : Option Value) (d9 : Option Value) (M : am_M), k64 v5 v6 v7 M = some (r, M') → mR z me_X10_building (64, [some (.ref 0), some (.int v1), some (.int v2), some (.int v3), some (.int v4), some (.int v5), some (.int v6), some (.int v7), d8, d9], [], M) r M') (v5 : Int32) (v6 : Int32) (v7 : Int32) (d8 : Option Value) (d9 : Option Value) (M : am_M) (h : f_X10_building_64B N v1 v2 v3 v4 k64 v5 v6 v7 M = some (r, M')) : mR z me_X10_building (64, [some (.ref 0), some (.int v1), some (.int v2), some (.int v3), some (.int v4), some (.int v5), some (.int v6), some (.int v7), d8, d9], [], M) r M' := by
  unfold f_X10_building_64B at h
  refine am_R.go 5 (q' := (72, [some (.ref 0), some (.int v1), some (.int v2), some (.int v3), some (.int v4), some (.int v5), some (.int v6), some (.int v7), d8, d9], [.int (1 <<< ((M 0 37) &&& 31)), .int v7], M)) rfl trivial ?_
  rcases am_it h with ⟨hc, h⟩ | ⟨hc, h⟩
  · refine am_R.bt rfl rfl hc ?_
    refine am_R.go 2 (q' := (209, [some (.ref 0), some (.int v1), some (.int v2), some (.int v3), some (.int v4), some (.int v5), some (.int v6), some (.int v7), d8, d9], [.int (-1), .int v5], M)) rfl trivial ?_
    rcases am_it h with ⟨hc, h⟩ | ⟨hc, h⟩
    · refine am_R.bn rfl rfl (fun q => q hc) ?_
      refine am_R.go 2 (q' := (227, [some (.ref 0), some (.int v1), some (.int v2), some (.int v3), some (.int v4), some (.int v5), some (.int v6), some (.int v7), d8, d9], [.int (-1)], M)) rfl trivial ?_
      cases h
      exact am_R.ret rfl rfl trivial
    · refine am_R.bt rfl rfl hc ?_
      refine am_R.go 1 (q' := (217, [some (.ref 0), some (.int v1), some (.int v2), some (.int v3), some (.int v4), some (.int v5), some (.int v6), some (.int v7), d8, d9], [.int v3], M)) rfl trivial ?_
      rcases am_it h with ⟨hc, h⟩ | ⟨hc, h⟩
      · refine am_R.cn rfl rfl (fun q => q hc) ?_
        refine am_R.go 2 (q' := (227, [some (.ref 0), some (.int v1), some (.int v2), some (.int v3), some (.int v4), some (.int v5), some (.int v6), some (.int v7), d8, d9], [.int v6], M)) rfl trivial ?_
        cases h
        exact am_R.ret rfl rfl trivial
      · refine am_R.ct rfl rfl hc ?_
        refine am_R.go 1 (q' := (227, [some (.ref 0), some (.int v1), some (.int v2), some (.int v3), some (.int v4), some (.int v5), some (.int v6), some (.int v7), d8, d9], [.int v5], M)) rfl trivial ?_
        cases h
        exact am_R.ret rfl rfl trivial
  · refine am_R.bn rfl rfl hc ?_
    refine am_R.go 5 (q' := (82, [some (.ref 0), some (.int v1), some (.int v2), some (.int v3), some (.int v4), some (.int v5), some (.int v6), some (.int v7), d8, d9], [.int (v7 &&& (v4 ^^^ (-1)))], M)) rfl trivial ?_
    rcases am_it h with ⟨hc, h⟩ | ⟨hc, h⟩
    · refine am_R.ct rfl rfl hc ?_
      refine am_R.go 4 (q' := (94, [some (.ref 0), some (.int v1), some (.int v2), some (.int v3), some (.int v4), some (.int v5), some (.int v6), some (.int v7), some (.int 0), some (.int 0)], [], M)) rfl trivial ?_
      exact t_X10_building_94 z N v1 v2 v3 v4 v5 v6 v7 k64 hk64 N 0 0 _ h
    · refine am_R.cn rfl rfl hc ?_
      refine am_R.go 3 (q' := (64, [some (.ref 0), some (.int v1), some (.int v2), some (.int v3), some (.int v4), some (.int v5), some (.int v6), some (.int (v7 + 1)), d8, d9], [], M)) rfl trivial ?_
      exact hk64 v5 v6 (v7 + 1) _ _ _ h
set_option maxRecDepth 100000 in
theorem t_X10_building_64 (z : Value) (N : Nat) (v1 : Int32) (v2 : Int32) (v3 : Int32) (v4 : Int32) {r : Except Nat (Option Value)} {M' : am_M} : ∀ (n : Nat) (v5 : Int32) (v6 : Int32) (v7 : Int32) (d8 : Option Value) (d9 : Option Value) (M : am_M), f_X10_building_64 N v1 v2 v3 v4 n v5 v6 v7 M = some (r, M') → mR z me_X10_building (64, [some (.ref 0), some (.int v1), some (.int v2), some (.int v3), some (.int v4), some (.int v5), some (.int v6), some (.int v7), d8, d9], [], M) r M' := by
  intro n
  induction n with
  | zero => intro v5 v6 v7 d8 d9 M h; cases h
  | succ n ih => intro v5 v6 v7 d8 d9 M h; exact t_X10_building_64B z N v1 v2 v3 v4 _ ih v5 v6 v7 d8 d9 M h
def f_X10_building_39 (N : Nat) (v1 : Int32) (v2 : Int32) (v3 : Int32) (s0 : Int32) (M : am_M) : Option (Except Nat (Option Value) × am_M) :=
  am_bi (f_X10_may N s0 2 2 M) fun r41 M41 =>
    if r41 = 0 then
      some (.ok (some (.int 0)), M41)
    else
      am_bi (f_X10_openSites N M41) fun r50 M50 =>
        f_X10_building_64 N v1 v2 v3 r50 N (-1) 0 0 M50
set_option maxRecDepth 100000 in
theorem t_X10_building_39 (z : Value) (N : Nat) {r : Except Nat (Option Value)} {M' : am_M} (v1 : Int32) (v2 : Int32) (v3 : Int32) (s0 : Int32) (d4 : Option Value) (d5 : Option Value) (d6 : Option Value) (d7 : Option Value) (d8 : Option Value) (d9 : Option Value) (M : am_M) (h : f_X10_building_39 N v1 v2 v3 s0 M = some (r, M')) : mR z me_X10_building (39, [some (.ref 0), some (.int v1), some (.int v2), some (.int v3), d4, d5, d6, d7, d8, d9], [.int s0, .ref 0], M) r M' := by
  unfold f_X10_building_39 at h
  refine am_R.go 2 (q' := (41, [some (.ref 0), some (.int v1), some (.int v2), some (.int v3), d4, d5, d6, d7, d8, d9], [.int 2, .int 2, .int s0, .ref 0], M)) rfl trivial ?_
  obtain ⟨r41, M41, hz, h⟩ := am_bi_s h
  refine am_R.call (e' := me_X10_may) (as := [.ref 0, .int s0, .int 2, .int 2]) (rest := []) rfl rfl (Nat.le_of_ble_eq_true rfl) (t_X10_may z N s0 2 2 _ hz) ?_
  rcases am_it h with ⟨hc, h⟩ | ⟨hc, h⟩
  · refine am_R.cn rfl rfl (fun q => q hc) ?_
    refine am_R.go 1 (q' := (48, [some (.ref 0), some (.int v1), some (.int v2), some (.int v3), d4, d5, d6, d7, d8, d9], [.int 0], M41)) rfl trivial ?_
    cases h
    exact am_R.ret rfl rfl trivial
  · refine am_R.ct rfl rfl hc ?_
    refine am_R.go 1 (q' := (50, [some (.ref 0), some (.int v1), some (.int v2), some (.int v3), d4, d5, d6, d7, d8, d9], [.ref 0], M41)) rfl trivial ?_
    obtain ⟨r50, M50, hz, h⟩ := am_bi_s h
    refine am_R.call (e' := me_X10_openSites) (as := [.ref 0]) (rest := []) rfl rfl (Nat.le_of_ble_eq_true rfl) (t_X10_openSites z N _ hz) ?_
    refine am_R.go 7 (q' := (64, [some (.ref 0), some (.int v1), some (.int v2), some (.int v3), some (.int r50), some (.int (-1)), some (.int 0), some (.int 0), d8, d9], [], M50)) rfl trivial ?_
    exact t_X10_building_64 z N v1 v2 v3 r50 N (-1) 0 0 _ _ _ h
def f_X10_building_38 (N : Nat) (v1 : Int32) (v2 : Int32) (v3 : Int32) (M : am_M) : Option (Except Nat (Option Value) × am_M) :=
  f_X10_building_39 N v1 v2 v3 0 M
set_option maxRecDepth 100000 in
theorem t_X10_building_38 (z : Value) (N : Nat) {r : Except Nat (Option Value)} {M' : am_M} (v1 : Int32) (v2 : Int32) (v3 : Int32) (d4 : Option Value) (d5 : Option Value) (d6 : Option Value) (d7 : Option Value) (d8 : Option Value) (d9 : Option Value) (M : am_M) (h : f_X10_building_38 N v1 v2 v3 M = some (r, M')) : mR z me_X10_building (38, [some (.ref 0), some (.int v1), some (.int v2), some (.int v3), d4, d5, d6, d7, d8, d9], [.ref 0], M) r M' := by
  unfold f_X10_building_38 at h
  refine am_R.go 1 (q' := (39, [some (.ref 0), some (.int v1), some (.int v2), some (.int v3), d4, d5, d6, d7, d8, d9], [.int 0, .ref 0], M)) rfl trivial ?_
  exact t_X10_building_39 z N v1 v2 v3 0 _ _ _ _ _ _ _ h
def f_X10_building (N : Nat) (p1 : Int32) (p2 : Int32) (p3 : Int32) (M : am_M) : Option (Except Nat (Option Value) × am_M) :=
  am_bi (f_X10_isField N p1 1 (am_up M 0 0 0)) fun r8 M8 =>
    if r8 = 0 then
      some (.ok (some (.int 0)), M8)
    else
      am_bi (f_X10_within N p2 0 24 M8) fun r19 M19 =>
        if r19 = 0 then
          f_X10_building_38 N p1 p2 p3 M19
        else
          am_bi (f_X10_within N p3 0 1 M19) fun r28 M28 =>
            if r28 = 0 then
              f_X10_building_38 N p1 p2 p3 M28
            else
              f_X10_building_39 N p1 p2 p3 1 M28
set_option maxRecDepth 100000 in
theorem t_X10_building (z : Value) (N : Nat) (p1 : Int32) (p2 : Int32) (p3 : Int32) (M : am_M) {r : Except Nat (Option Value)} {M' : am_M} (h : f_X10_building N p1 p2 p3 M = some (r, M')) : mR z me_X10_building (0, [some (.ref 0), some (.int p1), some (.int p2), some (.int p3), none, none, none, none, none, none], [], M) r M' := by
  unfold f_X10_building at h
  refine am_R.go 6 (q' := (8, [some (.ref 0), some (.int p1), some (.int p2), some (.int p3), none, none, none, none, none, none], [.int 1, .int p1, .ref 0], am_up M 0 0 0)) rfl trivial ?_
  obtain ⟨r8, M8, hz, h⟩ := am_bi_s h
  refine am_R.call (e' := me_X10_isField) (as := [.ref 0, .int p1, .int 1]) (rest := []) rfl rfl (Nat.le_of_ble_eq_true rfl) (t_X10_isField z N p1 1 _ hz) ?_
  rcases am_it h with ⟨hc, h⟩ | ⟨hc, h⟩
  · refine am_R.ct rfl rfl hc ?_
    refine am_R.go 1 (q' := (48, [some (.ref 0), some (.int p1), some (.int p2), some (.int p3), none, none, none, none, none, none], [.int 0], M8)) rfl trivial ?_
    cases h
    exact am_R.ret rfl rfl trivial
  · refine am_R.cn rfl rfl hc ?_
    refine am_R.go 4 (q' := (19, [some (.ref 0), some (.int p1), some (.int p2), some (.int p3), none, none, none, none, none, none], [.int 24, .int 0, .int p2, .ref 0], M8)) rfl trivial ?_
    obtain ⟨r19, M19, hz, h⟩ := am_bi_s h
    refine am_R.call (e' := me_X10_within) (as := [.int p2, .int 0, .int 24]) (rest := [.ref 0]) rfl rfl (Nat.le_of_ble_eq_true rfl) (t_X10_within z N p2 0 24 _ hz) ?_
    rcases am_it h with ⟨hc, h⟩ | ⟨hc, h⟩
    · refine am_R.ct rfl rfl hc ?_
      exact t_X10_building_38 z N p1 p2 p3 _ _ _ _ _ _ _ h
    · refine am_R.cn rfl rfl hc ?_
      refine am_R.go 3 (q' := (28, [some (.ref 0), some (.int p1), some (.int p2), some (.int p3), none, none, none, none, none, none], [.int 1, .int 0, .int p3, .ref 0], M19)) rfl trivial ?_
      obtain ⟨r28, M28, hz, h⟩ := am_bi_s h
      refine am_R.call (e' := me_X10_within) (as := [.int p3, .int 0, .int 1]) (rest := [.ref 0]) rfl rfl (Nat.le_of_ble_eq_true rfl) (t_X10_within z N p3 0 1 _ hz) ?_
      rcases am_it h with ⟨hc, h⟩ | ⟨hc, h⟩
      · refine am_R.ct rfl rfl hc ?_
        exact t_X10_building_38 z N p1 p2 p3 _ _ _ _ _ _ _ h
      · refine am_R.cn rfl rfl hc ?_
        refine am_R.go 2 (q' := (39, [some (.ref 0), some (.int p1), some (.int p2), some (.int p3), none, none, none, none, none, none], [.int 1, .ref 0], M28)) rfl trivial ?_
        exact t_X10_building_39 z N p1 p2 p3 1 _ _ _ _ _ _ _ h
def f_X10_barns_4B (N : Nat) (k4 : Int32 → Int32 → am_M → Option (Except Nat (Option Value) × am_M)) (v1 : Int32) (v2 : Int32) (M : am_M) : Option (Except Nat (Option Value) × am_M) :=
  if (M 0 36) ≤ v2 then
    some (.ok (some (.int v1)), M)
  else
    if am_in v2 5 then
      if (M 23 (v2.toNatClampNeg)) ≤ 0 then
        k4 (v1 ||| 0) (v2 + 1) M
      else
        if am_in v2 5 then
          k4 (v1 ||| (1 <<< (((M 23 (v2.toNatClampNeg)) - 1) &&& 31))) (v2 + 1) M
        else none
    else none
def f_X10_barns_4 (N : Nat) : Nat → Int32 → Int32 → am_M → Option (Except Nat (Option Value) × am_M)
  | 0 => fun _ _ _ => none
  | n + 1 => f_X10_barns_4B N (f_X10_barns_4 N n)
set_option maxRecDepth 100000 in
theorem t_X10_barns_4B (z : Value) (N : Nat) {r : Except Nat (Option Value)} {M' : am_M} (k4 : Int32 → Int32 → am_M → Option (Except Nat (Option Value) × am_M)) (hk4 : ∀ (v1 : Int32) (v2 : Int32) (M : am_M), k4 v1 v2 M = some (r, M') → mR z me_X10_barns (4, [some (.ref 0), some (.int v1), some (.int v2)], [], M) r M') (v1 : Int32) (v2 : Int32) (M : am_M) (h : f_X10_barns_4B N k4 v1 v2 M = some (r, M')) : mR z me_X10_barns (4, [some (.ref 0), some (.int v1), some (.int v2)], [], M) r M' := by
  unfold f_X10_barns_4B at h
  refine am_R.go 3 (q' := (9, [some (.ref 0), some (.int v1), some (.int v2)], [.int (M 0 36), .int v2], M)) rfl trivial ?_
  rcases am_it h with ⟨hc, h⟩ | ⟨hc, h⟩
  · refine am_R.bt rfl rfl hc ?_
    refine am_R.go 1 (q' := (45, [some (.ref 0), some (.int v1), some (.int v2)], [.int v1], M)) rfl trivial ?_
    cases h
    exact am_R.ret rfl rfl trivial
  · refine am_R.bn rfl rfl hc ?_
    obtain ⟨hC, h⟩ := am_gd h
    refine am_R.go 5 (q' := (19, [some (.ref 0), some (.int v1), some (.int v2)], [.int (M 23 (v2.toNatClampNeg)), .int v1], M)) rfl ⟨hC, trivial⟩ ?_
    rcases am_it h with ⟨hc, h⟩ | ⟨hc, h⟩
    · refine am_R.ct rfl rfl hc ?_
      refine am_R.go 5 (q' := (4, [some (.ref 0), some (.int (v1 ||| 0)), some (.int (v2 + 1))], [], M)) rfl trivial ?_
      exact hk4 (v1 ||| 0) (v2 + 1) _ h
    · refine am_R.cn rfl rfl hc ?_
      obtain ⟨hC, h⟩ := am_gd h
      refine am_R.go 13 (q' := (4, [some (.ref 0), some (.int (v1 ||| (1 <<< (((M 23 (v2.toNatClampNeg)) - 1) &&& 31)))), some (.int (v2 + 1))], [], M)) rfl ⟨hC, trivial⟩ ?_
      exact hk4 (v1 ||| (1 <<< (((M 23 (v2.toNatClampNeg)) - 1) &&& 31))) (v2 + 1) _ h
set_option maxRecDepth 100000 in
theorem t_X10_barns_4 (z : Value) (N : Nat) {r : Except Nat (Option Value)} {M' : am_M} : ∀ (n : Nat) (v1 : Int32) (v2 : Int32) (M : am_M), f_X10_barns_4 N n v1 v2 M = some (r, M') → mR z me_X10_barns (4, [some (.ref 0), some (.int v1), some (.int v2)], [], M) r M' := by
  intro n
  induction n with
  | zero => intro v1 v2 M h; cases h
  | succ n ih => intro v1 v2 M h; exact t_X10_barns_4B z N _ ih v1 v2 M h
def f_X10_barns (N : Nat) (M : am_M) : Option (Except Nat (Option Value) × am_M) :=
  f_X10_barns_4 N N 0 0 M
set_option maxRecDepth 100000 in
theorem t_X10_barns (z : Value) (N : Nat) (M : am_M) {r : Except Nat (Option Value)} {M' : am_M} (h : f_X10_barns N M = some (r, M')) : mR z me_X10_barns (0, [some (.ref 0), none, none], [], M) r M' := by
  unfold f_X10_barns at h
  refine am_R.go 4 (q' := (4, [some (.ref 0), some (.int 0), some (.int 0)], [], M)) rfl trivial ?_
  exact t_X10_barns_4 z N N 0 0 _ h
def f_X10_gets (N : Nat) (p1 : Int32) (M : am_M) : Option (Except Nat (Option Value) × am_M) :=
  am_bi (f_X10_barns N M) fun r9 M9 =>
    if am_in ((16 * p1) + r9) 80 ∧ am_in p1 5 then
      if (M9 23 (p1.toNatClampNeg)) ≤ 0 then
        some (.ok (some (.int ((M9 22 (((16 * p1) + r9).toNatClampNeg)) - 0))), M9)
      else
        if am_in p1 5 ∧ am_in ((2 * (M9 23 (p1.toNatClampNeg))) - 1) 8 then
          some (.ok (some (.int ((M9 22 (((16 * p1) + r9).toNatClampNeg)) - (M9 14 (((2 * (M9 23 (p1.toNatClampNeg))) - 1).toNatClampNeg))))), M9)
        else none
    else none
set_option maxRecDepth 100000 in
theorem t_X10_gets (z : Value) (N : Nat) (p1 : Int32) (M : am_M) {r : Except Nat (Option Value)} {M' : am_M} (h : f_X10_gets N p1 M = some (r, M')) : mR z me_X10_gets (0, [some (.ref 0), some (.int p1)], [], M) r M' := by
  unfold f_X10_gets at h
  refine am_R.go 6 (q' := (9, [some (.ref 0), some (.int p1)], [.ref 0, .int (16 * p1), .ref 22], M)) rfl trivial ?_
  obtain ⟨r9, M9, hz, h⟩ := am_bi_s h
  refine am_R.call (e' := me_X10_barns) (as := [.ref 0]) (rest := [.int (16 * p1), .ref 22]) rfl rfl (Nat.le_of_ble_eq_true rfl) (t_X10_barns z N _ hz) ?_
  obtain ⟨hC, h⟩ := am_gd h
  refine am_R.go 6 (q' := (20, [some (.ref 0), some (.int p1)], [.int (M9 23 (p1.toNatClampNeg)), .int (M9 22 (((16 * p1) + r9).toNatClampNeg))], M9)) rfl ⟨hC.1, hC.2, trivial⟩ ?_
  rcases am_it h with ⟨hc, h⟩ | ⟨hc, h⟩
  · refine am_R.ct rfl rfl hc ?_
    refine am_R.go 2 (q' := (43, [some (.ref 0), some (.int p1)], [.int ((M9 22 (((16 * p1) + r9).toNatClampNeg)) - 0)], M9)) rfl trivial ?_
    cases h
    exact am_R.ret rfl rfl trivial
  · refine am_R.cn rfl rfl hc ?_
    obtain ⟨hC, h⟩ := am_gd h
    refine am_R.go 13 (q' := (43, [some (.ref 0), some (.int p1)], [.int ((M9 22 (((16 * p1) + r9).toNatClampNeg)) - (M9 14 (((2 * (M9 23 (p1.toNatClampNeg))) - 1).toNatClampNeg)))], M9)) rfl ⟨hC.1, hC.2, trivial⟩ ?_
    cases h
    exact am_R.ret rfl rfl trivial
def f_X10_isRest_58 (N : Nat) (k2 : Int32 → am_M → Option (Except Nat (Option Value) × am_M)) (k30 : Int32 → Int32 → am_M → Option (Except Nat (Option Value) × am_M)) (v1 : Int32) (v2 : Int32) (v3 : Int32) (v4 : Int32) (v5 : Int32) (v6 : Int32) (M : am_M) : Option (Except Nat (Option Value) × am_M) :=
  if am_in v2 5 then
    if v5 = 0 then
      am_bi (f_X10_gets N v2 (am_up M 23 (v2.toNatClampNeg) v6)) fun r73 M73 =>
        if r73 ≤ v4 then
          k30 0 (v6 + 1) M73
        else
          k30 1 (v6 + 1) M73
    else
      k30 1 (v6 + 1) (am_up M 23 (v2.toNatClampNeg) v6)
  else none
set_option maxRecDepth 100000 in
theorem t_X10_isRest_58 (z : Value) (N : Nat) (k2 : Int32 → am_M → Option (Except Nat (Option Value) × am_M)) (k30 : Int32 → Int32 → am_M → Option (Except Nat (Option Value) × am_M)) {r : Except Nat (Option Value)} {M' : am_M} (v1 : Int32) (v2 : Int32) (v3 : Int32) (v4 : Int32) (v5 : Int32) (v6 : Int32) (M : am_M) (hk2 : ∀ (v2 : Int32) (d3 : Option Value) (d4 : Option Value) (d5 : Option Value) (d6 : Option Value) (M : am_M), k2 v2 M = some (r, M') → mR z me_X10_isRest (2, [some (.ref 0), some (.int v1), some (.int v2), d3, d4, d5, d6], [], M) r M') (hk30 : ∀ (v5 : Int32) (v6 : Int32) (M : am_M), k30 v5 v6 M = some (r, M') → mR z me_X10_isRest (30, [some (.ref 0), some (.int v1), some (.int v2), some (.int v3), some (.int v4), some (.int v5), some (.int v6)], [], M) r M') (h : f_X10_isRest_58 N k2 k30 v1 v2 v3 v4 v5 v6 M = some (r, M')) : mR z me_X10_isRest (58, [some (.ref 0), some (.int v1), some (.int v2), some (.int v3), some (.int v4), some (.int v5), some (.int v6)], [], M) r M' := by
  unfold f_X10_isRest_58 at h
  obtain ⟨hC, h⟩ := am_gd h
  refine am_R.go 6 (q' := (68, [some (.ref 0), some (.int v1), some (.int v2), some (.int v3), some (.int v4), some (.int v5), some (.int v6)], [.int v5], am_up M 23 (v2.toNatClampNeg) v6)) rfl ⟨hC, trivial⟩ ?_
  rcases am_it h with ⟨hc, h⟩ | ⟨hc, h⟩
  · refine am_R.cn rfl rfl (fun q => q hc) ?_
    refine am_R.go 2 (q' := (73, [some (.ref 0), some (.int v1), some (.int v2), some (.int v3), some (.int v4), some (.int v5), some (.int v6)], [.int v2, .ref 0], am_up M 23 (v2.toNatClampNeg) v6)) rfl trivial ?_
    obtain ⟨r73, M73, hz, h⟩ := am_bi_s h
    refine am_R.call (e' := me_X10_gets) (as := [.ref 0, .int v2]) (rest := []) rfl rfl (Nat.le_of_ble_eq_true rfl) (t_X10_gets z N v2 _ hz) ?_
    refine am_R.go 1 (q' := (78, [some (.ref 0), some (.int v1), some (.int v2), some (.int v3), some (.int v4), some (.int v5), some (.int v6)], [.int v4, .int r73], M73)) rfl trivial ?_
    rcases am_it h with ⟨hc, h⟩ | ⟨hc, h⟩
    · refine am_R.bt rfl rfl hc ?_
      refine am_R.go 4 (q' := (30, [some (.ref 0), some (.int v1), some (.int v2), some (.int v3), some (.int v4), some (.int 0), some (.int (v6 + 1))], [], M73)) rfl trivial ?_
      exact hk30 0 (v6 + 1) _ h
    · refine am_R.bn rfl rfl hc ?_
      refine am_R.go 5 (q' := (30, [some (.ref 0), some (.int v1), some (.int v2), some (.int v3), some (.int v4), some (.int 1), some (.int (v6 + 1))], [], M73)) rfl trivial ?_
      exact hk30 1 (v6 + 1) _ h
  · refine am_R.ct rfl rfl hc ?_
    refine am_R.go 5 (q' := (30, [some (.ref 0), some (.int v1), some (.int v2), some (.int v3), some (.int v4), some (.int 1), some (.int (v6 + 1))], [], am_up M 23 (v2.toNatClampNeg) v6)) rfl trivial ?_
    exact hk30 1 (v6 + 1) _ h
def f_X10_isRest_30B (N : Nat) (v1 : Int32) (v2 : Int32) (v3 : Int32) (v4 : Int32) (k2 : Int32 → am_M → Option (Except Nat (Option Value) × am_M)) (k30 : Int32 → Int32 → am_M → Option (Except Nat (Option Value) × am_M)) (v5 : Int32) (v6 : Int32) (M : am_M) : Option (Except Nat (Option Value) × am_M) :=
  if (M 0 37) < v6 then
    if am_in v2 5 then
      if v5 = 0 then
        k2 (v2 + 1) (am_up M 23 (v2.toNatClampNeg) v3)
      else
        some (.ok (some (.int 0)), am_up M 23 (v2.toNatClampNeg) v3)
    else none
  else
    if v6 ≤ 0 then
      f_X10_isRest_58 N k2 k30 v1 v2 v3 v4 v5 v6 M
    else
      if ((v1 >>> ((v6 - 1) &&& 31)) &&& 1) = 0 then
        k30 v5 (v6 + 1) M
      else
        f_X10_isRest_58 N k2 k30 v1 v2 v3 v4 v5 v6 M
def f_X10_isRest_30 (N : Nat) (v1 : Int32) (v2 : Int32) (v3 : Int32) (v4 : Int32) (k2 : Int32 → am_M → Option (Except Nat (Option Value) × am_M)) : Nat → Int32 → Int32 → am_M → Option (Except Nat (Option Value) × am_M)
  | 0 => fun _ _ _ => none
  | n + 1 => f_X10_isRest_30B N v1 v2 v3 v4 k2 (f_X10_isRest_30 N v1 v2 v3 v4 k2 n)
set_option maxRecDepth 100000 in
theorem t_X10_isRest_30B (z : Value) (N : Nat) (v1 : Int32) (v2 : Int32) (v3 : Int32) (v4 : Int32) (k2 : Int32 → am_M → Option (Except Nat (Option Value) × am_M)) {r : Except Nat (Option Value)} {M' : am_M} (hk2 : ∀ (v2 : Int32) (d3 : Option Value) (d4 : Option Value) (d5 : Option Value) (d6 : Option Value) (M : am_M), k2 v2 M = some (r, M') → mR z me_X10_isRest (2, [some (.ref 0), some (.int v1), some (.int v2), d3, d4, d5, d6], [], M) r M') (k30 : Int32 → Int32 → am_M → Option (Except Nat (Option Value) × am_M)) (hk30 : ∀ (v5 : Int32) (v6 : Int32) (M : am_M), k30 v5 v6 M = some (r, M') → mR z me_X10_isRest (30, [some (.ref 0), some (.int v1), some (.int v2), some (.int v3), some (.int v4), some (.int v5), some (.int v6)], [], M) r M') (v5 : Int32) (v6 : Int32) (M : am_M) (h : f_X10_isRest_30B N v1 v2 v3 v4 k2 k30 v5 v6 M = some (r, M')) : mR z me_X10_isRest (30, [some (.ref 0), some (.int v1), some (.int v2), some (.int v3), some (.int v4), some (.int v5), some (.int v6)], [], M) r M' := by
  unfold f_X10_isRest_30B at h
  refine am_R.go 3 (q' := (36, [some (.ref 0), some (.int v1), some (.int v2), some (.int v3), some (.int v4), some (.int v5), some (.int v6)], [.int (M 0 37), .int v6], M)) rfl trivial ?_
  rcases am_it h with ⟨hc, h⟩ | ⟨hc, h⟩
  · refine am_R.bt rfl rfl hc ?_
    obtain ⟨hC, h⟩ := am_gd h
    refine am_R.go 6 (q' := (103, [some (.ref 0), some (.int v1), some (.int v2), some (.int v3), some (.int v4), some (.int v5), some (.int v6)], [.int v5], am_up M 23 (v2.toNatClampNeg) v3)) rfl ⟨hC, trivial⟩ ?_
    rcases am_it h with ⟨hc, h⟩ | ⟨hc, h⟩
    · refine am_R.ct rfl rfl hc ?_
      refine am_R.go 2 (q' := (2, [some (.ref 0), some (.int v1), some (.int (v2 + 1)), some (.int v3), some (.int v4), some (.int v5), some (.int v6)], [], am_up M 23 (v2.toNatClampNeg) v3)) rfl trivial ?_
      exact hk2 (v2 + 1) _ _ _ _ _ h
    · refine am_R.cn rfl rfl hc ?_
      refine am_R.go 1 (q' := (107, [some (.ref 0), some (.int v1), some (.int v2), some (.int v3), some (.int v4), some (.int v5), some (.int v6)], [.int 0], am_up M 23 (v2.toNatClampNeg) v3)) rfl trivial ?_
      cases h
      exact am_R.ret rfl rfl (Or.inl rfl)
  · refine am_R.bn rfl rfl hc ?_
    refine am_R.go 1 (q' := (41, [some (.ref 0), some (.int v1), some (.int v2), some (.int v3), some (.int v4), some (.int v5), some (.int v6)], [.int v6], M)) rfl trivial ?_
    rcases am_it h with ⟨hc, h⟩ | ⟨hc, h⟩
    · refine am_R.ct rfl rfl hc ?_
      exact t_X10_isRest_58 z N k2 k30 v1 v2 v3 v4 v5 v6 _ hk2 hk30 h
    · refine am_R.cn rfl rfl hc ?_
      refine am_R.go 7 (q' := (52, [some (.ref 0), some (.int v1), some (.int v2), some (.int v3), some (.int v4), some (.int v5), some (.int v6)], [.int ((v1 >>> ((v6 - 1) &&& 31)) &&& 1)], M)) rfl trivial ?_
      rcases am_it h with ⟨hc, h⟩ | ⟨hc, h⟩
      · refine am_R.cn rfl rfl (fun q => q hc) ?_
        refine am_R.go 3 (q' := (30, [some (.ref 0), some (.int v1), some (.int v2), some (.int v3), some (.int v4), some (.int v5), some (.int (v6 + 1))], [], M)) rfl trivial ?_
        exact hk30 v5 (v6 + 1) _ h
      · refine am_R.ct rfl rfl hc ?_
        exact t_X10_isRest_58 z N k2 k30 v1 v2 v3 v4 v5 v6 _ hk2 hk30 h
set_option maxRecDepth 100000 in
theorem t_X10_isRest_30 (z : Value) (N : Nat) (v1 : Int32) (v2 : Int32) (v3 : Int32) (v4 : Int32) (k2 : Int32 → am_M → Option (Except Nat (Option Value) × am_M)) {r : Except Nat (Option Value)} {M' : am_M} (hk2 : ∀ (v2 : Int32) (d3 : Option Value) (d4 : Option Value) (d5 : Option Value) (d6 : Option Value) (M : am_M), k2 v2 M = some (r, M') → mR z me_X10_isRest (2, [some (.ref 0), some (.int v1), some (.int v2), d3, d4, d5, d6], [], M) r M') : ∀ (n : Nat) (v5 : Int32) (v6 : Int32) (M : am_M), f_X10_isRest_30 N v1 v2 v3 v4 k2 n v5 v6 M = some (r, M') → mR z me_X10_isRest (30, [some (.ref 0), some (.int v1), some (.int v2), some (.int v3), some (.int v4), some (.int v5), some (.int v6)], [], M) r M' := by
  intro n
  induction n with
  | zero => intro v5 v6 M h; cases h
  | succ n ih => intro v5 v6 M h; exact t_X10_isRest_30B z N v1 v2 v3 v4 k2 hk2 _ ih v5 v6 M h
def f_X10_isRest_2B (N : Nat) (v1 : Int32) (k2 : Int32 → am_M → Option (Except Nat (Option Value) × am_M)) (v2 : Int32) (M : am_M) : Option (Except Nat (Option Value) × am_M) :=
  if (M 0 36) ≤ v2 then
    some (.ok (some (.int 1)), M)
  else
    if am_in v2 5 then
      am_bi (f_X10_gets N v2 M) fun r19 M19 =>
        f_X10_isRest_30 N v1 v2 (M 23 (v2.toNatClampNeg)) r19 k2 N 0 0 M19
    else none
def f_X10_isRest_2 (N : Nat) (v1 : Int32) : Nat → Int32 → am_M → Option (Except Nat (Option Value) × am_M)
  | 0 => fun _ _ => none
  | n + 1 => f_X10_isRest_2B N v1 (f_X10_isRest_2 N v1 n)
set_option maxRecDepth 100000 in
theorem t_X10_isRest_2B (z : Value) (N : Nat) (v1 : Int32) {r : Except Nat (Option Value)} {M' : am_M} (k2 : Int32 → am_M → Option (Except Nat (Option Value) × am_M)) (hk2 : ∀ (v2 : Int32) (d3 : Option Value) (d4 : Option Value) (d5 : Option Value) (d6 : Option Value) (M : am_M), k2 v2 M = some (r, M') → mR z me_X10_isRest (2, [some (.ref 0), some (.int v1), some (.int v2), d3, d4, d5, d6], [], M) r M') (v2 : Int32) (d3 : Option Value) (d4 : Option Value) (d5 : Option Value) (d6 : Option Value) (M : am_M) (h : f_X10_isRest_2B N v1 k2 v2 M = some (r, M')) : mR z me_X10_isRest (2, [some (.ref 0), some (.int v1), some (.int v2), d3, d4, d5, d6], [], M) r M' := by
  unfold f_X10_isRest_2B at h
  refine am_R.go 3 (q' := (7, [some (.ref 0), some (.int v1), some (.int v2), d3, d4, d5, d6], [.int (M 0 36), .int v2], M)) rfl trivial ?_
  rcases am_it h with ⟨hc, h⟩ | ⟨hc, h⟩
  · refine am_R.bt rfl rfl hc ?_
    refine am_R.go 1 (q' := (115, [some (.ref 0), some (.int v1), some (.int v2), d3, d4, d5, d6], [.int 1], M)) rfl trivial ?_
    cases h
    exact am_R.ret rfl rfl (Or.inr rfl)
  · refine am_R.bn rfl rfl hc ?_
    obtain ⟨hC, h⟩ := am_gd h
    refine am_R.go 7 (q' := (19, [some (.ref 0), some (.int v1), some (.int v2), some (.int (M 23 (v2.toNatClampNeg))), d4, d5, d6], [.int v2, .ref 0], M)) rfl ⟨hC, trivial⟩ ?_
    obtain ⟨r19, M19, hz, h⟩ := am_bi_s h
    refine am_R.call (e' := me_X10_gets) (as := [.ref 0, .int v2]) (rest := []) rfl rfl (Nat.le_of_ble_eq_true rfl) (t_X10_gets z N v2 _ hz) ?_
    refine am_R.go 5 (q' := (30, [some (.ref 0), some (.int v1), some (.int v2), some (.int (M 23 (v2.toNatClampNeg))), some (.int r19), some (.int 0), some (.int 0)], [], M19)) rfl trivial ?_
    exact t_X10_isRest_30 z N v1 v2 (M 23 (v2.toNatClampNeg)) r19 k2 hk2 N 0 0 _ h
set_option maxRecDepth 100000 in
theorem t_X10_isRest_2 (z : Value) (N : Nat) (v1 : Int32) {r : Except Nat (Option Value)} {M' : am_M} : ∀ (n : Nat) (v2 : Int32) (d3 : Option Value) (d4 : Option Value) (d5 : Option Value) (d6 : Option Value) (M : am_M), f_X10_isRest_2 N v1 n v2 M = some (r, M') → mR z me_X10_isRest (2, [some (.ref 0), some (.int v1), some (.int v2), d3, d4, d5, d6], [], M) r M' := by
  intro n
  induction n with
  | zero => intro v2 d3 d4 d5 d6 M h; cases h
  | succ n ih => intro v2 d3 d4 d5 d6 M h; exact t_X10_isRest_2B z N v1 _ ih v2 d3 d4 d5 d6 M h
def f_X10_isRest (N : Nat) (p1 : Int32) (M : am_M) : Option (Except Nat (Option Value) × am_M) :=
  f_X10_isRest_2 N p1 N 0 M
set_option maxRecDepth 100000 in
theorem t_X10_isRest (z : Value) (N : Nat) (p1 : Int32) (M : am_M) {r : Except Nat (Option Value)} {M' : am_M} (h : f_X10_isRest N p1 M = some (r, M')) : mR z me_X10_isRest (0, [some (.ref 0), some (.int p1), none, none, none, none, none], [], M) r M' := by
  unfold f_X10_isRest at h
  refine am_R.go 2 (q' := (2, [some (.ref 0), some (.int p1), some (.int 0), none, none, none, none], [], M)) rfl trivial ?_
  exact t_X10_isRest_2 z N p1 N 0 _ _ _ _ _ h
