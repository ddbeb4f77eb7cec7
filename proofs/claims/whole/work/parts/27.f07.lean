def f_X2_lower_13_5_2B (N : Nat) (v2 : Int32) (k2 : Int32 → am_M → Option (Except Nat (Option Value) × am_M)) (v3 : Int32) (M : am_M) : Option (Except Nat (Option Value) × am_M) :=
  if (M 5 3) ≤ v3 then
    some (.ok none, M)
  else
    if ((v2 >>> (v3 &&& 31)) &&& 1) = 0 then
      k2 (v3 + 1) M
    else
      am_bi (f_X8_cellAt_5 N v3 M) fun r24 M24 =>
        if am_in r24 100 then
          k2 (v3 + 1) (am_up M24 14 (r24.toNatClampNeg) 0)
        else none
def f_X2_lower_13_5_2 (N : Nat) (v2 : Int32) : Nat → Int32 → am_M → Option (Except Nat (Option Value) × am_M)
  | 0 => fun _ _ => none
  | n + 1 => f_X2_lower_13_5_2B N v2 (f_X2_lower_13_5_2 N v2 n)
set_option maxRecDepth 100000 in
theorem t_X2_lower_13_5_2B (z : Value) (N : Nat) (v2 : Int32) {r : Except Nat (Option Value)} {M' : am_M} (k2 : Int32 → am_M → Option (Except Nat (Option Value) × am_M)) (hk2 : ∀ (v3 : Int32) (M : am_M), k2 v3 M = some (r, M') → cR z me_X2_lower (2, [some (.ref 13), some (.ref 5), some (.int v2), some (.int v3)], [], M) r M') (v3 : Int32) (M : am_M) (h : f_X2_lower_13_5_2B N v2 k2 v3 M = some (r, M')) : cR z me_X2_lower (2, [some (.ref 13), some (.ref 5), some (.int v2), some (.int v3)], [], M) r M' := by
  unfold f_X2_lower_13_5_2B at h
  refine am_R.go 3 (q' := (7, [some (.ref 13), some (.ref 5), some (.int v2), some (.int v3)], [.int (M 5 3), .int v3], M)) rfl trivial ?_
  rcases am_it h with ⟨hc, h⟩ | ⟨hc, h⟩
  · refine am_R.bt rfl rfl hc ?_
    cases h
    exact am_R.ret rfl rfl trivial
  · refine am_R.bn rfl rfl hc ?_
    refine am_R.go 5 (q' := (15, [some (.ref 13), some (.ref 5), some (.int v2), some (.int v3)], [.int ((v2 >>> (v3 &&& 31)) &&& 1)], M)) rfl trivial ?_
    rcases am_it h with ⟨hc, h⟩ | ⟨hc, h⟩
    · refine am_R.ct rfl rfl hc ?_
      refine am_R.go 2 (q' := (2, [some (.ref 13), some (.ref 5), some (.int v2), some (.int (v3 + 1))], [], M)) rfl trivial ?_
      exact hk2 (v3 + 1) _ h
    · refine am_R.cn rfl rfl hc ?_
      refine am_R.go 4 (q' := (24, [some (.ref 13), some (.ref 5), some (.int v2), some (.int v3)], [.int v3, .ref 5, .ref 14], M)) rfl trivial ?_
      obtain ⟨r24, M24, hz, h⟩ := am_bi_s h
      refine am_R.call (e' := me_X8_cellAt) (as := [.ref 5, .int v3]) (rest := [.ref 14]) rfl rfl (Nat.le_of_ble_eq_true rfl) (t_X8_cellAt_5 z N v3 _ hz) ?_
      obtain ⟨hC, h⟩ := am_gd h
      refine am_R.go 4 (q' := (2, [some (.ref 13), some (.ref 5), some (.int v2), some (.int (v3 + 1))], [], am_up M24 14 (r24.toNatClampNeg) 0)) rfl ⟨hC, trivial⟩ ?_
      exact hk2 (v3 + 1) _ h
set_option maxRecDepth 100000 in
theorem t_X2_lower_13_5_2 (z : Value) (N : Nat) (v2 : Int32) {r : Except Nat (Option Value)} {M' : am_M} : ∀ (n : Nat) (v3 : Int32) (M : am_M), f_X2_lower_13_5_2 N v2 n v3 M = some (r, M') → cR z me_X2_lower (2, [some (.ref 13), some (.ref 5), some (.int v2), some (.int v3)], [], M) r M' := by
  intro n
  induction n with
  | zero => intro v3 M h; cases h
  | succ n ih => intro v3 M h; exact t_X2_lower_13_5_2B z N v2 _ ih v3 M h
def f_X2_lower_13_5 (N : Nat) (p2 : Int32) (M : am_M) : Option (Except Nat (Option Value) × am_M) :=
  f_X2_lower_13_5_2 N p2 N 0 M
set_option maxRecDepth 100000 in
theorem t_X2_lower_13_5 (z : Value) (N : Nat) (p2 : Int32) (M : am_M) {r : Except Nat (Option Value)} {M' : am_M} (h : f_X2_lower_13_5 N p2 M = some (r, M')) : cR z me_X2_lower (0, [some (.ref 13), some (.ref 5), some (.int p2), none], [], M) r M' := by
  unfold f_X2_lower_13_5 at h
  refine am_R.go 2 (q' := (2, [some (.ref 13), some (.ref 5), some (.int p2), some (.int 0)], [], M)) rfl trivial ?_
  exact t_X2_lower_13_5_2 z N p2 N 0 _ h
def f_X1_mostWith (N : Nat) (p1 : Int32) (p2 : Int32) (M : am_M) : Option (Except Nat (Option Value) × am_M) :=
  am_bi (f_X2_raise_13_5 N p1 M) fun r12 M12 =>
    am_bv (f_X3_survey N p2 0 (M12 2 3) M12) fun M29 =>
      am_bv (f_X2_lower_13_5 N r12 M29) fun M44 =>
        some (.ok (some (.int (M44 57 0))), M44)
set_option maxRecDepth 100000 in
theorem t_X1_mostWith (z : Value) (N : Nat) (p1 : Int32) (p2 : Int32) (M : am_M) {r : Except Nat (Option Value)} {M' : am_M} (h : f_X1_mostWith N p1 p2 M = some (r, M')) : cR z me_X1_mostWith (0, [some (.ref 60), some (.int p1), some (.int p2), none], [], M) r M' := by
  unfold f_X1_mostWith at h
  refine am_R.go 6 (q' := (12, [some (.ref 60), some (.int p1), some (.int p2), none], [.int p1, .ref 5, .ref 13], M)) rfl trivial ?_
  obtain ⟨r12, M12, hz, h⟩ := am_bi_s h
  refine am_R.call (e' := me_X2_raise) (as := [.ref 13, .ref 5, .int p1]) (rest := []) rfl rfl (Nat.le_of_ble_eq_true rfl) (t_X2_raise_13_5 z N p1 _ hz) ?_
  refine am_R.go 8 (q' := (29, [some (.ref 60), some (.int p1), some (.int p2), some (.int r12)], [.int (M12 2 3), .int 0, .int p2, .ref 57], M12)) rfl trivial ?_
  obtain ⟨M29, hz, h⟩ := am_bv_s h
  refine am_R.call (e' := me_X3_survey) (as := [.ref 57, .int p2, .int 0, .int (M12 2 3)]) (rest := []) rfl rfl (Nat.le_of_ble_eq_true rfl) (t_X3_survey z N p2 0 (M12 2 3) _ hz) ?_
  refine am_R.go 6 (q' := (44, [some (.ref 60), some (.int p1), some (.int p2), some (.int r12)], [.int r12, .ref 5, .ref 13], M29)) rfl trivial ?_
  obtain ⟨M44, hz, h⟩ := am_bv_s h
  refine am_R.call (e' := me_X2_lower) (as := [.ref 13, .ref 5, .int r12]) (rest := []) rfl rfl (Nat.le_of_ble_eq_true rfl) (t_X2_lower_13_5 z N r12 _ hz) ?_
  refine am_R.go 3 (q' := (54, [some (.ref 60), some (.int p1), some (.int p2), some (.int r12)], [.int (M44 57 0)], M44)) rfl trivial ?_
  cases h
  exact am_R.ret rfl rfl trivial
def f_X1_findLeastBuilding_82 (N : Nat) (k28 : Int32 → am_M → Option (Except Nat (Option Value) × am_M)) (v1 : Int32) (v2 : Int32) (v3 : Int32) (v4 : Int32) (v5 : Int32) (M : am_M) : Option (Except Nat (Option Value) × am_M) :=
  am_bi (f_X1_mostWith N v4 v1 M) fun r86 M86 =>
    if r86 < v2 then
      k28 (v4 + 1) M86
    else
      k28 (v4 + 1) (am_up (am_up M86 60 0 v5) 60 1 v4)
set_option maxRecDepth 100000 in
theorem t_X1_findLeastBuilding_82 (z : Value) (N : Nat) (k28 : Int32 → am_M → Option (Except Nat (Option Value) × am_M)) {r : Except Nat (Option Value)} {M' : am_M} (v1 : Int32) (v2 : Int32) (v3 : Int32) (v4 : Int32) (v5 : Int32) (M : am_M) (hk28 : ∀ (v4 : Int32) (d5 : Option Value) (M : am_M), k28 v4 M = some (r, M') → cR z me_X1_findLeastBuilding (28, [some (.ref 60), some (.int v1), some (.int v2), some (.int v3), some (.int v4), d5], [], M) r M') (h : f_X1_findLeastBuilding_82 N k28 v1 v2 v3 v4 v5 M = some (r, M')) : cR z me_X1_findLeastBuilding (82, [some (.ref 60), some (.int v1), some (.int v2), some (.int v3), some (.int v4), some (.int v5)], [], M) r M' := by
  unfold f_X1_findLeastBuilding_82 at h
  refine am_R.go 3 (q' := (86, [some (.ref 60), some (.int v1), some (.int v2), some (.int v3), some (.int v4), some (.int v5)], [.int v1, .int v4, .ref 60], M)) rfl trivial ?_
  obtain ⟨r86, M86, hz, h⟩ := am_bi_s h
  refine am_R.call (e' := me_X1_mostWith) (as := [.ref 60, .int v4, .int v1]) (rest := []) rfl rfl (Nat.le_of_ble_eq_true rfl) (t_X1_mostWith z N v4 v1 _ hz) ?_
  refine am_R.go 1 (q' := (90, [some (.ref 60), some (.int v1), some (.int v2), some (.int v3), some (.int v4), some (.int v5)], [.int v2, .int r86], M86)) rfl trivial ?_
  rcases am_it h with ⟨hc, h⟩ | ⟨hc, h⟩
  · refine am_R.bt rfl rfl hc ?_
    refine am_R.go 2 (q' := (28, [some (.ref 60), some (.int v1), some (.int v2), some (.int v3), some (.int (v4 + 1)), some (.int v5)], [], M86)) rfl trivial ?_
    exact hk28 (v4 + 1) _ _ h
  · refine am_R.bn rfl rfl hc ?_
    refine am_R.go 8 (q' := (28, [some (.ref 60), some (.int v1), some (.int v2), some (.int v3), some (.int (v4 + 1)), some (.int v5)], [], am_up (am_up M86 60 0 v5) 60 1 v4)) rfl trivial ?_
    exact hk28 (v4 + 1) _ _ h
def f_X1_findLeastBuilding_28B (N : Nat) (v1 : Int32) (v2 : Int32) (v3 : Int32) (k28 : Int32 → am_M → Option (Except Nat (Option Value) × am_M)) (v4 : Int32) (M : am_M) : Option (Except Nat (Option Value) × am_M) :=
  if (1 <<< ((M 5 3) &&& 31)) ≤ v4 then
    some (.ok none, M)
  else
    if (v4 &&& (v3 ^^^ (-1))) = 0 then
      am_bi (f_X1_costOf N v4 M) fun r60 M60 =>
        if (M60 60 1) = (-1) then
          f_X1_findLeastBuilding_82 N k28 v1 v2 v3 v4 r60 M60
        else
          if (M60 60 0) ≤ r60 then
            k28 (v4 + 1) M60
          else
            f_X1_findLeastBuilding_82 N k28 v1 v2 v3 v4 r60 M60
    else
      k28 (v4 + 1) M
def f_X1_findLeastBuilding_28 (N : Nat) (v1 : Int32) (v2 : Int32) (v3 : Int32) : Nat → Int32 → am_M → Option (Except Nat (Option Value) × am_M)
  | 0 => fun _ _ => none
  | n + 1 => f_X1_findLeastBuilding_28B N v1 v2 v3 (f_X1_findLeastBuilding_28 N v1 v2 v3 n)
set_option maxRecDepth 100000 in
theorem t_X1_findLeastBuilding_28B (z : Value) (N : Nat) (v1 : Int32) (v2 : Int32) (v3 : Int32) {r : Except Nat (Option Value)} {M' : am_M} (k28 : Int32 → am_M → Option (Except Nat (Option Value) × am_M)) (hk28 : ∀ (v4 : Int32) (d5 : Option Value) (M : am_M), k28 v4 M = some (r, M') → cR z me_X1_findLeastBuilding (28, [some (.ref 60), some (.int v1), some (.int v2), some (.int v3), some (.int v4), d5], [], M) r M') (v4 : Int32) (d5 : Option Value) (M : am_M) (h : f_X1_findLeastBuilding_28B N v1 v2 v3 k28 v4 M = some (r, M')) : cR z me_X1_findLeastBuilding (28, [some (.ref 60), some (.int v1), some (.int v2), some (.int v3), some (.int v4), d5], [], M) r M' := by
  unfold f_X1_findLeastBuilding_28B at h
  refine am_R.go 7 (q' := (42, [some (.ref 60), some (.int v1), some (.int v2), some (.int v3), some (.int v4), d5], [.int (1 <<< ((M 5 3) &&& 31)), .int v4], M)) rfl trivial ?_
  rcases am_it h with ⟨hc, h⟩ | ⟨hc, h⟩
  · refine am_R.bt rfl rfl hc ?_
    cases h
    exact am_R.ret rfl rfl trivial
  · refine am_R.bn rfl rfl hc ?_
    refine am_R.go 5 (q' := (51, [some (.ref 60), some (.int v1), some (.int v2), some (.int v3), some (.int v4), d5], [.int (v4 &&& (v3 ^^^ (-1)))], M)) rfl trivial ?_
    rcases am_it h with ⟨hc, h⟩ | ⟨hc, h⟩
    · refine am_R.ct rfl rfl hc ?_
      refine am_R.go 2 (q' := (60, [some (.ref 60), some (.int v1), some (.int v2), some (.int v3), some (.int v4), d5], [.int v4, .ref 60], M)) rfl trivial ?_
      obtain ⟨r60, M60, hz, h⟩ := am_bi_s h
      refine am_R.call (e' := me_X1_costOf) (as := [.ref 60, .int v4]) (rest := []) rfl rfl (Nat.le_of_ble_eq_true rfl) (t_X1_costOf z N v4 _ hz) ?_
      refine am_R.go 4 (q' := (70, [some (.ref 60), some (.int v1), some (.int v2), some (.int v3), some (.int v4), some (.int r60)], [.int (-1), .int (M60 60 1)], M60)) rfl trivial ?_
      rcases am_it h with ⟨hc, h⟩ | ⟨hc, h⟩
      · refine am_R.bt rfl rfl hc ?_
        exact t_X1_findLeastBuilding_82 z N k28 v1 v2 v3 v4 r60 _ hk28 h
      · refine am_R.bn rfl rfl hc ?_
        refine am_R.go 3 (q' := (79, [some (.ref 60), some (.int v1), some (.int v2), some (.int v3), some (.int v4), some (.int r60)], [.int (M60 60 0), .int r60], M60)) rfl trivial ?_
        rcases am_it h with ⟨hc, h⟩ | ⟨hc, h⟩
        · refine am_R.bt rfl rfl hc ?_
          refine am_R.go 2 (q' := (28, [some (.ref 60), some (.int v1), some (.int v2), some (.int v3), some (.int (v4 + 1)), some (.int r60)], [], M60)) rfl trivial ?_
          exact hk28 (v4 + 1) _ _ h
        · refine am_R.bn rfl rfl hc ?_
          exact t_X1_findLeastBuilding_82 z N k28 v1 v2 v3 v4 r60 _ hk28 h
    · refine am_R.cn rfl rfl hc ?_
      refine am_R.go 3 (q' := (28, [some (.ref 60), some (.int v1), some (.int v2), some (.int v3), some (.int (v4 + 1)), d5], [], M)) rfl trivial ?_
      exact hk28 (v4 + 1) _ _ h
set_option maxRecDepth 100000 in
theorem t_X1_findLeastBuilding_28 (z : Value) (N : Nat) (v1 : Int32) (v2 : Int32) (v3 : Int32) {r : Except Nat (Option Value)} {M' : am_M} : ∀ (n : Nat) (v4 : Int32) (d5 : Option Value) (M : am_M), f_X1_findLeastBuilding_28 N v1 v2 v3 n v4 M = some (r, M') → cR z me_X1_findLeastBuilding (28, [some (.ref 60), some (.int v1), some (.int v2), some (.int v3), some (.int v4), d5], [], M) r M' := by
  intro n
  induction n with
  | zero => intro v4 d5 M h; cases h
  | succ n ih => intro v4 d5 M h; exact t_X1_findLeastBuilding_28B z N v1 v2 v3 _ ih v4 d5 M h
def f_X1_findLeastBuilding (N : Nat) (p1 : Int32) (p2 : Int32) (M : am_M) : Option (Except Nat (Option Value) × am_M) :=
  am_bi (f_X2_bare_13_5 N (am_up (am_up M 60 0 (-1)) 60 1 (-1))) fun r21 M21 =>
    f_X1_findLeastBuilding_28 N p1 p2 r21 N 0 M21
set_option maxRecDepth 100000 in
theorem t_X1_findLeastBuilding (z : Value) (N : Nat) (p1 : Int32) (p2 : Int32) (M : am_M) {r : Except Nat (Option Value)} {M' : am_M} (h : f_X1_findLeastBuilding N p1 p2 M = some (r, M')) : cR z me_X1_findLeastBuilding (0, [some (.ref 60), some (.int p1), some (.int p2), none, none, none], [], M) r M' := by
  unfold f_X1_findLeastBuilding at h
  refine am_R.go 11 (q' := (21, [some (.ref 60), some (.int p1), some (.int p2), none, none, none], [.ref 5, .ref 13], am_up (am_up M 60 0 (-1)) 60 1 (-1))) rfl trivial ?_
  obtain ⟨r21, M21, hz, h⟩ := am_bi_s h
  refine am_R.call (e' := me_X2_bare) (as := [.ref 13, .ref 5]) (rest := []) rfl rfl (Nat.le_of_ble_eq_true rfl) (t_X2_bare_13_5 z N _ hz) ?_
  refine am_R.go 3 (q' := (28, [some (.ref 60), some (.int p1), some (.int p2), some (.int r21), some (.int 0), none], [], M21)) rfl trivial ?_
  exact t_X1_findLeastBuilding_28 z N p1 p2 r21 N 0 _ _ h
def f_X9_building (N : Nat) (p1 : Int32) (p2 : Int32) (p3 : Int32) (M : am_M) : Option (Except Nat (Option Value) × am_M) :=
  am_bvx (f_X9_needField N p1 M) fun M2 =>
    am_bvx (f_X9_needBetween N p2 0 24 M2) fun M10 =>
      am_bvx (f_X9_needBetween N p3 0 1 M10) fun M17 =>
        am_bv (f_X1_findLeastBuilding N p1 p2 M17) fun M26 =>
          if p3 = 0 then
            some (.ok (some (.int (M26 60 0))), M26)
          else
            some (.ok (some (.int (M26 60 1))), M26)
set_option maxRecDepth 100000 in
theorem t_X9_building (z : Value) (N : Nat) (p1 : Int32) (p2 : Int32) (p3 : Int32) (M : am_M) {r : Except Nat (Option Value)} {M' : am_M} (h : f_X9_building N p1 p2 p3 M = some (r, M')) : cR z me_X9_building (0, [some (.ref 0), some (.int p1), some (.int p2), some (.int p3)], [], M) r M' := by
  unfold f_X9_building at h
  refine am_R.go 2 (q' := (2, [some (.ref 0), some (.int p1), some (.int p2), some (.int p3)], [.int p1, .ref 0], M)) rfl trivial ?_
  rcases am_bvx_s h with ⟨M2, hz, h⟩ | ⟨x, M2, hz, h⟩
  · refine am_R.call (e' := me_X9_needField) (as := [.ref 0, .int p1]) (rest := []) rfl rfl (Nat.le_of_ble_eq_true rfl) (t_X9_needField z N p1 _ hz) ?_
    refine am_R.go 4 (q' := (10, [some (.ref 0), some (.int p1), some (.int p2), some (.int p3)], [.int 24, .int 0, .int p2, .ref 0], M2)) rfl trivial ?_
    rcases am_bvx_s h with ⟨M10, hz, h⟩ | ⟨x, M10, hz, h⟩
    · refine am_R.call (e' := me_X9_needBetween) (as := [.ref 0, .int p2, .int 0, .int 24]) (rest := []) rfl rfl (Nat.le_of_ble_eq_true rfl) (t_X9_needBetween z N p2 0 24 _ hz) ?_
      refine am_R.go 4 (q' := (17, [some (.ref 0), some (.int p1), some (.int p2), some (.int p3)], [.int 1, .int 0, .int p3, .ref 0], M10)) rfl trivial ?_
      rcases am_bvx_s h with ⟨M17, hz, h⟩ | ⟨x, M17, hz, h⟩
      · refine am_R.call (e' := me_X9_needBetween) (as := [.ref 0, .int p3, .int 0, .int 1]) (rest := []) rfl rfl (Nat.le_of_ble_eq_true rfl) (t_X9_needBetween z N p3 0 1 _ hz) ?_
        refine am_R.go 4 (q' := (26, [some (.ref 0), some (.int p1), some (.int p2), some (.int p3)], [.int p2, .int p1, .ref 60], M17)) rfl trivial ?_
        obtain ⟨M26, hz, h⟩ := am_bv_s h
        refine am_R.call (e' := me_X1_findLeastBuilding) (as := [.ref 60, .int p1, .int p2]) (rest := []) rfl rfl (Nat.le_of_ble_eq_true rfl) (t_X1_findLeastBuilding z N p1 p2 _ hz) ?_
        refine am_R.go 1 (q' := (30, [some (.ref 0), some (.int p1), some (.int p2), some (.int p3)], [.int p3], M26)) rfl trivial ?_
        rcases am_it h with ⟨hc, h⟩ | ⟨hc, h⟩
        · refine am_R.cn rfl rfl (fun q => q hc) ?_
          refine am_R.go 4 (q' := (50, [some (.ref 0), some (.int p1), some (.int p2), some (.int p3)], [.int (M26 60 0)], M26)) rfl trivial ?_
          cases h
          exact am_R.ret rfl rfl trivial
        · refine am_R.ct rfl rfl hc ?_
          refine am_R.go 3 (q' := (50, [some (.ref 0), some (.int p1), some (.int p2), some (.int p3)], [.int (M26 60 1)], M26)) rfl trivial ?_
          cases h
          exact am_R.ret rfl rfl trivial
      · cases h
        exact am_R.callx (e' := me_X9_needBetween) (as := [.ref 0, .int p3, .int 0, .int 1]) (rest := []) rfl rfl (Nat.le_of_ble_eq_true rfl) rfl (t_X9_needBetween z N p3 0 1 _ hz)
    · cases h
      exact am_R.callx (e' := me_X9_needBetween) (as := [.ref 0, .int p2, .int 0, .int 24]) (rest := []) rfl rfl (Nat.le_of_ble_eq_true rfl) rfl (t_X9_needBetween z N p2 0 24 _ hz)
  · cases h
    exact am_R.callx (e' := me_X9_needField) (as := [.ref 0, .int p1]) (rest := []) rfl rfl (Nat.le_of_ble_eq_true rfl) rfl (t_X9_needField z N p1 _ hz)
def f_X1_fillWorths_50B (N : Nat) (v1 : Int32) (v2 : Int32) (k2 : Int32 → am_M → Option (Except Nat (Option Value) × am_M)) (k50 : Int32 → am_M → Option (Except Nat (Option Value) × am_M)) (v3 : Int32) (M : am_M) : Option (Except Nat (Option Value) × am_M) :=
  if (M 3 3) ≤ v3 then
    am_bv (f_X2_lower_13_5 N v2 M) fun M128 =>
      k2 (v1 + 1) M128
  else
    am_bv (f_X3_survey N v3 0 (M 2 3) M) fun M77 =>
      am_bi (f_X8_at_3 N v3 4 M77) fun r98 M98 =>
        if am_in ((v1 * 5) + v3) 80 then
          k50 (v3 + 1) (am_up M98 61 (((v1 * 5) + v3).toNatClampNeg) (r98 * (M98 57 0)))
        else none
def f_X1_fillWorths_50 (N : Nat) (v1 : Int32) (v2 : Int32) (k2 : Int32 → am_M → Option (Except Nat (Option Value) × am_M)) : Nat → Int32 → am_M → Option (Except Nat (Option Value) × am_M)
  | 0 => fun _ _ => none
  | n + 1 => f_X1_fillWorths_50B N v1 v2 k2 (f_X1_fillWorths_50 N v1 v2 k2 n)
set_option maxRecDepth 100000 in
theorem t_X1_fillWorths_50B (z : Value) (N : Nat) (v1 : Int32) (v2 : Int32) (k2 : Int32 → am_M → Option (Except Nat (Option Value) × am_M)) {r : Except Nat (Option Value)} {M' : am_M} (hk2 : ∀ (v1 : Int32) (d2 : Option Value) (d3 : Option Value) (M : am_M), k2 v1 M = some (r, M') → cR z me_X1_fillWorths (2, [some (.ref 60), some (.int v1), d2, d3], [], M) r M') (k50 : Int32 → am_M → Option (Except Nat (Option Value) × am_M)) (hk50 : ∀ (v3 : Int32) (M : am_M), k50 v3 M = some (r, M') → cR z me_X1_fillWorths (50, [some (.ref 60), some (.int v1), some (.int v2), some (.int v3)], [], M) r M') (v3 : Int32) (M : am_M) (h : f_X1_fillWorths_50B N v1 v2 k2 k50 v3 M = some (r, M')) : cR z me_X1_fillWorths (50, [some (.ref 60), some (.int v1), some (.int v2), some (.int v3)], [], M) r M' := by
  unfold f_X1_fillWorths_50B at h
  refine am_R.go 5 (q' := (61, [some (.ref 60), some (.int v1), some (.int v2), some (.int v3)], [.int (M 3 3), .int v3], M)) rfl trivial ?_
  rcases am_it h with ⟨hc, h⟩ | ⟨hc, h⟩
  · refine am_R.bt rfl rfl hc ?_
    refine am_R.go 6 (q' := (128, [some (.ref 60), some (.int v1), some (.int v2), some (.int v3)], [.int v2, .ref 5, .ref 13], M)) rfl trivial ?_
    obtain ⟨M128, hz, h⟩ := am_bv_s h
    refine am_R.call (e' := me_X2_lower) (as := [.ref 13, .ref 5, .int v2]) (rest := []) rfl rfl (Nat.le_of_ble_eq_true rfl) (t_X2_lower_13_5 z N v2 _ hz) ?_
    refine am_R.go 2 (q' := (2, [some (.ref 60), some (.int (v1 + 1)), some (.int v2), some (.int v3)], [], M128)) rfl trivial ?_
    exact hk2 (v1 + 1) _ _ _ h
  · refine am_R.bn rfl rfl hc ?_
    refine am_R.go 7 (q' := (77, [some (.ref 60), some (.int v1), some (.int v2), some (.int v3)], [.int (M 2 3), .int 0, .int v3, .ref 57], M)) rfl trivial ?_
    obtain ⟨M77, hz, h⟩ := am_bv_s h
    refine am_R.call (e' := me_X3_survey) (as := [.ref 57, .int v3, .int 0, .int (M 2 3)]) (rest := []) rfl rfl (Nat.le_of_ble_eq_true rfl) (t_X3_survey z N v3 0 (M 2 3) _ hz) ?_
    refine am_R.go 12 (q' := (98, [some (.ref 60), some (.int v1), some (.int v2), some (.int v3)], [.int 4, .int v3, .ref 3, .int ((v1 * 5) + v3), .ref 61], M77)) rfl trivial ?_
    obtain ⟨r98, M98, hz, h⟩ := am_bi_s h
    refine am_R.call (e' := me_X8_at) (as := [.ref 3, .int v3, .int 4]) (rest := [.int ((v1 * 5) + v3), .ref 61]) rfl rfl (Nat.le_of_ble_eq_true rfl) (t_X8_at_3 z N v3 4 _ hz) ?_
    obtain ⟨hC, h⟩ := am_gd h
    refine am_R.go 7 (q' := (50, [some (.ref 60), some (.int v1), some (.int v2), some (.int (v3 + 1))], [], am_up M98 61 (((v1 * 5) + v3).toNatClampNeg) (r98 * (M98 57 0)))) rfl ⟨hC, trivial⟩ ?_
    exact hk50 (v3 + 1) _ h
set_option maxRecDepth 100000 in
theorem t_X1_fillWorths_50 (z : Value) (N : Nat) (v1 : Int32) (v2 : Int32) (k2 : Int32 → am_M → Option (Except Nat (Option Value) × am_M)) {r : Except Nat (Option Value)} {M' : am_M} (hk2 : ∀ (v1 : Int32) (d2 : Option Value) (d3 : Option Value) (M : am_M), k2 v1 M = some (r, M') → cR z me_X1_fillWorths (2, [some (.ref 60), some (.int v1), d2, d3], [], M) r M') : ∀ (n : Nat) (v3 : Int32) (M : am_M), f_X1_fillWorths_50 N v1 v2 k2 n v3 M = some (r, M') → cR z me_X1_fillWorths (50, [some (.ref 60), some (.int v1), some (.int v2), some (.int v3)], [], M) r M' := by
  intro n
  induction n with
  | zero => intro v3 M h; cases h
  | succ n ih => intro v3 M h; exact t_X1_fillWorths_50B z N v1 v2 k2 hk2 _ ih v3 M h
def f_X1_fillWorths_2B (N : Nat) (k2 : Int32 → am_M → Option (Except Nat (Option Value) × am_M)) (v1 : Int32) (M : am_M) : Option (Except Nat (Option Value) × am_M) :=
  if (1 <<< ((M 5 3) &&& 31)) ≤ v1 then
    some (.ok none, M)
  else
    if (v1 &&& ((M 60 6) ^^^ (-1))) = 0 then
      am_bi (f_X2_raise_13_5 N v1 M) fun r44 M44 =>
        f_X1_fillWorths_50 N v1 r44 k2 N 0 M44
    else
      k2 (v1 + 1) M
def f_X1_fillWorths_2 (N : Nat) : Nat → Int32 → am_M → Option (Except Nat (Option Value) × am_M)
  | 0 => fun _ _ => none
  | n + 1 => f_X1_fillWorths_2B N (f_X1_fillWorths_2 N n)
set_option maxRecDepth 100000 in
theorem t_X1_fillWorths_2B (z : Value) (N : Nat) {r : Except Nat (Option Value)} {M' : am_M} (k2 : Int32 → am_M → Option (Except Nat (Option Value) × am_M)) (hk2 : ∀ (v1 : Int32) (d2 : Option Value) (d3 : Option Value) (M : am_M), k2 v1 M = some (r, M') → cR z me_X1_fillWorths (2, [some (.ref 60), some (.int v1), d2, d3], [], M) r M') (v1 : Int32) (d2 : Option Value) (d3 : Option Value) (M : am_M) (h : f_X1_fillWorths_2B N k2 v1 M = some (r, M')) : cR z me_X1_fillWorths (2, [some (.ref 60), some (.int v1), d2, d3], [], M) r M' := by
  unfold f_X1_fillWorths_2B at h
  refine am_R.go 7 (q' := (15, [some (.ref 60), some (.int v1), d2, d3], [.int (1 <<< ((M 5 3) &&& 31)), .int v1], M)) rfl trivial ?_
  rcases am_it h with ⟨hc, h⟩ | ⟨hc, h⟩
  · refine am_R.bt rfl rfl hc ?_
    cases h
    exact am_R.ret rfl rfl trivial
  · refine am_R.bn rfl rfl hc ?_
    refine am_R.go 6 (q' := (26, [some (.ref 60), some (.int v1), d2, d3], [.int (v1 &&& ((M 60 6) ^^^ (-1)))], M)) rfl trivial ?_
    rcases am_it h with ⟨hc, h⟩ | ⟨hc, h⟩
    · refine am_R.ct rfl rfl hc ?_
      refine am_R.go 6 (q' := (44, [some (.ref 60), some (.int v1), d2, d3], [.int v1, .ref 5, .ref 13], M)) rfl trivial ?_
      obtain ⟨r44, M44, hz, h⟩ := am_bi_s h
      refine am_R.call (e' := me_X2_raise) (as := [.ref 13, .ref 5, .int v1]) (rest := []) rfl rfl (Nat.le_of_ble_eq_true rfl) (t_X2_raise_13_5 z N v1 _ hz) ?_
      refine am_R.go 3 (q' := (50, [some (.ref 60), some (.int v1), some (.int r44), some (.int 0)], [], M44)) rfl trivial ?_
      exact t_X1_fillWorths_50 z N v1 r44 k2 hk2 N 0 _ h
    · refine am_R.cn rfl rfl hc ?_
      refine am_R.go 3 (q' := (2, [some (.ref 60), some (.int (v1 + 1)), d2, d3], [], M)) rfl trivial ?_
      exact hk2 (v1 + 1) _ _ _ h
set_option maxRecDepth 100000 in
theorem t_X1_fillWorths_2 (z : Value) (N : Nat) {r : Except Nat (Option Value)} {M' : am_M} : ∀ (n : Nat) (v1 : Int32) (d2 : Option Value) (d3 : Option Value) (M : am_M), f_X1_fillWorths_2 N n v1 M = some (r, M') → cR z me_X1_fillWorths (2, [some (.ref 60), some (.int v1), d2, d3], [], M) r M' := by
  intro n
  induction n with
  | zero => intro v1 d2 d3 M h; cases h
  | succ n ih => intro v1 d2 d3 M h; exact t_X1_fillWorths_2B z N _ ih v1 d2 d3 M h
def f_X1_fillWorths (N : Nat) (M : am_M) : Option (Except Nat (Option Value) × am_M) :=
  f_X1_fillWorths_2 N N 0 M
set_option maxRecDepth 100000 in
theorem t_X1_fillWorths (z : Value) (N : Nat) (M : am_M) {r : Except Nat (Option Value)} {M' : am_M} (h : f_X1_fillWorths N M = some (r, M')) : cR z me_X1_fillWorths (0, [some (.ref 60), none, none, none], [], M) r M' := by
  unfold f_X1_fillWorths at h
  refine am_R.go 2 (q' := (2, [some (.ref 60), some (.int 0), none, none], [], M)) rfl trivial ?_
  exact t_X1_fillWorths_2 z N N 0 _ _ _ h
def f_X1_outcome_78 (N : Nat) (v1 : Int32) (v2 : Int32) (s0 : Int32) (M : am_M) : Option (Except Nat (Option Value) × am_M) :=
  if am_in ((v2 * 5) + v1) 80 then
    some (.ok (some (.int ((M 61 (((v2 * 5) + v1).toNatClampNeg)) - s0))), M)
  else none
set_option maxRecDepth 100000 in
theorem t_X1_outcome_78 (z : Value) (N : Nat) {r : Except Nat (Option Value)} {M' : am_M} (v1 : Int32) (v2 : Int32) (s0 : Int32) (d3 : Option Value) (M : am_M) (h : f_X1_outcome_78 N v1 v2 s0 M = some (r, M')) : cR z me_X1_outcome (78, [some (.ref 60), some (.int v1), some (.int v2), d3], [.int s0], M) r M' := by
  unfold f_X1_outcome_78 at h
  obtain ⟨hC, h⟩ := am_gd h
  refine am_R.go 11 (q' := (91, [some (.ref 60), some (.int v1), some (.int v2), some (.int s0)], [.int ((M 61 (((v2 * 5) + v1).toNatClampNeg)) - s0)], M)) rfl ⟨hC, trivial⟩ ?_
  cases h
  exact am_R.ret rfl rfl trivial
def f_X1_outcome_4B (N : Nat) (v1 : Int32) (k4 : Int32 → Int32 → am_M → Option (Except Nat (Option Value) × am_M)) (v2 : Int32) (v3 : Int32) (M : am_M) : Option (Except Nat (Option Value) × am_M) :=
  if (M 3 3) ≤ v3 then
    if am_in v1 5 then
      if (M 62 (v1.toNatClampNeg)) ≤ 0 then
        f_X1_outcome_78 N v1 v2 0 M
      else
        if am_in v1 5 then
          am_bi (f_X8_at_5 N ((M 62 (v1.toNatClampNeg)) - 1) 2 M) fun r71 M71 =>
            f_X1_outcome_78 N v1 v2 r71 M71
        else none
    else none
  else
    if am_in v3 5 then
      if (M 62 (v3.toNatClampNeg)) ≤ 0 then
        k4 v2 (v3 + 1) M
      else
        if am_in v3 5 then
          k4 (v2 ||| (1 <<< (((M 62 (v3.toNatClampNeg)) - 1) &&& 31))) (v3 + 1) M
        else none
    else none
def f_X1_outcome_4 (N : Nat) (v1 : Int32) : Nat → Int32 → Int32 → am_M → Option (Except Nat (Option Value) × am_M)
  | 0 => fun _ _ _ => none
  | n + 1 => f_X1_outcome_4B N v1 (f_X1_outcome_4 N v1 n)
set_option maxRecDepth 100000 in
theorem t_X1_outcome_4B (z : Value) (N : Nat) (v1 : Int32) {r : Except Nat (Option Value)} {M' : am_M} (k4 : Int32 → Int32 → am_M → Option (Except Nat (Option Value) × am_M)) (hk4 : ∀ (v2 : Int32) (v3 : Int32) (M : am_M), k4 v2 v3 M = some (r, M') → cR z me_X1_outcome (4, [some (.ref 60), some (.int v1), some (.int v2), some (.int v3)], [], M) r M') (v2 : Int32) (v3 : Int32) (M : am_M) (h : f_X1_outcome_4B N v1 k4 v2 v3 M = some (r, M')) : cR z me_X1_outcome (4, [some (.ref 60), some (.int v1), some (.int v2), some (.int v3)], [], M) r M' := by
  unfold f_X1_outcome_4B at h
  refine am_R.go 5 (q' := (15, [some (.ref 60), some (.int v1), some (.int v2), some (.int v3)], [.int (M 3 3), .int v3], M)) rfl trivial ?_
  rcases am_it h with ⟨hc, h⟩ | ⟨hc, h⟩
  · refine am_R.bt rfl rfl hc ?_
    obtain ⟨hC, h⟩ := am_gd h
    refine am_R.go 4 (q' := (52, [some (.ref 60), some (.int v1), some (.int v2), some (.int v3)], [.int (M 62 (v1.toNatClampNeg))], M)) rfl ⟨hC, trivial⟩ ?_
    rcases am_it h with ⟨hc, h⟩ | ⟨hc, h⟩
    · refine am_R.ct rfl rfl hc ?_
      refine am_R.go 1 (q' := (78, [some (.ref 60), some (.int v1), some (.int v2), some (.int v3)], [.int 0], M)) rfl trivial ?_
      exact t_X1_outcome_78 z N v1 v2 0 _ _ h
    · refine am_R.cn rfl rfl hc ?_
      obtain ⟨hC, h⟩ := am_gd h
      refine am_R.go 10 (q' := (71, [some (.ref 60), some (.int v1), some (.int v2), some (.int v3)], [.int 2, .int ((M 62 (v1.toNatClampNeg)) - 1), .ref 5], M)) rfl ⟨hC, trivial⟩ ?_
      obtain ⟨r71, M71, hz, h⟩ := am_bi_s h
      refine am_R.call (e' := me_X8_at) (as := [.ref 5, .int ((M 62 (v1.toNatClampNeg)) - 1), .int 2]) (rest := []) rfl rfl (Nat.le_of_ble_eq_true rfl) (t_X8_at_5 z N ((M 62 (v1.toNatClampNeg)) - 1) 2 _ hz) ?_
      refine am_R.go 1 (q' := (78, [some (.ref 60), some (.int v1), some (.int v2), some (.int v3)], [.int r71], M71)) rfl trivial ?_
      exact t_X1_outcome_78 z N v1 v2 r71 _ _ h
  · refine am_R.bn rfl rfl hc ?_
    obtain ⟨hC, h⟩ := am_gd h
    refine am_R.go 4 (q' := (24, [some (.ref 60), some (.int v1), some (.int v2), some (.int v3)], [.int (M 62 (v3.toNatClampNeg))], M)) rfl ⟨hC, trivial⟩ ?_
    rcases am_it h with ⟨hc, h⟩ | ⟨hc, h⟩
    · refine am_R.ct rfl rfl hc ?_
      refine am_R.go 2 (q' := (4, [some (.ref 60), some (.int v1), some (.int v2), some (.int (v3 + 1))], [], M)) rfl trivial ?_
      exact hk4 v2 (v3 + 1) _ h
    · refine am_R.cn rfl rfl hc ?_
      obtain ⟨hC, h⟩ := am_gd h
      refine am_R.go 13 (q' := (4, [some (.ref 60), some (.int v1), some (.int (v2 ||| (1 <<< (((M 62 (v3.toNatClampNeg)) - 1) &&& 31)))), some (.int (v3 + 1))], [], M)) rfl ⟨hC, trivial⟩ ?_
      exact hk4 (v2 ||| (1 <<< (((M 62 (v3.toNatClampNeg)) - 1) &&& 31))) (v3 + 1) _ h
set_option maxRecDepth 100000 in
theorem t_X1_outcome_4 (z : Value) (N : Nat) (v1 : Int32) {r : Except Nat (Option Value)} {M' : am_M} : ∀ (n : Nat) (v2 : Int32) (v3 : Int32) (M : am_M), f_X1_outcome_4 N v1 n v2 v3 M = some (r, M') → cR z me_X1_outcome (4, [some (.ref 60), some (.int v1), some (.int v2), some (.int v3)], [], M) r M' := by
  intro n
  induction n with
  | zero => intro v2 v3 M h; cases h
  | succ n ih => intro v2 v3 M h; exact t_X1_outcome_4B z N v1 _ ih v2 v3 M h
def f_X1_outcome (N : Nat) (p1 : Int32) (M : am_M) : Option (Except Nat (Option Value) × am_M) :=
  f_X1_outcome_4 N p1 N 0 0 M
set_option maxRecDepth 100000 in
theorem t_X1_outcome (z : Value) (N : Nat) (p1 : Int32) (M : am_M) {r : Except Nat (Option Value)} {M' : am_M} (h : f_X1_outcome N p1 M = some (r, M')) : cR z me_X1_outcome (0, [some (.ref 60), some (.int p1), none, none], [], M) r M' := by
  unfold f_X1_outcome at h
  refine am_R.go 4 (q' := (4, [some (.ref 60), some (.int p1), some (.int 0), some (.int 0)], [], M)) rfl trivial ?_
  exact t_X1_outcome_4 z N p1 N 0 0 _ h
def f_X1_isOpen (N : Nat) (p1 : Int32) (M : am_M) : Option (Except Nat (Option Value) × am_M) :=
  if p1 = 0 then
    some (.ok (some (.int 1)), M)
  else
    if (((M 60 6) >>> ((p1 - 1) &&& 31)) &&& 1) = 0 then
      some (.ok (some (.int 0)), M)
    else
      some (.ok (some (.int 1)), M)
set_option maxRecDepth 100000 in
theorem t_X1_isOpen (z : Value) (N : Nat) (p1 : Int32) (M : am_M) {r : Except Nat (Option Value)} {M' : am_M} (h : f_X1_isOpen N p1 M = some (r, M')) : cR z me_X1_isOpen (0, [some (.ref 60), some (.int p1)], [], M) r M' := by
  unfold f_X1_isOpen at h
  refine am_R.go 1 (q' := (1, [some (.ref 60), some (.int p1)], [.int p1], M)) rfl trivial ?_
  rcases am_it h with ⟨hc, h⟩ | ⟨hc, h⟩
  · refine am_R.ct rfl rfl hc ?_
    refine am_R.go 2 (q' := (22, [some (.ref 60), some (.int p1)], [.int 1], M)) rfl trivial ?_
    cases h
    exact am_R.ret rfl rfl (Or.inr rfl)
  · refine am_R.cn rfl rfl hc ?_
    refine am_R.go 8 (q' := (14, [some (.ref 60), some (.int p1)], [.int (((M 60 6) >>> ((p1 - 1) &&& 31)) &&& 1)], M)) rfl trivial ?_
    rcases am_it h with ⟨hc, h⟩ | ⟨hc, h⟩
    · refine am_R.ct rfl rfl hc ?_
      refine am_R.go 1 (q' := (22, [some (.ref 60), some (.int p1)], [.int 0], M)) rfl trivial ?_
      cases h
      exact am_R.ret rfl rfl (Or.inl rfl)
    · refine am_R.cn rfl rfl hc ?_
      refine am_R.go 2 (q' := (22, [some (.ref 60), some (.int p1)], [.int 1], M)) rfl trivial ?_
      cases h
      exact am_R.ret rfl rfl (Or.inr rfl)
def f_X1_hasBetter_78 (N : Nat) (v1 : Int32) (v2 : Int32) (v4 : Int32) (M : am_M) : Option (Except Nat (Option Value) × am_M) :=
  if am_in v1 5 then
    if am_z v4 then some (.ok (some (.int v4)), am_up M 62 (v1.toNatClampNeg) v2) else none
  else none
set_option maxRecDepth 100000 in
theorem t_X1_hasBetter_78 (z : Value) (N : Nat) {r : Except Nat (Option Value)} {M' : am_M} (v1 : Int32) (v2 : Int32) (v4 : Int32) (d3 : Option Value) (d5 : Option Value) (M : am_M) (h : f_X1_hasBetter_78 N v1 v2 v4 M = some (r, M')) : cR z me_X1_hasBetter (78, [some (.ref 60), some (.int v1), some (.int v2), d3, some (.int v4), d5], [], M) r M' := by
  unfold f_X1_hasBetter_78 at h
  obtain ⟨hC, h⟩ := am_gd h
  refine am_R.go 6 (q' := (87, [some (.ref 60), some (.int v1), some (.int v2), d3, some (.int v4), d5], [.int v4], am_up M 62 (v1.toNatClampNeg) v2)) rfl ⟨hC, trivial⟩ ?_
  obtain ⟨hC, h⟩ := am_gd h
  cases h
  exact am_R.ret rfl rfl hC
def f_X1_hasBetter_19B (N : Nat) (v1 : Int32) (v2 : Int32) (v3 : Int32) (k19 : Int32 → Int32 → am_M → Option (Except Nat (Option Value) × am_M)) (v4 : Int32) (v5 : Int32) (M : am_M) : Option (Except Nat (Option Value) × am_M) :=
  if (M 5 3) < v5 then
    f_X1_hasBetter_78 N v1 v2 v4 M
  else
    if v4 = 0 then
      am_bi (f_X1_isOpen N v5 M) fun r42 M42 =>
        if r42 = 0 then
          k19 v4 (v5 + 1) M42
        else
          if am_in v1 5 then
            am_bi (f_X1_outcome N v1 (am_up M42 62 (v1.toNatClampNeg) v5)) fun r58 M58 =>
              if r58 ≤ v3 then
                k19 0 (v5 + 1) M58
              else
                k19 1 (v5 + 1) M58
          else none
    else
      f_X1_hasBetter_78 N v1 v2 v4 M
def f_X1_hasBetter_19 (N : Nat) (v1 : Int32) (v2 : Int32) (v3 : Int32) : Nat → Int32 → Int32 → am_M → Option (Except Nat (Option Value) × am_M)
  | 0 => fun _ _ _ => none
  | n + 1 => f_X1_hasBetter_19B N v1 v2 v3 (f_X1_hasBetter_19 N v1 v2 v3 n)
set_option maxRecDepth 100000 in
theorem t_X1_hasBetter_19B (z : Value) (N : Nat) (v1 : Int32) (v2 : Int32) (v3 : Int32) {r : Except Nat (Option Value)} {M' : am_M} (k19 : Int32 → Int32 → am_M → Option (Except Nat (Option Value) × am_M)) (hk19 : ∀ (v4 : Int32) (v5 : Int32) (M : am_M), k19 v4 v5 M = some (r, M') → cR z me_X1_hasBetter (19, [some (.ref 60), some (.int v1), some (.int v2), some (.int v3), some (.int v4), some (.int v5)], [], M) r M') (v4 : Int32) (v5 : Int32) (M : am_M) (h : f_X1_hasBetter_19B N v1 v2 v3 k19 v4 v5 M = some (r, M')) : cR z me_X1_hasBetter (19, [some (.ref 60), some (.int v1), some (.int v2), some (.int v3), some (.int v4), some (.int v5)], [], M) r M' := by
  unfold f_X1_hasBetter_19B at h
  refine am_R.go 5 (q' := (31, [some (.ref 60), some (.int v1), some (.int v2), some (.int v3), some (.int v4), some (.int v5)], [.int (M 5 3), .int v5], M)) rfl trivial ?_
  rcases am_it h with ⟨hc, h⟩ | ⟨hc, h⟩
  · refine am_R.bt rfl rfl hc ?_
    exact t_X1_hasBetter_78 z N v1 v2 v4 _ _ _ h
  · refine am_R.bn rfl rfl hc ?_
    refine am_R.go 1 (q' := (36, [some (.ref 60), some (.int v1), some (.int v2), some (.int v3), some (.int v4), some (.int v5)], [.int v4], M)) rfl trivial ?_
    rcases am_it h with ⟨hc, h⟩ | ⟨hc, h⟩
    · refine am_R.cn rfl rfl (fun q => q hc) ?_
      refine am_R.go 2 (q' := (42, [some (.ref 60), some (.int v1), some (.int v2), some (.int v3), some (.int v4), some (.int v5)], [.int v5, .ref 60], M)) rfl trivial ?_
      obtain ⟨r42, M42, hz, h⟩ := am_bi_s h
      refine am_R.call (e' := me_X1_isOpen) (as := [.ref 60, .int v5]) (rest := []) rfl rfl (Nat.le_of_ble_eq_true rfl) (t_X1_isOpen z N v5 _ hz) ?_
      rcases am_it h with ⟨hc, h⟩ | ⟨hc, h⟩
      · refine am_R.ct rfl rfl hc ?_
        refine am_R.go 2 (q' := (19, [some (.ref 60), some (.int v1), some (.int v2), some (.int v3), some (.int v4), some (.int (v5 + 1))], [], M42)) rfl trivial ?_
        exact hk19 v4 (v5 + 1) _ h
      · refine am_R.cn rfl rfl hc ?_
        obtain ⟨hC, h⟩ := am_gd h
        refine am_R.go 7 (q' := (58, [some (.ref 60), some (.int v1), some (.int v2), some (.int v3), some (.int v4), some (.int v5)], [.int v1, .ref 60], am_up M42 62 (v1.toNatClampNeg) v5)) rfl ⟨hC, trivial⟩ ?_
        obtain ⟨r58, M58, hz, h⟩ := am_bi_s h
        refine am_R.call (e' := me_X1_outcome) (as := [.ref 60, .int v1]) (rest := []) rfl rfl (Nat.le_of_ble_eq_true rfl) (t_X1_outcome z N v1 _ hz) ?_
        refine am_R.go 1 (q' := (62, [some (.ref 60), some (.int v1), some (.int v2), some (.int v3), some (.int v4), some (.int v5)], [.int v3, .int r58], M58)) rfl trivial ?_
        rcases am_it h with ⟨hc, h⟩ | ⟨hc, h⟩
        · refine am_R.bt rfl rfl hc ?_
          refine am_R.go 4 (q' := (19, [some (.ref 60), some (.int v1), some (.int v2), some (.int v3), some (.int 0), some (.int (v5 + 1))], [], M58)) rfl trivial ?_
          exact hk19 0 (v5 + 1) _ h
        · refine am_R.bn rfl rfl hc ?_
          refine am_R.go 5 (q' := (19, [some (.ref 60), some (.int v1), some (.int v2), some (.int v3), some (.int 1), some (.int (v5 + 1))], [], M58)) rfl trivial ?_
          exact hk19 1 (v5 + 1) _ h
    · refine am_R.ct rfl rfl hc ?_
      exact t_X1_hasBetter_78 z N v1 v2 v4 _ _ _ h
set_option maxRecDepth 100000 in
theorem t_X1_hasBetter_19 (z : Value) (N : Nat) (v1 : Int32) (v2 : Int32) (v3 : Int32) {r : Except Nat (Option Value)} {M' : am_M} : ∀ (n : Nat) (v4 : Int32) (v5 : Int32) (M : am_M), f_X1_hasBetter_19 N v1 v2 v3 n v4 v5 M = some (r, M') → cR z me_X1_hasBetter (19, [some (.ref 60), some (.int v1), some (.int v2), some (.int v3), some (.int v4), some (.int v5)], [], M) r M' := by
  intro n
  induction n with
  | zero => intro v4 v5 M h; cases h
  | succ n ih => intro v4 v5 M h; exact t_X1_hasBetter_19B z N v1 v2 v3 _ ih v4 v5 M h
def f_X1_hasBetter (N : Nat) (p1 : Int32) (M : am_M) : Option (Except Nat (Option Value) × am_M) :=
  if am_in p1 5 then
    am_bi (f_X1_outcome N p1 M) fun r9 M9 =>
      f_X1_hasBetter_19 N p1 (M 62 (p1.toNatClampNeg)) r9 N 0 0 M9
  else none
set_option maxRecDepth 100000 in
theorem t_X1_hasBetter (z : Value) (N : Nat) (p1 : Int32) (M : am_M) {r : Except Nat (Option Value)} {M' : am_M} (h : f_X1_hasBetter N p1 M = some (r, M')) : cR z me_X1_hasBetter (0, [some (.ref 60), some (.int p1), none, none, none, none], [], M) r M' := by
  unfold f_X1_hasBetter at h
  obtain ⟨hC, h⟩ := am_gd h
  refine am_R.go 7 (q' := (9, [some (.ref 60), some (.int p1), some (.int (M 62 (p1.toNatClampNeg))), none, none, none], [.int p1, .ref 60], M)) rfl ⟨hC, trivial⟩ ?_
  obtain ⟨r9, M9, hz, h⟩ := am_bi_s h
  refine am_R.call (e' := me_X1_outcome) (as := [.ref 60, .int p1]) (rest := []) rfl rfl (Nat.le_of_ble_eq_true rfl) (t_X1_outcome z N p1 _ hz) ?_
  refine am_R.go 5 (q' := (19, [some (.ref 60), some (.int p1), some (.int (M 62 (p1.toNatClampNeg))), some (.int r9), some (.int 0), some (.int 0)], [], M9)) rfl trivial ?_
  exact t_X1_hasBetter_19 z N p1 (M 62 (p1.toNatClampNeg)) r9 N 0 0 _ h
def f_X1_isRest_39B (N : Nat) (k39 : Int32 → am_M → Option (Except Nat (Option Value) × am_M)) (v1 : Int32) (M : am_M) : Option (Except Nat (Option Value) × am_M) :=
  if (M 3 3) ≤ v1 then
    some (.ok (some (.int 1)), M)
  else
    am_bi (f_X1_hasBetter N v1 M) fun r55 M55 =>
      if r55 = 0 then
        k39 (v1 + 1) M55
      else
        some (.ok (some (.int 0)), M55)
def f_X1_isRest_39 (N : Nat) : Nat → Int32 → am_M → Option (Except Nat (Option Value) × am_M)
  | 0 => fun _ _ => none
  | n + 1 => f_X1_isRest_39B N (f_X1_isRest_39 N n)
set_option maxRecDepth 100000 in
theorem t_X1_isRest_39B (z : Value) (N : Nat) {r : Except Nat (Option Value)} {M' : am_M} (k39 : Int32 → am_M → Option (Except Nat (Option Value) × am_M)) (hk39 : ∀ (v1 : Int32) (M : am_M), k39 v1 M = some (r, M') → cR z me_X1_isRest (39, [some (.ref 60), some (.int v1)], [], M) r M') (v1 : Int32) (M : am_M) (h : f_X1_isRest_39B N k39 v1 M = some (r, M')) : cR z me_X1_isRest (39, [some (.ref 60), some (.int v1)], [], M) r M' := by
  unfold f_X1_isRest_39B at h
  refine am_R.go 5 (q' := (50, [some (.ref 60), some (.int v1)], [.int (M 3 3), .int v1], M)) rfl trivial ?_
  rcases am_it h with ⟨hc, h⟩ | ⟨hc, h⟩
  · refine am_R.bt rfl rfl hc ?_
    refine am_R.go 1 (q' := (70, [some (.ref 60), some (.int v1)], [.int 1], M)) rfl trivial ?_
    cases h
    exact am_R.ret rfl rfl (Or.inr rfl)
  · refine am_R.bn rfl rfl hc ?_
    refine am_R.go 2 (q' := (55, [some (.ref 60), some (.int v1)], [.int v1, .ref 60], M)) rfl trivial ?_
    obtain ⟨r55, M55, hz, h⟩ := am_bi_s h
    refine am_R.call (e' := me_X1_hasBetter) (as := [.ref 60, .int v1]) (rest := []) rfl rfl (Nat.le_of_ble_eq_true rfl) (t_X1_hasBetter z N v1 _ hz) ?_
    rcases am_it h with ⟨hc, h⟩ | ⟨hc, h⟩
    · refine am_R.ct rfl rfl hc ?_
      refine am_R.go 2 (q' := (39, [some (.ref 60), some (.int (v1 + 1))], [], M55)) rfl trivial ?_
      exact hk39 (v1 + 1) _ h
    · refine am_R.cn rfl rfl hc ?_
      refine am_R.go 1 (q' := (62, [some (.ref 60), some (.int v1)], [.int 0], M55)) rfl trivial ?_
      cases h
      exact am_R.ret rfl rfl (Or.inl rfl)
set_option maxRecDepth 100000 in
theorem t_X1_isRest_39 (z : Value) (N : Nat) {r : Except Nat (Option Value)} {M' : am_M} : ∀ (n : Nat) (v1 : Int32) (M : am_M), f_X1_isRest_39 N n v1 M = some (r, M') → cR z me_X1_isRest (39, [some (.ref 60), some (.int v1)], [], M) r M' := by
  intro n
  induction n with
  | zero => intro v1 M h; cases h
  | succ n ih => intro v1 M h; exact t_X1_isRest_39B z N _ ih v1 M h
def f_X1_isRest_2B (N : Nat) (k2 : Int32 → am_M → Option (Except Nat (Option Value) × am_M)) (v1 : Int32) (M : am_M) : Option (Except Nat (Option Value) × am_M) :=
  if (M 3 3) ≤ v1 then
    f_X1_isRest_39 N N 0 M
  else
    if am_in v1 5 then
      am_bi (f_X1_isOpen N (M 62 (v1.toNatClampNeg)) M) fun r23 M23 =>
        if r23 = 0 then
          some (.ok (some (.int 0)), M23)
        else
          k2 (v1 + 1) M23
    else none
def f_X1_isRest_2 (N : Nat) : Nat → Int32 → am_M → Option (Except Nat (Option Value) × am_M)
  | 0 => fun _ _ => none
  | n + 1 => f_X1_isRest_2B N (f_X1_isRest_2 N n)
set_option maxRecDepth 100000 in
theorem t_X1_isRest_2B (z : Value) (N : Nat) {r : Except Nat (Option Value)} {M' : am_M} (k2 : Int32 → am_M → Option (Except Nat (Option Value) × am_M)) (hk2 : ∀ (v1 : Int32) (M : am_M), k2 v1 M = some (r, M') → cR z me_X1_isRest (2, [some (.ref 60), some (.int v1)], [], M) r M') (v1 : Int32) (M : am_M) (h : f_X1_isRest_2B N k2 v1 M = some (r, M')) : cR z me_X1_isRest (2, [some (.ref 60), some (.int v1)], [], M) r M' := by
  unfold f_X1_isRest_2B at h
  refine am_R.go 5 (q' := (13, [some (.ref 60), some (.int v1)], [.int (M 3 3), .int v1], M)) rfl trivial ?_
  rcases am_it h with ⟨hc, h⟩ | ⟨hc, h⟩
  · refine am_R.bt rfl rfl hc ?_
    refine am_R.go 2 (q' := (39, [some (.ref 60), some (.int 0)], [], M)) rfl trivial ?_
    exact t_X1_isRest_39 z N N 0 _ h
  · refine am_R.bn rfl rfl hc ?_
    obtain ⟨hC, h⟩ := am_gd h
    refine am_R.go 5 (q' := (23, [some (.ref 60), some (.int v1)], [.int (M 62 (v1.toNatClampNeg)), .ref 60], M)) rfl ⟨hC, trivial⟩ ?_
    obtain ⟨r23, M23, hz, h⟩ := am_bi_s h
    refine am_R.call (e' := me_X1_isOpen) (as := [.ref 60, .int (M 62 (v1.toNatClampNeg))]) (rest := []) rfl rfl (Nat.le_of_ble_eq_true rfl) (t_X1_isOpen z N (M 62 (v1.toNatClampNeg)) _ hz) ?_
    rcases am_it h with ⟨hc, h⟩ | ⟨hc, h⟩
    · refine am_R.cn rfl rfl (fun q => q hc) ?_
      refine am_R.go 1 (q' := (30, [some (.ref 60), some (.int v1)], [.int 0], M23)) rfl trivial ?_
      cases h
      exact am_R.ret rfl rfl (Or.inl rfl)
    · refine am_R.ct rfl rfl hc ?_
      refine am_R.go 2 (q' := (2, [some (.ref 60), some (.int (v1 + 1))], [], M23)) rfl trivial ?_
      exact hk2 (v1 + 1) _ h
set_option maxRecDepth 100000 in
theorem t_X1_isRest_2 (z : Value) (N : Nat) {r : Except Nat (Option Value)} {M' : am_M} : ∀ (n : Nat) (v1 : Int32) (M : am_M), f_X1_isRest_2 N n v1 M = some (r, M') → cR z me_X1_isRest (2, [some (.ref 60), some (.int v1)], [], M) r M' := by
  intro n
  induction n with
  | zero => intro v1 M h; cases h
  | succ n ih => intro v1 M h; exact t_X1_isRest_2B z N _ ih v1 M h
def f_X1_isRest (N : Nat) (M : am_M) : Option (Except Nat (Option Value) × am_M) :=
  f_X1_isRest_2 N N 0 M
set_option maxRecDepth 100000 in
theorem t_X1_isRest (z : Value) (N : Nat) (M : am_M) {r : Except Nat (Option Value)} {M' : am_M} (h : f_X1_isRest N M = some (r, M')) : cR z me_X1_isRest (0, [some (.ref 60), none], [], M) r M' := by
  unfold f_X1_isRest at h
  refine am_R.go 2 (q' := (2, [some (.ref 60), some (.int 0)], [], M)) rfl trivial ?_
  exact t_X1_isRest_2 z N N 0 _ h
def f_X1_nextRow_13B (N : Nat) (k13 : Int32 → am_M → Option (Except Nat (Option Value) × am_M)) (v1 : Int32) (M : am_M) : Option (Except Nat (Option Value) × am_M) :=
  if v1 < 0 then
    some (.ok (some (.int 0)), M)
  else
    if am_in v1 5 then
      if (M 5 3) ≤ (M 62 (v1.toNatClampNeg)) then
        if am_in v1 5 then
          k13 (v1 + (-1)) (am_up M 62 (v1.toNatClampNeg) 0)
        else none
      else
        if am_in v1 5 then
          some (.ok (some (.int 1)), am_up M 62 (v1.toNatClampNeg) ((M 62 (v1.toNatClampNeg)) + 1))
        else none
    else none
def f_X1_nextRow_13 (N : Nat) : Nat → Int32 → am_M → Option (Except Nat (Option Value) × am_M)
  | 0 => fun _ _ => none
  | n + 1 => f_X1_nextRow_13B N (f_X1_nextRow_13 N n)
set_option maxRecDepth 100000 in
theorem t_X1_nextRow_13B (z : Value) (N : Nat) {r : Except Nat (Option Value)} {M' : am_M} (k13 : Int32 → am_M → Option (Except Nat (Option Value) × am_M)) (hk13 : ∀ (v1 : Int32) (M : am_M), k13 v1 M = some (r, M') → cR z me_X1_nextRow (13, [some (.ref 60), some (.int v1)], [], M) r M') (v1 : Int32) (M : am_M) (h : f_X1_nextRow_13B N k13 v1 M = some (r, M')) : cR z me_X1_nextRow (13, [some (.ref 60), some (.int v1)], [], M) r M' := by
  unfold f_X1_nextRow_13B at h
  refine am_R.go 1 (q' := (14, [some (.ref 60), some (.int v1)], [.int v1], M)) rfl trivial ?_
  rcases am_it h with ⟨hc, h⟩ | ⟨hc, h⟩
  · refine am_R.ct rfl rfl hc ?_
    refine am_R.go 1 (q' := (62, [some (.ref 60), some (.int v1)], [.int 0], M)) rfl trivial ?_
    cases h
    exact am_R.ret rfl rfl (Or.inl rfl)
  · refine am_R.cn rfl rfl hc ?_
    obtain ⟨hC, h⟩ := am_gd h
    refine am_R.go 8 (q' := (33, [some (.ref 60), some (.int v1)], [.int (M 5 3), .int (M 62 (v1.toNatClampNeg))], M)) rfl ⟨hC, trivial⟩ ?_
    rcases am_it h with ⟨hc, h⟩ | ⟨hc, h⟩
    · refine am_R.bt rfl rfl hc ?_
      obtain ⟨hC, h⟩ := am_gd h
      refine am_R.go 7 (q' := (13, [some (.ref 60), some (.int (v1 + (-1)))], [], am_up M 62 (v1.toNatClampNeg) 0)) rfl ⟨hC, trivial⟩ ?_
      exact hk13 (v1 + (-1)) _ h
    · refine am_R.bn rfl rfl hc ?_
      obtain ⟨hC, h⟩ := am_gd h
      refine am_R.go 9 (q' := (47, [some (.ref 60), some (.int v1)], [.int 1], am_up M 62 (v1.toNatClampNeg) ((M 62 (v1.toNatClampNeg)) + 1))) rfl ⟨hC, hC, trivial⟩ ?_
      cases h
      exact am_R.ret rfl rfl (Or.inr rfl)
set_option maxRecDepth 100000 in
theorem t_X1_nextRow_13 (z : Value) (N : Nat) {r : Except Nat (Option Value)} {M' : am_M} : ∀ (n : Nat) (v1 : Int32) (M : am_M), f_X1_nextRow_13 N n v1 M = some (r, M') → cR z me_X1_nextRow (13, [some (.ref 60), some (.int v1)], [], M) r M' := by
  intro n
  induction n with
  | zero => intro v1 M h; cases h
  | succ n ih => intro v1 M h; exact t_X1_nextRow_13B z N _ ih v1 M h
def f_X1_nextRow (N : Nat) (M : am_M) : Option (Except Nat (Option Value) × am_M) :=
  f_X1_nextRow_13 N N ((M 3 3) - 1) M
set_option maxRecDepth 100000 in
theorem t_X1_nextRow (z : Value) (N : Nat) (M : am_M) {r : Except Nat (Option Value)} {M' : am_M} (h : f_X1_nextRow N M = some (r, M')) : cR z me_X1_nextRow (0, [some (.ref 60), none], [], M) r M' := by
  unfold f_X1_nextRow at h
  refine am_R.go 7 (q' := (13, [some (.ref 60), some (.int ((M 3 3) - 1))], [], M)) rfl trivial ?_
  exact t_X1_nextRow_13 z N N ((M 3 3) - 1) _ h
def f_X1_digitsOfChoices_4B (N : Nat) (k4 : Int32 → Int32 → am_M → Option (Except Nat (Option Value) × am_M)) (v1 : Int32) (v2 : Int32) (M : am_M) : Option (Except Nat (Option Value) × am_M) :=
  if (M 3 3) ≤ v2 then
    some (.ok (some (.int v1)), M)
  else
    if am_in v2 5 then
      k4 ((v1 * 10) + (M 62 (v2.toNatClampNeg))) (v2 + 1) M
    else none
def f_X1_digitsOfChoices_4 (N : Nat) : Nat → Int32 → Int32 → am_M → Option (Except Nat (Option Value) × am_M)
  | 0 => fun _ _ _ => none
  | n + 1 => f_X1_digitsOfChoices_4B N (f_X1_digitsOfChoices_4 N n)
set_option maxRecDepth 100000 in
theorem t_X1_digitsOfChoices_4B (z : Value) (N : Nat) {r : Except Nat (Option Value)} {M' : am_M} (k4 : Int32 → Int32 → am_M → Option (Except Nat (Option Value) × am_M)) (hk4 : ∀ (v1 : Int32) (v2 : Int32) (M : am_M), k4 v1 v2 M = some (r, M') → cR z me_X1_digitsOfChoices (4, [some (.ref 60), some (.int v1), some (.int v2)], [], M) r M') (v1 : Int32) (v2 : Int32) (M : am_M) (h : f_X1_digitsOfChoices_4B N k4 v1 v2 M = some (r, M')) : cR z me_X1_digitsOfChoices (4, [some (.ref 60), some (.int v1), some (.int v2)], [], M) r M' := by
  unfold f_X1_digitsOfChoices_4B at h
  refine am_R.go 5 (q' := (15, [some (.ref 60), some (.int v1), some (.int v2)], [.int (M 3 3), .int v2], M)) rfl trivial ?_
  rcases am_it h with ⟨hc, h⟩ | ⟨hc, h⟩
  · refine am_R.bt rfl rfl hc ?_
    refine am_R.go 1 (q' := (37, [some (.ref 60), some (.int v1), some (.int v2)], [.int v1], M)) rfl trivial ?_
    cases h
    exact am_R.ret rfl rfl trivial
  · refine am_R.bn rfl rfl hc ?_
    obtain ⟨hC, h⟩ := am_gd h
    refine am_R.go 11 (q' := (4, [some (.ref 60), some (.int ((v1 * 10) + (M 62 (v2.toNatClampNeg)))), some (.int (v2 + 1))], [], M)) rfl ⟨hC, trivial⟩ ?_
    exact hk4 ((v1 * 10) + (M 62 (v2.toNatClampNeg))) (v2 + 1) _ h
set_option maxRecDepth 100000 in
theorem t_X1_digitsOfChoices_4 (z : Value) (N : Nat) {r : Except Nat (Option Value)} {M' : am_M} : ∀ (n : Nat) (v1 : Int32) (v2 : Int32) (M : am_M), f_X1_digitsOfChoices_4 N n v1 v2 M = some (r, M') → cR z me_X1_digitsOfChoices (4, [some (.ref 60), some (.int v1), some (.int v2)], [], M) r M' := by
  intro n
  induction n with
  | zero => intro v1 v2 M h; cases h
  | succ n ih => intro v1 v2 M h; exact t_X1_digitsOfChoices_4B z N _ ih v1 v2 M h
def f_X1_digitsOfChoices (N : Nat) (M : am_M) : Option (Except Nat (Option Value) × am_M) :=
  f_X1_digitsOfChoices_4 N N 0 0 M
set_option maxRecDepth 100000 in
theorem t_X1_digitsOfChoices (z : Value) (N : Nat) (M : am_M) {r : Except Nat (Option Value)} {M' : am_M} (h : f_X1_digitsOfChoices N M = some (r, M')) : cR z me_X1_digitsOfChoices (0, [some (.ref 60), none, none], [], M) r M' := by
  unfold f_X1_digitsOfChoices at h
  refine am_R.go 4 (q' := (4, [some (.ref 60), some (.int 0), some (.int 0)], [], M)) rfl trivial ?_
  exact t_X1_digitsOfChoices_4 z N N 0 0 _ h
def f_X1_findRests_93 (N : Nat) (k54 : Int32 → am_M → Option (Except Nat (Option Value) × am_M)) (v1 : Int32) (M : am_M) : Option (Except Nat (Option Value) × am_M) :=
  am_bi (f_X1_nextRow N M) fun r94 M94 =>
    if r94 = 0 then
      some (.ok none, M94)
    else
      k54 (v1 + 1) M94
set_option maxRecDepth 100000 in
theorem t_X1_findRests_93 (z : Value) (N : Nat) (k54 : Int32 → am_M → Option (Except Nat (Option Value) × am_M)) {r : Except Nat (Option Value)} {M' : am_M} (v1 : Int32) (M : am_M) (hk54 : ∀ (v1 : Int32) (M : am_M), k54 v1 M = some (r, M') → cR z me_X1_findRests (54, [some (.ref 60), some (.int v1)], [], M) r M') (h : f_X1_findRests_93 N k54 v1 M = some (r, M')) : cR z me_X1_findRests (93, [some (.ref 60), some (.int v1)], [], M) r M' := by
  unfold f_X1_findRests_93 at h
  refine am_R.go 1 (q' := (94, [some (.ref 60), some (.int v1)], [.ref 60], M)) rfl trivial ?_
  obtain ⟨r94, M94, hz, h⟩ := am_bi_s h
  refine am_R.call (e' := me_X1_nextRow) (as := [.ref 60]) (rest := []) rfl rfl (Nat.le_of_ble_eq_true rfl) (t_X1_nextRow z N _ hz) ?_
  rcases am_it h with ⟨hc, h⟩ | ⟨hc, h⟩
  · refine am_R.cn rfl rfl (fun q => q hc) ?_
    cases h
    exact am_R.ret rfl rfl trivial
  · refine am_R.ct rfl rfl hc ?_
    refine am_R.go 2 (q' := (54, [some (.ref 60), some (.int (v1 + 1))], [], M94)) rfl trivial ?_
    exact hk54 (v1 + 1) _ h
def f_X1_findRests_83 (N : Nat) (k54 : Int32 → am_M → Option (Except Nat (Option Value) × am_M)) (v1 : Int32) (M : am_M) : Option (Except Nat (Option Value) × am_M) :=
  f_X1_findRests_93 N k54 v1 (am_up M 60 2 ((M 60 2) + 1))
set_option maxRecDepth 100000 in
theorem t_X1_findRests_83 (z : Value) (N : Nat) (k54 : Int32 → am_M → Option (Except Nat (Option Value) × am_M)) {r : Except Nat (Option Value)} {M' : am_M} (v1 : Int32) (M : am_M) (hk54 : ∀ (v1 : Int32) (M : am_M), k54 v1 M = some (r, M') → cR z me_X1_findRests (54, [some (.ref 60), some (.int v1)], [], M) r M') (h : f_X1_findRests_83 N k54 v1 M = some (r, M')) : cR z me_X1_findRests (83, [some (.ref 60), some (.int v1)], [], M) r M' := by
  unfold f_X1_findRests_83 at h
  refine am_R.go 6 (q' := (93, [some (.ref 60), some (.int v1)], [], am_up M 60 2 ((M 60 2) + 1))) rfl trivial ?_
  exact t_X1_findRests_93 z N k54 v1 _ hk54 h
def f_X1_findRests_54B (N : Nat) (k54 : Int32 → am_M → Option (Except Nat (Option Value) × am_M)) (v1 : Int32) (M : am_M) : Option (Except Nat (Option Value) × am_M) :=
  if 3125 ≤ v1 then
    some (.ok none, M)
  else
    am_bi (f_X1_isRest N M) fun r62 M62 =>
      if r62 = 0 then
        f_X1_findRests_93 N k54 v1 M62
      else
        if (M62 60 2) = 0 then
          am_bi (f_X1_digitsOfChoices N M62) fun r77 M77 =>
            f_X1_findRests_83 N k54 v1 (am_up M77 60 3 r77)
        else
          f_X1_findRests_83 N k54 v1 M62
def f_X1_findRests_54 (N : Nat) : Nat → Int32 → am_M → Option (Except Nat (Option Value) × am_M)
  | 0 => fun _ _ => none
  | n + 1 => f_X1_findRests_54B N (f_X1_findRests_54 N n)
set_option maxRecDepth 100000 in
theorem t_X1_findRests_54B (z : Value) (N : Nat) {r : Except Nat (Option Value)} {M' : am_M} (k54 : Int32 → am_M → Option (Except Nat (Option Value) × am_M)) (hk54 : ∀ (v1 : Int32) (M : am_M), k54 v1 M = some (r, M') → cR z me_X1_findRests (54, [some (.ref 60), some (.int v1)], [], M) r M') (v1 : Int32) (M : am_M) (h : f_X1_findRests_54B N k54 v1 M = some (r, M')) : cR z me_X1_findRests (54, [some (.ref 60), some (.int v1)], [], M) r M' := by
  unfold f_X1_findRests_54B at h
  refine am_R.go 2 (q' := (58, [some (.ref 60), some (.int v1)], [.int 3125, .int v1], M)) rfl trivial ?_
  rcases am_it h with ⟨hc, h⟩ | ⟨hc, h⟩
  · refine am_R.bt rfl rfl hc ?_
    cases h
    exact am_R.ret rfl rfl trivial
  · refine am_R.bn rfl rfl hc ?_
    refine am_R.go 1 (q' := (62, [some (.ref 60), some (.int v1)], [.ref 60], M)) rfl trivial ?_
    obtain ⟨r62, M62, hz, h⟩ := am_bi_s h
    refine am_R.call (e' := me_X1_isRest) (as := [.ref 60]) (rest := []) rfl rfl (Nat.le_of_ble_eq_true rfl) (t_X1_isRest z N _ hz) ?_
    rcases am_it h with ⟨hc, h⟩ | ⟨hc, h⟩
    · refine am_R.ct rfl rfl hc ?_
      exact t_X1_findRests_93 z N k54 v1 _ hk54 h
    · refine am_R.cn rfl rfl hc ?_
      refine am_R.go 2 (q' := (72, [some (.ref 60), some (.int v1)], [.int (M62 60 2)], M62)) rfl trivial ?_
      rcases am_it h with ⟨hc, h⟩ | ⟨hc, h⟩
      · refine am_R.cn rfl rfl (fun q => q hc) ?_
        refine am_R.go 2 (q' := (77, [some (.ref 60), some (.int v1)], [.ref 60, .ref 60], M62)) rfl trivial ?_
        obtain ⟨r77, M77, hz, h⟩ := am_bi_s h
        refine am_R.call (e' := me_X1_digitsOfChoices) (as := [.ref 60]) (rest := [.ref 60]) rfl rfl (Nat.le_of_ble_eq_true rfl) (t_X1_digitsOfChoices z N _ hz) ?_
        refine am_R.go 1 (q' := (83, [some (.ref 60), some (.int v1)], [], am_up M77 60 3 r77)) rfl trivial ?_
        exact t_X1_findRests_83 z N k54 v1 _ hk54 h
      · refine am_R.ct rfl rfl hc ?_
        exact t_X1_findRests_83 z N k54 v1 _ hk54 h
set_option maxRecDepth 100000 in
theorem t_X1_findRests_54 (z : Value) (N : Nat) {r : Except Nat (Option Value)} {M' : am_M} : ∀ (n : Nat) (v1 : Int32) (M : am_M), f_X1_findRests_54 N n v1 M = some (r, M') → cR z me_X1_findRests (54, [some (.ref 60), some (.int v1)], [], M) r M' := by
  intro n
  induction n with
  | zero => intro v1 M h; cases h
  | succ n ih => intro v1 M h; exact t_X1_findRests_54B z N _ ih v1 M h
def f_X1_findRests_34B (N : Nat) (k34 : Int32 → am_M → Option (Except Nat (Option Value) × am_M)) (v1 : Int32) (M : am_M) : Option (Except Nat (Option Value) × am_M) :=
  if 5 ≤ v1 then
    f_X1_findRests_54 N N 0 M
  else
    if am_in v1 5 then
      k34 (v1 + 1) (am_up M 62 (v1.toNatClampNeg) 0)
    else none
def f_X1_findRests_34 (N : Nat) : Nat → Int32 → am_M → Option (Except Nat (Option Value) × am_M)
  | 0 => fun _ _ => none
  | n + 1 => f_X1_findRests_34B N (f_X1_findRests_34 N n)
set_option maxRecDepth 100000 in
theorem t_X1_findRests_34B (z : Value) (N : Nat) {r : Except Nat (Option Value)} {M' : am_M} (k34 : Int32 → am_M → Option (Except Nat (Option Value) × am_M)) (hk34 : ∀ (v1 : Int32) (M : am_M), k34 v1 M = some (r, M') → cR z me_X1_findRests (34, [some (.ref 60), some (.int v1)], [], M) r M') (v1 : Int32) (M : am_M) (h : f_X1_findRests_34B N k34 v1 M = some (r, M')) : cR z me_X1_findRests (34, [some (.ref 60), some (.int v1)], [], M) r M' := by
  unfold f_X1_findRests_34B at h
  refine am_R.go 2 (q' := (36, [some (.ref 60), some (.int v1)], [.int 5, .int v1], M)) rfl trivial ?_
  rcases am_it h with ⟨hc, h⟩ | ⟨hc, h⟩
  · refine am_R.bt rfl rfl hc ?_
    refine am_R.go 2 (q' := (54, [some (.ref 60), some (.int 0)], [], M)) rfl trivial ?_
    exact t_X1_findRests_54 z N N 0 _ h
  · refine am_R.bn rfl rfl hc ?_
    obtain ⟨hC, h⟩ := am_gd h
    refine am_R.go 7 (q' := (34, [some (.ref 60), some (.int (v1 + 1))], [], am_up M 62 (v1.toNatClampNeg) 0)) rfl ⟨hC, trivial⟩ ?_
    exact hk34 (v1 + 1) _ h
set_option maxRecDepth 100000 in
theorem t_X1_findRests_34 (z : Value) (N : Nat) {r : Except Nat (Option Value)} {M' : am_M} : ∀ (n : Nat) (v1 : Int32) (M : am_M), f_X1_findRests_34 N n v1 M = some (r, M') → cR z me_X1_findRests (34, [some (.ref 60), some (.int v1)], [], M) r M' := by
  intro n
  induction n with
  | zero => intro v1 M h; cases h
  | succ n ih => intro v1 M h; exact t_X1_findRests_34B z N _ ih v1 M h
def f_X1_findRests (N : Nat) (M : am_M) : Option (Except Nat (Option Value) × am_M) :=
  am_bi (f_X2_bare_13_5 N (am_up (am_up M 60 2 0) 60 3 (-1))) fun r22 M22 =>
    am_bv (f_X1_fillWorths N (am_up M22 60 6 r22)) fun M29 =>
      f_X1_findRests_34 N N 0 M29
set_option maxRecDepth 100000 in
theorem t_X1_findRests (z : Value) (N : Nat) (M : am_M) {r : Except Nat (Option Value)} {M' : am_M} (h : f_X1_findRests N M = some (r, M')) : cR z me_X1_findRests (0, [some (.ref 60), none], [], M) r M' := by
  unfold f_X1_findRests at h
  refine am_R.go 12 (q' := (22, [some (.ref 60), none], [.ref 5, .ref 13, .ref 60], am_up (am_up M 60 2 0) 60 3 (-1))) rfl trivial ?_
  obtain ⟨r22, M22, hz, h⟩ := am_bi_s h
  refine am_R.call (e' := me_X2_bare) (as := [.ref 13, .ref 5]) (rest := [.ref 60]) rfl rfl (Nat.le_of_ble_eq_true rfl) (t_X2_bare_13_5 z N _ hz) ?_
  refine am_R.go 2 (q' := (29, [some (.ref 60), none], [.ref 60], am_up M22 60 6 r22)) rfl trivial ?_
  obtain ⟨M29, hz, h⟩ := am_bv_s h
  refine am_R.call (e' := me_X1_fillWorths) (as := [.ref 60]) (rest := []) rfl rfl (Nat.le_of_ble_eq_true rfl) (t_X1_fillWorths z N _ hz) ?_
  refine am_R.go 2 (q' := (34, [some (.ref 60), some (.int 0)], [], M29)) rfl trivial ?_
  exact t_X1_findRests_34 z N N 0 _ h
