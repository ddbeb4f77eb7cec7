def f_X5_readAll_44B (N : Nat) (k44 : Int32 → am_M → Option (Except Nat (Option Value) × am_M)) (v2 : Int32) (M : am_M) : Option (Except Nat (Option Value) × am_M) :=
  if 60 < v2 then
    some (.ok none, M)
  else
    if (M 18 2) = 0 then
      am_bv (f_X5_skipBlanks N M) fun M58 =>
        if (M58 18 6) < (M58 18 5) then
          am_bi (f_X5_readKind N v2 M58) fun r75 M75 =>
            if (M75 18 2) = 0 then
              am_bv (f_X5_readNumbers N r75 M75) fun M88 =>
                am_bv (f_X5_readEnd N M88) fun M92 =>
                  k44 (v2 + 1) M92
            else
              k44 (v2 + 1) M75
        else
          some (.ok none, M58)
    else
      some (.ok none, M)
def f_X5_readAll_44 (N : Nat) : Nat → Int32 → am_M → Option (Except Nat (Option Value) × am_M)
  | 0 => fun _ _ => none
  | n + 1 => f_X5_readAll_44B N (f_X5_readAll_44 N n)
set_option maxRecDepth 100000 in
theorem t_X5_readAll_44B (z : Value) (N : Nat) {r : Except Nat (Option Value)} {M' : am_M} (k44 : Int32 → am_M → Option (Except Nat (Option Value) × am_M)) (hk44 : ∀ (v2 : Int32) (d1 : Option Value) (d3 : Option Value) (M : am_M), k44 v2 M = some (r, M') → cR z me_X5_readAll (44, [some (.ref 18), d1, some (.int v2), d3], [], M) r M') (v2 : Int32) (d1 : Option Value) (d3 : Option Value) (M : am_M) (h : f_X5_readAll_44B N k44 v2 M = some (r, M')) : cR z me_X5_readAll (44, [some (.ref 18), d1, some (.int v2), d3], [], M) r M' := by
  unfold f_X5_readAll_44B at h
  refine am_R.go 2 (q' := (47, [some (.ref 18), d1, some (.int v2), d3], [.int 60, .int v2], M)) rfl trivial ?_
  rcases am_it h with ⟨hc, h⟩ | ⟨hc, h⟩
  · refine am_R.bt rfl rfl hc ?_
    cases h
    exact am_R.ret rfl rfl trivial
  · refine am_R.bn rfl rfl hc ?_
    refine am_R.go 2 (q' := (54, [some (.ref 18), d1, some (.int v2), d3], [.int (M 18 2)], M)) rfl trivial ?_
    rcases am_it h with ⟨hc, h⟩ | ⟨hc, h⟩
    · refine am_R.cn rfl rfl (fun q => q hc) ?_
      refine am_R.go 1 (q' := (58, [some (.ref 18), d1, some (.int v2), d3], [.ref 18], M)) rfl trivial ?_
      obtain ⟨M58, hz, h⟩ := am_bv_s h
      refine am_R.call (e' := me_X5_skipBlanks) (as := [.ref 18]) (rest := []) rfl rfl (Nat.le_of_ble_eq_true rfl) (t_X5_skipBlanks z N _ hz) ?_
      refine am_R.go 4 (q' := (69, [some (.ref 18), d1, some (.int v2), d3], [.int (M58 18 5), .int (M58 18 6)], M58)) rfl trivial ?_
      rcases am_it h with ⟨hc, h⟩ | ⟨hc, h⟩
      · refine am_R.bt rfl rfl hc ?_
        refine am_R.go 2 (q' := (75, [some (.ref 18), d1, some (.int v2), d3], [.int v2, .ref 18], M58)) rfl trivial ?_
        obtain ⟨r75, M75, hz, h⟩ := am_bi_s h
        refine am_R.call (e' := me_X5_readKind) (as := [.ref 18, .int v2]) (rest := []) rfl rfl (Nat.le_of_ble_eq_true rfl) (t_X5_readKind z N v2 _ hz) ?_
        refine am_R.go 3 (q' := (83, [some (.ref 18), d1, some (.int v2), some (.int r75)], [.int (M75 18 2)], M75)) rfl trivial ?_
        rcases am_it h with ⟨hc, h⟩ | ⟨hc, h⟩
        · refine am_R.cn rfl rfl (fun q => q hc) ?_
          refine am_R.go 2 (q' := (88, [some (.ref 18), d1, some (.int v2), some (.int r75)], [.int r75, .ref 18], M75)) rfl trivial ?_
          obtain ⟨M88, hz, h⟩ := am_bv_s h
          refine am_R.call (e' := me_X5_readNumbers) (as := [.ref 18, .int r75]) (rest := []) rfl rfl (Nat.le_of_ble_eq_true rfl) (t_X5_readNumbers z N r75 _ hz) ?_
          refine am_R.go 1 (q' := (92, [some (.ref 18), d1, some (.int v2), some (.int r75)], [.ref 18], M88)) rfl trivial ?_
          obtain ⟨M92, hz, h⟩ := am_bv_s h
          refine am_R.call (e' := me_X5_readEnd) (as := [.ref 18]) (rest := []) rfl rfl (Nat.le_of_ble_eq_true rfl) (t_X5_readEnd z N _ hz) ?_
          refine am_R.go 2 (q' := (44, [some (.ref 18), d1, some (.int (v2 + 1)), some (.int r75)], [], M92)) rfl trivial ?_
          exact hk44 (v2 + 1) _ _ _ h
        · refine am_R.ct rfl rfl hc ?_
          refine am_R.go 2 (q' := (44, [some (.ref 18), d1, some (.int (v2 + 1)), some (.int r75)], [], M75)) rfl trivial ?_
          exact hk44 (v2 + 1) _ _ _ h
      · refine am_R.bn rfl rfl hc ?_
        cases h
        exact am_R.ret rfl rfl trivial
    · refine am_R.ct rfl rfl hc ?_
      cases h
      exact am_R.ret rfl rfl trivial
set_option maxRecDepth 100000 in
theorem t_X5_readAll_44 (z : Value) (N : Nat) {r : Except Nat (Option Value)} {M' : am_M} : ∀ (n : Nat) (v2 : Int32) (d1 : Option Value) (d3 : Option Value) (M : am_M), f_X5_readAll_44 N n v2 M = some (r, M') → cR z me_X5_readAll (44, [some (.ref 18), d1, some (.int v2), d3], [], M) r M' := by
  intro n
  induction n with
  | zero => intro v2 d1 d3 M h; cases h
  | succ n ih => intro v2 d1 d3 M h; exact t_X5_readAll_44B z N _ ih v2 d1 d3 M h
def f_X5_readAll (N : Nat) (p1 : Int32) (M : am_M) : Option (Except Nat (Option Value) × am_M) :=
  am_bv (f_X4_clear_19 N M) fun M4 =>
    am_bv (f_X2_clear_30 N M4) fun M11 =>
      f_X5_readAll_44 N N 0 (am_up (am_up (am_up (am_up M11 18 2 0) 18 3 (-1)) 18 6 0) 18 5 (if 600 < p1 then 600 else p1))
set_option maxRecDepth 100000 in
theorem t_X5_readAll (z : Value) (N : Nat) (p1 : Int32) (M : am_M) {r : Except Nat (Option Value)} {M' : am_M} (h : f_X5_readAll N p1 M = some (r, M')) : cR z me_X5_readAll (0, [some (.ref 18), some (.int p1), none, none], [], M) r M' := by
  unfold f_X5_readAll at h
  refine am_R.go 2 (q' := (4, [some (.ref 18), some (.int p1), none, none], [.ref 19], M)) rfl trivial ?_
  obtain ⟨M4, hz, h⟩ := am_bv_s h
  refine am_R.call (e' := me_X4_clear) (as := [.ref 19]) (rest := []) rfl rfl (Nat.le_of_ble_eq_true rfl) (t_X4_clear_19 z N _ hz) ?_
  refine am_R.go 2 (q' := (11, [some (.ref 18), some (.int p1), none, none], [.ref 30], M4)) rfl trivial ?_
  obtain ⟨M11, hz, h⟩ := am_bv_s h
  refine am_R.call (e' := me_X2_clear) (as := [.ref 30]) (rest := []) rfl rfl (Nat.le_of_ble_eq_true rfl) (t_X2_clear_30 z N _ hz) ?_
  refine am_R.go 18 (q' := (44, [some (.ref 18), some (.int p1), some (.int 0), none], [], am_up (am_up (am_up (am_up M11 18 2 0) 18 3 (-1)) 18 6 0) 18 5 (if 600 < p1 then 600 else p1))) rfl trivial ?_
  exact t_X5_readAll_44 z N N 0 _ _ _ h
def f_X8_take_3_20 (N : Nat) (M : am_M) : Option (Except Nat (Option Value) × am_M) :=
  some (.ok none, am_up (am_upA M 4 (va_cpy (M 21) (M 4) (0 : Int32).toNatClampNeg (0 : Int32).toNatClampNeg (25 : Int32).toNatClampNeg)) 3 3 (M 20 3))
set_option maxRecDepth 100000 in
theorem t_X8_take_3_20 (z : Value) (N : Nat) (M : am_M) {r : Except Nat (Option Value)} {M' : am_M} (h : f_X8_take_3_20 N M = some (r, M')) : cR z me_X8_take (0, [some (.ref 3), some (.ref 20)], [], M) r M' := by
  unfold f_X8_take_3_20 at h
  refine am_R.go 18 (q' := (34, [some (.ref 3), some (.ref 20)], [], am_up (am_upA M 4 (va_cpy (M 21) (M 4) (0 : Int32).toNatClampNeg (0 : Int32).toNatClampNeg (25 : Int32).toNatClampNeg)) 3 3 (M 20 3))) rfl ⟨(by decide), trivial⟩ ?_
  cases h
  exact am_R.ret rfl rfl trivial
def f_X8_take_5_22 (N : Nat) (M : am_M) : Option (Except Nat (Option Value) × am_M) :=
  some (.ok none, am_up (am_upA M 6 (va_cpy (M 23) (M 6) (0 : Int32).toNatClampNeg (0 : Int32).toNatClampNeg (12 : Int32).toNatClampNeg)) 5 3 (M 22 3))
set_option maxRecDepth 100000 in
theorem t_X8_take_5_22 (z : Value) (N : Nat) (M : am_M) {r : Except Nat (Option Value)} {M' : am_M} (h : f_X8_take_5_22 N M = some (r, M')) : cR z me_X8_take (0, [some (.ref 5), some (.ref 22)], [], M) r M' := by
  unfold f_X8_take_5_22 at h
  refine am_R.go 18 (q' := (34, [some (.ref 5), some (.ref 22)], [], am_up (am_upA M 6 (va_cpy (M 23) (M 6) (0 : Int32).toNatClampNeg (0 : Int32).toNatClampNeg (12 : Int32).toNatClampNeg)) 5 3 (M 22 3))) rfl ⟨(by decide), trivial⟩ ?_
  cases h
  exact am_R.ret rfl rfl trivial
def f_X8_take_7_24 (N : Nat) (M : am_M) : Option (Except Nat (Option Value) × am_M) :=
  some (.ok none, am_up (am_upA M 8 (va_cpy (M 25) (M 8) (0 : Int32).toNatClampNeg (0 : Int32).toNatClampNeg (8 : Int32).toNatClampNeg)) 7 3 (M 24 3))
set_option maxRecDepth 100000 in
theorem t_X8_take_7_24 (z : Value) (N : Nat) (M : am_M) {r : Except Nat (Option Value)} {M' : am_M} (h : f_X8_take_7_24 N M = some (r, M')) : cR z me_X8_take (0, [some (.ref 7), some (.ref 24)], [], M) r M' := by
  unfold f_X8_take_7_24 at h
  refine am_R.go 18 (q' := (34, [some (.ref 7), some (.ref 24)], [], am_up (am_upA M 8 (va_cpy (M 25) (M 8) (0 : Int32).toNatClampNeg (0 : Int32).toNatClampNeg (8 : Int32).toNatClampNeg)) 7 3 (M 24 3))) rfl ⟨(by decide), trivial⟩ ?_
  cases h
  exact am_R.ret rfl rfl trivial
def f_X8_take_9_26 (N : Nat) (M : am_M) : Option (Except Nat (Option Value) × am_M) :=
  some (.ok none, am_up (am_upA M 10 (va_cpy (M 27) (M 10) (0 : Int32).toNatClampNeg (0 : Int32).toNatClampNeg (24 : Int32).toNatClampNeg)) 9 3 (M 26 3))
set_option maxRecDepth 100000 in
theorem t_X8_take_9_26 (z : Value) (N : Nat) (M : am_M) {r : Except Nat (Option Value)} {M' : am_M} (h : f_X8_take_9_26 N M = some (r, M')) : cR z me_X8_take (0, [some (.ref 9), some (.ref 26)], [], M) r M' := by
  unfold f_X8_take_9_26 at h
  refine am_R.go 18 (q' := (34, [some (.ref 9), some (.ref 26)], [], am_up (am_upA M 10 (va_cpy (M 27) (M 10) (0 : Int32).toNatClampNeg (0 : Int32).toNatClampNeg (24 : Int32).toNatClampNeg)) 9 3 (M 26 3))) rfl ⟨(by decide), trivial⟩ ?_
  cases h
  exact am_R.ret rfl rfl trivial
def f_X8_take_11_28 (N : Nat) (M : am_M) : Option (Except Nat (Option Value) × am_M) :=
  some (.ok none, am_up (am_upA M 12 (va_cpy (M 29) (M 12) (0 : Int32).toNatClampNeg (0 : Int32).toNatClampNeg (16 : Int32).toNatClampNeg)) 11 3 (M 28 3))
set_option maxRecDepth 100000 in
theorem t_X8_take_11_28 (z : Value) (N : Nat) (M : am_M) {r : Except Nat (Option Value)} {M' : am_M} (h : f_X8_take_11_28 N M = some (r, M')) : cR z me_X8_take (0, [some (.ref 11), some (.ref 28)], [], M) r M' := by
  unfold f_X8_take_11_28 at h
  refine am_R.go 18 (q' := (34, [some (.ref 11), some (.ref 28)], [], am_up (am_upA M 12 (va_cpy (M 29) (M 12) (0 : Int32).toNatClampNeg (0 : Int32).toNatClampNeg (16 : Int32).toNatClampNeg)) 11 3 (M 28 3))) rfl ⟨(by decide), trivial⟩ ?_
  cases h
  exact am_R.ret rfl rfl trivial
def f_X4_take_2_19 (N : Nat) (M : am_M) : Option (Except Nat (Option Value) × am_M) :=
  am_bv (f_X8_take_3_20 N (am_up (am_up (am_up (am_up M 2 0 (M 19 0)) 2 1 (M 19 1)) 2 2 (M 19 2)) 2 3 (M 19 3))) fun M40 =>
    am_bv (f_X8_take_5_22 N M40) fun M51 =>
      am_bv (f_X8_take_7_24 N M51) fun M62 =>
        am_bv (f_X8_take_9_26 N M62) fun M73 =>
          am_bv (f_X8_take_11_28 N M73) fun M84 =>
            some (.ok none, M84)
set_option maxRecDepth 100000 in
theorem t_X4_take_2_19 (z : Value) (N : Nat) (M : am_M) {r : Except Nat (Option Value)} {M' : am_M} (h : f_X4_take_2_19 N M = some (r, M')) : cR z me_X4_take (0, [some (.ref 2), some (.ref 19)], [], M) r M' := by
  unfold f_X4_take_2_19 at h
  refine am_R.go 20 (q' := (40, [some (.ref 2), some (.ref 19)], [.ref 20, .ref 3], am_up (am_up (am_up (am_up M 2 0 (M 19 0)) 2 1 (M 19 1)) 2 2 (M 19 2)) 2 3 (M 19 3))) rfl trivial ?_
  obtain ⟨M40, hz, h⟩ := am_bv_s h
  refine am_R.call (e' := me_X8_take) (as := [.ref 3, .ref 20]) (rest := []) rfl rfl (Nat.le_of_ble_eq_true rfl) (t_X8_take_3_20 z N _ hz) ?_
  refine am_R.go 4 (q' := (51, [some (.ref 2), some (.ref 19)], [.ref 22, .ref 5], M40)) rfl trivial ?_
  obtain ⟨M51, hz, h⟩ := am_bv_s h
  refine am_R.call (e' := me_X8_take) (as := [.ref 5, .ref 22]) (rest := []) rfl rfl (Nat.le_of_ble_eq_true rfl) (t_X8_take_5_22 z N _ hz) ?_
  refine am_R.go 4 (q' := (62, [some (.ref 2), some (.ref 19)], [.ref 24, .ref 7], M51)) rfl trivial ?_
  obtain ⟨M62, hz, h⟩ := am_bv_s h
  refine am_R.call (e' := me_X8_take) (as := [.ref 7, .ref 24]) (rest := []) rfl rfl (Nat.le_of_ble_eq_true rfl) (t_X8_take_7_24 z N _ hz) ?_
  refine am_R.go 4 (q' := (73, [some (.ref 2), some (.ref 19)], [.ref 26, .ref 9], M62)) rfl trivial ?_
  obtain ⟨M73, hz, h⟩ := am_bv_s h
  refine am_R.call (e' := me_X8_take) (as := [.ref 9, .ref 26]) (rest := []) rfl rfl (Nat.le_of_ble_eq_true rfl) (t_X8_take_9_26 z N _ hz) ?_
  refine am_R.go 4 (q' := (84, [some (.ref 2), some (.ref 19)], [.ref 28, .ref 11], M73)) rfl trivial ?_
  obtain ⟨M84, hz, h⟩ := am_bv_s h
  refine am_R.call (e' := me_X8_take) (as := [.ref 11, .ref 28]) (rest := []) rfl rfl (Nat.le_of_ble_eq_true rfl) (t_X8_take_11_28 z N _ hz) ?_
  cases h
  exact am_R.ret rfl rfl trivial
def f_X8_take_16_33 (N : Nat) (M : am_M) : Option (Except Nat (Option Value) × am_M) :=
  some (.ok none, am_up (am_upA M 17 (va_cpy (M 34) (M 17) (0 : Int32).toNatClampNeg (0 : Int32).toNatClampNeg (36 : Int32).toNatClampNeg)) 16 3 (M 33 3))
set_option maxRecDepth 100000 in
theorem t_X8_take_16_33 (z : Value) (N : Nat) (M : am_M) {r : Except Nat (Option Value)} {M' : am_M} (h : f_X8_take_16_33 N M = some (r, M')) : cR z me_X8_take (0, [some (.ref 16), some (.ref 33)], [], M) r M' := by
  unfold f_X8_take_16_33 at h
  refine am_R.go 18 (q' := (34, [some (.ref 16), some (.ref 33)], [], am_up (am_upA M 17 (va_cpy (M 34) (M 17) (0 : Int32).toNatClampNeg (0 : Int32).toNatClampNeg (36 : Int32).toNatClampNeg)) 16 3 (M 33 3))) rfl ⟨(by decide), trivial⟩ ?_
  cases h
  exact am_R.ret rfl rfl trivial
def f_X2_take_13_30 (N : Nat) (M : am_M) : Option (Except Nat (Option Value) × am_M) :=
  am_bv (f_X8_take_16_33 N (am_up (am_upA (am_upA M 14 (va_cpy (M 31) (M 14) (0 : Int32).toNatClampNeg (0 : Int32).toNatClampNeg (100 : Int32).toNatClampNeg)) 15 (va_cpy (M 32) (M 15) (0 : Int32).toNatClampNeg (0 : Int32).toNatClampNeg (100 : Int32).toNatClampNeg)) 13 2 (M 30 2))) fun M46 =>
    some (.ok none, M46)
set_option maxRecDepth 100000 in
theorem t_X2_take_13_30 (z : Value) (N : Nat) (M : am_M) {r : Except Nat (Option Value)} {M' : am_M} (h : f_X2_take_13_30 N M = some (r, M')) : cR z me_X2_take (0, [some (.ref 13), some (.ref 30)], [], M) r M' := by
  unfold f_X2_take_13_30 at h
  refine am_R.go 24 (q' := (46, [some (.ref 13), some (.ref 30)], [.ref 33, .ref 16], am_up (am_upA (am_upA M 14 (va_cpy (M 31) (M 14) (0 : Int32).toNatClampNeg (0 : Int32).toNatClampNeg (100 : Int32).toNatClampNeg)) 15 (va_cpy (M 32) (M 15) (0 : Int32).toNatClampNeg (0 : Int32).toNatClampNeg (100 : Int32).toNatClampNeg)) 13 2 (M 30 2))) rfl ⟨(by decide), (by decide), trivial⟩ ?_
  obtain ⟨M46, hz, h⟩ := am_bv_s h
  refine am_R.call (e' := me_X8_take) (as := [.ref 16, .ref 33]) (rest := []) rfl rfl (Nat.le_of_ble_eq_true rfl) (t_X8_take_16_33 z N _ hz) ?_
  cases h
  exact am_R.ret rfl rfl trivial
def f_X9_valley (N : Nat) (p1 : Int32) (M : am_M) : Option (Except Nat (Option Value) × am_M) :=
  am_bvx (f_X9_needBetween N p1 0 (M 0 1) M) fun M7 =>
    am_bv (f_X5_readAll N p1 (am_up M7 0 1 0)) fun M20 =>
      if (M20 18 2) = 0 then
        am_bv (f_X4_take_2_19 N (am_up M20 0 2 (M20 18 3))) fun M66 =>
          am_bv (f_X2_take_13_30 N M66) fun M80 =>
            some (.ok (some (.int (M80 3 3))), am_up M80 0 10 0)
      else
        some (.ok (some (.int ((M20 18 2) - 10))), am_up M20 0 2 (M20 18 3))
set_option maxRecDepth 100000 in
theorem t_X9_valley (z : Value) (N : Nat) (p1 : Int32) (M : am_M) {r : Except Nat (Option Value)} {M' : am_M} (h : f_X9_valley N p1 M = some (r, M')) : cR z me_X9_valley (0, [some (.ref 0), some (.int p1)], [], M) r M' := by
  unfold f_X9_valley at h
  refine am_R.go 5 (q' := (7, [some (.ref 0), some (.int p1)], [.int (M 0 1), .int 0, .int p1, .ref 0], M)) rfl trivial ?_
  rcases am_bvx_s h with ⟨M7, hz, h⟩ | ⟨x, M7, hz, h⟩
  · refine am_R.call (e' := me_X9_needBetween) (as := [.ref 0, .int p1, .int 0, .int (M 0 1)]) (rest := []) rfl rfl (Nat.le_of_ble_eq_true rfl) (t_X9_needBetween z N p1 0 (M 0 1) _ hz) ?_
    refine am_R.go 6 (q' := (20, [some (.ref 0), some (.int p1)], [.int p1, .ref 18], am_up M7 0 1 0)) rfl trivial ?_
    obtain ⟨M20, hz, h⟩ := am_bv_s h
    refine am_R.call (e' := me_X5_readAll) (as := [.ref 18, .int p1]) (rest := []) rfl rfl (Nat.le_of_ble_eq_true rfl) (t_X5_readAll z N p1 _ hz) ?_
    refine am_R.go 8 (q' := (41, [some (.ref 0), some (.int p1)], [.int (M20 18 2)], am_up M20 0 2 (M20 18 3))) rfl trivial ?_
    rcases am_it h with ⟨hc, h⟩ | ⟨hc, h⟩
    · refine am_R.ct rfl rfl hc ?_
      refine am_R.go 5 (q' := (66, [some (.ref 0), some (.int p1)], [.ref 19, .ref 2], am_up M20 0 2 (M20 18 3))) rfl trivial ?_
      obtain ⟨M66, hz, h⟩ := am_bv_s h
      refine am_R.call (e' := me_X4_take) (as := [.ref 2, .ref 19]) (rest := []) rfl rfl (Nat.le_of_ble_eq_true rfl) (t_X4_take_2_19 z N _ hz) ?_
      refine am_R.go 5 (q' := (80, [some (.ref 0), some (.int p1)], [.ref 30, .ref 13], M66)) rfl trivial ?_
      obtain ⟨M80, hz, h⟩ := am_bv_s h
      refine am_R.call (e' := me_X2_take) (as := [.ref 13, .ref 30]) (rest := []) rfl rfl (Nat.le_of_ble_eq_true rfl) (t_X2_take_13_30 z N _ hz) ?_
      refine am_R.go 7 (q' := (98, [some (.ref 0), some (.int p1)], [.int (M80 3 3)], am_up M80 0 10 0)) rfl trivial ?_
      cases h
      exact am_R.ret rfl rfl trivial
    · refine am_R.cn rfl rfl hc ?_
      refine am_R.go 5 (q' := (54, [some (.ref 0), some (.int p1)], [.int ((M20 18 2) - 10)], am_up M20 0 2 (M20 18 3))) rfl trivial ?_
      cases h
      exact am_R.ret rfl rfl trivial
  · cases h
    exact am_R.callx (e' := me_X9_needBetween) (as := [.ref 0, .int p1, .int 0, .int (M 0 1)]) (rest := []) rfl rfl (Nat.le_of_ble_eq_true rfl) rfl (t_X9_needBetween z N p1 0 (M 0 1) _ hz)
def f_X9_fault (N : Nat) (M : am_M) : Option (Except Nat (Option Value) × am_M) :=
  some (.ok (some (.int (M 0 2))), M)
set_option maxRecDepth 100000 in
theorem t_X9_fault (z : Value) (N : Nat) (M : am_M) {r : Except Nat (Option Value)} {M' : am_M} (h : f_X9_fault N M = some (r, M')) : cR z me_X9_fault (0, [some (.ref 0)], [], M) r M' := by
  unfold f_X9_fault at h
  refine am_R.go 2 (q' := (4, [some (.ref 0)], [.int (M 0 2)], M)) rfl trivial ?_
  cases h
  exact am_R.ret rfl rfl trivial
def f_X9_told (N : Nat) (p1 : Int32) (M : am_M) : Option (Except Nat (Option Value) × am_M) :=
  am_bvx (f_X9_needBetween N p1 0 10 M) fun M5 =>
    if p1.toInt = 0 then
      some (.ok (some (.int (M5 2 0))), M5)
    else
    if p1.toInt = 1 then
      some (.ok (some (.int (M5 2 1))), M5)
    else
    if p1.toInt = 2 then
      some (.ok (some (.int (M5 3 3))), M5)
    else
    if p1.toInt = 3 then
      some (.ok (some (.int (M5 5 3))), M5)
    else
    if p1.toInt = 4 then
      some (.ok (some (.int (M5 7 3))), M5)
    else
    if p1.toInt = 5 then
      some (.ok (some (.int (M5 9 3))), M5)
    else
    if p1.toInt = 6 then
      some (.ok (some (.int (M5 11 3))), M5)
    else
    if p1.toInt = 7 then
      some (.ok (some (.int (M5 2 2))), M5)
    else
    if p1.toInt = 8 then
      some (.ok (some (.int (M5 2 3))), M5)
    else
    if p1.toInt = 9 then
      some (.ok (some (.int (M5 13 2))), M5)
    else
      some (.ok (some (.int (M5 16 3))), M5)
set_option maxRecDepth 100000 in
theorem t_X9_told (z : Value) (N : Nat) (p1 : Int32) (M : am_M) {r : Except Nat (Option Value)} {M' : am_M} (h : f_X9_told N p1 M = some (r, M')) : cR z me_X9_told (0, [some (.ref 0), some (.int p1)], [], M) r M' := by
  unfold f_X9_told at h
  refine am_R.go 4 (q' := (5, [some (.ref 0), some (.int p1)], [.int 10, .int 0, .int p1, .ref 0], M)) rfl trivial ?_
  rcases am_bvx_s h with ⟨M5, hz, h⟩ | ⟨x, M5, hz, h⟩
  · refine am_R.call (e' := me_X9_needBetween) (as := [.ref 0, .int p1, .int 0, .int 10]) (rest := []) rfl rfl (Nat.le_of_ble_eq_true rfl) (t_X9_needBetween z N p1 0 10 _ hz) ?_
    refine am_R.go 1 (q' := (9, [some (.ref 0), some (.int p1)], [.int p1], M5)) rfl trivial ?_
    rcases am_it h with ⟨hc, h⟩ | ⟨hc0, h⟩
    · refine am_R.one (c := some (p1.toInt = 0 + ((0 : Nat) : Int))) (q' := (64, [some (.ref 0), some (.int p1)], [], M5)) rfl (List.mem_of_getElem? (i := 1) rfl) (by show p1.toInt = _; omega) ?_
      refine am_R.go 3 (q' := (71, [some (.ref 0), some (.int p1)], [.int (M5 2 0)], M5)) rfl trivial ?_
      cases h
      exact am_R.ret rfl rfl trivial
    rcases am_it h with ⟨hc, h⟩ | ⟨hc1, h⟩
    · refine am_R.one (c := some (p1.toInt = 0 + ((1 : Nat) : Int))) (q' := (72, [some (.ref 0), some (.int p1)], [], M5)) rfl (List.mem_of_getElem? (i := 2) rfl) (by show p1.toInt = _; omega) ?_
      refine am_R.go 3 (q' := (79, [some (.ref 0), some (.int p1)], [.int (M5 2 1)], M5)) rfl trivial ?_
      cases h
      exact am_R.ret rfl rfl trivial
    rcases am_it h with ⟨hc, h⟩ | ⟨hc2, h⟩
    · refine am_R.one (c := some (p1.toInt = 0 + ((2 : Nat) : Int))) (q' := (80, [some (.ref 0), some (.int p1)], [], M5)) rfl (List.mem_of_getElem? (i := 3) rfl) (by show p1.toInt = _; omega) ?_
      refine am_R.go 4 (q' := (90, [some (.ref 0), some (.int p1)], [.int (M5 3 3)], M5)) rfl trivial ?_
      cases h
      exact am_R.ret rfl rfl trivial
    rcases am_it h with ⟨hc, h⟩ | ⟨hc3, h⟩
    · refine am_R.one (c := some (p1.toInt = 0 + ((3 : Nat) : Int))) (q' := (91, [some (.ref 0), some (.int p1)], [], M5)) rfl (List.mem_of_getElem? (i := 4) rfl) (by show p1.toInt = _; omega) ?_
      refine am_R.go 4 (q' := (101, [some (.ref 0), some (.int p1)], [.int (M5 5 3)], M5)) rfl trivial ?_
      cases h
      exact am_R.ret rfl rfl trivial
    rcases am_it h with ⟨hc, h⟩ | ⟨hc4, h⟩
    · refine am_R.one (c := some (p1.toInt = 0 + ((4 : Nat) : Int))) (q' := (102, [some (.ref 0), some (.int p1)], [], M5)) rfl (List.mem_of_getElem? (i := 5) rfl) (by show p1.toInt = _; omega) ?_
      refine am_R.go 4 (q' := (112, [some (.ref 0), some (.int p1)], [.int (M5 7 3)], M5)) rfl trivial ?_
      cases h
      exact am_R.ret rfl rfl trivial
    rcases am_it h with ⟨hc, h⟩ | ⟨hc5, h⟩
    · refine am_R.one (c := some (p1.toInt = 0 + ((5 : Nat) : Int))) (q' := (113, [some (.ref 0), some (.int p1)], [], M5)) rfl (List.mem_of_getElem? (i := 6) rfl) (by show p1.toInt = _; omega) ?_
      refine am_R.go 4 (q' := (123, [some (.ref 0), some (.int p1)], [.int (M5 9 3)], M5)) rfl trivial ?_
      cases h
      exact am_R.ret rfl rfl trivial
    rcases am_it h with ⟨hc, h⟩ | ⟨hc6, h⟩
    · refine am_R.one (c := some (p1.toInt = 0 + ((6 : Nat) : Int))) (q' := (124, [some (.ref 0), some (.int p1)], [], M5)) rfl (List.mem_of_getElem? (i := 7) rfl) (by show p1.toInt = _; omega) ?_
      refine am_R.go 4 (q' := (134, [some (.ref 0), some (.int p1)], [.int (M5 11 3)], M5)) rfl trivial ?_
      cases h
      exact am_R.ret rfl rfl trivial
    rcases am_it h with ⟨hc, h⟩ | ⟨hc7, h⟩
    · refine am_R.one (c := some (p1.toInt = 0 + ((7 : Nat) : Int))) (q' := (135, [some (.ref 0), some (.int p1)], [], M5)) rfl (List.mem_of_getElem? (i := 8) rfl) (by show p1.toInt = _; omega) ?_
      refine am_R.go 3 (q' := (142, [some (.ref 0), some (.int p1)], [.int (M5 2 2)], M5)) rfl trivial ?_
      cases h
      exact am_R.ret rfl rfl trivial
    rcases am_it h with ⟨hc, h⟩ | ⟨hc8, h⟩
    · refine am_R.one (c := some (p1.toInt = 0 + ((8 : Nat) : Int))) (q' := (143, [some (.ref 0), some (.int p1)], [], M5)) rfl (List.mem_of_getElem? (i := 9) rfl) (by show p1.toInt = _; omega) ?_
      refine am_R.go 3 (q' := (150, [some (.ref 0), some (.int p1)], [.int (M5 2 3)], M5)) rfl trivial ?_
      cases h
      exact am_R.ret rfl rfl trivial
    rcases am_it h with ⟨hc, h⟩ | ⟨hc9, h⟩
    · refine am_R.one (c := some (p1.toInt = 0 + ((9 : Nat) : Int))) (q' := (151, [some (.ref 0), some (.int p1)], [], M5)) rfl (List.mem_of_getElem? (i := 10) rfl) (by show p1.toInt = _; omega) ?_
      refine am_R.go 3 (q' := (158, [some (.ref 0), some (.int p1)], [.int (M5 13 2)], M5)) rfl trivial ?_
      cases h
      exact am_R.ret rfl rfl trivial
    refine am_R.one (c := some (p1.toInt < 0 ∨ 9 < p1.toInt)) (q' := (159, [some (.ref 0), some (.int p1)], [], M5)) rfl (List.mem_of_getElem? (i := 0) rfl) (by show _ ∨ _; omega) ?_
    refine am_R.go 4 (q' := (169, [some (.ref 0), some (.int p1)], [.int (M5 16 3)], M5)) rfl trivial ?_
    cases h
    exact am_R.ret rfl rfl trivial
  · cases h
    exact am_R.callx (e' := me_X9_needBetween) (as := [.ref 0, .int p1, .int 0, .int 10]) (rest := []) rfl rfl (Nat.le_of_ble_eq_true rfl) rfl (t_X9_needBetween z N p1 0 10 _ hz)
def f_X9_needCell_30 (N : Nat) (M : am_M) : Option (Except Nat (Option Value) × am_M) :=
  some (.error 0, am_up M 0 3 ((M 0 3) + 1))
set_option maxRecDepth 100000 in
theorem t_X9_needCell_30 (z : Value) (N : Nat) {r : Except Nat (Option Value)} {M' : am_M} (d1 : Option Value) (d2 : Option Value) (M : am_M) (h : f_X9_needCell_30 N M = some (r, M')) : cR z me_X9_needCell (30, [some (.ref 0), d1, d2], [], M) r M' := by
  unfold f_X9_needCell_30 at h
  refine am_R.go 6 (q' := (40, [some (.ref 0), d1, d2], [], am_up M 0 3 ((M 0 3) + 1))) rfl trivial ?_
  cases h
  exact am_R.thr (x := 0) rfl rfl
def f_X9_needCell (N : Nat) (p1 : Int32) (p2 : Int32) (M : am_M) : Option (Except Nat (Option Value) × am_M) :=
  if p1 < 0 then
    f_X9_needCell_30 N M
  else
    if p2 < 0 then
      f_X9_needCell_30 N M
    else
      if (M 2 0) ≤ p1 then
        f_X9_needCell_30 N M
      else
        if p2 < (M 2 1) then
          some (.ok none, M)
        else
          f_X9_needCell_30 N M
set_option maxRecDepth 100000 in
theorem t_X9_needCell (z : Value) (N : Nat) (p1 : Int32) (p2 : Int32) (M : am_M) {r : Except Nat (Option Value)} {M' : am_M} (h : f_X9_needCell N p1 p2 M = some (r, M')) : cR z me_X9_needCell (0, [some (.ref 0), some (.int p1), some (.int p2)], [], M) r M' := by
  unfold f_X9_needCell at h
  refine am_R.go 1 (q' := (1, [some (.ref 0), some (.int p1), some (.int p2)], [.int p1], M)) rfl trivial ?_
  rcases am_it h with ⟨hc, h⟩ | ⟨hc, h⟩
  · refine am_R.ct rfl rfl hc ?_
    exact t_X9_needCell_30 z N _ _ _ h
  · refine am_R.cn rfl rfl hc ?_
    refine am_R.go 1 (q' := (5, [some (.ref 0), some (.int p1), some (.int p2)], [.int p2], M)) rfl trivial ?_
    rcases am_it h with ⟨hc, h⟩ | ⟨hc, h⟩
    · refine am_R.ct rfl rfl hc ?_
      exact t_X9_needCell_30 z N _ _ _ h
    · refine am_R.cn rfl rfl hc ?_
      refine am_R.go 4 (q' := (16, [some (.ref 0), some (.int p1), some (.int p2)], [.int (M 2 0), .int p1], M)) rfl trivial ?_
      rcases am_it h with ⟨hc, h⟩ | ⟨hc, h⟩
      · refine am_R.bt rfl rfl hc ?_
        exact t_X9_needCell_30 z N _ _ _ h
      · refine am_R.bn rfl rfl hc ?_
        refine am_R.go 4 (q' := (27, [some (.ref 0), some (.int p1), some (.int p2)], [.int (M 2 1), .int p2], M)) rfl trivial ?_
        rcases am_it h with ⟨hc, h⟩ | ⟨hc, h⟩
        · refine am_R.bt rfl rfl hc ?_
          cases h
          exact am_R.ret rfl rfl trivial
        · refine am_R.bn rfl rfl hc ?_
          exact t_X9_needCell_30 z N _ _ _ h
def f_X9_cell (N : Nat) (p1 : Int32) (p2 : Int32) (p3 : Int32) (M : am_M) : Option (Except Nat (Option Value) × am_M) :=
  am_bvx (f_X9_needCell N p1 p2 M) fun M3 =>
    am_bvx (f_X9_needBetween N p3 0 1 M3) fun M10 =>
      if p3 = 0 then
        am_bi (f_X9_cellOf N p1 p2 M10) fun r26 M26 =>
          if am_in r26 100 then
            some (.ok (some (.int (M26 14 (r26.toNatClampNeg)))), M26)
          else none
      else
        am_bi (f_X9_cellOf N p1 p2 M10) fun r42 M42 =>
          if am_in r42 100 then
            some (.ok (some (.int (M42 15 (r42.toNatClampNeg)))), M42)
          else none
set_option maxRecDepth 100000 in
theorem t_X9_cell (z : Value) (N : Nat) (p1 : Int32) (p2 : Int32) (p3 : Int32) (M : am_M) {r : Except Nat (Option Value)} {M' : am_M} (h : f_X9_cell N p1 p2 p3 M = some (r, M')) : cR z me_X9_cell (0, [some (.ref 0), some (.int p1), some (.int p2), some (.int p3)], [], M) r M' := by
  unfold f_X9_cell at h
  refine am_R.go 3 (q' := (3, [some (.ref 0), some (.int p1), some (.int p2), some (.int p3)], [.int p2, .int p1, .ref 0], M)) rfl trivial ?_
  rcases am_bvx_s h with ⟨M3, hz, h⟩ | ⟨x, M3, hz, h⟩
  · refine am_R.call (e' := me_X9_needCell) (as := [.ref 0, .int p1, .int p2]) (rest := []) rfl rfl (Nat.le_of_ble_eq_true rfl) (t_X9_needCell z N p1 p2 _ hz) ?_
    refine am_R.go 4 (q' := (10, [some (.ref 0), some (.int p1), some (.int p2), some (.int p3)], [.int 1, .int 0, .int p3, .ref 0], M3)) rfl trivial ?_
    rcases am_bvx_s h with ⟨M10, hz, h⟩ | ⟨x, M10, hz, h⟩
    · refine am_R.call (e' := me_X9_needBetween) (as := [.ref 0, .int p3, .int 0, .int 1]) (rest := []) rfl rfl (Nat.le_of_ble_eq_true rfl) (t_X9_needBetween z N p3 0 1 _ hz) ?_
      refine am_R.go 1 (q' := (14, [some (.ref 0), some (.int p1), some (.int p2), some (.int p3)], [.int p3], M10)) rfl trivial ?_
      rcases am_it h with ⟨hc, h⟩ | ⟨hc, h⟩
      · refine am_R.cn rfl rfl (fun q => q hc) ?_
        refine am_R.go 5 (q' := (26, [some (.ref 0), some (.int p1), some (.int p2), some (.int p3)], [.int p2, .int p1, .ref 14], M10)) rfl trivial ?_
        obtain ⟨r26, M26, hz, h⟩ := am_bi_s h
        refine am_R.call (e' := me_X9_cellOf) (as := [.int p1, .int p2]) (rest := [.ref 14]) rfl rfl (Nat.le_of_ble_eq_true rfl) (t_X9_cellOf z N p1 p2 _ hz) ?_
        obtain ⟨hC, h⟩ := am_gd h
        refine am_R.go 2 (q' := (46, [some (.ref 0), some (.int p1), some (.int p2), some (.int p3)], [.int (M26 14 (r26.toNatClampNeg))], M26)) rfl ⟨hC, trivial⟩ ?_
        cases h
        exact am_R.ret rfl rfl trivial
      · refine am_R.ct rfl rfl hc ?_
        refine am_R.go 5 (q' := (42, [some (.ref 0), some (.int p1), some (.int p2), some (.int p3)], [.int p2, .int p1, .ref 15], M10)) rfl trivial ?_
        obtain ⟨r42, M42, hz, h⟩ := am_bi_s h
        refine am_R.call (e' := me_X9_cellOf) (as := [.int p1, .int p2]) (rest := [.ref 15]) rfl rfl (Nat.le_of_ble_eq_true rfl) (t_X9_cellOf z N p1 p2 _ hz) ?_
        obtain ⟨hC, h⟩ := am_gd h
        refine am_R.go 1 (q' := (46, [some (.ref 0), some (.int p1), some (.int p2), some (.int p3)], [.int (M42 15 (r42.toNatClampNeg))], M42)) rfl ⟨hC, trivial⟩ ?_
        cases h
        exact am_R.ret rfl rfl trivial
    · cases h
      exact am_R.callx (e' := me_X9_needBetween) (as := [.ref 0, .int p3, .int 0, .int 1]) (rest := []) rfl rfl (Nat.le_of_ble_eq_true rfl) rfl (t_X9_needBetween z N p3 0 1 _ hz)
  · cases h
    exact am_R.callx (e' := me_X9_needCell) (as := [.ref 0, .int p1, .int p2]) (rest := []) rfl rfl (Nat.le_of_ble_eq_true rfl) rfl (t_X9_needCell z N p1 p2 _ hz)
def f_X9_build (N : Nat) (p1 : Int32) (p2 : Int32) (M : am_M) : Option (Except Nat (Option Value) × am_M) :=
  am_bvx (f_X9_needCell N p1 p2 M) fun M3 =>
    am_bi (f_X9_cellOf N p1 p2 M3) fun r8 M8 =>
      if am_in r8 100 then
        if (M8 14 (r8.toNatClampNeg)) = 0 then
          if am_in r8 100 then
            some (.ok (some (.int 1)), am_up M8 14 (r8.toNatClampNeg) 5)
          else none
        else
          some (.ok (some (.int 0)), M8)
      else none
set_option maxRecDepth 100000 in
theorem t_X9_build (z : Value) (N : Nat) (p1 : Int32) (p2 : Int32) (M : am_M) {r : Except Nat (Option Value)} {M' : am_M} (h : f_X9_build N p1 p2 M = some (r, M')) : cR z me_X9_build (0, [some (.ref 0), some (.int p1), some (.int p2), none], [], M) r M' := by
  unfold f_X9_build at h
  refine am_R.go 3 (q' := (3, [some (.ref 0), some (.int p1), some (.int p2), none], [.int p2, .int p1, .ref 0], M)) rfl trivial ?_
  rcases am_bvx_s h with ⟨M3, hz, h⟩ | ⟨x, M3, hz, h⟩
  · refine am_R.call (e' := me_X9_needCell) (as := [.ref 0, .int p1, .int p2]) (rest := []) rfl rfl (Nat.le_of_ble_eq_true rfl) (t_X9_needCell z N p1 p2 _ hz) ?_
    refine am_R.go 2 (q' := (8, [some (.ref 0), some (.int p1), some (.int p2), none], [.int p2, .int p1], M3)) rfl trivial ?_
    obtain ⟨r8, M8, hz, h⟩ := am_bi_s h
    refine am_R.call (e' := me_X9_cellOf) (as := [.int p1, .int p2]) (rest := []) rfl rfl (Nat.le_of_ble_eq_true rfl) (t_X9_cellOf z N p1 p2 _ hz) ?_
    obtain ⟨hC, h⟩ := am_gd h
    refine am_R.go 6 (q' := (21, [some (.ref 0), some (.int p1), some (.int p2), some (.int r8)], [.int (M8 14 (r8.toNatClampNeg))], M8)) rfl ⟨hC, trivial⟩ ?_
    rcases am_it h with ⟨hc, h⟩ | ⟨hc, h⟩
    · refine am_R.ct rfl rfl hc ?_
      obtain ⟨hC, h⟩ := am_gd h
      refine am_R.go 7 (q' := (37, [some (.ref 0), some (.int p1), some (.int p2), some (.int r8)], [.int 1], am_up M8 14 (r8.toNatClampNeg) 5)) rfl ⟨hC, trivial⟩ ?_
      cases h
      exact am_R.ret rfl rfl trivial
    · refine am_R.cn rfl rfl hc ?_
      refine am_R.go 1 (q' := (25, [some (.ref 0), some (.int p1), some (.int p2), some (.int r8)], [.int 0], M8)) rfl trivial ?_
      cases h
      exact am_R.ret rfl rfl trivial
  · cases h
    exact am_R.callx (e' := me_X9_needCell) (as := [.ref 0, .int p1, .int p2]) (rest := []) rfl rfl (Nat.le_of_ble_eq_true rfl) rfl (t_X9_needCell z N p1 p2 _ hz)
def f_X9_fell (N : Nat) (p1 : Int32) (p2 : Int32) (M : am_M) : Option (Except Nat (Option Value) × am_M) :=
  am_bvx (f_X9_needCell N p1 p2 M) fun M3 =>
    am_bi (f_X9_cellOf N p1 p2 M3) fun r8 M8 =>
      if am_in r8 100 then
        some (.ok (some (.int (M8 15 (r8.toNatClampNeg)))), am_up M8 15 (r8.toNatClampNeg) 0)
      else none
set_option maxRecDepth 100000 in
theorem t_X9_fell (z : Value) (N : Nat) (p1 : Int32) (p2 : Int32) (M : am_M) {r : Except Nat (Option Value)} {M' : am_M} (h : f_X9_fell N p1 p2 M = some (r, M')) : cR z me_X9_fell (0, [some (.ref 0), some (.int p1), some (.int p2), none, none], [], M) r M' := by
  unfold f_X9_fell at h
  refine am_R.go 3 (q' := (3, [some (.ref 0), some (.int p1), some (.int p2), none, none], [.int p2, .int p1, .ref 0], M)) rfl trivial ?_
  rcases am_bvx_s h with ⟨M3, hz, h⟩ | ⟨x, M3, hz, h⟩
  · refine am_R.call (e' := me_X9_needCell) (as := [.ref 0, .int p1, .int p2]) (rest := []) rfl rfl (Nat.le_of_ble_eq_true rfl) (t_X9_needCell z N p1 p2 _ hz) ?_
    refine am_R.go 2 (q' := (8, [some (.ref 0), some (.int p1), some (.int p2), none, none], [.int p2, .int p1], M3)) rfl trivial ?_
    obtain ⟨r8, M8, hz, h⟩ := am_bi_s h
    refine am_R.call (e' := me_X9_cellOf) (as := [.int p1, .int p2]) (rest := []) rfl rfl (Nat.le_of_ble_eq_true rfl) (t_X9_cellOf z N p1 p2 _ hz) ?_
    obtain ⟨hC, h⟩ := am_gd h
    refine am_R.go 14 (q' := (35, [some (.ref 0), some (.int p1), some (.int p2), some (.int r8), some (.int (M8 15 (r8.toNatClampNeg)))], [.int (M8 15 (r8.toNatClampNeg))], am_up M8 15 (r8.toNatClampNeg) 0)) rfl ⟨hC, hC, trivial⟩ ?_
    cases h
    exact am_R.ret rfl rfl trivial
  · cases h
    exact am_R.callx (e' := me_X9_needCell) (as := [.ref 0, .int p1, .int p2]) (rest := []) rfl rfl (Nat.le_of_ble_eq_true rfl) rfl (t_X9_needCell z N p1 p2 _ hz)
def f_X9_years (N : Nat) (p1 : Int32) (M : am_M) : Option (Except Nat (Option Value) × am_M) :=
  am_bvx (f_X9_needBetween N p1 0 20 M) fun M5 =>
    some (.ok (some (.int (if ((M5 13 2) + p1) < 20 then (M5 13 2) + p1 else 20))), am_up M5 13 2 (if ((M5 13 2) + p1) < 20 then (M5 13 2) + p1 else 20))
set_option maxRecDepth 100000 in
theorem t_X9_years (z : Value) (N : Nat) (p1 : Int32) (M : am_M) {r : Except Nat (Option Value)} {M' : am_M} (h : f_X9_years N p1 M = some (r, M')) : cR z me_X9_years (0, [some (.ref 0), some (.int p1)], [], M) r M' := by
  unfold f_X9_years at h
  refine am_R.go 4 (q' := (5, [some (.ref 0), some (.int p1)], [.int 20, .int 0, .int p1, .ref 0], M)) rfl trivial ?_
  rcases am_bvx_s h with ⟨M5, hz, h⟩ | ⟨x, M5, hz, h⟩
  · refine am_R.call (e' := me_X9_needBetween) (as := [.ref 0, .int p1, .int 0, .int 20]) (rest := []) rfl rfl (Nat.le_of_ble_eq_true rfl) (t_X9_needBetween z N p1 0 20 _ hz) ?_
    refine am_R.go 13 (q' := (36, [some (.ref 0), some (.int p1)], [.int (if ((M5 13 2) + p1) < 20 then (M5 13 2) + p1 else 20)], am_up M5 13 2 (if ((M5 13 2) + p1) < 20 then (M5 13 2) + p1 else 20))) rfl trivial ?_
    cases h
    exact am_R.ret rfl rfl trivial
  · cases h
    exact am_R.callx (e' := me_X9_needBetween) (as := [.ref 0, .int p1, .int 0, .int 20]) (rest := []) rfl rfl (Nat.le_of_ble_eq_true rfl) rfl (t_X9_needBetween z N p1 0 20 _ hz)
def f_X9_needFog (N : Nat) (p1 : Int32) (M : am_M) : Option (Except Nat (Option Value) × am_M) :=
  am_bvx (f_X9_needBetween N p1 0 9 M) fun M5 =>
    some (.ok none, M5)
set_option maxRecDepth 100000 in
theorem t_X9_needFog (z : Value) (N : Nat) (p1 : Int32) (M : am_M) {r : Except Nat (Option Value)} {M' : am_M} (h : f_X9_needFog N p1 M = some (r, M')) : cR z me_X9_needFog (0, [some (.ref 0), some (.int p1)], [], M) r M' := by
  unfold f_X9_needFog at h
  refine am_R.go 4 (q' := (5, [some (.ref 0), some (.int p1)], [.int 9, .int 0, .int p1, .ref 0], M)) rfl trivial ?_
  rcases am_bvx_s h with ⟨M5, hz, h⟩ | ⟨x, M5, hz, h⟩
  · refine am_R.call (e' := me_X9_needBetween) (as := [.ref 0, .int p1, .int 0, .int 9]) (rest := []) rfl rfl (Nat.le_of_ble_eq_true rfl) (t_X9_needBetween z N p1 0 9 _ hz) ?_
    cases h
    exact am_R.ret rfl rfl trivial
  · cases h
    exact am_R.callx (e' := me_X9_needBetween) (as := [.ref 0, .int p1, .int 0, .int 9]) (rest := []) rfl rfl (Nat.le_of_ble_eq_true rfl) rfl (t_X9_needBetween z N p1 0 9 _ hz)
def f_X6_addEcho_104 (N : Nat) (v1 : Int32) (v2 : Int32) (v3 : Int32) (v4 : Int32) (v5 : Int32) (M : am_M) : Option (Except Nat (Option Value) × am_M) :=
  if am_in v5 24 then
    some (.ok none, am_up (am_up (am_up (am_up (am_up M 52 (v5.toNatClampNeg) v1) 53 (v5.toNatClampNeg) v2) 54 (v5.toNatClampNeg) v3) 55 (v5.toNatClampNeg) v4) 51 0 ((M 51 0) + 1))
  else none
set_option maxRecDepth 100000 in
theorem t_X6_addEcho_104 (z : Value) (N : Nat) {r : Except Nat (Option Value)} {M' : am_M} (v1 : Int32) (v2 : Int32) (v3 : Int32) (v4 : Int32) (v5 : Int32) (M : am_M) (h : f_X6_addEcho_104 N v1 v2 v3 v4 v5 M = some (r, M')) : cR z me_X6_addEcho (104, [some (.ref 51), some (.int v1), some (.int v2), some (.int v3), some (.int v4), some (.int v5)], [], M) r M' := by
  unfold f_X6_addEcho_104 at h
  obtain ⟨hC, h⟩ := am_gd h
  refine am_R.go 26 (q' := (147, [some (.ref 51), some (.int v1), some (.int v2), some (.int v3), some (.int v4), some (.int v5)], [], am_up (am_up (am_up (am_up (am_up M 52 (v5.toNatClampNeg) v1) 53 (v5.toNatClampNeg) v2) 54 (v5.toNatClampNeg) v3) 55 (v5.toNatClampNeg) v4) 51 0 ((M 51 0) + 1))) rfl ⟨hC, hC, hC, hC, trivial⟩ ?_
  cases h
  exact am_R.ret rfl rfl trivial
def f_X6_addEcho_16B (N : Nat) (v1 : Int32) (v2 : Int32) (v3 : Int32) (v4 : Int32) (k16 : Int32 → am_M → Option (Except Nat (Option Value) × am_M)) (v5 : Int32) (M : am_M) : Option (Except Nat (Option Value) × am_M) :=
  if v5 ≤ 0 then
    f_X6_addEcho_104 N v1 v2 v3 v4 v5 M
  else
    if am_in (v5 - 1) 24 then
      if (M 52 ((v5 - 1).toNatClampNeg)) ≤ v1 then
        f_X6_addEcho_104 N v1 v2 v3 v4 v5 M
      else
        if am_in (v5 - 1) 24 ∧ am_in v5 24 then
          k16 (v5 + (-1)) (am_up (am_up (am_up (am_up M 52 (v5.toNatClampNeg) (M 52 ((v5 - 1).toNatClampNeg))) 53 (v5.toNatClampNeg) (M 53 ((v5 - 1).toNatClampNeg))) 54 (v5.toNatClampNeg) (M 54 ((v5 - 1).toNatClampNeg))) 55 (v5.toNatClampNeg) (M 55 ((v5 - 1).toNatClampNeg)))
        else none
    else none
def f_X6_addEcho_16 (N : Nat) (v1 : Int32) (v2 : Int32) (v3 : Int32) (v4 : Int32) : Nat → Int32 → am_M → Option (Except Nat (Option Value) × am_M)
  | 0 => fun _ _ => none
  | n + 1 => f_X6_addEcho_16B N v1 v2 v3 v4 (f_X6_addEcho_16 N v1 v2 v3 v4 n)
set_option maxRecDepth 100000 in
theorem t_X6_addEcho_16B (z : Value) (N : Nat) (v1 : Int32) (v2 : Int32) (v3 : Int32) (v4 : Int32) {r : Except Nat (Option Value)} {M' : am_M} (k16 : Int32 → am_M → Option (Except Nat (Option Value) × am_M)) (hk16 : ∀ (v5 : Int32) (M : am_M), k16 v5 M = some (r, M') → cR z me_X6_addEcho (16, [some (.ref 51), some (.int v1), some (.int v2), some (.int v3), some (.int v4), some (.int v5)], [], M) r M') (v5 : Int32) (M : am_M) (h : f_X6_addEcho_16B N v1 v2 v3 v4 k16 v5 M = some (r, M')) : cR z me_X6_addEcho (16, [some (.ref 51), some (.int v1), some (.int v2), some (.int v3), some (.int v4), some (.int v5)], [], M) r M' := by
  unfold f_X6_addEcho_16B at h
  refine am_R.go 1 (q' := (18, [some (.ref 51), some (.int v1), some (.int v2), some (.int v3), some (.int v4), some (.int v5)], [.int v5], M)) rfl trivial ?_
  rcases am_it h with ⟨hc, h⟩ | ⟨hc, h⟩
  · refine am_R.ct rfl rfl hc ?_
    exact t_X6_addEcho_104 z N v1 v2 v3 v4 v5 _ h
  · refine am_R.cn rfl rfl hc ?_
    obtain ⟨hC, h⟩ := am_gd h
    refine am_R.go 7 (q' := (31, [some (.ref 51), some (.int v1), some (.int v2), some (.int v3), some (.int v4), some (.int v5)], [.int v1, .int (M 52 ((v5 - 1).toNatClampNeg))], M)) rfl ⟨hC, trivial⟩ ?_
    rcases am_it h with ⟨hc, h⟩ | ⟨hc, h⟩
    · refine am_R.bt rfl rfl hc ?_
      exact t_X6_addEcho_104 z N v1 v2 v3 v4 v5 _ h
    · refine am_R.bn rfl rfl hc ?_
      obtain ⟨hC, h⟩ := am_gd h
      refine am_R.go 42 (q' := (16, [some (.ref 51), some (.int v1), some (.int v2), some (.int v3), some (.int v4), some (.int (v5 + (-1)))], [], am_up (am_up (am_up (am_up M 52 (v5.toNatClampNeg) (M 52 ((v5 - 1).toNatClampNeg))) 53 (v5.toNatClampNeg) (M 53 ((v5 - 1).toNatClampNeg))) 54 (v5.toNatClampNeg) (M 54 ((v5 - 1).toNatClampNeg))) 55 (v5.toNatClampNeg) (M 55 ((v5 - 1).toNatClampNeg)))) rfl ⟨hC.1, hC.2, hC.1, hC.2, hC.1, hC.2, hC.1, hC.2, trivial⟩ ?_
      exact hk16 (v5 + (-1)) _ h
set_option maxRecDepth 100000 in
theorem t_X6_addEcho_16 (z : Value) (N : Nat) (v1 : Int32) (v2 : Int32) (v3 : Int32) (v4 : Int32) {r : Except Nat (Option Value)} {M' : am_M} : ∀ (n : Nat) (v5 : Int32) (M : am_M), f_X6_addEcho_16 N v1 v2 v3 v4 n v5 M = some (r, M') → cR z me_X6_addEcho (16, [some (.ref 51), some (.int v1), some (.int v2), some (.int v3), some (.int v4), some (.int v5)], [], M) r M' := by
  intro n
  induction n with
  | zero => intro v5 M h; cases h
  | succ n ih => intro v5 M h; exact t_X6_addEcho_16B z N v1 v2 v3 v4 _ ih v5 M h
def f_X6_addEcho (N : Nat) (p1 : Int32) (p2 : Int32) (p3 : Int32) (p4 : Int32) (M : am_M) : Option (Except Nat (Option Value) × am_M) :=
  if (M 51 0) < 24 then
    f_X6_addEcho_16 N p1 p2 p3 p4 N (M 51 0) M
  else
    some (.ok none, M)
set_option maxRecDepth 100000 in
theorem t_X6_addEcho (z : Value) (N : Nat) (p1 : Int32) (p2 : Int32) (p3 : Int32) (p4 : Int32) (M : am_M) {r : Except Nat (Option Value)} {M' : am_M} (h : f_X6_addEcho N p1 p2 p3 p4 M = some (r, M')) : cR z me_X6_addEcho (0, [some (.ref 51), some (.int p1), some (.int p2), some (.int p3), some (.int p4), none], [], M) r M' := by
  unfold f_X6_addEcho at h
  refine am_R.go 3 (q' := (6, [some (.ref 51), some (.int p1), some (.int p2), some (.int p3), some (.int p4), none], [.int 24, .int (M 51 0)], M)) rfl trivial ?_
  rcases am_it h with ⟨hc, h⟩ | ⟨hc, h⟩
  · refine am_R.bt rfl rfl hc ?_
    refine am_R.go 3 (q' := (16, [some (.ref 51), some (.int p1), some (.int p2), some (.int p3), some (.int p4), some (.int (M 51 0))], [], M)) rfl trivial ?_
    exact t_X6_addEcho_16 z N p1 p2 p3 p4 N (M 51 0) _ h
  · refine am_R.bn rfl rfl hc ?_
    cases h
    exact am_R.ret rfl rfl trivial
