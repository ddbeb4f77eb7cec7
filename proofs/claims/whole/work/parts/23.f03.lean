def f_X8_has_26 (N : Nat) (p1 : Int32) (p2 : Int32) (M : am_M) : Option (Except Nat (Option Value) × am_M) :=
  if p1 < 0 then
    some (.ok (some (.int 0)), M)
  else
    if (M 26 3) ≤ p1 then
      some (.ok (some (.int 0)), M)
    else
      if p2 < 0 then
        some (.ok (some (.int 0)), M)
      else
        if (M 26 1) ≤ p2 then
          some (.ok (some (.int 0)), M)
        else
          some (.ok (some (.int 1)), M)
set_option maxRecDepth 100000 in
theorem t_X8_has_26 (z : Value) (N : Nat) (p1 : Int32) (p2 : Int32) (M : am_M) {r : Except Nat (Option Value)} {M' : am_M} (h : f_X8_has_26 N p1 p2 M = some (r, M')) : cR z me_X8_has (0, [some (.ref 26), some (.int p1), some (.int p2)], [], M) r M' := by
  unfold f_X8_has_26 at h
  refine am_R.go 1 (q' := (1, [some (.ref 26), some (.int p1), some (.int p2)], [.int p1], M)) rfl trivial ?_
  rcases am_it h with ⟨hc, h⟩ | ⟨hc, h⟩
  · refine am_R.ct rfl rfl hc ?_
    refine am_R.go 1 (q' := (29, [some (.ref 26), some (.int p1), some (.int p2)], [.int 0], M)) rfl trivial ?_
    cases h
    exact am_R.ret rfl rfl (Or.inl rfl)
  · refine am_R.cn rfl rfl hc ?_
    refine am_R.go 3 (q' := (9, [some (.ref 26), some (.int p1), some (.int p2)], [.int (M 26 3), .int p1], M)) rfl trivial ?_
    rcases am_it h with ⟨hc, h⟩ | ⟨hc, h⟩
    · refine am_R.bt rfl rfl hc ?_
      refine am_R.go 1 (q' := (29, [some (.ref 26), some (.int p1), some (.int p2)], [.int 0], M)) rfl trivial ?_
      cases h
      exact am_R.ret rfl rfl (Or.inl rfl)
    · refine am_R.bn rfl rfl hc ?_
      refine am_R.go 1 (q' := (13, [some (.ref 26), some (.int p1), some (.int p2)], [.int p2], M)) rfl trivial ?_
      rcases am_it h with ⟨hc, h⟩ | ⟨hc, h⟩
      · refine am_R.ct rfl rfl hc ?_
        refine am_R.go 1 (q' := (29, [some (.ref 26), some (.int p1), some (.int p2)], [.int 0], M)) rfl trivial ?_
        cases h
        exact am_R.ret rfl rfl (Or.inl rfl)
      · refine am_R.cn rfl rfl hc ?_
        refine am_R.go 3 (q' := (21, [some (.ref 26), some (.int p1), some (.int p2)], [.int (M 26 1), .int p2], M)) rfl trivial ?_
        rcases am_it h with ⟨hc, h⟩ | ⟨hc, h⟩
        · refine am_R.bt rfl rfl hc ?_
          refine am_R.go 1 (q' := (29, [some (.ref 26), some (.int p1), some (.int p2)], [.int 0], M)) rfl trivial ?_
          cases h
          exact am_R.ret rfl rfl (Or.inl rfl)
        · refine am_R.bn rfl rfl hc ?_
          refine am_R.go 2 (q' := (29, [some (.ref 26), some (.int p1), some (.int p2)], [.int 1], M)) rfl trivial ?_
          cases h
          exact am_R.ret rfl rfl (Or.inr rfl)
def f_X8_put_26 (N : Nat) (p1 : Int32) (p2 : Int32) (p3 : Int32) (M : am_M) : Option (Except Nat (Option Value) × am_M) :=
  am_bi (f_X8_has_26 N p1 p2 M) fun r3 M3 =>
    if r3 = 0 then
      some (.ok none, M3)
    else
      if am_in ((p1 * (M3 26 1)) + p2) 24 then
        some (.ok none, am_up M3 27 (((p1 * (M3 26 1)) + p2).toNatClampNeg) p3)
      else none
set_option maxRecDepth 100000 in
theorem t_X8_put_26 (z : Value) (N : Nat) (p1 : Int32) (p2 : Int32) (p3 : Int32) (M : am_M) {r : Except Nat (Option Value)} {M' : am_M} (h : f_X8_put_26 N p1 p2 p3 M = some (r, M')) : cR z me_X8_put (0, [some (.ref 26), some (.int p1), some (.int p2), some (.int p3)], [], M) r M' := by
  unfold f_X8_put_26 at h
  refine am_R.go 3 (q' := (3, [some (.ref 26), some (.int p1), some (.int p2), some (.int p3)], [.int p2, .int p1, .ref 26], M)) rfl trivial ?_
  obtain ⟨r3, M3, hz, h⟩ := am_bi_s h
  refine am_R.call (e' := me_X8_has) (as := [.ref 26, .int p1, .int p2]) (rest := []) rfl rfl (Nat.le_of_ble_eq_true rfl) (t_X8_has_26 z N p1 p2 _ hz) ?_
  rcases am_it h with ⟨hc, h⟩ | ⟨hc, h⟩
  · refine am_R.ct rfl rfl hc ?_
    cases h
    exact am_R.ret rfl rfl trivial
  · refine am_R.cn rfl rfl hc ?_
    obtain ⟨hC, h⟩ := am_gd h
    refine am_R.go 10 (q' := (23, [some (.ref 26), some (.int p1), some (.int p2), some (.int p3)], [], am_up M3 27 (((p1 * (M3 26 1)) + p2).toNatClampNeg) p3)) rfl ⟨hC, trivial⟩ ?_
    cases h
    exact am_R.ret rfl rfl trivial
def f_X5_readPlace_26 (N : Nat) (M : am_M) : Option (Except Nat (Option Value) × am_M) :=
  am_bi (f_X8_open_26 N M) fun r1 M1 =>
    am_bi (f_X5_readNumber N 0 ((M1 19 0) - 1) M1) fun r19 M19 =>
      am_bv (f_X8_put_26 N r1 0 r19 M19) fun M22 =>
        am_bi (f_X5_readNumber N 0 ((M22 19 1) - 1) M22) fun r39 M39 =>
          am_bv (f_X8_put_26 N r1 1 r39 M39) fun M42 =>
            some (.ok (some (.int r1)), M42)
set_option maxRecDepth 100000 in
theorem t_X5_readPlace_26 (z : Value) (N : Nat) (M : am_M) {r : Except Nat (Option Value)} {M' : am_M} (h : f_X5_readPlace_26 N M = some (r, M')) : cR z me_X5_readPlace (0, [some (.ref 18), some (.ref 26), none], [], M) r M' := by
  unfold f_X5_readPlace_26 at h
  refine am_R.go 1 (q' := (1, [some (.ref 18), some (.ref 26), none], [.ref 26], M)) rfl trivial ?_
  obtain ⟨r1, M1, hz, h⟩ := am_bi_s h
  refine am_R.call (e' := me_X8_open) (as := [.ref 26]) (rest := []) rfl rfl (Nat.le_of_ble_eq_true rfl) (t_X8_open_26 z N _ hz) ?_
  refine am_R.go 11 (q' := (19, [some (.ref 18), some (.ref 26), some (.int r1)], [.int ((M1 19 0) - 1), .int 0, .ref 18, .int 0, .int r1, .ref 26], M1)) rfl trivial ?_
  obtain ⟨r19, M19, hz, h⟩ := am_bi_s h
  refine am_R.call (e' := me_X5_readNumber) (as := [.ref 18, .int 0, .int ((M1 19 0) - 1)]) (rest := [.int 0, .int r1, .ref 26]) rfl rfl (Nat.le_of_ble_eq_true rfl) (t_X5_readNumber z N 0 ((M1 19 0) - 1) _ hz) ?_
  obtain ⟨M22, hz, h⟩ := am_bv_s h
  refine am_R.call (e' := me_X8_put) (as := [.ref 26, .int r1, .int 0, .int r19]) (rest := []) rfl rfl (Nat.le_of_ble_eq_true rfl) (t_X8_put_26 z N r1 0 r19 _ hz) ?_
  refine am_R.go 10 (q' := (39, [some (.ref 18), some (.ref 26), some (.int r1)], [.int ((M22 19 1) - 1), .int 0, .ref 18, .int 1, .int r1, .ref 26], M22)) rfl trivial ?_
  obtain ⟨r39, M39, hz, h⟩ := am_bi_s h
  refine am_R.call (e' := me_X5_readNumber) (as := [.ref 18, .int 0, .int ((M22 19 1) - 1)]) (rest := [.int 1, .int r1, .ref 26]) rfl rfl (Nat.le_of_ble_eq_true rfl) (t_X5_readNumber z N 0 ((M22 19 1) - 1) _ hz) ?_
  obtain ⟨M42, hz, h⟩ := am_bv_s h
  refine am_R.call (e' := me_X8_put) (as := [.ref 26, .int r1, .int 1, .int r39]) (rest := []) rfl rfl (Nat.le_of_ble_eq_true rfl) (t_X8_put_26 z N r1 1 r39 _ hz) ?_
  refine am_R.go 1 (q' := (46, [some (.ref 18), some (.ref 26), some (.int r1)], [.int r1], M42)) rfl trivial ?_
  cases h
  exact am_R.ret rfl rfl trivial
def f_X5_readPlaceWith_26 (N : Nat) (p2 : Int32) (M : am_M) : Option (Except Nat (Option Value) × am_M) :=
  am_bi (f_X5_readPlace_26 N M) fun r2 M2 =>
    am_bi (f_X5_readNumber N p2 99 M2) fun r13 M13 =>
      am_bv (f_X8_put_26 N r2 2 r13 M13) fun M16 =>
        some (.ok none, M16)
set_option maxRecDepth 100000 in
theorem t_X5_readPlaceWith_26 (z : Value) (N : Nat) (p2 : Int32) (M : am_M) {r : Except Nat (Option Value)} {M' : am_M} (h : f_X5_readPlaceWith_26 N p2 M = some (r, M')) : cR z me_X5_readPlaceWith (0, [some (.ref 18), some (.ref 26), some (.int p2), none], [], M) r M' := by
  unfold f_X5_readPlaceWith_26 at h
  refine am_R.go 2 (q' := (2, [some (.ref 18), some (.ref 26), some (.int p2), none], [.ref 26, .ref 18], M)) rfl trivial ?_
  obtain ⟨r2, M2, hz, h⟩ := am_bi_s h
  refine am_R.call (e' := me_X5_readPlace) (as := [.ref 18, .ref 26]) (rest := []) rfl rfl (Nat.le_of_ble_eq_true rfl) (t_X5_readPlace_26 z N _ hz) ?_
  refine am_R.go 7 (q' := (13, [some (.ref 18), some (.ref 26), some (.int p2), some (.int r2)], [.int 99, .int p2, .ref 18, .int 2, .int r2, .ref 26], M2)) rfl trivial ?_
  obtain ⟨r13, M13, hz, h⟩ := am_bi_s h
  refine am_R.call (e' := me_X5_readNumber) (as := [.ref 18, .int p2, .int 99]) (rest := [.int 2, .int r2, .ref 26]) rfl rfl (Nat.le_of_ble_eq_true rfl) (t_X5_readNumber z N p2 99 _ hz) ?_
  obtain ⟨M16, hz, h⟩ := am_bv_s h
  refine am_R.call (e' := me_X8_put) (as := [.ref 26, .int r2, .int 2, .int r13]) (rest := []) rfl rfl (Nat.le_of_ble_eq_true rfl) (t_X8_put_26 z N r2 2 r13 _ hz) ?_
  cases h
  exact am_R.ret rfl rfl trivial
def f_X8_open_20 (N : Nat) (M : am_M) : Option (Except Nat (Option Value) × am_M) :=
  am_bi (f_X8_isFull_20 N M) fun r1 M1 =>
    if r1 = 0 then
      some (.ok (some (.int (((M1 20 3) + 1) - 1))), am_up M1 20 3 ((M1 20 3) + 1))
    else
      some (.ok (some (.int (-1))), M1)
set_option maxRecDepth 100000 in
theorem t_X8_open_20 (z : Value) (N : Nat) (M : am_M) {r : Except Nat (Option Value)} {M' : am_M} (h : f_X8_open_20 N M = some (r, M')) : cR z me_X8_open (0, [some (.ref 20)], [], M) r M' := by
  unfold f_X8_open_20 at h
  refine am_R.go 1 (q' := (1, [some (.ref 20)], [.ref 20], M)) rfl trivial ?_
  obtain ⟨r1, M1, hz, h⟩ := am_bi_s h
  refine am_R.call (e' := me_X8_isFull) (as := [.ref 20]) (rest := []) rfl rfl (Nat.le_of_ble_eq_true rfl) (t_X8_isFull_20 z N _ hz) ?_
  rcases am_it h with ⟨hc, h⟩ | ⟨hc, h⟩
  · refine am_R.ct rfl rfl hc ?_
    refine am_R.go 10 (q' := (25, [some (.ref 20)], [.int (((M1 20 3) + 1) - 1)], am_up M1 20 3 ((M1 20 3) + 1))) rfl trivial ?_
    cases h
    exact am_R.ret rfl rfl trivial
  · refine am_R.cn rfl rfl hc ?_
    refine am_R.go 1 (q' := (8, [some (.ref 20)], [.int (-1)], M1)) rfl trivial ?_
    cases h
    exact am_R.ret rfl rfl trivial
def f_X8_has_20 (N : Nat) (p1 : Int32) (p2 : Int32) (M : am_M) : Option (Except Nat (Option Value) × am_M) :=
  if p1 < 0 then
    some (.ok (some (.int 0)), M)
  else
    if (M 20 3) ≤ p1 then
      some (.ok (some (.int 0)), M)
    else
      if p2 < 0 then
        some (.ok (some (.int 0)), M)
      else
        if (M 20 1) ≤ p2 then
          some (.ok (some (.int 0)), M)
        else
          some (.ok (some (.int 1)), M)
set_option maxRecDepth 100000 in
theorem t_X8_has_20 (z : Value) (N : Nat) (p1 : Int32) (p2 : Int32) (M : am_M) {r : Except Nat (Option Value)} {M' : am_M} (h : f_X8_has_20 N p1 p2 M = some (r, M')) : cR z me_X8_has (0, [some (.ref 20), some (.int p1), some (.int p2)], [], M) r M' := by
  unfold f_X8_has_20 at h
  refine am_R.go 1 (q' := (1, [some (.ref 20), some (.int p1), some (.int p2)], [.int p1], M)) rfl trivial ?_
  rcases am_it h with ⟨hc, h⟩ | ⟨hc, h⟩
  · refine am_R.ct rfl rfl hc ?_
    refine am_R.go 1 (q' := (29, [some (.ref 20), some (.int p1), some (.int p2)], [.int 0], M)) rfl trivial ?_
    cases h
    exact am_R.ret rfl rfl (Or.inl rfl)
  · refine am_R.cn rfl rfl hc ?_
    refine am_R.go 3 (q' := (9, [some (.ref 20), some (.int p1), some (.int p2)], [.int (M 20 3), .int p1], M)) rfl trivial ?_
    rcases am_it h with ⟨hc, h⟩ | ⟨hc, h⟩
    · refine am_R.bt rfl rfl hc ?_
      refine am_R.go 1 (q' := (29, [some (.ref 20), some (.int p1), some (.int p2)], [.int 0], M)) rfl trivial ?_
      cases h
      exact am_R.ret rfl rfl (Or.inl rfl)
    · refine am_R.bn rfl rfl hc ?_
      refine am_R.go 1 (q' := (13, [some (.ref 20), some (.int p1), some (.int p2)], [.int p2], M)) rfl trivial ?_
      rcases am_it h with ⟨hc, h⟩ | ⟨hc, h⟩
      · refine am_R.ct rfl rfl hc ?_
        refine am_R.go 1 (q' := (29, [some (.ref 20), some (.int p1), some (.int p2)], [.int 0], M)) rfl trivial ?_
        cases h
        exact am_R.ret rfl rfl (Or.inl rfl)
      · refine am_R.cn rfl rfl hc ?_
        refine am_R.go 3 (q' := (21, [some (.ref 20), some (.int p1), some (.int p2)], [.int (M 20 1), .int p2], M)) rfl trivial ?_
        rcases am_it h with ⟨hc, h⟩ | ⟨hc, h⟩
        · refine am_R.bt rfl rfl hc ?_
          refine am_R.go 1 (q' := (29, [some (.ref 20), some (.int p1), some (.int p2)], [.int 0], M)) rfl trivial ?_
          cases h
          exact am_R.ret rfl rfl (Or.inl rfl)
        · refine am_R.bn rfl rfl hc ?_
          refine am_R.go 2 (q' := (29, [some (.ref 20), some (.int p1), some (.int p2)], [.int 1], M)) rfl trivial ?_
          cases h
          exact am_R.ret rfl rfl (Or.inr rfl)
def f_X8_put_20 (N : Nat) (p1 : Int32) (p2 : Int32) (p3 : Int32) (M : am_M) : Option (Except Nat (Option Value) × am_M) :=
  am_bi (f_X8_has_20 N p1 p2 M) fun r3 M3 =>
    if r3 = 0 then
      some (.ok none, M3)
    else
      if am_in ((p1 * (M3 20 1)) + p2) 25 then
        some (.ok none, am_up M3 21 (((p1 * (M3 20 1)) + p2).toNatClampNeg) p3)
      else none
set_option maxRecDepth 100000 in
theorem t_X8_put_20 (z : Value) (N : Nat) (p1 : Int32) (p2 : Int32) (p3 : Int32) (M : am_M) {r : Except Nat (Option Value)} {M' : am_M} (h : f_X8_put_20 N p1 p2 p3 M = some (r, M')) : cR z me_X8_put (0, [some (.ref 20), some (.int p1), some (.int p2), some (.int p3)], [], M) r M' := by
  unfold f_X8_put_20 at h
  refine am_R.go 3 (q' := (3, [some (.ref 20), some (.int p1), some (.int p2), some (.int p3)], [.int p2, .int p1, .ref 20], M)) rfl trivial ?_
  obtain ⟨r3, M3, hz, h⟩ := am_bi_s h
  refine am_R.call (e' := me_X8_has) (as := [.ref 20, .int p1, .int p2]) (rest := []) rfl rfl (Nat.le_of_ble_eq_true rfl) (t_X8_has_20 z N p1 p2 _ hz) ?_
  rcases am_it h with ⟨hc, h⟩ | ⟨hc, h⟩
  · refine am_R.ct rfl rfl hc ?_
    cases h
    exact am_R.ret rfl rfl trivial
  · refine am_R.cn rfl rfl hc ?_
    obtain ⟨hC, h⟩ := am_gd h
    refine am_R.go 10 (q' := (23, [some (.ref 20), some (.int p1), some (.int p2), some (.int p3)], [], am_up M3 21 (((p1 * (M3 20 1)) + p2).toNatClampNeg) p3)) rfl ⟨hC, trivial⟩ ?_
    cases h
    exact am_R.ret rfl rfl trivial
def f_X5_readPlace_20 (N : Nat) (M : am_M) : Option (Except Nat (Option Value) × am_M) :=
  am_bi (f_X8_open_20 N M) fun r1 M1 =>
    am_bi (f_X5_readNumber N 0 ((M1 19 0) - 1) M1) fun r19 M19 =>
      am_bv (f_X8_put_20 N r1 0 r19 M19) fun M22 =>
        am_bi (f_X5_readNumber N 0 ((M22 19 1) - 1) M22) fun r39 M39 =>
          am_bv (f_X8_put_20 N r1 1 r39 M39) fun M42 =>
            some (.ok (some (.int r1)), M42)
set_option maxRecDepth 100000 in
theorem t_X5_readPlace_20 (z : Value) (N : Nat) (M : am_M) {r : Except Nat (Option Value)} {M' : am_M} (h : f_X5_readPlace_20 N M = some (r, M')) : cR z me_X5_readPlace (0, [some (.ref 18), some (.ref 20), none], [], M) r M' := by
  unfold f_X5_readPlace_20 at h
  refine am_R.go 1 (q' := (1, [some (.ref 18), some (.ref 20), none], [.ref 20], M)) rfl trivial ?_
  obtain ⟨r1, M1, hz, h⟩ := am_bi_s h
  refine am_R.call (e' := me_X8_open) (as := [.ref 20]) (rest := []) rfl rfl (Nat.le_of_ble_eq_true rfl) (t_X8_open_20 z N _ hz) ?_
  refine am_R.go 11 (q' := (19, [some (.ref 18), some (.ref 20), some (.int r1)], [.int ((M1 19 0) - 1), .int 0, .ref 18, .int 0, .int r1, .ref 20], M1)) rfl trivial ?_
  obtain ⟨r19, M19, hz, h⟩ := am_bi_s h
  refine am_R.call (e' := me_X5_readNumber) (as := [.ref 18, .int 0, .int ((M1 19 0) - 1)]) (rest := [.int 0, .int r1, .ref 20]) rfl rfl (Nat.le_of_ble_eq_true rfl) (t_X5_readNumber z N 0 ((M1 19 0) - 1) _ hz) ?_
  obtain ⟨M22, hz, h⟩ := am_bv_s h
  refine am_R.call (e' := me_X8_put) (as := [.ref 20, .int r1, .int 0, .int r19]) (rest := []) rfl rfl (Nat.le_of_ble_eq_true rfl) (t_X8_put_20 z N r1 0 r19 _ hz) ?_
  refine am_R.go 10 (q' := (39, [some (.ref 18), some (.ref 20), some (.int r1)], [.int ((M22 19 1) - 1), .int 0, .ref 18, .int 1, .int r1, .ref 20], M22)) rfl trivial ?_
  obtain ⟨r39, M39, hz, h⟩ := am_bi_s h
  refine am_R.call (e' := me_X5_readNumber) (as := [.ref 18, .int 0, .int ((M22 19 1) - 1)]) (rest := [.int 1, .int r1, .ref 20]) rfl rfl (Nat.le_of_ble_eq_true rfl) (t_X5_readNumber z N 0 ((M22 19 1) - 1) _ hz) ?_
  obtain ⟨M42, hz, h⟩ := am_bv_s h
  refine am_R.call (e' := me_X8_put) (as := [.ref 20, .int r1, .int 1, .int r39]) (rest := []) rfl rfl (Nat.le_of_ble_eq_true rfl) (t_X8_put_20 z N r1 1 r39 _ hz) ?_
  refine am_R.go 1 (q' := (46, [some (.ref 18), some (.ref 20), some (.int r1)], [.int r1], M42)) rfl trivial ?_
  cases h
  exact am_R.ret rfl rfl trivial
def f_X8_at_20 (N : Nat) (p1 : Int32) (p2 : Int32) (M : am_M) : Option (Except Nat (Option Value) × am_M) :=
  am_bi (f_X8_has_20 N p1 p2 M) fun r3 M3 =>
    if r3 = 0 then
      some (.ok (some (.int 0)), M3)
    else
      if am_in ((p1 * (M3 20 1)) + p2) 25 then
        some (.ok (some (.int (M3 21 (((p1 * (M3 20 1)) + p2).toNatClampNeg)))), M3)
      else none
set_option maxRecDepth 100000 in
theorem t_X8_at_20 (z : Value) (N : Nat) (p1 : Int32) (p2 : Int32) (M : am_M) {r : Except Nat (Option Value)} {M' : am_M} (h : f_X8_at_20 N p1 p2 M = some (r, M')) : cR z me_X8_at (0, [some (.ref 20), some (.int p1), some (.int p2)], [], M) r M' := by
  unfold f_X8_at_20 at h
  refine am_R.go 3 (q' := (3, [some (.ref 20), some (.int p1), some (.int p2)], [.int p2, .int p1, .ref 20], M)) rfl trivial ?_
  obtain ⟨r3, M3, hz, h⟩ := am_bi_s h
  refine am_R.call (e' := me_X8_has) (as := [.ref 20, .int p1, .int p2]) (rest := []) rfl rfl (Nat.le_of_ble_eq_true rfl) (t_X8_has_20 z N p1 p2 _ hz) ?_
  rcases am_it h with ⟨hc, h⟩ | ⟨hc, h⟩
  · refine am_R.ct rfl rfl hc ?_
    refine am_R.go 1 (q' := (26, [some (.ref 20), some (.int p1), some (.int p2)], [.int 0], M3)) rfl trivial ?_
    cases h
    exact am_R.ret rfl rfl trivial
  · refine am_R.cn rfl rfl hc ?_
    obtain ⟨hC, h⟩ := am_gd h
    refine am_R.go 10 (q' := (26, [some (.ref 20), some (.int p1), some (.int p2)], [.int (M3 21 (((p1 * (M3 20 1)) + p2).toNatClampNeg))], M3)) rfl ⟨hC, trivial⟩ ?_
    cases h
    exact am_R.ret rfl rfl trivial
def f_X5_readField (N : Nat) (M : am_M) : Option (Except Nat (Option Value) × am_M) :=
  am_bi (f_X5_readPlace_20 N M) fun r10 M10 =>
    am_bi (f_X8_at_20 N r10 0 M10) fun r21 M21 =>
      am_bi (f_X5_readNumber N r21 ((M21 19 0) - 1) M21) fun r33 M33 =>
        am_bv (f_X8_put_20 N r10 2 r33 M33) fun M36 =>
          am_bi (f_X8_at_20 N r10 1 M36) fun r46 M46 =>
            am_bi (f_X5_readNumber N r46 ((M46 19 1) - 1) M46) fun r58 M58 =>
              am_bv (f_X8_put_20 N r10 3 r58 M58) fun M61 =>
                am_bi (f_X5_readNumber N 1 99 M61) fun r71 M71 =>
                  am_bv (f_X8_put_20 N r10 4 r71 M71) fun M74 =>
                    some (.ok none, M74)
set_option maxRecDepth 100000 in
theorem t_X5_readField (z : Value) (N : Nat) (M : am_M) {r : Except Nat (Option Value)} {M' : am_M} (h : f_X5_readField N M = some (r, M')) : cR z me_X5_readField (0, [some (.ref 18), none, none], [], M) r M' := by
  unfold f_X5_readField at h
  refine am_R.go 6 (q' := (10, [some (.ref 18), some (.ref 20), none], [.ref 20, .ref 18], M)) rfl trivial ?_
  obtain ⟨r10, M10, hz, h⟩ := am_bi_s h
  refine am_R.call (e' := me_X5_readPlace) (as := [.ref 18, .ref 20]) (rest := []) rfl rfl (Nat.le_of_ble_eq_true rfl) (t_X5_readPlace_20 z N _ hz) ?_
  refine am_R.go 8 (q' := (21, [some (.ref 18), some (.ref 20), some (.int r10)], [.int 0, .int r10, .ref 20, .ref 18, .int 2, .int r10, .ref 20], M10)) rfl trivial ?_
  obtain ⟨r21, M21, hz, h⟩ := am_bi_s h
  refine am_R.call (e' := me_X8_at) (as := [.ref 20, .int r10, .int 0]) (rest := [.ref 18, .int 2, .int r10, .ref 20]) rfl rfl (Nat.le_of_ble_eq_true rfl) (t_X8_at_20 z N r10 0 _ hz) ?_
  refine am_R.go 5 (q' := (33, [some (.ref 18), some (.ref 20), some (.int r10)], [.int ((M21 19 0) - 1), .int r21, .ref 18, .int 2, .int r10, .ref 20], M21)) rfl trivial ?_
  obtain ⟨r33, M33, hz, h⟩ := am_bi_s h
  refine am_R.call (e' := me_X5_readNumber) (as := [.ref 18, .int r21, .int ((M21 19 0) - 1)]) (rest := [.int 2, .int r10, .ref 20]) rfl rfl (Nat.le_of_ble_eq_true rfl) (t_X5_readNumber z N r21 ((M21 19 0) - 1) _ hz) ?_
  obtain ⟨M36, hz, h⟩ := am_bv_s h
  refine am_R.call (e' := me_X8_put) (as := [.ref 20, .int r10, .int 2, .int r33]) (rest := []) rfl rfl (Nat.le_of_ble_eq_true rfl) (t_X8_put_20 z N r10 2 r33 _ hz) ?_
  refine am_R.go 7 (q' := (46, [some (.ref 18), some (.ref 20), some (.int r10)], [.int 1, .int r10, .ref 20, .ref 18, .int 3, .int r10, .ref 20], M36)) rfl trivial ?_
  obtain ⟨r46, M46, hz, h⟩ := am_bi_s h
  refine am_R.call (e' := me_X8_at) (as := [.ref 20, .int r10, .int 1]) (rest := [.ref 18, .int 3, .int r10, .ref 20]) rfl rfl (Nat.le_of_ble_eq_true rfl) (t_X8_at_20 z N r10 1 _ hz) ?_
  refine am_R.go 5 (q' := (58, [some (.ref 18), some (.ref 20), some (.int r10)], [.int ((M46 19 1) - 1), .int r46, .ref 18, .int 3, .int r10, .ref 20], M46)) rfl trivial ?_
  obtain ⟨r58, M58, hz, h⟩ := am_bi_s h
  refine am_R.call (e' := me_X5_readNumber) (as := [.ref 18, .int r46, .int ((M46 19 1) - 1)]) (rest := [.int 3, .int r10, .ref 20]) rfl rfl (Nat.le_of_ble_eq_true rfl) (t_X5_readNumber z N r46 ((M46 19 1) - 1) _ hz) ?_
  obtain ⟨M61, hz, h⟩ := am_bv_s h
  refine am_R.call (e' := me_X8_put) (as := [.ref 20, .int r10, .int 3, .int r58]) (rest := []) rfl rfl (Nat.le_of_ble_eq_true rfl) (t_X8_put_20 z N r10 3 r58 _ hz) ?_
  refine am_R.go 6 (q' := (71, [some (.ref 18), some (.ref 20), some (.int r10)], [.int 99, .int 1, .ref 18, .int 4, .int r10, .ref 20], M61)) rfl trivial ?_
  obtain ⟨r71, M71, hz, h⟩ := am_bi_s h
  refine am_R.call (e' := me_X5_readNumber) (as := [.ref 18, .int 1, .int 99]) (rest := [.int 4, .int r10, .ref 20]) rfl rfl (Nat.le_of_ble_eq_true rfl) (t_X5_readNumber z N 1 99 _ hz) ?_
  obtain ⟨M74, hz, h⟩ := am_bv_s h
  refine am_R.call (e' := me_X8_put) (as := [.ref 20, .int r10, .int 4, .int r71]) (rest := []) rfl rfl (Nat.le_of_ble_eq_true rfl) (t_X8_put_20 z N r10 4 r71 _ hz) ?_
  cases h
  exact am_R.ret rfl rfl trivial
def f_X8_open_22 (N : Nat) (M : am_M) : Option (Except Nat (Option Value) × am_M) :=
  am_bi (f_X8_isFull_22 N M) fun r1 M1 =>
    if r1 = 0 then
      some (.ok (some (.int (((M1 22 3) + 1) - 1))), am_up M1 22 3 ((M1 22 3) + 1))
    else
      some (.ok (some (.int (-1))), M1)
set_option maxRecDepth 100000 in
theorem t_X8_open_22 (z : Value) (N : Nat) (M : am_M) {r : Except Nat (Option Value)} {M' : am_M} (h : f_X8_open_22 N M = some (r, M')) : cR z me_X8_open (0, [some (.ref 22)], [], M) r M' := by
  unfold f_X8_open_22 at h
  refine am_R.go 1 (q' := (1, [some (.ref 22)], [.ref 22], M)) rfl trivial ?_
  obtain ⟨r1, M1, hz, h⟩ := am_bi_s h
  refine am_R.call (e' := me_X8_isFull) (as := [.ref 22]) (rest := []) rfl rfl (Nat.le_of_ble_eq_true rfl) (t_X8_isFull_22 z N _ hz) ?_
  rcases am_it h with ⟨hc, h⟩ | ⟨hc, h⟩
  · refine am_R.ct rfl rfl hc ?_
    refine am_R.go 10 (q' := (25, [some (.ref 22)], [.int (((M1 22 3) + 1) - 1)], am_up M1 22 3 ((M1 22 3) + 1))) rfl trivial ?_
    cases h
    exact am_R.ret rfl rfl trivial
  · refine am_R.cn rfl rfl hc ?_
    refine am_R.go 1 (q' := (8, [some (.ref 22)], [.int (-1)], M1)) rfl trivial ?_
    cases h
    exact am_R.ret rfl rfl trivial
def f_X8_has_22 (N : Nat) (p1 : Int32) (p2 : Int32) (M : am_M) : Option (Except Nat (Option Value) × am_M) :=
  if p1 < 0 then
    some (.ok (some (.int 0)), M)
  else
    if (M 22 3) ≤ p1 then
      some (.ok (some (.int 0)), M)
    else
      if p2 < 0 then
        some (.ok (some (.int 0)), M)
      else
        if (M 22 1) ≤ p2 then
          some (.ok (some (.int 0)), M)
        else
          some (.ok (some (.int 1)), M)
set_option maxRecDepth 100000 in
theorem t_X8_has_22 (z : Value) (N : Nat) (p1 : Int32) (p2 : Int32) (M : am_M) {r : Except Nat (Option Value)} {M' : am_M} (h : f_X8_has_22 N p1 p2 M = some (r, M')) : cR z me_X8_has (0, [some (.ref 22), some (.int p1), some (.int p2)], [], M) r M' := by
  unfold f_X8_has_22 at h
  refine am_R.go 1 (q' := (1, [some (.ref 22), some (.int p1), some (.int p2)], [.int p1], M)) rfl trivial ?_
  rcases am_it h with ⟨hc, h⟩ | ⟨hc, h⟩
  · refine am_R.ct rfl rfl hc ?_
    refine am_R.go 1 (q' := (29, [some (.ref 22), some (.int p1), some (.int p2)], [.int 0], M)) rfl trivial ?_
    cases h
    exact am_R.ret rfl rfl (Or.inl rfl)
  · refine am_R.cn rfl rfl hc ?_
    refine am_R.go 3 (q' := (9, [some (.ref 22), some (.int p1), some (.int p2)], [.int (M 22 3), .int p1], M)) rfl trivial ?_
    rcases am_it h with ⟨hc, h⟩ | ⟨hc, h⟩
    · refine am_R.bt rfl rfl hc ?_
      refine am_R.go 1 (q' := (29, [some (.ref 22), some (.int p1), some (.int p2)], [.int 0], M)) rfl trivial ?_
      cases h
      exact am_R.ret rfl rfl (Or.inl rfl)
    · refine am_R.bn rfl rfl hc ?_
      refine am_R.go 1 (q' := (13, [some (.ref 22), some (.int p1), some (.int p2)], [.int p2], M)) rfl trivial ?_
      rcases am_it h with ⟨hc, h⟩ | ⟨hc, h⟩
      · refine am_R.ct rfl rfl hc ?_
        refine am_R.go 1 (q' := (29, [some (.ref 22), some (.int p1), some (.int p2)], [.int 0], M)) rfl trivial ?_
        cases h
        exact am_R.ret rfl rfl (Or.inl rfl)
      · refine am_R.cn rfl rfl hc ?_
        refine am_R.go 3 (q' := (21, [some (.ref 22), some (.int p1), some (.int p2)], [.int (M 22 1), .int p2], M)) rfl trivial ?_
        rcases am_it h with ⟨hc, h⟩ | ⟨hc, h⟩
        · refine am_R.bt rfl rfl hc ?_
          refine am_R.go 1 (q' := (29, [some (.ref 22), some (.int p1), some (.int p2)], [.int 0], M)) rfl trivial ?_
          cases h
          exact am_R.ret rfl rfl (Or.inl rfl)
        · refine am_R.bn rfl rfl hc ?_
          refine am_R.go 2 (q' := (29, [some (.ref 22), some (.int p1), some (.int p2)], [.int 1], M)) rfl trivial ?_
          cases h
          exact am_R.ret rfl rfl (Or.inr rfl)
def f_X8_put_22 (N : Nat) (p1 : Int32) (p2 : Int32) (p3 : Int32) (M : am_M) : Option (Except Nat (Option Value) × am_M) :=
  am_bi (f_X8_has_22 N p1 p2 M) fun r3 M3 =>
    if r3 = 0 then
      some (.ok none, M3)
    else
      if am_in ((p1 * (M3 22 1)) + p2) 12 then
        some (.ok none, am_up M3 23 (((p1 * (M3 22 1)) + p2).toNatClampNeg) p3)
      else none
set_option maxRecDepth 100000 in
theorem t_X8_put_22 (z : Value) (N : Nat) (p1 : Int32) (p2 : Int32) (p3 : Int32) (M : am_M) {r : Except Nat (Option Value)} {M' : am_M} (h : f_X8_put_22 N p1 p2 p3 M = some (r, M')) : cR z me_X8_put (0, [some (.ref 22), some (.int p1), some (.int p2), some (.int p3)], [], M) r M' := by
  unfold f_X8_put_22 at h
  refine am_R.go 3 (q' := (3, [some (.ref 22), some (.int p1), some (.int p2), some (.int p3)], [.int p2, .int p1, .ref 22], M)) rfl trivial ?_
  obtain ⟨r3, M3, hz, h⟩ := am_bi_s h
  refine am_R.call (e' := me_X8_has) (as := [.ref 22, .int p1, .int p2]) (rest := []) rfl rfl (Nat.le_of_ble_eq_true rfl) (t_X8_has_22 z N p1 p2 _ hz) ?_
  rcases am_it h with ⟨hc, h⟩ | ⟨hc, h⟩
  · refine am_R.ct rfl rfl hc ?_
    cases h
    exact am_R.ret rfl rfl trivial
  · refine am_R.cn rfl rfl hc ?_
    obtain ⟨hC, h⟩ := am_gd h
    refine am_R.go 10 (q' := (23, [some (.ref 22), some (.int p1), some (.int p2), some (.int p3)], [], am_up M3 23 (((p1 * (M3 22 1)) + p2).toNatClampNeg) p3)) rfl ⟨hC, trivial⟩ ?_
    cases h
    exact am_R.ret rfl rfl trivial
def f_X5_readPlace_22 (N : Nat) (M : am_M) : Option (Except Nat (Option Value) × am_M) :=
  am_bi (f_X8_open_22 N M) fun r1 M1 =>
    am_bi (f_X5_readNumber N 0 ((M1 19 0) - 1) M1) fun r19 M19 =>
      am_bv (f_X8_put_22 N r1 0 r19 M19) fun M22 =>
        am_bi (f_X5_readNumber N 0 ((M22 19 1) - 1) M22) fun r39 M39 =>
          am_bv (f_X8_put_22 N r1 1 r39 M39) fun M42 =>
            some (.ok (some (.int r1)), M42)
set_option maxRecDepth 100000 in
theorem t_X5_readPlace_22 (z : Value) (N : Nat) (M : am_M) {r : Except Nat (Option Value)} {M' : am_M} (h : f_X5_readPlace_22 N M = some (r, M')) : cR z me_X5_readPlace (0, [some (.ref 18), some (.ref 22), none], [], M) r M' := by
  unfold f_X5_readPlace_22 at h
  refine am_R.go 1 (q' := (1, [some (.ref 18), some (.ref 22), none], [.ref 22], M)) rfl trivial ?_
  obtain ⟨r1, M1, hz, h⟩ := am_bi_s h
  refine am_R.call (e' := me_X8_open) (as := [.ref 22]) (rest := []) rfl rfl (Nat.le_of_ble_eq_true rfl) (t_X8_open_22 z N _ hz) ?_
  refine am_R.go 11 (q' := (19, [some (.ref 18), some (.ref 22), some (.int r1)], [.int ((M1 19 0) - 1), .int 0, .ref 18, .int 0, .int r1, .ref 22], M1)) rfl trivial ?_
  obtain ⟨r19, M19, hz, h⟩ := am_bi_s h
  refine am_R.call (e' := me_X5_readNumber) (as := [.ref 18, .int 0, .int ((M1 19 0) - 1)]) (rest := [.int 0, .int r1, .ref 22]) rfl rfl (Nat.le_of_ble_eq_true rfl) (t_X5_readNumber z N 0 ((M1 19 0) - 1) _ hz) ?_
  obtain ⟨M22, hz, h⟩ := am_bv_s h
  refine am_R.call (e' := me_X8_put) (as := [.ref 22, .int r1, .int 0, .int r19]) (rest := []) rfl rfl (Nat.le_of_ble_eq_true rfl) (t_X8_put_22 z N r1 0 r19 _ hz) ?_
  refine am_R.go 10 (q' := (39, [some (.ref 18), some (.ref 22), some (.int r1)], [.int ((M22 19 1) - 1), .int 0, .ref 18, .int 1, .int r1, .ref 22], M22)) rfl trivial ?_
  obtain ⟨r39, M39, hz, h⟩ := am_bi_s h
  refine am_R.call (e' := me_X5_readNumber) (as := [.ref 18, .int 0, .int ((M22 19 1) - 1)]) (rest := [.int 1, .int r1, .ref 22]) rfl rfl (Nat.le_of_ble_eq_true rfl) (t_X5_readNumber z N 0 ((M22 19 1) - 1) _ hz) ?_
  obtain ⟨M42, hz, h⟩ := am_bv_s h
  refine am_R.call (e' := me_X8_put) (as := [.ref 22, .int r1, .int 1, .int r39]) (rest := []) rfl rfl (Nat.le_of_ble_eq_true rfl) (t_X8_put_22 z N r1 1 r39 _ hz) ?_
  refine am_R.go 1 (q' := (46, [some (.ref 18), some (.ref 22), some (.int r1)], [.int r1], M42)) rfl trivial ?_
  cases h
  exact am_R.ret rfl rfl trivial
def f_X5_readPlaceWith_22 (N : Nat) (p2 : Int32) (M : am_M) : Option (Except Nat (Option Value) × am_M) :=
  am_bi (f_X5_readPlace_22 N M) fun r2 M2 =>
    am_bi (f_X5_readNumber N p2 99 M2) fun r13 M13 =>
      am_bv (f_X8_put_22 N r2 2 r13 M13) fun M16 =>
        some (.ok none, M16)
set_option maxRecDepth 100000 in
theorem t_X5_readPlaceWith_22 (z : Value) (N : Nat) (p2 : Int32) (M : am_M) {r : Except Nat (Option Value)} {M' : am_M} (h : f_X5_readPlaceWith_22 N p2 M = some (r, M')) : cR z me_X5_readPlaceWith (0, [some (.ref 18), some (.ref 22), some (.int p2), none], [], M) r M' := by
  unfold f_X5_readPlaceWith_22 at h
  refine am_R.go 2 (q' := (2, [some (.ref 18), some (.ref 22), some (.int p2), none], [.ref 22, .ref 18], M)) rfl trivial ?_
  obtain ⟨r2, M2, hz, h⟩ := am_bi_s h
  refine am_R.call (e' := me_X5_readPlace) (as := [.ref 18, .ref 22]) (rest := []) rfl rfl (Nat.le_of_ble_eq_true rfl) (t_X5_readPlace_22 z N _ hz) ?_
  refine am_R.go 7 (q' := (13, [some (.ref 18), some (.ref 22), some (.int p2), some (.int r2)], [.int 99, .int p2, .ref 18, .int 2, .int r2, .ref 22], M2)) rfl trivial ?_
  obtain ⟨r13, M13, hz, h⟩ := am_bi_s h
  refine am_R.call (e' := me_X5_readNumber) (as := [.ref 18, .int p2, .int 99]) (rest := [.int 2, .int r2, .ref 22]) rfl rfl (Nat.le_of_ble_eq_true rfl) (t_X5_readNumber z N p2 99 _ hz) ?_
  obtain ⟨M16, hz, h⟩ := am_bv_s h
  refine am_R.call (e' := me_X8_put) (as := [.ref 22, .int r2, .int 2, .int r13]) (rest := []) rfl rfl (Nat.le_of_ble_eq_true rfl) (t_X8_put_22 z N r2 2 r13 _ hz) ?_
  cases h
  exact am_R.ret rfl rfl trivial
def f_X8_open_24 (N : Nat) (M : am_M) : Option (Except Nat (Option Value) × am_M) :=
  am_bi (f_X8_isFull_24 N M) fun r1 M1 =>
    if r1 = 0 then
      some (.ok (some (.int (((M1 24 3) + 1) - 1))), am_up M1 24 3 ((M1 24 3) + 1))
    else
      some (.ok (some (.int (-1))), M1)
set_option maxRecDepth 100000 in
theorem t_X8_open_24 (z : Value) (N : Nat) (M : am_M) {r : Except Nat (Option Value)} {M' : am_M} (h : f_X8_open_24 N M = some (r, M')) : cR z me_X8_open (0, [some (.ref 24)], [], M) r M' := by
  unfold f_X8_open_24 at h
  refine am_R.go 1 (q' := (1, [some (.ref 24)], [.ref 24], M)) rfl trivial ?_
  obtain ⟨r1, M1, hz, h⟩ := am_bi_s h
  refine am_R.call (e' := me_X8_isFull) (as := [.ref 24]) (rest := []) rfl rfl (Nat.le_of_ble_eq_true rfl) (t_X8_isFull_24 z N _ hz) ?_
  rcases am_it h with ⟨hc, h⟩ | ⟨hc, h⟩
  · refine am_R.ct rfl rfl hc ?_
    refine am_R.go 10 (q' := (25, [some (.ref 24)], [.int (((M1 24 3) + 1) - 1)], am_up M1 24 3 ((M1 24 3) + 1))) rfl trivial ?_
    cases h
    exact am_R.ret rfl rfl trivial
  · refine am_R.cn rfl rfl hc ?_
    refine am_R.go 1 (q' := (8, [some (.ref 24)], [.int (-1)], M1)) rfl trivial ?_
    cases h
    exact am_R.ret rfl rfl trivial
def f_X8_has_24 (N : Nat) (p1 : Int32) (p2 : Int32) (M : am_M) : Option (Except Nat (Option Value) × am_M) :=
  if p1 < 0 then
    some (.ok (some (.int 0)), M)
  else
    if (M 24 3) ≤ p1 then
      some (.ok (some (.int 0)), M)
    else
      if p2 < 0 then
        some (.ok (some (.int 0)), M)
      else
        if (M 24 1) ≤ p2 then
          some (.ok (some (.int 0)), M)
        else
          some (.ok (some (.int 1)), M)
set_option maxRecDepth 100000 in
theorem t_X8_has_24 (z : Value) (N : Nat) (p1 : Int32) (p2 : Int32) (M : am_M) {r : Except Nat (Option Value)} {M' : am_M} (h : f_X8_has_24 N p1 p2 M = some (r, M')) : cR z me_X8_has (0, [some (.ref 24), some (.int p1), some (.int p2)], [], M) r M' := by
  unfold f_X8_has_24 at h
  refine am_R.go 1 (q' := (1, [some (.ref 24), some (.int p1), some (.int p2)], [.int p1], M)) rfl trivial ?_
  rcases am_it h with ⟨hc, h⟩ | ⟨hc, h⟩
  · refine am_R.ct rfl rfl hc ?_
    refine am_R.go 1 (q' := (29, [some (.ref 24), some (.int p1), some (.int p2)], [.int 0], M)) rfl trivial ?_
    cases h
    exact am_R.ret rfl rfl (Or.inl rfl)
  · refine am_R.cn rfl rfl hc ?_
    refine am_R.go 3 (q' := (9, [some (.ref 24), some (.int p1), some (.int p2)], [.int (M 24 3), .int p1], M)) rfl trivial ?_
    rcases am_it h with ⟨hc, h⟩ | ⟨hc, h⟩
    · refine am_R.bt rfl rfl hc ?_
      refine am_R.go 1 (q' := (29, [some (.ref 24), some (.int p1), some (.int p2)], [.int 0], M)) rfl trivial ?_
      cases h
      exact am_R.ret rfl rfl (Or.inl rfl)
    · refine am_R.bn rfl rfl hc ?_
      refine am_R.go 1 (q' := (13, [some (.ref 24), some (.int p1), some (.int p2)], [.int p2], M)) rfl trivial ?_
      rcases am_it h with ⟨hc, h⟩ | ⟨hc, h⟩
      · refine am_R.ct rfl rfl hc ?_
        refine am_R.go 1 (q' := (29, [some (.ref 24), some (.int p1), some (.int p2)], [.int 0], M)) rfl trivial ?_
        cases h
        exact am_R.ret rfl rfl (Or.inl rfl)
      · refine am_R.cn rfl rfl hc ?_
        refine am_R.go 3 (q' := (21, [some (.ref 24), some (.int p1), some (.int p2)], [.int (M 24 1), .int p2], M)) rfl trivial ?_
        rcases am_it h with ⟨hc, h⟩ | ⟨hc, h⟩
        · refine am_R.bt rfl rfl hc ?_
          refine am_R.go 1 (q' := (29, [some (.ref 24), some (.int p1), some (.int p2)], [.int 0], M)) rfl trivial ?_
          cases h
          exact am_R.ret rfl rfl (Or.inl rfl)
        · refine am_R.bn rfl rfl hc ?_
          refine am_R.go 2 (q' := (29, [some (.ref 24), some (.int p1), some (.int p2)], [.int 1], M)) rfl trivial ?_
          cases h
          exact am_R.ret rfl rfl (Or.inr rfl)
def f_X8_put_24 (N : Nat) (p1 : Int32) (p2 : Int32) (p3 : Int32) (M : am_M) : Option (Except Nat (Option Value) × am_M) :=
  am_bi (f_X8_has_24 N p1 p2 M) fun r3 M3 =>
    if r3 = 0 then
      some (.ok none, M3)
    else
      if am_in ((p1 * (M3 24 1)) + p2) 8 then
        some (.ok none, am_up M3 25 (((p1 * (M3 24 1)) + p2).toNatClampNeg) p3)
      else none
set_option maxRecDepth 100000 in
theorem t_X8_put_24 (z : Value) (N : Nat) (p1 : Int32) (p2 : Int32) (p3 : Int32) (M : am_M) {r : Except Nat (Option Value)} {M' : am_M} (h : f_X8_put_24 N p1 p2 p3 M = some (r, M')) : cR z me_X8_put (0, [some (.ref 24), some (.int p1), some (.int p2), some (.int p3)], [], M) r M' := by
  unfold f_X8_put_24 at h
  refine am_R.go 3 (q' := (3, [some (.ref 24), some (.int p1), some (.int p2), some (.int p3)], [.int p2, .int p1, .ref 24], M)) rfl trivial ?_
  obtain ⟨r3, M3, hz, h⟩ := am_bi_s h
  refine am_R.call (e' := me_X8_has) (as := [.ref 24, .int p1, .int p2]) (rest := []) rfl rfl (Nat.le_of_ble_eq_true rfl) (t_X8_has_24 z N p1 p2 _ hz) ?_
  rcases am_it h with ⟨hc, h⟩ | ⟨hc, h⟩
  · refine am_R.ct rfl rfl hc ?_
    cases h
    exact am_R.ret rfl rfl trivial
  · refine am_R.cn rfl rfl hc ?_
    obtain ⟨hC, h⟩ := am_gd h
    refine am_R.go 10 (q' := (23, [some (.ref 24), some (.int p1), some (.int p2), some (.int p3)], [], am_up M3 25 (((p1 * (M3 24 1)) + p2).toNatClampNeg) p3)) rfl ⟨hC, trivial⟩ ?_
    cases h
    exact am_R.ret rfl rfl trivial
def f_X5_readSeason (N : Nat) (M : am_M) : Option (Except Nat (Option Value) × am_M) :=
  am_bi (f_X8_open_24 N M) fun r7 M7 =>
    am_bi (f_X5_readNumber N 0 9 M7) fun r24 M24 =>
      am_bv (f_X8_put_24 N r7 0 r24 M24) fun M27 =>
        am_bi (f_X5_readNumber N 1 9 M27) fun r43 M43 =>
          am_bv (f_X8_put_24 N r7 1 r43 M43) fun M46 =>
            some (.ok none, M46)
set_option maxRecDepth 100000 in
theorem t_X5_readSeason (z : Value) (N : Nat) (M : am_M) {r : Except Nat (Option Value)} {M' : am_M} (h : f_X5_readSeason N M = some (r, M')) : cR z me_X5_readSeason (0, [some (.ref 18), none], [], M) r M' := by
  unfold f_X5_readSeason at h
  refine am_R.go 3 (q' := (7, [some (.ref 18), none], [.ref 24], M)) rfl trivial ?_
  obtain ⟨r7, M7, hz, h⟩ := am_bi_s h
  refine am_R.call (e' := me_X8_open) (as := [.ref 24]) (rest := []) rfl rfl (Nat.le_of_ble_eq_true rfl) (t_X8_open_24 z N _ hz) ?_
  refine am_R.go 9 (q' := (24, [some (.ref 18), some (.int r7)], [.int 9, .int 0, .ref 18, .int 0, .int r7, .ref 24], M7)) rfl trivial ?_
  obtain ⟨r24, M24, hz, h⟩ := am_bi_s h
  refine am_R.call (e' := me_X5_readNumber) (as := [.ref 18, .int 0, .int 9]) (rest := [.int 0, .int r7, .ref 24]) rfl rfl (Nat.le_of_ble_eq_true rfl) (t_X5_readNumber z N 0 9 _ hz) ?_
  obtain ⟨M27, hz, h⟩ := am_bv_s h
  refine am_R.call (e' := me_X8_put) (as := [.ref 24, .int r7, .int 0, .int r24]) (rest := []) rfl rfl (Nat.le_of_ble_eq_true rfl) (t_X8_put_24 z N r7 0 r24 _ hz) ?_
  refine am_R.go 8 (q' := (43, [some (.ref 18), some (.int r7)], [.int 9, .int 1, .ref 18, .int 1, .int r7, .ref 24], M27)) rfl trivial ?_
  obtain ⟨r43, M43, hz, h⟩ := am_bi_s h
  refine am_R.call (e' := me_X5_readNumber) (as := [.ref 18, .int 1, .int 9]) (rest := [.int 1, .int r7, .ref 24]) rfl rfl (Nat.le_of_ble_eq_true rfl) (t_X5_readNumber z N 1 9 _ hz) ?_
  obtain ⟨M46, hz, h⟩ := am_bv_s h
  refine am_R.call (e' := me_X8_put) (as := [.ref 24, .int r7, .int 1, .int r43]) (rest := []) rfl rfl (Nat.le_of_ble_eq_true rfl) (t_X8_put_24 z N r7 1 r43 _ hz) ?_
  cases h
  exact am_R.ret rfl rfl trivial
def f_X8_open_28 (N : Nat) (M : am_M) : Option (Except Nat (Option Value) × am_M) :=
  am_bi (f_X8_isFull_28 N M) fun r1 M1 =>
    if r1 = 0 then
      some (.ok (some (.int (((M1 28 3) + 1) - 1))), am_up M1 28 3 ((M1 28 3) + 1))
    else
      some (.ok (some (.int (-1))), M1)
set_option maxRecDepth 100000 in
theorem t_X8_open_28 (z : Value) (N : Nat) (M : am_M) {r : Except Nat (Option Value)} {M' : am_M} (h : f_X8_open_28 N M = some (r, M')) : cR z me_X8_open (0, [some (.ref 28)], [], M) r M' := by
  unfold f_X8_open_28 at h
  refine am_R.go 1 (q' := (1, [some (.ref 28)], [.ref 28], M)) rfl trivial ?_
  obtain ⟨r1, M1, hz, h⟩ := am_bi_s h
  refine am_R.call (e' := me_X8_isFull) (as := [.ref 28]) (rest := []) rfl rfl (Nat.le_of_ble_eq_true rfl) (t_X8_isFull_28 z N _ hz) ?_
  rcases am_it h with ⟨hc, h⟩ | ⟨hc, h⟩
  · refine am_R.ct rfl rfl hc ?_
    refine am_R.go 10 (q' := (25, [some (.ref 28)], [.int (((M1 28 3) + 1) - 1)], am_up M1 28 3 ((M1 28 3) + 1))) rfl trivial ?_
    cases h
    exact am_R.ret rfl rfl trivial
  · refine am_R.cn rfl rfl hc ?_
    refine am_R.go 1 (q' := (8, [some (.ref 28)], [.int (-1)], M1)) rfl trivial ?_
    cases h
    exact am_R.ret rfl rfl trivial
def f_X8_has_28 (N : Nat) (p1 : Int32) (p2 : Int32) (M : am_M) : Option (Except Nat (Option Value) × am_M) :=
  if p1 < 0 then
    some (.ok (some (.int 0)), M)
  else
    if (M 28 3) ≤ p1 then
      some (.ok (some (.int 0)), M)
    else
      if p2 < 0 then
        some (.ok (some (.int 0)), M)
      else
        if (M 28 1) ≤ p2 then
          some (.ok (some (.int 0)), M)
        else
          some (.ok (some (.int 1)), M)
set_option maxRecDepth 100000 in
theorem t_X8_has_28 (z : Value) (N : Nat) (p1 : Int32) (p2 : Int32) (M : am_M) {r : Except Nat (Option Value)} {M' : am_M} (h : f_X8_has_28 N p1 p2 M = some (r, M')) : cR z me_X8_has (0, [some (.ref 28), some (.int p1), some (.int p2)], [], M) r M' := by
  unfold f_X8_has_28 at h
  refine am_R.go 1 (q' := (1, [some (.ref 28), some (.int p1), some (.int p2)], [.int p1], M)) rfl trivial ?_
  rcases am_it h with ⟨hc, h⟩ | ⟨hc, h⟩
  · refine am_R.ct rfl rfl hc ?_
    refine am_R.go 1 (q' := (29, [some (.ref 28), some (.int p1), some (.int p2)], [.int 0], M)) rfl trivial ?_
    cases h
    exact am_R.ret rfl rfl (Or.inl rfl)
  · refine am_R.cn rfl rfl hc ?_
    refine am_R.go 3 (q' := (9, [some (.ref 28), some (.int p1), some (.int p2)], [.int (M 28 3), .int p1], M)) rfl trivial ?_
    rcases am_it h with ⟨hc, h⟩ | ⟨hc, h⟩
    · refine am_R.bt rfl rfl hc ?_
      refine am_R.go 1 (q' := (29, [some (.ref 28), some (.int p1), some (.int p2)], [.int 0], M)) rfl trivial ?_
      cases h
      exact am_R.ret rfl rfl (Or.inl rfl)
    · refine am_R.bn rfl rfl hc ?_
      refine am_R.go 1 (q' := (13, [some (.ref 28), some (.int p1), some (.int p2)], [.int p2], M)) rfl trivial ?_
      rcases am_it h with ⟨hc, h⟩ | ⟨hc, h⟩
      · refine am_R.ct rfl rfl hc ?_
        refine am_R.go 1 (q' := (29, [some (.ref 28), some (.int p1), some (.int p2)], [.int 0], M)) rfl trivial ?_
        cases h
        exact am_R.ret rfl rfl (Or.inl rfl)
      · refine am_R.cn rfl rfl hc ?_
        refine am_R.go 3 (q' := (21, [some (.ref 28), some (.int p1), some (.int p2)], [.int (M 28 1), .int p2], M)) rfl trivial ?_
        rcases am_it h with ⟨hc, h⟩ | ⟨hc, h⟩
        · refine am_R.bt rfl rfl hc ?_
          refine am_R.go 1 (q' := (29, [some (.ref 28), some (.int p1), some (.int p2)], [.int 0], M)) rfl trivial ?_
          cases h
          exact am_R.ret rfl rfl (Or.inl rfl)
        · refine am_R.bn rfl rfl hc ?_
          refine am_R.go 2 (q' := (29, [some (.ref 28), some (.int p1), some (.int p2)], [.int 1], M)) rfl trivial ?_
          cases h
          exact am_R.ret rfl rfl (Or.inr rfl)
def f_X8_put_28 (N : Nat) (p1 : Int32) (p2 : Int32) (p3 : Int32) (M : am_M) : Option (Except Nat (Option Value) × am_M) :=
  am_bi (f_X8_has_28 N p1 p2 M) fun r3 M3 =>
    if r3 = 0 then
      some (.ok none, M3)
    else
      if am_in ((p1 * (M3 28 1)) + p2) 16 then
        some (.ok none, am_up M3 29 (((p1 * (M3 28 1)) + p2).toNatClampNeg) p3)
      else none
set_option maxRecDepth 100000 in
theorem t_X8_put_28 (z : Value) (N : Nat) (p1 : Int32) (p2 : Int32) (p3 : Int32) (M : am_M) {r : Except Nat (Option Value)} {M' : am_M} (h : f_X8_put_28 N p1 p2 p3 M = some (r, M')) : cR z me_X8_put (0, [some (.ref 28), some (.int p1), some (.int p2), some (.int p3)], [], M) r M' := by
  unfold f_X8_put_28 at h
  refine am_R.go 3 (q' := (3, [some (.ref 28), some (.int p1), some (.int p2), some (.int p3)], [.int p2, .int p1, .ref 28], M)) rfl trivial ?_
  obtain ⟨r3, M3, hz, h⟩ := am_bi_s h
  refine am_R.call (e' := me_X8_has) (as := [.ref 28, .int p1, .int p2]) (rest := []) rfl rfl (Nat.le_of_ble_eq_true rfl) (t_X8_has_28 z N p1 p2 _ hz) ?_
  rcases am_it h with ⟨hc, h⟩ | ⟨hc, h⟩
  · refine am_R.ct rfl rfl hc ?_
    cases h
    exact am_R.ret rfl rfl trivial
  · refine am_R.cn rfl rfl hc ?_
    obtain ⟨hC, h⟩ := am_gd h
    refine am_R.go 10 (q' := (23, [some (.ref 28), some (.int p1), some (.int p2), some (.int p3)], [], am_up M3 29 (((p1 * (M3 28 1)) + p2).toNatClampNeg) p3)) rfl ⟨hC, trivial⟩ ?_
    cases h
    exact am_R.ret rfl rfl trivial
def f_X5_readPlace_28 (N : Nat) (M : am_M) : Option (Except Nat (Option Value) × am_M) :=
  am_bi (f_X8_open_28 N M) fun r1 M1 =>
    am_bi (f_X5_readNumber N 0 ((M1 19 0) - 1) M1) fun r19 M19 =>
      am_bv (f_X8_put_28 N r1 0 r19 M19) fun M22 =>
        am_bi (f_X5_readNumber N 0 ((M22 19 1) - 1) M22) fun r39 M39 =>
          am_bv (f_X8_put_28 N r1 1 r39 M39) fun M42 =>
            some (.ok (some (.int r1)), M42)
set_option maxRecDepth 100000 in
theorem t_X5_readPlace_28 (z : Value) (N : Nat) (M : am_M) {r : Except Nat (Option Value)} {M' : am_M} (h : f_X5_readPlace_28 N M = some (r, M')) : cR z me_X5_readPlace (0, [some (.ref 18), some (.ref 28), none], [], M) r M' := by
  unfold f_X5_readPlace_28 at h
  refine am_R.go 1 (q' := (1, [some (.ref 18), some (.ref 28), none], [.ref 28], M)) rfl trivial ?_
  obtain ⟨r1, M1, hz, h⟩ := am_bi_s h
  refine am_R.call (e' := me_X8_open) (as := [.ref 28]) (rest := []) rfl rfl (Nat.le_of_ble_eq_true rfl) (t_X8_open_28 z N _ hz) ?_
  refine am_R.go 11 (q' := (19, [some (.ref 18), some (.ref 28), some (.int r1)], [.int ((M1 19 0) - 1), .int 0, .ref 18, .int 0, .int r1, .ref 28], M1)) rfl trivial ?_
  obtain ⟨r19, M19, hz, h⟩ := am_bi_s h
  refine am_R.call (e' := me_X5_readNumber) (as := [.ref 18, .int 0, .int ((M1 19 0) - 1)]) (rest := [.int 0, .int r1, .ref 28]) rfl rfl (Nat.le_of_ble_eq_true rfl) (t_X5_readNumber z N 0 ((M1 19 0) - 1) _ hz) ?_
  obtain ⟨M22, hz, h⟩ := am_bv_s h
  refine am_R.call (e' := me_X8_put) (as := [.ref 28, .int r1, .int 0, .int r19]) (rest := []) rfl rfl (Nat.le_of_ble_eq_true rfl) (t_X8_put_28 z N r1 0 r19 _ hz) ?_
  refine am_R.go 10 (q' := (39, [some (.ref 18), some (.ref 28), some (.int r1)], [.int ((M22 19 1) - 1), .int 0, .ref 18, .int 1, .int r1, .ref 28], M22)) rfl trivial ?_
  obtain ⟨r39, M39, hz, h⟩ := am_bi_s h
  refine am_R.call (e' := me_X5_readNumber) (as := [.ref 18, .int 0, .int ((M22 19 1) - 1)]) (rest := [.int 1, .int r1, .ref 28]) rfl rfl (Nat.le_of_ble_eq_true rfl) (t_X5_readNumber z N 0 ((M22 19 1) - 1) _ hz) ?_
  obtain ⟨M42, hz, h⟩ := am_bv_s h
  refine am_R.call (e' := me_X8_put) (as := [.ref 28, .int r1, .int 1, .int r39]) (rest := []) rfl rfl (Nat.le_of_ble_eq_true rfl) (t_X8_put_28 z N r1 1 r39 _ hz) ?_
  refine am_R.go 1 (q' := (46, [some (.ref 18), some (.ref 28), some (.int r1)], [.int r1], M42)) rfl trivial ?_
  cases h
  exact am_R.ret rfl rfl trivial
def f_X5_readNumbers (N : Nat) (p1 : Int32) (M : am_M) : Option (Except Nat (Option Value) × am_M) :=
  if p1.toInt = 0 then
    am_bv (f_X5_readSize N M) fun M57 =>
      some (.ok none, M57)
  else
  if p1.toInt = 1 then
    am_bv (f_X5_readThing_31 N M) fun M71 =>
      some (.ok none, M71)
  else
  if p1.toInt = 2 then
    am_bv (f_X5_readThing_32 N M) fun M85 =>
      some (.ok none, M85)
  else
  if p1.toInt = 3 then
    am_bv (f_X5_readPlaceWith_26 N 1 M) fun M100 =>
      some (.ok none, M100)
  else
  if p1.toInt = 4 then
    am_bv (f_X5_readField N M) fun M107 =>
      some (.ok none, M107)
  else
  if p1.toInt = 5 then
    am_bv (f_X5_readPlaceWith_22 N 0 M) fun M122 =>
      some (.ok none, M122)
  else
  if p1.toInt = 6 then
    am_bv (f_X5_readSeason N M) fun M129 =>
      some (.ok none, M129)
  else
  if p1.toInt = 7 then
    am_bi (f_X5_readPlace_28 N M) fun r143 M143 =>
      some (.ok none, M143)
  else
  if p1.toInt = 8 then
    am_bi (f_X5_readNumber N 1 99 M) fun r158 M158 =>
      some (.ok none, am_up M158 19 2 r158)
  else
  if p1.toInt = 9 then
    am_bi (f_X5_readNumber N 0 2 M) fun r174 M174 =>
      some (.ok none, am_up M174 19 3 r174)
  else
    some (.ok none, M)
set_option maxRecDepth 100000 in
theorem t_X5_readNumbers (z : Value) (N : Nat) (p1 : Int32) (M : am_M) {r : Except Nat (Option Value)} {M' : am_M} (h : f_X5_readNumbers N p1 M = some (r, M')) : cR z me_X5_readNumbers (0, [some (.ref 18), some (.int p1)], [], M) r M' := by
  unfold f_X5_readNumbers at h
  refine am_R.go 1 (q' := (1, [some (.ref 18), some (.int p1)], [.int p1], M)) rfl trivial ?_
  rcases am_it h with ⟨hc, h⟩ | ⟨hc0, h⟩
  · refine am_R.one (c := some (p1.toInt = 0 + ((0 : Nat) : Int))) (q' := (56, [some (.ref 18), some (.int p1)], [], M)) rfl (List.mem_of_getElem? (i := 1) rfl) (by show p1.toInt = _; omega) ?_
    refine am_R.go 1 (q' := (57, [some (.ref 18), some (.int p1)], [.ref 18], M)) rfl trivial ?_
    obtain ⟨M57, hz, h⟩ := am_bv_s h
    refine am_R.call (e' := me_X5_readSize) (as := [.ref 18]) (rest := []) rfl rfl (Nat.le_of_ble_eq_true rfl) (t_X5_readSize z N _ hz) ?_
    refine am_R.go 1 (q' := (183, [some (.ref 18), some (.int p1)], [], M57)) rfl trivial ?_
    cases h
    exact am_R.ret rfl rfl trivial
  rcases am_it h with ⟨hc, h⟩ | ⟨hc1, h⟩
  · refine am_R.one (c := some (p1.toInt = 0 + ((1 : Nat) : Int))) (q' := (63, [some (.ref 18), some (.int p1)], [], M)) rfl (List.mem_of_getElem? (i := 2) rfl) (by show p1.toInt = _; omega) ?_
    refine am_R.go 4 (q' := (71, [some (.ref 18), some (.int p1)], [.ref 31, .ref 18], M)) rfl trivial ?_
    obtain ⟨M71, hz, h⟩ := am_bv_s h
    refine am_R.call (e' := me_X5_readThing) (as := [.ref 18, .ref 31]) (rest := []) rfl rfl (Nat.le_of_ble_eq_true rfl) (t_X5_readThing_31 z N _ hz) ?_
    refine am_R.go 1 (q' := (183, [some (.ref 18), some (.int p1)], [], M71)) rfl trivial ?_
    cases h
    exact am_R.ret rfl rfl trivial
  rcases am_it h with ⟨hc, h⟩ | ⟨hc2, h⟩
  · refine am_R.one (c := some (p1.toInt = 0 + ((2 : Nat) : Int))) (q' := (77, [some (.ref 18), some (.int p1)], [], M)) rfl (List.mem_of_getElem? (i := 3) rfl) (by show p1.toInt = _; omega) ?_
    refine am_R.go 4 (q' := (85, [some (.ref 18), some (.int p1)], [.ref 32, .ref 18], M)) rfl trivial ?_
    obtain ⟨M85, hz, h⟩ := am_bv_s h
    refine am_R.call (e' := me_X5_readThing) (as := [.ref 18, .ref 32]) (rest := []) rfl rfl (Nat.le_of_ble_eq_true rfl) (t_X5_readThing_32 z N _ hz) ?_
    refine am_R.go 1 (q' := (183, [some (.ref 18), some (.int p1)], [], M85)) rfl trivial ?_
    cases h
    exact am_R.ret rfl rfl trivial
  rcases am_it h with ⟨hc, h⟩ | ⟨hc3, h⟩
  · refine am_R.one (c := some (p1.toInt = 0 + ((3 : Nat) : Int))) (q' := (91, [some (.ref 18), some (.int p1)], [], M)) rfl (List.mem_of_getElem? (i := 4) rfl) (by show p1.toInt = _; omega) ?_
    refine am_R.go 5 (q' := (100, [some (.ref 18), some (.int p1)], [.int 1, .ref 26, .ref 18], M)) rfl trivial ?_
    obtain ⟨M100, hz, h⟩ := am_bv_s h
    refine am_R.call (e' := me_X5_readPlaceWith) (as := [.ref 18, .ref 26, .int 1]) (rest := []) rfl rfl (Nat.le_of_ble_eq_true rfl) (t_X5_readPlaceWith_26 z N 1 _ hz) ?_
    refine am_R.go 1 (q' := (183, [some (.ref 18), some (.int p1)], [], M100)) rfl trivial ?_
    cases h
    exact am_R.ret rfl rfl trivial
  rcases am_it h with ⟨hc, h⟩ | ⟨hc4, h⟩
  · refine am_R.one (c := some (p1.toInt = 0 + ((4 : Nat) : Int))) (q' := (106, [some (.ref 18), some (.int p1)], [], M)) rfl (List.mem_of_getElem? (i := 5) rfl) (by show p1.toInt = _; omega) ?_
    refine am_R.go 1 (q' := (107, [some (.ref 18), some (.int p1)], [.ref 18], M)) rfl trivial ?_
    obtain ⟨M107, hz, h⟩ := am_bv_s h
    refine am_R.call (e' := me_X5_readField) (as := [.ref 18]) (rest := []) rfl rfl (Nat.le_of_ble_eq_true rfl) (t_X5_readField z N _ hz) ?_
    refine am_R.go 1 (q' := (183, [some (.ref 18), some (.int p1)], [], M107)) rfl trivial ?_
    cases h
    exact am_R.ret rfl rfl trivial
  rcases am_it h with ⟨hc, h⟩ | ⟨hc5, h⟩
  · refine am_R.one (c := some (p1.toInt = 0 + ((5 : Nat) : Int))) (q' := (113, [some (.ref 18), some (.int p1)], [], M)) rfl (List.mem_of_getElem? (i := 6) rfl) (by show p1.toInt = _; omega) ?_
    refine am_R.go 5 (q' := (122, [some (.ref 18), some (.int p1)], [.int 0, .ref 22, .ref 18], M)) rfl trivial ?_
    obtain ⟨M122, hz, h⟩ := am_bv_s h
    refine am_R.call (e' := me_X5_readPlaceWith) (as := [.ref 18, .ref 22, .int 0]) (rest := []) rfl rfl (Nat.le_of_ble_eq_true rfl) (t_X5_readPlaceWith_22 z N 0 _ hz) ?_
    refine am_R.go 1 (q' := (183, [some (.ref 18), some (.int p1)], [], M122)) rfl trivial ?_
    cases h
    exact am_R.ret rfl rfl trivial
  rcases am_it h with ⟨hc, h⟩ | ⟨hc6, h⟩
  · refine am_R.one (c := some (p1.toInt = 0 + ((6 : Nat) : Int))) (q' := (128, [some (.ref 18), some (.int p1)], [], M)) rfl (List.mem_of_getElem? (i := 7) rfl) (by show p1.toInt = _; omega) ?_
    refine am_R.go 1 (q' := (129, [some (.ref 18), some (.int p1)], [.ref 18], M)) rfl trivial ?_
    obtain ⟨M129, hz, h⟩ := am_bv_s h
    refine am_R.call (e' := me_X5_readSeason) (as := [.ref 18]) (rest := []) rfl rfl (Nat.le_of_ble_eq_true rfl) (t_X5_readSeason z N _ hz) ?_
    refine am_R.go 1 (q' := (183, [some (.ref 18), some (.int p1)], [], M129)) rfl trivial ?_
    cases h
    exact am_R.ret rfl rfl trivial
  rcases am_it h with ⟨hc, h⟩ | ⟨hc7, h⟩
  · refine am_R.one (c := some (p1.toInt = 0 + ((7 : Nat) : Int))) (q' := (135, [some (.ref 18), some (.int p1)], [], M)) rfl (List.mem_of_getElem? (i := 8) rfl) (by show p1.toInt = _; omega) ?_
    refine am_R.go 4 (q' := (143, [some (.ref 18), some (.int p1)], [.ref 28, .ref 18], M)) rfl trivial ?_
    obtain ⟨r143, M143, hz, h⟩ := am_bi_s h
    refine am_R.call (e' := me_X5_readPlace) (as := [.ref 18, .ref 28]) (rest := []) rfl rfl (Nat.le_of_ble_eq_true rfl) (t_X5_readPlace_28 z N _ hz) ?_
    refine am_R.go 2 (q' := (183, [some (.ref 18), some (.int p1)], [], M143)) rfl trivial ?_
    cases h
    exact am_R.ret rfl rfl trivial
  rcases am_it h with ⟨hc, h⟩ | ⟨hc8, h⟩
  · refine am_R.one (c := some (p1.toInt = 0 + ((8 : Nat) : Int))) (q' := (150, [some (.ref 18), some (.int p1)], [], M)) rfl (List.mem_of_getElem? (i := 9) rfl) (by show p1.toInt = _; omega) ?_
    refine am_R.go 5 (q' := (158, [some (.ref 18), some (.int p1)], [.int 99, .int 1, .ref 18, .ref 19], M)) rfl trivial ?_
    obtain ⟨r158, M158, hz, h⟩ := am_bi_s h
    refine am_R.call (e' := me_X5_readNumber) (as := [.ref 18, .int 1, .int 99]) (rest := [.ref 19]) rfl rfl (Nat.le_of_ble_eq_true rfl) (t_X5_readNumber z N 1 99 _ hz) ?_
    refine am_R.go 2 (q' := (183, [some (.ref 18), some (.int p1)], [], am_up M158 19 2 r158)) rfl trivial ?_
    cases h
    exact am_R.ret rfl rfl trivial
  rcases am_it h with ⟨hc, h⟩ | ⟨hc9, h⟩
  · refine am_R.one (c := some (p1.toInt = 0 + ((9 : Nat) : Int))) (q' := (167, [some (.ref 18), some (.int p1)], [], M)) rfl (List.mem_of_getElem? (i := 10) rfl) (by show p1.toInt = _; omega) ?_
    refine am_R.go 5 (q' := (174, [some (.ref 18), some (.int p1)], [.int 2, .int 0, .ref 18, .ref 19], M)) rfl trivial ?_
    obtain ⟨r174, M174, hz, h⟩ := am_bi_s h
    refine am_R.call (e' := me_X5_readNumber) (as := [.ref 18, .int 0, .int 2]) (rest := [.ref 19]) rfl rfl (Nat.le_of_ble_eq_true rfl) (t_X5_readNumber z N 0 2 _ hz) ?_
    refine am_R.go 2 (q' := (183, [some (.ref 18), some (.int p1)], [], am_up M174 19 3 r174)) rfl trivial ?_
    cases h
    exact am_R.ret rfl rfl trivial
  refine am_R.one (c := some (p1.toInt < 0 ∨ 9 < p1.toInt)) (q' := (183, [some (.ref 18), some (.int p1)], [], M)) rfl (List.mem_of_getElem? (i := 0) rfl) (by show _ ∨ _; omega) ?_
  cases h
  exact am_R.ret rfl rfl trivial
def f_X5_readEnd_42 (N : Nat) (M : am_M) : Option (Except Nat (Option Value) × am_M) :=
  am_bv (f_X5_refuse N 1 (M 18 6) M) fun M48 =>
    some (.ok none, M48)
set_option maxRecDepth 100000 in
theorem t_X5_readEnd_42 (z : Value) (N : Nat) {r : Except Nat (Option Value)} {M' : am_M} (M : am_M) (h : f_X5_readEnd_42 N M = some (r, M')) : cR z me_X5_readEnd (42, [some (.ref 18)], [], M) r M' := by
  unfold f_X5_readEnd_42 at h
  refine am_R.go 4 (q' := (48, [some (.ref 18)], [.int (M 18 6), .int 1, .ref 18], M)) rfl trivial ?_
  obtain ⟨M48, hz, h⟩ := am_bv_s h
  refine am_R.call (e' := me_X5_refuse) (as := [.ref 18, .int 1, .int (M 18 6)]) (rest := []) rfl rfl (Nat.le_of_ble_eq_true rfl) (t_X5_refuse z N 1 (M 18 6) _ hz) ?_
  cases h
  exact am_R.ret rfl rfl trivial
def f_X5_readEnd (N : Nat) (M : am_M) : Option (Except Nat (Option Value) × am_M) :=
  am_bv (f_X5_skipBlanks N M) fun M1 =>
    if (M1 18 5) ≤ (M1 18 6) then
      f_X5_readEnd_42 N M1
    else
      if am_in (M1 18 6) 600 then
        if (M1 1 ((M1 18 6).toNatClampNeg)) = 59 then
          some (.ok none, am_up M1 18 6 ((M1 18 6) + 1))
        else
          f_X5_readEnd_42 N M1
      else none
set_option maxRecDepth 100000 in
theorem t_X5_readEnd (z : Value) (N : Nat) (M : am_M) {r : Except Nat (Option Value)} {M' : am_M} (h : f_X5_readEnd N M = some (r, M')) : cR z me_X5_readEnd (0, [some (.ref 18)], [], M) r M' := by
  unfold f_X5_readEnd at h
  refine am_R.go 1 (q' := (1, [some (.ref 18)], [.ref 18], M)) rfl trivial ?_
  obtain ⟨M1, hz, h⟩ := am_bv_s h
  refine am_R.call (e' := me_X5_skipBlanks) (as := [.ref 18]) (rest := []) rfl rfl (Nat.le_of_ble_eq_true rfl) (t_X5_skipBlanks z N _ hz) ?_
  refine am_R.go 4 (q' := (12, [some (.ref 18)], [.int (M1 18 5), .int (M1 18 6)], M1)) rfl trivial ?_
  rcases am_it h with ⟨hc, h⟩ | ⟨hc, h⟩
  · refine am_R.bt rfl rfl hc ?_
    exact t_X5_readEnd_42 z N  _ h
  · refine am_R.bn rfl rfl hc ?_
    obtain ⟨hC, h⟩ := am_gd h
    refine am_R.go 6 (q' := (26, [some (.ref 18)], [.int 59, .int (M1 1 ((M1 18 6).toNatClampNeg))], M1)) rfl ⟨hC, trivial⟩ ?_
    rcases am_it h with ⟨hc, h⟩ | ⟨hc, h⟩
    · refine am_R.bn rfl rfl (fun q => q hc) ?_
      refine am_R.go 7 (q' := (51, [some (.ref 18)], [], am_up M1 18 6 ((M1 18 6) + 1))) rfl trivial ?_
      cases h
      exact am_R.ret rfl rfl trivial
    · refine am_R.bt rfl rfl hc ?_
      exact t_X5_readEnd_42 z N  _ h
