def f_X9_putOnTape_3B (N : Nat) (v1 : Int32) (k3 : Int32 → am_M → Option (Except Nat (Option Value) × am_M)) (v2 : Int32) (M : am_M) : Option (Except Nat (Option Value) × am_M) :=
  if v2 < 0 then
    some (.ok none, M)
  else
    if 600 ≤ (M 0 1) then
      some (.ok none, M)
    else
      if (am_in (M 0 1) 600 ∧ ((v1 >>> (v2 &&& 31)).toInt8.toInt32).toInt8.toInt32 = (v1 >>> (v2 &&& 31)).toInt8.toInt32) then
        k3 (v2 + (-8)) (am_up (am_up M 1 ((M 0 1).toNatClampNeg) ((v1 >>> (v2 &&& 31)).toInt8.toInt32)) 0 1 ((M 0 1) + 1))
      else none
def f_X9_putOnTape_3 (N : Nat) (v1 : Int32) : Nat → Int32 → am_M → Option (Except Nat (Option Value) × am_M)
  | 0 => fun _ _ => none
  | n + 1 => f_X9_putOnTape_3B N v1 (f_X9_putOnTape_3 N v1 n)
set_option maxRecDepth 100000 in
theorem t_X9_putOnTape_3B (z : Value) (N : Nat) (v1 : Int32) {r : Except Nat (Option Value)} {M' : am_M} (k3 : Int32 → am_M → Option (Except Nat (Option Value) × am_M)) (hk3 : ∀ (v2 : Int32) (M : am_M), k3 v2 M = some (r, M') → cR z me_X9_putOnTape (3, [some (.ref 0), some (.int v1), some (.int v2)], [], M) r M') (v2 : Int32) (M : am_M) (h : f_X9_putOnTape_3B N v1 k3 v2 M = some (r, M')) : cR z me_X9_putOnTape (3, [some (.ref 0), some (.int v1), some (.int v2)], [], M) r M' := by
  unfold f_X9_putOnTape_3B at h
  refine am_R.go 1 (q' := (4, [some (.ref 0), some (.int v1), some (.int v2)], [.int v2], M)) rfl trivial ?_
  rcases am_it h with ⟨hc, h⟩ | ⟨hc, h⟩
  · refine am_R.ct rfl rfl hc ?_
    cases h
    exact am_R.ret rfl rfl trivial
  · refine am_R.cn rfl rfl hc ?_
    refine am_R.go 3 (q' := (14, [some (.ref 0), some (.int v1), some (.int v2)], [.int 600, .int (M 0 1)], M)) rfl trivial ?_
    rcases am_it h with ⟨hc, h⟩ | ⟨hc, h⟩
    · refine am_R.bt rfl rfl hc ?_
      cases h
      exact am_R.ret rfl rfl trivial
    · refine am_R.bn rfl rfl hc ?_
      obtain ⟨hC, h⟩ := am_gd h
      refine am_R.go 17 (q' := (3, [some (.ref 0), some (.int v1), some (.int (v2 + (-8)))], [], am_up (am_up M 1 ((M 0 1).toNatClampNeg) ((v1 >>> (v2 &&& 31)).toInt8.toInt32)) 0 1 ((M 0 1) + 1))) rfl ⟨hC, trivial⟩ ?_
      exact hk3 (v2 + (-8)) _ h
set_option maxRecDepth 100000 in
theorem t_X9_putOnTape_3 (z : Value) (N : Nat) (v1 : Int32) {r : Except Nat (Option Value)} {M' : am_M} : ∀ (n : Nat) (v2 : Int32) (M : am_M), f_X9_putOnTape_3 N v1 n v2 M = some (r, M') → cR z me_X9_putOnTape (3, [some (.ref 0), some (.int v1), some (.int v2)], [], M) r M' := by
  intro n
  induction n with
  | zero => intro v2 M h; cases h
  | succ n ih => intro v2 M h; exact t_X9_putOnTape_3B z N v1 _ ih v2 M h
def f_X9_putOnTape (N : Nat) (p1 : Int32) (M : am_M) : Option (Except Nat (Option Value) × am_M) :=
  f_X9_putOnTape_3 N p1 N 24 M
set_option maxRecDepth 100000 in
theorem t_X9_putOnTape (z : Value) (N : Nat) (p1 : Int32) (M : am_M) {r : Except Nat (Option Value)} {M' : am_M} (h : f_X9_putOnTape N p1 M = some (r, M')) : cR z me_X9_putOnTape (0, [some (.ref 0), some (.int p1), none], [], M) r M' := by
  unfold f_X9_putOnTape at h
  refine am_R.go 2 (q' := (3, [some (.ref 0), some (.int p1), some (.int 24)], [], M)) rfl trivial ?_
  exact t_X9_putOnTape_3 z N p1 N 24 _ h
def f_X9_feed (N : Nat) (p1 : Int32) (p2 : Int32) (p3 : Int32) (p4 : Int32) (p5 : Int32) (M : am_M) : Option (Except Nat (Option Value) × am_M) :=
  if ((M 0 1) + 20) ≤ 600 then
    am_bv (f_X9_putOnTape N p1 M) fun M17 =>
      am_bv (f_X9_putOnTape N p2 M17) fun M22 =>
        am_bv (f_X9_putOnTape N p3 M22) fun M27 =>
          am_bv (f_X9_putOnTape N p4 M27) fun M33 =>
            am_bv (f_X9_putOnTape N p5 M33) fun M39 =>
              some (.ok (some (.int (M39 0 1))), M39)
  else
    some (.ok (some (.int (-1))), M)
set_option maxRecDepth 100000 in
theorem t_X9_feed (z : Value) (N : Nat) (p1 : Int32) (p2 : Int32) (p3 : Int32) (p4 : Int32) (p5 : Int32) (M : am_M) {r : Except Nat (Option Value)} {M' : am_M} (h : f_X9_feed N p1 p2 p3 p4 p5 M = some (r, M')) : cR z me_X9_feed (0, [some (.ref 0), some (.int p1), some (.int p2), some (.int p3), some (.int p4), some (.int p5)], [], M) r M' := by
  unfold f_X9_feed at h
  refine am_R.go 5 (q' := (10, [some (.ref 0), some (.int p1), some (.int p2), some (.int p3), some (.int p4), some (.int p5)], [.int 600, .int ((M 0 1) + 20)], M)) rfl trivial ?_
  rcases am_it h with ⟨hc, h⟩ | ⟨hc, h⟩
  · refine am_R.bt rfl rfl hc ?_
    refine am_R.go 2 (q' := (17, [some (.ref 0), some (.int p1), some (.int p2), some (.int p3), some (.int p4), some (.int p5)], [.int p1, .ref 0], M)) rfl trivial ?_
    obtain ⟨M17, hz, h⟩ := am_bv_s h
    refine am_R.call (e' := me_X9_putOnTape) (as := [.ref 0, .int p1]) (rest := []) rfl rfl (Nat.le_of_ble_eq_true rfl) (t_X9_putOnTape z N p1 _ hz) ?_
    refine am_R.go 2 (q' := (22, [some (.ref 0), some (.int p1), some (.int p2), some (.int p3), some (.int p4), some (.int p5)], [.int p2, .ref 0], M17)) rfl trivial ?_
    obtain ⟨M22, hz, h⟩ := am_bv_s h
    refine am_R.call (e' := me_X9_putOnTape) (as := [.ref 0, .int p2]) (rest := []) rfl rfl (Nat.le_of_ble_eq_true rfl) (t_X9_putOnTape z N p2 _ hz) ?_
    refine am_R.go 2 (q' := (27, [some (.ref 0), some (.int p1), some (.int p2), some (.int p3), some (.int p4), some (.int p5)], [.int p3, .ref 0], M22)) rfl trivial ?_
    obtain ⟨M27, hz, h⟩ := am_bv_s h
    refine am_R.call (e' := me_X9_putOnTape) (as := [.ref 0, .int p3]) (rest := []) rfl rfl (Nat.le_of_ble_eq_true rfl) (t_X9_putOnTape z N p3 _ hz) ?_
    refine am_R.go 2 (q' := (33, [some (.ref 0), some (.int p1), some (.int p2), some (.int p3), some (.int p4), some (.int p5)], [.int p4, .ref 0], M27)) rfl trivial ?_
    obtain ⟨M33, hz, h⟩ := am_bv_s h
    refine am_R.call (e' := me_X9_putOnTape) (as := [.ref 0, .int p4]) (rest := []) rfl rfl (Nat.le_of_ble_eq_true rfl) (t_X9_putOnTape z N p4 _ hz) ?_
    refine am_R.go 2 (q' := (39, [some (.ref 0), some (.int p1), some (.int p2), some (.int p3), some (.int p4), some (.int p5)], [.int p5, .ref 0], M33)) rfl trivial ?_
    obtain ⟨M39, hz, h⟩ := am_bv_s h
    refine am_R.call (e' := me_X9_putOnTape) (as := [.ref 0, .int p5]) (rest := []) rfl rfl (Nat.le_of_ble_eq_true rfl) (t_X9_putOnTape z N p5 _ hz) ?_
    refine am_R.go 2 (q' := (46, [some (.ref 0), some (.int p1), some (.int p2), some (.int p3), some (.int p4), some (.int p5)], [.int (M39 0 1)], M39)) rfl trivial ?_
    cases h
    exact am_R.ret rfl rfl trivial
  · refine am_R.bn rfl rfl hc ?_
    refine am_R.go 1 (q' := (14, [some (.ref 0), some (.int p1), some (.int p2), some (.int p3), some (.int p4), some (.int p5)], [.int (-1)], M)) rfl trivial ?_
    cases h
    exact am_R.ret rfl rfl trivial
def f_X9_needBetween_10 (N : Nat) (M : am_M) : Option (Except Nat (Option Value) × am_M) :=
  some (.error 2, am_up M 0 5 ((M 0 5) + 1))
set_option maxRecDepth 100000 in
theorem t_X9_needBetween_10 (z : Value) (N : Nat) {r : Except Nat (Option Value)} {M' : am_M} (d1 : Option Value) (d2 : Option Value) (d3 : Option Value) (M : am_M) (h : f_X9_needBetween_10 N M = some (r, M')) : cR z me_X9_needBetween (10, [some (.ref 0), d1, d2, d3], [], M) r M' := by
  unfold f_X9_needBetween_10 at h
  refine am_R.go 6 (q' := (20, [some (.ref 0), d1, d2, d3], [], am_up M 0 5 ((M 0 5) + 1))) rfl trivial ?_
  cases h
  exact am_R.thr (x := 2) rfl rfl
def f_X9_needBetween (N : Nat) (p1 : Int32) (p2 : Int32) (p3 : Int32) (M : am_M) : Option (Except Nat (Option Value) × am_M) :=
  if p1 < p2 then
    f_X9_needBetween_10 N M
  else
    if p1 ≤ p3 then
      some (.ok none, M)
    else
      f_X9_needBetween_10 N M
set_option maxRecDepth 100000 in
theorem t_X9_needBetween (z : Value) (N : Nat) (p1 : Int32) (p2 : Int32) (p3 : Int32) (M : am_M) {r : Except Nat (Option Value)} {M' : am_M} (h : f_X9_needBetween N p1 p2 p3 M = some (r, M')) : cR z me_X9_needBetween (0, [some (.ref 0), some (.int p1), some (.int p2), some (.int p3)], [], M) r M' := by
  unfold f_X9_needBetween at h
  refine am_R.go 2 (q' := (2, [some (.ref 0), some (.int p1), some (.int p2), some (.int p3)], [.int p2, .int p1], M)) rfl trivial ?_
  rcases am_it h with ⟨hc, h⟩ | ⟨hc, h⟩
  · refine am_R.bt rfl rfl hc ?_
    exact t_X9_needBetween_10 z N _ _ _ _ h
  · refine am_R.bn rfl rfl hc ?_
    refine am_R.go 2 (q' := (7, [some (.ref 0), some (.int p1), some (.int p2), some (.int p3)], [.int p3, .int p1], M)) rfl trivial ?_
    rcases am_it h with ⟨hc, h⟩ | ⟨hc, h⟩
    · refine am_R.bt rfl rfl hc ?_
      cases h
      exact am_R.ret rfl rfl trivial
    · refine am_R.bn rfl rfl hc ?_
      exact t_X9_needBetween_10 z N _ _ _ _ h
def f_X4_clear_19 (N : Nat) (M : am_M) : Option (Except Nat (Option Value) × am_M) :=
  some (.ok none, am_up (am_up (am_up (am_up (am_up (am_up (am_up (am_up (am_up M 19 0 0) 19 1 0) 19 2 20) 19 3 0) 20 3 0) 22 3 0) 24 3 0) 26 3 0) 28 3 0)
set_option maxRecDepth 100000 in
theorem t_X4_clear_19 (z : Value) (N : Nat) (M : am_M) {r : Except Nat (Option Value)} {M' : am_M} (h : f_X4_clear_19 N M = some (r, M')) : cR z me_X4_clear (0, [some (.ref 19)], [], M) r M' := by
  unfold f_X4_clear_19 at h
  refine am_R.go 32 (q' := (61, [some (.ref 19)], [], am_up (am_up (am_up (am_up (am_up (am_up (am_up (am_up (am_up M 19 0 0) 19 1 0) 19 2 20) 19 3 0) 20 3 0) 22 3 0) 24 3 0) 26 3 0) 28 3 0)) rfl trivial ?_
  cases h
  exact am_R.ret rfl rfl trivial
def f_X2_clear_30_2B (N : Nat) (k2 : Int32 → am_M → Option (Except Nat (Option Value) × am_M)) (v1 : Int32) (M : am_M) : Option (Except Nat (Option Value) × am_M) :=
  if 100 ≤ v1 then
    some (.ok none, am_up (am_up M 30 2 0) 33 3 0)
  else
    if am_in v1 100 then
      k2 (v1 + 1) (am_up (am_up M 31 (v1.toNatClampNeg) 0) 32 (v1.toNatClampNeg) 0)
    else none
def f_X2_clear_30_2 (N : Nat) : Nat → Int32 → am_M → Option (Except Nat (Option Value) × am_M)
  | 0 => fun _ _ => none
  | n + 1 => f_X2_clear_30_2B N (f_X2_clear_30_2 N n)
set_option maxRecDepth 100000 in
theorem t_X2_clear_30_2B (z : Value) (N : Nat) {r : Except Nat (Option Value)} {M' : am_M} (k2 : Int32 → am_M → Option (Except Nat (Option Value) × am_M)) (hk2 : ∀ (v1 : Int32) (M : am_M), k2 v1 M = some (r, M') → cR z me_X2_clear (2, [some (.ref 30), some (.int v1)], [], M) r M') (v1 : Int32) (M : am_M) (h : f_X2_clear_30_2B N k2 v1 M = some (r, M')) : cR z me_X2_clear (2, [some (.ref 30), some (.int v1)], [], M) r M' := by
  unfold f_X2_clear_30_2B at h
  refine am_R.go 2 (q' := (5, [some (.ref 30), some (.int v1)], [.int 100, .int v1], M)) rfl trivial ?_
  rcases am_it h with ⟨hc, h⟩ | ⟨hc, h⟩
  · refine am_R.bt rfl rfl hc ?_
    refine am_R.go 7 (q' := (41, [some (.ref 30), some (.int v1)], [], am_up (am_up M 30 2 0) 33 3 0)) rfl trivial ?_
    cases h
    exact am_R.ret rfl rfl trivial
  · refine am_R.bn rfl rfl hc ?_
    obtain ⟨hC, h⟩ := am_gd h
    refine am_R.go 12 (q' := (2, [some (.ref 30), some (.int (v1 + 1))], [], am_up (am_up M 31 (v1.toNatClampNeg) 0) 32 (v1.toNatClampNeg) 0)) rfl ⟨hC, hC, trivial⟩ ?_
    exact hk2 (v1 + 1) _ h
set_option maxRecDepth 100000 in
theorem t_X2_clear_30_2 (z : Value) (N : Nat) {r : Except Nat (Option Value)} {M' : am_M} : ∀ (n : Nat) (v1 : Int32) (M : am_M), f_X2_clear_30_2 N n v1 M = some (r, M') → cR z me_X2_clear (2, [some (.ref 30), some (.int v1)], [], M) r M' := by
  intro n
  induction n with
  | zero => intro v1 M h; cases h
  | succ n ih => intro v1 M h; exact t_X2_clear_30_2B z N _ ih v1 M h
def f_X2_clear_30 (N : Nat) (M : am_M) : Option (Except Nat (Option Value) × am_M) :=
  f_X2_clear_30_2 N N 0 M
set_option maxRecDepth 100000 in
theorem t_X2_clear_30 (z : Value) (N : Nat) (M : am_M) {r : Except Nat (Option Value)} {M' : am_M} (h : f_X2_clear_30 N M = some (r, M')) : cR z me_X2_clear (0, [some (.ref 30), none], [], M) r M' := by
  unfold f_X2_clear_30 at h
  refine am_R.go 2 (q' := (2, [some (.ref 30), some (.int 0)], [], M)) rfl trivial ?_
  exact t_X2_clear_30_2 z N N 0 _ h
def f_X5_skipBlanks_0B (N : Nat) (k0 : am_M → Option (Except Nat (Option Value) × am_M)) (M : am_M) : Option (Except Nat (Option Value) × am_M) :=
  if (M 18 5) ≤ (M 18 6) then
    some (.ok none, M)
  else
    if am_in (M 18 6) 600 then
      if (M 1 ((M 18 6).toNatClampNeg)) = 32 then
        k0 (am_up M 18 6 ((M 18 6) + 1))
      else
        some (.ok none, M)
    else none
def f_X5_skipBlanks_0 (N : Nat) : Nat → am_M → Option (Except Nat (Option Value) × am_M)
  | 0 => fun _ => none
  | n + 1 => f_X5_skipBlanks_0B N (f_X5_skipBlanks_0 N n)
set_option maxRecDepth 100000 in
theorem t_X5_skipBlanks_0B (z : Value) (N : Nat) {r : Except Nat (Option Value)} {M' : am_M} (k0 : am_M → Option (Except Nat (Option Value) × am_M)) (hk0 : ∀ (M : am_M), k0 M = some (r, M') → cR z me_X5_skipBlanks (0, [some (.ref 18)], [], M) r M') (M : am_M) (h : f_X5_skipBlanks_0B N k0 M = some (r, M')) : cR z me_X5_skipBlanks (0, [some (.ref 18)], [], M) r M' := by
  unfold f_X5_skipBlanks_0B at h
  refine am_R.go 4 (q' := (8, [some (.ref 18)], [.int (M 18 5), .int (M 18 6)], M)) rfl trivial ?_
  rcases am_it h with ⟨hc, h⟩ | ⟨hc, h⟩
  · refine am_R.bt rfl rfl hc ?_
    cases h
    exact am_R.ret rfl rfl trivial
  · refine am_R.bn rfl rfl hc ?_
    obtain ⟨hC, h⟩ := am_gd h
    refine am_R.go 6 (q' := (22, [some (.ref 18)], [.int 32, .int (M 1 ((M 18 6).toNatClampNeg))], M)) rfl ⟨hC, trivial⟩ ?_
    rcases am_it h with ⟨hc, h⟩ | ⟨hc, h⟩
    · refine am_R.bn rfl rfl (fun q => q hc) ?_
      refine am_R.go 7 (q' := (0, [some (.ref 18)], [], am_up M 18 6 ((M 18 6) + 1))) rfl trivial ?_
      exact hk0  _ h
    · refine am_R.bt rfl rfl hc ?_
      cases h
      exact am_R.ret rfl rfl trivial
set_option maxRecDepth 100000 in
theorem t_X5_skipBlanks_0 (z : Value) (N : Nat) {r : Except Nat (Option Value)} {M' : am_M} : ∀ (n : Nat) (M : am_M), f_X5_skipBlanks_0 N n M = some (r, M') → cR z me_X5_skipBlanks (0, [some (.ref 18)], [], M) r M' := by
  intro n
  induction n with
  | zero => intro M h; cases h
  | succ n ih => intro M h; exact t_X5_skipBlanks_0B z N _ ih M h
def f_X5_skipBlanks (N : Nat) (M : am_M) : Option (Except Nat (Option Value) × am_M) :=
  f_X5_skipBlanks_0 N N M
set_option maxRecDepth 100000 in
theorem t_X5_skipBlanks (z : Value) (N : Nat) (M : am_M) {r : Except Nat (Option Value)} {M' : am_M} (h : f_X5_skipBlanks N M = some (r, M')) : cR z me_X5_skipBlanks (0, [some (.ref 18)], [], M) r M' := by
  unfold f_X5_skipBlanks at h
  exact t_X5_skipBlanks_0 z N N  _ h
def f_X5_wordOf (N : Nat) (p0 : Int32) (M : am_M) : Option (Except Nat (Option Value) × am_M) :=
  if p0.toInt = 0 then
    some (.ok (some (.ref 1000)), M)
  else
  if p0.toInt = 1 then
    some (.ok (some (.ref 1001)), M)
  else
  if p0.toInt = 2 then
    some (.ok (some (.ref 1002)), M)
  else
  if p0.toInt = 3 then
    some (.ok (some (.ref 1003)), M)
  else
  if p0.toInt = 4 then
    some (.ok (some (.ref 1004)), M)
  else
  if p0.toInt = 5 then
    some (.ok (some (.ref 1005)), M)
  else
  if p0.toInt = 6 then
    some (.ok (some (.ref 1006)), M)
  else
  if p0.toInt = 7 then
    some (.ok (some (.ref 1007)), M)
  else
  if p0.toInt = 8 then
    some (.ok (some (.ref 1008)), M)
  else
    some (.ok (some (.ref 1009)), M)
set_option maxRecDepth 100000 in
theorem t_X5_wordOf (z : Value) (N : Nat) (p0 : Int32) (M : am_M) {r : Except Nat (Option Value)} {M' : am_M} (h : f_X5_wordOf N p0 M = some (r, M')) : cR z me_X5_wordOf (0, [some (.int p0)], [], M) r M' := by
  unfold f_X5_wordOf at h
  refine am_R.go 1 (q' := (1, [some (.int p0)], [.int p0], M)) rfl trivial ?_
  rcases am_it h with ⟨hc, h⟩ | ⟨hc0, h⟩
  · refine am_R.one (c := some (p0.toInt = 0 + ((0 : Nat) : Int))) (q' := (52, [some (.int p0)], [], M)) rfl (List.mem_of_getElem? (i := 1) rfl) (by show p0.toInt = _; omega) ?_
    refine am_R.go 1 (q' := (54, [some (.int p0)], [.ref 1000], M)) rfl trivial ?_
    cases h
    exact am_R.ret rfl rfl trivial
  rcases am_it h with ⟨hc, h⟩ | ⟨hc1, h⟩
  · refine am_R.one (c := some (p0.toInt = 0 + ((1 : Nat) : Int))) (q' := (55, [some (.int p0)], [], M)) rfl (List.mem_of_getElem? (i := 2) rfl) (by show p0.toInt = _; omega) ?_
    refine am_R.go 1 (q' := (57, [some (.int p0)], [.ref 1001], M)) rfl trivial ?_
    cases h
    exact am_R.ret rfl rfl trivial
  rcases am_it h with ⟨hc, h⟩ | ⟨hc2, h⟩
  · refine am_R.one (c := some (p0.toInt = 0 + ((2 : Nat) : Int))) (q' := (58, [some (.int p0)], [], M)) rfl (List.mem_of_getElem? (i := 3) rfl) (by show p0.toInt = _; omega) ?_
    refine am_R.go 1 (q' := (60, [some (.int p0)], [.ref 1002], M)) rfl trivial ?_
    cases h
    exact am_R.ret rfl rfl trivial
  rcases am_it h with ⟨hc, h⟩ | ⟨hc3, h⟩
  · refine am_R.one (c := some (p0.toInt = 0 + ((3 : Nat) : Int))) (q' := (61, [some (.int p0)], [], M)) rfl (List.mem_of_getElem? (i := 4) rfl) (by show p0.toInt = _; omega) ?_
    refine am_R.go 1 (q' := (63, [some (.int p0)], [.ref 1003], M)) rfl trivial ?_
    cases h
    exact am_R.ret rfl rfl trivial
  rcases am_it h with ⟨hc, h⟩ | ⟨hc4, h⟩
  · refine am_R.one (c := some (p0.toInt = 0 + ((4 : Nat) : Int))) (q' := (64, [some (.int p0)], [], M)) rfl (List.mem_of_getElem? (i := 5) rfl) (by show p0.toInt = _; omega) ?_
    refine am_R.go 1 (q' := (66, [some (.int p0)], [.ref 1004], M)) rfl trivial ?_
    cases h
    exact am_R.ret rfl rfl trivial
  rcases am_it h with ⟨hc, h⟩ | ⟨hc5, h⟩
  · refine am_R.one (c := some (p0.toInt = 0 + ((5 : Nat) : Int))) (q' := (67, [some (.int p0)], [], M)) rfl (List.mem_of_getElem? (i := 6) rfl) (by show p0.toInt = _; omega) ?_
    refine am_R.go 1 (q' := (69, [some (.int p0)], [.ref 1005], M)) rfl trivial ?_
    cases h
    exact am_R.ret rfl rfl trivial
  rcases am_it h with ⟨hc, h⟩ | ⟨hc6, h⟩
  · refine am_R.one (c := some (p0.toInt = 0 + ((6 : Nat) : Int))) (q' := (70, [some (.int p0)], [], M)) rfl (List.mem_of_getElem? (i := 7) rfl) (by show p0.toInt = _; omega) ?_
    refine am_R.go 1 (q' := (72, [some (.int p0)], [.ref 1006], M)) rfl trivial ?_
    cases h
    exact am_R.ret rfl rfl trivial
  rcases am_it h with ⟨hc, h⟩ | ⟨hc7, h⟩
  · refine am_R.one (c := some (p0.toInt = 0 + ((7 : Nat) : Int))) (q' := (73, [some (.int p0)], [], M)) rfl (List.mem_of_getElem? (i := 8) rfl) (by show p0.toInt = _; omega) ?_
    refine am_R.go 1 (q' := (75, [some (.int p0)], [.ref 1007], M)) rfl trivial ?_
    cases h
    exact am_R.ret rfl rfl trivial
  rcases am_it h with ⟨hc, h⟩ | ⟨hc8, h⟩
  · refine am_R.one (c := some (p0.toInt = 0 + ((8 : Nat) : Int))) (q' := (76, [some (.int p0)], [], M)) rfl (List.mem_of_getElem? (i := 9) rfl) (by show p0.toInt = _; omega) ?_
    refine am_R.go 1 (q' := (78, [some (.int p0)], [.ref 1008], M)) rfl trivial ?_
    cases h
    exact am_R.ret rfl rfl trivial
  refine am_R.one (c := some (p0.toInt < 0 ∨ 8 < p0.toInt)) (q' := (79, [some (.int p0)], [], M)) rfl (List.mem_of_getElem? (i := 0) rfl) (by show _ ∨ _; omega) ?_
  refine am_R.go 1 (q' := (81, [some (.int p0)], [.ref 1009], M)) rfl trivial ?_
  cases h
  exact am_R.ret rfl rfl trivial
def f_cJ0_coder_1000 (N : Nat) (M : am_M) : Option (Except Nat (Option Value) × am_M) :=
  if (0 : Int32).toInt8.toInt32 = 0 then some (.ok (some (.int 0)), M) else none
set_option maxRecDepth 100000 in
theorem t_cJ0_coder_1000 (z : Value) (N : Nat) (M : am_M) {r : Except Nat (Option Value)} {M' : am_M} (h : f_cJ0_coder_1000 N M = some (r, M')) : cR z me_J0_coder_7d493 (0, [some (.ref 1000)], [], M) r M' := by
  unfold f_cJ0_coder_1000 at h
  refine am_R.go 1 (q' := (3, [some (.ref 1000)], [.int 1], M)) rfl trivial ?_
  refine am_R.cn rfl rfl (by unfold am_c; decide) ?_
  refine am_R.go 3 (q' := (14, [some (.ref 1000)], [.int 0], M)) rfl ⟨(by decide), trivial⟩ ?_
  obtain ⟨hC, h⟩ := am_gd h
  cases h
  exact am_R.ret rfl rfl hC
def f_cJ0_length_1000 (N : Nat) (M : am_M) : Option (Except Nat (Option Value) × am_M) :=
  am_bi (f_cJ0_coder_1000 N M) fun r6 M6 =>
    some (.ok (some (.int (6 >>> (r6 &&& 31)))), M6)
set_option maxRecDepth 100000 in
theorem t_cJ0_length_1000 (z : Value) (N : Nat) (M : am_M) {r : Except Nat (Option Value)} {M' : am_M} (h : f_cJ0_length_1000 N M = some (r, M')) : cR z me_J0_length_8abf5 (0, [some (.ref 1000)], [], M) r M' := by
  unfold f_cJ0_length_1000 at h
  refine am_R.go 4 (q' := (6, [some (.ref 1000)], [.ref 1000, .int 6], M)) rfl ⟨(by decide), trivial⟩ ?_
  obtain ⟨r6, M6, hz, h⟩ := am_bi_s h
  refine am_R.call (e' := me_J0_coder_7d493) (as := [.ref 1000]) (rest := [.int 6]) rfl rfl (Nat.le_of_ble_eq_true rfl) (t_cJ0_coder_1000 z N _ hz) ?_
  refine am_R.go 1 (q' := (10, [some (.ref 1000)], [.int (6 >>> (r6 &&& 31))], M6)) rfl trivial ?_
  cases h
  exact am_R.ret rfl rfl trivial
def f_cJ0_isLatin1_1000 (N : Nat) (M : am_M) : Option (Except Nat (Option Value) × am_M) :=
  some (.ok (some (.int 1)), M)
set_option maxRecDepth 100000 in
theorem t_cJ0_isLatin1_1000 (z : Value) (N : Nat) (M : am_M) {r : Except Nat (Option Value)} {M' : am_M} (h : f_cJ0_isLatin1_1000 N M = some (r, M')) : cR z me_J0_isLatin1_aae02 (0, [some (.ref 1000)], [], M) r M' := by
  unfold f_cJ0_isLatin1_1000 at h
  refine am_R.go 1 (q' := (3, [some (.ref 1000)], [.int 1], M)) rfl trivial ?_
  refine am_R.cn rfl rfl (by unfold am_c; decide) ?_
  refine am_R.go 2 (q' := (10, [some (.ref 1000)], [.int 0], M)) rfl ⟨(by decide), trivial⟩ ?_
  refine am_R.cn rfl rfl (by unfold am_c; decide) ?_
  refine am_R.go 2 (q' := (18, [some (.ref 1000)], [.int 1], M)) rfl trivial ?_
  cases h
  exact am_R.ret rfl rfl (Or.inr rfl)
def f_cJ3_checkIndex_z_9 (N : Nat) (v0 : Int32) (v1 : Int32) (M : am_M) : Option (Except Nat (Option Value) × am_M) :=
  none
set_option maxRecDepth 100000 in
theorem t_cJ3_checkIndex_z_9 (z : Value) (N : Nat) {r : Except Nat (Option Value)} {M' : am_M} (v0 : Int32) (v1 : Int32) (M : am_M) (h : f_cJ3_checkIndex_z_9 N v0 v1 M = some (r, M')) : cR z me_J3_checkIndex_8e157 (9, [some (.int v0), some (.int v1), some z], [], M) r M' := by
  unfold f_cJ3_checkIndex_z_9 at h
  cases h
def f_cJ3_checkIndex_z (N : Nat) (p0 : Int32) (p1 : Int32) (M : am_M) : Option (Except Nat (Option Value) × am_M) :=
  if p0 < 0 then
    f_cJ3_checkIndex_z_9 N p0 p1 M
  else
    if p0 < p1 then
      some (.ok (some (.int p0)), M)
    else
      f_cJ3_checkIndex_z_9 N p0 p1 M
set_option maxRecDepth 100000 in
theorem t_cJ3_checkIndex_z (z : Value) (N : Nat) (p0 : Int32) (p1 : Int32) (M : am_M) {r : Except Nat (Option Value)} {M' : am_M} (h : f_cJ3_checkIndex_z N p0 p1 M = some (r, M')) : cR z me_J3_checkIndex_8e157 (0, [some (.int p0), some (.int p1), some z], [], M) r M' := by
  unfold f_cJ3_checkIndex_z at h
  refine am_R.go 1 (q' := (1, [some (.int p0), some (.int p1), some z], [.int p0], M)) rfl trivial ?_
  rcases am_it h with ⟨hc, h⟩ | ⟨hc, h⟩
  · refine am_R.ct rfl rfl hc ?_
    exact t_cJ3_checkIndex_z_9 z N p0 p1 _ h
  · refine am_R.cn rfl rfl hc ?_
    refine am_R.go 2 (q' := (6, [some (.int p0), some (.int p1), some z], [.int p1, .int p0], M)) rfl trivial ?_
    rcases am_it h with ⟨hc, h⟩ | ⟨hc, h⟩
    · refine am_R.bt rfl rfl hc ?_
      refine am_R.go 1 (q' := (17, [some (.int p0), some (.int p1), some z], [.int p0], M)) rfl trivial ?_
      cases h
      exact am_R.ret rfl rfl trivial
    · refine am_R.bn rfl rfl hc ?_
      exact t_cJ3_checkIndex_z_9 z N p0 p1 _ h
def f_cJ0_checkIndex (N : Nat) (p0 : Int32) (p1 : Int32) (M : am_M) : Option (Except Nat (Option Value) × am_M) :=
  am_bi (f_cJ3_checkIndex_z N p0 p1 M) fun r5 M5 =>
    some (.ok none, M5)
set_option maxRecDepth 100000 in
theorem t_cJ0_checkIndex (z : Value) (N : Nat) (p0 : Int32) (p1 : Int32) (M : am_M) {r : Except Nat (Option Value)} {M' : am_M} (h : f_cJ0_checkIndex N p0 p1 M = some (r, M')) : cR z me_J0_checkIndex_df160 (0, [some (.int p0), some (.int p1)], [], M) r M' := by
  unfold f_cJ0_checkIndex at h
  refine am_R.go 3 (q' := (5, [some (.int p0), some (.int p1)], [z, .int p1, .int p0], M)) rfl trivial ?_
  obtain ⟨r5, M5, hz, h⟩ := am_bi_s h
  refine am_R.call (e' := me_J3_checkIndex_8e157) (as := [.int p0, .int p1, z]) (rest := []) rfl rfl (Nat.le_of_ble_eq_true rfl) (t_cJ3_checkIndex_z z N p0 p1 _ hz) ?_
  refine am_R.go 1 (q' := (9, [some (.int p0), some (.int p1)], [], M5)) rfl trivial ?_
  cases h
  exact am_R.ret rfl rfl trivial
def f_cJ1_charAt_2000 (N : Nat) (p1 : Int32) (M : am_M) : Option (Except Nat (Option Value) × am_M) :=
  am_bv (f_cJ0_checkIndex N p1 6 M) fun M3 =>
    if am_in p1 6 then
      if ((((((am_byt.getD 0 []).getD p1.toNatClampNeg 0) &&& 255).toUInt32 % 65536).toInt32).toUInt32 % 65536).toInt32 = ((((am_byt.getD 0 []).getD p1.toNatClampNeg 0) &&& 255).toUInt32 % 65536).toInt32 then some (.ok (some (.int (((((am_byt.getD 0 []).getD p1.toNatClampNeg 0) &&& 255).toUInt32 % 65536).toInt32))), M3) else none
    else none
set_option maxRecDepth 100000 in
theorem t_cJ1_charAt_2000 (z : Value) (N : Nat) (p1 : Int32) (M : am_M) {r : Except Nat (Option Value)} {M' : am_M} (h : f_cJ1_charAt_2000 N p1 M = some (r, M')) : cR z me_J1_charAt_3b067 (0, [some (.ref 2000), some (.int p1)], [], M) r M' := by
  unfold f_cJ1_charAt_2000 at h
  refine am_R.go 3 (q' := (3, [some (.ref 2000), some (.int p1)], [.int 6, .int p1], M)) rfl trivial ?_
  obtain ⟨M3, hz, h⟩ := am_bv_s h
  refine am_R.call (e' := me_J0_checkIndex_df160) (as := [.int p1, .int 6]) (rest := []) rfl rfl (Nat.le_of_ble_eq_true rfl) (t_cJ0_checkIndex z N p1 6 _ hz) ?_
  obtain ⟨hC, h⟩ := am_gd h
  refine am_R.go 6 (q' := (14, [some (.ref 2000), some (.int p1)], [.int (((((am_byt.getD 0 []).getD p1.toNatClampNeg 0) &&& 255).toUInt32 % 65536).toInt32)], M3)) rfl ⟨hC, trivial⟩ ?_
  obtain ⟨hC, h⟩ := am_gd h
  cases h
  exact am_R.ret rfl rfl hC
def f_cJ0_charAt_1000 (N : Nat) (p1 : Int32) (M : am_M) : Option (Except Nat (Option Value) × am_M) :=
  am_bi (f_cJ0_isLatin1_1000 N M) fun r1 M1 =>
    if r1 = 0 then
      none
    else
      am_bi (f_cJ1_charAt_2000 N p1 M1) fun r12 M12 =>
        if (r12.toUInt32 % 65536).toInt32 = r12 then some (.ok (some (.int r12)), M12) else none
set_option maxRecDepth 100000 in
theorem t_cJ0_charAt_1000 (z : Value) (N : Nat) (p1 : Int32) (M : am_M) {r : Except Nat (Option Value)} {M' : am_M} (h : f_cJ0_charAt_1000 N p1 M = some (r, M')) : cR z me_J0_charAt_5068e (0, [some (.ref 1000), some (.int p1)], [], M) r M' := by
  unfold f_cJ0_charAt_1000 at h
  refine am_R.go 1 (q' := (1, [some (.ref 1000), some (.int p1)], [.ref 1000], M)) rfl trivial ?_
  obtain ⟨r1, M1, hz, h⟩ := am_bi_s h
  refine am_R.call (e' := me_J0_isLatin1_aae02) (as := [.ref 1000]) (rest := []) rfl rfl (Nat.le_of_ble_eq_true rfl) (t_cJ0_isLatin1_1000 z N _ hz) ?_
  rcases am_it h with ⟨hc, h⟩ | ⟨hc, h⟩
  · refine am_R.ct rfl rfl hc ?_
    cases h
  · refine am_R.cn rfl rfl hc ?_
    refine am_R.go 3 (q' := (12, [some (.ref 1000), some (.int p1)], [.int p1, .ref 2000], M1)) rfl ⟨(by decide), trivial⟩ ?_
    obtain ⟨r12, M12, hz, h⟩ := am_bi_s h
    refine am_R.call (e' := me_J1_charAt_3b067) (as := [.ref 2000, .int p1]) (rest := []) rfl rfl (Nat.le_of_ble_eq_true rfl) (t_cJ1_charAt_2000 z N p1 _ hz) ?_
    obtain ⟨hC, h⟩ := am_gd h
    cases h
    exact am_R.ret rfl rfl hC
def f_X5_isWord_1000_17B (N : Nat) (v1 : Int32) (k17 : Int32 → am_M → Option (Except Nat (Option Value) × am_M)) (v3 : Int32) (M : am_M) : Option (Except Nat (Option Value) × am_M) :=
  am_bi (f_cJ0_length_1000 N M) fun r19 M19 =>
    if r19 ≤ v3 then
      some (.ok (some (.int 1)), M19)
    else
      if am_in (v1 + v3) 600 then
        am_bi (f_cJ0_charAt_1000 N v3 M19) fun r35 M35 =>
          if (M19 1 ((v1 + v3).toNatClampNeg)) = r35 then
            k17 (v3 + 1) M35
          else
            some (.ok (some (.int 0)), M35)
      else none
def f_X5_isWord_1000_17 (N : Nat) (v1 : Int32) : Nat → Int32 → am_M → Option (Except Nat (Option Value) × am_M)
  | 0 => fun _ _ => none
  | n + 1 => f_X5_isWord_1000_17B N v1 (f_X5_isWord_1000_17 N v1 n)
set_option maxRecDepth 100000 in
theorem t_X5_isWord_1000_17B (z : Value) (N : Nat) (v1 : Int32) {r : Except Nat (Option Value)} {M' : am_M} (k17 : Int32 → am_M → Option (Except Nat (Option Value) × am_M)) (hk17 : ∀ (v3 : Int32) (M : am_M), k17 v3 M = some (r, M') → cR z me_X5_isWord (17, [some (.ref 18), some (.int v1), some (.ref 1000), some (.int v3)], [], M) r M') (v3 : Int32) (M : am_M) (h : f_X5_isWord_1000_17B N v1 k17 v3 M = some (r, M')) : cR z me_X5_isWord (17, [some (.ref 18), some (.int v1), some (.ref 1000), some (.int v3)], [], M) r M' := by
  unfold f_X5_isWord_1000_17B at h
  refine am_R.go 2 (q' := (19, [some (.ref 18), some (.int v1), some (.ref 1000), some (.int v3)], [.ref 1000, .int v3], M)) rfl trivial ?_
  obtain ⟨r19, M19, hz, h⟩ := am_bi_s h
  refine am_R.call (e' := me_J0_length_8abf5) (as := [.ref 1000]) (rest := [.int v3]) rfl rfl (Nat.le_of_ble_eq_true rfl) (t_cJ0_length_1000 z N _ hz) ?_
  rcases am_it h with ⟨hc, h⟩ | ⟨hc, h⟩
  · refine am_R.bt rfl rfl hc ?_
    refine am_R.go 1 (q' := (50, [some (.ref 18), some (.int v1), some (.ref 1000), some (.int v3)], [.int 1], M19)) rfl trivial ?_
    cases h
    exact am_R.ret rfl rfl (Or.inr rfl)
  · refine am_R.bn rfl rfl hc ?_
    obtain ⟨hC, h⟩ := am_gd h
    refine am_R.go 8 (q' := (35, [some (.ref 18), some (.int v1), some (.ref 1000), some (.int v3)], [.int v3, .ref 1000, .int (M19 1 ((v1 + v3).toNatClampNeg))], M19)) rfl ⟨hC, trivial⟩ ?_
    obtain ⟨r35, M35, hz, h⟩ := am_bi_s h
    refine am_R.call (e' := me_J0_charAt_5068e) (as := [.ref 1000, .int v3]) (rest := [.int (M19 1 ((v1 + v3).toNatClampNeg))]) rfl rfl (Nat.le_of_ble_eq_true rfl) (t_cJ0_charAt_1000 z N v3 _ hz) ?_
    rcases am_it h with ⟨hc, h⟩ | ⟨hc, h⟩
    · refine am_R.bt rfl rfl hc ?_
      refine am_R.go 2 (q' := (17, [some (.ref 18), some (.int v1), some (.ref 1000), some (.int (v3 + 1))], [], M35)) rfl trivial ?_
      exact hk17 (v3 + 1) _ h
    · refine am_R.bn rfl rfl hc ?_
      refine am_R.go 1 (q' := (42, [some (.ref 18), some (.int v1), some (.ref 1000), some (.int v3)], [.int 0], M35)) rfl trivial ?_
      cases h
      exact am_R.ret rfl rfl (Or.inl rfl)
set_option maxRecDepth 100000 in
theorem t_X5_isWord_1000_17 (z : Value) (N : Nat) (v1 : Int32) {r : Except Nat (Option Value)} {M' : am_M} : ∀ (n : Nat) (v3 : Int32) (M : am_M), f_X5_isWord_1000_17 N v1 n v3 M = some (r, M') → cR z me_X5_isWord (17, [some (.ref 18), some (.int v1), some (.ref 1000), some (.int v3)], [], M) r M' := by
  intro n
  induction n with
  | zero => intro v3 M h; cases h
  | succ n ih => intro v3 M h; exact t_X5_isWord_1000_17B z N v1 _ ih v3 M h
def f_X5_isWord_1000 (N : Nat) (p1 : Int32) (M : am_M) : Option (Except Nat (Option Value) × am_M) :=
  am_bi (f_cJ0_length_1000 N M) fun r7 M7 =>
    if ((M 18 6) - p1) = r7 then
      f_X5_isWord_1000_17 N p1 N 0 M7
    else
      some (.ok (some (.int 0)), M7)
set_option maxRecDepth 100000 in
theorem t_X5_isWord_1000 (z : Value) (N : Nat) (p1 : Int32) (M : am_M) {r : Except Nat (Option Value)} {M' : am_M} (h : f_X5_isWord_1000 N p1 M = some (r, M')) : cR z me_X5_isWord (0, [some (.ref 18), some (.int p1), some (.ref 1000), none], [], M) r M' := by
  unfold f_X5_isWord_1000 at h
  refine am_R.go 5 (q' := (7, [some (.ref 18), some (.int p1), some (.ref 1000), none], [.ref 1000, .int ((M 18 6) - p1)], M)) rfl trivial ?_
  obtain ⟨r7, M7, hz, h⟩ := am_bi_s h
  refine am_R.call (e' := me_J0_length_8abf5) (as := [.ref 1000]) (rest := [.int ((M 18 6) - p1)]) rfl rfl (Nat.le_of_ble_eq_true rfl) (t_cJ0_length_1000 z N _ hz) ?_
  rcases am_it h with ⟨hc, h⟩ | ⟨hc, h⟩
  · refine am_R.bt rfl rfl hc ?_
    refine am_R.go 2 (q' := (17, [some (.ref 18), some (.int p1), some (.ref 1000), some (.int 0)], [], M7)) rfl trivial ?_
    exact t_X5_isWord_1000_17 z N p1 N 0 _ h
  · refine am_R.bn rfl rfl hc ?_
    refine am_R.go 1 (q' := (14, [some (.ref 18), some (.int p1), some (.ref 1000), none], [.int 0], M7)) rfl trivial ?_
    cases h
    exact am_R.ret rfl rfl (Or.inl rfl)
def f_cJ0_coder_1001 (N : Nat) (M : am_M) : Option (Except Nat (Option Value) × am_M) :=
  if (0 : Int32).toInt8.toInt32 = 0 then some (.ok (some (.int 0)), M) else none
set_option maxRecDepth 100000 in
theorem t_cJ0_coder_1001 (z : Value) (N : Nat) (M : am_M) {r : Except Nat (Option Value)} {M' : am_M} (h : f_cJ0_coder_1001 N M = some (r, M')) : cR z me_J0_coder_7d493 (0, [some (.ref 1001)], [], M) r M' := by
  unfold f_cJ0_coder_1001 at h
  refine am_R.go 1 (q' := (3, [some (.ref 1001)], [.int 1], M)) rfl trivial ?_
  refine am_R.cn rfl rfl (by unfold am_c; decide) ?_
  refine am_R.go 3 (q' := (14, [some (.ref 1001)], [.int 0], M)) rfl ⟨(by decide), trivial⟩ ?_
  obtain ⟨hC, h⟩ := am_gd h
  cases h
  exact am_R.ret rfl rfl hC
def f_cJ0_length_1001 (N : Nat) (M : am_M) : Option (Except Nat (Option Value) × am_M) :=
  am_bi (f_cJ0_coder_1001 N M) fun r6 M6 =>
    some (.ok (some (.int (4 >>> (r6 &&& 31)))), M6)
set_option maxRecDepth 100000 in
theorem t_cJ0_length_1001 (z : Value) (N : Nat) (M : am_M) {r : Except Nat (Option Value)} {M' : am_M} (h : f_cJ0_length_1001 N M = some (r, M')) : cR z me_J0_length_8abf5 (0, [some (.ref 1001)], [], M) r M' := by
  unfold f_cJ0_length_1001 at h
  refine am_R.go 4 (q' := (6, [some (.ref 1001)], [.ref 1001, .int 4], M)) rfl ⟨(by decide), trivial⟩ ?_
  obtain ⟨r6, M6, hz, h⟩ := am_bi_s h
  refine am_R.call (e' := me_J0_coder_7d493) (as := [.ref 1001]) (rest := [.int 4]) rfl rfl (Nat.le_of_ble_eq_true rfl) (t_cJ0_coder_1001 z N _ hz) ?_
  refine am_R.go 1 (q' := (10, [some (.ref 1001)], [.int (4 >>> (r6 &&& 31))], M6)) rfl trivial ?_
  cases h
  exact am_R.ret rfl rfl trivial
def f_cJ0_isLatin1_1001 (N : Nat) (M : am_M) : Option (Except Nat (Option Value) × am_M) :=
  some (.ok (some (.int 1)), M)
set_option maxRecDepth 100000 in
theorem t_cJ0_isLatin1_1001 (z : Value) (N : Nat) (M : am_M) {r : Except Nat (Option Value)} {M' : am_M} (h : f_cJ0_isLatin1_1001 N M = some (r, M')) : cR z me_J0_isLatin1_aae02 (0, [some (.ref 1001)], [], M) r M' := by
  unfold f_cJ0_isLatin1_1001 at h
  refine am_R.go 1 (q' := (3, [some (.ref 1001)], [.int 1], M)) rfl trivial ?_
  refine am_R.cn rfl rfl (by unfold am_c; decide) ?_
  refine am_R.go 2 (q' := (10, [some (.ref 1001)], [.int 0], M)) rfl ⟨(by decide), trivial⟩ ?_
  refine am_R.cn rfl rfl (by unfold am_c; decide) ?_
  refine am_R.go 2 (q' := (18, [some (.ref 1001)], [.int 1], M)) rfl trivial ?_
  cases h
  exact am_R.ret rfl rfl (Or.inr rfl)
def f_cJ1_charAt_2001 (N : Nat) (p1 : Int32) (M : am_M) : Option (Except Nat (Option Value) × am_M) :=
  am_bv (f_cJ0_checkIndex N p1 4 M) fun M3 =>
    if am_in p1 4 then
      if ((((((am_byt.getD 1 []).getD p1.toNatClampNeg 0) &&& 255).toUInt32 % 65536).toInt32).toUInt32 % 65536).toInt32 = ((((am_byt.getD 1 []).getD p1.toNatClampNeg 0) &&& 255).toUInt32 % 65536).toInt32 then some (.ok (some (.int (((((am_byt.getD 1 []).getD p1.toNatClampNeg 0) &&& 255).toUInt32 % 65536).toInt32))), M3) else none
    else none
set_option maxRecDepth 100000 in
theorem t_cJ1_charAt_2001 (z : Value) (N : Nat) (p1 : Int32) (M : am_M) {r : Except Nat (Option Value)} {M' : am_M} (h : f_cJ1_charAt_2001 N p1 M = some (r, M')) : cR z me_J1_charAt_3b067 (0, [some (.ref 2001), some (.int p1)], [], M) r M' := by
  unfold f_cJ1_charAt_2001 at h
  refine am_R.go 3 (q' := (3, [some (.ref 2001), some (.int p1)], [.int 4, .int p1], M)) rfl trivial ?_
  obtain ⟨M3, hz, h⟩ := am_bv_s h
  refine am_R.call (e' := me_J0_checkIndex_df160) (as := [.int p1, .int 4]) (rest := []) rfl rfl (Nat.le_of_ble_eq_true rfl) (t_cJ0_checkIndex z N p1 4 _ hz) ?_
  obtain ⟨hC, h⟩ := am_gd h
  refine am_R.go 6 (q' := (14, [some (.ref 2001), some (.int p1)], [.int (((((am_byt.getD 1 []).getD p1.toNatClampNeg 0) &&& 255).toUInt32 % 65536).toInt32)], M3)) rfl ⟨hC, trivial⟩ ?_
  obtain ⟨hC, h⟩ := am_gd h
  cases h
  exact am_R.ret rfl rfl hC
def f_cJ0_charAt_1001 (N : Nat) (p1 : Int32) (M : am_M) : Option (Except Nat (Option Value) × am_M) :=
  am_bi (f_cJ0_isLatin1_1001 N M) fun r1 M1 =>
    if r1 = 0 then
      none
    else
      am_bi (f_cJ1_charAt_2001 N p1 M1) fun r12 M12 =>
        if (r12.toUInt32 % 65536).toInt32 = r12 then some (.ok (some (.int r12)), M12) else none
set_option maxRecDepth 100000 in
theorem t_cJ0_charAt_1001 (z : Value) (N : Nat) (p1 : Int32) (M : am_M) {r : Except Nat (Option Value)} {M' : am_M} (h : f_cJ0_charAt_1001 N p1 M = some (r, M')) : cR z me_J0_charAt_5068e (0, [some (.ref 1001), some (.int p1)], [], M) r M' := by
  unfold f_cJ0_charAt_1001 at h
  refine am_R.go 1 (q' := (1, [some (.ref 1001), some (.int p1)], [.ref 1001], M)) rfl trivial ?_
  obtain ⟨r1, M1, hz, h⟩ := am_bi_s h
  refine am_R.call (e' := me_J0_isLatin1_aae02) (as := [.ref 1001]) (rest := []) rfl rfl (Nat.le_of_ble_eq_true rfl) (t_cJ0_isLatin1_1001 z N _ hz) ?_
  rcases am_it h with ⟨hc, h⟩ | ⟨hc, h⟩
  · refine am_R.ct rfl rfl hc ?_
    cases h
  · refine am_R.cn rfl rfl hc ?_
    refine am_R.go 3 (q' := (12, [some (.ref 1001), some (.int p1)], [.int p1, .ref 2001], M1)) rfl ⟨(by decide), trivial⟩ ?_
    obtain ⟨r12, M12, hz, h⟩ := am_bi_s h
    refine am_R.call (e' := me_J1_charAt_3b067) (as := [.ref 2001, .int p1]) (rest := []) rfl rfl (Nat.le_of_ble_eq_true rfl) (t_cJ1_charAt_2001 z N p1 _ hz) ?_
    obtain ⟨hC, h⟩ := am_gd h
    cases h
    exact am_R.ret rfl rfl hC
def f_X5_isWord_1001_17B (N : Nat) (v1 : Int32) (k17 : Int32 → am_M → Option (Except Nat (Option Value) × am_M)) (v3 : Int32) (M : am_M) : Option (Except Nat (Option Value) × am_M) :=
  am_bi (f_cJ0_length_1001 N M) fun r19 M19 =>
    if r19 ≤ v3 then
      some (.ok (some (.int 1)), M19)
    else
      if am_in (v1 + v3) 600 then
        am_bi (f_cJ0_charAt_1001 N v3 M19) fun r35 M35 =>
          if (M19 1 ((v1 + v3).toNatClampNeg)) = r35 then
            k17 (v3 + 1) M35
          else
            some (.ok (some (.int 0)), M35)
      else none
def f_X5_isWord_1001_17 (N : Nat) (v1 : Int32) : Nat → Int32 → am_M → Option (Except Nat (Option Value) × am_M)
  | 0 => fun _ _ => none
  | n + 1 => f_X5_isWord_1001_17B N v1 (f_X5_isWord_1001_17 N v1 n)
set_option maxRecDepth 100000 in
theorem t_X5_isWord_1001_17B (z : Value) (N : Nat) (v1 : Int32) {r : Except Nat (Option Value)} {M' : am_M} (k17 : Int32 → am_M → Option (Except Nat (Option Value) × am_M)) (hk17 : ∀ (v3 : Int32) (M : am_M), k17 v3 M = some (r, M') → cR z me_X5_isWord (17, [some (.ref 18), some (.int v1), some (.ref 1001), some (.int v3)], [], M) r M') (v3 : Int32) (M : am_M) (h : f_X5_isWord_1001_17B N v1 k17 v3 M = some (r, M')) : cR z me_X5_isWord (17, [some (.ref 18), some (.int v1), some (.ref 1001), some (.int v3)], [], M) r M' := by
  unfold f_X5_isWord_1001_17B at h
  refine am_R.go 2 (q' := (19, [some (.ref 18), some (.int v1), some (.ref 1001), some (.int v3)], [.ref 1001, .int v3], M)) rfl trivial ?_
  obtain ⟨r19, M19, hz, h⟩ := am_bi_s h
  refine am_R.call (e' := me_J0_length_8abf5) (as := [.ref 1001]) (rest := [.int v3]) rfl rfl (Nat.le_of_ble_eq_true rfl) (t_cJ0_length_1001 z N _ hz) ?_
  rcases am_it h with ⟨hc, h⟩ | ⟨hc, h⟩
  · refine am_R.bt rfl rfl hc ?_
    refine am_R.go 1 (q' := (50, [some (.ref 18), some (.int v1), some (.ref 1001), some (.int v3)], [.int 1], M19)) rfl trivial ?_
    cases h
    exact am_R.ret rfl rfl (Or.inr rfl)
  · refine am_R.bn rfl rfl hc ?_
    obtain ⟨hC, h⟩ := am_gd h
    refine am_R.go 8 (q' := (35, [some (.ref 18), some (.int v1), some (.ref 1001), some (.int v3)], [.int v3, .ref 1001, .int (M19 1 ((v1 + v3).toNatClampNeg))], M19)) rfl ⟨hC, trivial⟩ ?_
    obtain ⟨r35, M35, hz, h⟩ := am_bi_s h
    refine am_R.call (e' := me_J0_charAt_5068e) (as := [.ref 1001, .int v3]) (rest := [.int (M19 1 ((v1 + v3).toNatClampNeg))]) rfl rfl (Nat.le_of_ble_eq_true rfl) (t_cJ0_charAt_1001 z N v3 _ hz) ?_
    rcases am_it h with ⟨hc, h⟩ | ⟨hc, h⟩
    · refine am_R.bt rfl rfl hc ?_
      refine am_R.go 2 (q' := (17, [some (.ref 18), some (.int v1), some (.ref 1001), some (.int (v3 + 1))], [], M35)) rfl trivial ?_
      exact hk17 (v3 + 1) _ h
    · refine am_R.bn rfl rfl hc ?_
      refine am_R.go 1 (q' := (42, [some (.ref 18), some (.int v1), some (.ref 1001), some (.int v3)], [.int 0], M35)) rfl trivial ?_
      cases h
      exact am_R.ret rfl rfl (Or.inl rfl)
set_option maxRecDepth 100000 in
theorem t_X5_isWord_1001_17 (z : Value) (N : Nat) (v1 : Int32) {r : Except Nat (Option Value)} {M' : am_M} : ∀ (n : Nat) (v3 : Int32) (M : am_M), f_X5_isWord_1001_17 N v1 n v3 M = some (r, M') → cR z me_X5_isWord (17, [some (.ref 18), some (.int v1), some (.ref 1001), some (.int v3)], [], M) r M' := by
  intro n
  induction n with
  | zero => intro v3 M h; cases h
  | succ n ih => intro v3 M h; exact t_X5_isWord_1001_17B z N v1 _ ih v3 M h
def f_X5_isWord_1001 (N : Nat) (p1 : Int32) (M : am_M) : Option (Except Nat (Option Value) × am_M) :=
  am_bi (f_cJ0_length_1001 N M) fun r7 M7 =>
    if ((M 18 6) - p1) = r7 then
      f_X5_isWord_1001_17 N p1 N 0 M7
    else
      some (.ok (some (.int 0)), M7)
set_option maxRecDepth 100000 in
theorem t_X5_isWord_1001 (z : Value) (N : Nat) (p1 : Int32) (M : am_M) {r : Except Nat (Option Value)} {M' : am_M} (h : f_X5_isWord_1001 N p1 M = some (r, M')) : cR z me_X5_isWord (0, [some (.ref 18), some (.int p1), some (.ref 1001), none], [], M) r M' := by
  unfold f_X5_isWord_1001 at h
  refine am_R.go 5 (q' := (7, [some (.ref 18), some (.int p1), some (.ref 1001), none], [.ref 1001, .int ((M 18 6) - p1)], M)) rfl trivial ?_
  obtain ⟨r7, M7, hz, h⟩ := am_bi_s h
  refine am_R.call (e' := me_J0_length_8abf5) (as := [.ref 1001]) (rest := [.int ((M 18 6) - p1)]) rfl rfl (Nat.le_of_ble_eq_true rfl) (t_cJ0_length_1001 z N _ hz) ?_
  rcases am_it h with ⟨hc, h⟩ | ⟨hc, h⟩
  · refine am_R.bt rfl rfl hc ?_
    refine am_R.go 2 (q' := (17, [some (.ref 18), some (.int p1), some (.ref 1001), some (.int 0)], [], M7)) rfl trivial ?_
    exact t_X5_isWord_1001_17 z N p1 N 0 _ h
  · refine am_R.bn rfl rfl hc ?_
    refine am_R.go 1 (q' := (14, [some (.ref 18), some (.int p1), some (.ref 1001), none], [.int 0], M7)) rfl trivial ?_
    cases h
    exact am_R.ret rfl rfl (Or.inl rfl)
def f_cJ0_coder_1002 (N : Nat) (M : am_M) : Option (Except Nat (Option Value) × am_M) :=
  if (0 : Int32).toInt8.toInt32 = 0 then some (.ok (some (.int 0)), M) else none
set_option maxRecDepth 100000 in
theorem t_cJ0_coder_1002 (z : Value) (N : Nat) (M : am_M) {r : Except Nat (Option Value)} {M' : am_M} (h : f_cJ0_coder_1002 N M = some (r, M')) : cR z me_J0_coder_7d493 (0, [some (.ref 1002)], [], M) r M' := by
  unfold f_cJ0_coder_1002 at h
  refine am_R.go 1 (q' := (3, [some (.ref 1002)], [.int 1], M)) rfl trivial ?_
  refine am_R.cn rfl rfl (by unfold am_c; decide) ?_
  refine am_R.go 3 (q' := (14, [some (.ref 1002)], [.int 0], M)) rfl ⟨(by decide), trivial⟩ ?_
  obtain ⟨hC, h⟩ := am_gd h
  cases h
  exact am_R.ret rfl rfl hC
def f_cJ0_length_1002 (N : Nat) (M : am_M) : Option (Except Nat (Option Value) × am_M) :=
  am_bi (f_cJ0_coder_1002 N M) fun r6 M6 =>
    some (.ok (some (.int (4 >>> (r6 &&& 31)))), M6)
set_option maxRecDepth 100000 in
theorem t_cJ0_length_1002 (z : Value) (N : Nat) (M : am_M) {r : Except Nat (Option Value)} {M' : am_M} (h : f_cJ0_length_1002 N M = some (r, M')) : cR z me_J0_length_8abf5 (0, [some (.ref 1002)], [], M) r M' := by
  unfold f_cJ0_length_1002 at h
  refine am_R.go 4 (q' := (6, [some (.ref 1002)], [.ref 1002, .int 4], M)) rfl ⟨(by decide), trivial⟩ ?_
  obtain ⟨r6, M6, hz, h⟩ := am_bi_s h
  refine am_R.call (e' := me_J0_coder_7d493) (as := [.ref 1002]) (rest := [.int 4]) rfl rfl (Nat.le_of_ble_eq_true rfl) (t_cJ0_coder_1002 z N _ hz) ?_
  refine am_R.go 1 (q' := (10, [some (.ref 1002)], [.int (4 >>> (r6 &&& 31))], M6)) rfl trivial ?_
  cases h
  exact am_R.ret rfl rfl trivial
def f_cJ0_isLatin1_1002 (N : Nat) (M : am_M) : Option (Except Nat (Option Value) × am_M) :=
  some (.ok (some (.int 1)), M)
set_option maxRecDepth 100000 in
theorem t_cJ0_isLatin1_1002 (z : Value) (N : Nat) (M : am_M) {r : Except Nat (Option Value)} {M' : am_M} (h : f_cJ0_isLatin1_1002 N M = some (r, M')) : cR z me_J0_isLatin1_aae02 (0, [some (.ref 1002)], [], M) r M' := by
  unfold f_cJ0_isLatin1_1002 at h
  refine am_R.go 1 (q' := (3, [some (.ref 1002)], [.int 1], M)) rfl trivial ?_
  refine am_R.cn rfl rfl (by unfold am_c; decide) ?_
  refine am_R.go 2 (q' := (10, [some (.ref 1002)], [.int 0], M)) rfl ⟨(by decide), trivial⟩ ?_
  refine am_R.cn rfl rfl (by unfold am_c; decide) ?_
  refine am_R.go 2 (q' := (18, [some (.ref 1002)], [.int 1], M)) rfl trivial ?_
  cases h
  exact am_R.ret rfl rfl (Or.inr rfl)
def f_cJ1_charAt_2002 (N : Nat) (p1 : Int32) (M : am_M) : Option (Except Nat (Option Value) × am_M) :=
  am_bv (f_cJ0_checkIndex N p1 4 M) fun M3 =>
    if am_in p1 4 then
      if ((((((am_byt.getD 2 []).getD p1.toNatClampNeg 0) &&& 255).toUInt32 % 65536).toInt32).toUInt32 % 65536).toInt32 = ((((am_byt.getD 2 []).getD p1.toNatClampNeg 0) &&& 255).toUInt32 % 65536).toInt32 then some (.ok (some (.int (((((am_byt.getD 2 []).getD p1.toNatClampNeg 0) &&& 255).toUInt32 % 65536).toInt32))), M3) else none
    else none
set_option maxRecDepth 100000 in
theorem t_cJ1_charAt_2002 (z : Value) (N : Nat) (p1 : Int32) (M : am_M) {r : Except Nat (Option Value)} {M' : am_M} (h : f_cJ1_charAt_2002 N p1 M = some (r, M')) : cR z me_J1_charAt_3b067 (0, [some (.ref 2002), some (.int p1)], [], M) r M' := by
  unfold f_cJ1_charAt_2002 at h
  refine am_R.go 3 (q' := (3, [some (.ref 2002), some (.int p1)], [.int 4, .int p1], M)) rfl trivial ?_
  obtain ⟨M3, hz, h⟩ := am_bv_s h
  refine am_R.call (e' := me_J0_checkIndex_df160) (as := [.int p1, .int 4]) (rest := []) rfl rfl (Nat.le_of_ble_eq_true rfl) (t_cJ0_checkIndex z N p1 4 _ hz) ?_
  obtain ⟨hC, h⟩ := am_gd h
  refine am_R.go 6 (q' := (14, [some (.ref 2002), some (.int p1)], [.int (((((am_byt.getD 2 []).getD p1.toNatClampNeg 0) &&& 255).toUInt32 % 65536).toInt32)], M3)) rfl ⟨hC, trivial⟩ ?_
  obtain ⟨hC, h⟩ := am_gd h
  cases h
  exact am_R.ret rfl rfl hC
def f_cJ0_charAt_1002 (N : Nat) (p1 : Int32) (M : am_M) : Option (Except Nat (Option Value) × am_M) :=
  am_bi (f_cJ0_isLatin1_1002 N M) fun r1 M1 =>
    if r1 = 0 then
      none
    else
      am_bi (f_cJ1_charAt_2002 N p1 M1) fun r12 M12 =>
        if (r12.toUInt32 % 65536).toInt32 = r12 then some (.ok (some (.int r12)), M12) else none
set_option maxRecDepth 100000 in
theorem t_cJ0_charAt_1002 (z : Value) (N : Nat) (p1 : Int32) (M : am_M) {r : Except Nat (Option Value)} {M' : am_M} (h : f_cJ0_charAt_1002 N p1 M = some (r, M')) : cR z me_J0_charAt_5068e (0, [some (.ref 1002), some (.int p1)], [], M) r M' := by
  unfold f_cJ0_charAt_1002 at h
  refine am_R.go 1 (q' := (1, [some (.ref 1002), some (.int p1)], [.ref 1002], M)) rfl trivial ?_
  obtain ⟨r1, M1, hz, h⟩ := am_bi_s h
  refine am_R.call (e' := me_J0_isLatin1_aae02) (as := [.ref 1002]) (rest := []) rfl rfl (Nat.le_of_ble_eq_true rfl) (t_cJ0_isLatin1_1002 z N _ hz) ?_
  rcases am_it h with ⟨hc, h⟩ | ⟨hc, h⟩
  · refine am_R.ct rfl rfl hc ?_
    cases h
  · refine am_R.cn rfl rfl hc ?_
    refine am_R.go 3 (q' := (12, [some (.ref 1002), some (.int p1)], [.int p1, .ref 2002], M1)) rfl ⟨(by decide), trivial⟩ ?_
    obtain ⟨r12, M12, hz, h⟩ := am_bi_s h
    refine am_R.call (e' := me_J1_charAt_3b067) (as := [.ref 2002, .int p1]) (rest := []) rfl rfl (Nat.le_of_ble_eq_true rfl) (t_cJ1_charAt_2002 z N p1 _ hz) ?_
    obtain ⟨hC, h⟩ := am_gd h
    cases h
    exact am_R.ret rfl rfl hC
def f_X5_isWord_1002_17B (N : Nat) (v1 : Int32) (k17 : Int32 → am_M → Option (Except Nat (Option Value) × am_M)) (v3 : Int32) (M : am_M) : Option (Except Nat (Option Value) × am_M) :=
  am_bi (f_cJ0_length_1002 N M) fun r19 M19 =>
    if r19 ≤ v3 then
      some (.ok (some (.int 1)), M19)
    else
      if am_in (v1 + v3) 600 then
        am_bi (f_cJ0_charAt_1002 N v3 M19) fun r35 M35 =>
          if (M19 1 ((v1 + v3).toNatClampNeg)) = r35 then
            k17 (v3 + 1) M35
          else
            some (.ok (some (.int 0)), M35)
      else none
def f_X5_isWord_1002_17 (N : Nat) (v1 : Int32) : Nat → Int32 → am_M → Option (Except Nat (Option Value) × am_M)
  | 0 => fun _ _ => none
  | n + 1 => f_X5_isWord_1002_17B N v1 (f_X5_isWord_1002_17 N v1 n)
set_option maxRecDepth 100000 in
theorem t_X5_isWord_1002_17B (z : Value) (N : Nat) (v1 : Int32) {r : Except Nat (Option Value)} {M' : am_M} (k17 : Int32 → am_M → Option (Except Nat (Option Value) × am_M)) (hk17 : ∀ (v3 : Int32) (M : am_M), k17 v3 M = some (r, M') → cR z me_X5_isWord (17, [some (.ref 18), some (.int v1), some (.ref 1002), some (.int v3)], [], M) r M') (v3 : Int32) (M : am_M) (h : f_X5_isWord_1002_17B N v1 k17 v3 M = some (r, M')) : cR z me_X5_isWord (17, [some (.ref 18), some (.int v1), some (.ref 1002), some (.int v3)], [], M) r M' := by
  unfold f_X5_isWord_1002_17B at h
  refine am_R.go 2 (q' := (19, [some (.ref 18), some (.int v1), some (.ref 1002), some (.int v3)], [.ref 1002, .int v3], M)) rfl trivial ?_
  obtain ⟨r19, M19, hz, h⟩ := am_bi_s h
  refine am_R.call (e' := me_J0_length_8abf5) (as := [.ref 1002]) (rest := [.int v3]) rfl rfl (Nat.le_of_ble_eq_true rfl) (t_cJ0_length_1002 z N _ hz) ?_
  rcases am_it h with ⟨hc, h⟩ | ⟨hc, h⟩
  · refine am_R.bt rfl rfl hc ?_
    refine am_R.go 1 (q' := (50, [some (.ref 18), some (.int v1), some (.ref 1002), some (.int v3)], [.int 1], M19)) rfl trivial ?_
    cases h
    exact am_R.ret rfl rfl (Or.inr rfl)
  · refine am_R.bn rfl rfl hc ?_
    obtain ⟨hC, h⟩ := am_gd h
    refine am_R.go 8 (q' := (35, [some (.ref 18), some (.int v1), some (.ref 1002), some (.int v3)], [.int v3, .ref 1002, .int (M19 1 ((v1 + v3).toNatClampNeg))], M19)) rfl ⟨hC, trivial⟩ ?_
    obtain ⟨r35, M35, hz, h⟩ := am_bi_s h
    refine am_R.call (e' := me_J0_charAt_5068e) (as := [.ref 1002, .int v3]) (rest := [.int (M19 1 ((v1 + v3).toNatClampNeg))]) rfl rfl (Nat.le_of_ble_eq_true rfl) (t_cJ0_charAt_1002 z N v3 _ hz) ?_
    rcases am_it h with ⟨hc, h⟩ | ⟨hc, h⟩
    · refine am_R.bt rfl rfl hc ?_
      refine am_R.go 2 (q' := (17, [some (.ref 18), some (.int v1), some (.ref 1002), some (.int (v3 + 1))], [], M35)) rfl trivial ?_
      exact hk17 (v3 + 1) _ h
    · refine am_R.bn rfl rfl hc ?_
      refine am_R.go 1 (q' := (42, [some (.ref 18), some (.int v1), some (.ref 1002), some (.int v3)], [.int 0], M35)) rfl trivial ?_
      cases h
      exact am_R.ret rfl rfl (Or.inl rfl)
set_option maxRecDepth 100000 in
theorem t_X5_isWord_1002_17 (z : Value) (N : Nat) (v1 : Int32) {r : Except Nat (Option Value)} {M' : am_M} : ∀ (n : Nat) (v3 : Int32) (M : am_M), f_X5_isWord_1002_17 N v1 n v3 M = some (r, M') → cR z me_X5_isWord (17, [some (.ref 18), some (.int v1), some (.ref 1002), some (.int v3)], [], M) r M' := by
  intro n
  induction n with
  | zero => intro v3 M h; cases h
  | succ n ih => intro v3 M h; exact t_X5_isWord_1002_17B z N v1 _ ih v3 M h
def f_X5_isWord_1002 (N : Nat) (p1 : Int32) (M : am_M) : Option (Except Nat (Option Value) × am_M) :=
  am_bi (f_cJ0_length_1002 N M) fun r7 M7 =>
    if ((M 18 6) - p1) = r7 then
      f_X5_isWord_1002_17 N p1 N 0 M7
    else
      some (.ok (some (.int 0)), M7)
set_option maxRecDepth 100000 in
theorem t_X5_isWord_1002 (z : Value) (N : Nat) (p1 : Int32) (M : am_M) {r : Except Nat (Option Value)} {M' : am_M} (h : f_X5_isWord_1002 N p1 M = some (r, M')) : cR z me_X5_isWord (0, [some (.ref 18), some (.int p1), some (.ref 1002), none], [], M) r M' := by
  unfold f_X5_isWord_1002 at h
  refine am_R.go 5 (q' := (7, [some (.ref 18), some (.int p1), some (.ref 1002), none], [.ref 1002, .int ((M 18 6) - p1)], M)) rfl trivial ?_
  obtain ⟨r7, M7, hz, h⟩ := am_bi_s h
  refine am_R.call (e' := me_J0_length_8abf5) (as := [.ref 1002]) (rest := [.int ((M 18 6) - p1)]) rfl rfl (Nat.le_of_ble_eq_true rfl) (t_cJ0_length_1002 z N _ hz) ?_
  rcases am_it h with ⟨hc, h⟩ | ⟨hc, h⟩
  · refine am_R.bt rfl rfl hc ?_
    refine am_R.go 2 (q' := (17, [some (.ref 18), some (.int p1), some (.ref 1002), some (.int 0)], [], M7)) rfl trivial ?_
    exact t_X5_isWord_1002_17 z N p1 N 0 _ h
  · refine am_R.bn rfl rfl hc ?_
    refine am_R.go 1 (q' := (14, [some (.ref 18), some (.int p1), some (.ref 1002), none], [.int 0], M7)) rfl trivial ?_
    cases h
    exact am_R.ret rfl rfl (Or.inl rfl)
def f_cJ0_coder_1003 (N : Nat) (M : am_M) : Option (Except Nat (Option Value) × am_M) :=
  if (0 : Int32).toInt8.toInt32 = 0 then some (.ok (some (.int 0)), M) else none
set_option maxRecDepth 100000 in
theorem t_cJ0_coder_1003 (z : Value) (N : Nat) (M : am_M) {r : Except Nat (Option Value)} {M' : am_M} (h : f_cJ0_coder_1003 N M = some (r, M')) : cR z me_J0_coder_7d493 (0, [some (.ref 1003)], [], M) r M' := by
  unfold f_cJ0_coder_1003 at h
  refine am_R.go 1 (q' := (3, [some (.ref 1003)], [.int 1], M)) rfl trivial ?_
  refine am_R.cn rfl rfl (by unfold am_c; decide) ?_
  refine am_R.go 3 (q' := (14, [some (.ref 1003)], [.int 0], M)) rfl ⟨(by decide), trivial⟩ ?_
  obtain ⟨hC, h⟩ := am_gd h
  cases h
  exact am_R.ret rfl rfl hC
def f_cJ0_length_1003 (N : Nat) (M : am_M) : Option (Except Nat (Option Value) × am_M) :=
  am_bi (f_cJ0_coder_1003 N M) fun r6 M6 =>
    some (.ok (some (.int (4 >>> (r6 &&& 31)))), M6)
set_option maxRecDepth 100000 in
theorem t_cJ0_length_1003 (z : Value) (N : Nat) (M : am_M) {r : Except Nat (Option Value)} {M' : am_M} (h : f_cJ0_length_1003 N M = some (r, M')) : cR z me_J0_length_8abf5 (0, [some (.ref 1003)], [], M) r M' := by
  unfold f_cJ0_length_1003 at h
  refine am_R.go 4 (q' := (6, [some (.ref 1003)], [.ref 1003, .int 4], M)) rfl ⟨(by decide), trivial⟩ ?_
  obtain ⟨r6, M6, hz, h⟩ := am_bi_s h
  refine am_R.call (e' := me_J0_coder_7d493) (as := [.ref 1003]) (rest := [.int 4]) rfl rfl (Nat.le_of_ble_eq_true rfl) (t_cJ0_coder_1003 z N _ hz) ?_
  refine am_R.go 1 (q' := (10, [some (.ref 1003)], [.int (4 >>> (r6 &&& 31))], M6)) rfl trivial ?_
  cases h
  exact am_R.ret rfl rfl trivial
def f_cJ0_isLatin1_1003 (N : Nat) (M : am_M) : Option (Except Nat (Option Value) × am_M) :=
  some (.ok (some (.int 1)), M)
set_option maxRecDepth 100000 in
theorem t_cJ0_isLatin1_1003 (z : Value) (N : Nat) (M : am_M) {r : Except Nat (Option Value)} {M' : am_M} (h : f_cJ0_isLatin1_1003 N M = some (r, M')) : cR z me_J0_isLatin1_aae02 (0, [some (.ref 1003)], [], M) r M' := by
  unfold f_cJ0_isLatin1_1003 at h
  refine am_R.go 1 (q' := (3, [some (.ref 1003)], [.int 1], M)) rfl trivial ?_
  refine am_R.cn rfl rfl (by unfold am_c; decide) ?_
  refine am_R.go 2 (q' := (10, [some (.ref 1003)], [.int 0], M)) rfl ⟨(by decide), trivial⟩ ?_
  refine am_R.cn rfl rfl (by unfold am_c; decide) ?_
  refine am_R.go 2 (q' := (18, [some (.ref 1003)], [.int 1], M)) rfl trivial ?_
  cases h
  exact am_R.ret rfl rfl (Or.inr rfl)
def f_cJ1_charAt_2003 (N : Nat) (p1 : Int32) (M : am_M) : Option (Except Nat (Option Value) × am_M) :=
  am_bv (f_cJ0_checkIndex N p1 4 M) fun M3 =>
    if am_in p1 4 then
      if ((((((am_byt.getD 3 []).getD p1.toNatClampNeg 0) &&& 255).toUInt32 % 65536).toInt32).toUInt32 % 65536).toInt32 = ((((am_byt.getD 3 []).getD p1.toNatClampNeg 0) &&& 255).toUInt32 % 65536).toInt32 then some (.ok (some (.int (((((am_byt.getD 3 []).getD p1.toNatClampNeg 0) &&& 255).toUInt32 % 65536).toInt32))), M3) else none
    else none
set_option maxRecDepth 100000 in
theorem t_cJ1_charAt_2003 (z : Value) (N : Nat) (p1 : Int32) (M : am_M) {r : Except Nat (Option Value)} {M' : am_M} (h : f_cJ1_charAt_2003 N p1 M = some (r, M')) : cR z me_J1_charAt_3b067 (0, [some (.ref 2003), some (.int p1)], [], M) r M' := by
  unfold f_cJ1_charAt_2003 at h
  refine am_R.go 3 (q' := (3, [some (.ref 2003), some (.int p1)], [.int 4, .int p1], M)) rfl trivial ?_
  obtain ⟨M3, hz, h⟩ := am_bv_s h
  refine am_R.call (e' := me_J0_checkIndex_df160) (as := [.int p1, .int 4]) (rest := []) rfl rfl (Nat.le_of_ble_eq_true rfl) (t_cJ0_checkIndex z N p1 4 _ hz) ?_
  obtain ⟨hC, h⟩ := am_gd h
  refine am_R.go 6 (q' := (14, [some (.ref 2003), some (.int p1)], [.int (((((am_byt.getD 3 []).getD p1.toNatClampNeg 0) &&& 255).toUInt32 % 65536).toInt32)], M3)) rfl ⟨hC, trivial⟩ ?_
  obtain ⟨hC, h⟩ := am_gd h
  cases h
  exact am_R.ret rfl rfl hC
def f_cJ0_charAt_1003 (N : Nat) (p1 : Int32) (M : am_M) : Option (Except Nat (Option Value) × am_M) :=
  am_bi (f_cJ0_isLatin1_1003 N M) fun r1 M1 =>
    if r1 = 0 then
      none
    else
      am_bi (f_cJ1_charAt_2003 N p1 M1) fun r12 M12 =>
        if (r12.toUInt32 % 65536).toInt32 = r12 then some (.ok (some (.int r12)), M12) else none
set_option maxRecDepth 100000 in
theorem t_cJ0_charAt_1003 (z : Value) (N : Nat) (p1 : Int32) (M : am_M) {r : Except Nat (Option Value)} {M' : am_M} (h : f_cJ0_charAt_1003 N p1 M = some (r, M')) : cR z me_J0_charAt_5068e (0, [some (.ref 1003), some (.int p1)], [], M) r M' := by
  unfold f_cJ0_charAt_1003 at h
  refine am_R.go 1 (q' := (1, [some (.ref 1003), some (.int p1)], [.ref 1003], M)) rfl trivial ?_
  obtain ⟨r1, M1, hz, h⟩ := am_bi_s h
  refine am_R.call (e' := me_J0_isLatin1_aae02) (as := [.ref 1003]) (rest := []) rfl rfl (Nat.le_of_ble_eq_true rfl) (t_cJ0_isLatin1_1003 z N _ hz) ?_
  rcases am_it h with ⟨hc, h⟩ | ⟨hc, h⟩
  · refine am_R.ct rfl rfl hc ?_
    cases h
  · refine am_R.cn rfl rfl hc ?_
    refine am_R.go 3 (q' := (12, [some (.ref 1003), some (.int p1)], [.int p1, .ref 2003], M1)) rfl ⟨(by decide), trivial⟩ ?_
    obtain ⟨r12, M12, hz, h⟩ := am_bi_s h
    refine am_R.call (e' := me_J1_charAt_3b067) (as := [.ref 2003, .int p1]) (rest := []) rfl rfl (Nat.le_of_ble_eq_true rfl) (t_cJ1_charAt_2003 z N p1 _ hz) ?_
    obtain ⟨hC, h⟩ := am_gd h
    cases h
    exact am_R.ret rfl rfl hC
