def f_X8_has_9 (N : Nat) (p1 : Int32) (p2 : Int32) (M : am_M) : Option (Except Nat (Option Value) × am_M) :=
  if p1 < 0 then
    some (.ok (some (.int 0)), M)
  else
    if (M 9 3) ≤ p1 then
      some (.ok (some (.int 0)), M)
    else
      if p2 < 0 then
        some (.ok (some (.int 0)), M)
      else
        if (M 9 1) ≤ p2 then
          some (.ok (some (.int 0)), M)
        else
          some (.ok (some (.int 1)), M)
set_option maxRecDepth 100000 in
theorem t_X8_has_9 (z : Value) (N : Nat) (p1 : Int32) (p2 : Int32) (M : am_M) {r : Except Nat (Option Value)} {M' : am_M} (h : f_X8_has_9 N p1 p2 M = some (r, M')) : cR z me_X8_has (0, [some (.ref 9), some (.int p1), some (.int p2)], [], M) r M' := by
  unfold f_X8_has_9 at h
  refine am_R.go 1 (q' := (1, [some (.ref 9), some (.int p1), some (.int p2)], [.int p1], M)) rfl trivial ?_
  rcases am_it h with ⟨hc, h⟩ | ⟨hc, h⟩
  · refine am_R.ct rfl rfl hc ?_
    refine am_R.go 1 (q' := (29, [some (.ref 9), some (.int p1), some (.int p2)], [.int 0], M)) rfl trivial ?_
    cases h
    exact am_R.ret rfl rfl (Or.inl rfl)
  · refine am_R.cn rfl rfl hc ?_
    refine am_R.go 3 (q' := (9, [some (.ref 9), some (.int p1), some (.int p2)], [.int (M 9 3), .int p1], M)) rfl trivial ?_
    rcases am_it h with ⟨hc, h⟩ | ⟨hc, h⟩
    · refine am_R.bt rfl rfl hc ?_
      refine am_R.go 1 (q' := (29, [some (.ref 9), some (.int p1), some (.int p2)], [.int 0], M)) rfl trivial ?_
      cases h
      exact am_R.ret rfl rfl (Or.inl rfl)
    · refine am_R.bn rfl rfl hc ?_
      refine am_R.go 1 (q' := (13, [some (.ref 9), some (.int p1), some (.int p2)], [.int p2], M)) rfl trivial ?_
      rcases am_it h with ⟨hc, h⟩ | ⟨hc, h⟩
      · refine am_R.ct rfl rfl hc ?_
        refine am_R.go 1 (q' := (29, [some (.ref 9), some (.int p1), some (.int p2)], [.int 0], M)) rfl trivial ?_
        cases h
        exact am_R.ret rfl rfl (Or.inl rfl)
      · refine am_R.cn rfl rfl hc ?_
        refine am_R.go 3 (q' := (21, [some (.ref 9), some (.int p1), some (.int p2)], [.int (M 9 1), .int p2], M)) rfl trivial ?_
        rcases am_it h with ⟨hc, h⟩ | ⟨hc, h⟩
        · refine am_R.bt rfl rfl hc ?_
          refine am_R.go 1 (q' := (29, [some (.ref 9), some (.int p1), some (.int p2)], [.int 0], M)) rfl trivial ?_
          cases h
          exact am_R.ret rfl rfl (Or.inl rfl)
        · refine am_R.bn rfl rfl hc ?_
          refine am_R.go 2 (q' := (29, [some (.ref 9), some (.int p1), some (.int p2)], [.int 1], M)) rfl trivial ?_
          cases h
          exact am_R.ret rfl rfl (Or.inr rfl)
def f_X8_at_9 (N : Nat) (p1 : Int32) (p2 : Int32) (M : am_M) : Option (Except Nat (Option Value) × am_M) :=
  am_bi (f_X8_has_9 N p1 p2 M) fun r3 M3 =>
    if r3 = 0 then
      some (.ok (some (.int 0)), M3)
    else
      if am_in ((p1 * (M3 9 1)) + p2) 24 then
        some (.ok (some (.int (M3 10 (((p1 * (M3 9 1)) + p2).toNatClampNeg)))), M3)
      else none
set_option maxRecDepth 100000 in
theorem t_X8_at_9 (z : Value) (N : Nat) (p1 : Int32) (p2 : Int32) (M : am_M) {r : Except Nat (Option Value)} {M' : am_M} (h : f_X8_at_9 N p1 p2 M = some (r, M')) : cR z me_X8_at (0, [some (.ref 9), some (.int p1), some (.int p2)], [], M) r M' := by
  unfold f_X8_at_9 at h
  refine am_R.go 3 (q' := (3, [some (.ref 9), some (.int p1), some (.int p2)], [.int p2, .int p1, .ref 9], M)) rfl trivial ?_
  obtain ⟨r3, M3, hz, h⟩ := am_bi_s h
  refine am_R.call (e' := me_X8_has) (as := [.ref 9, .int p1, .int p2]) (rest := []) rfl rfl (Nat.le_of_ble_eq_true rfl) (t_X8_has_9 z N p1 p2 _ hz) ?_
  rcases am_it h with ⟨hc, h⟩ | ⟨hc, h⟩
  · refine am_R.ct rfl rfl hc ?_
    refine am_R.go 1 (q' := (26, [some (.ref 9), some (.int p1), some (.int p2)], [.int 0], M3)) rfl trivial ?_
    cases h
    exact am_R.ret rfl rfl trivial
  · refine am_R.cn rfl rfl hc ?_
    obtain ⟨hC, h⟩ := am_gd h
    refine am_R.go 10 (q' := (26, [some (.ref 9), some (.int p1), some (.int p2)], [.int (M3 10 (((p1 * (M3 9 1)) + p2).toNatClampNeg))], M3)) rfl ⟨hC, trivial⟩ ?_
    cases h
    exact am_R.ret rfl rfl trivial
def f_X8_cellAt_9 (N : Nat) (p1 : Int32) (M : am_M) : Option (Except Nat (Option Value) × am_M) :=
  am_bi (f_X8_at_9 N p1 0 M) fun r3 M3 =>
    am_bi (f_X8_at_9 N p1 1 M3) fun r9 M9 =>
      am_bi (f_X9_cellOf N r3 r9 M9) fun r12 M12 =>
        some (.ok (some (.int r12)), M12)
set_option maxRecDepth 100000 in
theorem t_X8_cellAt_9 (z : Value) (N : Nat) (p1 : Int32) (M : am_M) {r : Except Nat (Option Value)} {M' : am_M} (h : f_X8_cellAt_9 N p1 M = some (r, M')) : cR z me_X8_cellAt (0, [some (.ref 9), some (.int p1)], [], M) r M' := by
  unfold f_X8_cellAt_9 at h
  refine am_R.go 3 (q' := (3, [some (.ref 9), some (.int p1)], [.int 0, .int p1, .ref 9], M)) rfl trivial ?_
  obtain ⟨r3, M3, hz, h⟩ := am_bi_s h
  refine am_R.call (e' := me_X8_at) (as := [.ref 9, .int p1, .int 0]) (rest := []) rfl rfl (Nat.le_of_ble_eq_true rfl) (t_X8_at_9 z N p1 0 _ hz) ?_
  refine am_R.go 3 (q' := (9, [some (.ref 9), some (.int p1)], [.int 1, .int p1, .ref 9, .int r3], M3)) rfl trivial ?_
  obtain ⟨r9, M9, hz, h⟩ := am_bi_s h
  refine am_R.call (e' := me_X8_at) (as := [.ref 9, .int p1, .int 1]) (rest := [.int r3]) rfl rfl (Nat.le_of_ble_eq_true rfl) (t_X8_at_9 z N p1 1 _ hz) ?_
  obtain ⟨r12, M12, hz, h⟩ := am_bi_s h
  refine am_R.call (e' := me_X9_cellOf) (as := [.int r3, .int r9]) (rest := []) rfl rfl (Nat.le_of_ble_eq_true rfl) (t_X9_cellOf z N r3 r9 _ hz) ?_
  cases h
  exact am_R.ret rfl rfl trivial
def f_X6_snowsFalling_18B (N : Nat) (k18 : Int32 → Int32 → am_M → Option (Except Nat (Option Value) × am_M)) (v3 : Int32) (v4 : Int32) (M : am_M) : Option (Except Nat (Option Value) × am_M) :=
  if (M 9 3) ≤ v4 then
    some (.ok (some (.int v3)), M)
  else
    am_bi (f_X8_cellAt_9 N v4 M) fun r46 M46 =>
      if am_in r46 100 then
        am_bi (f_X8_at_9 N v4 2 M46) fun r60 M60 =>
          if (M46 56 (r46.toNatClampNeg)) < r60 then
            k18 v3 (v4 + 1) M60
          else
            k18 (v3 ||| (1 <<< (v4 &&& 31))) (v4 + 1) M60
      else none
def f_X6_snowsFalling_18 (N : Nat) : Nat → Int32 → Int32 → am_M → Option (Except Nat (Option Value) × am_M)
  | 0 => fun _ _ _ => none
  | n + 1 => f_X6_snowsFalling_18B N (f_X6_snowsFalling_18 N n)
set_option maxRecDepth 100000 in
theorem t_X6_snowsFalling_18B (z : Value) (N : Nat) {r : Except Nat (Option Value)} {M' : am_M} (k18 : Int32 → Int32 → am_M → Option (Except Nat (Option Value) × am_M)) (hk18 : ∀ (v3 : Int32) (v4 : Int32) (d1 : Option Value) (d2 : Option Value) (M : am_M), k18 v3 v4 M = some (r, M') → cR z me_X6_snowsFalling (18, [some (.ref 51), d1, d2, some (.int v3), some (.int v4)], [], M) r M') (v3 : Int32) (v4 : Int32) (d1 : Option Value) (d2 : Option Value) (M : am_M) (h : f_X6_snowsFalling_18B N k18 v3 v4 M = some (r, M')) : cR z me_X6_snowsFalling (18, [some (.ref 51), d1, d2, some (.int v3), some (.int v4)], [], M) r M' := by
  unfold f_X6_snowsFalling_18B at h
  refine am_R.go 5 (q' := (30, [some (.ref 51), d1, d2, some (.int v3), some (.int v4)], [.int (M 9 3), .int v4], M)) rfl trivial ?_
  rcases am_it h with ⟨hc, h⟩ | ⟨hc, h⟩
  · refine am_R.bt rfl rfl hc ?_
    refine am_R.go 1 (q' := (80, [some (.ref 51), d1, d2, some (.int v3), some (.int v4)], [.int v3], M)) rfl trivial ?_
    cases h
    exact am_R.ret rfl rfl trivial
  · refine am_R.bn rfl rfl hc ?_
    refine am_R.go 6 (q' := (46, [some (.ref 51), d1, d2, some (.int v3), some (.int v4)], [.int v4, .ref 9, .ref 56], M)) rfl trivial ?_
    obtain ⟨r46, M46, hz, h⟩ := am_bi_s h
    refine am_R.call (e' := me_X8_cellAt) (as := [.ref 9, .int v4]) (rest := [.ref 56]) rfl rfl (Nat.le_of_ble_eq_true rfl) (t_X8_cellAt_9 z N v4 _ hz) ?_
    obtain ⟨hC, h⟩ := am_gd h
    refine am_R.go 6 (q' := (60, [some (.ref 51), d1, d2, some (.int v3), some (.int v4)], [.int 2, .int v4, .ref 9, .int (M46 56 (r46.toNatClampNeg))], M46)) rfl ⟨hC, trivial⟩ ?_
    obtain ⟨r60, M60, hz, h⟩ := am_bi_s h
    refine am_R.call (e' := me_X8_at) (as := [.ref 9, .int v4, .int 2]) (rest := [.int (M46 56 (r46.toNatClampNeg))]) rfl rfl (Nat.le_of_ble_eq_true rfl) (t_X8_at_9 z N v4 2 _ hz) ?_
    rcases am_it h with ⟨hc, h⟩ | ⟨hc, h⟩
    · refine am_R.bt rfl rfl hc ?_
      refine am_R.go 2 (q' := (18, [some (.ref 51), d1, d2, some (.int v3), some (.int (v4 + 1))], [], M60)) rfl trivial ?_
      exact hk18 v3 (v4 + 1) _ _ _ h
    · refine am_R.bn rfl rfl hc ?_
      refine am_R.go 8 (q' := (18, [some (.ref 51), d1, d2, some (.int (v3 ||| (1 <<< (v4 &&& 31)))), some (.int (v4 + 1))], [], M60)) rfl trivial ?_
      exact hk18 (v3 ||| (1 <<< (v4 &&& 31))) (v4 + 1) _ _ _ h
set_option maxRecDepth 100000 in
theorem t_X6_snowsFalling_18 (z : Value) (N : Nat) {r : Except Nat (Option Value)} {M' : am_M} : ∀ (n : Nat) (v3 : Int32) (v4 : Int32) (d1 : Option Value) (d2 : Option Value) (M : am_M), f_X6_snowsFalling_18 N n v3 v4 M = some (r, M') → cR z me_X6_snowsFalling (18, [some (.ref 51), d1, d2, some (.int v3), some (.int v4)], [], M) r M' := by
  intro n
  induction n with
  | zero => intro v3 v4 d1 d2 M h; cases h
  | succ n ih => intro v3 v4 d1 d2 M h; exact t_X6_snowsFalling_18B z N _ ih v3 v4 d1 d2 M h
def f_X6_snowsFalling (N : Nat) (p1 : Int32) (p2 : Int32) (M : am_M) : Option (Except Nat (Option Value) × am_M) :=
  am_bv (f_X6_shoutForPeaks N p1 p2 (M 2 2) M) fun M10 =>
    f_X6_snowsFalling_18 N N 0 0 M10
set_option maxRecDepth 100000 in
theorem t_X6_snowsFalling (z : Value) (N : Nat) (p1 : Int32) (p2 : Int32) (M : am_M) {r : Except Nat (Option Value)} {M' : am_M} (h : f_X6_snowsFalling N p1 p2 M = some (r, M')) : cR z me_X6_snowsFalling (0, [some (.ref 51), some (.int p1), some (.int p2), none, none], [], M) r M' := by
  unfold f_X6_snowsFalling at h
  refine am_R.go 6 (q' := (10, [some (.ref 51), some (.int p1), some (.int p2), none, none], [.int (M 2 2), .int p2, .int p1, .ref 51], M)) rfl trivial ?_
  obtain ⟨M10, hz, h⟩ := am_bv_s h
  refine am_R.call (e' := me_X6_shoutForPeaks) (as := [.ref 51, .int p1, .int p2, .int (M 2 2)]) (rest := []) rfl rfl (Nat.le_of_ble_eq_true rfl) (t_X6_shoutForPeaks z N p1 p2 (M 2 2) _ hz) ?_
  refine am_R.go 4 (q' := (18, [some (.ref 51), some (.int p1), some (.int p2), some (.int 0), some (.int 0)], [], M10)) rfl trivial ?_
  exact t_X6_snowsFalling_18 z N N 0 0 _ _ _ h
def f_X9_snows (N : Nat) (p1 : Int32) (p2 : Int32) (M : am_M) : Option (Except Nat (Option Value) × am_M) :=
  am_bvx (f_X9_needCell N p1 p2 M) fun M3 =>
    am_bi (f_X6_snowsFalling N p1 p2 M3) fun r12 M12 =>
      some (.ok (some (.int r12)), M12)
set_option maxRecDepth 100000 in
theorem t_X9_snows (z : Value) (N : Nat) (p1 : Int32) (p2 : Int32) (M : am_M) {r : Except Nat (Option Value)} {M' : am_M} (h : f_X9_snows N p1 p2 M = some (r, M')) : cR z me_X9_snows (0, [some (.ref 0), some (.int p1), some (.int p2)], [], M) r M' := by
  unfold f_X9_snows at h
  refine am_R.go 3 (q' := (3, [some (.ref 0), some (.int p1), some (.int p2)], [.int p2, .int p1, .ref 0], M)) rfl trivial ?_
  rcases am_bvx_s h with ⟨M3, hz, h⟩ | ⟨x, M3, hz, h⟩
  · refine am_R.call (e' := me_X9_needCell) (as := [.ref 0, .int p1, .int p2]) (rest := []) rfl rfl (Nat.le_of_ble_eq_true rfl) (t_X9_needCell z N p1 p2 _ hz) ?_
    refine am_R.go 4 (q' := (12, [some (.ref 0), some (.int p1), some (.int p2)], [.int p2, .int p1, .ref 51], M3)) rfl trivial ?_
    obtain ⟨r12, M12, hz, h⟩ := am_bi_s h
    refine am_R.call (e' := me_X6_snowsFalling) (as := [.ref 51, .int p1, .int p2]) (rest := []) rfl rfl (Nat.le_of_ble_eq_true rfl) (t_X6_snowsFalling z N p1 p2 _ hz) ?_
    cases h
    exact am_R.ret rfl rfl trivial
  · cases h
    exact am_R.callx (e' := me_X9_needCell) (as := [.ref 0, .int p1, .int p2]) (rest := []) rfl rfl (Nat.le_of_ble_eq_true rfl) rfl (t_X9_needCell z N p1 p2 _ hz)
def f_X9_safe_17B (N : Nat) (v2 : Int32) (k4 : Int32 → Int32 → am_M → Option (Except Nat (Option Value) × am_M)) (k17 : Int32 → Int32 → am_M → Option (Except Nat (Option Value) × am_M)) (v1 : Int32) (v3 : Int32) (M : am_M) : Option (Except Nat (Option Value) × am_M) :=
  if (M 2 0) ≤ v3 then
    k4 v1 (v2 + 1) M
  else
    am_bi (f_X6_snowsFalling N v3 v2 M) fun r34 M34 =>
      if r34 = 0 then
        k17 (v1 + 1) (v3 + 1) M34
      else
        k17 v1 (v3 + 1) M34
def f_X9_safe_17 (N : Nat) (v2 : Int32) (k4 : Int32 → Int32 → am_M → Option (Except Nat (Option Value) × am_M)) : Nat → Int32 → Int32 → am_M → Option (Except Nat (Option Value) × am_M)
  | 0 => fun _ _ _ => none
  | n + 1 => f_X9_safe_17B N v2 k4 (f_X9_safe_17 N v2 k4 n)
set_option maxRecDepth 100000 in
theorem t_X9_safe_17B (z : Value) (N : Nat) (v2 : Int32) (k4 : Int32 → Int32 → am_M → Option (Except Nat (Option Value) × am_M)) {r : Except Nat (Option Value)} {M' : am_M} (hk4 : ∀ (v1 : Int32) (v2 : Int32) (d3 : Option Value) (M : am_M), k4 v1 v2 M = some (r, M') → cR z me_X9_safe (4, [some (.ref 0), some (.int v1), some (.int v2), d3], [], M) r M') (k17 : Int32 → Int32 → am_M → Option (Except Nat (Option Value) × am_M)) (hk17 : ∀ (v1 : Int32) (v3 : Int32) (M : am_M), k17 v1 v3 M = some (r, M') → cR z me_X9_safe (17, [some (.ref 0), some (.int v1), some (.int v2), some (.int v3)], [], M) r M') (v1 : Int32) (v3 : Int32) (M : am_M) (h : f_X9_safe_17B N v2 k4 k17 v1 v3 M = some (r, M')) : cR z me_X9_safe (17, [some (.ref 0), some (.int v1), some (.int v2), some (.int v3)], [], M) r M' := by
  unfold f_X9_safe_17B at h
  refine am_R.go 4 (q' := (25, [some (.ref 0), some (.int v1), some (.int v2), some (.int v3)], [.int (M 2 0), .int v3], M)) rfl trivial ?_
  rcases am_it h with ⟨hc, h⟩ | ⟨hc, h⟩
  · refine am_R.bt rfl rfl hc ?_
    refine am_R.go 2 (q' := (4, [some (.ref 0), some (.int v1), some (.int (v2 + 1)), some (.int v3)], [], M)) rfl trivial ?_
    exact hk4 v1 (v2 + 1) _ _ h
  · refine am_R.bn rfl rfl hc ?_
    refine am_R.go 4 (q' := (34, [some (.ref 0), some (.int v1), some (.int v2), some (.int v3)], [.int v2, .int v3, .ref 51], M)) rfl trivial ?_
    obtain ⟨r34, M34, hz, h⟩ := am_bi_s h
    refine am_R.call (e' := me_X6_snowsFalling) (as := [.ref 51, .int v3, .int v2]) (rest := []) rfl rfl (Nat.le_of_ble_eq_true rfl) (t_X6_snowsFalling z N v3 v2 _ hz) ?_
    rcases am_it h with ⟨hc, h⟩ | ⟨hc, h⟩
    · refine am_R.cn rfl rfl (fun q => q hc) ?_
      refine am_R.go 3 (q' := (17, [some (.ref 0), some (.int (v1 + 1)), some (.int v2), some (.int (v3 + 1))], [], M34)) rfl trivial ?_
      exact hk17 (v1 + 1) (v3 + 1) _ h
    · refine am_R.ct rfl rfl hc ?_
      refine am_R.go 2 (q' := (17, [some (.ref 0), some (.int v1), some (.int v2), some (.int (v3 + 1))], [], M34)) rfl trivial ?_
      exact hk17 v1 (v3 + 1) _ h
set_option maxRecDepth 100000 in
theorem t_X9_safe_17 (z : Value) (N : Nat) (v2 : Int32) (k4 : Int32 → Int32 → am_M → Option (Except Nat (Option Value) × am_M)) {r : Except Nat (Option Value)} {M' : am_M} (hk4 : ∀ (v1 : Int32) (v2 : Int32) (d3 : Option Value) (M : am_M), k4 v1 v2 M = some (r, M') → cR z me_X9_safe (4, [some (.ref 0), some (.int v1), some (.int v2), d3], [], M) r M') : ∀ (n : Nat) (v1 : Int32) (v3 : Int32) (M : am_M), f_X9_safe_17 N v2 k4 n v1 v3 M = some (r, M') → cR z me_X9_safe (17, [some (.ref 0), some (.int v1), some (.int v2), some (.int v3)], [], M) r M' := by
  intro n
  induction n with
  | zero => intro v1 v3 M h; cases h
  | succ n ih => intro v1 v3 M h; exact t_X9_safe_17B z N v2 k4 hk4 _ ih v1 v3 M h
def f_X9_safe_4B (N : Nat) (k4 : Int32 → Int32 → am_M → Option (Except Nat (Option Value) × am_M)) (v1 : Int32) (v2 : Int32) (M : am_M) : Option (Except Nat (Option Value) × am_M) :=
  if (M 2 1) ≤ v2 then
    some (.ok (some (.int v1)), M)
  else
    f_X9_safe_17 N v2 k4 N v1 0 M
def f_X9_safe_4 (N : Nat) : Nat → Int32 → Int32 → am_M → Option (Except Nat (Option Value) × am_M)
  | 0 => fun _ _ _ => none
  | n + 1 => f_X9_safe_4B N (f_X9_safe_4 N n)
set_option maxRecDepth 100000 in
theorem t_X9_safe_4B (z : Value) (N : Nat) {r : Except Nat (Option Value)} {M' : am_M} (k4 : Int32 → Int32 → am_M → Option (Except Nat (Option Value) × am_M)) (hk4 : ∀ (v1 : Int32) (v2 : Int32) (d3 : Option Value) (M : am_M), k4 v1 v2 M = some (r, M') → cR z me_X9_safe (4, [some (.ref 0), some (.int v1), some (.int v2), d3], [], M) r M') (v1 : Int32) (v2 : Int32) (d3 : Option Value) (M : am_M) (h : f_X9_safe_4B N k4 v1 v2 M = some (r, M')) : cR z me_X9_safe (4, [some (.ref 0), some (.int v1), some (.int v2), d3], [], M) r M' := by
  unfold f_X9_safe_4B at h
  refine am_R.go 4 (q' := (12, [some (.ref 0), some (.int v1), some (.int v2), d3], [.int (M 2 1), .int v2], M)) rfl trivial ?_
  rcases am_it h with ⟨hc, h⟩ | ⟨hc, h⟩
  · refine am_R.bt rfl rfl hc ?_
    refine am_R.go 1 (q' := (56, [some (.ref 0), some (.int v1), some (.int v2), d3], [.int v1], M)) rfl trivial ?_
    cases h
    exact am_R.ret rfl rfl trivial
  · refine am_R.bn rfl rfl hc ?_
    refine am_R.go 2 (q' := (17, [some (.ref 0), some (.int v1), some (.int v2), some (.int 0)], [], M)) rfl trivial ?_
    exact t_X9_safe_17 z N v2 k4 hk4 N v1 0 _ h
set_option maxRecDepth 100000 in
theorem t_X9_safe_4 (z : Value) (N : Nat) {r : Except Nat (Option Value)} {M' : am_M} : ∀ (n : Nat) (v1 : Int32) (v2 : Int32) (d3 : Option Value) (M : am_M), f_X9_safe_4 N n v1 v2 M = some (r, M') → cR z me_X9_safe (4, [some (.ref 0), some (.int v1), some (.int v2), d3], [], M) r M' := by
  intro n
  induction n with
  | zero => intro v1 v2 d3 M h; cases h
  | succ n ih => intro v1 v2 d3 M h; exact t_X9_safe_4B z N _ ih v1 v2 d3 M h
def f_X9_safe (N : Nat) (M : am_M) : Option (Except Nat (Option Value) × am_M) :=
  f_X9_safe_4 N N 0 0 M
set_option maxRecDepth 100000 in
theorem t_X9_safe (z : Value) (N : Nat) (M : am_M) {r : Except Nat (Option Value)} {M' : am_M} (h : f_X9_safe N M = some (r, M')) : cR z me_X9_safe (0, [some (.ref 0), none, none, none], [], M) r M' := by
  unfold f_X9_safe at h
  refine am_R.go 4 (q' := (4, [some (.ref 0), some (.int 0), some (.int 0), none], [], M)) rfl trivial ?_
  exact t_X9_safe_4 z N N 0 0 _ _ h
def f_X6_greatestHush_14B (N : Nat) (k14 : Int32 → Int32 → am_M → Option (Except Nat (Option Value) × am_M)) (v3 : Int32) (v4 : Int32) (M : am_M) : Option (Except Nat (Option Value) × am_M) :=
  if (M 9 3) ≤ v4 then
    some (.ok (some (.int v3)), M)
  else
    am_bi (f_X8_cellAt_9 N v4 M) fun r44 M44 =>
      if am_in r44 100 then
        am_bi (f_X8_at_9 N v4 2 M44) fun r64 M64 =>
          k14 (if (((99 - (M44 56 (r44.toNatClampNeg))) + r64) - 1) < v3 then ((99 - (M44 56 (r44.toNatClampNeg))) + r64) - 1 else v3) (v4 + 1) M64
      else none
def f_X6_greatestHush_14 (N : Nat) : Nat → Int32 → Int32 → am_M → Option (Except Nat (Option Value) × am_M)
  | 0 => fun _ _ _ => none
  | n + 1 => f_X6_greatestHush_14B N (f_X6_greatestHush_14 N n)
set_option maxRecDepth 100000 in
theorem t_X6_greatestHush_14B (z : Value) (N : Nat) {r : Except Nat (Option Value)} {M' : am_M} (k14 : Int32 → Int32 → am_M → Option (Except Nat (Option Value) × am_M)) (hk14 : ∀ (v3 : Int32) (v4 : Int32) (d1 : Option Value) (d2 : Option Value) (d5 : Option Value) (M : am_M), k14 v3 v4 M = some (r, M') → cR z me_X6_greatestHush (14, [some (.ref 51), d1, d2, some (.int v3), some (.int v4), d5], [], M) r M') (v3 : Int32) (v4 : Int32) (d1 : Option Value) (d2 : Option Value) (d5 : Option Value) (M : am_M) (h : f_X6_greatestHush_14B N k14 v3 v4 M = some (r, M')) : cR z me_X6_greatestHush (14, [some (.ref 51), d1, d2, some (.int v3), some (.int v4), d5], [], M) r M' := by
  unfold f_X6_greatestHush_14B at h
  refine am_R.go 5 (q' := (26, [some (.ref 51), d1, d2, some (.int v3), some (.int v4), d5], [.int (M 9 3), .int v4], M)) rfl trivial ?_
  rcases am_it h with ⟨hc, h⟩ | ⟨hc, h⟩
  · refine am_R.bt rfl rfl hc ?_
    refine am_R.go 1 (q' := (81, [some (.ref 51), d1, d2, some (.int v3), some (.int v4), d5], [.int v3], M)) rfl trivial ?_
    cases h
    exact am_R.ret rfl rfl trivial
  · refine am_R.bn rfl rfl hc ?_
    refine am_R.go 7 (q' := (44, [some (.ref 51), d1, d2, some (.int v3), some (.int v4), d5], [.int v4, .ref 9, .ref 56, .int 99], M)) rfl trivial ?_
    obtain ⟨r44, M44, hz, h⟩ := am_bi_s h
    refine am_R.call (e' := me_X8_cellAt) (as := [.ref 9, .int v4]) (rest := [.ref 56, .int 99]) rfl rfl (Nat.le_of_ble_eq_true rfl) (t_X8_cellAt_9 z N v4 _ hz) ?_
    obtain ⟨hC, h⟩ := am_gd h
    refine am_R.go 10 (q' := (64, [some (.ref 51), d1, d2, some (.int v3), some (.int v4), some (.int (99 - (M44 56 (r44.toNatClampNeg))))], [.int 2, .int v4, .ref 9, .int (99 - (M44 56 (r44.toNatClampNeg))), .int v3], M44)) rfl ⟨hC, trivial⟩ ?_
    obtain ⟨r64, M64, hz, h⟩ := am_bi_s h
    refine am_R.call (e' := me_X8_at) (as := [.ref 9, .int v4, .int 2]) (rest := [.int (99 - (M44 56 (r44.toNatClampNeg))), .int v3]) rfl rfl (Nat.le_of_ble_eq_true rfl) (t_X8_at_9 z N v4 2 _ hz) ?_
    refine am_R.go 7 (q' := (14, [some (.ref 51), d1, d2, some (.int (if (((99 - (M44 56 (r44.toNatClampNeg))) + r64) - 1) < v3 then ((99 - (M44 56 (r44.toNatClampNeg))) + r64) - 1 else v3)), some (.int (v4 + 1)), some (.int (99 - (M44 56 (r44.toNatClampNeg))))], [], M64)) rfl trivial ?_
    exact hk14 (if (((99 - (M44 56 (r44.toNatClampNeg))) + r64) - 1) < v3 then ((99 - (M44 56 (r44.toNatClampNeg))) + r64) - 1 else v3) (v4 + 1) _ _ _ _ h
set_option maxRecDepth 100000 in
theorem t_X6_greatestHush_14 (z : Value) (N : Nat) {r : Except Nat (Option Value)} {M' : am_M} : ∀ (n : Nat) (v3 : Int32) (v4 : Int32) (d1 : Option Value) (d2 : Option Value) (d5 : Option Value) (M : am_M), f_X6_greatestHush_14 N n v3 v4 M = some (r, M') → cR z me_X6_greatestHush (14, [some (.ref 51), d1, d2, some (.int v3), some (.int v4), d5], [], M) r M' := by
  intro n
  induction n with
  | zero => intro v3 v4 d1 d2 d5 M h; cases h
  | succ n ih => intro v3 v4 d1 d2 d5 M h; exact t_X6_greatestHush_14B z N _ ih v3 v4 d1 d2 d5 M h
def f_X6_greatestHush (N : Nat) (p1 : Int32) (p2 : Int32) (M : am_M) : Option (Except Nat (Option Value) × am_M) :=
  am_bv (f_X6_shoutForPeaks N p1 p2 99 M) fun M5 =>
    f_X6_greatestHush_14 N N 99 0 M5
set_option maxRecDepth 100000 in
theorem t_X6_greatestHush (z : Value) (N : Nat) (p1 : Int32) (p2 : Int32) (M : am_M) {r : Except Nat (Option Value)} {M' : am_M} (h : f_X6_greatestHush N p1 p2 M = some (r, M')) : cR z me_X6_greatestHush (0, [some (.ref 51), some (.int p1), some (.int p2), none, none, none], [], M) r M' := by
  unfold f_X6_greatestHush at h
  refine am_R.go 4 (q' := (5, [some (.ref 51), some (.int p1), some (.int p2), none, none, none], [.int 99, .int p2, .int p1, .ref 51], M)) rfl trivial ?_
  obtain ⟨M5, hz, h⟩ := am_bv_s h
  refine am_R.call (e' := me_X6_shoutForPeaks) (as := [.ref 51, .int p1, .int p2, .int 99]) (rest := []) rfl rfl (Nat.le_of_ble_eq_true rfl) (t_X6_shoutForPeaks z N p1 p2 99 _ hz) ?_
  refine am_R.go 4 (q' := (14, [some (.ref 51), some (.int p1), some (.int p2), some (.int 99), some (.int 0), none], [], M5)) rfl trivial ?_
  exact t_X6_greatestHush_14 z N N 99 0 _ _ _ _ h
def f_X9_hush (N : Nat) (p1 : Int32) (p2 : Int32) (M : am_M) : Option (Except Nat (Option Value) × am_M) :=
  am_bvx (f_X9_needCell N p1 p2 M) fun M3 =>
    am_bi (f_X6_greatestHush N p1 p2 M3) fun r12 M12 =>
      some (.ok (some (.int r12)), M12)
set_option maxRecDepth 100000 in
theorem t_X9_hush (z : Value) (N : Nat) (p1 : Int32) (p2 : Int32) (M : am_M) {r : Except Nat (Option Value)} {M' : am_M} (h : f_X9_hush N p1 p2 M = some (r, M')) : cR z me_X9_hush (0, [some (.ref 0), some (.int p1), some (.int p2)], [], M) r M' := by
  unfold f_X9_hush at h
  refine am_R.go 3 (q' := (3, [some (.ref 0), some (.int p1), some (.int p2)], [.int p2, .int p1, .ref 0], M)) rfl trivial ?_
  rcases am_bvx_s h with ⟨M3, hz, h⟩ | ⟨x, M3, hz, h⟩
  · refine am_R.call (e' := me_X9_needCell) (as := [.ref 0, .int p1, .int p2]) (rest := []) rfl rfl (Nat.le_of_ble_eq_true rfl) (t_X9_needCell z N p1 p2 _ hz) ?_
    refine am_R.go 4 (q' := (12, [some (.ref 0), some (.int p1), some (.int p2)], [.int p2, .int p1, .ref 51], M3)) rfl trivial ?_
    obtain ⟨r12, M12, hz, h⟩ := am_bi_s h
    refine am_R.call (e' := me_X6_greatestHush) (as := [.ref 51, .int p1, .int p2]) (rest := []) rfl rfl (Nat.le_of_ble_eq_true rfl) (t_X6_greatestHush z N p1 p2 _ hz) ?_
    cases h
    exact am_R.ret rfl rfl trivial
  · cases h
    exact am_R.callx (e' := me_X9_needCell) (as := [.ref 0, .int p1, .int p2]) (rest := []) rfl rfl (Nat.le_of_ble_eq_true rfl) rfl (t_X9_needCell z N p1 p2 _ hz)
def f_X6_countStrong_4B (N : Nat) (v1 : Int32) (k4 : Int32 → Int32 → am_M → Option (Except Nat (Option Value) × am_M)) (v2 : Int32) (v3 : Int32) (M : am_M) : Option (Except Nat (Option Value) × am_M) :=
  if (M 51 0) ≤ v3 then
    some (.ok (some (.int v2)), M)
  else
    if am_in v3 24 then
      if (M 53 (v3.toNatClampNeg)) < v1 then
        k4 v2 (v3 + 1) M
      else
        k4 (v2 + 1) (v3 + 1) M
    else none
def f_X6_countStrong_4 (N : Nat) (v1 : Int32) : Nat → Int32 → Int32 → am_M → Option (Except Nat (Option Value) × am_M)
  | 0 => fun _ _ _ => none
  | n + 1 => f_X6_countStrong_4B N v1 (f_X6_countStrong_4 N v1 n)
set_option maxRecDepth 100000 in
theorem t_X6_countStrong_4B (z : Value) (N : Nat) (v1 : Int32) {r : Except Nat (Option Value)} {M' : am_M} (k4 : Int32 → Int32 → am_M → Option (Except Nat (Option Value) × am_M)) (hk4 : ∀ (v2 : Int32) (v3 : Int32) (M : am_M), k4 v2 v3 M = some (r, M') → cR z me_X6_countStrong (4, [some (.ref 51), some (.int v1), some (.int v2), some (.int v3)], [], M) r M') (v2 : Int32) (v3 : Int32) (M : am_M) (h : f_X6_countStrong_4B N v1 k4 v2 v3 M = some (r, M')) : cR z me_X6_countStrong (4, [some (.ref 51), some (.int v1), some (.int v2), some (.int v3)], [], M) r M' := by
  unfold f_X6_countStrong_4B at h
  refine am_R.go 3 (q' := (9, [some (.ref 51), some (.int v1), some (.int v2), some (.int v3)], [.int (M 51 0), .int v3], M)) rfl trivial ?_
  rcases am_it h with ⟨hc, h⟩ | ⟨hc, h⟩
  · refine am_R.bt rfl rfl hc ?_
    refine am_R.go 1 (q' := (32, [some (.ref 51), some (.int v1), some (.int v2), some (.int v3)], [.int v2], M)) rfl trivial ?_
    cases h
    exact am_R.ret rfl rfl trivial
  · refine am_R.bn rfl rfl hc ?_
    obtain ⟨hC, h⟩ := am_gd h
    refine am_R.go 5 (q' := (19, [some (.ref 51), some (.int v1), some (.int v2), some (.int v3)], [.int v1, .int (M 53 (v3.toNatClampNeg))], M)) rfl ⟨hC, trivial⟩ ?_
    rcases am_it h with ⟨hc, h⟩ | ⟨hc, h⟩
    · refine am_R.bt rfl rfl hc ?_
      refine am_R.go 2 (q' := (4, [some (.ref 51), some (.int v1), some (.int v2), some (.int (v3 + 1))], [], M)) rfl trivial ?_
      exact hk4 v2 (v3 + 1) _ h
    · refine am_R.bn rfl rfl hc ?_
      refine am_R.go 3 (q' := (4, [some (.ref 51), some (.int v1), some (.int (v2 + 1)), some (.int (v3 + 1))], [], M)) rfl trivial ?_
      exact hk4 (v2 + 1) (v3 + 1) _ h
set_option maxRecDepth 100000 in
theorem t_X6_countStrong_4 (z : Value) (N : Nat) (v1 : Int32) {r : Except Nat (Option Value)} {M' : am_M} : ∀ (n : Nat) (v2 : Int32) (v3 : Int32) (M : am_M), f_X6_countStrong_4 N v1 n v2 v3 M = some (r, M') → cR z me_X6_countStrong (4, [some (.ref 51), some (.int v1), some (.int v2), some (.int v3)], [], M) r M' := by
  intro n
  induction n with
  | zero => intro v2 v3 M h; cases h
  | succ n ih => intro v2 v3 M h; exact t_X6_countStrong_4B z N v1 _ ih v2 v3 M h
def f_X6_countStrong (N : Nat) (p1 : Int32) (M : am_M) : Option (Except Nat (Option Value) × am_M) :=
  f_X6_countStrong_4 N p1 N 0 0 M
set_option maxRecDepth 100000 in
theorem t_X6_countStrong (z : Value) (N : Nat) (p1 : Int32) (M : am_M) {r : Except Nat (Option Value)} {M' : am_M} (h : f_X6_countStrong N p1 M = some (r, M')) : cR z me_X6_countStrong (0, [some (.ref 51), some (.int p1), none, none], [], M) r M' := by
  unfold f_X6_countStrong at h
  refine am_R.go 4 (q' := (4, [some (.ref 51), some (.int p1), some (.int 0), some (.int 0)], [], M)) rfl trivial ?_
  exact t_X6_countStrong_4 z N p1 N 0 0 _ h
def f_X3_mostForDeaf_65B (N : Nat) (v1 : Int32) (v2 : Int32) (v3 : Int32) (v4 : Int32) (v6 : Int32) (k44 : Int32 → Int32 → am_M → Option (Except Nat (Option Value) × am_M)) (k65 : Int32 → Int32 → am_M → Option (Except Nat (Option Value) × am_M)) (v5 : Int32) (v7 : Int32) (M : am_M) : Option (Except Nat (Option Value) × am_M) :=
  if v3 < v7 then
    k44 v5 (v6 + 1) M
  else
    am_bv (f_X6_shout N v7 v6 (M 2 2) 0 M) fun M87 =>
      am_bi (f_X6_countStrong N v2 M87) fun r97 M97 =>
        k65 (if v5 < r97 then r97 else v5) (v7 + 1) M97
def f_X3_mostForDeaf_65 (N : Nat) (v1 : Int32) (v2 : Int32) (v3 : Int32) (v4 : Int32) (v6 : Int32) (k44 : Int32 → Int32 → am_M → Option (Except Nat (Option Value) × am_M)) : Nat → Int32 → Int32 → am_M → Option (Except Nat (Option Value) × am_M)
  | 0 => fun _ _ _ => none
  | n + 1 => f_X3_mostForDeaf_65B N v1 v2 v3 v4 v6 k44 (f_X3_mostForDeaf_65 N v1 v2 v3 v4 v6 k44 n)
set_option maxRecDepth 100000 in
theorem t_X3_mostForDeaf_65B (z : Value) (N : Nat) (v1 : Int32) (v2 : Int32) (v3 : Int32) (v4 : Int32) (v6 : Int32) (k44 : Int32 → Int32 → am_M → Option (Except Nat (Option Value) × am_M)) {r : Except Nat (Option Value)} {M' : am_M} (hk44 : ∀ (v5 : Int32) (v6 : Int32) (d7 : Option Value) (M : am_M), k44 v5 v6 M = some (r, M') → cR z me_X3_mostForDeaf (44, [some (.ref 57), some (.int v1), some (.int v2), some (.int v3), some (.int v4), some (.int v5), some (.int v6), d7], [], M) r M') (k65 : Int32 → Int32 → am_M → Option (Except Nat (Option Value) × am_M)) (hk65 : ∀ (v5 : Int32) (v7 : Int32) (M : am_M), k65 v5 v7 M = some (r, M') → cR z me_X3_mostForDeaf (65, [some (.ref 57), some (.int v1), some (.int v2), some (.int v3), some (.int v4), some (.int v5), some (.int v6), some (.int v7)], [], M) r M') (v5 : Int32) (v7 : Int32) (M : am_M) (h : f_X3_mostForDeaf_65B N v1 v2 v3 v4 v6 k44 k65 v5 v7 M = some (r, M')) : cR z me_X3_mostForDeaf (65, [some (.ref 57), some (.int v1), some (.int v2), some (.int v3), some (.int v4), some (.int v5), some (.int v6), some (.int v7)], [], M) r M' := by
  unfold f_X3_mostForDeaf_65B at h
  refine am_R.go 2 (q' := (68, [some (.ref 57), some (.int v1), some (.int v2), some (.int v3), some (.int v4), some (.int v5), some (.int v6), some (.int v7)], [.int v3, .int v7], M)) rfl trivial ?_
  rcases am_it h with ⟨hc, h⟩ | ⟨hc, h⟩
  · refine am_R.bt rfl rfl hc ?_
    refine am_R.go 2 (q' := (44, [some (.ref 57), some (.int v1), some (.int v2), some (.int v3), some (.int v4), some (.int v5), some (.int (v6 + 1)), some (.int v7)], [], M)) rfl trivial ?_
    exact hk44 v5 (v6 + 1) _ _ h
  · refine am_R.bn rfl rfl hc ?_
    refine am_R.go 8 (q' := (87, [some (.ref 57), some (.int v1), some (.int v2), some (.int v3), some (.int v4), some (.int v5), some (.int v6), some (.int v7)], [.int 0, .int (M 2 2), .int v6, .int v7, .ref 51], M)) rfl trivial ?_
    obtain ⟨M87, hz, h⟩ := am_bv_s h
    refine am_R.call (e' := me_X6_shout) (as := [.ref 51, .int v7, .int v6, .int (M 2 2), .int 0]) (rest := []) rfl rfl (Nat.le_of_ble_eq_true rfl) (t_X6_shout z N v7 v6 (M 2 2) 0 _ hz) ?_
    refine am_R.go 4 (q' := (97, [some (.ref 57), some (.int v1), some (.int v2), some (.int v3), some (.int v4), some (.int v5), some (.int v6), some (.int v7)], [.int v2, .ref 51, .int v5], M87)) rfl trivial ?_
    obtain ⟨r97, M97, hz, h⟩ := am_bi_s h
    refine am_R.call (e' := me_X6_countStrong) (as := [.ref 51, .int v2]) (rest := [.int v5]) rfl rfl (Nat.le_of_ble_eq_true rfl) (t_X6_countStrong z N v2 _ hz) ?_
    refine am_R.go 4 (q' := (65, [some (.ref 57), some (.int v1), some (.int v2), some (.int v3), some (.int v4), some (.int (if v5 < r97 then r97 else v5)), some (.int v6), some (.int (v7 + 1))], [], M97)) rfl trivial ?_
    exact hk65 (if v5 < r97 then r97 else v5) (v7 + 1) _ h
set_option maxRecDepth 100000 in
theorem t_X3_mostForDeaf_65 (z : Value) (N : Nat) (v1 : Int32) (v2 : Int32) (v3 : Int32) (v4 : Int32) (v6 : Int32) (k44 : Int32 → Int32 → am_M → Option (Except Nat (Option Value) × am_M)) {r : Except Nat (Option Value)} {M' : am_M} (hk44 : ∀ (v5 : Int32) (v6 : Int32) (d7 : Option Value) (M : am_M), k44 v5 v6 M = some (r, M') → cR z me_X3_mostForDeaf (44, [some (.ref 57), some (.int v1), some (.int v2), some (.int v3), some (.int v4), some (.int v5), some (.int v6), d7], [], M) r M') : ∀ (n : Nat) (v5 : Int32) (v7 : Int32) (M : am_M), f_X3_mostForDeaf_65 N v1 v2 v3 v4 v6 k44 n v5 v7 M = some (r, M') → cR z me_X3_mostForDeaf (65, [some (.ref 57), some (.int v1), some (.int v2), some (.int v3), some (.int v4), some (.int v5), some (.int v6), some (.int v7)], [], M) r M' := by
  intro n
  induction n with
  | zero => intro v5 v7 M h; cases h
  | succ n ih => intro v5 v7 M h; exact t_X3_mostForDeaf_65B z N v1 v2 v3 v4 v6 k44 hk44 _ ih v5 v7 M h
def f_X3_mostForDeaf_44B (N : Nat) (v1 : Int32) (v2 : Int32) (v3 : Int32) (v4 : Int32) (k44 : Int32 → Int32 → am_M → Option (Except Nat (Option Value) × am_M)) (v5 : Int32) (v6 : Int32) (M : am_M) : Option (Except Nat (Option Value) × am_M) :=
  if v4 < v6 then
    some (.ok (some (.int v5)), M)
  else
    am_bi (f_X8_at_3 N v1 0 M) fun r60 M60 =>
      f_X3_mostForDeaf_65 N v1 v2 v3 v4 v6 k44 N v5 r60 M60
def f_X3_mostForDeaf_44 (N : Nat) (v1 : Int32) (v2 : Int32) (v3 : Int32) (v4 : Int32) : Nat → Int32 → Int32 → am_M → Option (Except Nat (Option Value) × am_M)
  | 0 => fun _ _ _ => none
  | n + 1 => f_X3_mostForDeaf_44B N v1 v2 v3 v4 (f_X3_mostForDeaf_44 N v1 v2 v3 v4 n)
set_option maxRecDepth 100000 in
theorem t_X3_mostForDeaf_44B (z : Value) (N : Nat) (v1 : Int32) (v2 : Int32) (v3 : Int32) (v4 : Int32) {r : Except Nat (Option Value)} {M' : am_M} (k44 : Int32 → Int32 → am_M → Option (Except Nat (Option Value) × am_M)) (hk44 : ∀ (v5 : Int32) (v6 : Int32) (d7 : Option Value) (M : am_M), k44 v5 v6 M = some (r, M') → cR z me_X3_mostForDeaf (44, [some (.ref 57), some (.int v1), some (.int v2), some (.int v3), some (.int v4), some (.int v5), some (.int v6), d7], [], M) r M') (v5 : Int32) (v6 : Int32) (d7 : Option Value) (M : am_M) (h : f_X3_mostForDeaf_44B N v1 v2 v3 v4 k44 v5 v6 M = some (r, M')) : cR z me_X3_mostForDeaf (44, [some (.ref 57), some (.int v1), some (.int v2), some (.int v3), some (.int v4), some (.int v5), some (.int v6), d7], [], M) r M' := by
  unfold f_X3_mostForDeaf_44B at h
  refine am_R.go 2 (q' := (48, [some (.ref 57), some (.int v1), some (.int v2), some (.int v3), some (.int v4), some (.int v5), some (.int v6), d7], [.int v4, .int v6], M)) rfl trivial ?_
  rcases am_it h with ⟨hc, h⟩ | ⟨hc, h⟩
  · refine am_R.bt rfl rfl hc ?_
    refine am_R.go 1 (q' := (119, [some (.ref 57), some (.int v1), some (.int v2), some (.int v3), some (.int v4), some (.int v5), some (.int v6), d7], [.int v5], M)) rfl trivial ?_
    cases h
    exact am_R.ret rfl rfl trivial
  · refine am_R.bn rfl rfl hc ?_
    refine am_R.go 5 (q' := (60, [some (.ref 57), some (.int v1), some (.int v2), some (.int v3), some (.int v4), some (.int v5), some (.int v6), d7], [.int 0, .int v1, .ref 3], M)) rfl trivial ?_
    obtain ⟨r60, M60, hz, h⟩ := am_bi_s h
    refine am_R.call (e' := me_X8_at) (as := [.ref 3, .int v1, .int 0]) (rest := []) rfl rfl (Nat.le_of_ble_eq_true rfl) (t_X8_at_3 z N v1 0 _ hz) ?_
    refine am_R.go 1 (q' := (65, [some (.ref 57), some (.int v1), some (.int v2), some (.int v3), some (.int v4), some (.int v5), some (.int v6), some (.int r60)], [], M60)) rfl trivial ?_
    exact t_X3_mostForDeaf_65 z N v1 v2 v3 v4 v6 k44 hk44 N v5 r60 _ h
set_option maxRecDepth 100000 in
theorem t_X3_mostForDeaf_44 (z : Value) (N : Nat) (v1 : Int32) (v2 : Int32) (v3 : Int32) (v4 : Int32) {r : Except Nat (Option Value)} {M' : am_M} : ∀ (n : Nat) (v5 : Int32) (v6 : Int32) (d7 : Option Value) (M : am_M), f_X3_mostForDeaf_44 N v1 v2 v3 v4 n v5 v6 M = some (r, M') → cR z me_X3_mostForDeaf (44, [some (.ref 57), some (.int v1), some (.int v2), some (.int v3), some (.int v4), some (.int v5), some (.int v6), d7], [], M) r M' := by
  intro n
  induction n with
  | zero => intro v5 v6 d7 M h; cases h
  | succ n ih => intro v5 v6 d7 M h; exact t_X3_mostForDeaf_44B z N v1 v2 v3 v4 _ ih v5 v6 d7 M h
def f_X3_mostForDeaf (N : Nat) (p1 : Int32) (p2 : Int32) (M : am_M) : Option (Except Nat (Option Value) × am_M) :=
  am_bi (f_X8_at_3 N p1 2 M) fun r9 M9 =>
    am_bi (f_X8_at_3 N p1 3 M9) fun r22 M22 =>
      am_bi (f_X8_at_3 N p1 1 M22) fun r39 M39 =>
        f_X3_mostForDeaf_44 N p1 p2 r9 r22 N 0 r39 M39
set_option maxRecDepth 100000 in
theorem t_X3_mostForDeaf (z : Value) (N : Nat) (p1 : Int32) (p2 : Int32) (M : am_M) {r : Except Nat (Option Value)} {M' : am_M} (h : f_X3_mostForDeaf N p1 p2 M = some (r, M')) : cR z me_X3_mostForDeaf (0, [some (.ref 57), some (.int p1), some (.int p2), none, none, none, none, none], [], M) r M' := by
  unfold f_X3_mostForDeaf at h
  refine am_R.go 5 (q' := (9, [some (.ref 57), some (.int p1), some (.int p2), none, none, none, none, none], [.int 2, .int p1, .ref 3], M)) rfl trivial ?_
  obtain ⟨r9, M9, hz, h⟩ := am_bi_s h
  refine am_R.call (e' := me_X8_at) (as := [.ref 3, .int p1, .int 2]) (rest := []) rfl rfl (Nat.le_of_ble_eq_true rfl) (t_X8_at_3 z N p1 2 _ hz) ?_
  refine am_R.go 6 (q' := (22, [some (.ref 57), some (.int p1), some (.int p2), some (.int r9), none, none, none, none], [.int 3, .int p1, .ref 3], M9)) rfl trivial ?_
  obtain ⟨r22, M22, hz, h⟩ := am_bi_s h
  refine am_R.call (e' := me_X8_at) (as := [.ref 3, .int p1, .int 3]) (rest := []) rfl rfl (Nat.le_of_ble_eq_true rfl) (t_X8_at_3 z N p1 3 _ hz) ?_
  refine am_R.go 8 (q' := (39, [some (.ref 57), some (.int p1), some (.int p2), some (.int r9), some (.int r22), some (.int 0), none, none], [.int 1, .int p1, .ref 3], M22)) rfl trivial ?_
  obtain ⟨r39, M39, hz, h⟩ := am_bi_s h
  refine am_R.call (e' := me_X8_at) (as := [.ref 3, .int p1, .int 1]) (rest := []) rfl rfl (Nat.le_of_ble_eq_true rfl) (t_X8_at_3 z N p1 1 _ hz) ?_
  refine am_R.go 1 (q' := (44, [some (.ref 57), some (.int p1), some (.int p2), some (.int r9), some (.int r22), some (.int 0), some (.int r39), none], [], M39)) rfl trivial ?_
  exact t_X3_mostForDeaf_44 z N p1 p2 r9 r22 N 0 r39 _ _ h
def f_X9_deaf (N : Nat) (p1 : Int32) (p2 : Int32) (M : am_M) : Option (Except Nat (Option Value) × am_M) :=
  am_bvx (f_X9_needField N p1 M) fun M2 =>
    am_bvx (f_X9_needBetween N p2 1 99 M2) fun M10 =>
      am_bi (f_X3_mostForDeaf N p1 p2 M10) fun r19 M19 =>
        some (.ok (some (.int r19)), M19)
set_option maxRecDepth 100000 in
theorem t_X9_deaf (z : Value) (N : Nat) (p1 : Int32) (p2 : Int32) (M : am_M) {r : Except Nat (Option Value)} {M' : am_M} (h : f_X9_deaf N p1 p2 M = some (r, M')) : cR z me_X9_deaf (0, [some (.ref 0), some (.int p1), some (.int p2)], [], M) r M' := by
  unfold f_X9_deaf at h
  refine am_R.go 2 (q' := (2, [some (.ref 0), some (.int p1), some (.int p2)], [.int p1, .ref 0], M)) rfl trivial ?_
  rcases am_bvx_s h with ⟨M2, hz, h⟩ | ⟨x, M2, hz, h⟩
  · refine am_R.call (e' := me_X9_needField) (as := [.ref 0, .int p1]) (rest := []) rfl rfl (Nat.le_of_ble_eq_true rfl) (t_X9_needField z N p1 _ hz) ?_
    refine am_R.go 4 (q' := (10, [some (.ref 0), some (.int p1), some (.int p2)], [.int 99, .int 1, .int p2, .ref 0], M2)) rfl trivial ?_
    rcases am_bvx_s h with ⟨M10, hz, h⟩ | ⟨x, M10, hz, h⟩
    · refine am_R.call (e' := me_X9_needBetween) (as := [.ref 0, .int p2, .int 1, .int 99]) (rest := []) rfl rfl (Nat.le_of_ble_eq_true rfl) (t_X9_needBetween z N p2 1 99 _ hz) ?_
      refine am_R.go 4 (q' := (19, [some (.ref 0), some (.int p1), some (.int p2)], [.int p2, .int p1, .ref 57], M10)) rfl trivial ?_
      obtain ⟨r19, M19, hz, h⟩ := am_bi_s h
      refine am_R.call (e' := me_X3_mostForDeaf) (as := [.ref 57, .int p1, .int p2]) (rest := []) rfl rfl (Nat.le_of_ble_eq_true rfl) (t_X3_mostForDeaf z N p1 p2 _ hz) ?_
      cases h
      exact am_R.ret rfl rfl trivial
    · cases h
      exact am_R.callx (e' := me_X9_needBetween) (as := [.ref 0, .int p2, .int 1, .int 99]) (rest := []) rfl rfl (Nat.le_of_ble_eq_true rfl) rfl (t_X9_needBetween z N p2 1 99 _ hz)
  · cases h
    exact am_R.callx (e' := me_X9_needField) (as := [.ref 0, .int p1]) (rest := []) rfl rfl (Nat.le_of_ble_eq_true rfl) rfl (t_X9_needField z N p1 _ hz)
def f_X8_take_39_16 (N : Nat) (M : am_M) : Option (Except Nat (Option Value) × am_M) :=
  some (.ok none, am_up (am_upA M 40 (va_cpy (M 17) (M 40) (0 : Int32).toNatClampNeg (0 : Int32).toNatClampNeg (36 : Int32).toNatClampNeg)) 39 3 (M 16 3))
set_option maxRecDepth 100000 in
theorem t_X8_take_39_16 (z : Value) (N : Nat) (M : am_M) {r : Except Nat (Option Value)} {M' : am_M} (h : f_X8_take_39_16 N M = some (r, M')) : cR z me_X8_take (0, [some (.ref 39), some (.ref 16)], [], M) r M' := by
  unfold f_X8_take_39_16 at h
  refine am_R.go 18 (q' := (34, [some (.ref 39), some (.ref 16)], [], am_up (am_upA M 40 (va_cpy (M 17) (M 40) (0 : Int32).toNatClampNeg (0 : Int32).toNatClampNeg (36 : Int32).toNatClampNeg)) 39 3 (M 16 3))) rfl ⟨(by decide), trivial⟩ ?_
  cases h
  exact am_R.ret rfl rfl trivial
def f_X2_take_36_13 (N : Nat) (M : am_M) : Option (Except Nat (Option Value) × am_M) :=
  am_bv (f_X8_take_39_16 N (am_up (am_upA (am_upA M 37 (va_cpy (M 14) (M 37) (0 : Int32).toNatClampNeg (0 : Int32).toNatClampNeg (100 : Int32).toNatClampNeg)) 38 (va_cpy (M 15) (M 38) (0 : Int32).toNatClampNeg (0 : Int32).toNatClampNeg (100 : Int32).toNatClampNeg)) 36 2 (M 13 2))) fun M46 =>
    some (.ok none, M46)
set_option maxRecDepth 100000 in
theorem t_X2_take_36_13 (z : Value) (N : Nat) (M : am_M) {r : Except Nat (Option Value)} {M' : am_M} (h : f_X2_take_36_13 N M = some (r, M')) : cR z me_X2_take (0, [some (.ref 36), some (.ref 13)], [], M) r M' := by
  unfold f_X2_take_36_13 at h
  refine am_R.go 24 (q' := (46, [some (.ref 36), some (.ref 13)], [.ref 16, .ref 39], am_up (am_upA (am_upA M 37 (va_cpy (M 14) (M 37) (0 : Int32).toNatClampNeg (0 : Int32).toNatClampNeg (100 : Int32).toNatClampNeg)) 38 (va_cpy (M 15) (M 38) (0 : Int32).toNatClampNeg (0 : Int32).toNatClampNeg (100 : Int32).toNatClampNeg)) 36 2 (M 13 2))) rfl ⟨(by decide), (by decide), trivial⟩ ?_
  obtain ⟨M46, hz, h⟩ := am_bv_s h
  refine am_R.call (e' := me_X8_take) (as := [.ref 39, .ref 16]) (rest := []) rfl rfl (Nat.le_of_ble_eq_true rfl) (t_X8_take_39_16 z N _ hz) ?_
  cases h
  exact am_R.ret rfl rfl trivial
def f_X8_take_44_16 (N : Nat) (M : am_M) : Option (Except Nat (Option Value) × am_M) :=
  some (.ok none, am_up (am_upA M 45 (va_cpy (M 17) (M 45) (0 : Int32).toNatClampNeg (0 : Int32).toNatClampNeg (36 : Int32).toNatClampNeg)) 44 3 (M 16 3))
set_option maxRecDepth 100000 in
theorem t_X8_take_44_16 (z : Value) (N : Nat) (M : am_M) {r : Except Nat (Option Value)} {M' : am_M} (h : f_X8_take_44_16 N M = some (r, M')) : cR z me_X8_take (0, [some (.ref 44), some (.ref 16)], [], M) r M' := by
  unfold f_X8_take_44_16 at h
  refine am_R.go 18 (q' := (34, [some (.ref 44), some (.ref 16)], [], am_up (am_upA M 45 (va_cpy (M 17) (M 45) (0 : Int32).toNatClampNeg (0 : Int32).toNatClampNeg (36 : Int32).toNatClampNeg)) 44 3 (M 16 3))) rfl ⟨(by decide), trivial⟩ ?_
  cases h
  exact am_R.ret rfl rfl trivial
def f_X2_take_41_13 (N : Nat) (M : am_M) : Option (Except Nat (Option Value) × am_M) :=
  am_bv (f_X8_take_44_16 N (am_up (am_upA (am_upA M 42 (va_cpy (M 14) (M 42) (0 : Int32).toNatClampNeg (0 : Int32).toNatClampNeg (100 : Int32).toNatClampNeg)) 43 (va_cpy (M 15) (M 43) (0 : Int32).toNatClampNeg (0 : Int32).toNatClampNeg (100 : Int32).toNatClampNeg)) 41 2 (M 13 2))) fun M46 =>
    some (.ok none, M46)
set_option maxRecDepth 100000 in
theorem t_X2_take_41_13 (z : Value) (N : Nat) (M : am_M) {r : Except Nat (Option Value)} {M' : am_M} (h : f_X2_take_41_13 N M = some (r, M')) : cR z me_X2_take (0, [some (.ref 41), some (.ref 13)], [], M) r M' := by
  unfold f_X2_take_41_13 at h
  refine am_R.go 24 (q' := (46, [some (.ref 41), some (.ref 13)], [.ref 16, .ref 44], am_up (am_upA (am_upA M 42 (va_cpy (M 14) (M 42) (0 : Int32).toNatClampNeg (0 : Int32).toNatClampNeg (100 : Int32).toNatClampNeg)) 43 (va_cpy (M 15) (M 43) (0 : Int32).toNatClampNeg (0 : Int32).toNatClampNeg (100 : Int32).toNatClampNeg)) 41 2 (M 13 2))) rfl ⟨(by decide), (by decide), trivial⟩ ?_
  obtain ⟨M46, hz, h⟩ := am_bv_s h
  refine am_R.call (e' := me_X8_take) (as := [.ref 44, .ref 16]) (rest := []) rfl rfl (Nat.le_of_ble_eq_true rfl) (t_X8_take_44_16 z N _ hz) ?_
  cases h
  exact am_R.ret rfl rfl trivial
def f_X8_take_49_16 (N : Nat) (M : am_M) : Option (Except Nat (Option Value) × am_M) :=
  some (.ok none, am_up (am_upA M 50 (va_cpy (M 17) (M 50) (0 : Int32).toNatClampNeg (0 : Int32).toNatClampNeg (36 : Int32).toNatClampNeg)) 49 3 (M 16 3))
set_option maxRecDepth 100000 in
theorem t_X8_take_49_16 (z : Value) (N : Nat) (M : am_M) {r : Except Nat (Option Value)} {M' : am_M} (h : f_X8_take_49_16 N M = some (r, M')) : cR z me_X8_take (0, [some (.ref 49), some (.ref 16)], [], M) r M' := by
  unfold f_X8_take_49_16 at h
  refine am_R.go 18 (q' := (34, [some (.ref 49), some (.ref 16)], [], am_up (am_upA M 50 (va_cpy (M 17) (M 50) (0 : Int32).toNatClampNeg (0 : Int32).toNatClampNeg (36 : Int32).toNatClampNeg)) 49 3 (M 16 3))) rfl ⟨(by decide), trivial⟩ ?_
  cases h
  exact am_R.ret rfl rfl trivial
def f_X2_take_46_13 (N : Nat) (M : am_M) : Option (Except Nat (Option Value) × am_M) :=
  am_bv (f_X8_take_49_16 N (am_up (am_upA (am_upA M 47 (va_cpy (M 14) (M 47) (0 : Int32).toNatClampNeg (0 : Int32).toNatClampNeg (100 : Int32).toNatClampNeg)) 48 (va_cpy (M 15) (M 48) (0 : Int32).toNatClampNeg (0 : Int32).toNatClampNeg (100 : Int32).toNatClampNeg)) 46 2 (M 13 2))) fun M46 =>
    some (.ok none, M46)
set_option maxRecDepth 100000 in
theorem t_X2_take_46_13 (z : Value) (N : Nat) (M : am_M) {r : Except Nat (Option Value)} {M' : am_M} (h : f_X2_take_46_13 N M = some (r, M')) : cR z me_X2_take (0, [some (.ref 46), some (.ref 13)], [], M) r M' := by
  unfold f_X2_take_46_13 at h
  refine am_R.go 24 (q' := (46, [some (.ref 46), some (.ref 13)], [.ref 16, .ref 49], am_up (am_upA (am_upA M 47 (va_cpy (M 14) (M 47) (0 : Int32).toNatClampNeg (0 : Int32).toNatClampNeg (100 : Int32).toNatClampNeg)) 48 (va_cpy (M 15) (M 48) (0 : Int32).toNatClampNeg (0 : Int32).toNatClampNeg (100 : Int32).toNatClampNeg)) 46 2 (M 13 2))) rfl ⟨(by decide), (by decide), trivial⟩ ?_
  obtain ⟨M46, hz, h⟩ := am_bv_s h
  refine am_R.call (e' := me_X8_take) (as := [.ref 49, .ref 16]) (rest := []) rfl rfl (Nat.le_of_ble_eq_true rfl) (t_X8_take_49_16 z N _ hz) ?_
  cases h
  exact am_R.ret rfl rfl trivial
def f_X9_image (N : Nat) (M : am_M) : Option (Except Nat (Option Value) × am_M) :=
  if (M 0 10) < 3 then
    if (M 0 10) = 0 then
      am_bv (f_X2_take_36_13 N M) fun M23 =>
        some (.ok (some (.int ((M23 0 10) + 1))), am_up M23 0 10 ((M23 0 10) + 1))
    else
    if (M 0 10) = 1 then
      am_bv (f_X2_take_41_13 N M) fun M23 =>
        some (.ok (some (.int ((M23 0 10) + 1))), am_up M23 0 10 ((M23 0 10) + 1))
    else
    if (M 0 10) = 2 then
      am_bv (f_X2_take_46_13 N M) fun M23 =>
        some (.ok (some (.int ((M23 0 10) + 1))), am_up M23 0 10 ((M23 0 10) + 1))
    else
      none
  else
    some (.ok (some (.int (-1))), M)
set_option maxRecDepth 100000 in
theorem t_X9_image (z : Value) (N : Nat) (M : am_M) {r : Except Nat (Option Value)} {M' : am_M} (h : f_X9_image N M = some (r, M')) : cR z me_X9_image (0, [some (.ref 0)], [], M) r M' := by
  unfold f_X9_image at h
  refine am_R.go 3 (q' := (5, [some (.ref 0)], [.int 3, .int (M 0 10)], M)) rfl trivial ?_
  rcases am_it h with ⟨hc, h⟩ | ⟨hc, h⟩
  · refine am_R.bt rfl rfl hc ?_
    refine am_R.go 4 (q' := (18, [some (.ref 0)], [.int (M 0 10), .ref 35], M)) rfl trivial ?_
    rcases am_it h with ⟨hc, h⟩ | ⟨hc, h⟩
    · refine am_R.one (q' := (19, [some (.ref 0)], [.ref 36], M)) (c := some (am_in (M 0 10) 3)) rfl (by rw [hc]; exact List.mem_singleton.mpr rfl) (by rw [hc]; show am_in _ _; decide) ?_
      refine am_R.go 2 (q' := (23, [some (.ref 0)], [.ref 13, .ref 36], M)) rfl trivial ?_
      obtain ⟨M23, hz, h⟩ := am_bv_s h
      refine am_R.call (e' := me_X2_take) (as := [.ref 36, .ref 13]) (rest := []) rfl rfl (Nat.le_of_ble_eq_true rfl) (t_X2_take_36_13 z N _ hz) ?_
      refine am_R.go 8 (q' := (40, [some (.ref 0)], [.int ((M23 0 10) + 1)], am_up M23 0 10 ((M23 0 10) + 1))) rfl trivial ?_
      cases h
      exact am_R.ret rfl rfl trivial
    rcases am_it h with ⟨hc, h⟩ | ⟨hc, h⟩
    · refine am_R.one (q' := (19, [some (.ref 0)], [.ref 41], M)) (c := some (am_in (M 0 10) 3)) rfl (by rw [hc]; exact List.mem_singleton.mpr rfl) (by rw [hc]; show am_in _ _; decide) ?_
      refine am_R.go 2 (q' := (23, [some (.ref 0)], [.ref 13, .ref 41], M)) rfl trivial ?_
      obtain ⟨M23, hz, h⟩ := am_bv_s h
      refine am_R.call (e' := me_X2_take) (as := [.ref 41, .ref 13]) (rest := []) rfl rfl (Nat.le_of_ble_eq_true rfl) (t_X2_take_41_13 z N _ hz) ?_
      refine am_R.go 8 (q' := (40, [some (.ref 0)], [.int ((M23 0 10) + 1)], am_up M23 0 10 ((M23 0 10) + 1))) rfl trivial ?_
      cases h
      exact am_R.ret rfl rfl trivial
    rcases am_it h with ⟨hc, h⟩ | ⟨hc, h⟩
    · refine am_R.one (q' := (19, [some (.ref 0)], [.ref 46], M)) (c := some (am_in (M 0 10) 3)) rfl (by rw [hc]; exact List.mem_singleton.mpr rfl) (by rw [hc]; show am_in _ _; decide) ?_
      refine am_R.go 2 (q' := (23, [some (.ref 0)], [.ref 13, .ref 46], M)) rfl trivial ?_
      obtain ⟨M23, hz, h⟩ := am_bv_s h
      refine am_R.call (e' := me_X2_take) (as := [.ref 46, .ref 13]) (rest := []) rfl rfl (Nat.le_of_ble_eq_true rfl) (t_X2_take_46_13 z N _ hz) ?_
      refine am_R.go 8 (q' := (40, [some (.ref 0)], [.int ((M23 0 10) + 1)], am_up M23 0 10 ((M23 0 10) + 1))) rfl trivial ?_
      cases h
      exact am_R.ret rfl rfl trivial
    cases h
  · refine am_R.bn rfl rfl hc ?_
    refine am_R.go 1 (q' := (9, [some (.ref 0)], [.int (-1)], M)) rfl trivial ?_
    cases h
    exact am_R.ret rfl rfl trivial
def f_X8_take_16_39 (N : Nat) (M : am_M) : Option (Except Nat (Option Value) × am_M) :=
  some (.ok none, am_up (am_upA M 17 (va_cpy (M 40) (M 17) (0 : Int32).toNatClampNeg (0 : Int32).toNatClampNeg (36 : Int32).toNatClampNeg)) 16 3 (M 39 3))
set_option maxRecDepth 100000 in
theorem t_X8_take_16_39 (z : Value) (N : Nat) (M : am_M) {r : Except Nat (Option Value)} {M' : am_M} (h : f_X8_take_16_39 N M = some (r, M')) : cR z me_X8_take (0, [some (.ref 16), some (.ref 39)], [], M) r M' := by
  unfold f_X8_take_16_39 at h
  refine am_R.go 18 (q' := (34, [some (.ref 16), some (.ref 39)], [], am_up (am_upA M 17 (va_cpy (M 40) (M 17) (0 : Int32).toNatClampNeg (0 : Int32).toNatClampNeg (36 : Int32).toNatClampNeg)) 16 3 (M 39 3))) rfl ⟨(by decide), trivial⟩ ?_
  cases h
  exact am_R.ret rfl rfl trivial
def f_X2_take_13_36 (N : Nat) (M : am_M) : Option (Except Nat (Option Value) × am_M) :=
  am_bv (f_X8_take_16_39 N (am_up (am_upA (am_upA M 14 (va_cpy (M 37) (M 14) (0 : Int32).toNatClampNeg (0 : Int32).toNatClampNeg (100 : Int32).toNatClampNeg)) 15 (va_cpy (M 38) (M 15) (0 : Int32).toNatClampNeg (0 : Int32).toNatClampNeg (100 : Int32).toNatClampNeg)) 13 2 (M 36 2))) fun M46 =>
    some (.ok none, M46)
set_option maxRecDepth 100000 in
theorem t_X2_take_13_36 (z : Value) (N : Nat) (M : am_M) {r : Except Nat (Option Value)} {M' : am_M} (h : f_X2_take_13_36 N M = some (r, M')) : cR z me_X2_take (0, [some (.ref 13), some (.ref 36)], [], M) r M' := by
  unfold f_X2_take_13_36 at h
  refine am_R.go 24 (q' := (46, [some (.ref 13), some (.ref 36)], [.ref 39, .ref 16], am_up (am_upA (am_upA M 14 (va_cpy (M 37) (M 14) (0 : Int32).toNatClampNeg (0 : Int32).toNatClampNeg (100 : Int32).toNatClampNeg)) 15 (va_cpy (M 38) (M 15) (0 : Int32).toNatClampNeg (0 : Int32).toNatClampNeg (100 : Int32).toNatClampNeg)) 13 2 (M 36 2))) rfl ⟨(by decide), (by decide), trivial⟩ ?_
  obtain ⟨M46, hz, h⟩ := am_bv_s h
  refine am_R.call (e' := me_X8_take) (as := [.ref 16, .ref 39]) (rest := []) rfl rfl (Nat.le_of_ble_eq_true rfl) (t_X8_take_16_39 z N _ hz) ?_
  cases h
  exact am_R.ret rfl rfl trivial
def f_X8_take_16_44 (N : Nat) (M : am_M) : Option (Except Nat (Option Value) × am_M) :=
  some (.ok none, am_up (am_upA M 17 (va_cpy (M 45) (M 17) (0 : Int32).toNatClampNeg (0 : Int32).toNatClampNeg (36 : Int32).toNatClampNeg)) 16 3 (M 44 3))
set_option maxRecDepth 100000 in
theorem t_X8_take_16_44 (z : Value) (N : Nat) (M : am_M) {r : Except Nat (Option Value)} {M' : am_M} (h : f_X8_take_16_44 N M = some (r, M')) : cR z me_X8_take (0, [some (.ref 16), some (.ref 44)], [], M) r M' := by
  unfold f_X8_take_16_44 at h
  refine am_R.go 18 (q' := (34, [some (.ref 16), some (.ref 44)], [], am_up (am_upA M 17 (va_cpy (M 45) (M 17) (0 : Int32).toNatClampNeg (0 : Int32).toNatClampNeg (36 : Int32).toNatClampNeg)) 16 3 (M 44 3))) rfl ⟨(by decide), trivial⟩ ?_
  cases h
  exact am_R.ret rfl rfl trivial
def f_X2_take_13_41 (N : Nat) (M : am_M) : Option (Except Nat (Option Value) × am_M) :=
  am_bv (f_X8_take_16_44 N (am_up (am_upA (am_upA M 14 (va_cpy (M 42) (M 14) (0 : Int32).toNatClampNeg (0 : Int32).toNatClampNeg (100 : Int32).toNatClampNeg)) 15 (va_cpy (M 43) (M 15) (0 : Int32).toNatClampNeg (0 : Int32).toNatClampNeg (100 : Int32).toNatClampNeg)) 13 2 (M 41 2))) fun M46 =>
    some (.ok none, M46)
set_option maxRecDepth 100000 in
theorem t_X2_take_13_41 (z : Value) (N : Nat) (M : am_M) {r : Except Nat (Option Value)} {M' : am_M} (h : f_X2_take_13_41 N M = some (r, M')) : cR z me_X2_take (0, [some (.ref 13), some (.ref 41)], [], M) r M' := by
  unfold f_X2_take_13_41 at h
  refine am_R.go 24 (q' := (46, [some (.ref 13), some (.ref 41)], [.ref 44, .ref 16], am_up (am_upA (am_upA M 14 (va_cpy (M 42) (M 14) (0 : Int32).toNatClampNeg (0 : Int32).toNatClampNeg (100 : Int32).toNatClampNeg)) 15 (va_cpy (M 43) (M 15) (0 : Int32).toNatClampNeg (0 : Int32).toNatClampNeg (100 : Int32).toNatClampNeg)) 13 2 (M 41 2))) rfl ⟨(by decide), (by decide), trivial⟩ ?_
  obtain ⟨M46, hz, h⟩ := am_bv_s h
  refine am_R.call (e' := me_X8_take) (as := [.ref 16, .ref 44]) (rest := []) rfl rfl (Nat.le_of_ble_eq_true rfl) (t_X8_take_16_44 z N _ hz) ?_
  cases h
  exact am_R.ret rfl rfl trivial
def f_X8_take_16_49 (N : Nat) (M : am_M) : Option (Except Nat (Option Value) × am_M) :=
  some (.ok none, am_up (am_upA M 17 (va_cpy (M 50) (M 17) (0 : Int32).toNatClampNeg (0 : Int32).toNatClampNeg (36 : Int32).toNatClampNeg)) 16 3 (M 49 3))
set_option maxRecDepth 100000 in
theorem t_X8_take_16_49 (z : Value) (N : Nat) (M : am_M) {r : Except Nat (Option Value)} {M' : am_M} (h : f_X8_take_16_49 N M = some (r, M')) : cR z me_X8_take (0, [some (.ref 16), some (.ref 49)], [], M) r M' := by
  unfold f_X8_take_16_49 at h
  refine am_R.go 18 (q' := (34, [some (.ref 16), some (.ref 49)], [], am_up (am_upA M 17 (va_cpy (M 50) (M 17) (0 : Int32).toNatClampNeg (0 : Int32).toNatClampNeg (36 : Int32).toNatClampNeg)) 16 3 (M 49 3))) rfl ⟨(by decide), trivial⟩ ?_
  cases h
  exact am_R.ret rfl rfl trivial
def f_X2_take_13_46 (N : Nat) (M : am_M) : Option (Except Nat (Option Value) × am_M) :=
  am_bv (f_X8_take_16_49 N (am_up (am_upA (am_upA M 14 (va_cpy (M 47) (M 14) (0 : Int32).toNatClampNeg (0 : Int32).toNatClampNeg (100 : Int32).toNatClampNeg)) 15 (va_cpy (M 48) (M 15) (0 : Int32).toNatClampNeg (0 : Int32).toNatClampNeg (100 : Int32).toNatClampNeg)) 13 2 (M 46 2))) fun M46 =>
    some (.ok none, M46)
set_option maxRecDepth 100000 in
theorem t_X2_take_13_46 (z : Value) (N : Nat) (M : am_M) {r : Except Nat (Option Value)} {M' : am_M} (h : f_X2_take_13_46 N M = some (r, M')) : cR z me_X2_take (0, [some (.ref 13), some (.ref 46)], [], M) r M' := by
  unfold f_X2_take_13_46 at h
  refine am_R.go 24 (q' := (46, [some (.ref 13), some (.ref 46)], [.ref 49, .ref 16], am_up (am_upA (am_upA M 14 (va_cpy (M 47) (M 14) (0 : Int32).toNatClampNeg (0 : Int32).toNatClampNeg (100 : Int32).toNatClampNeg)) 15 (va_cpy (M 48) (M 15) (0 : Int32).toNatClampNeg (0 : Int32).toNatClampNeg (100 : Int32).toNatClampNeg)) 13 2 (M 46 2))) rfl ⟨(by decide), (by decide), trivial⟩ ?_
  obtain ⟨M46, hz, h⟩ := am_bv_s h
  refine am_R.call (e' := me_X8_take) (as := [.ref 16, .ref 49]) (rest := []) rfl rfl (Nat.le_of_ble_eq_true rfl) (t_X8_take_16_49 z N _ hz) ?_
  cases h
  exact am_R.ret rfl rfl trivial
def f_X9_restore (N : Nat) (M : am_M) : Option (Except Nat (Option Value) × am_M) :=
  if 0 < (M 0 10) then
    if ((M 0 10) - 1) = 0 then
      am_bv (f_X2_take_13_36 N (am_up M 0 10 ((M 0 10) - 1))) fun M32 =>
        some (.ok (some (.int (M32 0 10))), M32)
    else
    if ((M 0 10) - 1) = 1 then
      am_bv (f_X2_take_13_41 N (am_up M 0 10 ((M 0 10) - 1))) fun M32 =>
        some (.ok (some (.int (M32 0 10))), M32)
    else
    if ((M 0 10) - 1) = 2 then
      am_bv (f_X2_take_13_46 N (am_up M 0 10 ((M 0 10) - 1))) fun M32 =>
        some (.ok (some (.int (M32 0 10))), M32)
    else
      none
  else
    some (.ok (some (.int (-1))), M)
set_option maxRecDepth 100000 in
theorem t_X9_restore (z : Value) (N : Nat) (M : am_M) {r : Except Nat (Option Value)} {M' : am_M} (h : f_X9_restore N M = some (r, M')) : cR z me_X9_restore (0, [some (.ref 0)], [], M) r M' := by
  unfold f_X9_restore at h
  refine am_R.go 2 (q' := (4, [some (.ref 0)], [.int (M 0 10)], M)) rfl trivial ?_
  rcases am_it h with ⟨hc, h⟩ | ⟨hc, h⟩
  · refine am_R.ct rfl rfl hc ?_
    refine am_R.go 12 (q' := (31, [some (.ref 0)], [.int ((M 0 10) - 1), .ref 35, .ref 13], am_up M 0 10 ((M 0 10) - 1))) rfl trivial ?_
    rcases am_it h with ⟨hc, h⟩ | ⟨hc, h⟩
    · refine am_R.one (q' := (32, [some (.ref 0)], [.ref 36, .ref 13], am_up M 0 10 ((M 0 10) - 1))) (c := some (am_in ((M 0 10) - 1) 3)) rfl (by rw [hc]; exact List.mem_singleton.mpr rfl) (by rw [hc]; show am_in _ _; decide) ?_
      obtain ⟨M32, hz, h⟩ := am_bv_s h
      refine am_R.call (e' := me_X2_take) (as := [.ref 13, .ref 36]) (rest := []) rfl rfl (Nat.le_of_ble_eq_true rfl) (t_X2_take_13_36 z N _ hz) ?_
      refine am_R.go 2 (q' := (39, [some (.ref 0)], [.int (M32 0 10)], M32)) rfl trivial ?_
      cases h
      exact am_R.ret rfl rfl trivial
    rcases am_it h with ⟨hc, h⟩ | ⟨hc, h⟩
    · refine am_R.one (q' := (32, [some (.ref 0)], [.ref 41, .ref 13], am_up M 0 10 ((M 0 10) - 1))) (c := some (am_in ((M 0 10) - 1) 3)) rfl (by rw [hc]; exact List.mem_singleton.mpr rfl) (by rw [hc]; show am_in _ _; decide) ?_
      obtain ⟨M32, hz, h⟩ := am_bv_s h
      refine am_R.call (e' := me_X2_take) (as := [.ref 13, .ref 41]) (rest := []) rfl rfl (Nat.le_of_ble_eq_true rfl) (t_X2_take_13_41 z N _ hz) ?_
      refine am_R.go 2 (q' := (39, [some (.ref 0)], [.int (M32 0 10)], M32)) rfl trivial ?_
      cases h
      exact am_R.ret rfl rfl trivial
    rcases am_it h with ⟨hc, h⟩ | ⟨hc, h⟩
    · refine am_R.one (q' := (32, [some (.ref 0)], [.ref 46, .ref 13], am_up M 0 10 ((M 0 10) - 1))) (c := some (am_in ((M 0 10) - 1) 3)) rfl (by rw [hc]; exact List.mem_singleton.mpr rfl) (by rw [hc]; show am_in _ _; decide) ?_
      obtain ⟨M32, hz, h⟩ := am_bv_s h
      refine am_R.call (e' := me_X2_take) (as := [.ref 13, .ref 46]) (rest := []) rfl rfl (Nat.le_of_ble_eq_true rfl) (t_X2_take_13_46 z N _ hz) ?_
      refine am_R.go 2 (q' := (39, [some (.ref 0)], [.int (M32 0 10)], M32)) rfl trivial ?_
      cases h
      exact am_R.ret rfl rfl trivial
    cases h
  · refine am_R.cn rfl rfl hc ?_
    refine am_R.go 1 (q' := (8, [some (.ref 0)], [.int (-1)], M)) rfl trivial ?_
    cases h
    exact am_R.ret rfl rfl trivial
