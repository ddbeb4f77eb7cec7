def f_X10_findField_142 (N : Nat) (k31 : Int32 → am_M → Option (Except Nat (Option Value) × am_M)) (k54 : Int32 → am_M → Option (Except Nat (Option Value) × am_M)) (v2 : Int32) (v3 : Int32) (v4 : Int32) (v5 : Int32) (v6 : Int32) (v7 : Int32) (v8 : Int32) (M : am_M) : Option (Except Nat (Option Value) × am_M) :=
  k54 (v7 + 1) (am_up (am_up M 0 50 ((10 * v6) + v7)) 0 51 v8)
set_option maxRecDepth 100000 in
theorem t_X10_findField_142 (z : Value) (N : Nat) (k31 : Int32 → am_M → Option (Except Nat (Option Value) × am_M)) (k54 : Int32 → am_M → Option (Except Nat (Option Value) × am_M)) {r : Except Nat (Option Value)} {M' : am_M} (v2 : Int32) (v3 : Int32) (v4 : Int32) (v5 : Int32) (v6 : Int32) (v7 : Int32) (v8 : Int32) (d1 : Option Value) (M : am_M) (hk31 : ∀ (v6 : Int32) (d1 : Option Value) (d7 : Option Value) (d8 : Option Value) (M : am_M), k31 v6 M = some (r, M') → mR z me_X10_findField (31, [some (.ref 0), d1, some (.int v2), some (.int v3), some (.int v4), some (.int v5), some (.int v6), d7, d8], [], M) r M') (hk54 : ∀ (v7 : Int32) (d1 : Option Value) (d8 : Option Value) (M : am_M), k54 v7 M = some (r, M') → mR z me_X10_findField (54, [some (.ref 0), d1, some (.int v2), some (.int v3), some (.int v4), some (.int v5), some (.int v6), some (.int v7), d8], [], M) r M') (h : f_X10_findField_142 N k31 k54 v2 v3 v4 v5 v6 v7 v8 M = some (r, M')) : mR z me_X10_findField (142, [some (.ref 0), d1, some (.int v2), some (.int v3), some (.int v4), some (.int v5), some (.int v6), some (.int v7), some (.int v8)], [], M) r M' := by
  unfold f_X10_findField_142 at h
  refine am_R.go 12 (q' := (54, [some (.ref 0), d1, some (.int v2), some (.int v3), some (.int v4), some (.int v5), some (.int v6), some (.int (v7 + 1)), some (.int v8)], [], am_up (am_up M 0 50 ((10 * v6) + v7)) 0 51 v8)) rfl trivial ?_
  exact hk54 (v7 + 1) _ _ _ h
def f_X10_findField_54B (N : Nat) (v2 : Int32) (v3 : Int32) (v4 : Int32) (v5 : Int32) (v6 : Int32) (k31 : Int32 → am_M → Option (Except Nat (Option Value) × am_M)) (k54 : Int32 → am_M → Option (Except Nat (Option Value) × am_M)) (v7 : Int32) (M : am_M) : Option (Except Nat (Option Value) × am_M) :=
  if am_in (v5 + 2) 25 then
    if (M 13 ((v5 + 2).toNatClampNeg)) < v7 then
      k31 (v6 + 1) M
    else
      am_bi (f_X10_countOf N ((10 * v6) + v7) v2 v3 M) fun r79 M79 =>
        if (M79 0 50) = (-1) then
          f_X10_findField_142 N k31 k54 v2 v3 v4 v5 v6 v7 r79 (am_up (am_up M79 0 52 ((M79 0 52) + r79)) 0 53 ((M79 0 53) + 1))
        else
          if v4 = 0 then
            if (M79 0 51) < r79 then
              f_X10_findField_142 N k31 k54 v2 v3 v4 v5 v6 v7 r79 (am_up (am_up M79 0 52 ((M79 0 52) + r79)) 0 53 ((M79 0 53) + 1))
            else
              k54 (v7 + 1) (am_up (am_up M79 0 52 ((M79 0 52) + r79)) 0 53 ((M79 0 53) + 1))
          else
            if r79 < (M79 0 51) then
              f_X10_findField_142 N k31 k54 v2 v3 v4 v5 v6 v7 r79 (am_up (am_up M79 0 52 ((M79 0 52) + r79)) 0 53 ((M79 0 53) + 1))
            else
              k54 (v7 + 1) (am_up (am_up M79 0 52 ((M79 0 52) + r79)) 0 53 ((M79 0 53) + 1))
  else none
def f_X10_findField_54 (N : Nat) (v2 : Int32) (v3 : Int32) (v4 : Int32) (v5 : Int32) (v6 : Int32) (k31 : Int32 → am_M → Option (Except Nat (Option Value) × am_M)) : Nat → Int32 → am_M → Option (Except Nat (Option Value) × am_M)
  | 0 => fun _ _ => none
  | n + 1 => f_X10_findField_54B N v2 v3 v4 v5 v6 k31 (f_X10_findField_54 N v2 v3 v4 v5 v6 k31 n)
set_option maxRecDepth 100000 in
theorem t_X10_findField_54B (z : Value) (N : Nat) (v2 : Int32) (v3 : Int32) (v4 : Int32) (v5 : Int32) (v6 : Int32) (k31 : Int32 → am_M → Option (Except Nat (Option Value) × am_M)) {r : Except Nat (Option Value)} {M' : am_M} (hk31 : ∀ (v6 : Int32) (d1 : Option Value) (d7 : Option Value) (d8 : Option Value) (M : am_M), k31 v6 M = some (r, M') → mR z me_X10_findField (31, [some (.ref 0), d1, some (.int v2), some (.int v3), some (.int v4), some (.int v5), some (.int v6), d7, d8], [], M) r M') (k54 : Int32 → am_M → Option (Except Nat (Option Value) × am_M)) (hk54 : ∀ (v7 : Int32) (d1 : Option Value) (d8 : Option Value) (M : am_M), k54 v7 M = some (r, M') → mR z me_X10_findField (54, [some (.ref 0), d1, some (.int v2), some (.int v3), some (.int v4), some (.int v5), some (.int v6), some (.int v7), d8], [], M) r M') (v7 : Int32) (d1 : Option Value) (d8 : Option Value) (M : am_M) (h : f_X10_findField_54B N v2 v3 v4 v5 v6 k31 k54 v7 M = some (r, M')) : mR z me_X10_findField (54, [some (.ref 0), d1, some (.int v2), some (.int v3), some (.int v4), some (.int v5), some (.int v6), some (.int v7), d8], [], M) r M' := by
  unfold f_X10_findField_54B at h
  obtain ⟨hC, h⟩ := am_gd h
  refine am_R.go 7 (q' := (65, [some (.ref 0), d1, some (.int v2), some (.int v3), some (.int v4), some (.int v5), some (.int v6), some (.int v7), d8], [.int (M 13 ((v5 + 2).toNatClampNeg)), .int v7], M)) rfl ⟨hC, trivial⟩ ?_
  rcases am_it h with ⟨hc, h⟩ | ⟨hc, h⟩
  · refine am_R.bt rfl rfl hc ?_
    refine am_R.go 2 (q' := (31, [some (.ref 0), d1, some (.int v2), some (.int v3), some (.int v4), some (.int v5), some (.int (v6 + 1)), some (.int v7), d8], [], M)) rfl trivial ?_
    exact hk31 (v6 + 1) _ _ _ _ h
  · refine am_R.bn rfl rfl hc ?_
    refine am_R.go 8 (q' := (79, [some (.ref 0), d1, some (.int v2), some (.int v3), some (.int v4), some (.int v5), some (.int v6), some (.int v7), d8], [.int v3, .int v2, .int ((10 * v6) + v7), .ref 0], M)) rfl trivial ?_
    obtain ⟨r79, M79, hz, h⟩ := am_bi_s h
    refine am_R.call (e' := me_X10_countOf) (as := [.ref 0, .int ((10 * v6) + v7), .int v2, .int v3]) (rest := []) rfl rfl (Nat.le_of_ble_eq_true rfl) (t_X10_countOf z N ((10 * v6) + v7) v2 v3 _ hz) ?_
    refine am_R.go 16 (q' := (110, [some (.ref 0), d1, some (.int v2), some (.int v3), some (.int v4), some (.int v5), some (.int v6), some (.int v7), some (.int r79)], [.int (-1), .int (M79 0 50)], am_up (am_up M79 0 52 ((M79 0 52) + r79)) 0 53 ((M79 0 53) + 1))) rfl trivial ?_
    rcases am_it h with ⟨hc, h⟩ | ⟨hc, h⟩
    · refine am_R.bt rfl rfl hc ?_
      exact t_X10_findField_142 z N k31 k54 v2 v3 v4 v5 v6 v7 r79 _ _ hk31 hk54 h
    · refine am_R.bn rfl rfl hc ?_
      refine am_R.go 1 (q' := (115, [some (.ref 0), d1, some (.int v2), some (.int v3), some (.int v4), some (.int v5), some (.int v6), some (.int v7), some (.int r79)], [.int v4], am_up (am_up M79 0 52 ((M79 0 52) + r79)) 0 53 ((M79 0 53) + 1))) rfl trivial ?_
      rcases am_it h with ⟨hc, h⟩ | ⟨hc, h⟩
      · refine am_R.ct rfl rfl hc ?_
        refine am_R.go 3 (q' := (136, [some (.ref 0), d1, some (.int v2), some (.int v3), some (.int v4), some (.int v5), some (.int v6), some (.int v7), some (.int r79)], [.int (M79 0 51), .int r79], am_up (am_up M79 0 52 ((M79 0 52) + r79)) 0 53 ((M79 0 53) + 1))) rfl trivial ?_
        rcases am_it h with ⟨hc, h⟩ | ⟨hc, h⟩
        · refine am_R.bt rfl rfl hc ?_
          exact t_X10_findField_142 z N k31 k54 v2 v3 v4 v5 v6 v7 r79 _ _ hk31 hk54 h
        · refine am_R.bn rfl rfl hc ?_
          refine am_R.go 3 (q' := (54, [some (.ref 0), d1, some (.int v2), some (.int v3), some (.int v4), some (.int v5), some (.int v6), some (.int (v7 + 1)), some (.int r79)], [], am_up (am_up M79 0 52 ((M79 0 52) + r79)) 0 53 ((M79 0 53) + 1))) rfl trivial ?_
          exact hk54 (v7 + 1) _ _ _ h
      · refine am_R.cn rfl rfl hc ?_
        refine am_R.go 3 (q' := (124, [some (.ref 0), d1, some (.int v2), some (.int v3), some (.int v4), some (.int v5), some (.int v6), some (.int v7), some (.int r79)], [.int (M79 0 51), .int r79], am_up (am_up M79 0 52 ((M79 0 52) + r79)) 0 53 ((M79 0 53) + 1))) rfl trivial ?_
        rcases am_it h with ⟨hc, h⟩ | ⟨hc, h⟩
        · refine am_R.bt rfl rfl hc ?_
          exact t_X10_findField_142 z N k31 k54 v2 v3 v4 v5 v6 v7 r79 _ _ hk31 hk54 h
        · refine am_R.bn rfl rfl hc ?_
          refine am_R.go 3 (q' := (54, [some (.ref 0), d1, some (.int v2), some (.int v3), some (.int v4), some (.int v5), some (.int v6), some (.int (v7 + 1)), some (.int r79)], [], am_up (am_up M79 0 52 ((M79 0 52) + r79)) 0 53 ((M79 0 53) + 1))) rfl trivial ?_
          exact hk54 (v7 + 1) _ _ _ h
set_option maxRecDepth 100000 in
theorem t_X10_findField_54 (z : Value) (N : Nat) (v2 : Int32) (v3 : Int32) (v4 : Int32) (v5 : Int32) (v6 : Int32) (k31 : Int32 → am_M → Option (Except Nat (Option Value) × am_M)) {r : Except Nat (Option Value)} {M' : am_M} (hk31 : ∀ (v6 : Int32) (d1 : Option Value) (d7 : Option Value) (d8 : Option Value) (M : am_M), k31 v6 M = some (r, M') → mR z me_X10_findField (31, [some (.ref 0), d1, some (.int v2), some (.int v3), some (.int v4), some (.int v5), some (.int v6), d7, d8], [], M) r M') : ∀ (n : Nat) (v7 : Int32) (d1 : Option Value) (d8 : Option Value) (M : am_M), f_X10_findField_54 N v2 v3 v4 v5 v6 k31 n v7 M = some (r, M') → mR z me_X10_findField (54, [some (.ref 0), d1, some (.int v2), some (.int v3), some (.int v4), some (.int v5), some (.int v6), some (.int v7), d8], [], M) r M' := by
  intro n
  induction n with
  | zero => intro v7 d1 d8 M h; cases h
  | succ n ih => intro v7 d1 d8 M h; exact t_X10_findField_54B z N v2 v3 v4 v5 v6 k31 hk31 _ ih v7 d1 d8 M h
def f_X10_findField_31B (N : Nat) (v2 : Int32) (v3 : Int32) (v4 : Int32) (v5 : Int32) (k31 : Int32 → am_M → Option (Except Nat (Option Value) × am_M)) (v6 : Int32) (M : am_M) : Option (Except Nat (Option Value) × am_M) :=
  if am_in (v5 + 3) 25 then
    if (M 13 ((v5 + 3).toNatClampNeg)) < v6 then
      some (.ok none, M)
    else
      if am_in v5 25 then
        f_X10_findField_54 N v2 v3 v4 v5 v6 k31 N (M 13 (v5.toNatClampNeg)) M
      else none
  else none
def f_X10_findField_31 (N : Nat) (v2 : Int32) (v3 : Int32) (v4 : Int32) (v5 : Int32) : Nat → Int32 → am_M → Option (Except Nat (Option Value) × am_M)
  | 0 => fun _ _ => none
  | n + 1 => f_X10_findField_31B N v2 v3 v4 v5 (f_X10_findField_31 N v2 v3 v4 v5 n)
set_option maxRecDepth 100000 in
theorem t_X10_findField_31B (z : Value) (N : Nat) (v2 : Int32) (v3 : Int32) (v4 : Int32) (v5 : Int32) {r : Except Nat (Option Value)} {M' : am_M} (k31 : Int32 → am_M → Option (Except Nat (Option Value) × am_M)) (hk31 : ∀ (v6 : Int32) (d1 : Option Value) (d7 : Option Value) (d8 : Option Value) (M : am_M), k31 v6 M = some (r, M') → mR z me_X10_findField (31, [some (.ref 0), d1, some (.int v2), some (.int v3), some (.int v4), some (.int v5), some (.int v6), d7, d8], [], M) r M') (v6 : Int32) (d1 : Option Value) (d7 : Option Value) (d8 : Option Value) (M : am_M) (h : f_X10_findField_31B N v2 v3 v4 v5 k31 v6 M = some (r, M')) : mR z me_X10_findField (31, [some (.ref 0), d1, some (.int v2), some (.int v3), some (.int v4), some (.int v5), some (.int v6), d7, d8], [], M) r M' := by
  unfold f_X10_findField_31B at h
  obtain ⟨hC, h⟩ := am_gd h
  refine am_R.go 7 (q' := (42, [some (.ref 0), d1, some (.int v2), some (.int v3), some (.int v4), some (.int v5), some (.int v6), d7, d8], [.int (M 13 ((v5 + 3).toNatClampNeg)), .int v6], M)) rfl ⟨hC, trivial⟩ ?_
  rcases am_it h with ⟨hc, h⟩ | ⟨hc, h⟩
  · refine am_R.bt rfl rfl hc ?_
    cases h
    exact am_R.ret rfl rfl trivial
  · refine am_R.bn rfl rfl hc ?_
    obtain ⟨hC, h⟩ := am_gd h
    refine am_R.go 5 (q' := (54, [some (.ref 0), d1, some (.int v2), some (.int v3), some (.int v4), some (.int v5), some (.int v6), some (.int (M 13 (v5.toNatClampNeg))), d8], [], M)) rfl ⟨hC, trivial⟩ ?_
    exact t_X10_findField_54 z N v2 v3 v4 v5 v6 k31 hk31 N (M 13 (v5.toNatClampNeg)) _ _ _ h
set_option maxRecDepth 100000 in
theorem t_X10_findField_31 (z : Value) (N : Nat) (v2 : Int32) (v3 : Int32) (v4 : Int32) (v5 : Int32) {r : Except Nat (Option Value)} {M' : am_M} : ∀ (n : Nat) (v6 : Int32) (d1 : Option Value) (d7 : Option Value) (d8 : Option Value) (M : am_M), f_X10_findField_31 N v2 v3 v4 v5 n v6 M = some (r, M') → mR z me_X10_findField (31, [some (.ref 0), d1, some (.int v2), some (.int v3), some (.int v4), some (.int v5), some (.int v6), d7, d8], [], M) r M' := by
  intro n
  induction n with
  | zero => intro v6 d1 d7 d8 M h; cases h
  | succ n ih => intro v6 d1 d7 d8 M h; exact t_X10_findField_31B z N v2 v3 v4 v5 _ ih v6 d1 d7 d8 M h
def f_X10_findField (N : Nat) (p1 : Int32) (p2 : Int32) (p3 : Int32) (p4 : Int32) (M : am_M) : Option (Except Nat (Option Value) × am_M) :=
  if am_in ((5 * p1) + 1) 25 then
    f_X10_findField_31 N p2 p3 p4 (5 * p1) N (M 13 (((5 * p1) + 1).toNatClampNeg)) (am_up (am_up (am_up M 0 50 (-1)) 0 52 0) 0 53 0)
  else none
set_option maxRecDepth 100000 in
theorem t_X10_findField (z : Value) (N : Nat) (p1 : Int32) (p2 : Int32) (p3 : Int32) (p4 : Int32) (M : am_M) {r : Except Nat (Option Value)} {M' : am_M} (h : f_X10_findField N p1 p2 p3 p4 M = some (r, M')) : mR z me_X10_findField (0, [some (.ref 0), some (.int p1), some (.int p2), some (.int p3), some (.int p4), none, none, none, none], [], M) r M' := by
  unfold f_X10_findField at h
  obtain ⟨hC, h⟩ := am_gd h
  refine am_R.go 20 (q' := (31, [some (.ref 0), some (.int p1), some (.int p2), some (.int p3), some (.int p4), some (.int (5 * p1)), some (.int (M 13 (((5 * p1) + 1).toNatClampNeg))), none, none], [], am_up (am_up (am_up M 0 50 (-1)) 0 52 0) 0 53 0)) rfl ⟨hC, trivial⟩ ?_
  exact t_X10_findField_31 z N p2 p3 p4 (5 * p1) N (M 13 (((5 * p1) + 1).toNatClampNeg)) _ _ _ _ h
def f_X10_foundOf_42 (N : Nat) (v1 : Int32) (v2 : Int32) (v3 : Int32) (v4 : Int32) (v5 : Int32) (s0 : Int32) (M : am_M) : Option (Except Nat (Option Value) × am_M) :=
  am_bi (f_X10_may N s0 2 2 M) fun r44 M44 =>
    if r44 = 0 then
      some (.ok (some (.int 0)), M44)
    else
      am_bv (f_X10_findField N v1 v2 v3 v5 M44) fun M58 =>
        if v4 = 0 then
          some (.ok (some (.int (M58 0 51))), M58)
        else
          if v4 = 1 then
            some (.ok (some (.int ((M58 0 50) - (M58 0 50) / 10 * 10))), M58)
          else
            some (.ok (some (.int ((M58 0 50) / 10))), M58)
set_option maxRecDepth 100000 in
theorem t_X10_foundOf_42 (z : Value) (N : Nat) {r : Except Nat (Option Value)} {M' : am_M} (v1 : Int32) (v2 : Int32) (v3 : Int32) (v4 : Int32) (v5 : Int32) (s0 : Int32) (M : am_M) (h : f_X10_foundOf_42 N v1 v2 v3 v4 v5 s0 M = some (r, M')) : mR z me_X10_foundOf (42, [some (.ref 0), some (.int v1), some (.int v2), some (.int v3), some (.int v4), some (.int v5)], [.int s0, .ref 0], M) r M' := by
  unfold f_X10_foundOf_42 at h
  refine am_R.go 2 (q' := (44, [some (.ref 0), some (.int v1), some (.int v2), some (.int v3), some (.int v4), some (.int v5)], [.int 2, .int 2, .int s0, .ref 0], M)) rfl trivial ?_
  obtain ⟨r44, M44, hz, h⟩ := am_bi_s h
  refine am_R.call (e' := me_X10_may) (as := [.ref 0, .int s0, .int 2, .int 2]) (rest := []) rfl rfl (Nat.le_of_ble_eq_true rfl) (t_X10_may z N s0 2 2 _ hz) ?_
  rcases am_it h with ⟨hc, h⟩ | ⟨hc, h⟩
  · refine am_R.cn rfl rfl (fun q => q hc) ?_
    refine am_R.go 1 (q' := (51, [some (.ref 0), some (.int v1), some (.int v2), some (.int v3), some (.int v4), some (.int v5)], [.int 0], M44)) rfl trivial ?_
    cases h
    exact am_R.ret rfl rfl trivial
  · refine am_R.ct rfl rfl hc ?_
    refine am_R.go 5 (q' := (58, [some (.ref 0), some (.int v1), some (.int v2), some (.int v3), some (.int v4), some (.int v5)], [.int v5, .int v3, .int v2, .int v1, .ref 0], M44)) rfl trivial ?_
    obtain ⟨M58, hz, h⟩ := am_bv_s h
    refine am_R.call (e' := me_X10_findField) (as := [.ref 0, .int v1, .int v2, .int v3, .int v5]) (rest := []) rfl rfl (Nat.le_of_ble_eq_true rfl) (t_X10_findField z N v1 v2 v3 v5 _ hz) ?_
    refine am_R.go 1 (q' := (63, [some (.ref 0), some (.int v1), some (.int v2), some (.int v3), some (.int v4), some (.int v5)], [.int v4], M58)) rfl trivial ?_
    rcases am_it h with ⟨hc, h⟩ | ⟨hc, h⟩
    · refine am_R.cn rfl rfl (fun q => q hc) ?_
      refine am_R.go 3 (q' := (96, [some (.ref 0), some (.int v1), some (.int v2), some (.int v3), some (.int v4), some (.int v5)], [.int (M58 0 51)], M58)) rfl trivial ?_
      cases h
      exact am_R.ret rfl rfl trivial
    · refine am_R.ct rfl rfl hc ?_
      refine am_R.go 2 (q' := (76, [some (.ref 0), some (.int v1), some (.int v2), some (.int v3), some (.int v4), some (.int v5)], [.int 1, .int v4], M58)) rfl trivial ?_
      rcases am_it h with ⟨hc, h⟩ | ⟨hc, h⟩
      · refine am_R.bn rfl rfl (fun q => q hc) ?_
        refine am_R.go 5 (q' := (96, [some (.ref 0), some (.int v1), some (.int v2), some (.int v3), some (.int v4), some (.int v5)], [.int ((M58 0 50) - (M58 0 50) / 10 * 10)], M58)) rfl ⟨(by decide), trivial⟩ ?_
        cases h
        exact am_R.ret rfl rfl trivial
      · refine am_R.bt rfl rfl hc ?_
        refine am_R.go 4 (q' := (96, [some (.ref 0), some (.int v1), some (.int v2), some (.int v3), some (.int v4), some (.int v5)], [.int ((M58 0 50) / 10)], M58)) rfl ⟨(by decide), trivial⟩ ?_
        cases h
        exact am_R.ret rfl rfl trivial
def f_X10_foundOf_41 (N : Nat) (v1 : Int32) (v2 : Int32) (v3 : Int32) (v4 : Int32) (v5 : Int32) (M : am_M) : Option (Except Nat (Option Value) × am_M) :=
  f_X10_foundOf_42 N v1 v2 v3 v4 v5 0 M
set_option maxRecDepth 100000 in
theorem t_X10_foundOf_41 (z : Value) (N : Nat) {r : Except Nat (Option Value)} {M' : am_M} (v1 : Int32) (v2 : Int32) (v3 : Int32) (v4 : Int32) (v5 : Int32) (M : am_M) (h : f_X10_foundOf_41 N v1 v2 v3 v4 v5 M = some (r, M')) : mR z me_X10_foundOf (41, [some (.ref 0), some (.int v1), some (.int v2), some (.int v3), some (.int v4), some (.int v5)], [.ref 0], M) r M' := by
  unfold f_X10_foundOf_41 at h
  refine am_R.go 1 (q' := (42, [some (.ref 0), some (.int v1), some (.int v2), some (.int v3), some (.int v4), some (.int v5)], [.int 0, .ref 0], M)) rfl trivial ?_
  exact t_X10_foundOf_42 z N v1 v2 v3 v4 v5 0 _ h
def f_X10_foundOf (N : Nat) (p1 : Int32) (p2 : Int32) (p3 : Int32) (p4 : Int32) (p5 : Int32) (M : am_M) : Option (Except Nat (Option Value) × am_M) :=
  am_bi (f_X10_isField N p1 1 M) fun r3 M3 =>
    if r3 = 0 then
      some (.ok (some (.int 0)), M3)
    else
      am_bi (f_X10_isFog N p2 M3) fun r12 M12 =>
        if r12 = 0 then
          f_X10_foundOf_41 N p1 p2 p3 p4 p5 M12
        else
          am_bi (f_X10_within N p3 0 2 M12) fun r21 M21 =>
            if r21 = 0 then
              f_X10_foundOf_41 N p1 p2 p3 p4 p5 M21
            else
              am_bi (f_X10_within N p4 0 2 M21) fun r31 M31 =>
                if r31 = 0 then
                  f_X10_foundOf_41 N p1 p2 p3 p4 p5 M31
                else
                  f_X10_foundOf_42 N p1 p2 p3 p4 p5 1 M31
set_option maxRecDepth 100000 in
theorem t_X10_foundOf (z : Value) (N : Nat) (p1 : Int32) (p2 : Int32) (p3 : Int32) (p4 : Int32) (p5 : Int32) (M : am_M) {r : Except Nat (Option Value)} {M' : am_M} (h : f_X10_foundOf N p1 p2 p3 p4 p5 M = some (r, M')) : mR z me_X10_foundOf (0, [some (.ref 0), some (.int p1), some (.int p2), some (.int p3), some (.int p4), some (.int p5)], [], M) r M' := by
  unfold f_X10_foundOf at h
  refine am_R.go 3 (q' := (3, [some (.ref 0), some (.int p1), some (.int p2), some (.int p3), some (.int p4), some (.int p5)], [.int 1, .int p1, .ref 0], M)) rfl trivial ?_
  obtain ⟨r3, M3, hz, h⟩ := am_bi_s h
  refine am_R.call (e' := me_X10_isField) (as := [.ref 0, .int p1, .int 1]) (rest := []) rfl rfl (Nat.le_of_ble_eq_true rfl) (t_X10_isField z N p1 1 _ hz) ?_
  rcases am_it h with ⟨hc, h⟩ | ⟨hc, h⟩
  · refine am_R.ct rfl rfl hc ?_
    refine am_R.go 1 (q' := (51, [some (.ref 0), some (.int p1), some (.int p2), some (.int p3), some (.int p4), some (.int p5)], [.int 0], M3)) rfl trivial ?_
    cases h
    exact am_R.ret rfl rfl trivial
  · refine am_R.cn rfl rfl hc ?_
    refine am_R.go 3 (q' := (12, [some (.ref 0), some (.int p1), some (.int p2), some (.int p3), some (.int p4), some (.int p5)], [.int p2, .ref 0, .ref 0], M3)) rfl trivial ?_
    obtain ⟨r12, M12, hz, h⟩ := am_bi_s h
    refine am_R.call (e' := me_X10_isFog) (as := [.ref 0, .int p2]) (rest := [.ref 0]) rfl rfl (Nat.le_of_ble_eq_true rfl) (t_X10_isFog z N p2 _ hz) ?_
    rcases am_it h with ⟨hc, h⟩ | ⟨hc, h⟩
    · refine am_R.ct rfl rfl hc ?_
      exact t_X10_foundOf_41 z N p1 p2 p3 p4 p5 _ h
    · refine am_R.cn rfl rfl hc ?_
      refine am_R.go 3 (q' := (21, [some (.ref 0), some (.int p1), some (.int p2), some (.int p3), some (.int p4), some (.int p5)], [.int 2, .int 0, .int p3, .ref 0], M12)) rfl trivial ?_
      obtain ⟨r21, M21, hz, h⟩ := am_bi_s h
      refine am_R.call (e' := me_X10_within) (as := [.int p3, .int 0, .int 2]) (rest := [.ref 0]) rfl rfl (Nat.le_of_ble_eq_true rfl) (t_X10_within z N p3 0 2 _ hz) ?_
      rcases am_it h with ⟨hc, h⟩ | ⟨hc, h⟩
      · refine am_R.ct rfl rfl hc ?_
        exact t_X10_foundOf_41 z N p1 p2 p3 p4 p5 _ h
      · refine am_R.cn rfl rfl hc ?_
        refine am_R.go 3 (q' := (31, [some (.ref 0), some (.int p1), some (.int p2), some (.int p3), some (.int p4), some (.int p5)], [.int 2, .int 0, .int p4, .ref 0], M21)) rfl trivial ?_
        obtain ⟨r31, M31, hz, h⟩ := am_bi_s h
        refine am_R.call (e' := me_X10_within) (as := [.int p4, .int 0, .int 2]) (rest := [.ref 0]) rfl rfl (Nat.le_of_ble_eq_true rfl) (t_X10_within z N p4 0 2 _ hz) ?_
        rcases am_it h with ⟨hc, h⟩ | ⟨hc, h⟩
        · refine am_R.ct rfl rfl hc ?_
          exact t_X10_foundOf_41 z N p1 p2 p3 p4 p5 _ h
        · refine am_R.cn rfl rfl hc ?_
          refine am_R.go 2 (q' := (42, [some (.ref 0), some (.int p1), some (.int p2), some (.int p3), some (.int p4), some (.int p5)], [.int 1, .ref 0], M31)) rfl trivial ?_
          exact t_X10_foundOf_42 z N p1 p2 p3 p4 p5 1 _ h
def f_X10_most (N : Nat) (p1 : Int32) (p2 : Int32) (p3 : Int32) (p4 : Int32) (M : am_M) : Option (Except Nat (Option Value) × am_M) :=
  am_bi (f_X10_foundOf N p1 p2 p3 p4 0 (am_up M 0 0 0)) fun r12 M12 =>
    some (.ok (some (.int r12)), M12)
set_option maxRecDepth 100000 in
theorem t_X10_most (z : Value) (N : Nat) (p1 : Int32) (p2 : Int32) (p3 : Int32) (p4 : Int32) (M : am_M) {r : Except Nat (Option Value)} {M' : am_M} (h : f_X10_most N p1 p2 p3 p4 M = some (r, M')) : mR z me_X10_most (0, [some (.ref 0), some (.int p1), some (.int p2), some (.int p3), some (.int p4)], [], M) r M' := by
  unfold f_X10_most at h
  refine am_R.go 9 (q' := (12, [some (.ref 0), some (.int p1), some (.int p2), some (.int p3), some (.int p4)], [.int 0, .int p4, .int p3, .int p2, .int p1, .ref 0], am_up M 0 0 0)) rfl trivial ?_
  obtain ⟨r12, M12, hz, h⟩ := am_bi_s h
  refine am_R.call (e' := me_X10_foundOf) (as := [.ref 0, .int p1, .int p2, .int p3, .int p4, .int 0]) (rest := []) rfl rfl (Nat.le_of_ble_eq_true rfl) (t_X10_foundOf z N p1 p2 p3 p4 0 _ hz) ?_
  cases h
  exact am_R.ret rfl rfl trivial
def f_X10_least (N : Nat) (p1 : Int32) (p2 : Int32) (p3 : Int32) (p4 : Int32) (M : am_M) : Option (Except Nat (Option Value) × am_M) :=
  am_bi (f_X10_foundOf N p1 p2 p3 p4 1 (am_up M 0 0 0)) fun r12 M12 =>
    some (.ok (some (.int r12)), M12)
set_option maxRecDepth 100000 in
theorem t_X10_least (z : Value) (N : Nat) (p1 : Int32) (p2 : Int32) (p3 : Int32) (p4 : Int32) (M : am_M) {r : Except Nat (Option Value)} {M' : am_M} (h : f_X10_least N p1 p2 p3 p4 M = some (r, M')) : mR z me_X10_least (0, [some (.ref 0), some (.int p1), some (.int p2), some (.int p3), some (.int p4)], [], M) r M' := by
  unfold f_X10_least at h
  refine am_R.go 9 (q' := (12, [some (.ref 0), some (.int p1), some (.int p2), some (.int p3), some (.int p4)], [.int 1, .int p4, .int p3, .int p2, .int p1, .ref 0], am_up M 0 0 0)) rfl trivial ?_
  obtain ⟨r12, M12, hz, h⟩ := am_bi_s h
  refine am_R.call (e' := me_X10_foundOf) (as := [.ref 0, .int p1, .int p2, .int p3, .int p4, .int 1]) (rest := []) rfl rfl (Nat.le_of_ble_eq_true rfl) (t_X10_foundOf z N p1 p2 p3 p4 1 _ hz) ?_
  cases h
  exact am_R.ret rfl rfl trivial
def f_X10_divisor_4B (N : Nat) (k4 : Int32 → Int32 → am_M → Option (Except Nat (Option Value) × am_M)) (v2 : Int32) (v3 : Int32) (M : am_M) : Option (Except Nat (Option Value) × am_M) :=
  if v3 = 0 then
    some (.ok (some (.int v2)), M)
  else
    if ¬ v3 = 0 then
      k4 v3 (v2 - v2 / v3 * v3) M
    else none
def f_X10_divisor_4 (N : Nat) : Nat → Int32 → Int32 → am_M → Option (Except Nat (Option Value) × am_M)
  | 0 => fun _ _ _ => none
  | n + 1 => f_X10_divisor_4B N (f_X10_divisor_4 N n)
set_option maxRecDepth 100000 in
theorem t_X10_divisor_4B (z : Value) (N : Nat) {r : Except Nat (Option Value)} {M' : am_M} (k4 : Int32 → Int32 → am_M → Option (Except Nat (Option Value) × am_M)) (hk4 : ∀ (v2 : Int32) (v3 : Int32) (d0 : Option Value) (d1 : Option Value) (d4 : Option Value) (M : am_M), k4 v2 v3 M = some (r, M') → mR z me_X10_divisor (4, [d0, d1, some (.int v2), some (.int v3), d4], [], M) r M') (v2 : Int32) (v3 : Int32) (d0 : Option Value) (d1 : Option Value) (d4 : Option Value) (M : am_M) (h : f_X10_divisor_4B N k4 v2 v3 M = some (r, M')) : mR z me_X10_divisor (4, [d0, d1, some (.int v2), some (.int v3), d4], [], M) r M' := by
  unfold f_X10_divisor_4B at h
  refine am_R.go 1 (q' := (5, [d0, d1, some (.int v2), some (.int v3), d4], [.int v3], M)) rfl trivial ?_
  rcases am_it h with ⟨hc, h⟩ | ⟨hc, h⟩
  · refine am_R.ct rfl rfl hc ?_
    refine am_R.go 1 (q' := (22, [d0, d1, some (.int v2), some (.int v3), d4], [.int v2], M)) rfl trivial ?_
    cases h
    exact am_R.ret rfl rfl trivial
  · refine am_R.cn rfl rfl hc ?_
    obtain ⟨hC, h⟩ := am_gd h
    refine am_R.go 9 (q' := (4, [d0, d1, some (.int v3), some (.int (v2 - v2 / v3 * v3)), some (.int (v2 - v2 / v3 * v3))], [], M)) rfl ⟨hC, trivial⟩ ?_
    exact hk4 v3 (v2 - v2 / v3 * v3) _ _ _ _ h
set_option maxRecDepth 100000 in
theorem t_X10_divisor_4 (z : Value) (N : Nat) {r : Except Nat (Option Value)} {M' : am_M} : ∀ (n : Nat) (v2 : Int32) (v3 : Int32) (d0 : Option Value) (d1 : Option Value) (d4 : Option Value) (M : am_M), f_X10_divisor_4 N n v2 v3 M = some (r, M') → mR z me_X10_divisor (4, [d0, d1, some (.int v2), some (.int v3), d4], [], M) r M' := by
  intro n
  induction n with
  | zero => intro v2 v3 d0 d1 d4 M h; cases h
  | succ n ih => intro v2 v3 d0 d1 d4 M h; exact t_X10_divisor_4B z N _ ih v2 v3 d0 d1 d4 M h
def f_X10_divisor (N : Nat) (p0 : Int32) (p1 : Int32) (M : am_M) : Option (Except Nat (Option Value) × am_M) :=
  f_X10_divisor_4 N N p0 p1 M
set_option maxRecDepth 100000 in
theorem t_X10_divisor (z : Value) (N : Nat) (p0 : Int32) (p1 : Int32) (M : am_M) {r : Except Nat (Option Value)} {M' : am_M} (h : f_X10_divisor N p0 p1 M = some (r, M')) : mR z me_X10_divisor (0, [some (.int p0), some (.int p1), none, none, none], [], M) r M' := by
  unfold f_X10_divisor at h
  refine am_R.go 4 (q' := (4, [some (.int p0), some (.int p1), some (.int p0), some (.int p1), none], [], M)) rfl trivial ?_
  exact t_X10_divisor_4 z N N p0 p1 _ _ _ _ h
def f_X10_fraction_9 (N : Nat) (v0 : Int32) (v1 : Int32) (s0 : Int32) (M : am_M) : Option (Except Nat (Option Value) × am_M) :=
  am_bi (f_X10_divisor N v0 v1 M) fun r11 M11 =>
    if ¬ r11 = 0 then
      some (.ok (some (.int (s0 / r11))), M11)
    else none
set_option maxRecDepth 100000 in
theorem t_X10_fraction_9 (z : Value) (N : Nat) {r : Except Nat (Option Value)} {M' : am_M} (v0 : Int32) (v1 : Int32) (s0 : Int32) (d2 : Option Value) (M : am_M) (h : f_X10_fraction_9 N v0 v1 s0 M = some (r, M')) : mR z me_X10_fraction (9, [some (.int v0), some (.int v1), d2], [.int s0], M) r M' := by
  unfold f_X10_fraction_9 at h
  refine am_R.go 2 (q' := (11, [some (.int v0), some (.int v1), d2], [.int v1, .int v0, .int s0], M)) rfl trivial ?_
  obtain ⟨r11, M11, hz, h⟩ := am_bi_s h
  refine am_R.call (e' := me_X10_divisor) (as := [.int v0, .int v1]) (rest := [.int s0]) rfl rfl (Nat.le_of_ble_eq_true rfl) (t_X10_divisor z N v0 v1 _ hz) ?_
  obtain ⟨hC, h⟩ := am_gd h
  refine am_R.go 1 (q' := (15, [some (.int v0), some (.int v1), d2], [.int (s0 / r11)], M11)) rfl ⟨hC, trivial⟩ ?_
  cases h
  exact am_R.ret rfl rfl trivial
def f_X10_fraction (N : Nat) (p0 : Int32) (p1 : Int32) (p2 : Int32) (M : am_M) : Option (Except Nat (Option Value) × am_M) :=
  if p2 = 0 then
    f_X10_fraction_9 N p0 p1 p0 M
  else
    f_X10_fraction_9 N p0 p1 p1 M
set_option maxRecDepth 100000 in
theorem t_X10_fraction (z : Value) (N : Nat) (p0 : Int32) (p1 : Int32) (p2 : Int32) (M : am_M) {r : Except Nat (Option Value)} {M' : am_M} (h : f_X10_fraction N p0 p1 p2 M = some (r, M')) : mR z me_X10_fraction (0, [some (.int p0), some (.int p1), some (.int p2)], [], M) r M' := by
  unfold f_X10_fraction at h
  refine am_R.go 1 (q' := (1, [some (.int p0), some (.int p1), some (.int p2)], [.int p2], M)) rfl trivial ?_
  rcases am_it h with ⟨hc, h⟩ | ⟨hc, h⟩
  · refine am_R.cn rfl rfl (fun q => q hc) ?_
    refine am_R.go 2 (q' := (9, [some (.int p0), some (.int p1), some (.int p2)], [.int p0], M)) rfl trivial ?_
    exact t_X10_fraction_9 z N p0 p1 p0 _ _ h
  · refine am_R.ct rfl rfl hc ?_
    refine am_R.go 1 (q' := (9, [some (.int p0), some (.int p1), some (.int p2)], [.int p1], M)) rfl trivial ?_
    exact t_X10_fraction_9 z N p0 p1 p1 _ _ h
def f_X10_mean_47 (N : Nat) (v1 : Int32) (v2 : Int32) (v3 : Int32) (v4 : Int32) (s0 : Int32) (M : am_M) : Option (Except Nat (Option Value) × am_M) :=
  am_bi (f_X10_may N s0 2 2 M) fun r49 M49 =>
    if r49 = 0 then
      some (.ok (some (.int 0)), M49)
    else
      am_bv (f_X10_findField N v1 v2 v3 0 M49) fun M62 =>
        am_bi (f_X10_fraction N (M62 0 52) (M62 0 53) v4 M62) fun r75 M75 =>
          some (.ok (some (.int r75)), M75)
set_option maxRecDepth 100000 in
theorem t_X10_mean_47 (z : Value) (N : Nat) {r : Except Nat (Option Value)} {M' : am_M} (v1 : Int32) (v2 : Int32) (v3 : Int32) (v4 : Int32) (s0 : Int32) (M : am_M) (h : f_X10_mean_47 N v1 v2 v3 v4 s0 M = some (r, M')) : mR z me_X10_mean (47, [some (.ref 0), some (.int v1), some (.int v2), some (.int v3), some (.int v4)], [.int s0, .ref 0], M) r M' := by
  unfold f_X10_mean_47 at h
  refine am_R.go 2 (q' := (49, [some (.ref 0), some (.int v1), some (.int v2), some (.int v3), some (.int v4)], [.int 2, .int 2, .int s0, .ref 0], M)) rfl trivial ?_
  obtain ⟨r49, M49, hz, h⟩ := am_bi_s h
  refine am_R.call (e' := me_X10_may) (as := [.ref 0, .int s0, .int 2, .int 2]) (rest := []) rfl rfl (Nat.le_of_ble_eq_true rfl) (t_X10_may z N s0 2 2 _ hz) ?_
  rcases am_it h with ⟨hc, h⟩ | ⟨hc, h⟩
  · refine am_R.cn rfl rfl (fun q => q hc) ?_
    refine am_R.go 1 (q' := (56, [some (.ref 0), some (.int v1), some (.int v2), some (.int v3), some (.int v4)], [.int 0], M49)) rfl trivial ?_
    cases h
    exact am_R.ret rfl rfl trivial
  · refine am_R.ct rfl rfl hc ?_
    refine am_R.go 5 (q' := (62, [some (.ref 0), some (.int v1), some (.int v2), some (.int v3), some (.int v4)], [.int 0, .int v3, .int v2, .int v1, .ref 0], M49)) rfl trivial ?_
    obtain ⟨M62, hz, h⟩ := am_bv_s h
    refine am_R.call (e' := me_X10_findField) (as := [.ref 0, .int v1, .int v2, .int v3, .int 0]) (rest := []) rfl rfl (Nat.le_of_ble_eq_true rfl) (t_X10_findField z N v1 v2 v3 0 _ hz) ?_
    refine am_R.go 5 (q' := (75, [some (.ref 0), some (.int v1), some (.int v2), some (.int v3), some (.int v4)], [.int v4, .int (M62 0 53), .int (M62 0 52)], M62)) rfl trivial ?_
    obtain ⟨r75, M75, hz, h⟩ := am_bi_s h
    refine am_R.call (e' := me_X10_fraction) (as := [.int (M62 0 52), .int (M62 0 53), .int v4]) (rest := []) rfl rfl (Nat.le_of_ble_eq_true rfl) (t_X10_fraction z N (M62 0 52) (M62 0 53) v4 _ hz) ?_
    cases h
    exact am_R.ret rfl rfl trivial
def f_X10_mean_46 (N : Nat) (v1 : Int32) (v2 : Int32) (v3 : Int32) (v4 : Int32) (M : am_M) : Option (Except Nat (Option Value) × am_M) :=
  f_X10_mean_47 N v1 v2 v3 v4 0 M
set_option maxRecDepth 100000 in
theorem t_X10_mean_46 (z : Value) (N : Nat) {r : Except Nat (Option Value)} {M' : am_M} (v1 : Int32) (v2 : Int32) (v3 : Int32) (v4 : Int32) (M : am_M) (h : f_X10_mean_46 N v1 v2 v3 v4 M = some (r, M')) : mR z me_X10_mean (46, [some (.ref 0), some (.int v1), some (.int v2), some (.int v3), some (.int v4)], [.ref 0], M) r M' := by
  unfold f_X10_mean_46 at h
  refine am_R.go 1 (q' := (47, [some (.ref 0), some (.int v1), some (.int v2), some (.int v3), some (.int v4)], [.int 0, .ref 0], M)) rfl trivial ?_
  exact t_X10_mean_47 z N v1 v2 v3 v4 0 _ h
def f_X10_mean (N : Nat) (p1 : Int32) (p2 : Int32) (p3 : Int32) (p4 : Int32) (M : am_M) : Option (Except Nat (Option Value) × am_M) :=
  am_bi (f_X10_isField N p1 1 (am_up M 0 0 0)) fun r8 M8 =>
    if r8 = 0 then
      some (.ok (some (.int 0)), M8)
    else
      am_bi (f_X10_isFog N p2 M8) fun r17 M17 =>
        if r17 = 0 then
          f_X10_mean_46 N p1 p2 p3 p4 M17
        else
          am_bi (f_X10_within N p3 0 2 M17) fun r26 M26 =>
            if r26 = 0 then
              f_X10_mean_46 N p1 p2 p3 p4 M26
            else
              am_bi (f_X10_within N p4 0 1 M26) fun r36 M36 =>
                if r36 = 0 then
                  f_X10_mean_46 N p1 p2 p3 p4 M36
                else
                  f_X10_mean_47 N p1 p2 p3 p4 1 M36
set_option maxRecDepth 100000 in
theorem t_X10_mean (z : Value) (N : Nat) (p1 : Int32) (p2 : Int32) (p3 : Int32) (p4 : Int32) (M : am_M) {r : Except Nat (Option Value)} {M' : am_M} (h : f_X10_mean N p1 p2 p3 p4 M = some (r, M')) : mR z me_X10_mean (0, [some (.ref 0), some (.int p1), some (.int p2), some (.int p3), some (.int p4)], [], M) r M' := by
  unfold f_X10_mean at h
  refine am_R.go 6 (q' := (8, [some (.ref 0), some (.int p1), some (.int p2), some (.int p3), some (.int p4)], [.int 1, .int p1, .ref 0], am_up M 0 0 0)) rfl trivial ?_
  obtain ⟨r8, M8, hz, h⟩ := am_bi_s h
  refine am_R.call (e' := me_X10_isField) (as := [.ref 0, .int p1, .int 1]) (rest := []) rfl rfl (Nat.le_of_ble_eq_true rfl) (t_X10_isField z N p1 1 _ hz) ?_
  rcases am_it h with ⟨hc, h⟩ | ⟨hc, h⟩
  · refine am_R.ct rfl rfl hc ?_
    refine am_R.go 1 (q' := (56, [some (.ref 0), some (.int p1), some (.int p2), some (.int p3), some (.int p4)], [.int 0], M8)) rfl trivial ?_
    cases h
    exact am_R.ret rfl rfl trivial
  · refine am_R.cn rfl rfl hc ?_
    refine am_R.go 3 (q' := (17, [some (.ref 0), some (.int p1), some (.int p2), some (.int p3), some (.int p4)], [.int p2, .ref 0, .ref 0], M8)) rfl trivial ?_
    obtain ⟨r17, M17, hz, h⟩ := am_bi_s h
    refine am_R.call (e' := me_X10_isFog) (as := [.ref 0, .int p2]) (rest := [.ref 0]) rfl rfl (Nat.le_of_ble_eq_true rfl) (t_X10_isFog z N p2 _ hz) ?_
    rcases am_it h with ⟨hc, h⟩ | ⟨hc, h⟩
    · refine am_R.ct rfl rfl hc ?_
      exact t_X10_mean_46 z N p1 p2 p3 p4 _ h
    · refine am_R.cn rfl rfl hc ?_
      refine am_R.go 3 (q' := (26, [some (.ref 0), some (.int p1), some (.int p2), some (.int p3), some (.int p4)], [.int 2, .int 0, .int p3, .ref 0], M17)) rfl trivial ?_
      obtain ⟨r26, M26, hz, h⟩ := am_bi_s h
      refine am_R.call (e' := me_X10_within) (as := [.int p3, .int 0, .int 2]) (rest := [.ref 0]) rfl rfl (Nat.le_of_ble_eq_true rfl) (t_X10_within z N p3 0 2 _ hz) ?_
      rcases am_it h with ⟨hc, h⟩ | ⟨hc, h⟩
      · refine am_R.ct rfl rfl hc ?_
        exact t_X10_mean_46 z N p1 p2 p3 p4 _ h
      · refine am_R.cn rfl rfl hc ?_
        refine am_R.go 3 (q' := (36, [some (.ref 0), some (.int p1), some (.int p2), some (.int p3), some (.int p4)], [.int 1, .int 0, .int p4, .ref 0], M26)) rfl trivial ?_
        obtain ⟨r36, M36, hz, h⟩ := am_bi_s h
        refine am_R.call (e' := me_X10_within) (as := [.int p4, .int 0, .int 1]) (rest := [.ref 0]) rfl rfl (Nat.le_of_ble_eq_true rfl) (t_X10_within z N p4 0 1 _ hz) ?_
        rcases am_it h with ⟨hc, h⟩ | ⟨hc, h⟩
        · refine am_R.ct rfl rfl hc ?_
          exact t_X10_mean_46 z N p1 p2 p3 p4 _ h
        · refine am_R.cn rfl rfl hc ?_
          refine am_R.go 2 (q' := (47, [some (.ref 0), some (.int p1), some (.int p2), some (.int p3), some (.int p4)], [.int 1, .ref 0], M36)) rfl trivial ?_
          exact t_X10_mean_47 z N p1 p2 p3 p4 1 _ h
def f_X10_worthBy (N : Nat) (p1 : Int32) (p2 : Int32) (p3 : Int32) (M : am_M) : Option (Except Nat (Option Value) × am_M) :=
  am_bv (f_X10_findField N p1 p2 p3 0 M) fun M5 =>
    if am_in ((5 * p1) + 4) 25 then
      some (.ok (some (.int ((M5 13 (((5 * p1) + 4).toNatClampNeg)) * (M5 0 51)))), M5)
    else none
set_option maxRecDepth 100000 in
theorem t_X10_worthBy (z : Value) (N : Nat) (p1 : Int32) (p2 : Int32) (p3 : Int32) (M : am_M) {r : Except Nat (Option Value)} {M' : am_M} (h : f_X10_worthBy N p1 p2 p3 M = some (r, M')) : mR z me_X10_worthBy (0, [some (.ref 0), some (.int p1), some (.int p2), some (.int p3)], [], M) r M' := by
  unfold f_X10_worthBy at h
  refine am_R.go 5 (q' := (5, [some (.ref 0), some (.int p1), some (.int p2), some (.int p3)], [.int 0, .int p3, .int p2, .int p1, .ref 0], M)) rfl trivial ?_
  obtain ⟨M5, hz, h⟩ := am_bv_s h
  refine am_R.call (e' := me_X10_findField) (as := [.ref 0, .int p1, .int p2, .int p3, .int 0]) (rest := []) rfl rfl (Nat.le_of_ble_eq_true rfl) (t_X10_findField z N p1 p2 p3 0 _ hz) ?_
  obtain ⟨hC, h⟩ := am_gd h
  refine am_R.go 11 (q' := (23, [some (.ref 0), some (.int p1), some (.int p2), some (.int p3)], [.int ((M5 13 (((5 * p1) + 4).toNatClampNeg)) * (M5 0 51))], M5)) rfl ⟨hC, trivial⟩ ?_
  cases h
  exact am_R.ret rfl rfl trivial
def f_X10_worth (N : Nat) (p1 : Int32) (p2 : Int32) (M : am_M) : Option (Except Nat (Option Value) × am_M) :=
  am_bi (f_X10_isField N p1 1 (am_up M 0 0 0)) fun r8 M8 =>
    if r8 = 0 then
      some (.ok (some (.int 0)), M8)
    else
      am_bi (f_X10_isFog N p2 M8) fun r17 M17 =>
        am_bi (f_X10_may N r17 2 2 M17) fun r22 M22 =>
          if r22 = 0 then
            some (.ok (some (.int 0)), M22)
          else
            am_bi (f_X10_worthBy N p1 p2 (M22 0 41) M22) fun r37 M37 =>
              some (.ok (some (.int r37)), M37)
set_option maxRecDepth 100000 in
theorem t_X10_worth (z : Value) (N : Nat) (p1 : Int32) (p2 : Int32) (M : am_M) {r : Except Nat (Option Value)} {M' : am_M} (h : f_X10_worth N p1 p2 M = some (r, M')) : mR z me_X10_worth (0, [some (.ref 0), some (.int p1), some (.int p2)], [], M) r M' := by
  unfold f_X10_worth at h
  refine am_R.go 6 (q' := (8, [some (.ref 0), some (.int p1), some (.int p2)], [.int 1, .int p1, .ref 0], am_up M 0 0 0)) rfl trivial ?_
  obtain ⟨r8, M8, hz, h⟩ := am_bi_s h
  refine am_R.call (e' := me_X10_isField) (as := [.ref 0, .int p1, .int 1]) (rest := []) rfl rfl (Nat.le_of_ble_eq_true rfl) (t_X10_isField z N p1 1 _ hz) ?_
  rcases am_it h with ⟨hc, h⟩ | ⟨hc, h⟩
  · refine am_R.ct rfl rfl hc ?_
    refine am_R.go 1 (q' := (29, [some (.ref 0), some (.int p1), some (.int p2)], [.int 0], M8)) rfl trivial ?_
    cases h
    exact am_R.ret rfl rfl trivial
  · refine am_R.cn rfl rfl hc ?_
    refine am_R.go 3 (q' := (17, [some (.ref 0), some (.int p1), some (.int p2)], [.int p2, .ref 0, .ref 0], M8)) rfl trivial ?_
    obtain ⟨r17, M17, hz, h⟩ := am_bi_s h
    refine am_R.call (e' := me_X10_isFog) (as := [.ref 0, .int p2]) (rest := [.ref 0]) rfl rfl (Nat.le_of_ble_eq_true rfl) (t_X10_isFog z N p2 _ hz) ?_
    refine am_R.go 2 (q' := (22, [some (.ref 0), some (.int p1), some (.int p2)], [.int 2, .int 2, .int r17, .ref 0], M17)) rfl trivial ?_
    obtain ⟨r22, M22, hz, h⟩ := am_bi_s h
    refine am_R.call (e' := me_X10_may) (as := [.ref 0, .int r17, .int 2, .int 2]) (rest := []) rfl rfl (Nat.le_of_ble_eq_true rfl) (t_X10_may z N r17 2 2 _ hz) ?_
    rcases am_it h with ⟨hc, h⟩ | ⟨hc, h⟩
    · refine am_R.cn rfl rfl (fun q => q hc) ?_
      refine am_R.go 1 (q' := (29, [some (.ref 0), some (.int p1), some (.int p2)], [.int 0], M22)) rfl trivial ?_
      cases h
      exact am_R.ret rfl rfl trivial
    · refine am_R.ct rfl rfl hc ?_
      refine am_R.go 5 (q' := (37, [some (.ref 0), some (.int p1), some (.int p2)], [.int (M22 0 41), .int p2, .int p1, .ref 0], M22)) rfl trivial ?_
      obtain ⟨r37, M37, hz, h⟩ := am_bi_s h
      refine am_R.call (e' := me_X10_worthBy) (as := [.ref 0, .int p1, .int p2, .int (M22 0 41)]) (rest := []) rfl rfl (Nat.le_of_ble_eq_true rfl) (t_X10_worthBy z N p1 p2 (M22 0 41) _ hz) ?_
      cases h
      exact am_R.ret rfl rfl trivial
def f_X10_gain (N : Nat) (p1 : Int32) (p2 : Int32) (p3 : Int32) (M : am_M) : Option (Except Nat (Option Value) × am_M) :=
  am_bi (f_X10_isCell N p1 p2 1 (am_up M 0 0 0)) fun r9 M9 =>
    if r9 = 0 then
      some (.ok (some (.int 0)), M9)
    else
      am_bi (f_X10_isField N p3 2 M9) fun r18 M18 =>
        if r18 = 0 then
          some (.ok (some (.int 0)), M18)
        else
          if am_in ((10 * p2) + p1) 100 then
            if (M18 10 (((10 * p2) + p1).toNatClampNeg)) ≤ 0 then
              am_bi (f_X10_worthBy N p3 0 (M18 0 41) M18) fun r53 M53 =>
                if am_in ((10 * p2) + p1) 100 then
                  am_bi (f_X10_worthBy N p3 0 (M53 0 41) (am_up M53 21 (((10 * p2) + p1).toNatClampNeg) 5)) fun r73 M73 =>
                    if am_in ((10 * p2) + p1) 100 then
                      some (.ok (some (.int (r73 - r53))), am_up M73 21 (((10 * p2) + p1).toNatClampNeg) 0)
                    else none
                else none
            else
              some (.ok (some (.int 0)), M18)
          else none
set_option maxRecDepth 100000 in
theorem t_X10_gain (z : Value) (N : Nat) (p1 : Int32) (p2 : Int32) (p3 : Int32) (M : am_M) {r : Except Nat (Option Value)} {M' : am_M} (h : f_X10_gain N p1 p2 p3 M = some (r, M')) : mR z me_X10_gain (0, [some (.ref 0), some (.int p1), some (.int p2), some (.int p3), none, none, none], [], M) r M' := by
  unfold f_X10_gain at h
  refine am_R.go 7 (q' := (9, [some (.ref 0), some (.int p1), some (.int p2), some (.int p3), none, none, none], [.int 1, .int p2, .int p1, .ref 0], am_up M 0 0 0)) rfl trivial ?_
  obtain ⟨r9, M9, hz, h⟩ := am_bi_s h
  refine am_R.call (e' := me_X10_isCell) (as := [.ref 0, .int p1, .int p2, .int 1]) (rest := []) rfl rfl (Nat.le_of_ble_eq_true rfl) (t_X10_isCell z N p1 p2 1 _ hz) ?_
  rcases am_it h with ⟨hc, h⟩ | ⟨hc, h⟩
  · refine am_R.ct rfl rfl hc ?_
    refine am_R.go 1 (q' := (25, [some (.ref 0), some (.int p1), some (.int p2), some (.int p3), none, none, none], [.int 0], M9)) rfl trivial ?_
    cases h
    exact am_R.ret rfl rfl trivial
  · refine am_R.cn rfl rfl hc ?_
    refine am_R.go 3 (q' := (18, [some (.ref 0), some (.int p1), some (.int p2), some (.int p3), none, none, none], [.int 2, .int p3, .ref 0], M9)) rfl trivial ?_
    obtain ⟨r18, M18, hz, h⟩ := am_bi_s h
    refine am_R.call (e' := me_X10_isField) (as := [.ref 0, .int p3, .int 2]) (rest := []) rfl rfl (Nat.le_of_ble_eq_true rfl) (t_X10_isField z N p3 2 _ hz) ?_
    rcases am_it h with ⟨hc, h⟩ | ⟨hc, h⟩
    · refine am_R.cn rfl rfl (fun q => q hc) ?_
      refine am_R.go 1 (q' := (25, [some (.ref 0), some (.int p1), some (.int p2), some (.int p3), none, none, none], [.int 0], M18)) rfl trivial ?_
      cases h
      exact am_R.ret rfl rfl trivial
    · refine am_R.ct rfl rfl hc ?_
      obtain ⟨hC, h⟩ := am_gd h
      refine am_R.go 10 (q' := (41, [some (.ref 0), some (.int p1), some (.int p2), some (.int p3), some (.int ((10 * p2) + p1)), none, none], [.int (M18 10 (((10 * p2) + p1).toNatClampNeg))], M18)) rfl ⟨hC, trivial⟩ ?_
      rcases am_it h with ⟨hc, h⟩ | ⟨hc, h⟩
      · refine am_R.ct rfl rfl hc ?_
        refine am_R.go 5 (q' := (53, [some (.ref 0), some (.int p1), some (.int p2), some (.int p3), some (.int ((10 * p2) + p1)), none, none], [.int (M18 0 41), .int 0, .int p3, .ref 0], M18)) rfl trivial ?_
        obtain ⟨r53, M53, hz, h⟩ := am_bi_s h
        refine am_R.call (e' := me_X10_worthBy) (as := [.ref 0, .int p3, .int 0, .int (M18 0 41)]) (rest := []) rfl rfl (Nat.le_of_ble_eq_true rfl) (t_X10_worthBy z N p3 0 (M18 0 41) _ hz) ?_
        obtain ⟨hC, h⟩ := am_gd h
        refine am_R.go 11 (q' := (73, [some (.ref 0), some (.int p1), some (.int p2), some (.int p3), some (.int ((10 * p2) + p1)), some (.int r53), none], [.int (M53 0 41), .int 0, .int p3, .ref 0], am_up M53 21 (((10 * p2) + p1).toNatClampNeg) 5)) rfl ⟨hC, trivial⟩ ?_
        obtain ⟨r73, M73, hz, h⟩ := am_bi_s h
        refine am_R.call (e' := me_X10_worthBy) (as := [.ref 0, .int p3, .int 0, .int (M53 0 41)]) (rest := []) rfl rfl (Nat.le_of_ble_eq_true rfl) (t_X10_worthBy z N p3 0 (M53 0 41) _ hz) ?_
        obtain ⟨hC, h⟩ := am_gd h
        refine am_R.go 9 (q' := (91, [some (.ref 0), some (.int p1), some (.int p2), some (.int p3), some (.int ((10 * p2) + p1)), some (.int r53), some (.int r73)], [.int (r73 - r53)], am_up M73 21 (((10 * p2) + p1).toNatClampNeg) 0)) rfl ⟨hC, trivial⟩ ?_
        cases h
        exact am_R.ret rfl rfl trivial
      · refine am_R.cn rfl rfl hc ?_
        refine am_R.go 1 (q' := (45, [some (.ref 0), some (.int p1), some (.int p2), some (.int p3), some (.int ((10 * p2) + p1)), none, none], [.int 0], M18)) rfl trivial ?_
        cases h
        exact am_R.ret rfl rfl trivial
def f_X10_openSites_4B (N : Nat) (k4 : Int32 → Int32 → am_M → Option (Except Nat (Option Value) × am_M)) (v1 : Int32) (v2 : Int32) (M : am_M) : Option (Except Nat (Option Value) × am_M) :=
  if (M 0 37) ≤ v2 then
    some (.ok (some (.int v1)), M)
  else
    if am_in (2 * v2) 8 ∧ am_in (M 14 ((2 * v2).toNatClampNeg)) 100 then
      if (M 10 ((M 14 ((2 * v2).toNatClampNeg)).toNatClampNeg)) = 0 then
        k4 (v1 ||| (1 <<< (v2 &&& 31))) (v2 + 1) M
      else
        k4 (v1 ||| 0) (v2 + 1) M
    else none
def f_X10_openSites_4 (N : Nat) : Nat → Int32 → Int32 → am_M → Option (Except Nat (Option Value) × am_M)
  | 0 => fun _ _ _ => none
  | n + 1 => f_X10_openSites_4B N (f_X10_openSites_4 N n)
set_option maxRecDepth 100000 in
theorem t_X10_openSites_4B (z : Value) (N : Nat) {r : Except Nat (Option Value)} {M' : am_M} (k4 : Int32 → Int32 → am_M → Option (Except Nat (Option Value) × am_M)) (hk4 : ∀ (v1 : Int32) (v2 : Int32) (M : am_M), k4 v1 v2 M = some (r, M') → mR z me_X10_openSites (4, [some (.ref 0), some (.int v1), some (.int v2)], [], M) r M') (v1 : Int32) (v2 : Int32) (M : am_M) (h : f_X10_openSites_4B N k4 v1 v2 M = some (r, M')) : mR z me_X10_openSites (4, [some (.ref 0), some (.int v1), some (.int v2)], [], M) r M' := by
  unfold f_X10_openSites_4B at h
  refine am_R.go 3 (q' := (9, [some (.ref 0), some (.int v1), some (.int v2)], [.int (M 0 37), .int v2], M)) rfl trivial ?_
  rcases am_it h with ⟨hc, h⟩ | ⟨hc, h⟩
  · refine am_R.bt rfl rfl hc ?_
    refine am_R.go 1 (q' := (45, [some (.ref 0), some (.int v1), some (.int v2)], [.int v1], M)) rfl trivial ?_
    cases h
    exact am_R.ret rfl rfl trivial
  · refine am_R.bn rfl rfl hc ?_
    obtain ⟨hC, h⟩ := am_gd h
    refine am_R.go 10 (q' := (26, [some (.ref 0), some (.int v1), some (.int v2)], [.int (M 10 ((M 14 ((2 * v2).toNatClampNeg)).toNatClampNeg)), .int v1], M)) rfl ⟨hC.1, hC.2, trivial⟩ ?_
    rcases am_it h with ⟨hc, h⟩ | ⟨hc, h⟩
    · refine am_R.cn rfl rfl (fun q => q hc) ?_
      refine am_R.go 8 (q' := (4, [some (.ref 0), some (.int (v1 ||| (1 <<< (v2 &&& 31)))), some (.int (v2 + 1))], [], M)) rfl trivial ?_
      exact hk4 (v1 ||| (1 <<< (v2 &&& 31))) (v2 + 1) _ h
    · refine am_R.ct rfl rfl hc ?_
      refine am_R.go 5 (q' := (4, [some (.ref 0), some (.int (v1 ||| 0)), some (.int (v2 + 1))], [], M)) rfl trivial ?_
      exact hk4 (v1 ||| 0) (v2 + 1) _ h
set_option maxRecDepth 100000 in
theorem t_X10_openSites_4 (z : Value) (N : Nat) {r : Except Nat (Option Value)} {M' : am_M} : ∀ (n : Nat) (v1 : Int32) (v2 : Int32) (M : am_M), f_X10_openSites_4 N n v1 v2 M = some (r, M') → mR z me_X10_openSites (4, [some (.ref 0), some (.int v1), some (.int v2)], [], M) r M' := by
  intro n
  induction n with
  | zero => intro v1 v2 M h; cases h
  | succ n ih => intro v1 v2 M h; exact t_X10_openSites_4B z N _ ih v1 v2 M h
def f_X10_openSites (N : Nat) (M : am_M) : Option (Except Nat (Option Value) × am_M) :=
  f_X10_openSites_4 N N 0 0 M
set_option maxRecDepth 100000 in
theorem t_X10_openSites (z : Value) (N : Nat) (M : am_M) {r : Except Nat (Option Value)} {M' : am_M} (h : f_X10_openSites N M = some (r, M')) : mR z me_X10_openSites (0, [some (.ref 0), none, none], [], M) r M' := by
  unfold f_X10_openSites at h
  refine am_R.go 4 (q' := (4, [some (.ref 0), some (.int 0), some (.int 0)], [], M)) rfl trivial ?_
  exact t_X10_openSites_4 z N N 0 0 _ h
def f_X10_stands_2B (N : Nat) (v1 : Int32) (v2 : Int32) (k2 : Int32 → am_M → Option (Except Nat (Option Value) × am_M)) (v3 : Int32) (M : am_M) : Option (Except Nat (Option Value) × am_M) :=
  if (M 0 37) ≤ v3 then
    some (.ok none, M)
  else
    if ((v1 >>> (v3 &&& 31)) &&& 1) = 1 then
      if am_in (2 * v3) 8 then
        if v2 = 0 then
          if am_in (M 14 ((2 * v3).toNatClampNeg)) 100 then
            k2 (v3 + 1) (am_up M 21 ((M 14 ((2 * v3).toNatClampNeg)).toNatClampNeg) 0)
          else none
        else
          if am_in (M 14 ((2 * v3).toNatClampNeg)) 100 then
            k2 (v3 + 1) (am_up M 21 ((M 14 ((2 * v3).toNatClampNeg)).toNatClampNeg) 5)
          else none
      else none
    else
      k2 (v3 + 1) M
def f_X10_stands_2 (N : Nat) (v1 : Int32) (v2 : Int32) : Nat → Int32 → am_M → Option (Except Nat (Option Value) × am_M)
  | 0 => fun _ _ => none
  | n + 1 => f_X10_stands_2B N v1 v2 (f_X10_stands_2 N v1 v2 n)
set_option maxRecDepth 100000 in
theorem t_X10_stands_2B (z : Value) (N : Nat) (v1 : Int32) (v2 : Int32) {r : Except Nat (Option Value)} {M' : am_M} (k2 : Int32 → am_M → Option (Except Nat (Option Value) × am_M)) (hk2 : ∀ (v3 : Int32) (M : am_M), k2 v3 M = some (r, M') → mR z me_X10_stands (2, [some (.ref 0), some (.int v1), some (.int v2), some (.int v3)], [], M) r M') (v3 : Int32) (M : am_M) (h : f_X10_stands_2B N v1 v2 k2 v3 M = some (r, M')) : mR z me_X10_stands (2, [some (.ref 0), some (.int v1), some (.int v2), some (.int v3)], [], M) r M' := by
  unfold f_X10_stands_2B at h
  refine am_R.go 3 (q' := (7, [some (.ref 0), some (.int v1), some (.int v2), some (.int v3)], [.int (M 0 37), .int v3], M)) rfl trivial ?_
  rcases am_it h with ⟨hc, h⟩ | ⟨hc, h⟩
  · refine am_R.bt rfl rfl hc ?_
    cases h
    exact am_R.ret rfl rfl trivial
  · refine am_R.bn rfl rfl hc ?_
    refine am_R.go 6 (q' := (16, [some (.ref 0), some (.int v1), some (.int v2), some (.int v3)], [.int 1, .int ((v1 >>> (v3 &&& 31)) &&& 1)], M)) rfl trivial ?_
    rcases am_it h with ⟨hc, h⟩ | ⟨hc, h⟩
    · refine am_R.bn rfl rfl (fun q => q hc) ?_
      obtain ⟨hC, h⟩ := am_gd h
      refine am_R.go 9 (q' := (32, [some (.ref 0), some (.int v1), some (.int v2), some (.int v3)], [.int v2, .int (M 14 ((2 * v3).toNatClampNeg)), .ref 21], M)) rfl ⟨hC, trivial⟩ ?_
      rcases am_it h with ⟨hc, h⟩ | ⟨hc, h⟩
      · refine am_R.ct rfl rfl hc ?_
        obtain ⟨hC, h⟩ := am_gd h
        refine am_R.go 4 (q' := (2, [some (.ref 0), some (.int v1), some (.int v2), some (.int (v3 + 1))], [], am_up M 21 ((M 14 ((2 * v3).toNatClampNeg)).toNatClampNeg) 0)) rfl ⟨hC, trivial⟩ ?_
        exact hk2 (v3 + 1) _ h
      · refine am_R.cn rfl rfl hc ?_
        obtain ⟨hC, h⟩ := am_gd h
        refine am_R.go 5 (q' := (2, [some (.ref 0), some (.int v1), some (.int v2), some (.int (v3 + 1))], [], am_up M 21 ((M 14 ((2 * v3).toNatClampNeg)).toNatClampNeg) 5)) rfl ⟨hC, trivial⟩ ?_
        exact hk2 (v3 + 1) _ h
    · refine am_R.bt rfl rfl hc ?_
      refine am_R.go 2 (q' := (2, [some (.ref 0), some (.int v1), some (.int v2), some (.int (v3 + 1))], [], M)) rfl trivial ?_
      exact hk2 (v3 + 1) _ h
set_option maxRecDepth 100000 in
theorem t_X10_stands_2 (z : Value) (N : Nat) (v1 : Int32) (v2 : Int32) {r : Except Nat (Option Value)} {M' : am_M} : ∀ (n : Nat) (v3 : Int32) (M : am_M), f_X10_stands_2 N v1 v2 n v3 M = some (r, M') → mR z me_X10_stands (2, [some (.ref 0), some (.int v1), some (.int v2), some (.int v3)], [], M) r M' := by
  intro n
  induction n with
  | zero => intro v3 M h; cases h
  | succ n ih => intro v3 M h; exact t_X10_stands_2B z N v1 v2 _ ih v3 M h
def f_X10_stands (N : Nat) (p1 : Int32) (p2 : Int32) (M : am_M) : Option (Except Nat (Option Value) × am_M) :=
  f_X10_stands_2 N p1 p2 N 0 M
set_option maxRecDepth 100000 in
theorem t_X10_stands (z : Value) (N : Nat) (p1 : Int32) (p2 : Int32) (M : am_M) {r : Except Nat (Option Value)} {M' : am_M} (h : f_X10_stands N p1 p2 M = some (r, M')) : mR z me_X10_stands (0, [some (.ref 0), some (.int p1), some (.int p2), none], [], M) r M' := by
  unfold f_X10_stands at h
  refine am_R.go 2 (q' := (2, [some (.ref 0), some (.int p1), some (.int p2), some (.int 0)], [], M)) rfl trivial ?_
  exact t_X10_stands_2 z N p1 p2 N 0 _ h
