def f_X10_deaf_106B (N : Nat) (v2 : Int32) (v3 : Int32) (v4 : Int32) (v5 : Int32) (v6 : Int32) (k49 : Int32 → Int32 → am_M → Option (Except Nat (Option Value) × am_M)) (k70 : Int32 → Int32 → am_M → Option (Except Nat (Option Value) × am_M)) (k106 : Int32 → Int32 → am_M → Option (Except Nat (Option Value) × am_M)) (v7 : Int32) (v8 : Int32) (M : am_M) : Option (Except Nat (Option Value) × am_M) :=
  if (M 0 48) ≤ v8 then
    if v7 ≤ v4 then
      k70 v4 (v6 + 1) M
    else
      k70 v7 (v6 + 1) M
  else
    if am_in v8 24 then
      if (M 18 (v8.toNatClampNeg)) < v2 then
        k106 (v7 + 0) (v8 + 1) M
      else
        k106 (v7 + 1) (v8 + 1) M
    else none
def f_X10_deaf_106 (N : Nat) (v2 : Int32) (v3 : Int32) (v4 : Int32) (v5 : Int32) (v6 : Int32) (k49 : Int32 → Int32 → am_M → Option (Except Nat (Option Value) × am_M)) (k70 : Int32 → Int32 → am_M → Option (Except Nat (Option Value) × am_M)) : Nat → Int32 → Int32 → am_M → Option (Except Nat (Option Value) × am_M)
  | 0 => fun _ _ _ => none
  | n + 1 => f_X10_deaf_106B N v2 v3 v4 v5 v6 k49 k70 (f_X10_deaf_106 N v2 v3 v4 v5 v6 k49 k70 n)
set_option maxRecDepth 100000 in
theorem t_X10_deaf_106B (z : Value) (N : Nat) (v2 : Int32) (v3 : Int32) (v4 : Int32) (v5 : Int32) (v6 : Int32) (k49 : Int32 → Int32 → am_M → Option (Except Nat (Option Value) × am_M)) (k70 : Int32 → Int32 → am_M → Option (Except Nat (Option Value) × am_M)) {r : Except Nat (Option Value)} {M' : am_M} (hk49 : ∀ (v4 : Int32) (v5 : Int32) (d1 : Option Value) (d6 : Option Value) (d7 : Option Value) (d8 : Option Value) (M : am_M), k49 v4 v5 M = some (r, M') → mR z me_X10_deaf (49, [some (.ref 0), d1, some (.int v2), some (.int v3), some (.int v4), some (.int v5), d6, d7, d8], [], M) r M') (hk70 : ∀ (v4 : Int32) (v6 : Int32) (d1 : Option Value) (d7 : Option Value) (d8 : Option Value) (M : am_M), k70 v4 v6 M = some (r, M') → mR z me_X10_deaf (70, [some (.ref 0), d1, some (.int v2), some (.int v3), some (.int v4), some (.int v5), some (.int v6), d7, d8], [], M) r M') (k106 : Int32 → Int32 → am_M → Option (Except Nat (Option Value) × am_M)) (hk106 : ∀ (v7 : Int32) (v8 : Int32) (d1 : Option Value) (M : am_M), k106 v7 v8 M = some (r, M') → mR z me_X10_deaf (106, [some (.ref 0), d1, some (.int v2), some (.int v3), some (.int v4), some (.int v5), some (.int v6), some (.int v7), some (.int v8)], [], M) r M') (v7 : Int32) (v8 : Int32) (d1 : Option Value) (M : am_M) (h : f_X10_deaf_106B N v2 v3 v4 v5 v6 k49 k70 k106 v7 v8 M = some (r, M')) : mR z me_X10_deaf (106, [some (.ref 0), d1, some (.int v2), some (.int v3), some (.int v4), some (.int v5), some (.int v6), some (.int v7), some (.int v8)], [], M) r M' := by
  unfold f_X10_deaf_106B at h
  refine am_R.go 3 (q' := (112, [some (.ref 0), d1, some (.int v2), some (.int v3), some (.int v4), some (.int v5), some (.int v6), some (.int v7), some (.int v8)], [.int (M 0 48), .int v8], M)) rfl trivial ?_
  rcases am_it h with ⟨hc, h⟩ | ⟨hc, h⟩
  · refine am_R.bt rfl rfl hc ?_
    refine am_R.go 2 (q' := (146, [some (.ref 0), d1, some (.int v2), some (.int v3), some (.int v4), some (.int v5), some (.int v6), some (.int v7), some (.int v8)], [.int v4, .int v7], M)) rfl trivial ?_
    rcases am_it h with ⟨hc, h⟩ | ⟨hc, h⟩
    · refine am_R.bt rfl rfl hc ?_
      refine am_R.go 4 (q' := (70, [some (.ref 0), d1, some (.int v2), some (.int v3), some (.int v4), some (.int v5), some (.int (v6 + 1)), some (.int v7), some (.int v8)], [], M)) rfl trivial ?_
      exact hk70 v4 (v6 + 1) _ _ _ _ h
    · refine am_R.bn rfl rfl hc ?_
      refine am_R.go 5 (q' := (70, [some (.ref 0), d1, some (.int v2), some (.int v3), some (.int v7), some (.int v5), some (.int (v6 + 1)), some (.int v7), some (.int v8)], [], M)) rfl trivial ?_
      exact hk70 v7 (v6 + 1) _ _ _ _ h
  · refine am_R.bn rfl rfl hc ?_
    obtain ⟨hC, h⟩ := am_gd h
    refine am_R.go 6 (q' := (125, [some (.ref 0), d1, some (.int v2), some (.int v3), some (.int v4), some (.int v5), some (.int v6), some (.int v7), some (.int v8)], [.int v2, .int (M 18 (v8.toNatClampNeg)), .int v7], M)) rfl ⟨hC, trivial⟩ ?_
    rcases am_it h with ⟨hc, h⟩ | ⟨hc, h⟩
    · refine am_R.bt rfl rfl hc ?_
      refine am_R.go 5 (q' := (106, [some (.ref 0), d1, some (.int v2), some (.int v3), some (.int v4), some (.int v5), some (.int v6), some (.int (v7 + 0)), some (.int (v8 + 1))], [], M)) rfl trivial ?_
      exact hk106 (v7 + 0) (v8 + 1) _ _ h
    · refine am_R.bn rfl rfl hc ?_
      refine am_R.go 6 (q' := (106, [some (.ref 0), d1, some (.int v2), some (.int v3), some (.int v4), some (.int v5), some (.int v6), some (.int (v7 + 1)), some (.int (v8 + 1))], [], M)) rfl trivial ?_
      exact hk106 (v7 + 1) (v8 + 1) _ _ h
set_option maxRecDepth 100000 in
theorem t_X10_deaf_106 (z : Value) (N : Nat) (v2 : Int32) (v3 : Int32) (v4 : Int32) (v5 : Int32) (v6 : Int32) (k49 : Int32 → Int32 → am_M → Option (Except Nat (Option Value) × am_M)) (k70 : Int32 → Int32 → am_M → Option (Except Nat (Option Value) × am_M)) {r : Except Nat (Option Value)} {M' : am_M} (hk49 : ∀ (v4 : Int32) (v5 : Int32) (d1 : Option Value) (d6 : Option Value) (d7 : Option Value) (d8 : Option Value) (M : am_M), k49 v4 v5 M = some (r, M') → mR z me_X10_deaf (49, [some (.ref 0), d1, some (.int v2), some (.int v3), some (.int v4), some (.int v5), d6, d7, d8], [], M) r M') (hk70 : ∀ (v4 : Int32) (v6 : Int32) (d1 : Option Value) (d7 : Option Value) (d8 : Option Value) (M : am_M), k70 v4 v6 M = some (r, M') → mR z me_X10_deaf (70, [some (.ref 0), d1, some (.int v2), some (.int v3), some (.int v4), some (.int v5), some (.int v6), d7, d8], [], M) r M') : ∀ (n : Nat) (v7 : Int32) (v8 : Int32) (d1 : Option Value) (M : am_M), f_X10_deaf_106 N v2 v3 v4 v5 v6 k49 k70 n v7 v8 M = some (r, M') → mR z me_X10_deaf (106, [some (.ref 0), d1, some (.int v2), some (.int v3), some (.int v4), some (.int v5), some (.int v6), some (.int v7), some (.int v8)], [], M) r M' := by
  intro n
  induction n with
  | zero => intro v7 v8 d1 M h; cases h
  | succ n ih => intro v7 v8 d1 M h; exact t_X10_deaf_106B z N v2 v3 v4 v5 v6 k49 k70 hk49 hk70 _ ih v7 v8 d1 M h
def f_X10_deaf_70B (N : Nat) (v2 : Int32) (v3 : Int32) (v5 : Int32) (k49 : Int32 → Int32 → am_M → Option (Except Nat (Option Value) × am_M)) (k70 : Int32 → Int32 → am_M → Option (Except Nat (Option Value) × am_M)) (v4 : Int32) (v6 : Int32) (M : am_M) : Option (Except Nat (Option Value) × am_M) :=
  if am_in (v3 + 2) 25 then
    if (M 13 ((v3 + 2).toNatClampNeg)) < v6 then
      k49 v4 (v5 + 1) M
    else
      am_bv (f_X10_shouts N ((10 * v5) + v6) 0 (M 0 40) M) fun M97 =>
        f_X10_deaf_106 N v2 v3 v4 v5 v6 k49 k70 N 0 0 M97
  else none
def f_X10_deaf_70 (N : Nat) (v2 : Int32) (v3 : Int32) (v5 : Int32) (k49 : Int32 → Int32 → am_M → Option (Except Nat (Option Value) × am_M)) : Nat → Int32 → Int32 → am_M → Option (Except Nat (Option Value) × am_M)
  | 0 => fun _ _ _ => none
  | n + 1 => f_X10_deaf_70B N v2 v3 v5 k49 (f_X10_deaf_70 N v2 v3 v5 k49 n)
set_option maxRecDepth 100000 in
theorem t_X10_deaf_70B (z : Value) (N : Nat) (v2 : Int32) (v3 : Int32) (v5 : Int32) (k49 : Int32 → Int32 → am_M → Option (Except Nat (Option Value) × am_M)) {r : Except Nat (Option Value)} {M' : am_M} (hk49 : ∀ (v4 : Int32) (v5 : Int32) (d1 : Option Value) (d6 : Option Value) (d7 : Option Value) (d8 : Option Value) (M : am_M), k49 v4 v5 M = some (r, M') → mR z me_X10_deaf (49, [some (.ref 0), d1, some (.int v2), some (.int v3), some (.int v4), some (.int v5), d6, d7, d8], [], M) r M') (k70 : Int32 → Int32 → am_M → Option (Except Nat (Option Value) × am_M)) (hk70 : ∀ (v4 : Int32) (v6 : Int32) (d1 : Option Value) (d7 : Option Value) (d8 : Option Value) (M : am_M), k70 v4 v6 M = some (r, M') → mR z me_X10_deaf (70, [some (.ref 0), d1, some (.int v2), some (.int v3), some (.int v4), some (.int v5), some (.int v6), d7, d8], [], M) r M') (v4 : Int32) (v6 : Int32) (d1 : Option Value) (d7 : Option Value) (d8 : Option Value) (M : am_M) (h : f_X10_deaf_70B N v2 v3 v5 k49 k70 v4 v6 M = some (r, M')) : mR z me_X10_deaf (70, [some (.ref 0), d1, some (.int v2), some (.int v3), some (.int v4), some (.int v5), some (.int v6), d7, d8], [], M) r M' := by
  unfold f_X10_deaf_70B at h
  obtain ⟨hC, h⟩ := am_gd h
  refine am_R.go 7 (q' := (80, [some (.ref 0), d1, some (.int v2), some (.int v3), some (.int v4), some (.int v5), some (.int v6), d7, d8], [.int (M 13 ((v3 + 2).toNatClampNeg)), .int v6], M)) rfl ⟨hC, trivial⟩ ?_
  rcases am_it h with ⟨hc, h⟩ | ⟨hc, h⟩
  · refine am_R.bt rfl rfl hc ?_
    refine am_R.go 2 (q' := (49, [some (.ref 0), d1, some (.int v2), some (.int v3), some (.int v4), some (.int (v5 + 1)), some (.int v6), d7, d8], [], M)) rfl trivial ?_
    exact hk49 v4 (v5 + 1) _ _ _ _ _ h
  · refine am_R.bn rfl rfl hc ?_
    refine am_R.go 9 (q' := (97, [some (.ref 0), d1, some (.int v2), some (.int v3), some (.int v4), some (.int v5), some (.int v6), d7, d8], [.int (M 0 40), .int 0, .int ((10 * v5) + v6), .ref 0], M)) rfl trivial ?_
    obtain ⟨M97, hz, h⟩ := am_bv_s h
    refine am_R.call (e' := me_X10_shouts) (as := [.ref 0, .int ((10 * v5) + v6), .int 0, .int (M 0 40)]) (rest := []) rfl rfl (Nat.le_of_ble_eq_true rfl) (t_X10_shouts z N ((10 * v5) + v6) 0 (M 0 40) _ hz) ?_
    refine am_R.go 4 (q' := (106, [some (.ref 0), d1, some (.int v2), some (.int v3), some (.int v4), some (.int v5), some (.int v6), some (.int 0), some (.int 0)], [], M97)) rfl trivial ?_
    exact t_X10_deaf_106 z N v2 v3 v4 v5 v6 k49 k70 hk49 hk70 N 0 0 _ _ h
set_option maxRecDepth 100000 in
theorem t_X10_deaf_70 (z : Value) (N : Nat) (v2 : Int32) (v3 : Int32) (v5 : Int32) (k49 : Int32 → Int32 → am_M → Option (Except Nat (Option Value) × am_M)) {r : Except Nat (Option Value)} {M' : am_M} (hk49 : ∀ (v4 : Int32) (v5 : Int32) (d1 : Option Value) (d6 : Option Value) (d7 : Option Value) (d8 : Option Value) (M : am_M), k49 v4 v5 M = some (r, M') → mR z me_X10_deaf (49, [some (.ref 0), d1, some (.int v2), some (.int v3), some (.int v4), some (.int v5), d6, d7, d8], [], M) r M') : ∀ (n : Nat) (v4 : Int32) (v6 : Int32) (d1 : Option Value) (d7 : Option Value) (d8 : Option Value) (M : am_M), f_X10_deaf_70 N v2 v3 v5 k49 n v4 v6 M = some (r, M') → mR z me_X10_deaf (70, [some (.ref 0), d1, some (.int v2), some (.int v3), some (.int v4), some (.int v5), some (.int v6), d7, d8], [], M) r M' := by
  intro n
  induction n with
  | zero => intro v4 v6 d1 d7 d8 M h; cases h
  | succ n ih => intro v4 v6 d1 d7 d8 M h; exact t_X10_deaf_70B z N v2 v3 v5 k49 hk49 _ ih v4 v6 d1 d7 d8 M h
def f_X10_deaf_49B (N : Nat) (v2 : Int32) (v3 : Int32) (k49 : Int32 → Int32 → am_M → Option (Except Nat (Option Value) × am_M)) (v4 : Int32) (v5 : Int32) (M : am_M) : Option (Except Nat (Option Value) × am_M) :=
  if am_in (v3 + 3) 25 then
    if (M 13 ((v3 + 3).toNatClampNeg)) < v5 then
      some (.ok (some (.int v4)), M)
    else
      if am_in v3 25 then
        f_X10_deaf_70 N v2 v3 v5 k49 N v4 (M 13 (v3.toNatClampNeg)) M
      else none
  else none
def f_X10_deaf_49 (N : Nat) (v2 : Int32) (v3 : Int32) : Nat → Int32 → Int32 → am_M → Option (Except Nat (Option Value) × am_M)
  | 0 => fun _ _ _ => none
  | n + 1 => f_X10_deaf_49B N v2 v3 (f_X10_deaf_49 N v2 v3 n)
set_option maxRecDepth 100000 in
theorem t_X10_deaf_49B (z : Value) (N : Nat) (v2 : Int32) (v3 : Int32) {r : Except Nat (Option Value)} {M' : am_M} (k49 : Int32 → Int32 → am_M → Option (Except Nat (Option Value) × am_M)) (hk49 : ∀ (v4 : Int32) (v5 : Int32) (d1 : Option Value) (d6 : Option Value) (d7 : Option Value) (d8 : Option Value) (M : am_M), k49 v4 v5 M = some (r, M') → mR z me_X10_deaf (49, [some (.ref 0), d1, some (.int v2), some (.int v3), some (.int v4), some (.int v5), d6, d7, d8], [], M) r M') (v4 : Int32) (v5 : Int32) (d1 : Option Value) (d6 : Option Value) (d7 : Option Value) (d8 : Option Value) (M : am_M) (h : f_X10_deaf_49B N v2 v3 k49 v4 v5 M = some (r, M')) : mR z me_X10_deaf (49, [some (.ref 0), d1, some (.int v2), some (.int v3), some (.int v4), some (.int v5), d6, d7, d8], [], M) r M' := by
  unfold f_X10_deaf_49B at h
  obtain ⟨hC, h⟩ := am_gd h
  refine am_R.go 7 (q' := (59, [some (.ref 0), d1, some (.int v2), some (.int v3), some (.int v4), some (.int v5), d6, d7, d8], [.int (M 13 ((v3 + 3).toNatClampNeg)), .int v5], M)) rfl ⟨hC, trivial⟩ ?_
  rcases am_it h with ⟨hc, h⟩ | ⟨hc, h⟩
  · refine am_R.bt rfl rfl hc ?_
    refine am_R.go 1 (q' := (172, [some (.ref 0), d1, some (.int v2), some (.int v3), some (.int v4), some (.int v5), d6, d7, d8], [.int v4], M)) rfl trivial ?_
    cases h
    exact am_R.ret rfl rfl trivial
  · refine am_R.bn rfl rfl hc ?_
    obtain ⟨hC, h⟩ := am_gd h
    refine am_R.go 5 (q' := (70, [some (.ref 0), d1, some (.int v2), some (.int v3), some (.int v4), some (.int v5), some (.int (M 13 (v3.toNatClampNeg))), d7, d8], [], M)) rfl ⟨hC, trivial⟩ ?_
    exact t_X10_deaf_70 z N v2 v3 v5 k49 hk49 N v4 (M 13 (v3.toNatClampNeg)) _ _ _ _ h
set_option maxRecDepth 100000 in
theorem t_X10_deaf_49 (z : Value) (N : Nat) (v2 : Int32) (v3 : Int32) {r : Except Nat (Option Value)} {M' : am_M} : ∀ (n : Nat) (v4 : Int32) (v5 : Int32) (d1 : Option Value) (d6 : Option Value) (d7 : Option Value) (d8 : Option Value) (M : am_M), f_X10_deaf_49 N v2 v3 n v4 v5 M = some (r, M') → mR z me_X10_deaf (49, [some (.ref 0), d1, some (.int v2), some (.int v3), some (.int v4), some (.int v5), d6, d7, d8], [], M) r M' := by
  intro n
  induction n with
  | zero => intro v4 v5 d1 d6 d7 d8 M h; cases h
  | succ n ih => intro v4 v5 d1 d6 d7 d8 M h; exact t_X10_deaf_49B z N v2 v3 _ ih v4 v5 d1 d6 d7 d8 M h
def f_X10_deaf (N : Nat) (p1 : Int32) (p2 : Int32) (M : am_M) : Option (Except Nat (Option Value) × am_M) :=
  am_bi (f_X10_isField N p1 1 (am_up M 0 0 0)) fun r8 M8 =>
    if r8 = 0 then
      some (.ok (some (.int 0)), M8)
    else
      am_bi (f_X10_within N p2 1 99 M8) fun r19 M19 =>
        am_bi (f_X10_may N r19 2 2 M19) fun r24 M24 =>
          if r24 = 0 then
            some (.ok (some (.int 0)), M24)
          else
            if am_in ((5 * p1) + 1) 25 then
              f_X10_deaf_49 N p2 (5 * p1) N 0 (M24 13 (((5 * p1) + 1).toNatClampNeg)) M24
            else none
set_option maxRecDepth 100000 in
theorem t_X10_deaf (z : Value) (N : Nat) (p1 : Int32) (p2 : Int32) (M : am_M) {r : Except Nat (Option Value)} {M' : am_M} (h : f_X10_deaf N p1 p2 M = some (r, M')) : mR z me_X10_deaf (0, [some (.ref 0), some (.int p1), some (.int p2), none, none, none, none, none, none], [], M) r M' := by
  unfold f_X10_deaf at h
  refine am_R.go 6 (q' := (8, [some (.ref 0), some (.int p1), some (.int p2), none, none, none, none, none, none], [.int 1, .int p1, .ref 0], am_up M 0 0 0)) rfl trivial ?_
  obtain ⟨r8, M8, hz, h⟩ := am_bi_s h
  refine am_R.call (e' := me_X10_isField) (as := [.ref 0, .int p1, .int 1]) (rest := []) rfl rfl (Nat.le_of_ble_eq_true rfl) (t_X10_isField z N p1 1 _ hz) ?_
  rcases am_it h with ⟨hc, h⟩ | ⟨hc, h⟩
  · refine am_R.ct rfl rfl hc ?_
    refine am_R.go 1 (q' := (31, [some (.ref 0), some (.int p1), some (.int p2), none, none, none, none, none, none], [.int 0], M8)) rfl trivial ?_
    cases h
    exact am_R.ret rfl rfl trivial
  · refine am_R.cn rfl rfl hc ?_
    refine am_R.go 4 (q' := (19, [some (.ref 0), some (.int p1), some (.int p2), none, none, none, none, none, none], [.int 99, .int 1, .int p2, .ref 0], M8)) rfl trivial ?_
    obtain ⟨r19, M19, hz, h⟩ := am_bi_s h
    refine am_R.call (e' := me_X10_within) (as := [.int p2, .int 1, .int 99]) (rest := [.ref 0]) rfl rfl (Nat.le_of_ble_eq_true rfl) (t_X10_within z N p2 1 99 _ hz) ?_
    refine am_R.go 2 (q' := (24, [some (.ref 0), some (.int p1), some (.int p2), none, none, none, none, none, none], [.int 2, .int 2, .int r19, .ref 0], M19)) rfl trivial ?_
    obtain ⟨r24, M24, hz, h⟩ := am_bi_s h
    refine am_R.call (e' := me_X10_may) (as := [.ref 0, .int r19, .int 2, .int 2]) (rest := []) rfl rfl (Nat.le_of_ble_eq_true rfl) (t_X10_may z N r19 2 2 _ hz) ?_
    rcases am_it h with ⟨hc, h⟩ | ⟨hc, h⟩
    · refine am_R.cn rfl rfl (fun q => q hc) ?_
      refine am_R.go 1 (q' := (31, [some (.ref 0), some (.int p1), some (.int p2), none, none, none, none, none, none], [.int 0], M24)) rfl trivial ?_
      cases h
      exact am_R.ret rfl rfl trivial
    · refine am_R.ct rfl rfl hc ?_
      obtain ⟨hC, h⟩ := am_gd h
      refine am_R.go 13 (q' := (49, [some (.ref 0), some (.int p1), some (.int p2), some (.int (5 * p1)), some (.int 0), some (.int (M24 13 (((5 * p1) + 1).toNatClampNeg))), none, none, none], [], M24)) rfl ⟨hC, trivial⟩ ?_
      exact t_X10_deaf_49 z N p2 (5 * p1) N 0 (M24 13 (((5 * p1) + 1).toNatClampNeg)) _ _ _ _ _ h
def f_X10_keeps_10_3B (N : Nat) (v1 : Int32) (v3 : Int32) (v4 : Int32) (k3 : Int32 → am_M → Option (Except Nat (Option Value) × am_M)) (v5 : Int32) (M : am_M) : Option (Except Nat (Option Value) × am_M) :=
  if v3 ≤ v5 then
    some (.ok (some (.int (v1 + v3))), M)
  else
    if v4 = 0 then
      if am_in (v1 + v5) 687 ∧ am_in v5 100 then
        k3 (v5 + 1) (am_up M 10 (v5.toNatClampNeg) (M 28 ((v1 + v5).toNatClampNeg)))
      else none
    else
      if am_in v5 100 ∧ am_in (v1 + v5) 687 then
        k3 (v5 + 1) (am_up M 28 ((v1 + v5).toNatClampNeg) (M 10 (v5.toNatClampNeg)))
      else none
def f_X10_keeps_10_3 (N : Nat) (v1 : Int32) (v3 : Int32) (v4 : Int32) : Nat → Int32 → am_M → Option (Except Nat (Option Value) × am_M)
  | 0 => fun _ _ => none
  | n + 1 => f_X10_keeps_10_3B N v1 v3 v4 (f_X10_keeps_10_3 N v1 v3 v4 n)
set_option maxRecDepth 100000 in
theorem t_X10_keeps_10_3B (z : Value) (N : Nat) (v1 : Int32) (v3 : Int32) (v4 : Int32) {r : Except Nat (Option Value)} {M' : am_M} (k3 : Int32 → am_M → Option (Except Nat (Option Value) × am_M)) (hk3 : ∀ (v5 : Int32) (M : am_M), k3 v5 M = some (r, M') → mR z me_X10_keeps (3, [some (.ref 0), some (.int v1), some (.ref 10), some (.int v3), some (.int v4), some (.int v5)], [], M) r M') (v5 : Int32) (M : am_M) (h : f_X10_keeps_10_3B N v1 v3 v4 k3 v5 M = some (r, M')) : mR z me_X10_keeps (3, [some (.ref 0), some (.int v1), some (.ref 10), some (.int v3), some (.int v4), some (.int v5)], [], M) r M' := by
  unfold f_X10_keeps_10_3B at h
  refine am_R.go 2 (q' := (6, [some (.ref 0), some (.int v1), some (.ref 10), some (.int v3), some (.int v4), some (.int v5)], [.int v3, .int v5], M)) rfl trivial ?_
  rcases am_it h with ⟨hc, h⟩ | ⟨hc, h⟩
  · refine am_R.bt rfl rfl hc ?_
    refine am_R.go 3 (q' := (52, [some (.ref 0), some (.int v1), some (.ref 10), some (.int v3), some (.int v4), some (.int v5)], [.int (v1 + v3)], M)) rfl trivial ?_
    cases h
    exact am_R.ret rfl rfl trivial
  · refine am_R.bn rfl rfl hc ?_
    refine am_R.go 1 (q' := (11, [some (.ref 0), some (.int v1), some (.ref 10), some (.int v3), some (.int v4), some (.int v5)], [.int v4], M)) rfl trivial ?_
    rcases am_it h with ⟨hc, h⟩ | ⟨hc, h⟩
    · refine am_R.ct rfl rfl hc ?_
      obtain ⟨hC, h⟩ := am_gd h
      refine am_R.go 11 (q' := (3, [some (.ref 0), some (.int v1), some (.ref 10), some (.int v3), some (.int v4), some (.int (v5 + 1))], [], am_up M 10 (v5.toNatClampNeg) (M 28 ((v1 + v5).toNatClampNeg)))) rfl ⟨hC.1, hC.2, trivial⟩ ?_
      exact hk3 (v5 + 1) _ h
    · refine am_R.cn rfl rfl hc ?_
      obtain ⟨hC, h⟩ := am_gd h
      refine am_R.go 12 (q' := (3, [some (.ref 0), some (.int v1), some (.ref 10), some (.int v3), some (.int v4), some (.int (v5 + 1))], [], am_up M 28 ((v1 + v5).toNatClampNeg) (M 10 (v5.toNatClampNeg)))) rfl ⟨hC.1, hC.2, trivial⟩ ?_
      exact hk3 (v5 + 1) _ h
set_option maxRecDepth 100000 in
theorem t_X10_keeps_10_3 (z : Value) (N : Nat) (v1 : Int32) (v3 : Int32) (v4 : Int32) {r : Except Nat (Option Value)} {M' : am_M} : ∀ (n : Nat) (v5 : Int32) (M : am_M), f_X10_keeps_10_3 N v1 v3 v4 n v5 M = some (r, M') → mR z me_X10_keeps (3, [some (.ref 0), some (.int v1), some (.ref 10), some (.int v3), some (.int v4), some (.int v5)], [], M) r M' := by
  intro n
  induction n with
  | zero => intro v5 M h; cases h
  | succ n ih => intro v5 M h; exact t_X10_keeps_10_3B z N v1 v3 v4 _ ih v5 M h
def f_X10_keeps_10 (N : Nat) (p1 : Int32) (p3 : Int32) (p4 : Int32) (M : am_M) : Option (Except Nat (Option Value) × am_M) :=
  f_X10_keeps_10_3 N p1 p3 p4 N 0 M
set_option maxRecDepth 100000 in
theorem t_X10_keeps_10 (z : Value) (N : Nat) (p1 : Int32) (p3 : Int32) (p4 : Int32) (M : am_M) {r : Except Nat (Option Value)} {M' : am_M} (h : f_X10_keeps_10 N p1 p3 p4 M = some (r, M')) : mR z me_X10_keeps (0, [some (.ref 0), some (.int p1), some (.ref 10), some (.int p3), some (.int p4), none], [], M) r M' := by
  unfold f_X10_keeps_10 at h
  refine am_R.go 2 (q' := (3, [some (.ref 0), some (.int p1), some (.ref 10), some (.int p3), some (.int p4), some (.int 0)], [], M)) rfl trivial ?_
  exact t_X10_keeps_10_3 z N p1 p3 p4 N 0 _ h
def f_X10_keeps_11_3B (N : Nat) (v1 : Int32) (v3 : Int32) (v4 : Int32) (k3 : Int32 → am_M → Option (Except Nat (Option Value) × am_M)) (v5 : Int32) (M : am_M) : Option (Except Nat (Option Value) × am_M) :=
  if v3 ≤ v5 then
    some (.ok (some (.int (v1 + v3))), M)
  else
    if v4 = 0 then
      if am_in (v1 + v5) 687 ∧ am_in v5 100 then
        k3 (v5 + 1) (am_up M 11 (v5.toNatClampNeg) (M 28 ((v1 + v5).toNatClampNeg)))
      else none
    else
      if am_in v5 100 ∧ am_in (v1 + v5) 687 then
        k3 (v5 + 1) (am_up M 28 ((v1 + v5).toNatClampNeg) (M 11 (v5.toNatClampNeg)))
      else none
def f_X10_keeps_11_3 (N : Nat) (v1 : Int32) (v3 : Int32) (v4 : Int32) : Nat → Int32 → am_M → Option (Except Nat (Option Value) × am_M)
  | 0 => fun _ _ => none
  | n + 1 => f_X10_keeps_11_3B N v1 v3 v4 (f_X10_keeps_11_3 N v1 v3 v4 n)
set_option maxRecDepth 100000 in
theorem t_X10_keeps_11_3B (z : Value) (N : Nat) (v1 : Int32) (v3 : Int32) (v4 : Int32) {r : Except Nat (Option Value)} {M' : am_M} (k3 : Int32 → am_M → Option (Except Nat (Option Value) × am_M)) (hk3 : ∀ (v5 : Int32) (M : am_M), k3 v5 M = some (r, M') → mR z me_X10_keeps (3, [some (.ref 0), some (.int v1), some (.ref 11), some (.int v3), some (.int v4), some (.int v5)], [], M) r M') (v5 : Int32) (M : am_M) (h : f_X10_keeps_11_3B N v1 v3 v4 k3 v5 M = some (r, M')) : mR z me_X10_keeps (3, [some (.ref 0), some (.int v1), some (.ref 11), some (.int v3), some (.int v4), some (.int v5)], [], M) r M' := by
  unfold f_X10_keeps_11_3B at h
  refine am_R.go 2 (q' := (6, [some (.ref 0), some (.int v1), some (.ref 11), some (.int v3), some (.int v4), some (.int v5)], [.int v3, .int v5], M)) rfl trivial ?_
  rcases am_it h with ⟨hc, h⟩ | ⟨hc, h⟩
  · refine am_R.bt rfl rfl hc ?_
    refine am_R.go 3 (q' := (52, [some (.ref 0), some (.int v1), some (.ref 11), some (.int v3), some (.int v4), some (.int v5)], [.int (v1 + v3)], M)) rfl trivial ?_
    cases h
    exact am_R.ret rfl rfl trivial
  · refine am_R.bn rfl rfl hc ?_
    refine am_R.go 1 (q' := (11, [some (.ref 0), some (.int v1), some (.ref 11), some (.int v3), some (.int v4), some (.int v5)], [.int v4], M)) rfl trivial ?_
    rcases am_it h with ⟨hc, h⟩ | ⟨hc, h⟩
    · refine am_R.ct rfl rfl hc ?_
      obtain ⟨hC, h⟩ := am_gd h
      refine am_R.go 11 (q' := (3, [some (.ref 0), some (.int v1), some (.ref 11), some (.int v3), some (.int v4), some (.int (v5 + 1))], [], am_up M 11 (v5.toNatClampNeg) (M 28 ((v1 + v5).toNatClampNeg)))) rfl ⟨hC.1, hC.2, trivial⟩ ?_
      exact hk3 (v5 + 1) _ h
    · refine am_R.cn rfl rfl hc ?_
      obtain ⟨hC, h⟩ := am_gd h
      refine am_R.go 12 (q' := (3, [some (.ref 0), some (.int v1), some (.ref 11), some (.int v3), some (.int v4), some (.int (v5 + 1))], [], am_up M 28 ((v1 + v5).toNatClampNeg) (M 11 (v5.toNatClampNeg)))) rfl ⟨hC.1, hC.2, trivial⟩ ?_
      exact hk3 (v5 + 1) _ h
set_option maxRecDepth 100000 in
theorem t_X10_keeps_11_3 (z : Value) (N : Nat) (v1 : Int32) (v3 : Int32) (v4 : Int32) {r : Except Nat (Option Value)} {M' : am_M} : ∀ (n : Nat) (v5 : Int32) (M : am_M), f_X10_keeps_11_3 N v1 v3 v4 n v5 M = some (r, M') → mR z me_X10_keeps (3, [some (.ref 0), some (.int v1), some (.ref 11), some (.int v3), some (.int v4), some (.int v5)], [], M) r M' := by
  intro n
  induction n with
  | zero => intro v5 M h; cases h
  | succ n ih => intro v5 M h; exact t_X10_keeps_11_3B z N v1 v3 v4 _ ih v5 M h
def f_X10_keeps_11 (N : Nat) (p1 : Int32) (p3 : Int32) (p4 : Int32) (M : am_M) : Option (Except Nat (Option Value) × am_M) :=
  f_X10_keeps_11_3 N p1 p3 p4 N 0 M
set_option maxRecDepth 100000 in
theorem t_X10_keeps_11 (z : Value) (N : Nat) (p1 : Int32) (p3 : Int32) (p4 : Int32) (M : am_M) {r : Except Nat (Option Value)} {M' : am_M} (h : f_X10_keeps_11 N p1 p3 p4 M = some (r, M')) : mR z me_X10_keeps (0, [some (.ref 0), some (.int p1), some (.ref 11), some (.int p3), some (.int p4), none], [], M) r M' := by
  unfold f_X10_keeps_11 at h
  refine am_R.go 2 (q' := (3, [some (.ref 0), some (.int p1), some (.ref 11), some (.int p3), some (.int p4), some (.int 0)], [], M)) rfl trivial ?_
  exact t_X10_keeps_11_3 z N p1 p3 p4 N 0 _ h
def f_X10_keeps_25_3B (N : Nat) (v1 : Int32) (v3 : Int32) (v4 : Int32) (k3 : Int32 → am_M → Option (Except Nat (Option Value) × am_M)) (v5 : Int32) (M : am_M) : Option (Except Nat (Option Value) × am_M) :=
  if v3 ≤ v5 then
    some (.ok (some (.int (v1 + v3))), M)
  else
    if v4 = 0 then
      if am_in (v1 + v5) 687 ∧ am_in v5 27 then
        k3 (v5 + 1) (am_up M 25 (v5.toNatClampNeg) (M 28 ((v1 + v5).toNatClampNeg)))
      else none
    else
      if am_in v5 27 ∧ am_in (v1 + v5) 687 then
        k3 (v5 + 1) (am_up M 28 ((v1 + v5).toNatClampNeg) (M 25 (v5.toNatClampNeg)))
      else none
def f_X10_keeps_25_3 (N : Nat) (v1 : Int32) (v3 : Int32) (v4 : Int32) : Nat → Int32 → am_M → Option (Except Nat (Option Value) × am_M)
  | 0 => fun _ _ => none
  | n + 1 => f_X10_keeps_25_3B N v1 v3 v4 (f_X10_keeps_25_3 N v1 v3 v4 n)
set_option maxRecDepth 100000 in
theorem t_X10_keeps_25_3B (z : Value) (N : Nat) (v1 : Int32) (v3 : Int32) (v4 : Int32) {r : Except Nat (Option Value)} {M' : am_M} (k3 : Int32 → am_M → Option (Except Nat (Option Value) × am_M)) (hk3 : ∀ (v5 : Int32) (M : am_M), k3 v5 M = some (r, M') → mR z me_X10_keeps (3, [some (.ref 0), some (.int v1), some (.ref 25), some (.int v3), some (.int v4), some (.int v5)], [], M) r M') (v5 : Int32) (M : am_M) (h : f_X10_keeps_25_3B N v1 v3 v4 k3 v5 M = some (r, M')) : mR z me_X10_keeps (3, [some (.ref 0), some (.int v1), some (.ref 25), some (.int v3), some (.int v4), some (.int v5)], [], M) r M' := by
  unfold f_X10_keeps_25_3B at h
  refine am_R.go 2 (q' := (6, [some (.ref 0), some (.int v1), some (.ref 25), some (.int v3), some (.int v4), some (.int v5)], [.int v3, .int v5], M)) rfl trivial ?_
  rcases am_it h with ⟨hc, h⟩ | ⟨hc, h⟩
  · refine am_R.bt rfl rfl hc ?_
    refine am_R.go 3 (q' := (52, [some (.ref 0), some (.int v1), some (.ref 25), some (.int v3), some (.int v4), some (.int v5)], [.int (v1 + v3)], M)) rfl trivial ?_
    cases h
    exact am_R.ret rfl rfl trivial
  · refine am_R.bn rfl rfl hc ?_
    refine am_R.go 1 (q' := (11, [some (.ref 0), some (.int v1), some (.ref 25), some (.int v3), some (.int v4), some (.int v5)], [.int v4], M)) rfl trivial ?_
    rcases am_it h with ⟨hc, h⟩ | ⟨hc, h⟩
    · refine am_R.ct rfl rfl hc ?_
      obtain ⟨hC, h⟩ := am_gd h
      refine am_R.go 11 (q' := (3, [some (.ref 0), some (.int v1), some (.ref 25), some (.int v3), some (.int v4), some (.int (v5 + 1))], [], am_up M 25 (v5.toNatClampNeg) (M 28 ((v1 + v5).toNatClampNeg)))) rfl ⟨hC.1, hC.2, trivial⟩ ?_
      exact hk3 (v5 + 1) _ h
    · refine am_R.cn rfl rfl hc ?_
      obtain ⟨hC, h⟩ := am_gd h
      refine am_R.go 12 (q' := (3, [some (.ref 0), some (.int v1), some (.ref 25), some (.int v3), some (.int v4), some (.int (v5 + 1))], [], am_up M 28 ((v1 + v5).toNatClampNeg) (M 25 (v5.toNatClampNeg)))) rfl ⟨hC.1, hC.2, trivial⟩ ?_
      exact hk3 (v5 + 1) _ h
set_option maxRecDepth 100000 in
theorem t_X10_keeps_25_3 (z : Value) (N : Nat) (v1 : Int32) (v3 : Int32) (v4 : Int32) {r : Except Nat (Option Value)} {M' : am_M} : ∀ (n : Nat) (v5 : Int32) (M : am_M), f_X10_keeps_25_3 N v1 v3 v4 n v5 M = some (r, M') → mR z me_X10_keeps (3, [some (.ref 0), some (.int v1), some (.ref 25), some (.int v3), some (.int v4), some (.int v5)], [], M) r M' := by
  intro n
  induction n with
  | zero => intro v5 M h; cases h
  | succ n ih => intro v5 M h; exact t_X10_keeps_25_3B z N v1 v3 v4 _ ih v5 M h
def f_X10_keeps_25 (N : Nat) (p1 : Int32) (p3 : Int32) (p4 : Int32) (M : am_M) : Option (Except Nat (Option Value) × am_M) :=
  f_X10_keeps_25_3 N p1 p3 p4 N 0 M
set_option maxRecDepth 100000 in
theorem t_X10_keeps_25 (z : Value) (N : Nat) (p1 : Int32) (p3 : Int32) (p4 : Int32) (M : am_M) {r : Except Nat (Option Value)} {M' : am_M} (h : f_X10_keeps_25 N p1 p3 p4 M = some (r, M')) : mR z me_X10_keeps (0, [some (.ref 0), some (.int p1), some (.ref 25), some (.int p3), some (.int p4), none], [], M) r M' := by
  unfold f_X10_keeps_25 at h
  refine am_R.go 2 (q' := (3, [some (.ref 0), some (.int p1), some (.ref 25), some (.int p3), some (.int p4), some (.int 0)], [], M)) rfl trivial ?_
  exact t_X10_keeps_25_3 z N p1 p3 p4 N 0 _ h
def f_X10_keepsAll (N : Nat) (p1 : Int32) (p2 : Int32) (M : am_M) : Option (Except Nat (Option Value) × am_M) :=
  am_bi (f_X10_keeps_10 N (229 * p1) 100 p2 M) fun r13 M13 =>
    am_bi (f_X10_keeps_11 N r13 100 p2 M13) fun r26 M26 =>
      am_bi (f_X10_keeps_25 N r26 27 p2 M26) fun r39 M39 =>
        if p2 = 0 then
          if am_in r39 687 ∧ am_in (r39 + 1) 687 then
            some (.ok none, am_up (am_up M39 0 42 (M39 28 (r39.toNatClampNeg))) 0 60 (M39 28 ((r39 + 1).toNatClampNeg)))
          else none
        else
          if am_in r39 687 ∧ am_in (r39 + 1) 687 then
            some (.ok none, am_up (am_up M39 28 (r39.toNatClampNeg) (M39 0 42)) 28 ((r39 + 1).toNatClampNeg) (M39 0 60))
          else none
set_option maxRecDepth 100000 in
theorem t_X10_keepsAll (z : Value) (N : Nat) (p1 : Int32) (p2 : Int32) (M : am_M) {r : Except Nat (Option Value)} {M' : am_M} (h : f_X10_keepsAll N p1 p2 M = some (r, M')) : mR z me_X10_keepsAll (0, [some (.ref 0), some (.int p1), some (.int p2), none], [], M) r M' := by
  unfold f_X10_keepsAll at h
  refine am_R.go 8 (q' := (13, [some (.ref 0), some (.int p1), some (.int p2), none], [.int p2, .int 100, .ref 10, .int (229 * p1), .ref 0], M)) rfl trivial ?_
  obtain ⟨r13, M13, hz, h⟩ := am_bi_s h
  refine am_R.call (e' := me_X10_keeps) (as := [.ref 0, .int (229 * p1), .ref 10, .int 100, .int p2]) (rest := []) rfl rfl (Nat.le_of_ble_eq_true rfl) (t_X10_keeps_10 z N (229 * p1) 100 p2 _ hz) ?_
  refine am_R.go 7 (q' := (26, [some (.ref 0), some (.int p1), some (.int p2), some (.int r13)], [.int p2, .int 100, .ref 11, .int r13, .ref 0], M13)) rfl trivial ?_
  obtain ⟨r26, M26, hz, h⟩ := am_bi_s h
  refine am_R.call (e' := me_X10_keeps) (as := [.ref 0, .int r13, .ref 11, .int 100, .int p2]) (rest := []) rfl rfl (Nat.le_of_ble_eq_true rfl) (t_X10_keeps_11 z N r13 100 p2 _ hz) ?_
  refine am_R.go 7 (q' := (39, [some (.ref 0), some (.int p1), some (.int p2), some (.int r26)], [.int p2, .int 27, .ref 25, .int r26, .ref 0], M26)) rfl trivial ?_
  obtain ⟨r39, M39, hz, h⟩ := am_bi_s h
  refine am_R.call (e' := me_X10_keeps) (as := [.ref 0, .int r26, .ref 25, .int 27, .int p2]) (rest := []) rfl rfl (Nat.le_of_ble_eq_true rfl) (t_X10_keeps_25 z N r26 27 p2 _ hz) ?_
  refine am_R.go 2 (q' := (44, [some (.ref 0), some (.int p1), some (.int p2), some (.int r39)], [.int p2], M39)) rfl trivial ?_
  rcases am_it h with ⟨hc, h⟩ | ⟨hc, h⟩
  · refine am_R.ct rfl rfl hc ?_
    obtain ⟨hC, h⟩ := am_gd h
    refine am_R.go 14 (q' := (94, [some (.ref 0), some (.int p1), some (.int p2), some (.int r39)], [], am_up (am_up M39 0 42 (M39 28 (r39.toNatClampNeg))) 0 60 (M39 28 ((r39 + 1).toNatClampNeg)))) rfl ⟨hC.1, hC.2, trivial⟩ ?_
    cases h
    exact am_R.ret rfl rfl trivial
  · refine am_R.cn rfl rfl hc ?_
    obtain ⟨hC, h⟩ := am_gd h
    refine am_R.go 15 (q' := (94, [some (.ref 0), some (.int p1), some (.int p2), some (.int r39)], [], am_up (am_up M39 28 (r39.toNatClampNeg) (M39 0 42)) 28 ((r39 + 1).toNatClampNeg) (M39 0 60))) rfl ⟨hC.1, hC.2, trivial⟩ ?_
    cases h
    exact am_R.ret rfl rfl trivial
def f_X10_image (N : Nat) (M : am_M) : Option (Except Nat (Option Value) × am_M) :=
  if (M 0 65) = 3 then
    some (.ok (some (.int (-1))), am_up M 0 0 0)
  else
    am_bv (f_X10_keepsAll N (M 0 65) 1 (am_up M 0 0 0)) fun M21 =>
      some (.ok (some (.int ((M21 0 65) + 1))), am_up M21 0 65 ((M21 0 65) + 1))
set_option maxRecDepth 100000 in
theorem t_X10_image (z : Value) (N : Nat) (M : am_M) {r : Except Nat (Option Value)} {M' : am_M} (h : f_X10_image N M = some (r, M')) : mR z me_X10_image (0, [some (.ref 0)], [], M) r M' := by
  unfold f_X10_image at h
  refine am_R.go 6 (q' := (10, [some (.ref 0)], [.int 3, .int (M 0 65)], am_up M 0 0 0)) rfl trivial ?_
  rcases am_it h with ⟨hc, h⟩ | ⟨hc, h⟩
  · refine am_R.bn rfl rfl (fun q => q hc) ?_
    refine am_R.go 1 (q' := (14, [some (.ref 0)], [.int (-1)], am_up M 0 0 0)) rfl trivial ?_
    cases h
    exact am_R.ret rfl rfl trivial
  · refine am_R.bt rfl rfl hc ?_
    refine am_R.go 4 (q' := (21, [some (.ref 0)], [.int 1, .int (M 0 65), .ref 0], am_up M 0 0 0)) rfl trivial ?_
    obtain ⟨M21, hz, h⟩ := am_bv_s h
    refine am_R.call (e' := me_X10_keepsAll) (as := [.ref 0, .int (M 0 65), .int 1]) (rest := []) rfl rfl (Nat.le_of_ble_eq_true rfl) (t_X10_keepsAll z N (M 0 65) 1 _ hz) ?_
    refine am_R.go 8 (q' := (38, [some (.ref 0)], [.int ((M21 0 65) + 1)], am_up M21 0 65 ((M21 0 65) + 1))) rfl trivial ?_
    cases h
    exact am_R.ret rfl rfl trivial
def f_X10_restore (N : Nat) (M : am_M) : Option (Except Nat (Option Value) × am_M) :=
  if (M 0 65) = 0 then
    some (.ok (some (.int (-1))), am_up M 0 0 0)
  else
    am_bv (f_X10_keepsAll N ((M 0 65) - 1) 0 (am_up (am_up M 0 0 0) 0 65 ((M 0 65) - 1))) fun M30 =>
      some (.ok (some (.int (M30 0 65))), M30)
set_option maxRecDepth 100000 in
theorem t_X10_restore (z : Value) (N : Nat) (M : am_M) {r : Except Nat (Option Value)} {M' : am_M} (h : f_X10_restore N M = some (r, M')) : mR z me_X10_restore (0, [some (.ref 0)], [], M) r M' := by
  unfold f_X10_restore at h
  refine am_R.go 5 (q' := (9, [some (.ref 0)], [.int (M 0 65)], am_up M 0 0 0)) rfl trivial ?_
  rcases am_it h with ⟨hc, h⟩ | ⟨hc, h⟩
  · refine am_R.cn rfl rfl (fun q => q hc) ?_
    refine am_R.go 1 (q' := (13, [some (.ref 0)], [.int (-1)], am_up M 0 0 0)) rfl trivial ?_
    cases h
    exact am_R.ret rfl rfl trivial
  · refine am_R.ct rfl rfl hc ?_
    refine am_R.go 10 (q' := (30, [some (.ref 0)], [.int 0, .int ((M 0 65) - 1), .ref 0], am_up (am_up M 0 0 0) 0 65 ((M 0 65) - 1))) rfl trivial ?_
    obtain ⟨M30, hz, h⟩ := am_bv_s h
    refine am_R.call (e' := me_X10_keepsAll) (as := [.ref 0, .int ((M 0 65) - 1), .int 0]) (rest := []) rfl rfl (Nat.le_of_ble_eq_true rfl) (t_X10_keepsAll z N ((M 0 65) - 1) 0 _ hz) ?_
    refine am_R.go 2 (q' := (37, [some (.ref 0)], [.int (M30 0 65)], M30)) rfl trivial ?_
    cases h
    exact am_R.ret rfl rfl trivial
def f_X10_status (N : Nat) (p1 : Int32) (M : am_M) : Option (Except Nat (Option Value) × am_M) :=
  am_bi (f_X10_within N p1 0 2 (am_up M 0 0 0)) fun r8 M8 =>
    if r8 = 0 then
      some (.ok (some (.int (-1))), M8)
    else
      if am_in p1 3 then
        some (.ok (some (.int (M8 1 (p1.toNatClampNeg)))), M8)
      else none
set_option maxRecDepth 100000 in
theorem t_X10_status (z : Value) (N : Nat) (p1 : Int32) (M : am_M) {r : Except Nat (Option Value)} {M' : am_M} (h : f_X10_status N p1 M = some (r, M')) : mR z me_X10_status (0, [some (.ref 0), some (.int p1)], [], M) r M' := by
  unfold f_X10_status at h
  refine am_R.go 6 (q' := (8, [some (.ref 0), some (.int p1)], [.int 2, .int 0, .int p1], am_up M 0 0 0)) rfl trivial ?_
  obtain ⟨r8, M8, hz, h⟩ := am_bi_s h
  refine am_R.call (e' := me_X10_within) (as := [.int p1, .int 0, .int 2]) (rest := []) rfl rfl (Nat.le_of_ble_eq_true rfl) (t_X10_within z N p1 0 2 _ hz) ?_
  rcases am_it h with ⟨hc, h⟩ | ⟨hc, h⟩
  · refine am_R.ct rfl rfl hc ?_
    refine am_R.go 1 (q' := (24, [some (.ref 0), some (.int p1)], [.int (-1)], M8)) rfl trivial ?_
    cases h
    exact am_R.ret rfl rfl trivial
  · refine am_R.cn rfl rfl hc ?_
    obtain ⟨hC, h⟩ := am_gd h
    refine am_R.go 5 (q' := (24, [some (.ref 0), some (.int p1)], [.int (M8 1 (p1.toNatClampNeg))], M8)) rfl ⟨hC, trivial⟩ ?_
    cases h
    exact am_R.ret rfl rfl trivial
def f_X10_sums (N : Nat) (p1 : Int32) (M : am_M) : Option (Except Nat (Option Value) × am_M) :=
  if p1 = 0 then
    some (.ok (some (.int (M 0 65))), am_up M 0 0 0)
  else
    if p1 = 1 then
      some (.ok (some (.int (M 0 2))), am_up M 0 0 0)
    else
      some (.ok (some (.int (-1))), am_up M 0 0 0)
set_option maxRecDepth 100000 in
theorem t_X10_sums (z : Value) (N : Nat) (p1 : Int32) (M : am_M) {r : Except Nat (Option Value)} {M' : am_M} (h : f_X10_sums N p1 M = some (r, M')) : mR z me_X10_sums (0, [some (.ref 0), some (.int p1)], [], M) r M' := by
  unfold f_X10_sums at h
  refine am_R.go 4 (q' := (6, [some (.ref 0), some (.int p1)], [.int p1], am_up M 0 0 0)) rfl trivial ?_
  rcases am_it h with ⟨hc, h⟩ | ⟨hc, h⟩
  · refine am_R.cn rfl rfl (fun q => q hc) ?_
    refine am_R.go 3 (q' := (29, [some (.ref 0), some (.int p1)], [.int (M 0 65)], am_up M 0 0 0)) rfl trivial ?_
    cases h
    exact am_R.ret rfl rfl trivial
  · refine am_R.ct rfl rfl hc ?_
    refine am_R.go 2 (q' := (18, [some (.ref 0), some (.int p1)], [.int 1, .int p1], am_up M 0 0 0)) rfl trivial ?_
    rcases am_it h with ⟨hc, h⟩ | ⟨hc, h⟩
    · refine am_R.bn rfl rfl (fun q => q hc) ?_
      refine am_R.go 3 (q' := (29, [some (.ref 0), some (.int p1)], [.int (M 0 2)], am_up M 0 0 0)) rfl trivial ?_
      cases h
      exact am_R.ret rfl rfl trivial
    · refine am_R.bt rfl rfl hc ?_
      refine am_R.go 1 (q' := (29, [some (.ref 0), some (.int p1)], [.int (-1)], am_up M 0 0 0)) rfl trivial ?_
      cases h
      exact am_R.ret rfl rfl trivial
