def f_cJ0_charAt_1009 (N : Nat) (p1 : Int32) (M : am_M) : Option (Except Nat (Option Value) × am_M) :=
  am_bi (f_cJ0_isLatin1_1009 N M) fun r1 M1 =>
    if r1 = 0 then
      none
    else
      am_bi (f_cJ1_charAt_2009 N p1 M1) fun r12 M12 =>
        if (r12.toUInt32 % 65536).toInt32 = r12 then some (.ok (some (.int r12)), M12) else none
set_option maxRecDepth 100000 in
theorem t_cJ0_charAt_1009 (z : Value) (N : Nat) (p1 : Int32) (M : am_M) {r : Except Nat (Option Value)} {M' : am_M} (h : f_cJ0_charAt_1009 N p1 M = some (r, M')) : cR z me_J0_charAt_5068e (0, [some (.ref 1009), some (.int p1)], [], M) r M' := by
  unfold f_cJ0_charAt_1009 at h
  refine am_R.go 1 (q' := (1, [some (.ref 1009), some (.int p1)], [.ref 1009], M)) rfl trivial ?_
  obtain ⟨r1, M1, hz, h⟩ := am_bi_s h
  refine am_R.call (e' := me_J0_isLatin1_aae02) (as := [.ref 1009]) (rest := []) rfl rfl (Nat.le_of_ble_eq_true rfl) (t_cJ0_isLatin1_1009 z N _ hz) ?_
  rcases am_it h with ⟨hc, h⟩ | ⟨hc, h⟩
  · refine am_R.ct rfl rfl hc ?_
    cases h
  · refine am_R.cn rfl rfl hc ?_
    refine am_R.go 3 (q' := (12, [some (.ref 1009), some (.int p1)], [.int p1, .ref 2009], M1)) rfl ⟨(by decide), trivial⟩ ?_
    obtain ⟨r12, M12, hz, h⟩ := am_bi_s h
    refine am_R.call (e' := me_J1_charAt_3b067) (as := [.ref 2009, .int p1]) (rest := []) rfl rfl (Nat.le_of_ble_eq_true rfl) (t_cJ1_charAt_2009 z N p1 _ hz) ?_
    obtain ⟨hC, h⟩ := am_gd h
    cases h
    exact am_R.ret rfl rfl hC
def f_X5_isWord_1009_17B (N : Nat) (v1 : Int32) (k17 : Int32 → am_M → Option (Except Nat (Option Value) × am_M)) (v3 : Int32) (M : am_M) : Option (Except Nat (Option Value) × am_M) :=
  am_bi (f_cJ0_length_1009 N M) fun r19 M19 =>
    if r19 ≤ v3 then
      some (.ok (some (.int 1)), M19)
    else
      if am_in (v1 + v3) 600 then
        am_bi (f_cJ0_charAt_1009 N v3 M19) fun r35 M35 =>
          if (M19 1 ((v1 + v3).toNatClampNeg)) = r35 then
            k17 (v3 + 1) M35
          else
            some (.ok (some (.int 0)), M35)
      else none
def f_X5_isWord_1009_17 (N : Nat) (v1 : Int32) : Nat → Int32 → am_M → Option (Except Nat (Option Value) × am_M)
  | 0 => fun _ _ => none
  | n + 1 => f_X5_isWord_1009_17B N v1 (f_X5_isWord_1009_17 N v1 n)
set_option maxRecDepth 100000 in
theorem t_X5_isWord_1009_17B (z : Value) (N : Nat) (v1 : Int32) {r : Except Nat (Option Value)} {M' : am_M} (k17 : Int32 → am_M → Option (Except Nat (Option Value) × am_M)) (hk17 : ∀ (v3 : Int32) (M : am_M), k17 v3 M = some (r, M') → cR z me_X5_isWord (17, [some (.ref 18), some (.int v1), some (.ref 1009), some (.int v3)], [], M) r M') (v3 : Int32) (M : am_M) (h : f_X5_isWord_1009_17B N v1 k17 v3 M = some (r, M')) : cR z me_X5_isWord (17, [some (.ref 18), some (.int v1), some (.ref 1009), some (.int v3)], [], M) r M' := by
  unfold f_X5_isWord_1009_17B at h
  refine am_R.go 2 (q' := (19, [some (.ref 18), some (.int v1), some (.ref 1009), some (.int v3)], [.ref 1009, .int v3], M)) rfl trivial ?_
  obtain ⟨r19, M19, hz, h⟩ := am_bi_s h
  refine am_R.call (e' := me_J0_length_8abf5) (as := [.ref 1009]) (rest := [.int v3]) rfl rfl (Nat.le_of_ble_eq_true rfl) (t_cJ0_length_1009 z N _ hz) ?_
  rcases am_it h with ⟨hc, h⟩ | ⟨hc, h⟩
  · refine am_R.bt rfl rfl hc ?_
    refine am_R.go 1 (q' := (50, [some (.ref 18), some (.int v1), some (.ref 1009), some (.int v3)], [.int 1], M19)) rfl trivial ?_
    cases h
    exact am_R.ret rfl rfl (Or.inr rfl)
  · refine am_R.bn rfl rfl hc ?_
    obtain ⟨hC, h⟩ := am_gd h
    refine am_R.go 8 (q' := (35, [some (.ref 18), some (.int v1), some (.ref 1009), some (.int v3)], [.int v3, .ref 1009, .int (M19 1 ((v1 + v3).toNatClampNeg))], M19)) rfl ⟨hC, trivial⟩ ?_
    obtain ⟨r35, M35, hz, h⟩ := am_bi_s h
    refine am_R.call (e' := me_J0_charAt_5068e) (as := [.ref 1009, .int v3]) (rest := [.int (M19 1 ((v1 + v3).toNatClampNeg))]) rfl rfl (Nat.le_of_ble_eq_true rfl) (t_cJ0_charAt_1009 z N v3 _ hz) ?_
    rcases am_it h with ⟨hc, h⟩ | ⟨hc, h⟩
    · refine am_R.bt rfl rfl hc ?_
      refine am_R.go 2 (q' := (17, [some (.ref 18), some (.int v1), some (.ref 1009), some (.int (v3 + 1))], [], M35)) rfl trivial ?_
      exact hk17 (v3 + 1) _ h
    · refine am_R.bn rfl rfl hc ?_
      refine am_R.go 1 (q' := (42, [some (.ref 18), some (.int v1), some (.ref 1009), some (.int v3)], [.int 0], M35)) rfl trivial ?_
      cases h
      exact am_R.ret rfl rfl (Or.inl rfl)
set_option maxRecDepth 100000 in
theorem t_X5_isWord_1009_17 (z : Value) (N : Nat) (v1 : Int32) {r : Except Nat (Option Value)} {M' : am_M} : ∀ (n : Nat) (v3 : Int32) (M : am_M), f_X5_isWord_1009_17 N v1 n v3 M = some (r, M') → cR z me_X5_isWord (17, [some (.ref 18), some (.int v1), some (.ref 1009), some (.int v3)], [], M) r M' := by
  intro n
  induction n with
  | zero => intro v3 M h; cases h
  | succ n ih => intro v3 M h; exact t_X5_isWord_1009_17B z N v1 _ ih v3 M h
def f_X5_isWord_1009 (N : Nat) (p1 : Int32) (M : am_M) : Option (Except Nat (Option Value) × am_M) :=
  am_bi (f_cJ0_length_1009 N M) fun r7 M7 =>
    if ((M 18 6) - p1) = r7 then
      f_X5_isWord_1009_17 N p1 N 0 M7
    else
      some (.ok (some (.int 0)), M7)
set_option maxRecDepth 100000 in
theorem t_X5_isWord_1009 (z : Value) (N : Nat) (p1 : Int32) (M : am_M) {r : Except Nat (Option Value)} {M' : am_M} (h : f_X5_isWord_1009 N p1 M = some (r, M')) : cR z me_X5_isWord (0, [some (.ref 18), some (.int p1), some (.ref 1009), none], [], M) r M' := by
  unfold f_X5_isWord_1009 at h
  refine am_R.go 5 (q' := (7, [some (.ref 18), some (.int p1), some (.ref 1009), none], [.ref 1009, .int ((M 18 6) - p1)], M)) rfl trivial ?_
  obtain ⟨r7, M7, hz, h⟩ := am_bi_s h
  refine am_R.call (e' := me_J0_length_8abf5) (as := [.ref 1009]) (rest := [.int ((M 18 6) - p1)]) rfl rfl (Nat.le_of_ble_eq_true rfl) (t_cJ0_length_1009 z N _ hz) ?_
  rcases am_it h with ⟨hc, h⟩ | ⟨hc, h⟩
  · refine am_R.bt rfl rfl hc ?_
    refine am_R.go 2 (q' := (17, [some (.ref 18), some (.int p1), some (.ref 1009), some (.int 0)], [], M7)) rfl trivial ?_
    exact t_X5_isWord_1009_17 z N p1 N 0 _ h
  · refine am_R.bn rfl rfl hc ?_
    refine am_R.go 1 (q' := (14, [some (.ref 18), some (.int p1), some (.ref 1009), none], [.int 0], M7)) rfl trivial ?_
    cases h
    exact am_R.ret rfl rfl (Or.inl rfl)
def f_X5_readWord_59B (N : Nat) (v1 : Int32) (k59 : Int32 → am_M → Option (Except Nat (Option Value) × am_M)) (v2 : Int32) (M : am_M) : Option (Except Nat (Option Value) × am_M) :=
  if 10 ≤ v2 then
    some (.ok (some (.int (-1))), M)
  else
    am_br (f_X5_wordOf N v2 M) fun r68 M68 =>
      if r68 = 1000 then
        am_bi (f_X5_isWord_1000 N v1 M68) fun r71 M71 =>
          if r71 = 0 then
            k59 (v2 + 1) M71
          else
            some (.ok (some (.int v2)), M71)
      else
      if r68 = 1001 then
        am_bi (f_X5_isWord_1001 N v1 M68) fun r71 M71 =>
          if r71 = 0 then
            k59 (v2 + 1) M71
          else
            some (.ok (some (.int v2)), M71)
      else
      if r68 = 1002 then
        am_bi (f_X5_isWord_1002 N v1 M68) fun r71 M71 =>
          if r71 = 0 then
            k59 (v2 + 1) M71
          else
            some (.ok (some (.int v2)), M71)
      else
      if r68 = 1003 then
        am_bi (f_X5_isWord_1003 N v1 M68) fun r71 M71 =>
          if r71 = 0 then
            k59 (v2 + 1) M71
          else
            some (.ok (some (.int v2)), M71)
      else
      if r68 = 1004 then
        am_bi (f_X5_isWord_1004 N v1 M68) fun r71 M71 =>
          if r71 = 0 then
            k59 (v2 + 1) M71
          else
            some (.ok (some (.int v2)), M71)
      else
      if r68 = 1005 then
        am_bi (f_X5_isWord_1005 N v1 M68) fun r71 M71 =>
          if r71 = 0 then
            k59 (v2 + 1) M71
          else
            some (.ok (some (.int v2)), M71)
      else
      if r68 = 1006 then
        am_bi (f_X5_isWord_1006 N v1 M68) fun r71 M71 =>
          if r71 = 0 then
            k59 (v2 + 1) M71
          else
            some (.ok (some (.int v2)), M71)
      else
      if r68 = 1007 then
        am_bi (f_X5_isWord_1007 N v1 M68) fun r71 M71 =>
          if r71 = 0 then
            k59 (v2 + 1) M71
          else
            some (.ok (some (.int v2)), M71)
      else
      if r68 = 1008 then
        am_bi (f_X5_isWord_1008 N v1 M68) fun r71 M71 =>
          if r71 = 0 then
            k59 (v2 + 1) M71
          else
            some (.ok (some (.int v2)), M71)
      else
      if r68 = 1009 then
        am_bi (f_X5_isWord_1009 N v1 M68) fun r71 M71 =>
          if r71 = 0 then
            k59 (v2 + 1) M71
          else
            some (.ok (some (.int v2)), M71)
      else
        none
def f_X5_readWord_59 (N : Nat) (v1 : Int32) : Nat → Int32 → am_M → Option (Except Nat (Option Value) × am_M)
  | 0 => fun _ _ => none
  | n + 1 => f_X5_readWord_59B N v1 (f_X5_readWord_59 N v1 n)
set_option maxRecDepth 100000 in
theorem t_X5_readWord_59B (z : Value) (N : Nat) (v1 : Int32) {r : Except Nat (Option Value)} {M' : am_M} (k59 : Int32 → am_M → Option (Except Nat (Option Value) × am_M)) (hk59 : ∀ (v2 : Int32) (M : am_M), k59 v2 M = some (r, M') → cR z me_X5_readWord (59, [some (.ref 18), some (.int v1), some (.int v2)], [], M) r M') (v2 : Int32) (M : am_M) (h : f_X5_readWord_59B N v1 k59 v2 M = some (r, M')) : cR z me_X5_readWord (59, [some (.ref 18), some (.int v1), some (.int v2)], [], M) r M' := by
  unfold f_X5_readWord_59B at h
  refine am_R.go 2 (q' := (62, [some (.ref 18), some (.int v1), some (.int v2)], [.int 10, .int v2], M)) rfl trivial ?_
  rcases am_it h with ⟨hc, h⟩ | ⟨hc, h⟩
  · refine am_R.bt rfl rfl hc ?_
    refine am_R.go 1 (q' := (86, [some (.ref 18), some (.int v1), some (.int v2)], [.int (-1)], M)) rfl trivial ?_
    cases h
    exact am_R.ret rfl rfl trivial
  · refine am_R.bn rfl rfl hc ?_
    refine am_R.go 3 (q' := (68, [some (.ref 18), some (.int v1), some (.int v2)], [.int v2, .int v1, .ref 18], M)) rfl trivial ?_
    obtain ⟨r68, M68, hz, h⟩ := am_br_s h
    refine am_R.call (e' := me_X5_wordOf) (as := [.int v2]) (rest := [.int v1, .ref 18]) rfl rfl (Nat.le_of_ble_eq_true rfl) (t_X5_wordOf z N v2 _ hz) ?_
    rcases am_it h with ⟨hc, h⟩ | ⟨hc, h⟩
    · subst hc
      obtain ⟨r71, M71, hz, h⟩ := am_bi_s h
      refine am_R.call (e' := me_X5_isWord) (as := [.ref 18, .int v1, .ref 1000]) (rest := []) rfl rfl (Nat.le_of_ble_eq_true rfl) (t_X5_isWord_1000 z N v1 _ hz) ?_
      rcases am_it h with ⟨hc, h⟩ | ⟨hc, h⟩
      · refine am_R.ct rfl rfl hc ?_
        refine am_R.go 2 (q' := (59, [some (.ref 18), some (.int v1), some (.int (v2 + 1))], [], M71)) rfl trivial ?_
        exact hk59 (v2 + 1) _ h
      · refine am_R.cn rfl rfl hc ?_
        refine am_R.go 1 (q' := (78, [some (.ref 18), some (.int v1), some (.int v2)], [.int v2], M71)) rfl trivial ?_
        cases h
        exact am_R.ret rfl rfl trivial
    rcases am_it h with ⟨hc, h⟩ | ⟨hc, h⟩
    · subst hc
      obtain ⟨r71, M71, hz, h⟩ := am_bi_s h
      refine am_R.call (e' := me_X5_isWord) (as := [.ref 18, .int v1, .ref 1001]) (rest := []) rfl rfl (Nat.le_of_ble_eq_true rfl) (t_X5_isWord_1001 z N v1 _ hz) ?_
      rcases am_it h with ⟨hc, h⟩ | ⟨hc, h⟩
      · refine am_R.ct rfl rfl hc ?_
        refine am_R.go 2 (q' := (59, [some (.ref 18), some (.int v1), some (.int (v2 + 1))], [], M71)) rfl trivial ?_
        exact hk59 (v2 + 1) _ h
      · refine am_R.cn rfl rfl hc ?_
        refine am_R.go 1 (q' := (78, [some (.ref 18), some (.int v1), some (.int v2)], [.int v2], M71)) rfl trivial ?_
        cases h
        exact am_R.ret rfl rfl trivial
    rcases am_it h with ⟨hc, h⟩ | ⟨hc, h⟩
    · subst hc
      obtain ⟨r71, M71, hz, h⟩ := am_bi_s h
      refine am_R.call (e' := me_X5_isWord) (as := [.ref 18, .int v1, .ref 1002]) (rest := []) rfl rfl (Nat.le_of_ble_eq_true rfl) (t_X5_isWord_1002 z N v1 _ hz) ?_
      rcases am_it h with ⟨hc, h⟩ | ⟨hc, h⟩
      · refine am_R.ct rfl rfl hc ?_
        refine am_R.go 2 (q' := (59, [some (.ref 18), some (.int v1), some (.int (v2 + 1))], [], M71)) rfl trivial ?_
        exact hk59 (v2 + 1) _ h
      · refine am_R.cn rfl rfl hc ?_
        refine am_R.go 1 (q' := (78, [some (.ref 18), some (.int v1), some (.int v2)], [.int v2], M71)) rfl trivial ?_
        cases h
        exact am_R.ret rfl rfl trivial
    rcases am_it h with ⟨hc, h⟩ | ⟨hc, h⟩
    · subst hc
      obtain ⟨r71, M71, hz, h⟩ := am_bi_s h
      refine am_R.call (e' := me_X5_isWord) (as := [.ref 18, .int v1, .ref 1003]) (rest := []) rfl rfl (Nat.le_of_ble_eq_true rfl) (t_X5_isWord_1003 z N v1 _ hz) ?_
      rcases am_it h with ⟨hc, h⟩ | ⟨hc, h⟩
      · refine am_R.ct rfl rfl hc ?_
        refine am_R.go 2 (q' := (59, [some (.ref 18), some (.int v1), some (.int (v2 + 1))], [], M71)) rfl trivial ?_
        exact hk59 (v2 + 1) _ h
      · refine am_R.cn rfl rfl hc ?_
        refine am_R.go 1 (q' := (78, [some (.ref 18), some (.int v1), some (.int v2)], [.int v2], M71)) rfl trivial ?_
        cases h
        exact am_R.ret rfl rfl trivial
    rcases am_it h with ⟨hc, h⟩ | ⟨hc, h⟩
    · subst hc
      obtain ⟨r71, M71, hz, h⟩ := am_bi_s h
      refine am_R.call (e' := me_X5_isWord) (as := [.ref 18, .int v1, .ref 1004]) (rest := []) rfl rfl (Nat.le_of_ble_eq_true rfl) (t_X5_isWord_1004 z N v1 _ hz) ?_
      rcases am_it h with ⟨hc, h⟩ | ⟨hc, h⟩
      · refine am_R.ct rfl rfl hc ?_
        refine am_R.go 2 (q' := (59, [some (.ref 18), some (.int v1), some (.int (v2 + 1))], [], M71)) rfl trivial ?_
        exact hk59 (v2 + 1) _ h
      · refine am_R.cn rfl rfl hc ?_
        refine am_R.go 1 (q' := (78, [some (.ref 18), some (.int v1), some (.int v2)], [.int v2], M71)) rfl trivial ?_
        cases h
        exact am_R.ret rfl rfl trivial
    rcases am_it h with ⟨hc, h⟩ | ⟨hc, h⟩
    · subst hc
      obtain ⟨r71, M71, hz, h⟩ := am_bi_s h
      refine am_R.call (e' := me_X5_isWord) (as := [.ref 18, .int v1, .ref 1005]) (rest := []) rfl rfl (Nat.le_of_ble_eq_true rfl) (t_X5_isWord_1005 z N v1 _ hz) ?_
      rcases am_it h with ⟨hc, h⟩ | ⟨hc, h⟩
      · refine am_R.ct rfl rfl hc ?_
        refine am_R.go 2 (q' := (59, [some (.ref 18), some (.int v1), some (.int (v2 + 1))], [], M71)) rfl trivial ?_
        exact hk59 (v2 + 1) _ h
      · refine am_R.cn rfl rfl hc ?_
        refine am_R.go 1 (q' := (78, [some (.ref 18), some (.int v1), some (.int v2)], [.int v2], M71)) rfl trivial ?_
        cases h
        exact am_R.ret rfl rfl trivial
    rcases am_it h with ⟨hc, h⟩ | ⟨hc, h⟩
    · subst hc
      obtain ⟨r71, M71, hz, h⟩ := am_bi_s h
      refine am_R.call (e' := me_X5_isWord) (as := [.ref 18, .int v1, .ref 1006]) (rest := []) rfl rfl (Nat.le_of_ble_eq_true rfl) (t_X5_isWord_1006 z N v1 _ hz) ?_
      rcases am_it h with ⟨hc, h⟩ | ⟨hc, h⟩
      · refine am_R.ct rfl rfl hc ?_
        refine am_R.go 2 (q' := (59, [some (.ref 18), some (.int v1), some (.int (v2 + 1))], [], M71)) rfl trivial ?_
        exact hk59 (v2 + 1) _ h
      · refine am_R.cn rfl rfl hc ?_
        refine am_R.go 1 (q' := (78, [some (.ref 18), some (.int v1), some (.int v2)], [.int v2], M71)) rfl trivial ?_
        cases h
        exact am_R.ret rfl rfl trivial
    rcases am_it h with ⟨hc, h⟩ | ⟨hc, h⟩
    · subst hc
      obtain ⟨r71, M71, hz, h⟩ := am_bi_s h
      refine am_R.call (e' := me_X5_isWord) (as := [.ref 18, .int v1, .ref 1007]) (rest := []) rfl rfl (Nat.le_of_ble_eq_true rfl) (t_X5_isWord_1007 z N v1 _ hz) ?_
      rcases am_it h with ⟨hc, h⟩ | ⟨hc, h⟩
      · refine am_R.ct rfl rfl hc ?_
        refine am_R.go 2 (q' := (59, [some (.ref 18), some (.int v1), some (.int (v2 + 1))], [], M71)) rfl trivial ?_
        exact hk59 (v2 + 1) _ h
      · refine am_R.cn rfl rfl hc ?_
        refine am_R.go 1 (q' := (78, [some (.ref 18), some (.int v1), some (.int v2)], [.int v2], M71)) rfl trivial ?_
        cases h
        exact am_R.ret rfl rfl trivial
    rcases am_it h with ⟨hc, h⟩ | ⟨hc, h⟩
    · subst hc
      obtain ⟨r71, M71, hz, h⟩ := am_bi_s h
      refine am_R.call (e' := me_X5_isWord) (as := [.ref 18, .int v1, .ref 1008]) (rest := []) rfl rfl (Nat.le_of_ble_eq_true rfl) (t_X5_isWord_1008 z N v1 _ hz) ?_
      rcases am_it h with ⟨hc, h⟩ | ⟨hc, h⟩
      · refine am_R.ct rfl rfl hc ?_
        refine am_R.go 2 (q' := (59, [some (.ref 18), some (.int v1), some (.int (v2 + 1))], [], M71)) rfl trivial ?_
        exact hk59 (v2 + 1) _ h
      · refine am_R.cn rfl rfl hc ?_
        refine am_R.go 1 (q' := (78, [some (.ref 18), some (.int v1), some (.int v2)], [.int v2], M71)) rfl trivial ?_
        cases h
        exact am_R.ret rfl rfl trivial
    rcases am_it h with ⟨hc, h⟩ | ⟨hc, h⟩
    · subst hc
      obtain ⟨r71, M71, hz, h⟩ := am_bi_s h
      refine am_R.call (e' := me_X5_isWord) (as := [.ref 18, .int v1, .ref 1009]) (rest := []) rfl rfl (Nat.le_of_ble_eq_true rfl) (t_X5_isWord_1009 z N v1 _ hz) ?_
      rcases am_it h with ⟨hc, h⟩ | ⟨hc, h⟩
      · refine am_R.ct rfl rfl hc ?_
        refine am_R.go 2 (q' := (59, [some (.ref 18), some (.int v1), some (.int (v2 + 1))], [], M71)) rfl trivial ?_
        exact hk59 (v2 + 1) _ h
      · refine am_R.cn rfl rfl hc ?_
        refine am_R.go 1 (q' := (78, [some (.ref 18), some (.int v1), some (.int v2)], [.int v2], M71)) rfl trivial ?_
        cases h
        exact am_R.ret rfl rfl trivial
    cases h
set_option maxRecDepth 100000 in
theorem t_X5_readWord_59 (z : Value) (N : Nat) (v1 : Int32) {r : Except Nat (Option Value)} {M' : am_M} : ∀ (n : Nat) (v2 : Int32) (M : am_M), f_X5_readWord_59 N v1 n v2 M = some (r, M') → cR z me_X5_readWord (59, [some (.ref 18), some (.int v1), some (.int v2)], [], M) r M' := by
  intro n
  induction n with
  | zero => intro v2 M h; cases h
  | succ n ih => intro v2 M h; exact t_X5_readWord_59B z N v1 _ ih v2 M h
def f_X5_readWord_5B (N : Nat) (v1 : Int32) (k5 : am_M → Option (Except Nat (Option Value) × am_M)) (M : am_M) : Option (Except Nat (Option Value) × am_M) :=
  if (M 18 5) ≤ (M 18 6) then
    f_X5_readWord_59 N v1 N 0 M
  else
    if am_in (M 18 6) 600 then
      if (M 1 ((M 18 6).toNatClampNeg)) < 97 then
        f_X5_readWord_59 N v1 N 0 M
      else
        if am_in (M 18 6) 600 then
          if 122 < (M 1 ((M 18 6).toNatClampNeg)) then
            f_X5_readWord_59 N v1 N 0 M
          else
            k5 (am_up M 18 6 ((M 18 6) + 1))
        else none
    else none
def f_X5_readWord_5 (N : Nat) (v1 : Int32) : Nat → am_M → Option (Except Nat (Option Value) × am_M)
  | 0 => fun _ => none
  | n + 1 => f_X5_readWord_5B N v1 (f_X5_readWord_5 N v1 n)
set_option maxRecDepth 100000 in
theorem t_X5_readWord_5B (z : Value) (N : Nat) (v1 : Int32) {r : Except Nat (Option Value)} {M' : am_M} (k5 : am_M → Option (Except Nat (Option Value) × am_M)) (hk5 : ∀ (d2 : Option Value) (M : am_M), k5 M = some (r, M') → cR z me_X5_readWord (5, [some (.ref 18), some (.int v1), d2], [], M) r M') (d2 : Option Value) (M : am_M) (h : f_X5_readWord_5B N v1 k5 M = some (r, M')) : cR z me_X5_readWord (5, [some (.ref 18), some (.int v1), d2], [], M) r M' := by
  unfold f_X5_readWord_5B at h
  refine am_R.go 4 (q' := (13, [some (.ref 18), some (.int v1), d2], [.int (M 18 5), .int (M 18 6)], M)) rfl trivial ?_
  rcases am_it h with ⟨hc, h⟩ | ⟨hc, h⟩
  · refine am_R.bt rfl rfl hc ?_
    refine am_R.go 2 (q' := (59, [some (.ref 18), some (.int v1), some (.int 0)], [], M)) rfl trivial ?_
    exact t_X5_readWord_59 z N v1 N 0 _ h
  · refine am_R.bn rfl rfl hc ?_
    obtain ⟨hC, h⟩ := am_gd h
    refine am_R.go 6 (q' := (27, [some (.ref 18), some (.int v1), d2], [.int 97, .int (M 1 ((M 18 6).toNatClampNeg))], M)) rfl ⟨hC, trivial⟩ ?_
    rcases am_it h with ⟨hc, h⟩ | ⟨hc, h⟩
    · refine am_R.bt rfl rfl hc ?_
      refine am_R.go 2 (q' := (59, [some (.ref 18), some (.int v1), some (.int 0)], [], M)) rfl trivial ?_
      exact t_X5_readWord_59 z N v1 N 0 _ h
    · refine am_R.bn rfl rfl hc ?_
      obtain ⟨hC, h⟩ := am_gd h
      refine am_R.go 6 (q' := (41, [some (.ref 18), some (.int v1), d2], [.int 122, .int (M 1 ((M 18 6).toNatClampNeg))], M)) rfl ⟨hC, trivial⟩ ?_
      rcases am_it h with ⟨hc, h⟩ | ⟨hc, h⟩
      · refine am_R.bt rfl rfl hc ?_
        refine am_R.go 2 (q' := (59, [some (.ref 18), some (.int v1), some (.int 0)], [], M)) rfl trivial ?_
        exact t_X5_readWord_59 z N v1 N 0 _ h
      · refine am_R.bn rfl rfl hc ?_
        refine am_R.go 7 (q' := (5, [some (.ref 18), some (.int v1), d2], [], am_up M 18 6 ((M 18 6) + 1))) rfl trivial ?_
        exact hk5 _ _ h
set_option maxRecDepth 100000 in
theorem t_X5_readWord_5 (z : Value) (N : Nat) (v1 : Int32) {r : Except Nat (Option Value)} {M' : am_M} : ∀ (n : Nat) (d2 : Option Value) (M : am_M), f_X5_readWord_5 N v1 n M = some (r, M') → cR z me_X5_readWord (5, [some (.ref 18), some (.int v1), d2], [], M) r M' := by
  intro n
  induction n with
  | zero => intro d2 M h; cases h
  | succ n ih => intro d2 M h; exact t_X5_readWord_5B z N v1 _ ih d2 M h
def f_X5_readWord (N : Nat) (M : am_M) : Option (Except Nat (Option Value) × am_M) :=
  f_X5_readWord_5 N (M 18 6) N M
set_option maxRecDepth 100000 in
theorem t_X5_readWord (z : Value) (N : Nat) (M : am_M) {r : Except Nat (Option Value)} {M' : am_M} (h : f_X5_readWord N M = some (r, M')) : cR z me_X5_readWord (0, [some (.ref 18), none, none], [], M) r M' := by
  unfold f_X5_readWord at h
  refine am_R.go 3 (q' := (5, [some (.ref 18), some (.int (M 18 6)), none], [], M)) rfl trivial ?_
  exact t_X5_readWord_5 z N (M 18 6) N _ _ h
def f_X5_refuse (N : Nat) (p1 : Int32) (p2 : Int32) (M : am_M) : Option (Except Nat (Option Value) × am_M) :=
  if (M 18 2) = 0 then
    some (.ok none, am_up (am_up M 18 2 p1) 18 3 p2)
  else
    some (.ok none, M)
set_option maxRecDepth 100000 in
theorem t_X5_refuse (z : Value) (N : Nat) (p1 : Int32) (p2 : Int32) (M : am_M) {r : Except Nat (Option Value)} {M' : am_M} (h : f_X5_refuse N p1 p2 M = some (r, M')) : cR z me_X5_refuse (0, [some (.ref 18), some (.int p1), some (.int p2)], [], M) r M' := by
  unfold f_X5_refuse at h
  refine am_R.go 2 (q' := (4, [some (.ref 18), some (.int p1), some (.int p2)], [.int (M 18 2)], M)) rfl trivial ?_
  rcases am_it h with ⟨hc, h⟩ | ⟨hc, h⟩
  · refine am_R.cn rfl rfl (fun q => q hc) ?_
    refine am_R.go 6 (q' := (17, [some (.ref 18), some (.int p1), some (.int p2)], [], am_up (am_up M 18 2 p1) 18 3 p2)) rfl trivial ?_
    cases h
    exact am_R.ret rfl rfl trivial
  · refine am_R.ct rfl rfl hc ?_
    cases h
    exact am_R.ret rfl rfl trivial
def f_X8_isFull_26 (N : Nat) (M : am_M) : Option (Except Nat (Option Value) × am_M) :=
  if (M 26 3) < (M 26 2) then
    some (.ok (some (.int 0)), M)
  else
    some (.ok (some (.int 1)), M)
set_option maxRecDepth 100000 in
theorem t_X8_isFull_26 (z : Value) (N : Nat) (M : am_M) {r : Except Nat (Option Value)} {M' : am_M} (h : f_X8_isFull_26 N M = some (r, M')) : cR z me_X8_isFull (0, [some (.ref 26)], [], M) r M' := by
  unfold f_X8_isFull_26 at h
  refine am_R.go 4 (q' := (8, [some (.ref 26)], [.int (M 26 2), .int (M 26 3)], M)) rfl trivial ?_
  rcases am_it h with ⟨hc, h⟩ | ⟨hc, h⟩
  · refine am_R.bt rfl rfl hc ?_
    refine am_R.go 1 (q' := (16, [some (.ref 26)], [.int 0], M)) rfl trivial ?_
    cases h
    exact am_R.ret rfl rfl (Or.inl rfl)
  · refine am_R.bn rfl rfl hc ?_
    refine am_R.go 2 (q' := (16, [some (.ref 26)], [.int 1], M)) rfl trivial ?_
    cases h
    exact am_R.ret rfl rfl (Or.inr rfl)
def f_X8_isFull_20 (N : Nat) (M : am_M) : Option (Except Nat (Option Value) × am_M) :=
  if (M 20 3) < (M 20 2) then
    some (.ok (some (.int 0)), M)
  else
    some (.ok (some (.int 1)), M)
set_option maxRecDepth 100000 in
theorem t_X8_isFull_20 (z : Value) (N : Nat) (M : am_M) {r : Except Nat (Option Value)} {M' : am_M} (h : f_X8_isFull_20 N M = some (r, M')) : cR z me_X8_isFull (0, [some (.ref 20)], [], M) r M' := by
  unfold f_X8_isFull_20 at h
  refine am_R.go 4 (q' := (8, [some (.ref 20)], [.int (M 20 2), .int (M 20 3)], M)) rfl trivial ?_
  rcases am_it h with ⟨hc, h⟩ | ⟨hc, h⟩
  · refine am_R.bt rfl rfl hc ?_
    refine am_R.go 1 (q' := (16, [some (.ref 20)], [.int 0], M)) rfl trivial ?_
    cases h
    exact am_R.ret rfl rfl (Or.inl rfl)
  · refine am_R.bn rfl rfl hc ?_
    refine am_R.go 2 (q' := (16, [some (.ref 20)], [.int 1], M)) rfl trivial ?_
    cases h
    exact am_R.ret rfl rfl (Or.inr rfl)
def f_X8_isFull_22 (N : Nat) (M : am_M) : Option (Except Nat (Option Value) × am_M) :=
  if (M 22 3) < (M 22 2) then
    some (.ok (some (.int 0)), M)
  else
    some (.ok (some (.int 1)), M)
set_option maxRecDepth 100000 in
theorem t_X8_isFull_22 (z : Value) (N : Nat) (M : am_M) {r : Except Nat (Option Value)} {M' : am_M} (h : f_X8_isFull_22 N M = some (r, M')) : cR z me_X8_isFull (0, [some (.ref 22)], [], M) r M' := by
  unfold f_X8_isFull_22 at h
  refine am_R.go 4 (q' := (8, [some (.ref 22)], [.int (M 22 2), .int (M 22 3)], M)) rfl trivial ?_
  rcases am_it h with ⟨hc, h⟩ | ⟨hc, h⟩
  · refine am_R.bt rfl rfl hc ?_
    refine am_R.go 1 (q' := (16, [some (.ref 22)], [.int 0], M)) rfl trivial ?_
    cases h
    exact am_R.ret rfl rfl (Or.inl rfl)
  · refine am_R.bn rfl rfl hc ?_
    refine am_R.go 2 (q' := (16, [some (.ref 22)], [.int 1], M)) rfl trivial ?_
    cases h
    exact am_R.ret rfl rfl (Or.inr rfl)
def f_X8_isFull_24 (N : Nat) (M : am_M) : Option (Except Nat (Option Value) × am_M) :=
  if (M 24 3) < (M 24 2) then
    some (.ok (some (.int 0)), M)
  else
    some (.ok (some (.int 1)), M)
set_option maxRecDepth 100000 in
theorem t_X8_isFull_24 (z : Value) (N : Nat) (M : am_M) {r : Except Nat (Option Value)} {M' : am_M} (h : f_X8_isFull_24 N M = some (r, M')) : cR z me_X8_isFull (0, [some (.ref 24)], [], M) r M' := by
  unfold f_X8_isFull_24 at h
  refine am_R.go 4 (q' := (8, [some (.ref 24)], [.int (M 24 2), .int (M 24 3)], M)) rfl trivial ?_
  rcases am_it h with ⟨hc, h⟩ | ⟨hc, h⟩
  · refine am_R.bt rfl rfl hc ?_
    refine am_R.go 1 (q' := (16, [some (.ref 24)], [.int 0], M)) rfl trivial ?_
    cases h
    exact am_R.ret rfl rfl (Or.inl rfl)
  · refine am_R.bn rfl rfl hc ?_
    refine am_R.go 2 (q' := (16, [some (.ref 24)], [.int 1], M)) rfl trivial ?_
    cases h
    exact am_R.ret rfl rfl (Or.inr rfl)
def f_X8_isFull_28 (N : Nat) (M : am_M) : Option (Except Nat (Option Value) × am_M) :=
  if (M 28 3) < (M 28 2) then
    some (.ok (some (.int 0)), M)
  else
    some (.ok (some (.int 1)), M)
set_option maxRecDepth 100000 in
theorem t_X8_isFull_28 (z : Value) (N : Nat) (M : am_M) {r : Except Nat (Option Value)} {M' : am_M} (h : f_X8_isFull_28 N M = some (r, M')) : cR z me_X8_isFull (0, [some (.ref 28)], [], M) r M' := by
  unfold f_X8_isFull_28 at h
  refine am_R.go 4 (q' := (8, [some (.ref 28)], [.int (M 28 2), .int (M 28 3)], M)) rfl trivial ?_
  rcases am_it h with ⟨hc, h⟩ | ⟨hc, h⟩
  · refine am_R.bt rfl rfl hc ?_
    refine am_R.go 1 (q' := (16, [some (.ref 28)], [.int 0], M)) rfl trivial ?_
    cases h
    exact am_R.ret rfl rfl (Or.inl rfl)
  · refine am_R.bn rfl rfl hc ?_
    refine am_R.go 2 (q' := (16, [some (.ref 28)], [.int 1], M)) rfl trivial ?_
    cases h
    exact am_R.ret rfl rfl (Or.inr rfl)
def f_X5_isFull (N : Nat) (p1 : Int32) (M : am_M) : Option (Except Nat (Option Value) × am_M) :=
  if p1.toInt = 3 then
    am_bi (f_X8_isFull_26 N M) fun r43 M43 =>
      if am_z r43 then some (.ok (some (.int r43)), M43) else none
  else
  if p1.toInt = 4 then
    am_bi (f_X8_isFull_20 N M) fun r54 M54 =>
      if am_z r54 then some (.ok (some (.int r54)), M54) else none
  else
  if p1.toInt = 5 then
    am_bi (f_X8_isFull_22 N M) fun r65 M65 =>
      if am_z r65 then some (.ok (some (.int r65)), M65) else none
  else
  if p1.toInt = 6 then
    am_bi (f_X8_isFull_24 N M) fun r76 M76 =>
      if am_z r76 then some (.ok (some (.int r76)), M76) else none
  else
  if p1.toInt = 7 then
    am_bi (f_X8_isFull_28 N M) fun r87 M87 =>
      if am_z r87 then some (.ok (some (.int r87)), M87) else none
  else
    some (.ok (some (.int 0)), M)
set_option maxRecDepth 100000 in
theorem t_X5_isFull (z : Value) (N : Nat) (p1 : Int32) (M : am_M) {r : Except Nat (Option Value)} {M' : am_M} (h : f_X5_isFull N p1 M = some (r, M')) : cR z me_X5_isFull (0, [some (.ref 18), some (.int p1)], [], M) r M' := by
  unfold f_X5_isFull at h
  refine am_R.go 1 (q' := (1, [some (.ref 18), some (.int p1)], [.int p1], M)) rfl trivial ?_
  rcases am_it h with ⟨hc, h⟩ | ⟨hc0, h⟩
  · refine am_R.one (c := some (p1.toInt = 3 + ((0 : Nat) : Int))) (q' := (36, [some (.ref 18), some (.int p1)], [], M)) rfl (List.mem_of_getElem? (i := 1) rfl) (by show p1.toInt = _; omega) ?_
    refine am_R.go 3 (q' := (43, [some (.ref 18), some (.int p1)], [.ref 26], M)) rfl trivial ?_
    obtain ⟨r43, M43, hz, h⟩ := am_bi_s h
    refine am_R.call (e' := me_X8_isFull) (as := [.ref 26]) (rest := []) rfl rfl (Nat.le_of_ble_eq_true rfl) (t_X8_isFull_26 z N _ hz) ?_
    obtain ⟨hC, h⟩ := am_gd h
    cases h
    exact am_R.ret rfl rfl hC
  rcases am_it h with ⟨hc, h⟩ | ⟨hc1, h⟩
  · refine am_R.one (c := some (p1.toInt = 3 + ((1 : Nat) : Int))) (q' := (47, [some (.ref 18), some (.int p1)], [], M)) rfl (List.mem_of_getElem? (i := 2) rfl) (by show p1.toInt = _; omega) ?_
    refine am_R.go 3 (q' := (54, [some (.ref 18), some (.int p1)], [.ref 20], M)) rfl trivial ?_
    obtain ⟨r54, M54, hz, h⟩ := am_bi_s h
    refine am_R.call (e' := me_X8_isFull) (as := [.ref 20]) (rest := []) rfl rfl (Nat.le_of_ble_eq_true rfl) (t_X8_isFull_20 z N _ hz) ?_
    obtain ⟨hC, h⟩ := am_gd h
    cases h
    exact am_R.ret rfl rfl hC
  rcases am_it h with ⟨hc, h⟩ | ⟨hc2, h⟩
  · refine am_R.one (c := some (p1.toInt = 3 + ((2 : Nat) : Int))) (q' := (58, [some (.ref 18), some (.int p1)], [], M)) rfl (List.mem_of_getElem? (i := 3) rfl) (by show p1.toInt = _; omega) ?_
    refine am_R.go 3 (q' := (65, [some (.ref 18), some (.int p1)], [.ref 22], M)) rfl trivial ?_
    obtain ⟨r65, M65, hz, h⟩ := am_bi_s h
    refine am_R.call (e' := me_X8_isFull) (as := [.ref 22]) (rest := []) rfl rfl (Nat.le_of_ble_eq_true rfl) (t_X8_isFull_22 z N _ hz) ?_
    obtain ⟨hC, h⟩ := am_gd h
    cases h
    exact am_R.ret rfl rfl hC
  rcases am_it h with ⟨hc, h⟩ | ⟨hc3, h⟩
  · refine am_R.one (c := some (p1.toInt = 3 + ((3 : Nat) : Int))) (q' := (69, [some (.ref 18), some (.int p1)], [], M)) rfl (List.mem_of_getElem? (i := 4) rfl) (by show p1.toInt = _; omega) ?_
    refine am_R.go 3 (q' := (76, [some (.ref 18), some (.int p1)], [.ref 24], M)) rfl trivial ?_
    obtain ⟨r76, M76, hz, h⟩ := am_bi_s h
    refine am_R.call (e' := me_X8_isFull) (as := [.ref 24]) (rest := []) rfl rfl (Nat.le_of_ble_eq_true rfl) (t_X8_isFull_24 z N _ hz) ?_
    obtain ⟨hC, h⟩ := am_gd h
    cases h
    exact am_R.ret rfl rfl hC
  rcases am_it h with ⟨hc, h⟩ | ⟨hc4, h⟩
  · refine am_R.one (c := some (p1.toInt = 3 + ((4 : Nat) : Int))) (q' := (80, [some (.ref 18), some (.int p1)], [], M)) rfl (List.mem_of_getElem? (i := 5) rfl) (by show p1.toInt = _; omega) ?_
    refine am_R.go 3 (q' := (87, [some (.ref 18), some (.int p1)], [.ref 28], M)) rfl trivial ?_
    obtain ⟨r87, M87, hz, h⟩ := am_bi_s h
    refine am_R.call (e' := me_X8_isFull) (as := [.ref 28]) (rest := []) rfl rfl (Nat.le_of_ble_eq_true rfl) (t_X8_isFull_28 z N _ hz) ?_
    obtain ⟨hC, h⟩ := am_gd h
    cases h
    exact am_R.ret rfl rfl hC
  refine am_R.one (c := some (p1.toInt < 3 ∨ 7 < p1.toInt)) (q' := (91, [some (.ref 18), some (.int p1)], [], M)) rfl (List.mem_of_getElem? (i := 0) rfl) (by show _ ∨ _; omega) ?_
  refine am_R.go 1 (q' := (92, [some (.ref 18), some (.int p1)], [.int 0], M)) rfl trivial ?_
  cases h
  exact am_R.ret rfl rfl (Or.inl rfl)
def f_X5_readKind_36 (N : Nat) (v2 : Int32) (v3 : Int32) (M : am_M) : Option (Except Nat (Option Value) × am_M) :=
  am_bv (f_X5_refuse N 1 v2 M) fun M39 =>
    some (.ok (some (.int v3)), M39)
set_option maxRecDepth 100000 in
theorem t_X5_readKind_36 (z : Value) (N : Nat) {r : Except Nat (Option Value)} {M' : am_M} (v2 : Int32) (v3 : Int32) (d1 : Option Value) (M : am_M) (h : f_X5_readKind_36 N v2 v3 M = some (r, M')) : cR z me_X5_readKind (36, [some (.ref 18), d1, some (.int v2), some (.int v3)], [], M) r M' := by
  unfold f_X5_readKind_36 at h
  refine am_R.go 3 (q' := (39, [some (.ref 18), d1, some (.int v2), some (.int v3)], [.int v2, .int 1, .ref 18], M)) rfl trivial ?_
  obtain ⟨M39, hz, h⟩ := am_bv_s h
  refine am_R.call (e' := me_X5_refuse) (as := [.ref 18, .int 1, .int v2]) (rest := []) rfl rfl (Nat.le_of_ble_eq_true rfl) (t_X5_refuse z N 1 v2 _ hz) ?_
  refine am_R.go 2 (q' := (66, [some (.ref 18), d1, some (.int v2), some (.int v3)], [.int v3], M39)) rfl trivial ?_
  cases h
  exact am_R.ret rfl rfl trivial
def f_X5_readKind_59 (N : Nat) (v2 : Int32) (v3 : Int32) (M : am_M) : Option (Except Nat (Option Value) × am_M) :=
  am_bv (f_X5_refuse N 3 v2 M) fun M62 =>
    some (.ok (some (.int v3)), M62)
set_option maxRecDepth 100000 in
theorem t_X5_readKind_59 (z : Value) (N : Nat) {r : Except Nat (Option Value)} {M' : am_M} (v2 : Int32) (v3 : Int32) (d1 : Option Value) (M : am_M) (h : f_X5_readKind_59 N v2 v3 M = some (r, M')) : cR z me_X5_readKind (59, [some (.ref 18), d1, some (.int v2), some (.int v3)], [], M) r M' := by
  unfold f_X5_readKind_59 at h
  refine am_R.go 3 (q' := (62, [some (.ref 18), d1, some (.int v2), some (.int v3)], [.int v2, .int 3, .ref 18], M)) rfl trivial ?_
  obtain ⟨M62, hz, h⟩ := am_bv_s h
  refine am_R.call (e' := me_X5_refuse) (as := [.ref 18, .int 3, .int v2]) (rest := []) rfl rfl (Nat.le_of_ble_eq_true rfl) (t_X5_refuse z N 3 v2 _ hz) ?_
  refine am_R.go 1 (q' := (66, [some (.ref 18), d1, some (.int v2), some (.int v3)], [.int v3], M62)) rfl trivial ?_
  cases h
  exact am_R.ret rfl rfl trivial
def f_X5_readKind_33 (N : Nat) (v1 : Int32) (v2 : Int32) (v3 : Int32) (s0 : Int32) (s1 : Int32) (M : am_M) : Option (Except Nat (Option Value) × am_M) :=
  if s1 = s0 then
    if 60 ≤ v1 then
      f_X5_readKind_59 N v2 v3 M
    else
      am_bi (f_X5_isFull N v3 M) fun r53 M53 =>
        if r53 = 0 then
          some (.ok (some (.int v3)), M53)
        else
          f_X5_readKind_59 N v2 v3 M53
  else
    f_X5_readKind_36 N v2 v3 M
set_option maxRecDepth 100000 in
theorem t_X5_readKind_33 (z : Value) (N : Nat) {r : Except Nat (Option Value)} {M' : am_M} (v1 : Int32) (v2 : Int32) (v3 : Int32) (s0 : Int32) (s1 : Int32) (M : am_M) (h : f_X5_readKind_33 N v1 v2 v3 s0 s1 M = some (r, M')) : cR z me_X5_readKind (33, [some (.ref 18), some (.int v1), some (.int v2), some (.int v3)], [.int s0, .int s1], M) r M' := by
  unfold f_X5_readKind_33 at h
  rcases am_it h with ⟨hc, h⟩ | ⟨hc, h⟩
  · refine am_R.bt rfl rfl hc ?_
    refine am_R.go 2 (q' := (48, [some (.ref 18), some (.int v1), some (.int v2), some (.int v3)], [.int 60, .int v1], M)) rfl trivial ?_
    rcases am_it h with ⟨hc, h⟩ | ⟨hc, h⟩
    · refine am_R.bt rfl rfl hc ?_
      exact t_X5_readKind_59 z N v2 v3 _ _ h
    · refine am_R.bn rfl rfl hc ?_
      refine am_R.go 2 (q' := (53, [some (.ref 18), some (.int v1), some (.int v2), some (.int v3)], [.int v3, .ref 18], M)) rfl trivial ?_
      obtain ⟨r53, M53, hz, h⟩ := am_bi_s h
      refine am_R.call (e' := me_X5_isFull) (as := [.ref 18, .int v3]) (rest := []) rfl rfl (Nat.le_of_ble_eq_true rfl) (t_X5_isFull z N v3 _ hz) ?_
      rcases am_it h with ⟨hc, h⟩ | ⟨hc, h⟩
      · refine am_R.ct rfl rfl hc ?_
        refine am_R.go 1 (q' := (66, [some (.ref 18), some (.int v1), some (.int v2), some (.int v3)], [.int v3], M53)) rfl trivial ?_
        cases h
        exact am_R.ret rfl rfl trivial
      · refine am_R.cn rfl rfl hc ?_
        exact t_X5_readKind_59 z N v2 v3 _ _ h
  · refine am_R.bn rfl rfl hc ?_
    exact t_X5_readKind_36 z N v2 v3 _ _ h
def f_X5_readKind_24 (N : Nat) (v1 : Int32) (v2 : Int32) (v3 : Int32) (s0 : Int32) (M : am_M) : Option (Except Nat (Option Value) × am_M) :=
  if v1 = 0 then
    f_X5_readKind_33 N v1 v2 v3 1 s0 M
  else
    f_X5_readKind_33 N v1 v2 v3 0 s0 M
set_option maxRecDepth 100000 in
theorem t_X5_readKind_24 (z : Value) (N : Nat) {r : Except Nat (Option Value)} {M' : am_M} (v1 : Int32) (v2 : Int32) (v3 : Int32) (s0 : Int32) (M : am_M) (h : f_X5_readKind_24 N v1 v2 v3 s0 M = some (r, M')) : cR z me_X5_readKind (24, [some (.ref 18), some (.int v1), some (.int v2), some (.int v3)], [.int s0], M) r M' := by
  unfold f_X5_readKind_24 at h
  refine am_R.go 1 (q' := (25, [some (.ref 18), some (.int v1), some (.int v2), some (.int v3)], [.int v1, .int s0], M)) rfl trivial ?_
  rcases am_it h with ⟨hc, h⟩ | ⟨hc, h⟩
  · refine am_R.cn rfl rfl (fun q => q hc) ?_
    refine am_R.go 2 (q' := (33, [some (.ref 18), some (.int v1), some (.int v2), some (.int v3)], [.int 1, .int s0], M)) rfl trivial ?_
    exact t_X5_readKind_33 z N v1 v2 v3 1 s0 _ h
  · refine am_R.ct rfl rfl hc ?_
    refine am_R.go 1 (q' := (33, [some (.ref 18), some (.int v1), some (.int v2), some (.int v3)], [.int 0, .int s0], M)) rfl trivial ?_
    exact t_X5_readKind_33 z N v1 v2 v3 0 s0 _ h
def f_X5_readKind (N : Nat) (p1 : Int32) (M : am_M) : Option (Except Nat (Option Value) × am_M) :=
  am_bi (f_X5_readWord N M) fun r6 M6 =>
    if r6 = (-1) then
      f_X5_readKind_36 N (M 18 6) r6 M6
    else
      if r6 = 0 then
        f_X5_readKind_24 N p1 (M 18 6) r6 1 M6
      else
        f_X5_readKind_24 N p1 (M 18 6) r6 0 M6
set_option maxRecDepth 100000 in
theorem t_X5_readKind (z : Value) (N : Nat) (p1 : Int32) (M : am_M) {r : Except Nat (Option Value)} {M' : am_M} (h : f_X5_readKind N p1 M = some (r, M')) : cR z me_X5_readKind (0, [some (.ref 18), some (.int p1), none, none], [], M) r M' := by
  unfold f_X5_readKind at h
  refine am_R.go 4 (q' := (6, [some (.ref 18), some (.int p1), some (.int (M 18 6)), none], [.ref 18], M)) rfl trivial ?_
  obtain ⟨r6, M6, hz, h⟩ := am_bi_s h
  refine am_R.call (e' := me_X5_readWord) (as := [.ref 18]) (rest := []) rfl rfl (Nat.le_of_ble_eq_true rfl) (t_X5_readWord z N _ hz) ?_
  refine am_R.go 3 (q' := (12, [some (.ref 18), some (.int p1), some (.int (M 18 6)), some (.int r6)], [.int (-1), .int r6], M6)) rfl trivial ?_
  rcases am_it h with ⟨hc, h⟩ | ⟨hc, h⟩
  · refine am_R.bt rfl rfl hc ?_
    exact t_X5_readKind_36 z N (M 18 6) r6 _ _ h
  · refine am_R.bn rfl rfl hc ?_
    refine am_R.go 1 (q' := (16, [some (.ref 18), some (.int p1), some (.int (M 18 6)), some (.int r6)], [.int r6], M6)) rfl trivial ?_
    rcases am_it h with ⟨hc, h⟩ | ⟨hc, h⟩
    · refine am_R.cn rfl rfl (fun q => q hc) ?_
      refine am_R.go 2 (q' := (24, [some (.ref 18), some (.int p1), some (.int (M 18 6)), some (.int r6)], [.int 1], M6)) rfl trivial ?_
      exact t_X5_readKind_24 z N p1 (M 18 6) r6 1 _ h
    · refine am_R.ct rfl rfl hc ?_
      refine am_R.go 1 (q' := (24, [some (.ref 18), some (.int p1), some (.int (M 18 6)), some (.int r6)], [.int 0], M6)) rfl trivial ?_
      exact t_X5_readKind_24 z N p1 (M 18 6) r6 0 _ h
def f_X5_readNumber_125 (N : Nat) (v4 : Int32) (M : am_M) : Option (Except Nat (Option Value) × am_M) :=
  if (M 18 2) = 0 then
    some (.ok (some (.int v4)), M)
  else
    some (.ok (some (.int 0)), M)
set_option maxRecDepth 100000 in
theorem t_X5_readNumber_125 (z : Value) (N : Nat) {r : Except Nat (Option Value)} {M' : am_M} (v4 : Int32) (d1 : Option Value) (d2 : Option Value) (d3 : Option Value) (M : am_M) (h : f_X5_readNumber_125 N v4 M = some (r, M')) : cR z me_X5_readNumber (125, [some (.ref 18), d1, d2, d3, some (.int v4)], [], M) r M' := by
  unfold f_X5_readNumber_125 at h
  refine am_R.go 2 (q' := (129, [some (.ref 18), d1, d2, d3, some (.int v4)], [.int (M 18 2)], M)) rfl trivial ?_
  rcases am_it h with ⟨hc, h⟩ | ⟨hc, h⟩
  · refine am_R.cn rfl rfl (fun q => q hc) ?_
    refine am_R.go 2 (q' := (138, [some (.ref 18), d1, d2, d3, some (.int v4)], [.int v4], M)) rfl trivial ?_
    cases h
    exact am_R.ret rfl rfl trivial
  · refine am_R.ct rfl rfl hc ?_
    refine am_R.go 1 (q' := (138, [some (.ref 18), d1, d2, d3, some (.int v4)], [.int 0], M)) rfl trivial ?_
    cases h
    exact am_R.ret rfl rfl trivial
def f_X5_readNumber_119 (N : Nat) (v3 : Int32) (v4 : Int32) (M : am_M) : Option (Except Nat (Option Value) × am_M) :=
  am_bv (f_X5_refuse N 2 v3 M) fun M122 =>
    f_X5_readNumber_125 N v4 M122
set_option maxRecDepth 100000 in
theorem t_X5_readNumber_119 (z : Value) (N : Nat) {r : Except Nat (Option Value)} {M' : am_M} (v3 : Int32) (v4 : Int32) (d1 : Option Value) (d2 : Option Value) (M : am_M) (h : f_X5_readNumber_119 N v3 v4 M = some (r, M')) : cR z me_X5_readNumber (119, [some (.ref 18), d1, d2, some (.int v3), some (.int v4)], [], M) r M' := by
  unfold f_X5_readNumber_119 at h
  refine am_R.go 3 (q' := (122, [some (.ref 18), d1, d2, some (.int v3), some (.int v4)], [.int v3, .int 2, .ref 18], M)) rfl trivial ?_
  obtain ⟨M122, hz, h⟩ := am_bv_s h
  refine am_R.call (e' := me_X5_refuse) (as := [.ref 18, .int 2, .int v3]) (rest := []) rfl rfl (Nat.le_of_ble_eq_true rfl) (t_X5_refuse z N 2 v3 _ hz) ?_
  exact t_X5_readNumber_125 z N v4 _ _ _ _ h
def f_X5_readNumber_90 (N : Nat) (v1 : Int32) (v2 : Int32) (v3 : Int32) (v4 : Int32) (M : am_M) : Option (Except Nat (Option Value) × am_M) :=
  if (M 18 6) = v3 then
    am_bv (f_X5_refuse N 1 v3 M) fun M101 =>
      f_X5_readNumber_125 N v4 M101
  else
    if v4 < v1 then
      f_X5_readNumber_119 N v3 v4 M
    else
      if v4 ≤ v2 then
        f_X5_readNumber_125 N v4 M
      else
        f_X5_readNumber_119 N v3 v4 M
set_option maxRecDepth 100000 in
theorem t_X5_readNumber_90 (z : Value) (N : Nat) {r : Except Nat (Option Value)} {M' : am_M} (v1 : Int32) (v2 : Int32) (v3 : Int32) (v4 : Int32) (M : am_M) (h : f_X5_readNumber_90 N v1 v2 v3 v4 M = some (r, M')) : cR z me_X5_readNumber (90, [some (.ref 18), some (.int v1), some (.int v2), some (.int v3), some (.int v4)], [], M) r M' := by
  unfold f_X5_readNumber_90 at h
  refine am_R.go 3 (q' := (95, [some (.ref 18), some (.int v1), some (.int v2), some (.int v3), some (.int v4)], [.int v3, .int (M 18 6)], M)) rfl trivial ?_
  rcases am_it h with ⟨hc, h⟩ | ⟨hc, h⟩
  · refine am_R.bn rfl rfl (fun q => q hc) ?_
    refine am_R.go 3 (q' := (101, [some (.ref 18), some (.int v1), some (.int v2), some (.int v3), some (.int v4)], [.int v3, .int 1, .ref 18], M)) rfl trivial ?_
    obtain ⟨M101, hz, h⟩ := am_bv_s h
    refine am_R.call (e' := me_X5_refuse) (as := [.ref 18, .int 1, .int v3]) (rest := []) rfl rfl (Nat.le_of_ble_eq_true rfl) (t_X5_refuse z N 1 v3 _ hz) ?_
    refine am_R.go 1 (q' := (125, [some (.ref 18), some (.int v1), some (.int v2), some (.int v3), some (.int v4)], [], M101)) rfl trivial ?_
    exact t_X5_readNumber_125 z N v4 _ _ _ _ h
  · refine am_R.bt rfl rfl hc ?_
    refine am_R.go 2 (q' := (110, [some (.ref 18), some (.int v1), some (.int v2), some (.int v3), some (.int v4)], [.int v1, .int v4], M)) rfl trivial ?_
    rcases am_it h with ⟨hc, h⟩ | ⟨hc, h⟩
    · refine am_R.bt rfl rfl hc ?_
      exact t_X5_readNumber_119 z N v3 v4 _ _ _ h
    · refine am_R.bn rfl rfl hc ?_
      refine am_R.go 2 (q' := (116, [some (.ref 18), some (.int v1), some (.int v2), some (.int v3), some (.int v4)], [.int v2, .int v4], M)) rfl trivial ?_
      rcases am_it h with ⟨hc, h⟩ | ⟨hc, h⟩
      · refine am_R.bt rfl rfl hc ?_
        exact t_X5_readNumber_125 z N v4 _ _ _ _ h
      · refine am_R.bn rfl rfl hc ?_
        exact t_X5_readNumber_119 z N v3 v4 _ _ _ h
def f_X5_readNumber_12B (N : Nat) (v1 : Int32) (v2 : Int32) (v3 : Int32) (k12 : Int32 → am_M → Option (Except Nat (Option Value) × am_M)) (v4 : Int32) (M : am_M) : Option (Except Nat (Option Value) × am_M) :=
  if (M 18 5) ≤ (M 18 6) then
    f_X5_readNumber_90 N v1 v2 v3 v4 M
  else
    if am_in (M 18 6) 600 then
      if (M 1 ((M 18 6).toNatClampNeg)) < 48 then
        f_X5_readNumber_90 N v1 v2 v3 v4 M
      else
        if am_in (M 18 6) 600 then
          if 57 < (M 1 ((M 18 6).toNatClampNeg)) then
            f_X5_readNumber_90 N v1 v2 v3 v4 M
          else
            if am_in (M 18 6) 600 then
              k12 (if (((v4 * 10) + (M 1 ((M 18 6).toNatClampNeg))) - 48) < 1000 then ((v4 * 10) + (M 1 ((M 18 6).toNatClampNeg))) - 48 else 1000) (am_up M 18 6 ((M 18 6) + 1))
            else none
        else none
    else none
def f_X5_readNumber_12 (N : Nat) (v1 : Int32) (v2 : Int32) (v3 : Int32) : Nat → Int32 → am_M → Option (Except Nat (Option Value) × am_M)
  | 0 => fun _ _ => none
  | n + 1 => f_X5_readNumber_12B N v1 v2 v3 (f_X5_readNumber_12 N v1 v2 v3 n)
set_option maxRecDepth 100000 in
theorem t_X5_readNumber_12B (z : Value) (N : Nat) (v1 : Int32) (v2 : Int32) (v3 : Int32) {r : Except Nat (Option Value)} {M' : am_M} (k12 : Int32 → am_M → Option (Except Nat (Option Value) × am_M)) (hk12 : ∀ (v4 : Int32) (M : am_M), k12 v4 M = some (r, M') → cR z me_X5_readNumber (12, [some (.ref 18), some (.int v1), some (.int v2), some (.int v3), some (.int v4)], [], M) r M') (v4 : Int32) (M : am_M) (h : f_X5_readNumber_12B N v1 v2 v3 k12 v4 M = some (r, M')) : cR z me_X5_readNumber (12, [some (.ref 18), some (.int v1), some (.int v2), some (.int v3), some (.int v4)], [], M) r M' := by
  unfold f_X5_readNumber_12B at h
  refine am_R.go 4 (q' := (20, [some (.ref 18), some (.int v1), some (.int v2), some (.int v3), some (.int v4)], [.int (M 18 5), .int (M 18 6)], M)) rfl trivial ?_
  rcases am_it h with ⟨hc, h⟩ | ⟨hc, h⟩
  · refine am_R.bt rfl rfl hc ?_
    exact t_X5_readNumber_90 z N v1 v2 v3 v4 _ h
  · refine am_R.bn rfl rfl hc ?_
    obtain ⟨hC, h⟩ := am_gd h
    refine am_R.go 6 (q' := (34, [some (.ref 18), some (.int v1), some (.int v2), some (.int v3), some (.int v4)], [.int 48, .int (M 1 ((M 18 6).toNatClampNeg))], M)) rfl ⟨hC, trivial⟩ ?_
    rcases am_it h with ⟨hc, h⟩ | ⟨hc, h⟩
    · refine am_R.bt rfl rfl hc ?_
      exact t_X5_readNumber_90 z N v1 v2 v3 v4 _ h
    · refine am_R.bn rfl rfl hc ?_
      obtain ⟨hC, h⟩ := am_gd h
      refine am_R.go 6 (q' := (48, [some (.ref 18), some (.int v1), some (.int v2), some (.int v3), some (.int v4)], [.int 57, .int (M 1 ((M 18 6).toNatClampNeg))], M)) rfl ⟨hC, trivial⟩ ?_
      rcases am_it h with ⟨hc, h⟩ | ⟨hc, h⟩
      · refine am_R.bt rfl rfl hc ?_
        exact t_X5_readNumber_90 z N v1 v2 v3 v4 _ h
      · refine am_R.bn rfl rfl hc ?_
        obtain ⟨hC, h⟩ := am_gd h
        refine am_R.go 21 (q' := (12, [some (.ref 18), some (.int v1), some (.int v2), some (.int v3), some (.int (if (((v4 * 10) + (M 1 ((M 18 6).toNatClampNeg))) - 48) < 1000 then ((v4 * 10) + (M 1 ((M 18 6).toNatClampNeg))) - 48 else 1000))], [], am_up M 18 6 ((M 18 6) + 1))) rfl ⟨hC, trivial⟩ ?_
        exact hk12 (if (((v4 * 10) + (M 1 ((M 18 6).toNatClampNeg))) - 48) < 1000 then ((v4 * 10) + (M 1 ((M 18 6).toNatClampNeg))) - 48 else 1000) _ h
set_option maxRecDepth 100000 in
theorem t_X5_readNumber_12 (z : Value) (N : Nat) (v1 : Int32) (v2 : Int32) (v3 : Int32) {r : Except Nat (Option Value)} {M' : am_M} : ∀ (n : Nat) (v4 : Int32) (M : am_M), f_X5_readNumber_12 N v1 v2 v3 n v4 M = some (r, M') → cR z me_X5_readNumber (12, [some (.ref 18), some (.int v1), some (.int v2), some (.int v3), some (.int v4)], [], M) r M' := by
  intro n
  induction n with
  | zero => intro v4 M h; cases h
  | succ n ih => intro v4 M h; exact t_X5_readNumber_12B z N v1 v2 v3 _ ih v4 M h
def f_X5_readNumber (N : Nat) (p1 : Int32) (p2 : Int32) (M : am_M) : Option (Except Nat (Option Value) × am_M) :=
  am_bv (f_X5_skipBlanks N M) fun M1 =>
    f_X5_readNumber_12 N p1 p2 (M1 18 6) N 0 M1
set_option maxRecDepth 100000 in
theorem t_X5_readNumber (z : Value) (N : Nat) (p1 : Int32) (p2 : Int32) (M : am_M) {r : Except Nat (Option Value)} {M' : am_M} (h : f_X5_readNumber N p1 p2 M = some (r, M')) : cR z me_X5_readNumber (0, [some (.ref 18), some (.int p1), some (.int p2), none, none], [], M) r M' := by
  unfold f_X5_readNumber at h
  refine am_R.go 1 (q' := (1, [some (.ref 18), some (.int p1), some (.int p2), none, none], [.ref 18], M)) rfl trivial ?_
  obtain ⟨M1, hz, h⟩ := am_bv_s h
  refine am_R.call (e' := me_X5_skipBlanks) (as := [.ref 18]) (rest := []) rfl rfl (Nat.le_of_ble_eq_true rfl) (t_X5_skipBlanks z N _ hz) ?_
  refine am_R.go 5 (q' := (12, [some (.ref 18), some (.int p1), some (.int p2), some (.int (M1 18 6)), some (.int 0)], [], M1)) rfl trivial ?_
  exact t_X5_readNumber_12 z N p1 p2 (M1 18 6) N 0 _ h
def f_X5_readSize (N : Nat) (M : am_M) : Option (Except Nat (Option Value) × am_M) :=
  am_bi (f_X5_readNumber N 2 10 M) fun r8 M8 =>
    am_bi (f_X5_readNumber N 2 10 (am_up M8 19 0 r8)) fun r22 M22 =>
      some (.ok none, am_up M22 19 1 r22)
set_option maxRecDepth 100000 in
theorem t_X5_readSize (z : Value) (N : Nat) (M : am_M) {r : Except Nat (Option Value)} {M' : am_M} (h : f_X5_readSize N M = some (r, M')) : cR z me_X5_readSize (0, [some (.ref 18)], [], M) r M' := by
  unfold f_X5_readSize at h
  refine am_R.go 5 (q' := (8, [some (.ref 18)], [.int 10, .int 2, .ref 18, .ref 19], M)) rfl trivial ?_
  obtain ⟨r8, M8, hz, h⟩ := am_bi_s h
  refine am_R.call (e' := me_X5_readNumber) (as := [.ref 18, .int 2, .int 10]) (rest := [.ref 19]) rfl rfl (Nat.le_of_ble_eq_true rfl) (t_X5_readNumber z N 2 10 _ hz) ?_
  refine am_R.go 6 (q' := (22, [some (.ref 18)], [.int 10, .int 2, .ref 18, .ref 19], am_up M8 19 0 r8)) rfl trivial ?_
  obtain ⟨r22, M22, hz, h⟩ := am_bi_s h
  refine am_R.call (e' := me_X5_readNumber) (as := [.ref 18, .int 2, .int 10]) (rest := [.ref 19]) rfl rfl (Nat.le_of_ble_eq_true rfl) (t_X5_readNumber z N 2 10 _ hz) ?_
  refine am_R.go 1 (q' := (28, [some (.ref 18)], [], am_up M22 19 1 r22)) rfl trivial ?_
  cases h
  exact am_R.ret rfl rfl trivial
def f_X9_cellOf (N : Nat) (p0 : Int32) (p1 : Int32) (M : am_M) : Option (Except Nat (Option Value) × am_M) :=
  some (.ok (some (.int ((p1 * 10) + p0))), M)
set_option maxRecDepth 100000 in
theorem t_X9_cellOf (z : Value) (N : Nat) (p0 : Int32) (p1 : Int32) (M : am_M) {r : Except Nat (Option Value)} {M' : am_M} (h : f_X9_cellOf N p0 p1 M = some (r, M')) : cR z me_X9_cellOf (0, [some (.int p0), some (.int p1)], [], M) r M' := by
  unfold f_X9_cellOf at h
  refine am_R.go 5 (q' := (6, [some (.int p0), some (.int p1)], [.int ((p1 * 10) + p0)], M)) rfl trivial ?_
  cases h
  exact am_R.ret rfl rfl trivial
def f_X5_readThing_31 (N : Nat) (M : am_M) : Option (Except Nat (Option Value) × am_M) :=
  am_bi (f_X5_readNumber N 0 ((M 19 0) - 1) M) fun r11 M11 =>
    am_bi (f_X5_readNumber N 0 ((M11 19 1) - 1) M11) fun r26 M26 =>
      am_bi (f_X5_readNumber N 1 9 M26) fun r34 M34 =>
        am_bi (f_X9_cellOf N r11 r26 M34) fun r41 M41 =>
          if r41 < 0 then
            some (.ok none, M41)
          else
            if 100 ≤ r41 then
              some (.ok none, M41)
            else
              if am_in r41 100 then
                some (.ok none, am_up M41 31 (r41.toNatClampNeg) r34)
              else none
set_option maxRecDepth 100000 in
theorem t_X5_readThing_31 (z : Value) (N : Nat) (M : am_M) {r : Except Nat (Option Value)} {M' : am_M} (h : f_X5_readThing_31 N M = some (r, M')) : cR z me_X5_readThing (0, [some (.ref 18), some (.ref 31), none, none, none, none], [], M) r M' := by
  unfold f_X5_readThing_31 at h
  refine am_R.go 7 (q' := (11, [some (.ref 18), some (.ref 31), none, none, none, none], [.int ((M 19 0) - 1), .int 0, .ref 18], M)) rfl trivial ?_
  obtain ⟨r11, M11, hz, h⟩ := am_bi_s h
  refine am_R.call (e' := me_X5_readNumber) (as := [.ref 18, .int 0, .int ((M 19 0) - 1)]) (rest := []) rfl rfl (Nat.le_of_ble_eq_true rfl) (t_X5_readNumber z N 0 ((M 19 0) - 1) _ hz) ?_
  refine am_R.go 8 (q' := (26, [some (.ref 18), some (.ref 31), some (.int r11), none, none, none], [.int ((M11 19 1) - 1), .int 0, .ref 18], M11)) rfl trivial ?_
  obtain ⟨r26, M26, hz, h⟩ := am_bi_s h
  refine am_R.call (e' := me_X5_readNumber) (as := [.ref 18, .int 0, .int ((M11 19 1) - 1)]) (rest := []) rfl rfl (Nat.le_of_ble_eq_true rfl) (t_X5_readNumber z N 0 ((M11 19 1) - 1) _ hz) ?_
  refine am_R.go 4 (q' := (34, [some (.ref 18), some (.ref 31), some (.int r11), some (.int r26), none, none], [.int 9, .int 1, .ref 18], M26)) rfl trivial ?_
  obtain ⟨r34, M34, hz, h⟩ := am_bi_s h
  refine am_R.call (e' := me_X5_readNumber) (as := [.ref 18, .int 1, .int 9]) (rest := []) rfl rfl (Nat.le_of_ble_eq_true rfl) (t_X5_readNumber z N 1 9 _ hz) ?_
  refine am_R.go 3 (q' := (41, [some (.ref 18), some (.ref 31), some (.int r11), some (.int r26), some (.int r34), none], [.int r26, .int r11], M34)) rfl trivial ?_
  obtain ⟨r41, M41, hz, h⟩ := am_bi_s h
  refine am_R.call (e' := me_X9_cellOf) (as := [.int r11, .int r26]) (rest := []) rfl rfl (Nat.le_of_ble_eq_true rfl) (t_X9_cellOf z N r11 r26 _ hz) ?_
  refine am_R.go 2 (q' := (48, [some (.ref 18), some (.ref 31), some (.int r11), some (.int r26), some (.int r34), some (.int r41)], [.int r41], M41)) rfl trivial ?_
  rcases am_it h with ⟨hc, h⟩ | ⟨hc, h⟩
  · refine am_R.ct rfl rfl hc ?_
    cases h
    exact am_R.ret rfl rfl trivial
  · refine am_R.cn rfl rfl hc ?_
    refine am_R.go 3 (q' := (55, [some (.ref 18), some (.ref 31), some (.int r11), some (.int r26), some (.int r34), some (.int r41)], [.int 100, .int r41], M41)) rfl trivial ?_
    rcases am_it h with ⟨hc, h⟩ | ⟨hc, h⟩
    · refine am_R.bt rfl rfl hc ?_
      cases h
      exact am_R.ret rfl rfl trivial
    · refine am_R.bn rfl rfl hc ?_
      obtain ⟨hC, h⟩ := am_gd h
      refine am_R.go 4 (q' := (64, [some (.ref 18), some (.ref 31), some (.int r11), some (.int r26), some (.int r34), some (.int r41)], [], am_up M41 31 (r41.toNatClampNeg) r34)) rfl ⟨hC, trivial⟩ ?_
      cases h
      exact am_R.ret rfl rfl trivial
def f_X5_readThing_32 (N : Nat) (M : am_M) : Option (Except Nat (Option Value) × am_M) :=
  am_bi (f_X5_readNumber N 0 ((M 19 0) - 1) M) fun r11 M11 =>
    am_bi (f_X5_readNumber N 0 ((M11 19 1) - 1) M11) fun r26 M26 =>
      am_bi (f_X5_readNumber N 1 9 M26) fun r34 M34 =>
        am_bi (f_X9_cellOf N r11 r26 M34) fun r41 M41 =>
          if r41 < 0 then
            some (.ok none, M41)
          else
            if 100 ≤ r41 then
              some (.ok none, M41)
            else
              if am_in r41 100 then
                some (.ok none, am_up M41 32 (r41.toNatClampNeg) r34)
              else none
set_option maxRecDepth 100000 in
theorem t_X5_readThing_32 (z : Value) (N : Nat) (M : am_M) {r : Except Nat (Option Value)} {M' : am_M} (h : f_X5_readThing_32 N M = some (r, M')) : cR z me_X5_readThing (0, [some (.ref 18), some (.ref 32), none, none, none, none], [], M) r M' := by
  unfold f_X5_readThing_32 at h
  refine am_R.go 7 (q' := (11, [some (.ref 18), some (.ref 32), none, none, none, none], [.int ((M 19 0) - 1), .int 0, .ref 18], M)) rfl trivial ?_
  obtain ⟨r11, M11, hz, h⟩ := am_bi_s h
  refine am_R.call (e' := me_X5_readNumber) (as := [.ref 18, .int 0, .int ((M 19 0) - 1)]) (rest := []) rfl rfl (Nat.le_of_ble_eq_true rfl) (t_X5_readNumber z N 0 ((M 19 0) - 1) _ hz) ?_
  refine am_R.go 8 (q' := (26, [some (.ref 18), some (.ref 32), some (.int r11), none, none, none], [.int ((M11 19 1) - 1), .int 0, .ref 18], M11)) rfl trivial ?_
  obtain ⟨r26, M26, hz, h⟩ := am_bi_s h
  refine am_R.call (e' := me_X5_readNumber) (as := [.ref 18, .int 0, .int ((M11 19 1) - 1)]) (rest := []) rfl rfl (Nat.le_of_ble_eq_true rfl) (t_X5_readNumber z N 0 ((M11 19 1) - 1) _ hz) ?_
  refine am_R.go 4 (q' := (34, [some (.ref 18), some (.ref 32), some (.int r11), some (.int r26), none, none], [.int 9, .int 1, .ref 18], M26)) rfl trivial ?_
  obtain ⟨r34, M34, hz, h⟩ := am_bi_s h
  refine am_R.call (e' := me_X5_readNumber) (as := [.ref 18, .int 1, .int 9]) (rest := []) rfl rfl (Nat.le_of_ble_eq_true rfl) (t_X5_readNumber z N 1 9 _ hz) ?_
  refine am_R.go 3 (q' := (41, [some (.ref 18), some (.ref 32), some (.int r11), some (.int r26), some (.int r34), none], [.int r26, .int r11], M34)) rfl trivial ?_
  obtain ⟨r41, M41, hz, h⟩ := am_bi_s h
  refine am_R.call (e' := me_X9_cellOf) (as := [.int r11, .int r26]) (rest := []) rfl rfl (Nat.le_of_ble_eq_true rfl) (t_X9_cellOf z N r11 r26 _ hz) ?_
  refine am_R.go 2 (q' := (48, [some (.ref 18), some (.ref 32), some (.int r11), some (.int r26), some (.int r34), some (.int r41)], [.int r41], M41)) rfl trivial ?_
  rcases am_it h with ⟨hc, h⟩ | ⟨hc, h⟩
  · refine am_R.ct rfl rfl hc ?_
    cases h
    exact am_R.ret rfl rfl trivial
  · refine am_R.cn rfl rfl hc ?_
    refine am_R.go 3 (q' := (55, [some (.ref 18), some (.ref 32), some (.int r11), some (.int r26), some (.int r34), some (.int r41)], [.int 100, .int r41], M41)) rfl trivial ?_
    rcases am_it h with ⟨hc, h⟩ | ⟨hc, h⟩
    · refine am_R.bt rfl rfl hc ?_
      cases h
      exact am_R.ret rfl rfl trivial
    · refine am_R.bn rfl rfl hc ?_
      obtain ⟨hC, h⟩ := am_gd h
      refine am_R.go 4 (q' := (64, [some (.ref 18), some (.ref 32), some (.int r11), some (.int r26), some (.int r34), some (.int r41)], [], am_up M41 32 (r41.toNatClampNeg) r34)) rfl ⟨hC, trivial⟩ ?_
      cases h
      exact am_R.ret rfl rfl trivial
def f_X8_open_26 (N : Nat) (M : am_M) : Option (Except Nat (Option Value) × am_M) :=
  am_bi (f_X8_isFull_26 N M) fun r1 M1 =>
    if r1 = 0 then
      some (.ok (some (.int (((M1 26 3) + 1) - 1))), am_up M1 26 3 ((M1 26 3) + 1))
    else
      some (.ok (some (.int (-1))), M1)
set_option maxRecDepth 100000 in
theorem t_X8_open_26 (z : Value) (N : Nat) (M : am_M) {r : Except Nat (Option Value)} {M' : am_M} (h : f_X8_open_26 N M = some (r, M')) : cR z me_X8_open (0, [some (.ref 26)], [], M) r M' := by
  unfold f_X8_open_26 at h
  refine am_R.go 1 (q' := (1, [some (.ref 26)], [.ref 26], M)) rfl trivial ?_
  obtain ⟨r1, M1, hz, h⟩ := am_bi_s h
  refine am_R.call (e' := me_X8_isFull) (as := [.ref 26]) (rest := []) rfl rfl (Nat.le_of_ble_eq_true rfl) (t_X8_isFull_26 z N _ hz) ?_
  rcases am_it h with ⟨hc, h⟩ | ⟨hc, h⟩
  · refine am_R.ct rfl rfl hc ?_
    refine am_R.go 10 (q' := (25, [some (.ref 26)], [.int (((M1 26 3) + 1) - 1)], am_up M1 26 3 ((M1 26 3) + 1))) rfl trivial ?_
    cases h
    exact am_R.ret rfl rfl trivial
  · refine am_R.cn rfl rfl hc ?_
    refine am_R.go 1 (q' := (8, [some (.ref 26)], [.int (-1)], M1)) rfl trivial ?_
    cases h
    exact am_R.ret rfl rfl trivial
