def f_X5_isWord_1003_17B (N : Nat) (v1 : Int32) (k17 : Int32 → am_M → Option (Except Nat (Option Value) × am_M)) (v3 : Int32) (M : am_M) : Option (Except Nat (Option Value) × am_M) :=
  am_bi (f_cJ0_length_1003 N M) fun r19 M19 =>
    if r19 ≤ v3 then
      some (.ok (some (.int 1)), M19)
    else
      if am_in (v1 + v3) 600 then
        am_bi (f_cJ0_charAt_1003 N v3 M19) fun r35 M35 =>
          if (M19 1 ((v1 + v3).toNatClampNeg)) = r35 then
            k17 (v3 + 1) M35
          else
            some (.ok (some (.int 0)), M35)
      else none
def f_X5_isWord_1003_17 (N : Nat) (v1 : Int32) : Nat → Int32 → am_M → Option (Except Nat (Option Value) × am_M)
  | 0 => fun _ _ => none
  | n + 1 => f_X5_isWord_1003_17B N v1 (f_X5_isWord_1003_17 N v1 n)
set_option maxRecDepth 100000 in
theorem t_X5_isWord_1003_17B (z : Value) (N : Nat) (v1 : Int32) {r : Except Nat (Option Value)} {M' : am_M} (k17 : Int32 → am_M → Option (Except Nat (Option Value) × am_M)) (hk17 : ∀ (v3 : Int32) (M : am_M), k17 v3 M = some (r, M') → cR z me_X5_isWord (17, [some (.ref 18), some (.int v1), some (.ref 1003), some (.int v3)], [], M) r M') (v3 : Int32) (M : am_M) (h : f_X5_isWord_1003_17B N v1 k17 v3 M = some (r, M')) : cR z me_X5_isWord (17, [some (.ref 18), some (.int v1), some (.ref 1003), some (.int v3)], [], M) r M' := by
  unfold f_X5_isWord_1003_17B at h
  refine am_R.go 2 (q' := (19, [some (.ref 18), some (.int v1), some (.ref 1003), some (.int v3)], [.ref 1003, .int v3], M)) rfl trivial ?_
  obtain ⟨r19, M19, hz, h⟩ := am_bi_s h
  refine am_R.call (e' := me_J0_length_8abf5) (as := [.ref 1003]) (rest := [.int v3]) rfl rfl (Nat.le_of_ble_eq_true rfl) (t_cJ0_length_1003 z N _ hz) ?_
  rcases am_it h with ⟨hc, h⟩ | ⟨hc, h⟩
  · refine am_R.bt rfl rfl hc ?_
    refine am_R.go 1 (q' := (50, [some (.ref 18), some (.int v1), some (.ref 1003), some (.int v3)], [.int 1], M19)) rfl trivial ?_
    cases h
    exact am_R.ret rfl rfl (Or.inr rfl)
  · refine am_R.bn rfl rfl hc ?_
    obtain ⟨hC, h⟩ := am_gd h
    refine am_R.go 8 (q' := (35, [some (.ref 18), some (.int v1), some (.ref 1003), some (.int v3)], [.int v3, .ref 1003, .int (M19 1 ((v1 + v3).toNatClampNeg))], M19)) rfl ⟨hC, trivial⟩ ?_
    obtain ⟨r35, M35, hz, h⟩ := am_bi_s h
    refine am_R.call (e' := me_J0_charAt_5068e) (as := [.ref 1003, .int v3]) (rest := [.int (M19 1 ((v1 + v3).toNatClampNeg))]) rfl rfl (Nat.le_of_ble_eq_true rfl) (t_cJ0_charAt_1003 z N v3 _ hz) ?_
    rcases am_it h with ⟨hc, h⟩ | ⟨hc, h⟩
    · refine am_R.bt rfl rfl hc ?_
      refine am_R.go 2 (q' := (17, [some (.ref 18), some (.int v1), some (.ref 1003), some (.int (v3 + 1))], [], M35)) rfl trivial ?_
      exact hk17 (v3 + 1) _ h
    · refine am_R.bn rfl rfl hc ?_
      refine am_R.go 1 (q' := (42, [some (.ref 18), some (.int v1), some (.ref 1003), some (.int v3)], [.int 0], M35)) rfl trivial ?_
      cases h
      exact am_R.ret rfl rfl (Or.inl rfl)
set_option maxRecDepth 100000 in
theorem t_X5_isWord_1003_17 (z : Value) (N : Nat) (v1 : Int32) {r : Except Nat (Option Value)} {M' : am_M} : ∀ (n : Nat) (v3 : Int32) (M : am_M), f_X5_isWord_1003_17 N v1 n v3 M = some (r, M') → cR z me_X5_isWord (17, [some (.ref 18), some (.int v1), some (.ref 1003), some (.int v3)], [], M) r M' := by
  intro n
  induction n with
  | zero => intro v3 M h; cases h
  | succ n ih => intro v3 M h; exact t_X5_isWord_1003_17B z N v1 _ ih v3 M h
def f_X5_isWord_1003 (N : Nat) (p1 : Int32) (M : am_M) : Option (Except Nat (Option Value) × am_M) :=
  am_bi (f_cJ0_length_1003 N M) fun r7 M7 =>
    if ((M 18 6) - p1) = r7 then
      f_X5_isWord_1003_17 N p1 N 0 M7
    else
      some (.ok (some (.int 0)), M7)
set_option maxRecDepth 100000 in
theorem t_X5_isWord_1003 (z : Value) (N : Nat) (p1 : Int32) (M : am_M) {r : Except Nat (Option Value)} {M' : am_M} (h : f_X5_isWord_1003 N p1 M = some (r, M')) : cR z me_X5_isWord (0, [some (.ref 18), some (.int p1), some (.ref 1003), none], [], M) r M' := by
  unfold f_X5_isWord_1003 at h
  refine am_R.go 5 (q' := (7, [some (.ref 18), some (.int p1), some (.ref 1003), none], [.ref 1003, .int ((M 18 6) - p1)], M)) rfl trivial ?_
  obtain ⟨r7, M7, hz, h⟩ := am_bi_s h
  refine am_R.call (e' := me_J0_length_8abf5) (as := [.ref 1003]) (rest := [.int ((M 18 6) - p1)]) rfl rfl (Nat.le_of_ble_eq_true rfl) (t_cJ0_length_1003 z N _ hz) ?_
  rcases am_it h with ⟨hc, h⟩ | ⟨hc, h⟩
  · refine am_R.bt rfl rfl hc ?_
    refine am_R.go 2 (q' := (17, [some (.ref 18), some (.int p1), some (.ref 1003), some (.int 0)], [], M7)) rfl trivial ?_
    exact t_X5_isWord_1003_17 z N p1 N 0 _ h
  · refine am_R.bn rfl rfl hc ?_
    refine am_R.go 1 (q' := (14, [some (.ref 18), some (.int p1), some (.ref 1003), none], [.int 0], M7)) rfl trivial ?_
    cases h
    exact am_R.ret rfl rfl (Or.inl rfl)
def f_cJ0_coder_1004 (N : Nat) (M : am_M) : Option (Except Nat (Option Value) × am_M) :=
  if (0 : Int32).toInt8.toInt32 = 0 then some (.ok (some (.int 0)), M) else none
set_option maxRecDepth 100000 in
theorem t_cJ0_coder_1004 (z : Value) (N : Nat) (M : am_M) {r : Except Nat (Option Value)} {M' : am_M} (h : f_cJ0_coder_1004 N M = some (r, M')) : cR z me_J0_coder_7d493 (0, [some (.ref 1004)], [], M) r M' := by
  unfold f_cJ0_coder_1004 at h
  refine am_R.go 1 (q' := (3, [some (.ref 1004)], [.int 1], M)) rfl trivial ?_
  refine am_R.cn rfl rfl (by unfold am_c; decide) ?_
  refine am_R.go 3 (q' := (14, [some (.ref 1004)], [.int 0], M)) rfl ⟨(by decide), trivial⟩ ?_
  obtain ⟨hC, h⟩ := am_gd h
  cases h
  exact am_R.ret rfl rfl hC
def f_cJ0_length_1004 (N : Nat) (M : am_M) : Option (Except Nat (Option Value) × am_M) :=
  am_bi (f_cJ0_coder_1004 N M) fun r6 M6 =>
    some (.ok (some (.int (5 >>> (r6 &&& 31)))), M6)
set_option maxRecDepth 100000 in
theorem t_cJ0_length_1004 (z : Value) (N : Nat) (M : am_M) {r : Except Nat (Option Value)} {M' : am_M} (h : f_cJ0_length_1004 N M = some (r, M')) : cR z me_J0_length_8abf5 (0, [some (.ref 1004)], [], M) r M' := by
  unfold f_cJ0_length_1004 at h
  refine am_R.go 4 (q' := (6, [some (.ref 1004)], [.ref 1004, .int 5], M)) rfl ⟨(by decide), trivial⟩ ?_
  obtain ⟨r6, M6, hz, h⟩ := am_bi_s h
  refine am_R.call (e' := me_J0_coder_7d493) (as := [.ref 1004]) (rest := [.int 5]) rfl rfl (Nat.le_of_ble_eq_true rfl) (t_cJ0_coder_1004 z N _ hz) ?_
  refine am_R.go 1 (q' := (10, [some (.ref 1004)], [.int (5 >>> (r6 &&& 31))], M6)) rfl trivial ?_
  cases h
  exact am_R.ret rfl rfl trivial
def f_cJ0_isLatin1_1004 (N : Nat) (M : am_M) : Option (Except Nat (Option Value) × am_M) :=
  some (.ok (some (.int 1)), M)
set_option maxRecDepth 100000 in
theorem t_cJ0_isLatin1_1004 (z : Value) (N : Nat) (M : am_M) {r : Except Nat (Option Value)} {M' : am_M} (h : f_cJ0_isLatin1_1004 N M = some (r, M')) : cR z me_J0_isLatin1_aae02 (0, [some (.ref 1004)], [], M) r M' := by
  unfold f_cJ0_isLatin1_1004 at h
  refine am_R.go 1 (q' := (3, [some (.ref 1004)], [.int 1], M)) rfl trivial ?_
  refine am_R.cn rfl rfl (by unfold am_c; decide) ?_
  refine am_R.go 2 (q' := (10, [some (.ref 1004)], [.int 0], M)) rfl ⟨(by decide), trivial⟩ ?_
  refine am_R.cn rfl rfl (by unfold am_c; decide) ?_
  refine am_R.go 2 (q' := (18, [some (.ref 1004)], [.int 1], M)) rfl trivial ?_
  cases h
  exact am_R.ret rfl rfl (Or.inr rfl)
def f_cJ1_charAt_2004 (N : Nat) (p1 : Int32) (M : am_M) : Option (Except Nat (Option Value) × am_M) :=
  am_bv (f_cJ0_checkIndex N p1 5 M) fun M3 =>
    if am_in p1 5 then
      if ((((((am_byt.getD 4 []).getD p1.toNatClampNeg 0) &&& 255).toUInt32 % 65536).toInt32).toUInt32 % 65536).toInt32 = ((((am_byt.getD 4 []).getD p1.toNatClampNeg 0) &&& 255).toUInt32 % 65536).toInt32 then some (.ok (some (.int (((((am_byt.getD 4 []).getD p1.toNatClampNeg 0) &&& 255).toUInt32 % 65536).toInt32))), M3) else none
    else none
set_option maxRecDepth 100000 in
theorem t_cJ1_charAt_2004 (z : Value) (N : Nat) (p1 : Int32) (M : am_M) {r : Except Nat (Option Value)} {M' : am_M} (h : f_cJ1_charAt_2004 N p1 M = some (r, M')) : cR z me_J1_charAt_3b067 (0, [some (.ref 2004), some (.int p1)], [], M) r M' := by
  unfold f_cJ1_charAt_2004 at h
  refine am_R.go 3 (q' := (3, [some (.ref 2004), some (.int p1)], [.int 5, .int p1], M)) rfl trivial ?_
  obtain ⟨M3, hz, h⟩ := am_bv_s h
  refine am_R.call (e' := me_J0_checkIndex_df160) (as := [.int p1, .int 5]) (rest := []) rfl rfl (Nat.le_of_ble_eq_true rfl) (t_cJ0_checkIndex z N p1 5 _ hz) ?_
  obtain ⟨hC, h⟩ := am_gd h
  refine am_R.go 6 (q' := (14, [some (.ref 2004), some (.int p1)], [.int (((((am_byt.getD 4 []).getD p1.toNatClampNeg 0) &&& 255).toUInt32 % 65536).toInt32)], M3)) rfl ⟨hC, trivial⟩ ?_
  obtain ⟨hC, h⟩ := am_gd h
  cases h
  exact am_R.ret rfl rfl hC
def f_cJ0_charAt_1004 (N : Nat) (p1 : Int32) (M : am_M) : Option (Except Nat (Option Value) × am_M) :=
  am_bi (f_cJ0_isLatin1_1004 N M) fun r1 M1 =>
    if r1 = 0 then
      none
    else
      am_bi (f_cJ1_charAt_2004 N p1 M1) fun r12 M12 =>
        if (r12.toUInt32 % 65536).toInt32 = r12 then some (.ok (some (.int r12)), M12) else none
set_option maxRecDepth 100000 in
theorem t_cJ0_charAt_1004 (z : Value) (N : Nat) (p1 : Int32) (M : am_M) {r : Except Nat (Option Value)} {M' : am_M} (h : f_cJ0_charAt_1004 N p1 M = some (r, M')) : cR z me_J0_charAt_5068e (0, [some (.ref 1004), some (.int p1)], [], M) r M' := by
  unfold f_cJ0_charAt_1004 at h
  refine am_R.go 1 (q' := (1, [some (.ref 1004), some (.int p1)], [.ref 1004], M)) rfl trivial ?_
  obtain ⟨r1, M1, hz, h⟩ := am_bi_s h
  refine am_R.call (e' := me_J0_isLatin1_aae02) (as := [.ref 1004]) (rest := []) rfl rfl (Nat.le_of_ble_eq_true rfl) (t_cJ0_isLatin1_1004 z N _ hz) ?_
  rcases am_it h with ⟨hc, h⟩ | ⟨hc, h⟩
  · refine am_R.ct rfl rfl hc ?_
    cases h
  · refine am_R.cn rfl rfl hc ?_
    refine am_R.go 3 (q' := (12, [some (.ref 1004), some (.int p1)], [.int p1, .ref 2004], M1)) rfl ⟨(by decide), trivial⟩ ?_
    obtain ⟨r12, M12, hz, h⟩ := am_bi_s h
    refine am_R.call (e' := me_J1_charAt_3b067) (as := [.ref 2004, .int p1]) (rest := []) rfl rfl (Nat.le_of_ble_eq_true rfl) (t_cJ1_charAt_2004 z N p1 _ hz) ?_
    obtain ⟨hC, h⟩ := am_gd h
    cases h
    exact am_R.ret rfl rfl hC
def f_X5_isWord_1004_17B (N : Nat) (v1 : Int32) (k17 : Int32 → am_M → Option (Except Nat (Option Value) × am_M)) (v3 : Int32) (M : am_M) : Option (Except Nat (Option Value) × am_M) :=
  am_bi (f_cJ0_length_1004 N M) fun r19 M19 =>
    if r19 ≤ v3 then
      some (.ok (some (.int 1)), M19)
    else
      if am_in (v1 + v3) 600 then
        am_bi (f_cJ0_charAt_1004 N v3 M19) fun r35 M35 =>
          if (M19 1 ((v1 + v3).toNatClampNeg)) = r35 then
            k17 (v3 + 1) M35
          else
            some (.ok (some (.int 0)), M35)
      else none
def f_X5_isWord_1004_17 (N : Nat) (v1 : Int32) : Nat → Int32 → am_M → Option (Except Nat (Option Value) × am_M)
  | 0 => fun _ _ => none
  | n + 1 => f_X5_isWord_1004_17B N v1 (f_X5_isWord_1004_17 N v1 n)
set_option maxRecDepth 100000 in
theorem t_X5_isWord_1004_17B (z : Value) (N : Nat) (v1 : Int32) {r : Except Nat (Option Value)} {M' : am_M} (k17 : Int32 → am_M → Option (Except Nat (Option Value) × am_M)) (hk17 : ∀ (v3 : Int32) (M : am_M), k17 v3 M = some (r, M') → cR z me_X5_isWord (17, [some (.ref 18), some (.int v1), some (.ref 1004), some (.int v3)], [], M) r M') (v3 : Int32) (M : am_M) (h : f_X5_isWord_1004_17B N v1 k17 v3 M = some (r, M')) : cR z me_X5_isWord (17, [some (.ref 18), some (.int v1), some (.ref 1004), some (.int v3)], [], M) r M' := by
  unfold f_X5_isWord_1004_17B at h
  refine am_R.go 2 (q' := (19, [some (.ref 18), some (.int v1), some (.ref 1004), some (.int v3)], [.ref 1004, .int v3], M)) rfl trivial ?_
  obtain ⟨r19, M19, hz, h⟩ := am_bi_s h
  refine am_R.call (e' := me_J0_length_8abf5) (as := [.ref 1004]) (rest := [.int v3]) rfl rfl (Nat.le_of_ble_eq_true rfl) (t_cJ0_length_1004 z N _ hz) ?_
  rcases am_it h with ⟨hc, h⟩ | ⟨hc, h⟩
  · refine am_R.bt rfl rfl hc ?_
    refine am_R.go 1 (q' := (50, [some (.ref 18), some (.int v1), some (.ref 1004), some (.int v3)], [.int 1], M19)) rfl trivial ?_
    cases h
    exact am_R.ret rfl rfl (Or.inr rfl)
  · refine am_R.bn rfl rfl hc ?_
    obtain ⟨hC, h⟩ := am_gd h
    refine am_R.go 8 (q' := (35, [some (.ref 18), some (.int v1), some (.ref 1004), some (.int v3)], [.int v3, .ref 1004, .int (M19 1 ((v1 + v3).toNatClampNeg))], M19)) rfl ⟨hC, trivial⟩ ?_
    obtain ⟨r35, M35, hz, h⟩ := am_bi_s h
    refine am_R.call (e' := me_J0_charAt_5068e) (as := [.ref 1004, .int v3]) (rest := [.int (M19 1 ((v1 + v3).toNatClampNeg))]) rfl rfl (Nat.le_of_ble_eq_true rfl) (t_cJ0_charAt_1004 z N v3 _ hz) ?_
    rcases am_it h with ⟨hc, h⟩ | ⟨hc, h⟩
    · refine am_R.bt rfl rfl hc ?_
      refine am_R.go 2 (q' := (17, [some (.ref 18), some (.int v1), some (.ref 1004), some (.int (v3 + 1))], [], M35)) rfl trivial ?_
      exact hk17 (v3 + 1) _ h
    · refine am_R.bn rfl rfl hc ?_
      refine am_R.go 1 (q' := (42, [some (.ref 18), some (.int v1), some (.ref 1004), some (.int v3)], [.int 0], M35)) rfl trivial ?_
      cases h
      exact am_R.ret rfl rfl (Or.inl rfl)
set_option maxRecDepth 100000 in
theorem t_X5_isWord_1004_17 (z : Value) (N : Nat) (v1 : Int32) {r : Except Nat (Option Value)} {M' : am_M} : ∀ (n : Nat) (v3 : Int32) (M : am_M), f_X5_isWord_1004_17 N v1 n v3 M = some (r, M') → cR z me_X5_isWord (17, [some (.ref 18), some (.int v1), some (.ref 1004), some (.int v3)], [], M) r M' := by
  intro n
  induction n with
  | zero => intro v3 M h; cases h
  | succ n ih => intro v3 M h; exact t_X5_isWord_1004_17B z N v1 _ ih v3 M h
def f_X5_isWord_1004 (N : Nat) (p1 : Int32) (M : am_M) : Option (Except Nat (Option Value) × am_M) :=
  am_bi (f_cJ0_length_1004 N M) fun r7 M7 =>
    if ((M 18 6) - p1) = r7 then
      f_X5_isWord_1004_17 N p1 N 0 M7
    else
      some (.ok (some (.int 0)), M7)
set_option maxRecDepth 100000 in
theorem t_X5_isWord_1004 (z : Value) (N : Nat) (p1 : Int32) (M : am_M) {r : Except Nat (Option Value)} {M' : am_M} (h : f_X5_isWord_1004 N p1 M = some (r, M')) : cR z me_X5_isWord (0, [some (.ref 18), some (.int p1), some (.ref 1004), none], [], M) r M' := by
  unfold f_X5_isWord_1004 at h
  refine am_R.go 5 (q' := (7, [some (.ref 18), some (.int p1), some (.ref 1004), none], [.ref 1004, .int ((M 18 6) - p1)], M)) rfl trivial ?_
  obtain ⟨r7, M7, hz, h⟩ := am_bi_s h
  refine am_R.call (e' := me_J0_length_8abf5) (as := [.ref 1004]) (rest := [.int ((M 18 6) - p1)]) rfl rfl (Nat.le_of_ble_eq_true rfl) (t_cJ0_length_1004 z N _ hz) ?_
  rcases am_it h with ⟨hc, h⟩ | ⟨hc, h⟩
  · refine am_R.bt rfl rfl hc ?_
    refine am_R.go 2 (q' := (17, [some (.ref 18), some (.int p1), some (.ref 1004), some (.int 0)], [], M7)) rfl trivial ?_
    exact t_X5_isWord_1004_17 z N p1 N 0 _ h
  · refine am_R.bn rfl rfl hc ?_
    refine am_R.go 1 (q' := (14, [some (.ref 18), some (.int p1), some (.ref 1004), none], [.int 0], M7)) rfl trivial ?_
    cases h
    exact am_R.ret rfl rfl (Or.inl rfl)
def f_cJ0_coder_1005 (N : Nat) (M : am_M) : Option (Except Nat (Option Value) × am_M) :=
  if (0 : Int32).toInt8.toInt32 = 0 then some (.ok (some (.int 0)), M) else none
set_option maxRecDepth 100000 in
theorem t_cJ0_coder_1005 (z : Value) (N : Nat) (M : am_M) {r : Except Nat (Option Value)} {M' : am_M} (h : f_cJ0_coder_1005 N M = some (r, M')) : cR z me_J0_coder_7d493 (0, [some (.ref 1005)], [], M) r M' := by
  unfold f_cJ0_coder_1005 at h
  refine am_R.go 1 (q' := (3, [some (.ref 1005)], [.int 1], M)) rfl trivial ?_
  refine am_R.cn rfl rfl (by unfold am_c; decide) ?_
  refine am_R.go 3 (q' := (14, [some (.ref 1005)], [.int 0], M)) rfl ⟨(by decide), trivial⟩ ?_
  obtain ⟨hC, h⟩ := am_gd h
  cases h
  exact am_R.ret rfl rfl hC
def f_cJ0_length_1005 (N : Nat) (M : am_M) : Option (Except Nat (Option Value) × am_M) :=
  am_bi (f_cJ0_coder_1005 N M) fun r6 M6 =>
    some (.ok (some (.int (4 >>> (r6 &&& 31)))), M6)
set_option maxRecDepth 100000 in
theorem t_cJ0_length_1005 (z : Value) (N : Nat) (M : am_M) {r : Except Nat (Option Value)} {M' : am_M} (h : f_cJ0_length_1005 N M = some (r, M')) : cR z me_J0_length_8abf5 (0, [some (.ref 1005)], [], M) r M' := by
  unfold f_cJ0_length_1005 at h
  refine am_R.go 4 (q' := (6, [some (.ref 1005)], [.ref 1005, .int 4], M)) rfl ⟨(by decide), trivial⟩ ?_
  obtain ⟨r6, M6, hz, h⟩ := am_bi_s h
  refine am_R.call (e' := me_J0_coder_7d493) (as := [.ref 1005]) (rest := [.int 4]) rfl rfl (Nat.le_of_ble_eq_true rfl) (t_cJ0_coder_1005 z N _ hz) ?_
  refine am_R.go 1 (q' := (10, [some (.ref 1005)], [.int (4 >>> (r6 &&& 31))], M6)) rfl trivial ?_
  cases h
  exact am_R.ret rfl rfl trivial
def f_cJ0_isLatin1_1005 (N : Nat) (M : am_M) : Option (Except Nat (Option Value) × am_M) :=
  some (.ok (some (.int 1)), M)
set_option maxRecDepth 100000 in
theorem t_cJ0_isLatin1_1005 (z : Value) (N : Nat) (M : am_M) {r : Except Nat (Option Value)} {M' : am_M} (h : f_cJ0_isLatin1_1005 N M = some (r, M')) : cR z me_J0_isLatin1_aae02 (0, [some (.ref 1005)], [], M) r M' := by
  unfold f_cJ0_isLatin1_1005 at h
  refine am_R.go 1 (q' := (3, [some (.ref 1005)], [.int 1], M)) rfl trivial ?_
  refine am_R.cn rfl rfl (by unfold am_c; decide) ?_
  refine am_R.go 2 (q' := (10, [some (.ref 1005)], [.int 0], M)) rfl ⟨(by decide), trivial⟩ ?_
  refine am_R.cn rfl rfl (by unfold am_c; decide) ?_
  refine am_R.go 2 (q' := (18, [some (.ref 1005)], [.int 1], M)) rfl trivial ?_
  cases h
  exact am_R.ret rfl rfl (Or.inr rfl)
def f_cJ1_charAt_2005 (N : Nat) (p1 : Int32) (M : am_M) : Option (Except Nat (Option Value) × am_M) :=
  am_bv (f_cJ0_checkIndex N p1 4 M) fun M3 =>
    if am_in p1 4 then
      if ((((((am_byt.getD 5 []).getD p1.toNatClampNeg 0) &&& 255).toUInt32 % 65536).toInt32).toUInt32 % 65536).toInt32 = ((((am_byt.getD 5 []).getD p1.toNatClampNeg 0) &&& 255).toUInt32 % 65536).toInt32 then some (.ok (some (.int (((((am_byt.getD 5 []).getD p1.toNatClampNeg 0) &&& 255).toUInt32 % 65536).toInt32))), M3) else none
    else none
set_option maxRecDepth 100000 in
theorem t_cJ1_charAt_2005 (z : Value) (N : Nat) (p1 : Int32) (M : am_M) {r : Except Nat (Option Value)} {M' : am_M} (h : f_cJ1_charAt_2005 N p1 M = some (r, M')) : cR z me_J1_charAt_3b067 (0, [some (.ref 2005), some (.int p1)], [], M) r M' := by
  unfold f_cJ1_charAt_2005 at h
  refine am_R.go 3 (q' := (3, [some (.ref 2005), some (.int p1)], [.int 4, .int p1], M)) rfl trivial ?_
  obtain ⟨M3, hz, h⟩ := am_bv_s h
  refine am_R.call (e' := me_J0_checkIndex_df160) (as := [.int p1, .int 4]) (rest := []) rfl rfl (Nat.le_of_ble_eq_true rfl) (t_cJ0_checkIndex z N p1 4 _ hz) ?_
  obtain ⟨hC, h⟩ := am_gd h
  refine am_R.go 6 (q' := (14, [some (.ref 2005), some (.int p1)], [.int (((((am_byt.getD 5 []).getD p1.toNatClampNeg 0) &&& 255).toUInt32 % 65536).toInt32)], M3)) rfl ⟨hC, trivial⟩ ?_
  obtain ⟨hC, h⟩ := am_gd h
  cases h
  exact am_R.ret rfl rfl hC
def f_cJ0_charAt_1005 (N : Nat) (p1 : Int32) (M : am_M) : Option (Except Nat (Option Value) × am_M) :=
  am_bi (f_cJ0_isLatin1_1005 N M) fun r1 M1 =>
    if r1 = 0 then
      none
    else
      am_bi (f_cJ1_charAt_2005 N p1 M1) fun r12 M12 =>
        if (r12.toUInt32 % 65536).toInt32 = r12 then some (.ok (some (.int r12)), M12) else none
set_option maxRecDepth 100000 in
theorem t_cJ0_charAt_1005 (z : Value) (N : Nat) (p1 : Int32) (M : am_M) {r : Except Nat (Option Value)} {M' : am_M} (h : f_cJ0_charAt_1005 N p1 M = some (r, M')) : cR z me_J0_charAt_5068e (0, [some (.ref 1005), some (.int p1)], [], M) r M' := by
  unfold f_cJ0_charAt_1005 at h
  refine am_R.go 1 (q' := (1, [some (.ref 1005), some (.int p1)], [.ref 1005], M)) rfl trivial ?_
  obtain ⟨r1, M1, hz, h⟩ := am_bi_s h
  refine am_R.call (e' := me_J0_isLatin1_aae02) (as := [.ref 1005]) (rest := []) rfl rfl (Nat.le_of_ble_eq_true rfl) (t_cJ0_isLatin1_1005 z N _ hz) ?_
  rcases am_it h with ⟨hc, h⟩ | ⟨hc, h⟩
  · refine am_R.ct rfl rfl hc ?_
    cases h
  · refine am_R.cn rfl rfl hc ?_
    refine am_R.go 3 (q' := (12, [some (.ref 1005), some (.int p1)], [.int p1, .ref 2005], M1)) rfl ⟨(by decide), trivial⟩ ?_
    obtain ⟨r12, M12, hz, h⟩ := am_bi_s h
    refine am_R.call (e' := me_J1_charAt_3b067) (as := [.ref 2005, .int p1]) (rest := []) rfl rfl (Nat.le_of_ble_eq_true rfl) (t_cJ1_charAt_2005 z N p1 _ hz) ?_
    obtain ⟨hC, h⟩ := am_gd h
    cases h
    exact am_R.ret rfl rfl hC
def f_X5_isWord_1005_17B (N : Nat) (v1 : Int32) (k17 : Int32 → am_M → Option (Except Nat (Option Value) × am_M)) (v3 : Int32) (M : am_M) : Option (Except Nat (Option Value) × am_M) :=
  am_bi (f_cJ0_length_1005 N M) fun r19 M19 =>
    if r19 ≤ v3 then
      some (.ok (some (.int 1)), M19)
    else
      if am_in (v1 + v3) 600 then
        am_bi (f_cJ0_charAt_1005 N v3 M19) fun r35 M35 =>
          if (M19 1 ((v1 + v3).toNatClampNeg)) = r35 then
            k17 (v3 + 1) M35
          else
            some (.ok (some (.int 0)), M35)
      else none
def f_X5_isWord_1005_17 (N : Nat) (v1 : Int32) : Nat → Int32 → am_M → Option (Except Nat (Option Value) × am_M)
  | 0 => fun _ _ => none
  | n + 1 => f_X5_isWord_1005_17B N v1 (f_X5_isWord_1005_17 N v1 n)
set_option maxRecDepth 100000 in
theorem t_X5_isWord_1005_17B (z : Value) (N : Nat) (v1 : Int32) {r : Except Nat (Option Value)} {M' : am_M} (k17 : Int32 → am_M → Option (Except Nat (Option Value) × am_M)) (hk17 : ∀ (v3 : Int32) (M : am_M), k17 v3 M = some (r, M') → cR z me_X5_isWord (17, [some (.ref 18), some (.int v1), some (.ref 1005), some (.int v3)], [], M) r M') (v3 : Int32) (M : am_M) (h : f_X5_isWord_1005_17B N v1 k17 v3 M = some (r, M')) : cR z me_X5_isWord (17, [some (.ref 18), some (.int v1), some (.ref 1005), some (.int v3)], [], M) r M' := by
  unfold f_X5_isWord_1005_17B at h
  refine am_R.go 2 (q' := (19, [some (.ref 18), some (.int v1), some (.ref 1005), some (.int v3)], [.ref 1005, .int v3], M)) rfl trivial ?_
  obtain ⟨r19, M19, hz, h⟩ := am_bi_s h
  refine am_R.call (e' := me_J0_length_8abf5) (as := [.ref 1005]) (rest := [.int v3]) rfl rfl (Nat.le_of_ble_eq_true rfl) (t_cJ0_length_1005 z N _ hz) ?_
  rcases am_it h with ⟨hc, h⟩ | ⟨hc, h⟩
  · refine am_R.bt rfl rfl hc ?_
    refine am_R.go 1 (q' := (50, [some (.ref 18), some (.int v1), some (.ref 1005), some (.int v3)], [.int 1], M19)) rfl trivial ?_
    cases h
    exact am_R.ret rfl rfl (Or.inr rfl)
  · refine am_R.bn rfl rfl hc ?_
    obtain ⟨hC, h⟩ := am_gd h
    refine am_R.go 8 (q' := (35, [some (.ref 18), some (.int v1), some (.ref 1005), some (.int v3)], [.int v3, .ref 1005, .int (M19 1 ((v1 + v3).toNatClampNeg))], M19)) rfl ⟨hC, trivial⟩ ?_
    obtain ⟨r35, M35, hz, h⟩ := am_bi_s h
    refine am_R.call (e' := me_J0_charAt_5068e) (as := [.ref 1005, .int v3]) (rest := [.int (M19 1 ((v1 + v3).toNatClampNeg))]) rfl rfl (Nat.le_of_ble_eq_true rfl) (t_cJ0_charAt_1005 z N v3 _ hz) ?_
    rcases am_it h with ⟨hc, h⟩ | ⟨hc, h⟩
    · refine am_R.bt rfl rfl hc ?_
      refine am_R.go 2 (q' := (17, [some (.ref 18), some (.int v1), some (.ref 1005), some (.int (v3 + 1))], [], M35)) rfl trivial ?_
      exact hk17 (v3 + 1) _ h
    · refine am_R.bn rfl rfl hc ?_
      refine am_R.go 1 (q' := (42, [some (.ref 18), some (.int v1), some (.ref 1005), some (.int v3)], [.int 0], M35)) rfl trivial ?_
      cases h
      exact am_R.ret rfl rfl (Or.inl rfl)
set_option maxRecDepth 100000 in
theorem t_X5_isWord_1005_17 (z : Value) (N : Nat) (v1 : Int32) {r : Except Nat (Option Value)} {M' : am_M} : ∀ (n : Nat) (v3 : Int32) (M : am_M), f_X5_isWord_1005_17 N v1 n v3 M = some (r, M') → cR z me_X5_isWord (17, [some (.ref 18), some (.int v1), some (.ref 1005), some (.int v3)], [], M) r M' := by
  intro n
  induction n with
  | zero => intro v3 M h; cases h
  | succ n ih => intro v3 M h; exact t_X5_isWord_1005_17B z N v1 _ ih v3 M h
def f_X5_isWord_1005 (N : Nat) (p1 : Int32) (M : am_M) : Option (Except Nat (Option Value) × am_M) :=
  am_bi (f_cJ0_length_1005 N M) fun r7 M7 =>
    if ((M 18 6) - p1) = r7 then
      f_X5_isWord_1005_17 N p1 N 0 M7
    else
      some (.ok (some (.int 0)), M7)
set_option maxRecDepth 100000 in
theorem t_X5_isWord_1005 (z : Value) (N : Nat) (p1 : Int32) (M : am_M) {r : Except Nat (Option Value)} {M' : am_M} (h : f_X5_isWord_1005 N p1 M = some (r, M')) : cR z me_X5_isWord (0, [some (.ref 18), some (.int p1), some (.ref 1005), none], [], M) r M' := by
  unfold f_X5_isWord_1005 at h
  refine am_R.go 5 (q' := (7, [some (.ref 18), some (.int p1), some (.ref 1005), none], [.ref 1005, .int ((M 18 6) - p1)], M)) rfl trivial ?_
  obtain ⟨r7, M7, hz, h⟩ := am_bi_s h
  refine am_R.call (e' := me_J0_length_8abf5) (as := [.ref 1005]) (rest := [.int ((M 18 6) - p1)]) rfl rfl (Nat.le_of_ble_eq_true rfl) (t_cJ0_length_1005 z N _ hz) ?_
  rcases am_it h with ⟨hc, h⟩ | ⟨hc, h⟩
  · refine am_R.bt rfl rfl hc ?_
    refine am_R.go 2 (q' := (17, [some (.ref 18), some (.int p1), some (.ref 1005), some (.int 0)], [], M7)) rfl trivial ?_
    exact t_X5_isWord_1005_17 z N p1 N 0 _ h
  · refine am_R.bn rfl rfl hc ?_
    refine am_R.go 1 (q' := (14, [some (.ref 18), some (.int p1), some (.ref 1005), none], [.int 0], M7)) rfl trivial ?_
    cases h
    exact am_R.ret rfl rfl (Or.inl rfl)
def f_cJ0_coder_1006 (N : Nat) (M : am_M) : Option (Except Nat (Option Value) × am_M) :=
  if (0 : Int32).toInt8.toInt32 = 0 then some (.ok (some (.int 0)), M) else none
set_option maxRecDepth 100000 in
theorem t_cJ0_coder_1006 (z : Value) (N : Nat) (M : am_M) {r : Except Nat (Option Value)} {M' : am_M} (h : f_cJ0_coder_1006 N M = some (r, M')) : cR z me_J0_coder_7d493 (0, [some (.ref 1006)], [], M) r M' := by
  unfold f_cJ0_coder_1006 at h
  refine am_R.go 1 (q' := (3, [some (.ref 1006)], [.int 1], M)) rfl trivial ?_
  refine am_R.cn rfl rfl (by unfold am_c; decide) ?_
  refine am_R.go 3 (q' := (14, [some (.ref 1006)], [.int 0], M)) rfl ⟨(by decide), trivial⟩ ?_
  obtain ⟨hC, h⟩ := am_gd h
  cases h
  exact am_R.ret rfl rfl hC
def f_cJ0_length_1006 (N : Nat) (M : am_M) : Option (Except Nat (Option Value) × am_M) :=
  am_bi (f_cJ0_coder_1006 N M) fun r6 M6 =>
    some (.ok (some (.int (6 >>> (r6 &&& 31)))), M6)
set_option maxRecDepth 100000 in
theorem t_cJ0_length_1006 (z : Value) (N : Nat) (M : am_M) {r : Except Nat (Option Value)} {M' : am_M} (h : f_cJ0_length_1006 N M = some (r, M')) : cR z me_J0_length_8abf5 (0, [some (.ref 1006)], [], M) r M' := by
  unfold f_cJ0_length_1006 at h
  refine am_R.go 4 (q' := (6, [some (.ref 1006)], [.ref 1006, .int 6], M)) rfl ⟨(by decide), trivial⟩ ?_
  obtain ⟨r6, M6, hz, h⟩ := am_bi_s h
  refine am_R.call (e' := me_J0_coder_7d493) (as := [.ref 1006]) (rest := [.int 6]) rfl rfl (Nat.le_of_ble_eq_true rfl) (t_cJ0_coder_1006 z N _ hz) ?_
  refine am_R.go 1 (q' := (10, [some (.ref 1006)], [.int (6 >>> (r6 &&& 31))], M6)) rfl trivial ?_
  cases h
  exact am_R.ret rfl rfl trivial
def f_cJ0_isLatin1_1006 (N : Nat) (M : am_M) : Option (Except Nat (Option Value) × am_M) :=
  some (.ok (some (.int 1)), M)
set_option maxRecDepth 100000 in
theorem t_cJ0_isLatin1_1006 (z : Value) (N : Nat) (M : am_M) {r : Except Nat (Option Value)} {M' : am_M} (h : f_cJ0_isLatin1_1006 N M = some (r, M')) : cR z me_J0_isLatin1_aae02 (0, [some (.ref 1006)], [], M) r M' := by
  unfold f_cJ0_isLatin1_1006 at h
  refine am_R.go 1 (q' := (3, [some (.ref 1006)], [.int 1], M)) rfl trivial ?_
  refine am_R.cn rfl rfl (by unfold am_c; decide) ?_
  refine am_R.go 2 (q' := (10, [some (.ref 1006)], [.int 0], M)) rfl ⟨(by decide), trivial⟩ ?_
  refine am_R.cn rfl rfl (by unfold am_c; decide) ?_
  refine am_R.go 2 (q' := (18, [some (.ref 1006)], [.int 1], M)) rfl trivial ?_
  cases h
  exact am_R.ret rfl rfl (Or.inr rfl)
def f_cJ1_charAt_2006 (N : Nat) (p1 : Int32) (M : am_M) : Option (Except Nat (Option Value) × am_M) :=
  am_bv (f_cJ0_checkIndex N p1 6 M) fun M3 =>
    if am_in p1 6 then
      if ((((((am_byt.getD 6 []).getD p1.toNatClampNeg 0) &&& 255).toUInt32 % 65536).toInt32).toUInt32 % 65536).toInt32 = ((((am_byt.getD 6 []).getD p1.toNatClampNeg 0) &&& 255).toUInt32 % 65536).toInt32 then some (.ok (some (.int (((((am_byt.getD 6 []).getD p1.toNatClampNeg 0) &&& 255).toUInt32 % 65536).toInt32))), M3) else none
    else none
set_option maxRecDepth 100000 in
theorem t_cJ1_charAt_2006 (z : Value) (N : Nat) (p1 : Int32) (M : am_M) {r : Except Nat (Option Value)} {M' : am_M} (h : f_cJ1_charAt_2006 N p1 M = some (r, M')) : cR z me_J1_charAt_3b067 (0, [some (.ref 2006), some (.int p1)], [], M) r M' := by
  unfold f_cJ1_charAt_2006 at h
  refine am_R.go 3 (q' := (3, [some (.ref 2006), some (.int p1)], [.int 6, .int p1], M)) rfl trivial ?_
  obtain ⟨M3, hz, h⟩ := am_bv_s h
  refine am_R.call (e' := me_J0_checkIndex_df160) (as := [.int p1, .int 6]) (rest := []) rfl rfl (Nat.le_of_ble_eq_true rfl) (t_cJ0_checkIndex z N p1 6 _ hz) ?_
  obtain ⟨hC, h⟩ := am_gd h
  refine am_R.go 6 (q' := (14, [some (.ref 2006), some (.int p1)], [.int (((((am_byt.getD 6 []).getD p1.toNatClampNeg 0) &&& 255).toUInt32 % 65536).toInt32)], M3)) rfl ⟨hC, trivial⟩ ?_
  obtain ⟨hC, h⟩ := am_gd h
  cases h
  exact am_R.ret rfl rfl hC
def f_cJ0_charAt_1006 (N : Nat) (p1 : Int32) (M : am_M) : Option (Except Nat (Option Value) × am_M) :=
  am_bi (f_cJ0_isLatin1_1006 N M) fun r1 M1 =>
    if r1 = 0 then
      none
    else
      am_bi (f_cJ1_charAt_2006 N p1 M1) fun r12 M12 =>
        if (r12.toUInt32 % 65536).toInt32 = r12 then some (.ok (some (.int r12)), M12) else none
set_option maxRecDepth 100000 in
theorem t_cJ0_charAt_1006 (z : Value) (N : Nat) (p1 : Int32) (M : am_M) {r : Except Nat (Option Value)} {M' : am_M} (h : f_cJ0_charAt_1006 N p1 M = some (r, M')) : cR z me_J0_charAt_5068e (0, [some (.ref 1006), some (.int p1)], [], M) r M' := by
  unfold f_cJ0_charAt_1006 at h
  refine am_R.go 1 (q' := (1, [some (.ref 1006), some (.int p1)], [.ref 1006], M)) rfl trivial ?_
  obtain ⟨r1, M1, hz, h⟩ := am_bi_s h
  refine am_R.call (e' := me_J0_isLatin1_aae02) (as := [.ref 1006]) (rest := []) rfl rfl (Nat.le_of_ble_eq_true rfl) (t_cJ0_isLatin1_1006 z N _ hz) ?_
  rcases am_it h with ⟨hc, h⟩ | ⟨hc, h⟩
  · refine am_R.ct rfl rfl hc ?_
    cases h
  · refine am_R.cn rfl rfl hc ?_
    refine am_R.go 3 (q' := (12, [some (.ref 1006), some (.int p1)], [.int p1, .ref 2006], M1)) rfl ⟨(by decide), trivial⟩ ?_
    obtain ⟨r12, M12, hz, h⟩ := am_bi_s h
    refine am_R.call (e' := me_J1_charAt_3b067) (as := [.ref 2006, .int p1]) (rest := []) rfl rfl (Nat.le_of_ble_eq_true rfl) (t_cJ1_charAt_2006 z N p1 _ hz) ?_
    obtain ⟨hC, h⟩ := am_gd h
    cases h
    exact am_R.ret rfl rfl hC
def f_X5_isWord_1006_17B (N : Nat) (v1 : Int32) (k17 : Int32 → am_M → Option (Except Nat (Option Value) × am_M)) (v3 : Int32) (M : am_M) : Option (Except Nat (Option Value) × am_M) :=
  am_bi (f_cJ0_length_1006 N M) fun r19 M19 =>
    if r19 ≤ v3 then
      some (.ok (some (.int 1)), M19)
    else
      if am_in (v1 + v3) 600 then
        am_bi (f_cJ0_charAt_1006 N v3 M19) fun r35 M35 =>
          if (M19 1 ((v1 + v3).toNatClampNeg)) = r35 then
            k17 (v3 + 1) M35
          else
            some (.ok (some (.int 0)), M35)
      else none
def f_X5_isWord_1006_17 (N : Nat) (v1 : Int32) : Nat → Int32 → am_M → Option (Except Nat (Option Value) × am_M)
  | 0 => fun _ _ => none
  | n + 1 => f_X5_isWord_1006_17B N v1 (f_X5_isWord_1006_17 N v1 n)
set_option maxRecDepth 100000 in
theorem t_X5_isWord_1006_17B (z : Value) (N : Nat) (v1 : Int32) {r : Except Nat (Option Value)} {M' : am_M} (k17 : Int32 → am_M → Option (Except Nat (Option Value) × am_M)) (hk17 : ∀ (v3 : Int32) (M : am_M), k17 v3 M = some (r, M') → cR z me_X5_isWord (17, [some (.ref 18), some (.int v1), some (.ref 1006), some (.int v3)], [], M) r M') (v3 : Int32) (M : am_M) (h : f_X5_isWord_1006_17B N v1 k17 v3 M = some (r, M')) : cR z me_X5_isWord (17, [some (.ref 18), some (.int v1), some (.ref 1006), some (.int v3)], [], M) r M' := by
  unfold f_X5_isWord_1006_17B at h
  refine am_R.go 2 (q' := (19, [some (.ref 18), some (.int v1), some (.ref 1006), some (.int v3)], [.ref 1006, .int v3], M)) rfl trivial ?_
  obtain ⟨r19, M19, hz, h⟩ := am_bi_s h
  refine am_R.call (e' := me_J0_length_8abf5) (as := [.ref 1006]) (rest := [.int v3]) rfl rfl (Nat.le_of_ble_eq_true rfl) (t_cJ0_length_1006 z N _ hz) ?_
  rcases am_it h with ⟨hc, h⟩ | ⟨hc, h⟩
  · refine am_R.bt rfl rfl hc ?_
    refine am_R.go 1 (q' := (50, [some (.ref 18), some (.int v1), some (.ref 1006), some (.int v3)], [.int 1], M19)) rfl trivial ?_
    cases h
    exact am_R.ret rfl rfl (Or.inr rfl)
  · refine am_R.bn rfl rfl hc ?_
    obtain ⟨hC, h⟩ := am_gd h
    refine am_R.go 8 (q' := (35, [some (.ref 18), some (.int v1), some (.ref 1006), some (.int v3)], [.int v3, .ref 1006, .int (M19 1 ((v1 + v3).toNatClampNeg))], M19)) rfl ⟨hC, trivial⟩ ?_
    obtain ⟨r35, M35, hz, h⟩ := am_bi_s h
    refine am_R.call (e' := me_J0_charAt_5068e) (as := [.ref 1006, .int v3]) (rest := [.int (M19 1 ((v1 + v3).toNatClampNeg))]) rfl rfl (Nat.le_of_ble_eq_true rfl) (t_cJ0_charAt_1006 z N v3 _ hz) ?_
    rcases am_it h with ⟨hc, h⟩ | ⟨hc, h⟩
    · refine am_R.bt rfl rfl hc ?_
      refine am_R.go 2 (q' := (17, [some (.ref 18), some (.int v1), some (.ref 1006), some (.int (v3 + 1))], [], M35)) rfl trivial ?_
      exact hk17 (v3 + 1) _ h
    · refine am_R.bn rfl rfl hc ?_
      refine am_R.go 1 (q' := (42, [some (.ref 18), some (.int v1), some (.ref 1006), some (.int v3)], [.int 0], M35)) rfl trivial ?_
      cases h
      exact am_R.ret rfl rfl (Or.inl rfl)
set_option maxRecDepth 100000 in
theorem t_X5_isWord_1006_17 (z : Value) (N : Nat) (v1 : Int32) {r : Except Nat (Option Value)} {M' : am_M} : ∀ (n : Nat) (v3 : Int32) (M : am_M), f_X5_isWord_1006_17 N v1 n v3 M = some (r, M') → cR z me_X5_isWord (17, [some (.ref 18), some (.int v1), some (.ref 1006), some (.int v3)], [], M) r M' := by
  intro n
  induction n with
  | zero => intro v3 M h; cases h
  | succ n ih => intro v3 M h; exact t_X5_isWord_1006_17B z N v1 _ ih v3 M h
def f_X5_isWord_1006 (N : Nat) (p1 : Int32) (M : am_M) : Option (Except Nat (Option Value) × am_M) :=
  am_bi (f_cJ0_length_1006 N M) fun r7 M7 =>
    if ((M 18 6) - p1) = r7 then
      f_X5_isWord_1006_17 N p1 N 0 M7
    else
      some (.ok (some (.int 0)), M7)
set_option maxRecDepth 100000 in
theorem t_X5_isWord_1006 (z : Value) (N : Nat) (p1 : Int32) (M : am_M) {r : Except Nat (Option Value)} {M' : am_M} (h : f_X5_isWord_1006 N p1 M = some (r, M')) : cR z me_X5_isWord (0, [some (.ref 18), some (.int p1), some (.ref 1006), none], [], M) r M' := by
  unfold f_X5_isWord_1006 at h
  refine am_R.go 5 (q' := (7, [some (.ref 18), some (.int p1), some (.ref 1006), none], [.ref 1006, .int ((M 18 6) - p1)], M)) rfl trivial ?_
  obtain ⟨r7, M7, hz, h⟩ := am_bi_s h
  refine am_R.call (e' := me_J0_length_8abf5) (as := [.ref 1006]) (rest := [.int ((M 18 6) - p1)]) rfl rfl (Nat.le_of_ble_eq_true rfl) (t_cJ0_length_1006 z N _ hz) ?_
  rcases am_it h with ⟨hc, h⟩ | ⟨hc, h⟩
  · refine am_R.bt rfl rfl hc ?_
    refine am_R.go 2 (q' := (17, [some (.ref 18), some (.int p1), some (.ref 1006), some (.int 0)], [], M7)) rfl trivial ?_
    exact t_X5_isWord_1006_17 z N p1 N 0 _ h
  · refine am_R.bn rfl rfl hc ?_
    refine am_R.go 1 (q' := (14, [some (.ref 18), some (.int p1), some (.ref 1006), none], [.int 0], M7)) rfl trivial ?_
    cases h
    exact am_R.ret rfl rfl (Or.inl rfl)
def f_cJ0_coder_1007 (N : Nat) (M : am_M) : Option (Except Nat (Option Value) × am_M) :=
  if (0 : Int32).toInt8.toInt32 = 0 then some (.ok (some (.int 0)), M) else none
set_option maxRecDepth 100000 in
theorem t_cJ0_coder_1007 (z : Value) (N : Nat) (M : am_M) {r : Except Nat (Option Value)} {M' : am_M} (h : f_cJ0_coder_1007 N M = some (r, M')) : cR z me_J0_coder_7d493 (0, [some (.ref 1007)], [], M) r M' := by
  unfold f_cJ0_coder_1007 at h
  refine am_R.go 1 (q' := (3, [some (.ref 1007)], [.int 1], M)) rfl trivial ?_
  refine am_R.cn rfl rfl (by unfold am_c; decide) ?_
  refine am_R.go 3 (q' := (14, [some (.ref 1007)], [.int 0], M)) rfl ⟨(by decide), trivial⟩ ?_
  obtain ⟨hC, h⟩ := am_gd h
  cases h
  exact am_R.ret rfl rfl hC
def f_cJ0_length_1007 (N : Nat) (M : am_M) : Option (Except Nat (Option Value) × am_M) :=
  am_bi (f_cJ0_coder_1007 N M) fun r6 M6 =>
    some (.ok (some (.int (5 >>> (r6 &&& 31)))), M6)
set_option maxRecDepth 100000 in
theorem t_cJ0_length_1007 (z : Value) (N : Nat) (M : am_M) {r : Except Nat (Option Value)} {M' : am_M} (h : f_cJ0_length_1007 N M = some (r, M')) : cR z me_J0_length_8abf5 (0, [some (.ref 1007)], [], M) r M' := by
  unfold f_cJ0_length_1007 at h
  refine am_R.go 4 (q' := (6, [some (.ref 1007)], [.ref 1007, .int 5], M)) rfl ⟨(by decide), trivial⟩ ?_
  obtain ⟨r6, M6, hz, h⟩ := am_bi_s h
  refine am_R.call (e' := me_J0_coder_7d493) (as := [.ref 1007]) (rest := [.int 5]) rfl rfl (Nat.le_of_ble_eq_true rfl) (t_cJ0_coder_1007 z N _ hz) ?_
  refine am_R.go 1 (q' := (10, [some (.ref 1007)], [.int (5 >>> (r6 &&& 31))], M6)) rfl trivial ?_
  cases h
  exact am_R.ret rfl rfl trivial
def f_cJ0_isLatin1_1007 (N : Nat) (M : am_M) : Option (Except Nat (Option Value) × am_M) :=
  some (.ok (some (.int 1)), M)
set_option maxRecDepth 100000 in
theorem t_cJ0_isLatin1_1007 (z : Value) (N : Nat) (M : am_M) {r : Except Nat (Option Value)} {M' : am_M} (h : f_cJ0_isLatin1_1007 N M = some (r, M')) : cR z me_J0_isLatin1_aae02 (0, [some (.ref 1007)], [], M) r M' := by
  unfold f_cJ0_isLatin1_1007 at h
  refine am_R.go 1 (q' := (3, [some (.ref 1007)], [.int 1], M)) rfl trivial ?_
  refine am_R.cn rfl rfl (by unfold am_c; decide) ?_
  refine am_R.go 2 (q' := (10, [some (.ref 1007)], [.int 0], M)) rfl ⟨(by decide), trivial⟩ ?_
  refine am_R.cn rfl rfl (by unfold am_c; decide) ?_
  refine am_R.go 2 (q' := (18, [some (.ref 1007)], [.int 1], M)) rfl trivial ?_
  cases h
  exact am_R.ret rfl rfl (Or.inr rfl)
def f_cJ1_charAt_2007 (N : Nat) (p1 : Int32) (M : am_M) : Option (Except Nat (Option Value) × am_M) :=
  am_bv (f_cJ0_checkIndex N p1 5 M) fun M3 =>
    if am_in p1 5 then
      if ((((((am_byt.getD 7 []).getD p1.toNatClampNeg 0) &&& 255).toUInt32 % 65536).toInt32).toUInt32 % 65536).toInt32 = ((((am_byt.getD 7 []).getD p1.toNatClampNeg 0) &&& 255).toUInt32 % 65536).toInt32 then some (.ok (some (.int (((((am_byt.getD 7 []).getD p1.toNatClampNeg 0) &&& 255).toUInt32 % 65536).toInt32))), M3) else none
    else none
set_option maxRecDepth 100000 in
theorem t_cJ1_charAt_2007 (z : Value) (N : Nat) (p1 : Int32) (M : am_M) {r : Except Nat (Option Value)} {M' : am_M} (h : f_cJ1_charAt_2007 N p1 M = some (r, M')) : cR z me_J1_charAt_3b067 (0, [some (.ref 2007), some (.int p1)], [], M) r M' := by
  unfold f_cJ1_charAt_2007 at h
  refine am_R.go 3 (q' := (3, [some (.ref 2007), some (.int p1)], [.int 5, .int p1], M)) rfl trivial ?_
  obtain ⟨M3, hz, h⟩ := am_bv_s h
  refine am_R.call (e' := me_J0_checkIndex_df160) (as := [.int p1, .int 5]) (rest := []) rfl rfl (Nat.le_of_ble_eq_true rfl) (t_cJ0_checkIndex z N p1 5 _ hz) ?_
  obtain ⟨hC, h⟩ := am_gd h
  refine am_R.go 6 (q' := (14, [some (.ref 2007), some (.int p1)], [.int (((((am_byt.getD 7 []).getD p1.toNatClampNeg 0) &&& 255).toUInt32 % 65536).toInt32)], M3)) rfl ⟨hC, trivial⟩ ?_
  obtain ⟨hC, h⟩ := am_gd h
  cases h
  exact am_R.ret rfl rfl hC
def f_cJ0_charAt_1007 (N : Nat) (p1 : Int32) (M : am_M) : Option (Except Nat (Option Value) × am_M) :=
  am_bi (f_cJ0_isLatin1_1007 N M) fun r1 M1 =>
    if r1 = 0 then
      none
    else
      am_bi (f_cJ1_charAt_2007 N p1 M1) fun r12 M12 =>
        if (r12.toUInt32 % 65536).toInt32 = r12 then some (.ok (some (.int r12)), M12) else none
set_option maxRecDepth 100000 in
theorem t_cJ0_charAt_1007 (z : Value) (N : Nat) (p1 : Int32) (M : am_M) {r : Except Nat (Option Value)} {M' : am_M} (h : f_cJ0_charAt_1007 N p1 M = some (r, M')) : cR z me_J0_charAt_5068e (0, [some (.ref 1007), some (.int p1)], [], M) r M' := by
  unfold f_cJ0_charAt_1007 at h
  refine am_R.go 1 (q' := (1, [some (.ref 1007), some (.int p1)], [.ref 1007], M)) rfl trivial ?_
  obtain ⟨r1, M1, hz, h⟩ := am_bi_s h
  refine am_R.call (e' := me_J0_isLatin1_aae02) (as := [.ref 1007]) (rest := []) rfl rfl (Nat.le_of_ble_eq_true rfl) (t_cJ0_isLatin1_1007 z N _ hz) ?_
  rcases am_it h with ⟨hc, h⟩ | ⟨hc, h⟩
  · refine am_R.ct rfl rfl hc ?_
    cases h
  · refine am_R.cn rfl rfl hc ?_
    refine am_R.go 3 (q' := (12, [some (.ref 1007), some (.int p1)], [.int p1, .ref 2007], M1)) rfl ⟨(by decide), trivial⟩ ?_
    obtain ⟨r12, M12, hz, h⟩ := am_bi_s h
    refine am_R.call (e' := me_J1_charAt_3b067) (as := [.ref 2007, .int p1]) (rest := []) rfl rfl (Nat.le_of_ble_eq_true rfl) (t_cJ1_charAt_2007 z N p1 _ hz) ?_
    obtain ⟨hC, h⟩ := am_gd h
    cases h
    exact am_R.ret rfl rfl hC
def f_X5_isWord_1007_17B (N : Nat) (v1 : Int32) (k17 : Int32 → am_M → Option (Except Nat (Option Value) × am_M)) (v3 : Int32) (M : am_M) : Option (Except Nat (Option Value) × am_M) :=
  am_bi (f_cJ0_length_1007 N M) fun r19 M19 =>
    if r19 ≤ v3 then
      some (.ok (some (.int 1)), M19)
    else
      if am_in (v1 + v3) 600 then
        am_bi (f_cJ0_charAt_1007 N v3 M19) fun r35 M35 =>
          if (M19 1 ((v1 + v3).toNatClampNeg)) = r35 then
            k17 (v3 + 1) M35
          else
            some (.ok (some (.int 0)), M35)
      else none
def f_X5_isWord_1007_17 (N : Nat) (v1 : Int32) : Nat → Int32 → am_M → Option (Except Nat (Option Value) × am_M)
  | 0 => fun _ _ => none
  | n + 1 => f_X5_isWord_1007_17B N v1 (f_X5_isWord_1007_17 N v1 n)
set_option maxRecDepth 100000 in
theorem t_X5_isWord_1007_17B (z : Value) (N : Nat) (v1 : Int32) {r : Except Nat (Option Value)} {M' : am_M} (k17 : Int32 → am_M → Option (Except Nat (Option Value) × am_M)) (hk17 : ∀ (v3 : Int32) (M : am_M), k17 v3 M = some (r, M') → cR z me_X5_isWord (17, [some (.ref 18), some (.int v1), some (.ref 1007), some (.int v3)], [], M) r M') (v3 : Int32) (M : am_M) (h : f_X5_isWord_1007_17B N v1 k17 v3 M = some (r, M')) : cR z me_X5_isWord (17, [some (.ref 18), some (.int v1), some (.ref 1007), some (.int v3)], [], M) r M' := by
  unfold f_X5_isWord_1007_17B at h
  refine am_R.go 2 (q' := (19, [some (.ref 18), some (.int v1), some (.ref 1007), some (.int v3)], [.ref 1007, .int v3], M)) rfl trivial ?_
  obtain ⟨r19, M19, hz, h⟩ := am_bi_s h
  refine am_R.call (e' := me_J0_length_8abf5) (as := [.ref 1007]) (rest := [.int v3]) rfl rfl (Nat.le_of_ble_eq_true rfl) (t_cJ0_length_1007 z N _ hz) ?_
  rcases am_it h with ⟨hc, h⟩ | ⟨hc, h⟩
  · refine am_R.bt rfl rfl hc ?_
    refine am_R.go 1 (q' := (50, [some (.ref 18), some (.int v1), some (.ref 1007), some (.int v3)], [.int 1], M19)) rfl trivial ?_
    cases h
    exact am_R.ret rfl rfl (Or.inr rfl)
  · refine am_R.bn rfl rfl hc ?_
    obtain ⟨hC, h⟩ := am_gd h
    refine am_R.go 8 (q' := (35, [some (.ref 18), some (.int v1), some (.ref 1007), some (.int v3)], [.int v3, .ref 1007, .int (M19 1 ((v1 + v3).toNatClampNeg))], M19)) rfl ⟨hC, trivial⟩ ?_
    obtain ⟨r35, M35, hz, h⟩ := am_bi_s h
    refine am_R.call (e' := me_J0_charAt_5068e) (as := [.ref 1007, .int v3]) (rest := [.int (M19 1 ((v1 + v3).toNatClampNeg))]) rfl rfl (Nat.le_of_ble_eq_true rfl) (t_cJ0_charAt_1007 z N v3 _ hz) ?_
    rcases am_it h with ⟨hc, h⟩ | ⟨hc, h⟩
    · refine am_R.bt rfl rfl hc ?_
      refine am_R.go 2 (q' := (17, [some (.ref 18), some (.int v1), some (.ref 1007), some (.int (v3 + 1))], [], M35)) rfl trivial ?_
      exact hk17 (v3 + 1) _ h
    · refine am_R.bn rfl rfl hc ?_
      refine am_R.go 1 (q' := (42, [some (.ref 18), some (.int v1), some (.ref 1007), some (.int v3)], [.int 0], M35)) rfl trivial ?_
      cases h
      exact am_R.ret rfl rfl (Or.inl rfl)
set_option maxRecDepth 100000 in
theorem t_X5_isWord_1007_17 (z : Value) (N : Nat) (v1 : Int32) {r : Except Nat (Option Value)} {M' : am_M} : ∀ (n : Nat) (v3 : Int32) (M : am_M), f_X5_isWord_1007_17 N v1 n v3 M = some (r, M') → cR z me_X5_isWord (17, [some (.ref 18), some (.int v1), some (.ref 1007), some (.int v3)], [], M) r M' := by
  intro n
  induction n with
  | zero => intro v3 M h; cases h
  | succ n ih => intro v3 M h; exact t_X5_isWord_1007_17B z N v1 _ ih v3 M h
def f_X5_isWord_1007 (N : Nat) (p1 : Int32) (M : am_M) : Option (Except Nat (Option Value) × am_M) :=
  am_bi (f_cJ0_length_1007 N M) fun r7 M7 =>
    if ((M 18 6) - p1) = r7 then
      f_X5_isWord_1007_17 N p1 N 0 M7
    else
      some (.ok (some (.int 0)), M7)
set_option maxRecDepth 100000 in
theorem t_X5_isWord_1007 (z : Value) (N : Nat) (p1 : Int32) (M : am_M) {r : Except Nat (Option Value)} {M' : am_M} (h : f_X5_isWord_1007 N p1 M = some (r, M')) : cR z me_X5_isWord (0, [some (.ref 18), some (.int p1), some (.ref 1007), none], [], M) r M' := by
  unfold f_X5_isWord_1007 at h
  refine am_R.go 5 (q' := (7, [some (.ref 18), some (.int p1), some (.ref 1007), none], [.ref 1007, .int ((M 18 6) - p1)], M)) rfl trivial ?_
  obtain ⟨r7, M7, hz, h⟩ := am_bi_s h
  refine am_R.call (e' := me_J0_length_8abf5) (as := [.ref 1007]) (rest := [.int ((M 18 6) - p1)]) rfl rfl (Nat.le_of_ble_eq_true rfl) (t_cJ0_length_1007 z N _ hz) ?_
  rcases am_it h with ⟨hc, h⟩ | ⟨hc, h⟩
  · refine am_R.bt rfl rfl hc ?_
    refine am_R.go 2 (q' := (17, [some (.ref 18), some (.int p1), some (.ref 1007), some (.int 0)], [], M7)) rfl trivial ?_
    exact t_X5_isWord_1007_17 z N p1 N 0 _ h
  · refine am_R.bn rfl rfl hc ?_
    refine am_R.go 1 (q' := (14, [some (.ref 18), some (.int p1), some (.ref 1007), none], [.int 0], M7)) rfl trivial ?_
    cases h
    exact am_R.ret rfl rfl (Or.inl rfl)
def f_cJ0_coder_1008 (N : Nat) (M : am_M) : Option (Except Nat (Option Value) × am_M) :=
  if (0 : Int32).toInt8.toInt32 = 0 then some (.ok (some (.int 0)), M) else none
set_option maxRecDepth 100000 in
theorem t_cJ0_coder_1008 (z : Value) (N : Nat) (M : am_M) {r : Except Nat (Option Value)} {M' : am_M} (h : f_cJ0_coder_1008 N M = some (r, M')) : cR z me_J0_coder_7d493 (0, [some (.ref 1008)], [], M) r M' := by
  unfold f_cJ0_coder_1008 at h
  refine am_R.go 1 (q' := (3, [some (.ref 1008)], [.int 1], M)) rfl trivial ?_
  refine am_R.cn rfl rfl (by unfold am_c; decide) ?_
  refine am_R.go 3 (q' := (14, [some (.ref 1008)], [.int 0], M)) rfl ⟨(by decide), trivial⟩ ?_
  obtain ⟨hC, h⟩ := am_gd h
  cases h
  exact am_R.ret rfl rfl hC
def f_cJ0_length_1008 (N : Nat) (M : am_M) : Option (Except Nat (Option Value) × am_M) :=
  am_bi (f_cJ0_coder_1008 N M) fun r6 M6 =>
    some (.ok (some (.int (4 >>> (r6 &&& 31)))), M6)
set_option maxRecDepth 100000 in
theorem t_cJ0_length_1008 (z : Value) (N : Nat) (M : am_M) {r : Except Nat (Option Value)} {M' : am_M} (h : f_cJ0_length_1008 N M = some (r, M')) : cR z me_J0_length_8abf5 (0, [some (.ref 1008)], [], M) r M' := by
  unfold f_cJ0_length_1008 at h
  refine am_R.go 4 (q' := (6, [some (.ref 1008)], [.ref 1008, .int 4], M)) rfl ⟨(by decide), trivial⟩ ?_
  obtain ⟨r6, M6, hz, h⟩ := am_bi_s h
  refine am_R.call (e' := me_J0_coder_7d493) (as := [.ref 1008]) (rest := [.int 4]) rfl rfl (Nat.le_of_ble_eq_true rfl) (t_cJ0_coder_1008 z N _ hz) ?_
  refine am_R.go 1 (q' := (10, [some (.ref 1008)], [.int (4 >>> (r6 &&& 31))], M6)) rfl trivial ?_
  cases h
  exact am_R.ret rfl rfl trivial
def f_cJ0_isLatin1_1008 (N : Nat) (M : am_M) : Option (Except Nat (Option Value) × am_M) :=
  some (.ok (some (.int 1)), M)
set_option maxRecDepth 100000 in
theorem t_cJ0_isLatin1_1008 (z : Value) (N : Nat) (M : am_M) {r : Except Nat (Option Value)} {M' : am_M} (h : f_cJ0_isLatin1_1008 N M = some (r, M')) : cR z me_J0_isLatin1_aae02 (0, [some (.ref 1008)], [], M) r M' := by
  unfold f_cJ0_isLatin1_1008 at h
  refine am_R.go 1 (q' := (3, [some (.ref 1008)], [.int 1], M)) rfl trivial ?_
  refine am_R.cn rfl rfl (by unfold am_c; decide) ?_
  refine am_R.go 2 (q' := (10, [some (.ref 1008)], [.int 0], M)) rfl ⟨(by decide), trivial⟩ ?_
  refine am_R.cn rfl rfl (by unfold am_c; decide) ?_
  refine am_R.go 2 (q' := (18, [some (.ref 1008)], [.int 1], M)) rfl trivial ?_
  cases h
  exact am_R.ret rfl rfl (Or.inr rfl)
def f_cJ1_charAt_2008 (N : Nat) (p1 : Int32) (M : am_M) : Option (Except Nat (Option Value) × am_M) :=
  am_bv (f_cJ0_checkIndex N p1 4 M) fun M3 =>
    if am_in p1 4 then
      if ((((((am_byt.getD 8 []).getD p1.toNatClampNeg 0) &&& 255).toUInt32 % 65536).toInt32).toUInt32 % 65536).toInt32 = ((((am_byt.getD 8 []).getD p1.toNatClampNeg 0) &&& 255).toUInt32 % 65536).toInt32 then some (.ok (some (.int (((((am_byt.getD 8 []).getD p1.toNatClampNeg 0) &&& 255).toUInt32 % 65536).toInt32))), M3) else none
    else none
set_option maxRecDepth 100000 in
theorem t_cJ1_charAt_2008 (z : Value) (N : Nat) (p1 : Int32) (M : am_M) {r : Except Nat (Option Value)} {M' : am_M} (h : f_cJ1_charAt_2008 N p1 M = some (r, M')) : cR z me_J1_charAt_3b067 (0, [some (.ref 2008), some (.int p1)], [], M) r M' := by
  unfold f_cJ1_charAt_2008 at h
  refine am_R.go 3 (q' := (3, [some (.ref 2008), some (.int p1)], [.int 4, .int p1], M)) rfl trivial ?_
  obtain ⟨M3, hz, h⟩ := am_bv_s h
  refine am_R.call (e' := me_J0_checkIndex_df160) (as := [.int p1, .int 4]) (rest := []) rfl rfl (Nat.le_of_ble_eq_true rfl) (t_cJ0_checkIndex z N p1 4 _ hz) ?_
  obtain ⟨hC, h⟩ := am_gd h
  refine am_R.go 6 (q' := (14, [some (.ref 2008), some (.int p1)], [.int (((((am_byt.getD 8 []).getD p1.toNatClampNeg 0) &&& 255).toUInt32 % 65536).toInt32)], M3)) rfl ⟨hC, trivial⟩ ?_
  obtain ⟨hC, h⟩ := am_gd h
  cases h
  exact am_R.ret rfl rfl hC
def f_cJ0_charAt_1008 (N : Nat) (p1 : Int32) (M : am_M) : Option (Except Nat (Option Value) × am_M) :=
  am_bi (f_cJ0_isLatin1_1008 N M) fun r1 M1 =>
    if r1 = 0 then
      none
    else
      am_bi (f_cJ1_charAt_2008 N p1 M1) fun r12 M12 =>
        if (r12.toUInt32 % 65536).toInt32 = r12 then some (.ok (some (.int r12)), M12) else none
set_option maxRecDepth 100000 in
theorem t_cJ0_charAt_1008 (z : Value) (N : Nat) (p1 : Int32) (M : am_M) {r : Except Nat (Option Value)} {M' : am_M} (h : f_cJ0_charAt_1008 N p1 M = some (r, M')) : cR z me_J0_charAt_5068e (0, [some (.ref 1008), some (.int p1)], [], M) r M' := by
  unfold f_cJ0_charAt_1008 at h
  refine am_R.go 1 (q' := (1, [some (.ref 1008), some (.int p1)], [.ref 1008], M)) rfl trivial ?_
  obtain ⟨r1, M1, hz, h⟩ := am_bi_s h
  refine am_R.call (e' := me_J0_isLatin1_aae02) (as := [.ref 1008]) (rest := []) rfl rfl (Nat.le_of_ble_eq_true rfl) (t_cJ0_isLatin1_1008 z N _ hz) ?_
  rcases am_it h with ⟨hc, h⟩ | ⟨hc, h⟩
  · refine am_R.ct rfl rfl hc ?_
    cases h
  · refine am_R.cn rfl rfl hc ?_
    refine am_R.go 3 (q' := (12, [some (.ref 1008), some (.int p1)], [.int p1, .ref 2008], M1)) rfl ⟨(by decide), trivial⟩ ?_
    obtain ⟨r12, M12, hz, h⟩ := am_bi_s h
    refine am_R.call (e' := me_J1_charAt_3b067) (as := [.ref 2008, .int p1]) (rest := []) rfl rfl (Nat.le_of_ble_eq_true rfl) (t_cJ1_charAt_2008 z N p1 _ hz) ?_
    obtain ⟨hC, h⟩ := am_gd h
    cases h
    exact am_R.ret rfl rfl hC
def f_X5_isWord_1008_17B (N : Nat) (v1 : Int32) (k17 : Int32 → am_M → Option (Except Nat (Option Value) × am_M)) (v3 : Int32) (M : am_M) : Option (Except Nat (Option Value) × am_M) :=
  am_bi (f_cJ0_length_1008 N M) fun r19 M19 =>
    if r19 ≤ v3 then
      some (.ok (some (.int 1)), M19)
    else
      if am_in (v1 + v3) 600 then
        am_bi (f_cJ0_charAt_1008 N v3 M19) fun r35 M35 =>
          if (M19 1 ((v1 + v3).toNatClampNeg)) = r35 then
            k17 (v3 + 1) M35
          else
            some (.ok (some (.int 0)), M35)
      else none
def f_X5_isWord_1008_17 (N : Nat) (v1 : Int32) : Nat → Int32 → am_M → Option (Except Nat (Option Value) × am_M)
  | 0 => fun _ _ => none
  | n + 1 => f_X5_isWord_1008_17B N v1 (f_X5_isWord_1008_17 N v1 n)
set_option maxRecDepth 100000 in
theorem t_X5_isWord_1008_17B (z : Value) (N : Nat) (v1 : Int32) {r : Except Nat (Option Value)} {M' : am_M} (k17 : Int32 → am_M → Option (Except Nat (Option Value) × am_M)) (hk17 : ∀ (v3 : Int32) (M : am_M), k17 v3 M = some (r, M') → cR z me_X5_isWord (17, [some (.ref 18), some (.int v1), some (.ref 1008), some (.int v3)], [], M) r M') (v3 : Int32) (M : am_M) (h : f_X5_isWord_1008_17B N v1 k17 v3 M = some (r, M')) : cR z me_X5_isWord (17, [some (.ref 18), some (.int v1), some (.ref 1008), some (.int v3)], [], M) r M' := by
  unfold f_X5_isWord_1008_17B at h
  refine am_R.go 2 (q' := (19, [some (.ref 18), some (.int v1), some (.ref 1008), some (.int v3)], [.ref 1008, .int v3], M)) rfl trivial ?_
  obtain ⟨r19, M19, hz, h⟩ := am_bi_s h
  refine am_R.call (e' := me_J0_length_8abf5) (as := [.ref 1008]) (rest := [.int v3]) rfl rfl (Nat.le_of_ble_eq_true rfl) (t_cJ0_length_1008 z N _ hz) ?_
  rcases am_it h with ⟨hc, h⟩ | ⟨hc, h⟩
  · refine am_R.bt rfl rfl hc ?_
    refine am_R.go 1 (q' := (50, [some (.ref 18), some (.int v1), some (.ref 1008), some (.int v3)], [.int 1], M19)) rfl trivial ?_
    cases h
    exact am_R.ret rfl rfl (Or.inr rfl)
  · refine am_R.bn rfl rfl hc ?_
    obtain ⟨hC, h⟩ := am_gd h
    refine am_R.go 8 (q' := (35, [some (.ref 18), some (.int v1), some (.ref 1008), some (.int v3)], [.int v3, .ref 1008, .int (M19 1 ((v1 + v3).toNatClampNeg))], M19)) rfl ⟨hC, trivial⟩ ?_
    obtain ⟨r35, M35, hz, h⟩ := am_bi_s h
    refine am_R.call (e' := me_J0_charAt_5068e) (as := [.ref 1008, .int v3]) (rest := [.int (M19 1 ((v1 + v3).toNatClampNeg))]) rfl rfl (Nat.le_of_ble_eq_true rfl) (t_cJ0_charAt_1008 z N v3 _ hz) ?_
    rcases am_it h with ⟨hc, h⟩ | ⟨hc, h⟩
    · refine am_R.bt rfl rfl hc ?_
      refine am_R.go 2 (q' := (17, [some (.ref 18), some (.int v1), some (.ref 1008), some (.int (v3 + 1))], [], M35)) rfl trivial ?_
      exact hk17 (v3 + 1) _ h
    · refine am_R.bn rfl rfl hc ?_
      refine am_R.go 1 (q' := (42, [some (.ref 18), some (.int v1), some (.ref 1008), some (.int v3)], [.int 0], M35)) rfl trivial ?_
      cases h
      exact am_R.ret rfl rfl (Or.inl rfl)
set_option maxRecDepth 100000 in
theorem t_X5_isWord_1008_17 (z : Value) (N : Nat) (v1 : Int32) {r : Except Nat (Option Value)} {M' : am_M} : ∀ (n : Nat) (v3 : Int32) (M : am_M), f_X5_isWord_1008_17 N v1 n v3 M = some (r, M') → cR z me_X5_isWord (17, [some (.ref 18), some (.int v1), some (.ref 1008), some (.int v3)], [], M) r M' := by
  intro n
  induction n with
  | zero => intro v3 M h; cases h
  | succ n ih => intro v3 M h; exact t_X5_isWord_1008_17B z N v1 _ ih v3 M h
def f_X5_isWord_1008 (N : Nat) (p1 : Int32) (M : am_M) : Option (Except Nat (Option Value) × am_M) :=
  am_bi (f_cJ0_length_1008 N M) fun r7 M7 =>
    if ((M 18 6) - p1) = r7 then
      f_X5_isWord_1008_17 N p1 N 0 M7
    else
      some (.ok (some (.int 0)), M7)
set_option maxRecDepth 100000 in
theorem t_X5_isWord_1008 (z : Value) (N : Nat) (p1 : Int32) (M : am_M) {r : Except Nat (Option Value)} {M' : am_M} (h : f_X5_isWord_1008 N p1 M = some (r, M')) : cR z me_X5_isWord (0, [some (.ref 18), some (.int p1), some (.ref 1008), none], [], M) r M' := by
  unfold f_X5_isWord_1008 at h
  refine am_R.go 5 (q' := (7, [some (.ref 18), some (.int p1), some (.ref 1008), none], [.ref 1008, .int ((M 18 6) - p1)], M)) rfl trivial ?_
  obtain ⟨r7, M7, hz, h⟩ := am_bi_s h
  refine am_R.call (e' := me_J0_length_8abf5) (as := [.ref 1008]) (rest := [.int ((M 18 6) - p1)]) rfl rfl (Nat.le_of_ble_eq_true rfl) (t_cJ0_length_1008 z N _ hz) ?_
  rcases am_it h with ⟨hc, h⟩ | ⟨hc, h⟩
  · refine am_R.bt rfl rfl hc ?_
    refine am_R.go 2 (q' := (17, [some (.ref 18), some (.int p1), some (.ref 1008), some (.int 0)], [], M7)) rfl trivial ?_
    exact t_X5_isWord_1008_17 z N p1 N 0 _ h
  · refine am_R.bn rfl rfl hc ?_
    refine am_R.go 1 (q' := (14, [some (.ref 18), some (.int p1), some (.ref 1008), none], [.int 0], M7)) rfl trivial ?_
    cases h
    exact am_R.ret rfl rfl (Or.inl rfl)
def f_cJ0_coder_1009 (N : Nat) (M : am_M) : Option (Except Nat (Option Value) × am_M) :=
  if (0 : Int32).toInt8.toInt32 = 0 then some (.ok (some (.int 0)), M) else none
set_option maxRecDepth 100000 in
theorem t_cJ0_coder_1009 (z : Value) (N : Nat) (M : am_M) {r : Except Nat (Option Value)} {M' : am_M} (h : f_cJ0_coder_1009 N M = some (r, M')) : cR z me_J0_coder_7d493 (0, [some (.ref 1009)], [], M) r M' := by
  unfold f_cJ0_coder_1009 at h
  refine am_R.go 1 (q' := (3, [some (.ref 1009)], [.int 1], M)) rfl trivial ?_
  refine am_R.cn rfl rfl (by unfold am_c; decide) ?_
  refine am_R.go 3 (q' := (14, [some (.ref 1009)], [.int 0], M)) rfl ⟨(by decide), trivial⟩ ?_
  obtain ⟨hC, h⟩ := am_gd h
  cases h
  exact am_R.ret rfl rfl hC
def f_cJ0_length_1009 (N : Nat) (M : am_M) : Option (Except Nat (Option Value) × am_M) :=
  am_bi (f_cJ0_coder_1009 N M) fun r6 M6 =>
    some (.ok (some (.int (3 >>> (r6 &&& 31)))), M6)
set_option maxRecDepth 100000 in
theorem t_cJ0_length_1009 (z : Value) (N : Nat) (M : am_M) {r : Except Nat (Option Value)} {M' : am_M} (h : f_cJ0_length_1009 N M = some (r, M')) : cR z me_J0_length_8abf5 (0, [some (.ref 1009)], [], M) r M' := by
  unfold f_cJ0_length_1009 at h
  refine am_R.go 4 (q' := (6, [some (.ref 1009)], [.ref 1009, .int 3], M)) rfl ⟨(by decide), trivial⟩ ?_
  obtain ⟨r6, M6, hz, h⟩ := am_bi_s h
  refine am_R.call (e' := me_J0_coder_7d493) (as := [.ref 1009]) (rest := [.int 3]) rfl rfl (Nat.le_of_ble_eq_true rfl) (t_cJ0_coder_1009 z N _ hz) ?_
  refine am_R.go 1 (q' := (10, [some (.ref 1009)], [.int (3 >>> (r6 &&& 31))], M6)) rfl trivial ?_
  cases h
  exact am_R.ret rfl rfl trivial
def f_cJ0_isLatin1_1009 (N : Nat) (M : am_M) : Option (Except Nat (Option Value) × am_M) :=
  some (.ok (some (.int 1)), M)
set_option maxRecDepth 100000 in
theorem t_cJ0_isLatin1_1009 (z : Value) (N : Nat) (M : am_M) {r : Except Nat (Option Value)} {M' : am_M} (h : f_cJ0_isLatin1_1009 N M = some (r, M')) : cR z me_J0_isLatin1_aae02 (0, [some (.ref 1009)], [], M) r M' := by
  unfold f_cJ0_isLatin1_1009 at h
  refine am_R.go 1 (q' := (3, [some (.ref 1009)], [.int 1], M)) rfl trivial ?_
  refine am_R.cn rfl rfl (by unfold am_c; decide) ?_
  refine am_R.go 2 (q' := (10, [some (.ref 1009)], [.int 0], M)) rfl ⟨(by decide), trivial⟩ ?_
  refine am_R.cn rfl rfl (by unfold am_c; decide) ?_
  refine am_R.go 2 (q' := (18, [some (.ref 1009)], [.int 1], M)) rfl trivial ?_
  cases h
  exact am_R.ret rfl rfl (Or.inr rfl)
def f_cJ1_charAt_2009 (N : Nat) (p1 : Int32) (M : am_M) : Option (Except Nat (Option Value) × am_M) :=
  am_bv (f_cJ0_checkIndex N p1 3 M) fun M3 =>
    if am_in p1 3 then
      if ((((((am_byt.getD 9 []).getD p1.toNatClampNeg 0) &&& 255).toUInt32 % 65536).toInt32).toUInt32 % 65536).toInt32 = ((((am_byt.getD 9 []).getD p1.toNatClampNeg 0) &&& 255).toUInt32 % 65536).toInt32 then some (.ok (some (.int (((((am_byt.getD 9 []).getD p1.toNatClampNeg 0) &&& 255).toUInt32 % 65536).toInt32))), M3) else none
    else none
set_option maxRecDepth 100000 in
theorem t_cJ1_charAt_2009 (z : Value) (N : Nat) (p1 : Int32) (M : am_M) {r : Except Nat (Option Value)} {M' : am_M} (h : f_cJ1_charAt_2009 N p1 M = some (r, M')) : cR z me_J1_charAt_3b067 (0, [some (.ref 2009), some (.int p1)], [], M) r M' := by
  unfold f_cJ1_charAt_2009 at h
  refine am_R.go 3 (q' := (3, [some (.ref 2009), some (.int p1)], [.int 3, .int p1], M)) rfl trivial ?_
  obtain ⟨M3, hz, h⟩ := am_bv_s h
  refine am_R.call (e' := me_J0_checkIndex_df160) (as := [.int p1, .int 3]) (rest := []) rfl rfl (Nat.le_of_ble_eq_true rfl) (t_cJ0_checkIndex z N p1 3 _ hz) ?_
  obtain ⟨hC, h⟩ := am_gd h
  refine am_R.go 6 (q' := (14, [some (.ref 2009), some (.int p1)], [.int (((((am_byt.getD 9 []).getD p1.toNatClampNeg 0) &&& 255).toUInt32 % 65536).toInt32)], M3)) rfl ⟨hC, trivial⟩ ?_
  obtain ⟨hC, h⟩ := am_gd h
  cases h
  exact am_R.ret rfl rfl hC
