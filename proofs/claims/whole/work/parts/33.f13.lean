def f_mJ0_checkIndex (N : Nat) (p0 : Int32) (p1 : Int32) (M : am_M) : Option (Except Nat (Option Value) × am_M) :=
  am_bi (f_mJ3_checkIndex_z N p0 p1 M) fun r5 M5 =>
    some (.ok none, M5)
set_option maxRecDepth 100000 in
theorem t_mJ0_checkIndex (z : Value) (N : Nat) (p0 : Int32) (p1 : Int32) (M : am_M) {r : Except Nat (Option Value)} {M' : am_M} (h : f_mJ0_checkIndex N p0 p1 M = some (r, M')) : mR z me_J0_checkIndex_df160 (0, [some (.int p0), some (.int p1)], [], M) r M' := by
  unfold f_mJ0_checkIndex at h
  refine am_R.go 3 (q' := (5, [some (.int p0), some (.int p1)], [z, .int p1, .int p0], M)) rfl trivial ?_
  obtain ⟨r5, M5, hz, h⟩ := am_bi_s h
  refine am_R.call (e' := me_J3_checkIndex_8e157) (as := [.int p0, .int p1, z]) (rest := []) rfl rfl (Nat.le_of_ble_eq_true rfl) (t_mJ3_checkIndex_z z N p0 p1 _ hz) ?_
  refine am_R.go 1 (q' := (9, [some (.int p0), some (.int p1)], [], M5)) rfl trivial ?_
  cases h
  exact am_R.ret rfl rfl trivial
def f_mJ1_charAt_2001 (N : Nat) (p1 : Int32) (M : am_M) : Option (Except Nat (Option Value) × am_M) :=
  am_bv (f_mJ0_checkIndex N p1 4 M) fun M3 =>
    if am_in p1 4 then
      if ((((((am_byt.getD 1 []).getD p1.toNatClampNeg 0) &&& 255).toUInt32 % 65536).toInt32).toUInt32 % 65536).toInt32 = ((((am_byt.getD 1 []).getD p1.toNatClampNeg 0) &&& 255).toUInt32 % 65536).toInt32 then some (.ok (some (.int (((((am_byt.getD 1 []).getD p1.toNatClampNeg 0) &&& 255).toUInt32 % 65536).toInt32))), M3) else none
    else none
set_option maxRecDepth 100000 in
theorem t_mJ1_charAt_2001 (z : Value) (N : Nat) (p1 : Int32) (M : am_M) {r : Except Nat (Option Value)} {M' : am_M} (h : f_mJ1_charAt_2001 N p1 M = some (r, M')) : mR z me_J1_charAt_3b067 (0, [some (.ref 2001), some (.int p1)], [], M) r M' := by
  unfold f_mJ1_charAt_2001 at h
  refine am_R.go 3 (q' := (3, [some (.ref 2001), some (.int p1)], [.int 4, .int p1], M)) rfl trivial ?_
  obtain ⟨M3, hz, h⟩ := am_bv_s h
  refine am_R.call (e' := me_J0_checkIndex_df160) (as := [.int p1, .int 4]) (rest := []) rfl rfl (Nat.le_of_ble_eq_true rfl) (t_mJ0_checkIndex z N p1 4 _ hz) ?_
  obtain ⟨hC, h⟩ := am_gd h
  refine am_R.go 6 (q' := (14, [some (.ref 2001), some (.int p1)], [.int (((((am_byt.getD 1 []).getD p1.toNatClampNeg 0) &&& 255).toUInt32 % 65536).toInt32)], M3)) rfl ⟨hC, trivial⟩ ?_
  obtain ⟨hC, h⟩ := am_gd h
  cases h
  exact am_R.ret rfl rfl hC
def f_mJ0_charAt_1001 (N : Nat) (p1 : Int32) (M : am_M) : Option (Except Nat (Option Value) × am_M) :=
  am_bi (f_mJ0_isLatin1_1001 N M) fun r1 M1 =>
    if r1 = 0 then
      none
    else
      am_bi (f_mJ1_charAt_2001 N p1 M1) fun r12 M12 =>
        if (r12.toUInt32 % 65536).toInt32 = r12 then some (.ok (some (.int r12)), M12) else none
set_option maxRecDepth 100000 in
theorem t_mJ0_charAt_1001 (z : Value) (N : Nat) (p1 : Int32) (M : am_M) {r : Except Nat (Option Value)} {M' : am_M} (h : f_mJ0_charAt_1001 N p1 M = some (r, M')) : mR z me_J0_charAt_5068e (0, [some (.ref 1001), some (.int p1)], [], M) r M' := by
  unfold f_mJ0_charAt_1001 at h
  refine am_R.go 1 (q' := (1, [some (.ref 1001), some (.int p1)], [.ref 1001], M)) rfl trivial ?_
  obtain ⟨r1, M1, hz, h⟩ := am_bi_s h
  refine am_R.call (e' := me_J0_isLatin1_aae02) (as := [.ref 1001]) (rest := []) rfl rfl (Nat.le_of_ble_eq_true rfl) (t_mJ0_isLatin1_1001 z N _ hz) ?_
  rcases am_it h with ⟨hc, h⟩ | ⟨hc, h⟩
  · refine am_R.ct rfl rfl hc ?_
    cases h
  · refine am_R.cn rfl rfl hc ?_
    refine am_R.go 3 (q' := (12, [some (.ref 1001), some (.int p1)], [.int p1, .ref 2001], M1)) rfl ⟨(by decide), trivial⟩ ?_
    obtain ⟨r12, M12, hz, h⟩ := am_bi_s h
    refine am_R.call (e' := me_J1_charAt_3b067) (as := [.ref 2001, .int p1]) (rest := []) rfl rfl (Nat.le_of_ble_eq_true rfl) (t_mJ1_charAt_2001 z N p1 _ hz) ?_
    obtain ⟨hC, h⟩ := am_gd h
    cases h
    exact am_R.ret rfl rfl hC
def f_X10_of_1001_4B (N : Nat) (k4 : Int32 → Int32 → am_M → Option (Except Nat (Option Value) × am_M)) (v1 : Int32) (v2 : Int32) (M : am_M) : Option (Except Nat (Option Value) × am_M) :=
  am_bi (f_mJ0_length_1001 N M) fun r6 M6 =>
    if r6 ≤ v2 then
      some (.ok (some (.int v1)), M6)
    else
      am_bi (f_mJ0_charAt_1001 N v2 M6) fun r17 M17 =>
        k4 ((v1 <<< (5 &&& 31)) ||| (r17 - 96)) (v2 + 1) M17
def f_X10_of_1001_4 (N : Nat) : Nat → Int32 → Int32 → am_M → Option (Except Nat (Option Value) × am_M)
  | 0 => fun _ _ _ => none
  | n + 1 => f_X10_of_1001_4B N (f_X10_of_1001_4 N n)
set_option maxRecDepth 100000 in
theorem t_X10_of_1001_4B (z : Value) (N : Nat) {r : Except Nat (Option Value)} {M' : am_M} (k4 : Int32 → Int32 → am_M → Option (Except Nat (Option Value) × am_M)) (hk4 : ∀ (v1 : Int32) (v2 : Int32) (M : am_M), k4 v1 v2 M = some (r, M') → mR z me_X10_of (4, [some (.ref 1001), some (.int v1), some (.int v2)], [], M) r M') (v1 : Int32) (v2 : Int32) (M : am_M) (h : f_X10_of_1001_4B N k4 v1 v2 M = some (r, M')) : mR z me_X10_of (4, [some (.ref 1001), some (.int v1), some (.int v2)], [], M) r M' := by
  unfold f_X10_of_1001_4B at h
  refine am_R.go 2 (q' := (6, [some (.ref 1001), some (.int v1), some (.int v2)], [.ref 1001, .int v2], M)) rfl trivial ?_
  obtain ⟨r6, M6, hz, h⟩ := am_bi_s h
  refine am_R.call (e' := me_J0_length_8abf5) (as := [.ref 1001]) (rest := [.int v2]) rfl rfl (Nat.le_of_ble_eq_true rfl) (t_mJ0_length_1001 z N _ hz) ?_
  rcases am_it h with ⟨hc, h⟩ | ⟨hc, h⟩
  · refine am_R.bt rfl rfl hc ?_
    refine am_R.go 1 (q' := (32, [some (.ref 1001), some (.int v1), some (.int v2)], [.int v1], M6)) rfl trivial ?_
    cases h
    exact am_R.ret rfl rfl trivial
  · refine am_R.bn rfl rfl hc ?_
    refine am_R.go 5 (q' := (17, [some (.ref 1001), some (.int v1), some (.int v2)], [.int v2, .ref 1001, .int (v1 <<< (5 &&& 31))], M6)) rfl trivial ?_
    obtain ⟨r17, M17, hz, h⟩ := am_bi_s h
    refine am_R.call (e' := me_J0_charAt_5068e) (as := [.ref 1001, .int v2]) (rest := [.int (v1 <<< (5 &&& 31))]) rfl rfl (Nat.le_of_ble_eq_true rfl) (t_mJ0_charAt_1001 z N v2 _ hz) ?_
    refine am_R.go 6 (q' := (4, [some (.ref 1001), some (.int ((v1 <<< (5 &&& 31)) ||| (r17 - 96))), some (.int (v2 + 1))], [], M17)) rfl trivial ?_
    exact hk4 ((v1 <<< (5 &&& 31)) ||| (r17 - 96)) (v2 + 1) _ h
set_option maxRecDepth 100000 in
theorem t_X10_of_1001_4 (z : Value) (N : Nat) {r : Except Nat (Option Value)} {M' : am_M} : ∀ (n : Nat) (v1 : Int32) (v2 : Int32) (M : am_M), f_X10_of_1001_4 N n v1 v2 M = some (r, M') → mR z me_X10_of (4, [some (.ref 1001), some (.int v1), some (.int v2)], [], M) r M' := by
  intro n
  induction n with
  | zero => intro v1 v2 M h; cases h
  | succ n ih => intro v1 v2 M h; exact t_X10_of_1001_4B z N _ ih v1 v2 M h
def f_X10_of_1001 (N : Nat) (M : am_M) : Option (Except Nat (Option Value) × am_M) :=
  f_X10_of_1001_4 N N 0 0 M
set_option maxRecDepth 100000 in
theorem t_X10_of_1001 (z : Value) (N : Nat) (M : am_M) {r : Except Nat (Option Value)} {M' : am_M} (h : f_X10_of_1001 N M = some (r, M')) : mR z me_X10_of (0, [some (.ref 1001), none, none], [], M) r M' := by
  unfold f_X10_of_1001 at h
  refine am_R.go 4 (q' := (4, [some (.ref 1001), some (.int 0), some (.int 0)], [], M)) rfl trivial ?_
  exact t_X10_of_1001_4 z N N 0 0 _ h
def f_mJ0_coder_1002 (N : Nat) (M : am_M) : Option (Except Nat (Option Value) × am_M) :=
  if (0 : Int32).toInt8.toInt32 = 0 then some (.ok (some (.int 0)), M) else none
set_option maxRecDepth 100000 in
theorem t_mJ0_coder_1002 (z : Value) (N : Nat) (M : am_M) {r : Except Nat (Option Value)} {M' : am_M} (h : f_mJ0_coder_1002 N M = some (r, M')) : mR z me_J0_coder_7d493 (0, [some (.ref 1002)], [], M) r M' := by
  unfold f_mJ0_coder_1002 at h
  refine am_R.go 1 (q' := (3, [some (.ref 1002)], [.int 1], M)) rfl trivial ?_
  refine am_R.cn rfl rfl (by unfold am_c; decide) ?_
  refine am_R.go 3 (q' := (14, [some (.ref 1002)], [.int 0], M)) rfl ⟨(by decide), trivial⟩ ?_
  obtain ⟨hC, h⟩ := am_gd h
  cases h
  exact am_R.ret rfl rfl hC
def f_mJ0_length_1002 (N : Nat) (M : am_M) : Option (Except Nat (Option Value) × am_M) :=
  am_bi (f_mJ0_coder_1002 N M) fun r6 M6 =>
    some (.ok (some (.int (4 >>> (r6 &&& 31)))), M6)
set_option maxRecDepth 100000 in
theorem t_mJ0_length_1002 (z : Value) (N : Nat) (M : am_M) {r : Except Nat (Option Value)} {M' : am_M} (h : f_mJ0_length_1002 N M = some (r, M')) : mR z me_J0_length_8abf5 (0, [some (.ref 1002)], [], M) r M' := by
  unfold f_mJ0_length_1002 at h
  refine am_R.go 4 (q' := (6, [some (.ref 1002)], [.ref 1002, .int 4], M)) rfl ⟨(by decide), trivial⟩ ?_
  obtain ⟨r6, M6, hz, h⟩ := am_bi_s h
  refine am_R.call (e' := me_J0_coder_7d493) (as := [.ref 1002]) (rest := [.int 4]) rfl rfl (Nat.le_of_ble_eq_true rfl) (t_mJ0_coder_1002 z N _ hz) ?_
  refine am_R.go 1 (q' := (10, [some (.ref 1002)], [.int (4 >>> (r6 &&& 31))], M6)) rfl trivial ?_
  cases h
  exact am_R.ret rfl rfl trivial
def f_mJ0_isLatin1_1002 (N : Nat) (M : am_M) : Option (Except Nat (Option Value) × am_M) :=
  some (.ok (some (.int 1)), M)
set_option maxRecDepth 100000 in
theorem t_mJ0_isLatin1_1002 (z : Value) (N : Nat) (M : am_M) {r : Except Nat (Option Value)} {M' : am_M} (h : f_mJ0_isLatin1_1002 N M = some (r, M')) : mR z me_J0_isLatin1_aae02 (0, [some (.ref 1002)], [], M) r M' := by
  unfold f_mJ0_isLatin1_1002 at h
  refine am_R.go 1 (q' := (3, [some (.ref 1002)], [.int 1], M)) rfl trivial ?_
  refine am_R.cn rfl rfl (by unfold am_c; decide) ?_
  refine am_R.go 2 (q' := (10, [some (.ref 1002)], [.int 0], M)) rfl ⟨(by decide), trivial⟩ ?_
  refine am_R.cn rfl rfl (by unfold am_c; decide) ?_
  refine am_R.go 2 (q' := (18, [some (.ref 1002)], [.int 1], M)) rfl trivial ?_
  cases h
  exact am_R.ret rfl rfl (Or.inr rfl)
def f_mJ1_charAt_2002 (N : Nat) (p1 : Int32) (M : am_M) : Option (Except Nat (Option Value) × am_M) :=
  am_bv (f_mJ0_checkIndex N p1 4 M) fun M3 =>
    if am_in p1 4 then
      if ((((((am_byt.getD 2 []).getD p1.toNatClampNeg 0) &&& 255).toUInt32 % 65536).toInt32).toUInt32 % 65536).toInt32 = ((((am_byt.getD 2 []).getD p1.toNatClampNeg 0) &&& 255).toUInt32 % 65536).toInt32 then some (.ok (some (.int (((((am_byt.getD 2 []).getD p1.toNatClampNeg 0) &&& 255).toUInt32 % 65536).toInt32))), M3) else none
    else none
set_option maxRecDepth 100000 in
theorem t_mJ1_charAt_2002 (z : Value) (N : Nat) (p1 : Int32) (M : am_M) {r : Except Nat (Option Value)} {M' : am_M} (h : f_mJ1_charAt_2002 N p1 M = some (r, M')) : mR z me_J1_charAt_3b067 (0, [some (.ref 2002), some (.int p1)], [], M) r M' := by
  unfold f_mJ1_charAt_2002 at h
  refine am_R.go 3 (q' := (3, [some (.ref 2002), some (.int p1)], [.int 4, .int p1], M)) rfl trivial ?_
  obtain ⟨M3, hz, h⟩ := am_bv_s h
  refine am_R.call (e' := me_J0_checkIndex_df160) (as := [.int p1, .int 4]) (rest := []) rfl rfl (Nat.le_of_ble_eq_true rfl) (t_mJ0_checkIndex z N p1 4 _ hz) ?_
  obtain ⟨hC, h⟩ := am_gd h
  refine am_R.go 6 (q' := (14, [some (.ref 2002), some (.int p1)], [.int (((((am_byt.getD 2 []).getD p1.toNatClampNeg 0) &&& 255).toUInt32 % 65536).toInt32)], M3)) rfl ⟨hC, trivial⟩ ?_
  obtain ⟨hC, h⟩ := am_gd h
  cases h
  exact am_R.ret rfl rfl hC
def f_mJ0_charAt_1002 (N : Nat) (p1 : Int32) (M : am_M) : Option (Except Nat (Option Value) × am_M) :=
  am_bi (f_mJ0_isLatin1_1002 N M) fun r1 M1 =>
    if r1 = 0 then
      none
    else
      am_bi (f_mJ1_charAt_2002 N p1 M1) fun r12 M12 =>
        if (r12.toUInt32 % 65536).toInt32 = r12 then some (.ok (some (.int r12)), M12) else none
set_option maxRecDepth 100000 in
theorem t_mJ0_charAt_1002 (z : Value) (N : Nat) (p1 : Int32) (M : am_M) {r : Except Nat (Option Value)} {M' : am_M} (h : f_mJ0_charAt_1002 N p1 M = some (r, M')) : mR z me_J0_charAt_5068e (0, [some (.ref 1002), some (.int p1)], [], M) r M' := by
  unfold f_mJ0_charAt_1002 at h
  refine am_R.go 1 (q' := (1, [some (.ref 1002), some (.int p1)], [.ref 1002], M)) rfl trivial ?_
  obtain ⟨r1, M1, hz, h⟩ := am_bi_s h
  refine am_R.call (e' := me_J0_isLatin1_aae02) (as := [.ref 1002]) (rest := []) rfl rfl (Nat.le_of_ble_eq_true rfl) (t_mJ0_isLatin1_1002 z N _ hz) ?_
  rcases am_it h with ⟨hc, h⟩ | ⟨hc, h⟩
  · refine am_R.ct rfl rfl hc ?_
    cases h
  · refine am_R.cn rfl rfl hc ?_
    refine am_R.go 3 (q' := (12, [some (.ref 1002), some (.int p1)], [.int p1, .ref 2002], M1)) rfl ⟨(by decide), trivial⟩ ?_
    obtain ⟨r12, M12, hz, h⟩ := am_bi_s h
    refine am_R.call (e' := me_J1_charAt_3b067) (as := [.ref 2002, .int p1]) (rest := []) rfl rfl (Nat.le_of_ble_eq_true rfl) (t_mJ1_charAt_2002 z N p1 _ hz) ?_
    obtain ⟨hC, h⟩ := am_gd h
    cases h
    exact am_R.ret rfl rfl hC
def f_X10_of_1002_4B (N : Nat) (k4 : Int32 → Int32 → am_M → Option (Except Nat (Option Value) × am_M)) (v1 : Int32) (v2 : Int32) (M : am_M) : Option (Except Nat (Option Value) × am_M) :=
  am_bi (f_mJ0_length_1002 N M) fun r6 M6 =>
    if r6 ≤ v2 then
      some (.ok (some (.int v1)), M6)
    else
      am_bi (f_mJ0_charAt_1002 N v2 M6) fun r17 M17 =>
        k4 ((v1 <<< (5 &&& 31)) ||| (r17 - 96)) (v2 + 1) M17
def f_X10_of_1002_4 (N : Nat) : Nat → Int32 → Int32 → am_M → Option (Except Nat (Option Value) × am_M)
  | 0 => fun _ _ _ => none
  | n + 1 => f_X10_of_1002_4B N (f_X10_of_1002_4 N n)
set_option maxRecDepth 100000 in
theorem t_X10_of_1002_4B (z : Value) (N : Nat) {r : Except Nat (Option Value)} {M' : am_M} (k4 : Int32 → Int32 → am_M → Option (Except Nat (Option Value) × am_M)) (hk4 : ∀ (v1 : Int32) (v2 : Int32) (M : am_M), k4 v1 v2 M = some (r, M') → mR z me_X10_of (4, [some (.ref 1002), some (.int v1), some (.int v2)], [], M) r M') (v1 : Int32) (v2 : Int32) (M : am_M) (h : f_X10_of_1002_4B N k4 v1 v2 M = some (r, M')) : mR z me_X10_of (4, [some (.ref 1002), some (.int v1), some (.int v2)], [], M) r M' := by
  unfold f_X10_of_1002_4B at h
  refine am_R.go 2 (q' := (6, [some (.ref 1002), some (.int v1), some (.int v2)], [.ref 1002, .int v2], M)) rfl trivial ?_
  obtain ⟨r6, M6, hz, h⟩ := am_bi_s h
  refine am_R.call (e' := me_J0_length_8abf5) (as := [.ref 1002]) (rest := [.int v2]) rfl rfl (Nat.le_of_ble_eq_true rfl) (t_mJ0_length_1002 z N _ hz) ?_
  rcases am_it h with ⟨hc, h⟩ | ⟨hc, h⟩
  · refine am_R.bt rfl rfl hc ?_
    refine am_R.go 1 (q' := (32, [some (.ref 1002), some (.int v1), some (.int v2)], [.int v1], M6)) rfl trivial ?_
    cases h
    exact am_R.ret rfl rfl trivial
  · refine am_R.bn rfl rfl hc ?_
    refine am_R.go 5 (q' := (17, [some (.ref 1002), some (.int v1), some (.int v2)], [.int v2, .ref 1002, .int (v1 <<< (5 &&& 31))], M6)) rfl trivial ?_
    obtain ⟨r17, M17, hz, h⟩ := am_bi_s h
    refine am_R.call (e' := me_J0_charAt_5068e) (as := [.ref 1002, .int v2]) (rest := [.int (v1 <<< (5 &&& 31))]) rfl rfl (Nat.le_of_ble_eq_true rfl) (t_mJ0_charAt_1002 z N v2 _ hz) ?_
    refine am_R.go 6 (q' := (4, [some (.ref 1002), some (.int ((v1 <<< (5 &&& 31)) ||| (r17 - 96))), some (.int (v2 + 1))], [], M17)) rfl trivial ?_
    exact hk4 ((v1 <<< (5 &&& 31)) ||| (r17 - 96)) (v2 + 1) _ h
set_option maxRecDepth 100000 in
theorem t_X10_of_1002_4 (z : Value) (N : Nat) {r : Except Nat (Option Value)} {M' : am_M} : ∀ (n : Nat) (v1 : Int32) (v2 : Int32) (M : am_M), f_X10_of_1002_4 N n v1 v2 M = some (r, M') → mR z me_X10_of (4, [some (.ref 1002), some (.int v1), some (.int v2)], [], M) r M' := by
  intro n
  induction n with
  | zero => intro v1 v2 M h; cases h
  | succ n ih => intro v1 v2 M h; exact t_X10_of_1002_4B z N _ ih v1 v2 M h
def f_X10_of_1002 (N : Nat) (M : am_M) : Option (Except Nat (Option Value) × am_M) :=
  f_X10_of_1002_4 N N 0 0 M
set_option maxRecDepth 100000 in
theorem t_X10_of_1002 (z : Value) (N : Nat) (M : am_M) {r : Except Nat (Option Value)} {M' : am_M} (h : f_X10_of_1002 N M = some (r, M')) : mR z me_X10_of (0, [some (.ref 1002), none, none], [], M) r M' := by
  unfold f_X10_of_1002 at h
  refine am_R.go 4 (q' := (4, [some (.ref 1002), some (.int 0), some (.int 0)], [], M)) rfl trivial ?_
  exact t_X10_of_1002_4 z N N 0 0 _ h
def f_mJ0_coder_1003 (N : Nat) (M : am_M) : Option (Except Nat (Option Value) × am_M) :=
  if (0 : Int32).toInt8.toInt32 = 0 then some (.ok (some (.int 0)), M) else none
set_option maxRecDepth 100000 in
theorem t_mJ0_coder_1003 (z : Value) (N : Nat) (M : am_M) {r : Except Nat (Option Value)} {M' : am_M} (h : f_mJ0_coder_1003 N M = some (r, M')) : mR z me_J0_coder_7d493 (0, [some (.ref 1003)], [], M) r M' := by
  unfold f_mJ0_coder_1003 at h
  refine am_R.go 1 (q' := (3, [some (.ref 1003)], [.int 1], M)) rfl trivial ?_
  refine am_R.cn rfl rfl (by unfold am_c; decide) ?_
  refine am_R.go 3 (q' := (14, [some (.ref 1003)], [.int 0], M)) rfl ⟨(by decide), trivial⟩ ?_
  obtain ⟨hC, h⟩ := am_gd h
  cases h
  exact am_R.ret rfl rfl hC
def f_mJ0_length_1003 (N : Nat) (M : am_M) : Option (Except Nat (Option Value) × am_M) :=
  am_bi (f_mJ0_coder_1003 N M) fun r6 M6 =>
    some (.ok (some (.int (4 >>> (r6 &&& 31)))), M6)
set_option maxRecDepth 100000 in
theorem t_mJ0_length_1003 (z : Value) (N : Nat) (M : am_M) {r : Except Nat (Option Value)} {M' : am_M} (h : f_mJ0_length_1003 N M = some (r, M')) : mR z me_J0_length_8abf5 (0, [some (.ref 1003)], [], M) r M' := by
  unfold f_mJ0_length_1003 at h
  refine am_R.go 4 (q' := (6, [some (.ref 1003)], [.ref 1003, .int 4], M)) rfl ⟨(by decide), trivial⟩ ?_
  obtain ⟨r6, M6, hz, h⟩ := am_bi_s h
  refine am_R.call (e' := me_J0_coder_7d493) (as := [.ref 1003]) (rest := [.int 4]) rfl rfl (Nat.le_of_ble_eq_true rfl) (t_mJ0_coder_1003 z N _ hz) ?_
  refine am_R.go 1 (q' := (10, [some (.ref 1003)], [.int (4 >>> (r6 &&& 31))], M6)) rfl trivial ?_
  cases h
  exact am_R.ret rfl rfl trivial
def f_mJ0_isLatin1_1003 (N : Nat) (M : am_M) : Option (Except Nat (Option Value) × am_M) :=
  some (.ok (some (.int 1)), M)
set_option maxRecDepth 100000 in
theorem t_mJ0_isLatin1_1003 (z : Value) (N : Nat) (M : am_M) {r : Except Nat (Option Value)} {M' : am_M} (h : f_mJ0_isLatin1_1003 N M = some (r, M')) : mR z me_J0_isLatin1_aae02 (0, [some (.ref 1003)], [], M) r M' := by
  unfold f_mJ0_isLatin1_1003 at h
  refine am_R.go 1 (q' := (3, [some (.ref 1003)], [.int 1], M)) rfl trivial ?_
  refine am_R.cn rfl rfl (by unfold am_c; decide) ?_
  refine am_R.go 2 (q' := (10, [some (.ref 1003)], [.int 0], M)) rfl ⟨(by decide), trivial⟩ ?_
  refine am_R.cn rfl rfl (by unfold am_c; decide) ?_
  refine am_R.go 2 (q' := (18, [some (.ref 1003)], [.int 1], M)) rfl trivial ?_
  cases h
  exact am_R.ret rfl rfl (Or.inr rfl)
def f_mJ1_charAt_2003 (N : Nat) (p1 : Int32) (M : am_M) : Option (Except Nat (Option Value) × am_M) :=
  am_bv (f_mJ0_checkIndex N p1 4 M) fun M3 =>
    if am_in p1 4 then
      if ((((((am_byt.getD 3 []).getD p1.toNatClampNeg 0) &&& 255).toUInt32 % 65536).toInt32).toUInt32 % 65536).toInt32 = ((((am_byt.getD 3 []).getD p1.toNatClampNeg 0) &&& 255).toUInt32 % 65536).toInt32 then some (.ok (some (.int (((((am_byt.getD 3 []).getD p1.toNatClampNeg 0) &&& 255).toUInt32 % 65536).toInt32))), M3) else none
    else none
set_option maxRecDepth 100000 in
theorem t_mJ1_charAt_2003 (z : Value) (N : Nat) (p1 : Int32) (M : am_M) {r : Except Nat (Option Value)} {M' : am_M} (h : f_mJ1_charAt_2003 N p1 M = some (r, M')) : mR z me_J1_charAt_3b067 (0, [some (.ref 2003), some (.int p1)], [], M) r M' := by
  unfold f_mJ1_charAt_2003 at h
  refine am_R.go 3 (q' := (3, [some (.ref 2003), some (.int p1)], [.int 4, .int p1], M)) rfl trivial ?_
  obtain ⟨M3, hz, h⟩ := am_bv_s h
  refine am_R.call (e' := me_J0_checkIndex_df160) (as := [.int p1, .int 4]) (rest := []) rfl rfl (Nat.le_of_ble_eq_true rfl) (t_mJ0_checkIndex z N p1 4 _ hz) ?_
  obtain ⟨hC, h⟩ := am_gd h
  refine am_R.go 6 (q' := (14, [some (.ref 2003), some (.int p1)], [.int (((((am_byt.getD 3 []).getD p1.toNatClampNeg 0) &&& 255).toUInt32 % 65536).toInt32)], M3)) rfl ⟨hC, trivial⟩ ?_
  obtain ⟨hC, h⟩ := am_gd h
  cases h
  exact am_R.ret rfl rfl hC
def f_mJ0_charAt_1003 (N : Nat) (p1 : Int32) (M : am_M) : Option (Except Nat (Option Value) × am_M) :=
  am_bi (f_mJ0_isLatin1_1003 N M) fun r1 M1 =>
    if r1 = 0 then
      none
    else
      am_bi (f_mJ1_charAt_2003 N p1 M1) fun r12 M12 =>
        if (r12.toUInt32 % 65536).toInt32 = r12 then some (.ok (some (.int r12)), M12) else none
set_option maxRecDepth 100000 in
theorem t_mJ0_charAt_1003 (z : Value) (N : Nat) (p1 : Int32) (M : am_M) {r : Except Nat (Option Value)} {M' : am_M} (h : f_mJ0_charAt_1003 N p1 M = some (r, M')) : mR z me_J0_charAt_5068e (0, [some (.ref 1003), some (.int p1)], [], M) r M' := by
  unfold f_mJ0_charAt_1003 at h
  refine am_R.go 1 (q' := (1, [some (.ref 1003), some (.int p1)], [.ref 1003], M)) rfl trivial ?_
  obtain ⟨r1, M1, hz, h⟩ := am_bi_s h
  refine am_R.call (e' := me_J0_isLatin1_aae02) (as := [.ref 1003]) (rest := []) rfl rfl (Nat.le_of_ble_eq_true rfl) (t_mJ0_isLatin1_1003 z N _ hz) ?_
  rcases am_it h with ⟨hc, h⟩ | ⟨hc, h⟩
  · refine am_R.ct rfl rfl hc ?_
    cases h
  · refine am_R.cn rfl rfl hc ?_
    refine am_R.go 3 (q' := (12, [some (.ref 1003), some (.int p1)], [.int p1, .ref 2003], M1)) rfl ⟨(by decide), trivial⟩ ?_
    obtain ⟨r12, M12, hz, h⟩ := am_bi_s h
    refine am_R.call (e' := me_J1_charAt_3b067) (as := [.ref 2003, .int p1]) (rest := []) rfl rfl (Nat.le_of_ble_eq_true rfl) (t_mJ1_charAt_2003 z N p1 _ hz) ?_
    obtain ⟨hC, h⟩ := am_gd h
    cases h
    exact am_R.ret rfl rfl hC
def f_X10_of_1003_4B (N : Nat) (k4 : Int32 → Int32 → am_M → Option (Except Nat (Option Value) × am_M)) (v1 : Int32) (v2 : Int32) (M : am_M) : Option (Except Nat (Option Value) × am_M) :=
  am_bi (f_mJ0_length_1003 N M) fun r6 M6 =>
    if r6 ≤ v2 then
      some (.ok (some (.int v1)), M6)
    else
      am_bi (f_mJ0_charAt_1003 N v2 M6) fun r17 M17 =>
        k4 ((v1 <<< (5 &&& 31)) ||| (r17 - 96)) (v2 + 1) M17
def f_X10_of_1003_4 (N : Nat) : Nat → Int32 → Int32 → am_M → Option (Except Nat (Option Value) × am_M)
  | 0 => fun _ _ _ => none
  | n + 1 => f_X10_of_1003_4B N (f_X10_of_1003_4 N n)
set_option maxRecDepth 100000 in
theorem t_X10_of_1003_4B (z : Value) (N : Nat) {r : Except Nat (Option Value)} {M' : am_M} (k4 : Int32 → Int32 → am_M → Option (Except Nat (Option Value) × am_M)) (hk4 : ∀ (v1 : Int32) (v2 : Int32) (M : am_M), k4 v1 v2 M = some (r, M') → mR z me_X10_of (4, [some (.ref 1003), some (.int v1), some (.int v2)], [], M) r M') (v1 : Int32) (v2 : Int32) (M : am_M) (h : f_X10_of_1003_4B N k4 v1 v2 M = some (r, M')) : mR z me_X10_of (4, [some (.ref 1003), some (.int v1), some (.int v2)], [], M) r M' := by
  unfold f_X10_of_1003_4B at h
  refine am_R.go 2 (q' := (6, [some (.ref 1003), some (.int v1), some (.int v2)], [.ref 1003, .int v2], M)) rfl trivial ?_
  obtain ⟨r6, M6, hz, h⟩ := am_bi_s h
  refine am_R.call (e' := me_J0_length_8abf5) (as := [.ref 1003]) (rest := [.int v2]) rfl rfl (Nat.le_of_ble_eq_true rfl) (t_mJ0_length_1003 z N _ hz) ?_
  rcases am_it h with ⟨hc, h⟩ | ⟨hc, h⟩
  · refine am_R.bt rfl rfl hc ?_
    refine am_R.go 1 (q' := (32, [some (.ref 1003), some (.int v1), some (.int v2)], [.int v1], M6)) rfl trivial ?_
    cases h
    exact am_R.ret rfl rfl trivial
  · refine am_R.bn rfl rfl hc ?_
    refine am_R.go 5 (q' := (17, [some (.ref 1003), some (.int v1), some (.int v2)], [.int v2, .ref 1003, .int (v1 <<< (5 &&& 31))], M6)) rfl trivial ?_
    obtain ⟨r17, M17, hz, h⟩ := am_bi_s h
    refine am_R.call (e' := me_J0_charAt_5068e) (as := [.ref 1003, .int v2]) (rest := [.int (v1 <<< (5 &&& 31))]) rfl rfl (Nat.le_of_ble_eq_true rfl) (t_mJ0_charAt_1003 z N v2 _ hz) ?_
    refine am_R.go 6 (q' := (4, [some (.ref 1003), some (.int ((v1 <<< (5 &&& 31)) ||| (r17 - 96))), some (.int (v2 + 1))], [], M17)) rfl trivial ?_
    exact hk4 ((v1 <<< (5 &&& 31)) ||| (r17 - 96)) (v2 + 1) _ h
set_option maxRecDepth 100000 in
theorem t_X10_of_1003_4 (z : Value) (N : Nat) {r : Except Nat (Option Value)} {M' : am_M} : ∀ (n : Nat) (v1 : Int32) (v2 : Int32) (M : am_M), f_X10_of_1003_4 N n v1 v2 M = some (r, M') → mR z me_X10_of (4, [some (.ref 1003), some (.int v1), some (.int v2)], [], M) r M' := by
  intro n
  induction n with
  | zero => intro v1 v2 M h; cases h
  | succ n ih => intro v1 v2 M h; exact t_X10_of_1003_4B z N _ ih v1 v2 M h
def f_X10_of_1003 (N : Nat) (M : am_M) : Option (Except Nat (Option Value) × am_M) :=
  f_X10_of_1003_4 N N 0 0 M
set_option maxRecDepth 100000 in
theorem t_X10_of_1003 (z : Value) (N : Nat) (M : am_M) {r : Except Nat (Option Value)} {M' : am_M} (h : f_X10_of_1003 N M = some (r, M')) : mR z me_X10_of (0, [some (.ref 1003), none, none], [], M) r M' := by
  unfold f_X10_of_1003 at h
  refine am_R.go 4 (q' := (4, [some (.ref 1003), some (.int 0), some (.int 0)], [], M)) rfl trivial ?_
  exact t_X10_of_1003_4 z N N 0 0 _ h
def f_mJ0_coder_1004 (N : Nat) (M : am_M) : Option (Except Nat (Option Value) × am_M) :=
  if (0 : Int32).toInt8.toInt32 = 0 then some (.ok (some (.int 0)), M) else none
set_option maxRecDepth 100000 in
theorem t_mJ0_coder_1004 (z : Value) (N : Nat) (M : am_M) {r : Except Nat (Option Value)} {M' : am_M} (h : f_mJ0_coder_1004 N M = some (r, M')) : mR z me_J0_coder_7d493 (0, [some (.ref 1004)], [], M) r M' := by
  unfold f_mJ0_coder_1004 at h
  refine am_R.go 1 (q' := (3, [some (.ref 1004)], [.int 1], M)) rfl trivial ?_
  refine am_R.cn rfl rfl (by unfold am_c; decide) ?_
  refine am_R.go 3 (q' := (14, [some (.ref 1004)], [.int 0], M)) rfl ⟨(by decide), trivial⟩ ?_
  obtain ⟨hC, h⟩ := am_gd h
  cases h
  exact am_R.ret rfl rfl hC
def f_mJ0_length_1004 (N : Nat) (M : am_M) : Option (Except Nat (Option Value) × am_M) :=
  am_bi (f_mJ0_coder_1004 N M) fun r6 M6 =>
    some (.ok (some (.int (5 >>> (r6 &&& 31)))), M6)
set_option maxRecDepth 100000 in
theorem t_mJ0_length_1004 (z : Value) (N : Nat) (M : am_M) {r : Except Nat (Option Value)} {M' : am_M} (h : f_mJ0_length_1004 N M = some (r, M')) : mR z me_J0_length_8abf5 (0, [some (.ref 1004)], [], M) r M' := by
  unfold f_mJ0_length_1004 at h
  refine am_R.go 4 (q' := (6, [some (.ref 1004)], [.ref 1004, .int 5], M)) rfl ⟨(by decide), trivial⟩ ?_
  obtain ⟨r6, M6, hz, h⟩ := am_bi_s h
  refine am_R.call (e' := me_J0_coder_7d493) (as := [.ref 1004]) (rest := [.int 5]) rfl rfl (Nat.le_of_ble_eq_true rfl) (t_mJ0_coder_1004 z N _ hz) ?_
  refine am_R.go 1 (q' := (10, [some (.ref 1004)], [.int (5 >>> (r6 &&& 31))], M6)) rfl trivial ?_
  cases h
  exact am_R.ret rfl rfl trivial
def f_mJ0_isLatin1_1004 (N : Nat) (M : am_M) : Option (Except Nat (Option Value) × am_M) :=
  some (.ok (some (.int 1)), M)
set_option maxRecDepth 100000 in
theorem t_mJ0_isLatin1_1004 (z : Value) (N : Nat) (M : am_M) {r : Except Nat (Option Value)} {M' : am_M} (h : f_mJ0_isLatin1_1004 N M = some (r, M')) : mR z me_J0_isLatin1_aae02 (0, [some (.ref 1004)], [], M) r M' := by
  unfold f_mJ0_isLatin1_1004 at h
  refine am_R.go 1 (q' := (3, [some (.ref 1004)], [.int 1], M)) rfl trivial ?_
  refine am_R.cn rfl rfl (by unfold am_c; decide) ?_
  refine am_R.go 2 (q' := (10, [some (.ref 1004)], [.int 0], M)) rfl ⟨(by decide), trivial⟩ ?_
  refine am_R.cn rfl rfl (by unfold am_c; decide) ?_
  refine am_R.go 2 (q' := (18, [some (.ref 1004)], [.int 1], M)) rfl trivial ?_
  cases h
  exact am_R.ret rfl rfl (Or.inr rfl)
def f_mJ1_charAt_2004 (N : Nat) (p1 : Int32) (M : am_M) : Option (Except Nat (Option Value) × am_M) :=
  am_bv (f_mJ0_checkIndex N p1 5 M) fun M3 =>
    if am_in p1 5 then
      if ((((((am_byt.getD 4 []).getD p1.toNatClampNeg 0) &&& 255).toUInt32 % 65536).toInt32).toUInt32 % 65536).toInt32 = ((((am_byt.getD 4 []).getD p1.toNatClampNeg 0) &&& 255).toUInt32 % 65536).toInt32 then some (.ok (some (.int (((((am_byt.getD 4 []).getD p1.toNatClampNeg 0) &&& 255).toUInt32 % 65536).toInt32))), M3) else none
    else none
set_option maxRecDepth 100000 in
theorem t_mJ1_charAt_2004 (z : Value) (N : Nat) (p1 : Int32) (M : am_M) {r : Except Nat (Option Value)} {M' : am_M} (h : f_mJ1_charAt_2004 N p1 M = some (r, M')) : mR z me_J1_charAt_3b067 (0, [some (.ref 2004), some (.int p1)], [], M) r M' := by
  unfold f_mJ1_charAt_2004 at h
  refine am_R.go 3 (q' := (3, [some (.ref 2004), some (.int p1)], [.int 5, .int p1], M)) rfl trivial ?_
  obtain ⟨M3, hz, h⟩ := am_bv_s h
  refine am_R.call (e' := me_J0_checkIndex_df160) (as := [.int p1, .int 5]) (rest := []) rfl rfl (Nat.le_of_ble_eq_true rfl) (t_mJ0_checkIndex z N p1 5 _ hz) ?_
  obtain ⟨hC, h⟩ := am_gd h
  refine am_R.go 6 (q' := (14, [some (.ref 2004), some (.int p1)], [.int (((((am_byt.getD 4 []).getD p1.toNatClampNeg 0) &&& 255).toUInt32 % 65536).toInt32)], M3)) rfl ⟨hC, trivial⟩ ?_
  obtain ⟨hC, h⟩ := am_gd h
  cases h
  exact am_R.ret rfl rfl hC
def f_mJ0_charAt_1004 (N : Nat) (p1 : Int32) (M : am_M) : Option (Except Nat (Option Value) × am_M) :=
  am_bi (f_mJ0_isLatin1_1004 N M) fun r1 M1 =>
    if r1 = 0 then
      none
    else
      am_bi (f_mJ1_charAt_2004 N p1 M1) fun r12 M12 =>
        if (r12.toUInt32 % 65536).toInt32 = r12 then some (.ok (some (.int r12)), M12) else none
set_option maxRecDepth 100000 in
theorem t_mJ0_charAt_1004 (z : Value) (N : Nat) (p1 : Int32) (M : am_M) {r : Except Nat (Option Value)} {M' : am_M} (h : f_mJ0_charAt_1004 N p1 M = some (r, M')) : mR z me_J0_charAt_5068e (0, [some (.ref 1004), some (.int p1)], [], M) r M' := by
  unfold f_mJ0_charAt_1004 at h
  refine am_R.go 1 (q' := (1, [some (.ref 1004), some (.int p1)], [.ref 1004], M)) rfl trivial ?_
  obtain ⟨r1, M1, hz, h⟩ := am_bi_s h
  refine am_R.call (e' := me_J0_isLatin1_aae02) (as := [.ref 1004]) (rest := []) rfl rfl (Nat.le_of_ble_eq_true rfl) (t_mJ0_isLatin1_1004 z N _ hz) ?_
  rcases am_it h with ⟨hc, h⟩ | ⟨hc, h⟩
  · refine am_R.ct rfl rfl hc ?_
    cases h
  · refine am_R.cn rfl rfl hc ?_
    refine am_R.go 3 (q' := (12, [some (.ref 1004), some (.int p1)], [.int p1, .ref 2004], M1)) rfl ⟨(by decide), trivial⟩ ?_
    obtain ⟨r12, M12, hz, h⟩ := am_bi_s h
    refine am_R.call (e' := me_J1_charAt_3b067) (as := [.ref 2004, .int p1]) (rest := []) rfl rfl (Nat.le_of_ble_eq_true rfl) (t_mJ1_charAt_2004 z N p1 _ hz) ?_
    obtain ⟨hC, h⟩ := am_gd h
    cases h
    exact am_R.ret rfl rfl hC
def f_X10_of_1004_4B (N : Nat) (k4 : Int32 → Int32 → am_M → Option (Except Nat (Option Value) × am_M)) (v1 : Int32) (v2 : Int32) (M : am_M) : Option (Except Nat (Option Value) × am_M) :=
  am_bi (f_mJ0_length_1004 N M) fun r6 M6 =>
    if r6 ≤ v2 then
      some (.ok (some (.int v1)), M6)
    else
      am_bi (f_mJ0_charAt_1004 N v2 M6) fun r17 M17 =>
        k4 ((v1 <<< (5 &&& 31)) ||| (r17 - 96)) (v2 + 1) M17
def f_X10_of_1004_4 (N : Nat) : Nat → Int32 → Int32 → am_M → Option (Except Nat (Option Value) × am_M)
  | 0 => fun _ _ _ => none
  | n + 1 => f_X10_of_1004_4B N (f_X10_of_1004_4 N n)
set_option maxRecDepth 100000 in
theorem t_X10_of_1004_4B (z : Value) (N : Nat) {r : Except Nat (Option Value)} {M' : am_M} (k4 : Int32 → Int32 → am_M → Option (Except Nat (Option Value) × am_M)) (hk4 : ∀ (v1 : Int32) (v2 : Int32) (M : am_M), k4 v1 v2 M = some (r, M') → mR z me_X10_of (4, [some (.ref 1004), some (.int v1), some (.int v2)], [], M) r M') (v1 : Int32) (v2 : Int32) (M : am_M) (h : f_X10_of_1004_4B N k4 v1 v2 M = some (r, M')) : mR z me_X10_of (4, [some (.ref 1004), some (.int v1), some (.int v2)], [], M) r M' := by
  unfold f_X10_of_1004_4B at h
  refine am_R.go 2 (q' := (6, [some (.ref 1004), some (.int v1), some (.int v2)], [.ref 1004, .int v2], M)) rfl trivial ?_
  obtain ⟨r6, M6, hz, h⟩ := am_bi_s h
  refine am_R.call (e' := me_J0_length_8abf5) (as := [.ref 1004]) (rest := [.int v2]) rfl rfl (Nat.le_of_ble_eq_true rfl) (t_mJ0_length_1004 z N _ hz) ?_
  rcases am_it h with ⟨hc, h⟩ | ⟨hc, h⟩
  · refine am_R.bt rfl rfl hc ?_
    refine am_R.go 1 (q' := (32, [some (.ref 1004), some (.int v1), some (.int v2)], [.int v1], M6)) rfl trivial ?_
    cases h
    exact am_R.ret rfl rfl trivial
  · refine am_R.bn rfl rfl hc ?_
    refine am_R.go 5 (q' := (17, [some (.ref 1004), some (.int v1), some (.int v2)], [.int v2, .ref 1004, .int (v1 <<< (5 &&& 31))], M6)) rfl trivial ?_
    obtain ⟨r17, M17, hz, h⟩ := am_bi_s h
    refine am_R.call (e' := me_J0_charAt_5068e) (as := [.ref 1004, .int v2]) (rest := [.int (v1 <<< (5 &&& 31))]) rfl rfl (Nat.le_of_ble_eq_true rfl) (t_mJ0_charAt_1004 z N v2 _ hz) ?_
    refine am_R.go 6 (q' := (4, [some (.ref 1004), some (.int ((v1 <<< (5 &&& 31)) ||| (r17 - 96))), some (.int (v2 + 1))], [], M17)) rfl trivial ?_
    exact hk4 ((v1 <<< (5 &&& 31)) ||| (r17 - 96)) (v2 + 1) _ h
set_option maxRecDepth 100000 in
theorem t_X10_of_1004_4 (z : Value) (N : Nat) {r : Except Nat (Option Value)} {M' : am_M} : ∀ (n : Nat) (v1 : Int32) (v2 : Int32) (M : am_M), f_X10_of_1004_4 N n v1 v2 M = some (r, M') → mR z me_X10_of (4, [some (.ref 1004), some (.int v1), some (.int v2)], [], M) r M' := by
  intro n
  induction n with
  | zero => intro v1 v2 M h; cases h
  | succ n ih => intro v1 v2 M h; exact t_X10_of_1004_4B z N _ ih v1 v2 M h
def f_X10_of_1004 (N : Nat) (M : am_M) : Option (Except Nat (Option Value) × am_M) :=
  f_X10_of_1004_4 N N 0 0 M
set_option maxRecDepth 100000 in
theorem t_X10_of_1004 (z : Value) (N : Nat) (M : am_M) {r : Except Nat (Option Value)} {M' : am_M} (h : f_X10_of_1004 N M = some (r, M')) : mR z me_X10_of (0, [some (.ref 1004), none, none], [], M) r M' := by
  unfold f_X10_of_1004 at h
  refine am_R.go 4 (q' := (4, [some (.ref 1004), some (.int 0), some (.int 0)], [], M)) rfl trivial ?_
  exact t_X10_of_1004_4 z N N 0 0 _ h
def f_mJ0_coder_1005 (N : Nat) (M : am_M) : Option (Except Nat (Option Value) × am_M) :=
  if (0 : Int32).toInt8.toInt32 = 0 then some (.ok (some (.int 0)), M) else none
set_option maxRecDepth 100000 in
theorem t_mJ0_coder_1005 (z : Value) (N : Nat) (M : am_M) {r : Except Nat (Option Value)} {M' : am_M} (h : f_mJ0_coder_1005 N M = some (r, M')) : mR z me_J0_coder_7d493 (0, [some (.ref 1005)], [], M) r M' := by
  unfold f_mJ0_coder_1005 at h
  refine am_R.go 1 (q' := (3, [some (.ref 1005)], [.int 1], M)) rfl trivial ?_
  refine am_R.cn rfl rfl (by unfold am_c; decide) ?_
  refine am_R.go 3 (q' := (14, [some (.ref 1005)], [.int 0], M)) rfl ⟨(by decide), trivial⟩ ?_
  obtain ⟨hC, h⟩ := am_gd h
  cases h
  exact am_R.ret rfl rfl hC
def f_mJ0_length_1005 (N : Nat) (M : am_M) : Option (Except Nat (Option Value) × am_M) :=
  am_bi (f_mJ0_coder_1005 N M) fun r6 M6 =>
    some (.ok (some (.int (4 >>> (r6 &&& 31)))), M6)
set_option maxRecDepth 100000 in
theorem t_mJ0_length_1005 (z : Value) (N : Nat) (M : am_M) {r : Except Nat (Option Value)} {M' : am_M} (h : f_mJ0_length_1005 N M = some (r, M')) : mR z me_J0_length_8abf5 (0, [some (.ref 1005)], [], M) r M' := by
  unfold f_mJ0_length_1005 at h
  refine am_R.go 4 (q' := (6, [some (.ref 1005)], [.ref 1005, .int 4], M)) rfl ⟨(by decide), trivial⟩ ?_
  obtain ⟨r6, M6, hz, h⟩ := am_bi_s h
  refine am_R.call (e' := me_J0_coder_7d493) (as := [.ref 1005]) (rest := [.int 4]) rfl rfl (Nat.le_of_ble_eq_true rfl) (t_mJ0_coder_1005 z N _ hz) ?_
  refine am_R.go 1 (q' := (10, [some (.ref 1005)], [.int (4 >>> (r6 &&& 31))], M6)) rfl trivial ?_
  cases h
  exact am_R.ret rfl rfl trivial
def f_mJ0_isLatin1_1005 (N : Nat) (M : am_M) : Option (Except Nat (Option Value) × am_M) :=
  some (.ok (some (.int 1)), M)
set_option maxRecDepth 100000 in
theorem t_mJ0_isLatin1_1005 (z : Value) (N : Nat) (M : am_M) {r : Except Nat (Option Value)} {M' : am_M} (h : f_mJ0_isLatin1_1005 N M = some (r, M')) : mR z me_J0_isLatin1_aae02 (0, [some (.ref 1005)], [], M) r M' := by
  unfold f_mJ0_isLatin1_1005 at h
  refine am_R.go 1 (q' := (3, [some (.ref 1005)], [.int 1], M)) rfl trivial ?_
  refine am_R.cn rfl rfl (by unfold am_c; decide) ?_
  refine am_R.go 2 (q' := (10, [some (.ref 1005)], [.int 0], M)) rfl ⟨(by decide), trivial⟩ ?_
  refine am_R.cn rfl rfl (by unfold am_c; decide) ?_
  refine am_R.go 2 (q' := (18, [some (.ref 1005)], [.int 1], M)) rfl trivial ?_
  cases h
  exact am_R.ret rfl rfl (Or.inr rfl)
def f_mJ1_charAt_2005 (N : Nat) (p1 : Int32) (M : am_M) : Option (Except Nat (Option Value) × am_M) :=
  am_bv (f_mJ0_checkIndex N p1 4 M) fun M3 =>
    if am_in p1 4 then
      if ((((((am_byt.getD 5 []).getD p1.toNatClampNeg 0) &&& 255).toUInt32 % 65536).toInt32).toUInt32 % 65536).toInt32 = ((((am_byt.getD 5 []).getD p1.toNatClampNeg 0) &&& 255).toUInt32 % 65536).toInt32 then some (.ok (some (.int (((((am_byt.getD 5 []).getD p1.toNatClampNeg 0) &&& 255).toUInt32 % 65536).toInt32))), M3) else none
    else none
set_option maxRecDepth 100000 in
theorem t_mJ1_charAt_2005 (z : Value) (N : Nat) (p1 : Int32) (M : am_M) {r : Except Nat (Option Value)} {M' : am_M} (h : f_mJ1_charAt_2005 N p1 M = some (r, M')) : mR z me_J1_charAt_3b067 (0, [some (.ref 2005), some (.int p1)], [], M) r M' := by
  unfold f_mJ1_charAt_2005 at h
  refine am_R.go 3 (q' := (3, [some (.ref 2005), some (.int p1)], [.int 4, .int p1], M)) rfl trivial ?_
  obtain ⟨M3, hz, h⟩ := am_bv_s h
  refine am_R.call (e' := me_J0_checkIndex_df160) (as := [.int p1, .int 4]) (rest := []) rfl rfl (Nat.le_of_ble_eq_true rfl) (t_mJ0_checkIndex z N p1 4 _ hz) ?_
  obtain ⟨hC, h⟩ := am_gd h
  refine am_R.go 6 (q' := (14, [some (.ref 2005), some (.int p1)], [.int (((((am_byt.getD 5 []).getD p1.toNatClampNeg 0) &&& 255).toUInt32 % 65536).toInt32)], M3)) rfl ⟨hC, trivial⟩ ?_
  obtain ⟨hC, h⟩ := am_gd h
  cases h
  exact am_R.ret rfl rfl hC
def f_mJ0_charAt_1005 (N : Nat) (p1 : Int32) (M : am_M) : Option (Except Nat (Option Value) × am_M) :=
  am_bi (f_mJ0_isLatin1_1005 N M) fun r1 M1 =>
    if r1 = 0 then
      none
    else
      am_bi (f_mJ1_charAt_2005 N p1 M1) fun r12 M12 =>
        if (r12.toUInt32 % 65536).toInt32 = r12 then some (.ok (some (.int r12)), M12) else none
set_option maxRecDepth 100000 in
theorem t_mJ0_charAt_1005 (z : Value) (N : Nat) (p1 : Int32) (M : am_M) {r : Except Nat (Option Value)} {M' : am_M} (h : f_mJ0_charAt_1005 N p1 M = some (r, M')) : mR z me_J0_charAt_5068e (0, [some (.ref 1005), some (.int p1)], [], M) r M' := by
  unfold f_mJ0_charAt_1005 at h
  refine am_R.go 1 (q' := (1, [some (.ref 1005), some (.int p1)], [.ref 1005], M)) rfl trivial ?_
  obtain ⟨r1, M1, hz, h⟩ := am_bi_s h
  refine am_R.call (e' := me_J0_isLatin1_aae02) (as := [.ref 1005]) (rest := []) rfl rfl (Nat.le_of_ble_eq_true rfl) (t_mJ0_isLatin1_1005 z N _ hz) ?_
  rcases am_it h with ⟨hc, h⟩ | ⟨hc, h⟩
  · refine am_R.ct rfl rfl hc ?_
    cases h
  · refine am_R.cn rfl rfl hc ?_
    refine am_R.go 3 (q' := (12, [some (.ref 1005), some (.int p1)], [.int p1, .ref 2005], M1)) rfl ⟨(by decide), trivial⟩ ?_
    obtain ⟨r12, M12, hz, h⟩ := am_bi_s h
    refine am_R.call (e' := me_J1_charAt_3b067) (as := [.ref 2005, .int p1]) (rest := []) rfl rfl (Nat.le_of_ble_eq_true rfl) (t_mJ1_charAt_2005 z N p1 _ hz) ?_
    obtain ⟨hC, h⟩ := am_gd h
    cases h
    exact am_R.ret rfl rfl hC
def f_X10_of_1005_4B (N : Nat) (k4 : Int32 → Int32 → am_M → Option (Except Nat (Option Value) × am_M)) (v1 : Int32) (v2 : Int32) (M : am_M) : Option (Except Nat (Option Value) × am_M) :=
  am_bi (f_mJ0_length_1005 N M) fun r6 M6 =>
    if r6 ≤ v2 then
      some (.ok (some (.int v1)), M6)
    else
      am_bi (f_mJ0_charAt_1005 N v2 M6) fun r17 M17 =>
        k4 ((v1 <<< (5 &&& 31)) ||| (r17 - 96)) (v2 + 1) M17
def f_X10_of_1005_4 (N : Nat) : Nat → Int32 → Int32 → am_M → Option (Except Nat (Option Value) × am_M)
  | 0 => fun _ _ _ => none
  | n + 1 => f_X10_of_1005_4B N (f_X10_of_1005_4 N n)
set_option maxRecDepth 100000 in
theorem t_X10_of_1005_4B (z : Value) (N : Nat) {r : Except Nat (Option Value)} {M' : am_M} (k4 : Int32 → Int32 → am_M → Option (Except Nat (Option Value) × am_M)) (hk4 : ∀ (v1 : Int32) (v2 : Int32) (M : am_M), k4 v1 v2 M = some (r, M') → mR z me_X10_of (4, [some (.ref 1005), some (.int v1), some (.int v2)], [], M) r M') (v1 : Int32) (v2 : Int32) (M : am_M) (h : f_X10_of_1005_4B N k4 v1 v2 M = some (r, M')) : mR z me_X10_of (4, [some (.ref 1005), some (.int v1), some (.int v2)], [], M) r M' := by
  unfold f_X10_of_1005_4B at h
  refine am_R.go 2 (q' := (6, [some (.ref 1005), some (.int v1), some (.int v2)], [.ref 1005, .int v2], M)) rfl trivial ?_
  obtain ⟨r6, M6, hz, h⟩ := am_bi_s h
  refine am_R.call (e' := me_J0_length_8abf5) (as := [.ref 1005]) (rest := [.int v2]) rfl rfl (Nat.le_of_ble_eq_true rfl) (t_mJ0_length_1005 z N _ hz) ?_
  rcases am_it h with ⟨hc, h⟩ | ⟨hc, h⟩
  · refine am_R.bt rfl rfl hc ?_
    refine am_R.go 1 (q' := (32, [some (.ref 1005), some (.int v1), some (.int v2)], [.int v1], M6)) rfl trivial ?_
    cases h
    exact am_R.ret rfl rfl trivial
  · refine am_R.bn rfl rfl hc ?_
    refine am_R.go 5 (q' := (17, [some (.ref 1005), some (.int v1), some (.int v2)], [.int v2, .ref 1005, .int (v1 <<< (5 &&& 31))], M6)) rfl trivial ?_
    obtain ⟨r17, M17, hz, h⟩ := am_bi_s h
    refine am_R.call (e' := me_J0_charAt_5068e) (as := [.ref 1005, .int v2]) (rest := [.int (v1 <<< (5 &&& 31))]) rfl rfl (Nat.le_of_ble_eq_true rfl) (t_mJ0_charAt_1005 z N v2 _ hz) ?_
    refine am_R.go 6 (q' := (4, [some (.ref 1005), some (.int ((v1 <<< (5 &&& 31)) ||| (r17 - 96))), some (.int (v2 + 1))], [], M17)) rfl trivial ?_
    exact hk4 ((v1 <<< (5 &&& 31)) ||| (r17 - 96)) (v2 + 1) _ h
set_option maxRecDepth 100000 in
theorem t_X10_of_1005_4 (z : Value) (N : Nat) {r : Except Nat (Option Value)} {M' : am_M} : ∀ (n : Nat) (v1 : Int32) (v2 : Int32) (M : am_M), f_X10_of_1005_4 N n v1 v2 M = some (r, M') → mR z me_X10_of (4, [some (.ref 1005), some (.int v1), some (.int v2)], [], M) r M' := by
  intro n
  induction n with
  | zero => intro v1 v2 M h; cases h
  | succ n ih => intro v1 v2 M h; exact t_X10_of_1005_4B z N _ ih v1 v2 M h
def f_X10_of_1005 (N : Nat) (M : am_M) : Option (Except Nat (Option Value) × am_M) :=
  f_X10_of_1005_4 N N 0 0 M
set_option maxRecDepth 100000 in
theorem t_X10_of_1005 (z : Value) (N : Nat) (M : am_M) {r : Except Nat (Option Value)} {M' : am_M} (h : f_X10_of_1005 N M = some (r, M')) : mR z me_X10_of (0, [some (.ref 1005), none, none], [], M) r M' := by
  unfold f_X10_of_1005 at h
  refine am_R.go 4 (q' := (4, [some (.ref 1005), some (.int 0), some (.int 0)], [], M)) rfl trivial ?_
  exact t_X10_of_1005_4 z N N 0 0 _ h
def f_mJ0_coder_1006 (N : Nat) (M : am_M) : Option (Except Nat (Option Value) × am_M) :=
  if (0 : Int32).toInt8.toInt32 = 0 then some (.ok (some (.int 0)), M) else none
set_option maxRecDepth 100000 in
theorem t_mJ0_coder_1006 (z : Value) (N : Nat) (M : am_M) {r : Except Nat (Option Value)} {M' : am_M} (h : f_mJ0_coder_1006 N M = some (r, M')) : mR z me_J0_coder_7d493 (0, [some (.ref 1006)], [], M) r M' := by
  unfold f_mJ0_coder_1006 at h
  refine am_R.go 1 (q' := (3, [some (.ref 1006)], [.int 1], M)) rfl trivial ?_
  refine am_R.cn rfl rfl (by unfold am_c; decide) ?_
  refine am_R.go 3 (q' := (14, [some (.ref 1006)], [.int 0], M)) rfl ⟨(by decide), trivial⟩ ?_
  obtain ⟨hC, h⟩ := am_gd h
  cases h
  exact am_R.ret rfl rfl hC
def f_mJ0_length_1006 (N : Nat) (M : am_M) : Option (Except Nat (Option Value) × am_M) :=
  am_bi (f_mJ0_coder_1006 N M) fun r6 M6 =>
    some (.ok (some (.int (6 >>> (r6 &&& 31)))), M6)
set_option maxRecDepth 100000 in
theorem t_mJ0_length_1006 (z : Value) (N : Nat) (M : am_M) {r : Except Nat (Option Value)} {M' : am_M} (h : f_mJ0_length_1006 N M = some (r, M')) : mR z me_J0_length_8abf5 (0, [some (.ref 1006)], [], M) r M' := by
  unfold f_mJ0_length_1006 at h
  refine am_R.go 4 (q' := (6, [some (.ref 1006)], [.ref 1006, .int 6], M)) rfl ⟨(by decide), trivial⟩ ?_
  obtain ⟨r6, M6, hz, h⟩ := am_bi_s h
  refine am_R.call (e' := me_J0_coder_7d493) (as := [.ref 1006]) (rest := [.int 6]) rfl rfl (Nat.le_of_ble_eq_true rfl) (t_mJ0_coder_1006 z N _ hz) ?_
  refine am_R.go 1 (q' := (10, [some (.ref 1006)], [.int (6 >>> (r6 &&& 31))], M6)) rfl trivial ?_
  cases h
  exact am_R.ret rfl rfl trivial
def f_mJ0_isLatin1_1006 (N : Nat) (M : am_M) : Option (Except Nat (Option Value) × am_M) :=
  some (.ok (some (.int 1)), M)
set_option maxRecDepth 100000 in
theorem t_mJ0_isLatin1_1006 (z : Value) (N : Nat) (M : am_M) {r : Except Nat (Option Value)} {M' : am_M} (h : f_mJ0_isLatin1_1006 N M = some (r, M')) : mR z me_J0_isLatin1_aae02 (0, [some (.ref 1006)], [], M) r M' := by
  unfold f_mJ0_isLatin1_1006 at h
  refine am_R.go 1 (q' := (3, [some (.ref 1006)], [.int 1], M)) rfl trivial ?_
  refine am_R.cn rfl rfl (by unfold am_c; decide) ?_
  refine am_R.go 2 (q' := (10, [some (.ref 1006)], [.int 0], M)) rfl ⟨(by decide), trivial⟩ ?_
  refine am_R.cn rfl rfl (by unfold am_c; decide) ?_
  refine am_R.go 2 (q' := (18, [some (.ref 1006)], [.int 1], M)) rfl trivial ?_
  cases h
  exact am_R.ret rfl rfl (Or.inr rfl)
def f_mJ1_charAt_2006 (N : Nat) (p1 : Int32) (M : am_M) : Option (Except Nat (Option Value) × am_M) :=
  am_bv (f_mJ0_checkIndex N p1 6 M) fun M3 =>
    if am_in p1 6 then
      if ((((((am_byt.getD 6 []).getD p1.toNatClampNeg 0) &&& 255).toUInt32 % 65536).toInt32).toUInt32 % 65536).toInt32 = ((((am_byt.getD 6 []).getD p1.toNatClampNeg 0) &&& 255).toUInt32 % 65536).toInt32 then some (.ok (some (.int (((((am_byt.getD 6 []).getD p1.toNatClampNeg 0) &&& 255).toUInt32 % 65536).toInt32))), M3) else none
    else none
set_option maxRecDepth 100000 in
theorem t_mJ1_charAt_2006 (z : Value) (N : Nat) (p1 : Int32) (M : am_M) {r : Except Nat (Option Value)} {M' : am_M} (h : f_mJ1_charAt_2006 N p1 M = some (r, M')) : mR z me_J1_charAt_3b067 (0, [some (.ref 2006), some (.int p1)], [], M) r M' := by
  unfold f_mJ1_charAt_2006 at h
  refine am_R.go 3 (q' := (3, [some (.ref 2006), some (.int p1)], [.int 6, .int p1], M)) rfl trivial ?_
  obtain ⟨M3, hz, h⟩ := am_bv_s h
  refine am_R.call (e' := me_J0_checkIndex_df160) (as := [.int p1, .int 6]) (rest := []) rfl rfl (Nat.le_of_ble_eq_true rfl) (t_mJ0_checkIndex z N p1 6 _ hz) ?_
  obtain ⟨hC, h⟩ := am_gd h
  refine am_R.go 6 (q' := (14, [some (.ref 2006), some (.int p1)], [.int (((((am_byt.getD 6 []).getD p1.toNatClampNeg 0) &&& 255).toUInt32 % 65536).toInt32)], M3)) rfl ⟨hC, trivial⟩ ?_
  obtain ⟨hC, h⟩ := am_gd h
  cases h
  exact am_R.ret rfl rfl hC
def f_mJ0_charAt_1006 (N : Nat) (p1 : Int32) (M : am_M) : Option (Except Nat (Option Value) × am_M) :=
  am_bi (f_mJ0_isLatin1_1006 N M) fun r1 M1 =>
    if r1 = 0 then
      none
    else
      am_bi (f_mJ1_charAt_2006 N p1 M1) fun r12 M12 =>
        if (r12.toUInt32 % 65536).toInt32 = r12 then some (.ok (some (.int r12)), M12) else none
set_option maxRecDepth 100000 in
theorem t_mJ0_charAt_1006 (z : Value) (N : Nat) (p1 : Int32) (M : am_M) {r : Except Nat (Option Value)} {M' : am_M} (h : f_mJ0_charAt_1006 N p1 M = some (r, M')) : mR z me_J0_charAt_5068e (0, [some (.ref 1006), some (.int p1)], [], M) r M' := by
  unfold f_mJ0_charAt_1006 at h
  refine am_R.go 1 (q' := (1, [some (.ref 1006), some (.int p1)], [.ref 1006], M)) rfl trivial ?_
  obtain ⟨r1, M1, hz, h⟩ := am_bi_s h
  refine am_R.call (e' := me_J0_isLatin1_aae02) (as := [.ref 1006]) (rest := []) rfl rfl (Nat.le_of_ble_eq_true rfl) (t_mJ0_isLatin1_1006 z N _ hz) ?_
  rcases am_it h with ⟨hc, h⟩ | ⟨hc, h⟩
  · refine am_R.ct rfl rfl hc ?_
    cases h
  · refine am_R.cn rfl rfl hc ?_
    refine am_R.go 3 (q' := (12, [some (.ref 1006), some (.int p1)], [.int p1, .ref 2006], M1)) rfl ⟨(by decide), trivial⟩ ?_
    obtain ⟨r12, M12, hz, h⟩ := am_bi_s h
    refine am_R.call (e' := me_J1_charAt_3b067) (as := [.ref 2006, .int p1]) (rest := []) rfl rfl (Nat.le_of_ble_eq_true rfl) (t_mJ1_charAt_2006 z N p1 _ hz) ?_
    obtain ⟨hC, h⟩ := am_gd h
    cases h
    exact am_R.ret rfl rfl hC
def f_X10_of_1006_4B (N : Nat) (k4 : Int32 → Int32 → am_M → Option (Except Nat (Option Value) × am_M)) (v1 : Int32) (v2 : Int32) (M : am_M) : Option (Except Nat (Option Value) × am_M) :=
  am_bi (f_mJ0_length_1006 N M) fun r6 M6 =>
    if r6 ≤ v2 then
      some (.ok (some (.int v1)), M6)
    else
      am_bi (f_mJ0_charAt_1006 N v2 M6) fun r17 M17 =>
        k4 ((v1 <<< (5 &&& 31)) ||| (r17 - 96)) (v2 + 1) M17
def f_X10_of_1006_4 (N : Nat) : Nat → Int32 → Int32 → am_M → Option (Except Nat (Option Value) × am_M)
  | 0 => fun _ _ _ => none
  | n + 1 => f_X10_of_1006_4B N (f_X10_of_1006_4 N n)
set_option maxRecDepth 100000 in
theorem t_X10_of_1006_4B (z : Value) (N : Nat) {r : Except Nat (Option Value)} {M' : am_M} (k4 : Int32 → Int32 → am_M → Option (Except Nat (Option Value) × am_M)) (hk4 : ∀ (v1 : Int32) (v2 : Int32) (M : am_M), k4 v1 v2 M = some (r, M') → mR z me_X10_of (4, [some (.ref 1006), some (.int v1), some (.int v2)], [], M) r M') (v1 : Int32) (v2 : Int32) (M : am_M) (h : f_X10_of_1006_4B N k4 v1 v2 M = some (r, M')) : mR z me_X10_of (4, [some (.ref 1006), some (.int v1), some (.int v2)], [], M) r M' := by
  unfold f_X10_of_1006_4B at h
  refine am_R.go 2 (q' := (6, [some (.ref 1006), some (.int v1), some (.int v2)], [.ref 1006, .int v2], M)) rfl trivial ?_
  obtain ⟨r6, M6, hz, h⟩ := am_bi_s h
  refine am_R.call (e' := me_J0_length_8abf5) (as := [.ref 1006]) (rest := [.int v2]) rfl rfl (Nat.le_of_ble_eq_true rfl) (t_mJ0_length_1006 z N _ hz) ?_
  rcases am_it h with ⟨hc, h⟩ | ⟨hc, h⟩
  · refine am_R.bt rfl rfl hc ?_
    refine am_R.go 1 (q' := (32, [some (.ref 1006), some (.int v1), some (.int v2)], [.int v1], M6)) rfl trivial ?_
    cases h
    exact am_R.ret rfl rfl trivial
  · refine am_R.bn rfl rfl hc ?_
    refine am_R.go 5 (q' := (17, [some (.ref 1006), some (.int v1), some (.int v2)], [.int v2, .ref 1006, .int (v1 <<< (5 &&& 31))], M6)) rfl trivial ?_
    obtain ⟨r17, M17, hz, h⟩ := am_bi_s h
    refine am_R.call (e' := me_J0_charAt_5068e) (as := [.ref 1006, .int v2]) (rest := [.int (v1 <<< (5 &&& 31))]) rfl rfl (Nat.le_of_ble_eq_true rfl) (t_mJ0_charAt_1006 z N v2 _ hz) ?_
    refine am_R.go 6 (q' := (4, [some (.ref 1006), some (.int ((v1 <<< (5 &&& 31)) ||| (r17 - 96))), some (.int (v2 + 1))], [], M17)) rfl trivial ?_
    exact hk4 ((v1 <<< (5 &&& 31)) ||| (r17 - 96)) (v2 + 1) _ h
set_option maxRecDepth 100000 in
theorem t_X10_of_1006_4 (z : Value) (N : Nat) {r : Except Nat (Option Value)} {M' : am_M} : ∀ (n : Nat) (v1 : Int32) (v2 : Int32) (M : am_M), f_X10_of_1006_4 N n v1 v2 M = some (r, M') → mR z me_X10_of (4, [some (.ref 1006), some (.int v1), some (.int v2)], [], M) r M' := by
  intro n
  induction n with
  | zero => intro v1 v2 M h; cases h
  | succ n ih => intro v1 v2 M h; exact t_X10_of_1006_4B z N _ ih v1 v2 M h
def f_X10_of_1006 (N : Nat) (M : am_M) : Option (Except Nat (Option Value) × am_M) :=
  f_X10_of_1006_4 N N 0 0 M
set_option maxRecDepth 100000 in
theorem t_X10_of_1006 (z : Value) (N : Nat) (M : am_M) {r : Except Nat (Option Value)} {M' : am_M} (h : f_X10_of_1006 N M = some (r, M')) : mR z me_X10_of (0, [some (.ref 1006), none, none], [], M) r M' := by
  unfold f_X10_of_1006 at h
  refine am_R.go 4 (q' := (4, [some (.ref 1006), some (.int 0), some (.int 0)], [], M)) rfl trivial ?_
  exact t_X10_of_1006_4 z N N 0 0 _ h
def f_mJ0_coder_1007 (N : Nat) (M : am_M) : Option (Except Nat (Option Value) × am_M) :=
  if (0 : Int32).toInt8.toInt32 = 0 then some (.ok (some (.int 0)), M) else none
set_option maxRecDepth 100000 in
theorem t_mJ0_coder_1007 (z : Value) (N : Nat) (M : am_M) {r : Except Nat (Option Value)} {M' : am_M} (h : f_mJ0_coder_1007 N M = some (r, M')) : mR z me_J0_coder_7d493 (0, [some (.ref 1007)], [], M) r M' := by
  unfold f_mJ0_coder_1007 at h
  refine am_R.go 1 (q' := (3, [some (.ref 1007)], [.int 1], M)) rfl trivial ?_
  refine am_R.cn rfl rfl (by unfold am_c; decide) ?_
  refine am_R.go 3 (q' := (14, [some (.ref 1007)], [.int 0], M)) rfl ⟨(by decide), trivial⟩ ?_
  obtain ⟨hC, h⟩ := am_gd h
  cases h
  exact am_R.ret rfl rfl hC
def f_mJ0_length_1007 (N : Nat) (M : am_M) : Option (Except Nat (Option Value) × am_M) :=
  am_bi (f_mJ0_coder_1007 N M) fun r6 M6 =>
    some (.ok (some (.int (5 >>> (r6 &&& 31)))), M6)
set_option maxRecDepth 100000 in
theorem t_mJ0_length_1007 (z : Value) (N : Nat) (M : am_M) {r : Except Nat (Option Value)} {M' : am_M} (h : f_mJ0_length_1007 N M = some (r, M')) : mR z me_J0_length_8abf5 (0, [some (.ref 1007)], [], M) r M' := by
  unfold f_mJ0_length_1007 at h
  refine am_R.go 4 (q' := (6, [some (.ref 1007)], [.ref 1007, .int 5], M)) rfl ⟨(by decide), trivial⟩ ?_
  obtain ⟨r6, M6, hz, h⟩ := am_bi_s h
  refine am_R.call (e' := me_J0_coder_7d493) (as := [.ref 1007]) (rest := [.int 5]) rfl rfl (Nat.le_of_ble_eq_true rfl) (t_mJ0_coder_1007 z N _ hz) ?_
  refine am_R.go 1 (q' := (10, [some (.ref 1007)], [.int (5 >>> (r6 &&& 31))], M6)) rfl trivial ?_
  cases h
  exact am_R.ret rfl rfl trivial
def f_mJ0_isLatin1_1007 (N : Nat) (M : am_M) : Option (Except Nat (Option Value) × am_M) :=
  some (.ok (some (.int 1)), M)
set_option maxRecDepth 100000 in
theorem t_mJ0_isLatin1_1007 (z : Value) (N : Nat) (M : am_M) {r : Except Nat (Option Value)} {M' : am_M} (h : f_mJ0_isLatin1_1007 N M = some (r, M')) : mR z me_J0_isLatin1_aae02 (0, [some (.ref 1007)], [], M) r M' := by
  unfold f_mJ0_isLatin1_1007 at h
  refine am_R.go 1 (q' := (3, [some (.ref 1007)], [.int 1], M)) rfl trivial ?_
  refine am_R.cn rfl rfl (by unfold am_c; decide) ?_
  refine am_R.go 2 (q' := (10, [some (.ref 1007)], [.int 0], M)) rfl ⟨(by decide), trivial⟩ ?_
  refine am_R.cn rfl rfl (by unfold am_c; decide) ?_
  refine am_R.go 2 (q' := (18, [some (.ref 1007)], [.int 1], M)) rfl trivial ?_
  cases h
  exact am_R.ret rfl rfl (Or.inr rfl)
def f_mJ1_charAt_2007 (N : Nat) (p1 : Int32) (M : am_M) : Option (Except Nat (Option Value) × am_M) :=
  am_bv (f_mJ0_checkIndex N p1 5 M) fun M3 =>
    if am_in p1 5 then
      if ((((((am_byt.getD 7 []).getD p1.toNatClampNeg 0) &&& 255).toUInt32 % 65536).toInt32).toUInt32 % 65536).toInt32 = ((((am_byt.getD 7 []).getD p1.toNatClampNeg 0) &&& 255).toUInt32 % 65536).toInt32 then some (.ok (some (.int (((((am_byt.getD 7 []).getD p1.toNatClampNeg 0) &&& 255).toUInt32 % 65536).toInt32))), M3) else none
    else none
set_option maxRecDepth 100000 in
theorem t_mJ1_charAt_2007 (z : Value) (N : Nat) (p1 : Int32) (M : am_M) {r : Except Nat (Option Value)} {M' : am_M} (h : f_mJ1_charAt_2007 N p1 M = some (r, M')) : mR z me_J1_charAt_3b067 (0, [some (.ref 2007), some (.int p1)], [], M) r M' := by
  unfold f_mJ1_charAt_2007 at h
  refine am_R.go 3 (q' := (3, [some (.ref 2007), some (.int p1)], [.int 5, .int p1], M)) rfl trivial ?_
  obtain ⟨M3, hz, h⟩ := am_bv_s h
  refine am_R.call (e' := me_J0_checkIndex_df160) (as := [.int p1, .int 5]) (rest := []) rfl rfl (Nat.le_of_ble_eq_true rfl) (t_mJ0_checkIndex z N p1 5 _ hz) ?_
  obtain ⟨hC, h⟩ := am_gd h
  refine am_R.go 6 (q' := (14, [some (.ref 2007), some (.int p1)], [.int (((((am_byt.getD 7 []).getD p1.toNatClampNeg 0) &&& 255).toUInt32 % 65536).toInt32)], M3)) rfl ⟨hC, trivial⟩ ?_
  obtain ⟨hC, h⟩ := am_gd h
  cases h
  exact am_R.ret rfl rfl hC
def f_mJ0_charAt_1007 (N : Nat) (p1 : Int32) (M : am_M) : Option (Except Nat (Option Value) × am_M) :=
  am_bi (f_mJ0_isLatin1_1007 N M) fun r1 M1 =>
    if r1 = 0 then
      none
    else
      am_bi (f_mJ1_charAt_2007 N p1 M1) fun r12 M12 =>
        if (r12.toUInt32 % 65536).toInt32 = r12 then some (.ok (some (.int r12)), M12) else none
set_option maxRecDepth 100000 in
theorem t_mJ0_charAt_1007 (z : Value) (N : Nat) (p1 : Int32) (M : am_M) {r : Except Nat (Option Value)} {M' : am_M} (h : f_mJ0_charAt_1007 N p1 M = some (r, M')) : mR z me_J0_charAt_5068e (0, [some (.ref 1007), some (.int p1)], [], M) r M' := by
  unfold f_mJ0_charAt_1007 at h
  refine am_R.go 1 (q' := (1, [some (.ref 1007), some (.int p1)], [.ref 1007], M)) rfl trivial ?_
  obtain ⟨r1, M1, hz, h⟩ := am_bi_s h
  refine am_R.call (e' := me_J0_isLatin1_aae02) (as := [.ref 1007]) (rest := []) rfl rfl (Nat.le_of_ble_eq_true rfl) (t_mJ0_isLatin1_1007 z N _ hz) ?_
  rcases am_it h with ⟨hc, h⟩ | ⟨hc, h⟩
  · refine am_R.ct rfl rfl hc ?_
    cases h
  · refine am_R.cn rfl rfl hc ?_
    refine am_R.go 3 (q' := (12, [some (.ref 1007), some (.int p1)], [.int p1, .ref 2007], M1)) rfl ⟨(by decide), trivial⟩ ?_
    obtain ⟨r12, M12, hz, h⟩ := am_bi_s h
    refine am_R.call (e' := me_J1_charAt_3b067) (as := [.ref 2007, .int p1]) (rest := []) rfl rfl (Nat.le_of_ble_eq_true rfl) (t_mJ1_charAt_2007 z N p1 _ hz) ?_
    obtain ⟨hC, h⟩ := am_gd h
    cases h
    exact am_R.ret rfl rfl hC
def f_X10_of_1007_4B (N : Nat) (k4 : Int32 → Int32 → am_M → Option (Except Nat (Option Value) × am_M)) (v1 : Int32) (v2 : Int32) (M : am_M) : Option (Except Nat (Option Value) × am_M) :=
  am_bi (f_mJ0_length_1007 N M) fun r6 M6 =>
    if r6 ≤ v2 then
      some (.ok (some (.int v1)), M6)
    else
      am_bi (f_mJ0_charAt_1007 N v2 M6) fun r17 M17 =>
        k4 ((v1 <<< (5 &&& 31)) ||| (r17 - 96)) (v2 + 1) M17
def f_X10_of_1007_4 (N : Nat) : Nat → Int32 → Int32 → am_M → Option (Except Nat (Option Value) × am_M)
  | 0 => fun _ _ _ => none
  | n + 1 => f_X10_of_1007_4B N (f_X10_of_1007_4 N n)
set_option maxRecDepth 100000 in
theorem t_X10_of_1007_4B (z : Value) (N : Nat) {r : Except Nat (Option Value)} {M' : am_M} (k4 : Int32 → Int32 → am_M → Option (Except Nat (Option Value) × am_M)) (hk4 : ∀ (v1 : Int32) (v2 : Int32) (M : am_M), k4 v1 v2 M = some (r, M') → mR z me_X10_of (4, [some (.ref 1007), some (.int v1), some (.int v2)], [], M) r M') (v1 : Int32) (v2 : Int32) (M : am_M) (h : f_X10_of_1007_4B N k4 v1 v2 M = some (r, M')) : mR z me_X10_of (4, [some (.ref 1007), some (.int v1), some (.int v2)], [], M) r M' := by
  unfold f_X10_of_1007_4B at h
  refine am_R.go 2 (q' := (6, [some (.ref 1007), some (.int v1), some (.int v2)], [.ref 1007, .int v2], M)) rfl trivial ?_
  obtain ⟨r6, M6, hz, h⟩ := am_bi_s h
  refine am_R.call (e' := me_J0_length_8abf5) (as := [.ref 1007]) (rest := [.int v2]) rfl rfl (Nat.le_of_ble_eq_true rfl) (t_mJ0_length_1007 z N _ hz) ?_
  rcases am_it h with ⟨hc, h⟩ | ⟨hc, h⟩
  · refine am_R.bt rfl rfl hc ?_
    refine am_R.go 1 (q' := (32, [some (.ref 1007), some (.int v1), some (.int v2)], [.int v1], M6)) rfl trivial ?_
    cases h
    exact am_R.ret rfl rfl trivial
  · refine am_R.bn rfl rfl hc ?_
    refine am_R.go 5 (q' := (17, [some (.ref 1007), some (.int v1), some (.int v2)], [.int v2, .ref 1007, .int (v1 <<< (5 &&& 31))], M6)) rfl trivial ?_
    obtain ⟨r17, M17, hz, h⟩ := am_bi_s h
    refine am_R.call (e' := me_J0_charAt_5068e) (as := [.ref 1007, .int v2]) (rest := [.int (v1 <<< (5 &&& 31))]) rfl rfl (Nat.le_of_ble_eq_true rfl) (t_mJ0_charAt_1007 z N v2 _ hz) ?_
    refine am_R.go 6 (q' := (4, [some (.ref 1007), some (.int ((v1 <<< (5 &&& 31)) ||| (r17 - 96))), some (.int (v2 + 1))], [], M17)) rfl trivial ?_
    exact hk4 ((v1 <<< (5 &&& 31)) ||| (r17 - 96)) (v2 + 1) _ h
set_option maxRecDepth 100000 in
theorem t_X10_of_1007_4 (z : Value) (N : Nat) {r : Except Nat (Option Value)} {M' : am_M} : ∀ (n : Nat) (v1 : Int32) (v2 : Int32) (M : am_M), f_X10_of_1007_4 N n v1 v2 M = some (r, M') → mR z me_X10_of (4, [some (.ref 1007), some (.int v1), some (.int v2)], [], M) r M' := by
  intro n
  induction n with
  | zero => intro v1 v2 M h; cases h
  | succ n ih => intro v1 v2 M h; exact t_X10_of_1007_4B z N _ ih v1 v2 M h
def f_X10_of_1007 (N : Nat) (M : am_M) : Option (Except Nat (Option Value) × am_M) :=
  f_X10_of_1007_4 N N 0 0 M
set_option maxRecDepth 100000 in
theorem t_X10_of_1007 (z : Value) (N : Nat) (M : am_M) {r : Except Nat (Option Value)} {M' : am_M} (h : f_X10_of_1007 N M = some (r, M')) : mR z me_X10_of (0, [some (.ref 1007), none, none], [], M) r M' := by
  unfold f_X10_of_1007 at h
  refine am_R.go 4 (q' := (4, [some (.ref 1007), some (.int 0), some (.int 0)], [], M)) rfl trivial ?_
  exact t_X10_of_1007_4 z N N 0 0 _ h
def f_mJ0_coder_1008 (N : Nat) (M : am_M) : Option (Except Nat (Option Value) × am_M) :=
  if (0 : Int32).toInt8.toInt32 = 0 then some (.ok (some (.int 0)), M) else none
set_option maxRecDepth 100000 in
theorem t_mJ0_coder_1008 (z : Value) (N : Nat) (M : am_M) {r : Except Nat (Option Value)} {M' : am_M} (h : f_mJ0_coder_1008 N M = some (r, M')) : mR z me_J0_coder_7d493 (0, [some (.ref 1008)], [], M) r M' := by
  unfold f_mJ0_coder_1008 at h
  refine am_R.go 1 (q' := (3, [some (.ref 1008)], [.int 1], M)) rfl trivial ?_
  refine am_R.cn rfl rfl (by unfold am_c; decide) ?_
  refine am_R.go 3 (q' := (14, [some (.ref 1008)], [.int 0], M)) rfl ⟨(by decide), trivial⟩ ?_
  obtain ⟨hC, h⟩ := am_gd h
  cases h
  exact am_R.ret rfl rfl hC
