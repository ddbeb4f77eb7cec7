def f_mJ0_length_1008 (N : Nat) (M : am_M) : Option (Except Nat (Option Value) × am_M) :=
  am_bi (f_mJ0_coder_1008 N M) fun r6 M6 =>
    some (.ok (some (.int (4 >>> (r6 &&& 31)))), M6)
set_option maxRecDepth 100000 in
theorem t_mJ0_length_1008 (z : Value) (N : Nat) (M : am_M) {r : Except Nat (Option Value)} {M' : am_M} (h : f_mJ0_length_1008 N M = some (r, M')) : mR z me_J0_length_8abf5 (0, [some (.ref 1008)], [], M) r M' := by
  unfold f_mJ0_length_1008 at h
  refine am_R.go 4 (q' := (6, [some (.ref 1008)], [.ref 1008, .int 4], M)) rfl ⟨(by decide), trivial⟩ ?_
  obtain ⟨r6, M6, hz, h⟩ := am_bi_s h
  refine am_R.call (e' := me_J0_coder_7d493) (as := [.ref 1008]) (rest := [.int 4]) rfl rfl (Nat.le_of_ble_eq_true rfl) (t_mJ0_coder_1008 z N _ hz) ?_
  refine am_R.go 1 (q' := (10, [some (.ref 1008)], [.int (4 >>> (r6 &&& 31))], M6)) rfl trivial ?_
  cases h
  exact am_R.ret rfl rfl trivial
def f_mJ0_isLatin1_1008 (N : Nat) (M : am_M) : Option (Except Nat (Option Value) × am_M) :=
  some (.ok (some (.int 1)), M)
set_option maxRecDepth 100000 in
theorem t_mJ0_isLatin1_1008 (z : Value) (N : Nat) (M : am_M) {r : Except Nat (Option Value)} {M' : am_M} (h : f_mJ0_isLatin1_1008 N M = some (r, M')) : mR z me_J0_isLatin1_aae02 (0, [some (.ref 1008)], [], M) r M' := by
  unfold f_mJ0_isLatin1_1008 at h
  refine am_R.go 1 (q' := (3, [some (.ref 1008)], [.int 1], M)) rfl trivial ?_
  refine am_R.cn rfl rfl (by unfold am_c; decide) ?_
  refine am_R.go 2 (q' := (10, [some (.ref 1008)], [.int 0], M)) rfl ⟨(by decide), trivial⟩ ?_
  refine am_R.cn rfl rfl (by unfold am_c; decide) ?_
  refine am_R.go 2 (q' := (18, [some (.ref 1008)], [.int 1], M)) rfl trivial ?_
  cases h
  exact am_R.ret rfl rfl (Or.inr rfl)
def f_mJ1_charAt_2008 (N : Nat) (p1 : Int32) (M : am_M) : Option (Except Nat (Option Value) × am_M) :=
  am_bv (f_mJ0_checkIndex N p1 4 M) fun M3 =>
    if am_in p1 4 then
      if ((((((am_byt.getD 8 []).getD p1.toNatClampNeg 0) &&& 255).toUInt32 % 65536).toInt32).toUInt32 % 65536).toInt32 = ((((am_byt.getD 8 []).getD p1.toNatClampNeg 0) &&& 255).toUInt32 % 65536).toInt32 then some (.ok (some (.int (((((am_byt.getD 8 []).getD p1.toNatClampNeg 0) &&& 255).toUInt32 % 65536).toInt32))), M3) else none
    else none
set_option maxRecDepth 100000 in
theorem t_mJ1_charAt_2008 (z : Value) (N : Nat) (p1 : Int32) (M : am_M) {r : Except Nat (Option Value)} {M' : am_M} (h : f_mJ1_charAt_2008 N p1 M = some (r, M')) : mR z me_J1_charAt_3b067 (0, [some (.ref 2008), some (.int p1)], [], M) r M' := by
  unfold f_mJ1_charAt_2008 at h
  refine am_R.go 3 (q' := (3, [some (.ref 2008), some (.int p1)], [.int 4, .int p1], M)) rfl trivial ?_
  obtain ⟨M3, hz, h⟩ := am_bv_s h
  refine am_R.call (e' := me_J0_checkIndex_df160) (as := [.int p1, .int 4]) (rest := []) rfl rfl (Nat.le_of_ble_eq_true rfl) (t_mJ0_checkIndex z N p1 4 _ hz) ?_
  obtain ⟨hC, h⟩ := am_gd h
  refine am_R.go 6 (q' := (14, [some (.ref 2008), some (.int p1)], [.int (((((am_byt.getD 8 []).getD p1.toNatClampNeg 0) &&& 255).toUInt32 % 65536).toInt32)], M3)) rfl ⟨hC, trivial⟩ ?_
  obtain ⟨hC, h⟩ := am_gd h
  cases h
  exact am_R.ret rfl rfl hC
def f_mJ0_charAt_1008 (N : Nat) (p1 : Int32) (M : am_M) : Option (Except Nat (Option Value) × am_M) :=
  am_bi (f_mJ0_isLatin1_1008 N M) fun r1 M1 =>
    if r1 = 0 then
      none
    else
      am_bi (f_mJ1_charAt_2008 N p1 M1) fun r12 M12 =>
        if (r12.toUInt32 % 65536).toInt32 = r12 then some (.ok (some (.int r12)), M12) else none
set_option maxRecDepth 100000 in
theorem t_mJ0_charAt_1008 (z : Value) (N : Nat) (p1 : Int32) (M : am_M) {r : Except Nat (Option Value)} {M' : am_M} (h : f_mJ0_charAt_1008 N p1 M = some (r, M')) : mR z me_J0_charAt_5068e (0, [some (.ref 1008), some (.int p1)], [], M) r M' := by
  unfold f_mJ0_charAt_1008 at h
  refine am_R.go 1 (q' := (1, [some (.ref 1008), some (.int p1)], [.ref 1008], M)) rfl trivial ?_
  obtain ⟨r1, M1, hz, h⟩ := am_bi_s h
  refine am_R.call (e' := me_J0_isLatin1_aae02) (as := [.ref 1008]) (rest := []) rfl rfl (Nat.le_of_ble_eq_true rfl) (t_mJ0_isLatin1_1008 z N _ hz) ?_
  rcases am_it h with ⟨hc, h⟩ | ⟨hc, h⟩
  · refine am_R.ct rfl rfl hc ?_
    cases h
  · refine am_R.cn rfl rfl hc ?_
    refine am_R.go 3 (q' := (12, [some (.ref 1008), some (.int p1)], [.int p1, .ref 2008], M1)) rfl ⟨(by decide), trivial⟩ ?_
    obtain ⟨r12, M12, hz, h⟩ := am_bi_s h
    refine am_R.call (e' := me_J1_charAt_3b067) (as := [.ref 2008, .int p1]) (rest := []) rfl rfl (Nat.le_of_ble_eq_true rfl) (t_mJ1_charAt_2008 z N p1 _ hz) ?_
    obtain ⟨hC, h⟩ := am_gd h
    cases h
    exact am_R.ret rfl rfl hC
def f_X10_of_1008_4B (N : Nat) (k4 : Int32 → Int32 → am_M → Option (Except Nat (Option Value) × am_M)) (v1 : Int32) (v2 : Int32) (M : am_M) : Option (Except Nat (Option Value) × am_M) :=
  am_bi (f_mJ0_length_1008 N M) fun r6 M6 =>
    if r6 ≤ v2 then
      some (.ok (some (.int v1)), M6)
    else
      am_bi (f_mJ0_charAt_1008 N v2 M6) fun r17 M17 =>
        k4 ((v1 <<< (5 &&& 31)) ||| (r17 - 96)) (v2 + 1) M17
def f_X10_of_1008_4 (N : Nat) : Nat → Int32 → Int32 → am_M → Option (Except Nat (Option Value) × am_M)
  | 0 => fun _ _ _ => none
  | n + 1 => f_X10_of_1008_4B N (f_X10_of_1008_4 N n)
set_option maxRecDepth 100000 in
theorem t_X10_of_1008_4B (z : Value) (N : Nat) {r : Except Nat (Option Value)} {M' : am_M} (k4 : Int32 → Int32 → am_M → Option (Except Nat (Option Value) × am_M)) (hk4 : ∀ (v1 : Int32) (v2 : Int32) (M : am_M), k4 v1 v2 M = some (r, M') → mR z me_X10_of (4, [some (.ref 1008), some (.int v1), some (.int v2)], [], M) r M') (v1 : Int32) (v2 : Int32) (M : am_M) (h : f_X10_of_1008_4B N k4 v1 v2 M = some (r, M')) : mR z me_X10_of (4, [some (.ref 1008), some (.int v1), some (.int v2)], [], M) r M' := by
  unfold f_X10_of_1008_4B at h
  refine am_R.go 2 (q' := (6, [some (.ref 1008), some (.int v1), some (.int v2)], [.ref 1008, .int v2], M)) rfl trivial ?_
  obtain ⟨r6, M6, hz, h⟩ := am_bi_s h
  refine am_R.call (e' := me_J0_length_8abf5) (as := [.ref 1008]) (rest := [.int v2]) rfl rfl (Nat.le_of_ble_eq_true rfl) (t_mJ0_length_1008 z N _ hz) ?_
  rcases am_it h with ⟨hc, h⟩ | ⟨hc, h⟩
  · refine am_R.bt rfl rfl hc ?_
    refine am_R.go 1 (q' := (32, [some (.ref 1008), some (.int v1), some (.int v2)], [.int v1], M6)) rfl trivial ?_
    cases h
    exact am_R.ret rfl rfl trivial
  · refine am_R.bn rfl rfl hc ?_
    refine am_R.go 5 (q' := (17, [some (.ref 1008), some (.int v1), some (.int v2)], [.int v2, .ref 1008, .int (v1 <<< (5 &&& 31))], M6)) rfl trivial ?_
    obtain ⟨r17, M17, hz, h⟩ := am_bi_s h
    refine am_R.call (e' := me_J0_charAt_5068e) (as := [.ref 1008, .int v2]) (rest := [.int (v1 <<< (5 &&& 31))]) rfl rfl (Nat.le_of_ble_eq_true rfl) (t_mJ0_charAt_1008 z N v2 _ hz) ?_
    refine am_R.go 6 (q' := (4, [some (.ref 1008), some (.int ((v1 <<< (5 &&& 31)) ||| (r17 - 96))), some (.int (v2 + 1))], [], M17)) rfl trivial ?_
    exact hk4 ((v1 <<< (5 &&& 31)) ||| (r17 - 96)) (v2 + 1) _ h
set_option maxRecDepth 100000 in
theorem t_X10_of_1008_4 (z : Value) (N : Nat) {r : Except Nat (Option Value)} {M' : am_M} : ∀ (n : Nat) (v1 : Int32) (v2 : Int32) (M : am_M), f_X10_of_1008_4 N n v1 v2 M = some (r, M') → mR z me_X10_of (4, [some (.ref 1008), some (.int v1), some (.int v2)], [], M) r M' := by
  intro n
  induction n with
  | zero => intro v1 v2 M h; cases h
  | succ n ih => intro v1 v2 M h; exact t_X10_of_1008_4B z N _ ih v1 v2 M h
def f_X10_of_1008 (N : Nat) (M : am_M) : Option (Except Nat (Option Value) × am_M) :=
  f_X10_of_1008_4 N N 0 0 M
set_option maxRecDepth 100000 in
theorem t_X10_of_1008 (z : Value) (N : Nat) (M : am_M) {r : Except Nat (Option Value)} {M' : am_M} (h : f_X10_of_1008 N M = some (r, M')) : mR z me_X10_of (0, [some (.ref 1008), none, none], [], M) r M' := by
  unfold f_X10_of_1008 at h
  refine am_R.go 4 (q' := (4, [some (.ref 1008), some (.int 0), some (.int 0)], [], M)) rfl trivial ?_
  exact t_X10_of_1008_4 z N N 0 0 _ h
def f_mJ0_coder_1009 (N : Nat) (M : am_M) : Option (Except Nat (Option Value) × am_M) :=
  if (0 : Int32).toInt8.toInt32 = 0 then some (.ok (some (.int 0)), M) else none
set_option maxRecDepth 100000 in
theorem t_mJ0_coder_1009 (z : Value) (N : Nat) (M : am_M) {r : Except Nat (Option Value)} {M' : am_M} (h : f_mJ0_coder_1009 N M = some (r, M')) : mR z me_J0_coder_7d493 (0, [some (.ref 1009)], [], M) r M' := by
  unfold f_mJ0_coder_1009 at h
  refine am_R.go 1 (q' := (3, [some (.ref 1009)], [.int 1], M)) rfl trivial ?_
  refine am_R.cn rfl rfl (by unfold am_c; decide) ?_
  refine am_R.go 3 (q' := (14, [some (.ref 1009)], [.int 0], M)) rfl ⟨(by decide), trivial⟩ ?_
  obtain ⟨hC, h⟩ := am_gd h
  cases h
  exact am_R.ret rfl rfl hC
def f_mJ0_length_1009 (N : Nat) (M : am_M) : Option (Except Nat (Option Value) × am_M) :=
  am_bi (f_mJ0_coder_1009 N M) fun r6 M6 =>
    some (.ok (some (.int (3 >>> (r6 &&& 31)))), M6)
set_option maxRecDepth 100000 in
theorem t_mJ0_length_1009 (z : Value) (N : Nat) (M : am_M) {r : Except Nat (Option Value)} {M' : am_M} (h : f_mJ0_length_1009 N M = some (r, M')) : mR z me_J0_length_8abf5 (0, [some (.ref 1009)], [], M) r M' := by
  unfold f_mJ0_length_1009 at h
  refine am_R.go 4 (q' := (6, [some (.ref 1009)], [.ref 1009, .int 3], M)) rfl ⟨(by decide), trivial⟩ ?_
  obtain ⟨r6, M6, hz, h⟩ := am_bi_s h
  refine am_R.call (e' := me_J0_coder_7d493) (as := [.ref 1009]) (rest := [.int 3]) rfl rfl (Nat.le_of_ble_eq_true rfl) (t_mJ0_coder_1009 z N _ hz) ?_
  refine am_R.go 1 (q' := (10, [some (.ref 1009)], [.int (3 >>> (r6 &&& 31))], M6)) rfl trivial ?_
  cases h
  exact am_R.ret rfl rfl trivial
def f_mJ0_isLatin1_1009 (N : Nat) (M : am_M) : Option (Except Nat (Option Value) × am_M) :=
  some (.ok (some (.int 1)), M)
set_option maxRecDepth 100000 in
theorem t_mJ0_isLatin1_1009 (z : Value) (N : Nat) (M : am_M) {r : Except Nat (Option Value)} {M' : am_M} (h : f_mJ0_isLatin1_1009 N M = some (r, M')) : mR z me_J0_isLatin1_aae02 (0, [some (.ref 1009)], [], M) r M' := by
  unfold f_mJ0_isLatin1_1009 at h
  refine am_R.go 1 (q' := (3, [some (.ref 1009)], [.int 1], M)) rfl trivial ?_
  refine am_R.cn rfl rfl (by unfold am_c; decide) ?_
  refine am_R.go 2 (q' := (10, [some (.ref 1009)], [.int 0], M)) rfl ⟨(by decide), trivial⟩ ?_
  refine am_R.cn rfl rfl (by unfold am_c; decide) ?_
  refine am_R.go 2 (q' := (18, [some (.ref 1009)], [.int 1], M)) rfl trivial ?_
  cases h
  exact am_R.ret rfl rfl (Or.inr rfl)
def f_mJ1_charAt_2009 (N : Nat) (p1 : Int32) (M : am_M) : Option (Except Nat (Option Value) × am_M) :=
  am_bv (f_mJ0_checkIndex N p1 3 M) fun M3 =>
    if am_in p1 3 then
      if ((((((am_byt.getD 9 []).getD p1.toNatClampNeg 0) &&& 255).toUInt32 % 65536).toInt32).toUInt32 % 65536).toInt32 = ((((am_byt.getD 9 []).getD p1.toNatClampNeg 0) &&& 255).toUInt32 % 65536).toInt32 then some (.ok (some (.int (((((am_byt.getD 9 []).getD p1.toNatClampNeg 0) &&& 255).toUInt32 % 65536).toInt32))), M3) else none
    else none
set_option maxRecDepth 100000 in
theorem t_mJ1_charAt_2009 (z : Value) (N : Nat) (p1 : Int32) (M : am_M) {r : Except Nat (Option Value)} {M' : am_M} (h : f_mJ1_charAt_2009 N p1 M = some (r, M')) : mR z me_J1_charAt_3b067 (0, [some (.ref 2009), some (.int p1)], [], M) r M' := by
  unfold f_mJ1_charAt_2009 at h
  refine am_R.go 3 (q' := (3, [some (.ref 2009), some (.int p1)], [.int 3, .int p1], M)) rfl trivial ?_
  obtain ⟨M3, hz, h⟩ := am_bv_s h
  refine am_R.call (e' := me_J0_checkIndex_df160) (as := [.int p1, .int 3]) (rest := []) rfl rfl (Nat.le_of_ble_eq_true rfl) (t_mJ0_checkIndex z N p1 3 _ hz) ?_
  obtain ⟨hC, h⟩ := am_gd h
  refine am_R.go 6 (q' := (14, [some (.ref 2009), some (.int p1)], [.int (((((am_byt.getD 9 []).getD p1.toNatClampNeg 0) &&& 255).toUInt32 % 65536).toInt32)], M3)) rfl ⟨hC, trivial⟩ ?_
  obtain ⟨hC, h⟩ := am_gd h
  cases h
  exact am_R.ret rfl rfl hC
def f_mJ0_charAt_1009 (N : Nat) (p1 : Int32) (M : am_M) : Option (Except Nat (Option Value) × am_M) :=
  am_bi (f_mJ0_isLatin1_1009 N M) fun r1 M1 =>
    if r1 = 0 then
      none
    else
      am_bi (f_mJ1_charAt_2009 N p1 M1) fun r12 M12 =>
        if (r12.toUInt32 % 65536).toInt32 = r12 then some (.ok (some (.int r12)), M12) else none
set_option maxRecDepth 100000 in
theorem t_mJ0_charAt_1009 (z : Value) (N : Nat) (p1 : Int32) (M : am_M) {r : Except Nat (Option Value)} {M' : am_M} (h : f_mJ0_charAt_1009 N p1 M = some (r, M')) : mR z me_J0_charAt_5068e (0, [some (.ref 1009), some (.int p1)], [], M) r M' := by
  unfold f_mJ0_charAt_1009 at h
  refine am_R.go 1 (q' := (1, [some (.ref 1009), some (.int p1)], [.ref 1009], M)) rfl trivial ?_
  obtain ⟨r1, M1, hz, h⟩ := am_bi_s h
  refine am_R.call (e' := me_J0_isLatin1_aae02) (as := [.ref 1009]) (rest := []) rfl rfl (Nat.le_of_ble_eq_true rfl) (t_mJ0_isLatin1_1009 z N _ hz) ?_
  rcases am_it h with ⟨hc, h⟩ | ⟨hc, h⟩
  · refine am_R.ct rfl rfl hc ?_
    cases h
  · refine am_R.cn rfl rfl hc ?_
    refine am_R.go 3 (q' := (12, [some (.ref 1009), some (.int p1)], [.int p1, .ref 2009], M1)) rfl ⟨(by decide), trivial⟩ ?_
    obtain ⟨r12, M12, hz, h⟩ := am_bi_s h
    refine am_R.call (e' := me_J1_charAt_3b067) (as := [.ref 2009, .int p1]) (rest := []) rfl rfl (Nat.le_of_ble_eq_true rfl) (t_mJ1_charAt_2009 z N p1 _ hz) ?_
    obtain ⟨hC, h⟩ := am_gd h
    cases h
    exact am_R.ret rfl rfl hC
def f_X10_of_1009_4B (N : Nat) (k4 : Int32 → Int32 → am_M → Option (Except Nat (Option Value) × am_M)) (v1 : Int32) (v2 : Int32) (M : am_M) : Option (Except Nat (Option Value) × am_M) :=
  am_bi (f_mJ0_length_1009 N M) fun r6 M6 =>
    if r6 ≤ v2 then
      some (.ok (some (.int v1)), M6)
    else
      am_bi (f_mJ0_charAt_1009 N v2 M6) fun r17 M17 =>
        k4 ((v1 <<< (5 &&& 31)) ||| (r17 - 96)) (v2 + 1) M17
def f_X10_of_1009_4 (N : Nat) : Nat → Int32 → Int32 → am_M → Option (Except Nat (Option Value) × am_M)
  | 0 => fun _ _ _ => none
  | n + 1 => f_X10_of_1009_4B N (f_X10_of_1009_4 N n)
set_option maxRecDepth 100000 in
theorem t_X10_of_1009_4B (z : Value) (N : Nat) {r : Except Nat (Option Value)} {M' : am_M} (k4 : Int32 → Int32 → am_M → Option (Except Nat (Option Value) × am_M)) (hk4 : ∀ (v1 : Int32) (v2 : Int32) (M : am_M), k4 v1 v2 M = some (r, M') → mR z me_X10_of (4, [some (.ref 1009), some (.int v1), some (.int v2)], [], M) r M') (v1 : Int32) (v2 : Int32) (M : am_M) (h : f_X10_of_1009_4B N k4 v1 v2 M = some (r, M')) : mR z me_X10_of (4, [some (.ref 1009), some (.int v1), some (.int v2)], [], M) r M' := by
  unfold f_X10_of_1009_4B at h
  refine am_R.go 2 (q' := (6, [some (.ref 1009), some (.int v1), some (.int v2)], [.ref 1009, .int v2], M)) rfl trivial ?_
  obtain ⟨r6, M6, hz, h⟩ := am_bi_s h
  refine am_R.call (e' := me_J0_length_8abf5) (as := [.ref 1009]) (rest := [.int v2]) rfl rfl (Nat.le_of_ble_eq_true rfl) (t_mJ0_length_1009 z N _ hz) ?_
  rcases am_it h with ⟨hc, h⟩ | ⟨hc, h⟩
  · refine am_R.bt rfl rfl hc ?_
    refine am_R.go 1 (q' := (32, [some (.ref 1009), some (.int v1), some (.int v2)], [.int v1], M6)) rfl trivial ?_
    cases h
    exact am_R.ret rfl rfl trivial
  · refine am_R.bn rfl rfl hc ?_
    refine am_R.go 5 (q' := (17, [some (.ref 1009), some (.int v1), some (.int v2)], [.int v2, .ref 1009, .int (v1 <<< (5 &&& 31))], M6)) rfl trivial ?_
    obtain ⟨r17, M17, hz, h⟩ := am_bi_s h
    refine am_R.call (e' := me_J0_charAt_5068e) (as := [.ref 1009, .int v2]) (rest := [.int (v1 <<< (5 &&& 31))]) rfl rfl (Nat.le_of_ble_eq_true rfl) (t_mJ0_charAt_1009 z N v2 _ hz) ?_
    refine am_R.go 6 (q' := (4, [some (.ref 1009), some (.int ((v1 <<< (5 &&& 31)) ||| (r17 - 96))), some (.int (v2 + 1))], [], M17)) rfl trivial ?_
    exact hk4 ((v1 <<< (5 &&& 31)) ||| (r17 - 96)) (v2 + 1) _ h
set_option maxRecDepth 100000 in
theorem t_X10_of_1009_4 (z : Value) (N : Nat) {r : Except Nat (Option Value)} {M' : am_M} : ∀ (n : Nat) (v1 : Int32) (v2 : Int32) (M : am_M), f_X10_of_1009_4 N n v1 v2 M = some (r, M') → mR z me_X10_of (4, [some (.ref 1009), some (.int v1), some (.int v2)], [], M) r M' := by
  intro n
  induction n with
  | zero => intro v1 v2 M h; cases h
  | succ n ih => intro v1 v2 M h; exact t_X10_of_1009_4B z N _ ih v1 v2 M h
def f_X10_of_1009 (N : Nat) (M : am_M) : Option (Except Nat (Option Value) × am_M) :=
  f_X10_of_1009_4 N N 0 0 M
set_option maxRecDepth 100000 in
theorem t_X10_of_1009 (z : Value) (N : Nat) (M : am_M) {r : Except Nat (Option Value)} {M' : am_M} (h : f_X10_of_1009 N M = some (r, M')) : mR z me_X10_of (0, [some (.ref 1009), none, none], [], M) r M' := by
  unfold f_X10_of_1009 at h
  refine am_R.go 4 (q' := (4, [some (.ref 1009), some (.int 0), some (.int 0)], [], M)) rfl trivial ?_
  exact t_X10_of_1009_4 z N N 0 0 _ h
def f_X10_isOther (N : Nat) (p0 : Int32) (M : am_M) : Option (Except Nat (Option Value) × am_M) :=
  am_bi (f_X10_of_1001 N M) fun r3 M3 =>
    if p0 = r3 then
      some (.ok (some (.int 1)), M3)
    else
      am_bi (f_X10_of_1002 N M3) fun r12 M12 =>
        if p0 = r12 then
          some (.ok (some (.int 1)), M12)
        else
          am_bi (f_X10_of_1003 N M12) fun r21 M21 =>
            if p0 = r21 then
              some (.ok (some (.int 1)), M21)
            else
              am_bi (f_X10_of_1004 N M21) fun r30 M30 =>
                if p0 = r30 then
                  some (.ok (some (.int 1)), M30)
                else
                  am_bi (f_X10_of_1005 N M30) fun r39 M39 =>
                    if p0 = r39 then
                      some (.ok (some (.int 1)), M39)
                    else
                      am_bi (f_X10_of_1006 N M39) fun r48 M48 =>
                        if p0 = r48 then
                          some (.ok (some (.int 1)), M48)
                        else
                          am_bi (f_X10_of_1007 N M48) fun r57 M57 =>
                            if p0 = r57 then
                              some (.ok (some (.int 1)), M57)
                            else
                              am_bi (f_X10_of_1008 N M57) fun r66 M66 =>
                                if p0 = r66 then
                                  some (.ok (some (.int 1)), M66)
                                else
                                  am_bi (f_X10_of_1009 N M66) fun r75 M75 =>
                                    if p0 = r75 then
                                      some (.ok (some (.int 1)), M75)
                                    else
                                      some (.ok (some (.int 0)), M75)
set_option maxRecDepth 100000 in
theorem t_X10_isOther (z : Value) (N : Nat) (p0 : Int32) (M : am_M) {r : Except Nat (Option Value)} {M' : am_M} (h : f_X10_isOther N p0 M = some (r, M')) : mR z me_X10_isOther (0, [some (.int p0)], [], M) r M' := by
  unfold f_X10_isOther at h
  refine am_R.go 2 (q' := (3, [some (.int p0)], [.ref 1001, .int p0], M)) rfl trivial ?_
  obtain ⟨r3, M3, hz, h⟩ := am_bi_s h
  refine am_R.call (e' := me_X10_of) (as := [.ref 1001]) (rest := [.int p0]) rfl rfl (Nat.le_of_ble_eq_true rfl) (t_X10_of_1001 z N _ hz) ?_
  rcases am_it h with ⟨hc, h⟩ | ⟨hc, h⟩
  · refine am_R.bt rfl rfl hc ?_
    refine am_R.go 2 (q' := (86, [some (.int p0)], [.int 1], M3)) rfl trivial ?_
    cases h
    exact am_R.ret rfl rfl (Or.inr rfl)
  · refine am_R.bn rfl rfl hc ?_
    refine am_R.go 2 (q' := (12, [some (.int p0)], [.ref 1002, .int p0], M3)) rfl trivial ?_
    obtain ⟨r12, M12, hz, h⟩ := am_bi_s h
    refine am_R.call (e' := me_X10_of) (as := [.ref 1002]) (rest := [.int p0]) rfl rfl (Nat.le_of_ble_eq_true rfl) (t_X10_of_1002 z N _ hz) ?_
    rcases am_it h with ⟨hc, h⟩ | ⟨hc, h⟩
    · refine am_R.bt rfl rfl hc ?_
      refine am_R.go 2 (q' := (86, [some (.int p0)], [.int 1], M12)) rfl trivial ?_
      cases h
      exact am_R.ret rfl rfl (Or.inr rfl)
    · refine am_R.bn rfl rfl hc ?_
      refine am_R.go 2 (q' := (21, [some (.int p0)], [.ref 1003, .int p0], M12)) rfl trivial ?_
      obtain ⟨r21, M21, hz, h⟩ := am_bi_s h
      refine am_R.call (e' := me_X10_of) (as := [.ref 1003]) (rest := [.int p0]) rfl rfl (Nat.le_of_ble_eq_true rfl) (t_X10_of_1003 z N _ hz) ?_
      rcases am_it h with ⟨hc, h⟩ | ⟨hc, h⟩
      · refine am_R.bt rfl rfl hc ?_
        refine am_R.go 2 (q' := (86, [some (.int p0)], [.int 1], M21)) rfl trivial ?_
        cases h
        exact am_R.ret rfl rfl (Or.inr rfl)
      · refine am_R.bn rfl rfl hc ?_
        refine am_R.go 2 (q' := (30, [some (.int p0)], [.ref 1004, .int p0], M21)) rfl trivial ?_
        obtain ⟨r30, M30, hz, h⟩ := am_bi_s h
        refine am_R.call (e' := me_X10_of) (as := [.ref 1004]) (rest := [.int p0]) rfl rfl (Nat.le_of_ble_eq_true rfl) (t_X10_of_1004 z N _ hz) ?_
        rcases am_it h with ⟨hc, h⟩ | ⟨hc, h⟩
        · refine am_R.bt rfl rfl hc ?_
          refine am_R.go 2 (q' := (86, [some (.int p0)], [.int 1], M30)) rfl trivial ?_
          cases h
          exact am_R.ret rfl rfl (Or.inr rfl)
        · refine am_R.bn rfl rfl hc ?_
          refine am_R.go 2 (q' := (39, [some (.int p0)], [.ref 1005, .int p0], M30)) rfl trivial ?_
          obtain ⟨r39, M39, hz, h⟩ := am_bi_s h
          refine am_R.call (e' := me_X10_of) (as := [.ref 1005]) (rest := [.int p0]) rfl rfl (Nat.le_of_ble_eq_true rfl) (t_X10_of_1005 z N _ hz) ?_
          rcases am_it h with ⟨hc, h⟩ | ⟨hc, h⟩
          · refine am_R.bt rfl rfl hc ?_
            refine am_R.go 2 (q' := (86, [some (.int p0)], [.int 1], M39)) rfl trivial ?_
            cases h
            exact am_R.ret rfl rfl (Or.inr rfl)
          · refine am_R.bn rfl rfl hc ?_
            refine am_R.go 2 (q' := (48, [some (.int p0)], [.ref 1006, .int p0], M39)) rfl trivial ?_
            obtain ⟨r48, M48, hz, h⟩ := am_bi_s h
            refine am_R.call (e' := me_X10_of) (as := [.ref 1006]) (rest := [.int p0]) rfl rfl (Nat.le_of_ble_eq_true rfl) (t_X10_of_1006 z N _ hz) ?_
            rcases am_it h with ⟨hc, h⟩ | ⟨hc, h⟩
            · refine am_R.bt rfl rfl hc ?_
              refine am_R.go 2 (q' := (86, [some (.int p0)], [.int 1], M48)) rfl trivial ?_
              cases h
              exact am_R.ret rfl rfl (Or.inr rfl)
            · refine am_R.bn rfl rfl hc ?_
              refine am_R.go 2 (q' := (57, [some (.int p0)], [.ref 1007, .int p0], M48)) rfl trivial ?_
              obtain ⟨r57, M57, hz, h⟩ := am_bi_s h
              refine am_R.call (e' := me_X10_of) (as := [.ref 1007]) (rest := [.int p0]) rfl rfl (Nat.le_of_ble_eq_true rfl) (t_X10_of_1007 z N _ hz) ?_
              rcases am_it h with ⟨hc, h⟩ | ⟨hc, h⟩
              · refine am_R.bt rfl rfl hc ?_
                refine am_R.go 2 (q' := (86, [some (.int p0)], [.int 1], M57)) rfl trivial ?_
                cases h
                exact am_R.ret rfl rfl (Or.inr rfl)
              · refine am_R.bn rfl rfl hc ?_
                refine am_R.go 2 (q' := (66, [some (.int p0)], [.ref 1008, .int p0], M57)) rfl trivial ?_
                obtain ⟨r66, M66, hz, h⟩ := am_bi_s h
                refine am_R.call (e' := me_X10_of) (as := [.ref 1008]) (rest := [.int p0]) rfl rfl (Nat.le_of_ble_eq_true rfl) (t_X10_of_1008 z N _ hz) ?_
                rcases am_it h with ⟨hc, h⟩ | ⟨hc, h⟩
                · refine am_R.bt rfl rfl hc ?_
                  refine am_R.go 2 (q' := (86, [some (.int p0)], [.int 1], M66)) rfl trivial ?_
                  cases h
                  exact am_R.ret rfl rfl (Or.inr rfl)
                · refine am_R.bn rfl rfl hc ?_
                  refine am_R.go 2 (q' := (75, [some (.int p0)], [.ref 1009, .int p0], M66)) rfl trivial ?_
                  obtain ⟨r75, M75, hz, h⟩ := am_bi_s h
                  refine am_R.call (e' := me_X10_of) (as := [.ref 1009]) (rest := [.int p0]) rfl rfl (Nat.le_of_ble_eq_true rfl) (t_X10_of_1009 z N _ hz) ?_
                  rcases am_it h with ⟨hc, h⟩ | ⟨hc, h⟩
                  · refine am_R.bn rfl rfl (fun q => q hc) ?_
                    refine am_R.go 2 (q' := (86, [some (.int p0)], [.int 1], M75)) rfl trivial ?_
                    cases h
                    exact am_R.ret rfl rfl (Or.inr rfl)
                  · refine am_R.bt rfl rfl hc ?_
                    refine am_R.go 1 (q' := (86, [some (.int p0)], [.int 0], M75)) rfl trivial ?_
                    cases h
                    exact am_R.ret rfl rfl (Or.inl rfl)
def f_X10_wrong (N : Nat) (p1 : Int32) (p2 : Int32) (M : am_M) : Option (Except Nat (Option Value) × am_M) :=
  if (M 0 5) = (-1) then
    some (.ok none, am_up (am_up M 0 5 p2) 0 6 p1)
  else
    some (.ok none, M)
set_option maxRecDepth 100000 in
theorem t_X10_wrong (z : Value) (N : Nat) (p1 : Int32) (p2 : Int32) (M : am_M) {r : Except Nat (Option Value)} {M' : am_M} (h : f_X10_wrong N p1 p2 M = some (r, M')) : mR z me_X10_wrong (0, [some (.ref 0), some (.int p1), some (.int p2)], [], M) r M' := by
  unfold f_X10_wrong at h
  refine am_R.go 3 (q' := (5, [some (.ref 0), some (.int p1), some (.int p2)], [.int (-1), .int (M 0 5)], M)) rfl trivial ?_
  rcases am_it h with ⟨hc, h⟩ | ⟨hc, h⟩
  · refine am_R.bt rfl rfl hc ?_
    refine am_R.go 6 (q' := (19, [some (.ref 0), some (.int p1), some (.int p2)], [], am_up (am_up M 0 5 p2) 0 6 p1)) rfl trivial ?_
    cases h
    exact am_R.ret rfl rfl trivial
  · refine am_R.bn rfl rfl hc ?_
    cases h
    exact am_R.ret rfl rfl trivial
def f_X10_pass_0B (N : Nat) (k0 : am_M → Option (Except Nat (Option Value) × am_M)) (M : am_M) : Option (Except Nat (Option Value) × am_M) :=
  if (M 0 3) ≤ (M 0 4) then
    some (.ok none, M)
  else
    if am_in (M 0 4) 600 then
      am_bi (f_X10_isSmall N (M 2 ((M 0 4).toNatClampNeg)) M) fun r20 M20 =>
        if r20 = 0 then
          some (.ok none, M20)
        else
          k0 (am_up M20 0 4 ((M20 0 4) + 1))
    else none
def f_X10_pass_0 (N : Nat) : Nat → am_M → Option (Except Nat (Option Value) × am_M)
  | 0 => fun _ => none
  | n + 1 => f_X10_pass_0B N (f_X10_pass_0 N n)
set_option maxRecDepth 100000 in
theorem t_X10_pass_0B (z : Value) (N : Nat) {r : Except Nat (Option Value)} {M' : am_M} (k0 : am_M → Option (Except Nat (Option Value) × am_M)) (hk0 : ∀ (M : am_M), k0 M = some (r, M') → mR z me_X10_pass (0, [some (.ref 0)], [], M) r M') (M : am_M) (h : f_X10_pass_0B N k0 M = some (r, M')) : mR z me_X10_pass (0, [some (.ref 0)], [], M) r M' := by
  unfold f_X10_pass_0B at h
  refine am_R.go 4 (q' := (8, [some (.ref 0)], [.int (M 0 3), .int (M 0 4)], M)) rfl trivial ?_
  rcases am_it h with ⟨hc, h⟩ | ⟨hc, h⟩
  · refine am_R.bt rfl rfl hc ?_
    cases h
    exact am_R.ret rfl rfl trivial
  · refine am_R.bn rfl rfl hc ?_
    obtain ⟨hC, h⟩ := am_gd h
    refine am_R.go 5 (q' := (20, [some (.ref 0)], [.int (M 2 ((M 0 4).toNatClampNeg))], M)) rfl ⟨hC, trivial⟩ ?_
    obtain ⟨r20, M20, hz, h⟩ := am_bi_s h
    refine am_R.call (e' := me_X10_isSmall) (as := [.int (M 2 ((M 0 4).toNatClampNeg))]) (rest := []) rfl rfl (Nat.le_of_ble_eq_true rfl) (t_X10_isSmall z N (M 2 ((M 0 4).toNatClampNeg)) _ hz) ?_
    rcases am_it h with ⟨hc, h⟩ | ⟨hc, h⟩
    · refine am_R.ct rfl rfl hc ?_
      cases h
      exact am_R.ret rfl rfl trivial
    · refine am_R.cn rfl rfl hc ?_
      refine am_R.go 7 (q' := (0, [some (.ref 0)], [], am_up M20 0 4 ((M20 0 4) + 1))) rfl trivial ?_
      exact hk0  _ h
set_option maxRecDepth 100000 in
theorem t_X10_pass_0 (z : Value) (N : Nat) {r : Except Nat (Option Value)} {M' : am_M} : ∀ (n : Nat) (M : am_M), f_X10_pass_0 N n M = some (r, M') → mR z me_X10_pass (0, [some (.ref 0)], [], M) r M' := by
  intro n
  induction n with
  | zero => intro M h; cases h
  | succ n ih => intro M h; exact t_X10_pass_0B z N _ ih M h
def f_X10_pass (N : Nat) (M : am_M) : Option (Except Nat (Option Value) × am_M) :=
  f_X10_pass_0 N N M
set_option maxRecDepth 100000 in
theorem t_X10_pass (z : Value) (N : Nat) (M : am_M) {r : Except Nat (Option Value)} {M' : am_M} (h : f_X10_pass N M = some (r, M')) : mR z me_X10_pass (0, [some (.ref 0)], [], M) r M' := by
  unfold f_X10_pass at h
  exact t_X10_pass_0 z N N  _ h
def f_X10_isDigit (N : Nat) (p0 : Int32) (M : am_M) : Option (Except Nat (Option Value) × am_M) :=
  if p0 < 48 then
    some (.ok (some (.int 0)), M)
  else
    if 57 < p0 then
      some (.ok (some (.int 0)), M)
    else
      some (.ok (some (.int 1)), M)
set_option maxRecDepth 100000 in
theorem t_X10_isDigit (z : Value) (N : Nat) (p0 : Int32) (M : am_M) {r : Except Nat (Option Value)} {M' : am_M} (h : f_X10_isDigit N p0 M = some (r, M')) : mR z me_X10_isDigit (0, [some (.int p0)], [], M) r M' := by
  unfold f_X10_isDigit at h
  refine am_R.go 2 (q' := (3, [some (.int p0)], [.int 48, .int p0], M)) rfl trivial ?_
  rcases am_it h with ⟨hc, h⟩ | ⟨hc, h⟩
  · refine am_R.bt rfl rfl hc ?_
    refine am_R.go 1 (q' := (17, [some (.int p0)], [.int 0], M)) rfl trivial ?_
    cases h
    exact am_R.ret rfl rfl (Or.inl rfl)
  · refine am_R.bn rfl rfl hc ?_
    refine am_R.go 2 (q' := (9, [some (.int p0)], [.int 57, .int p0], M)) rfl trivial ?_
    rcases am_it h with ⟨hc, h⟩ | ⟨hc, h⟩
    · refine am_R.bt rfl rfl hc ?_
      refine am_R.go 1 (q' := (17, [some (.int p0)], [.int 0], M)) rfl trivial ?_
      cases h
      exact am_R.ret rfl rfl (Or.inl rfl)
    · refine am_R.bn rfl rfl hc ?_
      refine am_R.go 2 (q' := (17, [some (.int p0)], [.int 1], M)) rfl trivial ?_
      cases h
      exact am_R.ret rfl rfl (Or.inr rfl)
def f_X10_readNumber_126 (N : Nat) (v4 : Int32) (M : am_M) : Option (Except Nat (Option Value) × am_M) :=
  am_bv (f_X10_wrong N 2 v4 M) fun M130 =>
    some (.ok (some (.int 0)), M130)
set_option maxRecDepth 100000 in
theorem t_X10_readNumber_126 (z : Value) (N : Nat) {r : Except Nat (Option Value)} {M' : am_M} (v4 : Int32) (d1 : Option Value) (d2 : Option Value) (d3 : Option Value) (d5 : Option Value) (M : am_M) (h : f_X10_readNumber_126 N v4 M = some (r, M')) : mR z me_X10_readNumber (126, [some (.ref 0), d1, d2, d3, some (.int v4), d5], [], M) r M' := by
  unfold f_X10_readNumber_126 at h
  refine am_R.go 3 (q' := (130, [some (.ref 0), d1, d2, d3, some (.int v4), d5], [.int v4, .int 2, .ref 0], M)) rfl trivial ?_
  obtain ⟨M130, hz, h⟩ := am_bv_s h
  refine am_R.call (e' := me_X10_wrong) (as := [.ref 0, .int 2, .int v4]) (rest := []) rfl rfl (Nat.le_of_ble_eq_true rfl) (t_X10_wrong z N 2 v4 _ hz) ?_
  refine am_R.go 1 (q' := (134, [some (.ref 0), d1, d2, d3, some (.int v4), d5], [.int 0], M130)) rfl trivial ?_
  cases h
  exact am_R.ret rfl rfl trivial
def f_X10_readNumber_114 (N : Nat) (v1 : Int32) (v2 : Int32) (v4 : Int32) (v5 : Int32) (M : am_M) : Option (Except Nat (Option Value) × am_M) :=
  if v5 < v1 then
    f_X10_readNumber_126 N v4 M
  else
    if v5 ≤ v2 then
      some (.ok (some (.int v5)), M)
    else
      f_X10_readNumber_126 N v4 M
set_option maxRecDepth 100000 in
theorem t_X10_readNumber_114 (z : Value) (N : Nat) {r : Except Nat (Option Value)} {M' : am_M} (v1 : Int32) (v2 : Int32) (v4 : Int32) (v5 : Int32) (d3 : Option Value) (M : am_M) (h : f_X10_readNumber_114 N v1 v2 v4 v5 M = some (r, M')) : mR z me_X10_readNumber (114, [some (.ref 0), some (.int v1), some (.int v2), d3, some (.int v4), some (.int v5)], [], M) r M' := by
  unfold f_X10_readNumber_114 at h
  refine am_R.go 2 (q' := (117, [some (.ref 0), some (.int v1), some (.int v2), d3, some (.int v4), some (.int v5)], [.int v1, .int v5], M)) rfl trivial ?_
  rcases am_it h with ⟨hc, h⟩ | ⟨hc, h⟩
  · refine am_R.bt rfl rfl hc ?_
    exact t_X10_readNumber_126 z N v4 _ _ _ _ _ h
  · refine am_R.bn rfl rfl hc ?_
    refine am_R.go 2 (q' := (123, [some (.ref 0), some (.int v1), some (.int v2), d3, some (.int v4), some (.int v5)], [.int v2, .int v5], M)) rfl trivial ?_
    rcases am_it h with ⟨hc, h⟩ | ⟨hc, h⟩
    · refine am_R.bt rfl rfl hc ?_
      refine am_R.go 1 (q' := (137, [some (.ref 0), some (.int v1), some (.int v2), d3, some (.int v4), some (.int v5)], [.int v5], M)) rfl trivial ?_
      cases h
      exact am_R.ret rfl rfl trivial
    · refine am_R.bn rfl rfl hc ?_
      exact t_X10_readNumber_126 z N v4 _ _ _ _ _ h
def f_X10_readNumber_99 (N : Nat) (k41 : Int32 → am_M → Option (Except Nat (Option Value) × am_M)) (v1 : Int32) (v2 : Int32) (v4 : Int32) (s0 : Int32) (M : am_M) : Option (Except Nat (Option Value) × am_M) :=
  k41 s0 (am_up M 0 4 ((M 0 4) + 1))
set_option maxRecDepth 100000 in
theorem t_X10_readNumber_99 (z : Value) (N : Nat) (k41 : Int32 → am_M → Option (Except Nat (Option Value) × am_M)) {r : Except Nat (Option Value)} {M' : am_M} (v1 : Int32) (v2 : Int32) (v4 : Int32) (s0 : Int32) (d3 : Option Value) (d5 : Option Value) (M : am_M) (hk41 : ∀ (v5 : Int32) (d3 : Option Value) (M : am_M), k41 v5 M = some (r, M') → mR z me_X10_readNumber (41, [some (.ref 0), some (.int v1), some (.int v2), d3, some (.int v4), some (.int v5)], [], M) r M') (h : f_X10_readNumber_99 N k41 v1 v2 v4 s0 M = some (r, M')) : mR z me_X10_readNumber (99, [some (.ref 0), some (.int v1), some (.int v2), d3, some (.int v4), d5], [.int s0], M) r M' := by
  unfold f_X10_readNumber_99 at h
  refine am_R.go 8 (q' := (41, [some (.ref 0), some (.int v1), some (.int v2), d3, some (.int v4), some (.int s0)], [], am_up M 0 4 ((M 0 4) + 1))) rfl trivial ?_
  exact hk41 s0 _ _ h
def f_X10_readNumber_41B (N : Nat) (v1 : Int32) (v2 : Int32) (v4 : Int32) (k41 : Int32 → am_M → Option (Except Nat (Option Value) × am_M)) (v5 : Int32) (M : am_M) : Option (Except Nat (Option Value) × am_M) :=
  if (M 0 3) ≤ (M 0 4) then
    f_X10_readNumber_114 N v1 v2 v4 v5 M
  else
    if am_in (M 0 4) 600 then
      am_bi (f_X10_isDigit N (M 2 ((M 0 4).toNatClampNeg)) M) fun r61 M61 =>
        if r61 = 0 then
          f_X10_readNumber_114 N v1 v2 v4 v5 M61
        else
          if v5 ≤ 9999 then
            if am_in (M61 0 4) 600 then
              f_X10_readNumber_99 N k41 v1 v2 v4 (((10 * v5) + (M61 2 ((M61 0 4).toNatClampNeg))) - 48) M61
            else none
          else
            f_X10_readNumber_99 N k41 v1 v2 v4 10000 M61
    else none
def f_X10_readNumber_41 (N : Nat) (v1 : Int32) (v2 : Int32) (v4 : Int32) : Nat → Int32 → am_M → Option (Except Nat (Option Value) × am_M)
  | 0 => fun _ _ => none
  | n + 1 => f_X10_readNumber_41B N v1 v2 v4 (f_X10_readNumber_41 N v1 v2 v4 n)
set_option maxRecDepth 100000 in
theorem t_X10_readNumber_41B (z : Value) (N : Nat) (v1 : Int32) (v2 : Int32) (v4 : Int32) {r : Except Nat (Option Value)} {M' : am_M} (k41 : Int32 → am_M → Option (Except Nat (Option Value) × am_M)) (hk41 : ∀ (v5 : Int32) (d3 : Option Value) (M : am_M), k41 v5 M = some (r, M') → mR z me_X10_readNumber (41, [some (.ref 0), some (.int v1), some (.int v2), d3, some (.int v4), some (.int v5)], [], M) r M') (v5 : Int32) (d3 : Option Value) (M : am_M) (h : f_X10_readNumber_41B N v1 v2 v4 k41 v5 M = some (r, M')) : mR z me_X10_readNumber (41, [some (.ref 0), some (.int v1), some (.int v2), d3, some (.int v4), some (.int v5)], [], M) r M' := by
  unfold f_X10_readNumber_41B at h
  refine am_R.go 4 (q' := (49, [some (.ref 0), some (.int v1), some (.int v2), d3, some (.int v4), some (.int v5)], [.int (M 0 3), .int (M 0 4)], M)) rfl trivial ?_
  rcases am_it h with ⟨hc, h⟩ | ⟨hc, h⟩
  · refine am_R.bt rfl rfl hc ?_
    exact t_X10_readNumber_114 z N v1 v2 v4 v5 _ _ h
  · refine am_R.bn rfl rfl hc ?_
    obtain ⟨hC, h⟩ := am_gd h
    refine am_R.go 5 (q' := (61, [some (.ref 0), some (.int v1), some (.int v2), d3, some (.int v4), some (.int v5)], [.int (M 2 ((M 0 4).toNatClampNeg))], M)) rfl ⟨hC, trivial⟩ ?_
    obtain ⟨r61, M61, hz, h⟩ := am_bi_s h
    refine am_R.call (e' := me_X10_isDigit) (as := [.int (M 2 ((M 0 4).toNatClampNeg))]) (rest := []) rfl rfl (Nat.le_of_ble_eq_true rfl) (t_X10_isDigit z N (M 2 ((M 0 4).toNatClampNeg)) _ hz) ?_
    rcases am_it h with ⟨hc, h⟩ | ⟨hc, h⟩
    · refine am_R.ct rfl rfl hc ?_
      exact t_X10_readNumber_114 z N v1 v2 v4 v5 _ _ h
    · refine am_R.cn rfl rfl hc ?_
      refine am_R.go 2 (q' := (72, [some (.ref 0), some (.int v1), some (.int v2), d3, some (.int v4), some (.int v5)], [.int 9999, .int v5], M61)) rfl trivial ?_
      rcases am_it h with ⟨hc, h⟩ | ⟨hc, h⟩
      · refine am_R.bt rfl rfl hc ?_
        obtain ⟨hC, h⟩ := am_gd h
        refine am_R.go 11 (q' := (99, [some (.ref 0), some (.int v1), some (.int v2), d3, some (.int v4), some (.int v5)], [.int (((10 * v5) + (M61 2 ((M61 0 4).toNatClampNeg))) - 48)], M61)) rfl ⟨hC, trivial⟩ ?_
        exact t_X10_readNumber_99 z N k41 v1 v2 v4 (((10 * v5) + (M61 2 ((M61 0 4).toNatClampNeg))) - 48) _ _ _ hk41 h
      · refine am_R.bn rfl rfl hc ?_
        refine am_R.go 2 (q' := (99, [some (.ref 0), some (.int v1), some (.int v2), d3, some (.int v4), some (.int v5)], [.int 10000], M61)) rfl trivial ?_
        exact t_X10_readNumber_99 z N k41 v1 v2 v4 10000 _ _ _ hk41 h
set_option maxRecDepth 100000 in
theorem t_X10_readNumber_41 (z : Value) (N : Nat) (v1 : Int32) (v2 : Int32) (v4 : Int32) {r : Except Nat (Option Value)} {M' : am_M} : ∀ (n : Nat) (v5 : Int32) (d3 : Option Value) (M : am_M), f_X10_readNumber_41 N v1 v2 v4 n v5 M = some (r, M') → mR z me_X10_readNumber (41, [some (.ref 0), some (.int v1), some (.int v2), d3, some (.int v4), some (.int v5)], [], M) r M' := by
  intro n
  induction n with
  | zero => intro v5 d3 M h; cases h
  | succ n ih => intro v5 d3 M h; exact t_X10_readNumber_41B z N v1 v2 v4 _ ih v5 d3 M h
def f_X10_readNumber (N : Nat) (p1 : Int32) (p2 : Int32) (M : am_M) : Option (Except Nat (Option Value) × am_M) :=
  am_bi (f_X10_fine N M) fun r1 M1 =>
    if r1 = 0 then
      some (.ok (some (.int 0)), M1)
    else
      am_bi (f_X10_here N M1) fun r10 M10 =>
        am_bi (f_X10_isDigit N r10 M10) fun r24 M24 =>
          if r24 = 0 then
            am_bv (f_X10_wrong N 1 (M24 0 4) M24) fun M36 =>
              some (.ok (some (.int 0)), M36)
          else
            f_X10_readNumber_41 N p1 p2 (M10 0 4) N 0 M24
set_option maxRecDepth 100000 in
theorem t_X10_readNumber (z : Value) (N : Nat) (p1 : Int32) (p2 : Int32) (M : am_M) {r : Except Nat (Option Value)} {M' : am_M} (h : f_X10_readNumber N p1 p2 M = some (r, M')) : mR z me_X10_readNumber (0, [some (.ref 0), some (.int p1), some (.int p2), none, none, none], [], M) r M' := by
  unfold f_X10_readNumber at h
  refine am_R.go 1 (q' := (1, [some (.ref 0), some (.int p1), some (.int p2), none, none, none], [.ref 0], M)) rfl trivial ?_
  obtain ⟨r1, M1, hz, h⟩ := am_bi_s h
  refine am_R.call (e' := me_X10_fine) (as := [.ref 0]) (rest := []) rfl rfl (Nat.le_of_ble_eq_true rfl) (t_X10_fine z N _ hz) ?_
  rcases am_it h with ⟨hc, h⟩ | ⟨hc, h⟩
  · refine am_R.cn rfl rfl (fun q => q hc) ?_
    refine am_R.go 1 (q' := (8, [some (.ref 0), some (.int p1), some (.int p2), none, none, none], [.int 0], M1)) rfl trivial ?_
    cases h
    exact am_R.ret rfl rfl trivial
  · refine am_R.ct rfl rfl hc ?_
    refine am_R.go 1 (q' := (10, [some (.ref 0), some (.int p1), some (.int p2), none, none, none], [.ref 0], M1)) rfl trivial ?_
    obtain ⟨r10, M10, hz, h⟩ := am_bi_s h
    refine am_R.call (e' := me_X10_here) (as := [.ref 0]) (rest := []) rfl rfl (Nat.le_of_ble_eq_true rfl) (t_X10_here z N _ hz) ?_
    refine am_R.go 7 (q' := (24, [some (.ref 0), some (.int p1), some (.int p2), some (.int r10), some (.int (M10 0 4)), some (.int 0)], [.int r10], M10)) rfl trivial ?_
    obtain ⟨r24, M24, hz, h⟩ := am_bi_s h
    refine am_R.call (e' := me_X10_isDigit) (as := [.int r10]) (rest := []) rfl rfl (Nat.le_of_ble_eq_true rfl) (t_X10_isDigit z N r10 _ hz) ?_
    rcases am_it h with ⟨hc, h⟩ | ⟨hc, h⟩
    · refine am_R.cn rfl rfl (fun q => q hc) ?_
      refine am_R.go 4 (q' := (36, [some (.ref 0), some (.int p1), some (.int p2), some (.int r10), some (.int (M10 0 4)), some (.int 0)], [.int (M24 0 4), .int 1, .ref 0], M24)) rfl trivial ?_
      obtain ⟨M36, hz, h⟩ := am_bv_s h
      refine am_R.call (e' := me_X10_wrong) (as := [.ref 0, .int 1, .int (M24 0 4)]) (rest := []) rfl rfl (Nat.le_of_ble_eq_true rfl) (t_X10_wrong z N 1 (M24 0 4) _ hz) ?_
      refine am_R.go 1 (q' := (40, [some (.ref 0), some (.int p1), some (.int p2), some (.int r10), some (.int (M10 0 4)), some (.int 0)], [.int 0], M36)) rfl trivial ?_
      cases h
      exact am_R.ret rfl rfl trivial
    · refine am_R.ct rfl rfl hc ?_
      exact t_X10_readNumber_41 z N p1 p2 (M10 0 4) N 0 _ _ h
def f_X10_readCell (N : Nat) (M : am_M) : Option (Except Nat (Option Value) × am_M) :=
  am_bi (f_X10_readNumber N 0 ((M 0 24) - 1) M) fun r8 M8 =>
    am_bi (f_X10_readNumber N 0 ((M8 0 25) - 1) M8) fun r20 M20 =>
      some (.ok (some (.int ((10 * r20) + r8))), M20)
set_option maxRecDepth 100000 in
theorem t_X10_readCell (z : Value) (N : Nat) (M : am_M) {r : Except Nat (Option Value)} {M' : am_M} (h : f_X10_readCell N M = some (r, M')) : mR z me_X10_readCell (0, [some (.ref 0), none, none], [], M) r M' := by
  unfold f_X10_readCell at h
  refine am_R.go 6 (q' := (8, [some (.ref 0), none, none], [.int ((M 0 24) - 1), .int 0, .ref 0], M)) rfl trivial ?_
  obtain ⟨r8, M8, hz, h⟩ := am_bi_s h
  refine am_R.call (e' := me_X10_readNumber) (as := [.ref 0, .int 0, .int ((M 0 24) - 1)]) (rest := []) rfl rfl (Nat.le_of_ble_eq_true rfl) (t_X10_readNumber z N 0 ((M 0 24) - 1) _ hz) ?_
  refine am_R.go 7 (q' := (20, [some (.ref 0), some (.int r8), none], [.int ((M8 0 25) - 1), .int 0, .ref 0], M8)) rfl trivial ?_
  obtain ⟨r20, M20, hz, h⟩ := am_bi_s h
  refine am_R.call (e' := me_X10_readNumber) (as := [.ref 0, .int 0, .int ((M8 0 25) - 1)]) (rest := []) rfl rfl (Nat.le_of_ble_eq_true rfl) (t_X10_readNumber z N 0 ((M8 0 25) - 1) _ hz) ?_
  refine am_R.go 6 (q' := (30, [some (.ref 0), some (.int r8), some (.int r20)], [.int ((10 * r20) + r8)], M20)) rfl trivial ?_
  cases h
  exact am_R.ret rfl rfl trivial
