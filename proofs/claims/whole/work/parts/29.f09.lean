def f_X9_heard (N : Nat) (p1 : Int32) (p2 : Int32) (p3 : Int32) (p4 : Int32) (M : am_M) : Option (Except Nat (Option Value) × am_M) :=
  am_bvx (f_X9_needCell N p1 p2 M) fun M3 =>
    am_bvx (f_X9_needNotes N p3 M3) fun M8 =>
      am_bvx (f_X9_needBetween N p4 0 99 M8) fun M17 =>
        am_bv (f_X7_listen N p1 p2 M17) fun M26 =>
          am_bi (f_X7_strengthOfSong N p3 p4 M26) fun r36 M36 =>
            some (.ok (some (.int r36)), M36)
set_option maxRecDepth 100000 in
theorem t_X9_heard (z : Value) (N : Nat) (p1 : Int32) (p2 : Int32) (p3 : Int32) (p4 : Int32) (M : am_M) {r : Except Nat (Option Value)} {M' : am_M} (h : f_X9_heard N p1 p2 p3 p4 M = some (r, M')) : cR z me_X9_heard (0, [some (.ref 0), some (.int p1), some (.int p2), some (.int p3), some (.int p4)], [], M) r M' := by
  unfold f_X9_heard at h
  refine am_R.go 3 (q' := (3, [some (.ref 0), some (.int p1), some (.int p2), some (.int p3), some (.int p4)], [.int p2, .int p1, .ref 0], M)) rfl trivial ?_
  rcases am_bvx_s h with ⟨M3, hz, h⟩ | ⟨x, M3, hz, h⟩
  · refine am_R.call (e' := me_X9_needCell) (as := [.ref 0, .int p1, .int p2]) (rest := []) rfl rfl (Nat.le_of_ble_eq_true rfl) (t_X9_needCell z N p1 p2 _ hz) ?_
    refine am_R.go 2 (q' := (8, [some (.ref 0), some (.int p1), some (.int p2), some (.int p3), some (.int p4)], [.int p3, .ref 0], M3)) rfl trivial ?_
    rcases am_bvx_s h with ⟨M8, hz, h⟩ | ⟨x, M8, hz, h⟩
    · refine am_R.call (e' := me_X9_needNotes) (as := [.ref 0, .int p3]) (rest := []) rfl rfl (Nat.le_of_ble_eq_true rfl) (t_X9_needNotes z N p3 _ hz) ?_
      refine am_R.go 4 (q' := (17, [some (.ref 0), some (.int p1), some (.int p2), some (.int p3), some (.int p4)], [.int 99, .int 0, .int p4, .ref 0], M8)) rfl trivial ?_
      rcases am_bvx_s h with ⟨M17, hz, h⟩ | ⟨x, M17, hz, h⟩
      · refine am_R.call (e' := me_X9_needBetween) (as := [.ref 0, .int p4, .int 0, .int 99]) (rest := []) rfl rfl (Nat.le_of_ble_eq_true rfl) (t_X9_needBetween z N p4 0 99 _ hz) ?_
        refine am_R.go 4 (q' := (26, [some (.ref 0), some (.int p1), some (.int p2), some (.int p3), some (.int p4)], [.int p2, .int p1, .ref 63], M17)) rfl trivial ?_
        obtain ⟨M26, hz, h⟩ := am_bv_s h
        refine am_R.call (e' := me_X7_listen) (as := [.ref 63, .int p1, .int p2]) (rest := []) rfl rfl (Nat.le_of_ble_eq_true rfl) (t_X7_listen z N p1 p2 _ hz) ?_
        refine am_R.go 4 (q' := (36, [some (.ref 0), some (.int p1), some (.int p2), some (.int p3), some (.int p4)], [.int p4, .int p3, .ref 63], M26)) rfl trivial ?_
        obtain ⟨r36, M36, hz, h⟩ := am_bi_s h
        refine am_R.call (e' := me_X7_strengthOfSong) (as := [.ref 63, .int p3, .int p4]) (rest := []) rfl rfl (Nat.le_of_ble_eq_true rfl) (t_X7_strengthOfSong z N p3 p4 _ hz) ?_
        cases h
        exact am_R.ret rfl rfl trivial
      · cases h
        exact am_R.callx (e' := me_X9_needBetween) (as := [.ref 0, .int p4, .int 0, .int 99]) (rest := []) rfl rfl (Nat.le_of_ble_eq_true rfl) rfl (t_X9_needBetween z N p4 0 99 _ hz)
    · cases h
      exact am_R.callx (e' := me_X9_needNotes) (as := [.ref 0, .int p3]) (rest := []) rfl rfl (Nat.le_of_ble_eq_true rfl) rfl (t_X9_needNotes z N p3 _ hz)
  · cases h
    exact am_R.callx (e' := me_X9_needCell) (as := [.ref 0, .int p1, .int p2]) (rest := []) rfl rfl (Nat.le_of_ble_eq_true rfl) rfl (t_X9_needCell z N p1 p2 _ hz)
def f_X7_findPeak_27B (N : Nat) (v1 : Int32) (v2 : Int32) (k27 : Int32 → am_M → Option (Except Nat (Option Value) × am_M)) (v3 : Int32) (M : am_M) : Option (Except Nat (Option Value) × am_M) :=
  if v2 < v3 then
    some (.ok none, M)
  else
    am_bi (f_X7_strengthOfSong N v1 v3 M) fun r35 M35 =>
      if r35 ≤ (M35 63 0) then
        k27 (v3 + 1) M35
      else
        k27 (v3 + 1) (am_up (am_up M35 63 0 r35) 63 1 v3)
def f_X7_findPeak_27 (N : Nat) (v1 : Int32) (v2 : Int32) : Nat → Int32 → am_M → Option (Except Nat (Option Value) × am_M)
  | 0 => fun _ _ => none
  | n + 1 => f_X7_findPeak_27B N v1 v2 (f_X7_findPeak_27 N v1 v2 n)
set_option maxRecDepth 100000 in
theorem t_X7_findPeak_27B (z : Value) (N : Nat) (v1 : Int32) (v2 : Int32) {r : Except Nat (Option Value)} {M' : am_M} (k27 : Int32 → am_M → Option (Except Nat (Option Value) × am_M)) (hk27 : ∀ (v3 : Int32) (d4 : Option Value) (M : am_M), k27 v3 M = some (r, M') → cR z me_X7_findPeak (27, [some (.ref 63), some (.int v1), some (.int v2), some (.int v3), d4], [], M) r M') (v3 : Int32) (d4 : Option Value) (M : am_M) (h : f_X7_findPeak_27B N v1 v2 k27 v3 M = some (r, M')) : cR z me_X7_findPeak (27, [some (.ref 63), some (.int v1), some (.int v2), some (.int v3), d4], [], M) r M' := by
  unfold f_X7_findPeak_27B at h
  refine am_R.go 2 (q' := (29, [some (.ref 63), some (.int v1), some (.int v2), some (.int v3), d4], [.int v2, .int v3], M)) rfl trivial ?_
  rcases am_it h with ⟨hc, h⟩ | ⟨hc, h⟩
  · refine am_R.bt rfl rfl hc ?_
    cases h
    exact am_R.ret rfl rfl trivial
  · refine am_R.bn rfl rfl hc ?_
    refine am_R.go 3 (q' := (35, [some (.ref 63), some (.int v1), some (.int v2), some (.int v3), d4], [.int v3, .int v1, .ref 63], M)) rfl trivial ?_
    obtain ⟨r35, M35, hz, h⟩ := am_bi_s h
    refine am_R.call (e' := me_X7_strengthOfSong) (as := [.ref 63, .int v1, .int v3]) (rest := []) rfl rfl (Nat.le_of_ble_eq_true rfl) (t_X7_strengthOfSong z N v1 v3 _ hz) ?_
    refine am_R.go 4 (q' := (46, [some (.ref 63), some (.int v1), some (.int v2), some (.int v3), some (.int r35)], [.int (M35 63 0), .int r35], M35)) rfl trivial ?_
    rcases am_it h with ⟨hc, h⟩ | ⟨hc, h⟩
    · refine am_R.bt rfl rfl hc ?_
      refine am_R.go 2 (q' := (27, [some (.ref 63), some (.int v1), some (.int v2), some (.int (v3 + 1)), some (.int r35)], [], M35)) rfl trivial ?_
      exact hk27 (v3 + 1) _ _ h
    · refine am_R.bn rfl rfl hc ?_
      refine am_R.go 8 (q' := (27, [some (.ref 63), some (.int v1), some (.int v2), some (.int (v3 + 1)), some (.int r35)], [], am_up (am_up M35 63 0 r35) 63 1 v3)) rfl trivial ?_
      exact hk27 (v3 + 1) _ _ h
set_option maxRecDepth 100000 in
theorem t_X7_findPeak_27 (z : Value) (N : Nat) (v1 : Int32) (v2 : Int32) {r : Except Nat (Option Value)} {M' : am_M} : ∀ (n : Nat) (v3 : Int32) (d4 : Option Value) (M : am_M), f_X7_findPeak_27 N v1 v2 n v3 M = some (r, M') → cR z me_X7_findPeak (27, [some (.ref 63), some (.int v1), some (.int v2), some (.int v3), d4], [], M) r M' := by
  intro n
  induction n with
  | zero => intro v3 d4 M h; cases h
  | succ n ih => intro v3 d4 M h; exact t_X7_findPeak_27B z N v1 v2 _ ih v3 d4 M h
def f_X7_findPeak (N : Nat) (p1 : Int32) (M : am_M) : Option (Except Nat (Option Value) × am_M) :=
  f_X7_findPeak_27 N p1 (if (((M 63 3) + 12) - 1) < 99 then ((M 63 3) + 12) - 1 else 99) N 0 (am_up (am_up M 63 0 0) 63 1 0)
set_option maxRecDepth 100000 in
theorem t_X7_findPeak (z : Value) (N : Nat) (p1 : Int32) (M : am_M) {r : Except Nat (Option Value)} {M' : am_M} (h : f_X7_findPeak N p1 M = some (r, M')) : cR z me_X7_findPeak (0, [some (.ref 63), some (.int p1), none, none, none], [], M) r M' := by
  unfold f_X7_findPeak at h
  refine am_R.go 17 (q' := (27, [some (.ref 63), some (.int p1), some (.int (if (((M 63 3) + 12) - 1) < 99 then ((M 63 3) + 12) - 1 else 99)), some (.int 0), none], [], am_up (am_up M 63 0 0) 63 1 0)) rfl trivial ?_
  exact t_X7_findPeak_27 z N p1 (if (((M 63 3) + 12) - 1) < 99 then ((M 63 3) + 12) - 1 else 99) N 0 _ _ h
def f_X9_loudest (N : Nat) (p1 : Int32) (p2 : Int32) (p3 : Int32) (p4 : Int32) (M : am_M) : Option (Except Nat (Option Value) × am_M) :=
  am_bvx (f_X9_needCell N p1 p2 M) fun M3 =>
    am_bvx (f_X9_needNotes N p3 M3) fun M8 =>
      am_bvx (f_X9_needBetween N p4 0 1 M8) fun M16 =>
        am_bv (f_X7_listen N p1 p2 M16) fun M25 =>
          am_bv (f_X7_findPeak N p3 M25) fun M33 =>
            if p4 = 0 then
              some (.ok (some (.int (M33 63 0))), M33)
            else
              some (.ok (some (.int (M33 63 1))), M33)
set_option maxRecDepth 100000 in
theorem t_X9_loudest (z : Value) (N : Nat) (p1 : Int32) (p2 : Int32) (p3 : Int32) (p4 : Int32) (M : am_M) {r : Except Nat (Option Value)} {M' : am_M} (h : f_X9_loudest N p1 p2 p3 p4 M = some (r, M')) : cR z me_X9_loudest (0, [some (.ref 0), some (.int p1), some (.int p2), some (.int p3), some (.int p4)], [], M) r M' := by
  unfold f_X9_loudest at h
  refine am_R.go 3 (q' := (3, [some (.ref 0), some (.int p1), some (.int p2), some (.int p3), some (.int p4)], [.int p2, .int p1, .ref 0], M)) rfl trivial ?_
  rcases am_bvx_s h with ⟨M3, hz, h⟩ | ⟨x, M3, hz, h⟩
  · refine am_R.call (e' := me_X9_needCell) (as := [.ref 0, .int p1, .int p2]) (rest := []) rfl rfl (Nat.le_of_ble_eq_true rfl) (t_X9_needCell z N p1 p2 _ hz) ?_
    refine am_R.go 2 (q' := (8, [some (.ref 0), some (.int p1), some (.int p2), some (.int p3), some (.int p4)], [.int p3, .ref 0], M3)) rfl trivial ?_
    rcases am_bvx_s h with ⟨M8, hz, h⟩ | ⟨x, M8, hz, h⟩
    · refine am_R.call (e' := me_X9_needNotes) (as := [.ref 0, .int p3]) (rest := []) rfl rfl (Nat.le_of_ble_eq_true rfl) (t_X9_needNotes z N p3 _ hz) ?_
      refine am_R.go 4 (q' := (16, [some (.ref 0), some (.int p1), some (.int p2), some (.int p3), some (.int p4)], [.int 1, .int 0, .int p4, .ref 0], M8)) rfl trivial ?_
      rcases am_bvx_s h with ⟨M16, hz, h⟩ | ⟨x, M16, hz, h⟩
      · refine am_R.call (e' := me_X9_needBetween) (as := [.ref 0, .int p4, .int 0, .int 1]) (rest := []) rfl rfl (Nat.le_of_ble_eq_true rfl) (t_X9_needBetween z N p4 0 1 _ hz) ?_
        refine am_R.go 4 (q' := (25, [some (.ref 0), some (.int p1), some (.int p2), some (.int p3), some (.int p4)], [.int p2, .int p1, .ref 63], M16)) rfl trivial ?_
        obtain ⟨M25, hz, h⟩ := am_bv_s h
        refine am_R.call (e' := me_X7_listen) (as := [.ref 63, .int p1, .int p2]) (rest := []) rfl rfl (Nat.le_of_ble_eq_true rfl) (t_X7_listen z N p1 p2 _ hz) ?_
        refine am_R.go 3 (q' := (33, [some (.ref 0), some (.int p1), some (.int p2), some (.int p3), some (.int p4)], [.int p3, .ref 63], M25)) rfl trivial ?_
        obtain ⟨M33, hz, h⟩ := am_bv_s h
        refine am_R.call (e' := me_X7_findPeak) (as := [.ref 63, .int p3]) (rest := []) rfl rfl (Nat.le_of_ble_eq_true rfl) (t_X7_findPeak z N p3 _ hz) ?_
        refine am_R.go 1 (q' := (38, [some (.ref 0), some (.int p1), some (.int p2), some (.int p3), some (.int p4)], [.int p4], M33)) rfl trivial ?_
        rcases am_it h with ⟨hc, h⟩ | ⟨hc, h⟩
        · refine am_R.cn rfl rfl (fun q => q hc) ?_
          refine am_R.go 4 (q' := (58, [some (.ref 0), some (.int p1), some (.int p2), some (.int p3), some (.int p4)], [.int (M33 63 0)], M33)) rfl trivial ?_
          cases h
          exact am_R.ret rfl rfl trivial
        · refine am_R.ct rfl rfl hc ?_
          refine am_R.go 3 (q' := (58, [some (.ref 0), some (.int p1), some (.int p2), some (.int p3), some (.int p4)], [.int (M33 63 1)], M33)) rfl trivial ?_
          cases h
          exact am_R.ret rfl rfl trivial
      · cases h
        exact am_R.callx (e' := me_X9_needBetween) (as := [.ref 0, .int p4, .int 0, .int 1]) (rest := []) rfl rfl (Nat.le_of_ble_eq_true rfl) rfl (t_X9_needBetween z N p4 0 1 _ hz)
    · cases h
      exact am_R.callx (e' := me_X9_needNotes) (as := [.ref 0, .int p3]) (rest := []) rfl rfl (Nat.le_of_ble_eq_true rfl) rfl (t_X9_needNotes z N p3 _ hz)
  · cases h
    exact am_R.callx (e' := me_X9_needCell) (as := [.ref 0, .int p1, .int p2]) (rest := []) rfl rfl (Nat.le_of_ble_eq_true rfl) rfl (t_X9_needCell z N p1 p2 _ hz)
def f_cJ6_bitCount (N : Nat) (p0 : Int32) (M : am_M) : Option (Except Nat (Option Value) × am_M) :=
  some (.ok (some (.int ((((((((p0 - (((p0.toUInt32 >>> ((1 : Int32).toUInt32 &&& Int32.toUInt32 31)).toInt32) &&& 1431655765)) &&& 858993459) + ((((p0 - (((p0.toUInt32 >>> ((1 : Int32).toUInt32 &&& Int32.toUInt32 31)).toInt32) &&& 1431655765)).toUInt32 >>> ((2 : Int32).toUInt32 &&& Int32.toUInt32 31)).toInt32) &&& 858993459)) + (((((p0 - (((p0.toUInt32 >>> ((1 : Int32).toUInt32 &&& Int32.toUInt32 31)).toInt32) &&& 1431655765)) &&& 858993459) + ((((p0 - (((p0.toUInt32 >>> ((1 : Int32).toUInt32 &&& Int32.toUInt32 31)).toInt32) &&& 1431655765)).toUInt32 >>> ((2 : Int32).toUInt32 &&& Int32.toUInt32 31)).toInt32) &&& 858993459)).toUInt32 >>> ((4 : Int32).toUInt32 &&& Int32.toUInt32 31)).toInt32)) &&& 252645135) + (((((((p0 - (((p0.toUInt32 >>> ((1 : Int32).toUInt32 &&& Int32.toUInt32 31)).toInt32) &&& 1431655765)) &&& 858993459) + ((((p0 - (((p0.toUInt32 >>> ((1 : Int32).toUInt32 &&& Int32.toUInt32 31)).toInt32) &&& 1431655765)).toUInt32 >>> ((2 : Int32).toUInt32 &&& Int32.toUInt32 31)).toInt32) &&& 858993459)) + (((((p0 - (((p0.toUInt32 >>> ((1 : Int32).toUInt32 &&& Int32.toUInt32 31)).toInt32) &&& 1431655765)) &&& 858993459) + ((((p0 - (((p0.toUInt32 >>> ((1 : Int32).toUInt32 &&& Int32.toUInt32 31)).toInt32) &&& 1431655765)).toUInt32 >>> ((2 : Int32).toUInt32 &&& Int32.toUInt32 31)).toInt32) &&& 858993459)).toUInt32 >>> ((4 : Int32).toUInt32 &&& Int32.toUInt32 31)).toInt32)) &&& 252645135).toUInt32 >>> ((8 : Int32).toUInt32 &&& Int32.toUInt32 31)).toInt32)) + ((((((((p0 - (((p0.toUInt32 >>> ((1 : Int32).toUInt32 &&& Int32.toUInt32 31)).toInt32) &&& 1431655765)) &&& 858993459) + ((((p0 - (((p0.toUInt32 >>> ((1 : Int32).toUInt32 &&& Int32.toUInt32 31)).toInt32) &&& 1431655765)).toUInt32 >>> ((2 : Int32).toUInt32 &&& Int32.toUInt32 31)).toInt32) &&& 858993459)) + (((((p0 - (((p0.toUInt32 >>> ((1 : Int32).toUInt32 &&& Int32.toUInt32 31)).toInt32) &&& 1431655765)) &&& 858993459) + ((((p0 - (((p0.toUInt32 >>> ((1 : Int32).toUInt32 &&& Int32.toUInt32 31)).toInt32) &&& 1431655765)).toUInt32 >>> ((2 : Int32).toUInt32 &&& Int32.toUInt32 31)).toInt32) &&& 858993459)).toUInt32 >>> ((4 : Int32).toUInt32 &&& Int32.toUInt32 31)).toInt32)) &&& 252645135) + (((((((p0 - (((p0.toUInt32 >>> ((1 : Int32).toUInt32 &&& Int32.toUInt32 31)).toInt32) &&& 1431655765)) &&& 858993459) + ((((p0 - (((p0.toUInt32 >>> ((1 : Int32).toUInt32 &&& Int32.toUInt32 31)).toInt32) &&& 1431655765)).toUInt32 >>> ((2 : Int32).toUInt32 &&& Int32.toUInt32 31)).toInt32) &&& 858993459)) + (((((p0 - (((p0.toUInt32 >>> ((1 : Int32).toUInt32 &&& Int32.toUInt32 31)).toInt32) &&& 1431655765)) &&& 858993459) + ((((p0 - (((p0.toUInt32 >>> ((1 : Int32).toUInt32 &&& Int32.toUInt32 31)).toInt32) &&& 1431655765)).toUInt32 >>> ((2 : Int32).toUInt32 &&& Int32.toUInt32 31)).toInt32) &&& 858993459)).toUInt32 >>> ((4 : Int32).toUInt32 &&& Int32.toUInt32 31)).toInt32)) &&& 252645135).toUInt32 >>> ((8 : Int32).toUInt32 &&& Int32.toUInt32 31)).toInt32)).toUInt32 >>> ((16 : Int32).toUInt32 &&& Int32.toUInt32 31)).toInt32)) &&& 63))), M)
set_option maxRecDepth 100000 in
theorem t_cJ6_bitCount (z : Value) (N : Nat) (p0 : Int32) (M : am_M) {r : Except Nat (Option Value)} {M' : am_M} (h : f_cJ6_bitCount N p0 M = some (r, M')) : cR z me_J6_bitCount_0f7a4 (0, [some (.int p0)], [], M) r M' := by
  unfold f_cJ6_bitCount at h
  refine am_R.go 41 (q' := (52, [some (.int (((((((p0 - (((p0.toUInt32 >>> ((1 : Int32).toUInt32 &&& Int32.toUInt32 31)).toInt32) &&& 1431655765)) &&& 858993459) + ((((p0 - (((p0.toUInt32 >>> ((1 : Int32).toUInt32 &&& Int32.toUInt32 31)).toInt32) &&& 1431655765)).toUInt32 >>> ((2 : Int32).toUInt32 &&& Int32.toUInt32 31)).toInt32) &&& 858993459)) + (((((p0 - (((p0.toUInt32 >>> ((1 : Int32).toUInt32 &&& Int32.toUInt32 31)).toInt32) &&& 1431655765)) &&& 858993459) + ((((p0 - (((p0.toUInt32 >>> ((1 : Int32).toUInt32 &&& Int32.toUInt32 31)).toInt32) &&& 1431655765)).toUInt32 >>> ((2 : Int32).toUInt32 &&& Int32.toUInt32 31)).toInt32) &&& 858993459)).toUInt32 >>> ((4 : Int32).toUInt32 &&& Int32.toUInt32 31)).toInt32)) &&& 252645135) + (((((((p0 - (((p0.toUInt32 >>> ((1 : Int32).toUInt32 &&& Int32.toUInt32 31)).toInt32) &&& 1431655765)) &&& 858993459) + ((((p0 - (((p0.toUInt32 >>> ((1 : Int32).toUInt32 &&& Int32.toUInt32 31)).toInt32) &&& 1431655765)).toUInt32 >>> ((2 : Int32).toUInt32 &&& Int32.toUInt32 31)).toInt32) &&& 858993459)) + (((((p0 - (((p0.toUInt32 >>> ((1 : Int32).toUInt32 &&& Int32.toUInt32 31)).toInt32) &&& 1431655765)) &&& 858993459) + ((((p0 - (((p0.toUInt32 >>> ((1 : Int32).toUInt32 &&& Int32.toUInt32 31)).toInt32) &&& 1431655765)).toUInt32 >>> ((2 : Int32).toUInt32 &&& Int32.toUInt32 31)).toInt32) &&& 858993459)).toUInt32 >>> ((4 : Int32).toUInt32 &&& Int32.toUInt32 31)).toInt32)) &&& 252645135).toUInt32 >>> ((8 : Int32).toUInt32 &&& Int32.toUInt32 31)).toInt32)) + ((((((((p0 - (((p0.toUInt32 >>> ((1 : Int32).toUInt32 &&& Int32.toUInt32 31)).toInt32) &&& 1431655765)) &&& 858993459) + ((((p0 - (((p0.toUInt32 >>> ((1 : Int32).toUInt32 &&& Int32.toUInt32 31)).toInt32) &&& 1431655765)).toUInt32 >>> ((2 : Int32).toUInt32 &&& Int32.toUInt32 31)).toInt32) &&& 858993459)) + (((((p0 - (((p0.toUInt32 >>> ((1 : Int32).toUInt32 &&& Int32.toUInt32 31)).toInt32) &&& 1431655765)) &&& 858993459) + ((((p0 - (((p0.toUInt32 >>> ((1 : Int32).toUInt32 &&& Int32.toUInt32 31)).toInt32) &&& 1431655765)).toUInt32 >>> ((2 : Int32).toUInt32 &&& Int32.toUInt32 31)).toInt32) &&& 858993459)).toUInt32 >>> ((4 : Int32).toUInt32 &&& Int32.toUInt32 31)).toInt32)) &&& 252645135) + (((((((p0 - (((p0.toUInt32 >>> ((1 : Int32).toUInt32 &&& Int32.toUInt32 31)).toInt32) &&& 1431655765)) &&& 858993459) + ((((p0 - (((p0.toUInt32 >>> ((1 : Int32).toUInt32 &&& Int32.toUInt32 31)).toInt32) &&& 1431655765)).toUInt32 >>> ((2 : Int32).toUInt32 &&& Int32.toUInt32 31)).toInt32) &&& 858993459)) + (((((p0 - (((p0.toUInt32 >>> ((1 : Int32).toUInt32 &&& Int32.toUInt32 31)).toInt32) &&& 1431655765)) &&& 858993459) + ((((p0 - (((p0.toUInt32 >>> ((1 : Int32).toUInt32 &&& Int32.toUInt32 31)).toInt32) &&& 1431655765)).toUInt32 >>> ((2 : Int32).toUInt32 &&& Int32.toUInt32 31)).toInt32) &&& 858993459)).toUInt32 >>> ((4 : Int32).toUInt32 &&& Int32.toUInt32 31)).toInt32)) &&& 252645135).toUInt32 >>> ((8 : Int32).toUInt32 &&& Int32.toUInt32 31)).toInt32)).toUInt32 >>> ((16 : Int32).toUInt32 &&& Int32.toUInt32 31)).toInt32)))], [.int ((((((((p0 - (((p0.toUInt32 >>> ((1 : Int32).toUInt32 &&& Int32.toUInt32 31)).toInt32) &&& 1431655765)) &&& 858993459) + ((((p0 - (((p0.toUInt32 >>> ((1 : Int32).toUInt32 &&& Int32.toUInt32 31)).toInt32) &&& 1431655765)).toUInt32 >>> ((2 : Int32).toUInt32 &&& Int32.toUInt32 31)).toInt32) &&& 858993459)) + (((((p0 - (((p0.toUInt32 >>> ((1 : Int32).toUInt32 &&& Int32.toUInt32 31)).toInt32) &&& 1431655765)) &&& 858993459) + ((((p0 - (((p0.toUInt32 >>> ((1 : Int32).toUInt32 &&& Int32.toUInt32 31)).toInt32) &&& 1431655765)).toUInt32 >>> ((2 : Int32).toUInt32 &&& Int32.toUInt32 31)).toInt32) &&& 858993459)).toUInt32 >>> ((4 : Int32).toUInt32 &&& Int32.toUInt32 31)).toInt32)) &&& 252645135) + (((((((p0 - (((p0.toUInt32 >>> ((1 : Int32).toUInt32 &&& Int32.toUInt32 31)).toInt32) &&& 1431655765)) &&& 858993459) + ((((p0 - (((p0.toUInt32 >>> ((1 : Int32).toUInt32 &&& Int32.toUInt32 31)).toInt32) &&& 1431655765)).toUInt32 >>> ((2 : Int32).toUInt32 &&& Int32.toUInt32 31)).toInt32) &&& 858993459)) + (((((p0 - (((p0.toUInt32 >>> ((1 : Int32).toUInt32 &&& Int32.toUInt32 31)).toInt32) &&& 1431655765)) &&& 858993459) + ((((p0 - (((p0.toUInt32 >>> ((1 : Int32).toUInt32 &&& Int32.toUInt32 31)).toInt32) &&& 1431655765)).toUInt32 >>> ((2 : Int32).toUInt32 &&& Int32.toUInt32 31)).toInt32) &&& 858993459)).toUInt32 >>> ((4 : Int32).toUInt32 &&& Int32.toUInt32 31)).toInt32)) &&& 252645135).toUInt32 >>> ((8 : Int32).toUInt32 &&& Int32.toUInt32 31)).toInt32)) + ((((((((p0 - (((p0.toUInt32 >>> ((1 : Int32).toUInt32 &&& Int32.toUInt32 31)).toInt32) &&& 1431655765)) &&& 858993459) + ((((p0 - (((p0.toUInt32 >>> ((1 : Int32).toUInt32 &&& Int32.toUInt32 31)).toInt32) &&& 1431655765)).toUInt32 >>> ((2 : Int32).toUInt32 &&& Int32.toUInt32 31)).toInt32) &&& 858993459)) + (((((p0 - (((p0.toUInt32 >>> ((1 : Int32).toUInt32 &&& Int32.toUInt32 31)).toInt32) &&& 1431655765)) &&& 858993459) + ((((p0 - (((p0.toUInt32 >>> ((1 : Int32).toUInt32 &&& Int32.toUInt32 31)).toInt32) &&& 1431655765)).toUInt32 >>> ((2 : Int32).toUInt32 &&& Int32.toUInt32 31)).toInt32) &&& 858993459)).toUInt32 >>> ((4 : Int32).toUInt32 &&& Int32.toUInt32 31)).toInt32)) &&& 252645135) + (((((((p0 - (((p0.toUInt32 >>> ((1 : Int32).toUInt32 &&& Int32.toUInt32 31)).toInt32) &&& 1431655765)) &&& 858993459) + ((((p0 - (((p0.toUInt32 >>> ((1 : Int32).toUInt32 &&& Int32.toUInt32 31)).toInt32) &&& 1431655765)).toUInt32 >>> ((2 : Int32).toUInt32 &&& Int32.toUInt32 31)).toInt32) &&& 858993459)) + (((((p0 - (((p0.toUInt32 >>> ((1 : Int32).toUInt32 &&& Int32.toUInt32 31)).toInt32) &&& 1431655765)) &&& 858993459) + ((((p0 - (((p0.toUInt32 >>> ((1 : Int32).toUInt32 &&& Int32.toUInt32 31)).toInt32) &&& 1431655765)).toUInt32 >>> ((2 : Int32).toUInt32 &&& Int32.toUInt32 31)).toInt32) &&& 858993459)).toUInt32 >>> ((4 : Int32).toUInt32 &&& Int32.toUInt32 31)).toInt32)) &&& 252645135).toUInt32 >>> ((8 : Int32).toUInt32 &&& Int32.toUInt32 31)).toInt32)).toUInt32 >>> ((16 : Int32).toUInt32 &&& Int32.toUInt32 31)).toInt32)) &&& 63)], M)) rfl trivial ?_
  cases h
  exact am_R.ret rfl rfl trivial
def f_X7_bestSong_7B (N : Nat) (v1 : Int32) (k7 : Int32 → Int32 → Int32 → am_M → Option (Except Nat (Option Value) × am_M)) (v2 : Int32) (v3 : Int32) (v4 : Int32) (M : am_M) : Option (Except Nat (Option Value) × am_M) :=
  if 4096 ≤ v4 then
    some (.ok (some (.int v2)), M)
  else
    am_bi (f_cJ6_bitCount N v4 M) fun r17 M17 =>
      if r17 = v1 then
        am_bv (f_X7_findPeak N v4 M17) fun M27 =>
          if (M27 63 0) ≤ v3 then
            k7 v2 v3 (v4 + 1) M27
          else
            k7 v4 (M27 63 0) (v4 + 1) M27
      else
        k7 v2 v3 (v4 + 1) M17
def f_X7_bestSong_7 (N : Nat) (v1 : Int32) : Nat → Int32 → Int32 → Int32 → am_M → Option (Except Nat (Option Value) × am_M)
  | 0 => fun _ _ _ _ => none
  | n + 1 => f_X7_bestSong_7B N v1 (f_X7_bestSong_7 N v1 n)
set_option maxRecDepth 100000 in
theorem t_X7_bestSong_7B (z : Value) (N : Nat) (v1 : Int32) {r : Except Nat (Option Value)} {M' : am_M} (k7 : Int32 → Int32 → Int32 → am_M → Option (Except Nat (Option Value) × am_M)) (hk7 : ∀ (v2 : Int32) (v3 : Int32) (v4 : Int32) (M : am_M), k7 v2 v3 v4 M = some (r, M') → cR z me_X7_bestSong (7, [some (.ref 63), some (.int v1), some (.int v2), some (.int v3), some (.int v4)], [], M) r M') (v2 : Int32) (v3 : Int32) (v4 : Int32) (M : am_M) (h : f_X7_bestSong_7B N v1 k7 v2 v3 v4 M = some (r, M')) : cR z me_X7_bestSong (7, [some (.ref 63), some (.int v1), some (.int v2), some (.int v3), some (.int v4)], [], M) r M' := by
  unfold f_X7_bestSong_7B at h
  refine am_R.go 2 (q' := (12, [some (.ref 63), some (.int v1), some (.int v2), some (.int v3), some (.int v4)], [.int 4096, .int v4], M)) rfl trivial ?_
  rcases am_it h with ⟨hc, h⟩ | ⟨hc, h⟩
  · refine am_R.bt rfl rfl hc ?_
    refine am_R.go 1 (q' := (53, [some (.ref 63), some (.int v1), some (.int v2), some (.int v3), some (.int v4)], [.int v2], M)) rfl trivial ?_
    cases h
    exact am_R.ret rfl rfl trivial
  · refine am_R.bn rfl rfl hc ?_
    refine am_R.go 1 (q' := (17, [some (.ref 63), some (.int v1), some (.int v2), some (.int v3), some (.int v4)], [.int v4], M)) rfl trivial ?_
    obtain ⟨r17, M17, hz, h⟩ := am_bi_s h
    refine am_R.call (e' := me_J6_bitCount_0f7a4) (as := [.int v4]) (rest := []) rfl rfl (Nat.le_of_ble_eq_true rfl) (t_cJ6_bitCount z N v4 _ hz) ?_
    refine am_R.go 1 (q' := (21, [some (.ref 63), some (.int v1), some (.int v2), some (.int v3), some (.int v4)], [.int v1, .int r17], M17)) rfl trivial ?_
    rcases am_it h with ⟨hc, h⟩ | ⟨hc, h⟩
    · refine am_R.bn rfl rfl (fun q => q hc) ?_
      refine am_R.go 2 (q' := (27, [some (.ref 63), some (.int v1), some (.int v2), some (.int v3), some (.int v4)], [.int v4, .ref 63], M17)) rfl trivial ?_
      obtain ⟨M27, hz, h⟩ := am_bv_s h
      refine am_R.call (e' := me_X7_findPeak) (as := [.ref 63, .int v4]) (rest := []) rfl rfl (Nat.le_of_ble_eq_true rfl) (t_X7_findPeak z N v4 _ hz) ?_
      refine am_R.go 3 (q' := (35, [some (.ref 63), some (.int v1), some (.int v2), some (.int v3), some (.int v4)], [.int v3, .int (M27 63 0)], M27)) rfl trivial ?_
      rcases am_it h with ⟨hc, h⟩ | ⟨hc, h⟩
      · refine am_R.bt rfl rfl hc ?_
        refine am_R.go 2 (q' := (7, [some (.ref 63), some (.int v1), some (.int v2), some (.int v3), some (.int (v4 + 1))], [], M27)) rfl trivial ?_
        exact hk7 v2 v3 (v4 + 1) _ h
      · refine am_R.bn rfl rfl hc ?_
        refine am_R.go 7 (q' := (7, [some (.ref 63), some (.int v1), some (.int v4), some (.int (M27 63 0)), some (.int (v4 + 1))], [], M27)) rfl trivial ?_
        exact hk7 v4 (M27 63 0) (v4 + 1) _ h
    · refine am_R.bt rfl rfl hc ?_
      refine am_R.go 2 (q' := (7, [some (.ref 63), some (.int v1), some (.int v2), some (.int v3), some (.int (v4 + 1))], [], M17)) rfl trivial ?_
      exact hk7 v2 v3 (v4 + 1) _ h
set_option maxRecDepth 100000 in
theorem t_X7_bestSong_7 (z : Value) (N : Nat) (v1 : Int32) {r : Except Nat (Option Value)} {M' : am_M} : ∀ (n : Nat) (v2 : Int32) (v3 : Int32) (v4 : Int32) (M : am_M), f_X7_bestSong_7 N v1 n v2 v3 v4 M = some (r, M') → cR z me_X7_bestSong (7, [some (.ref 63), some (.int v1), some (.int v2), some (.int v3), some (.int v4)], [], M) r M' := by
  intro n
  induction n with
  | zero => intro v2 v3 v4 M h; cases h
  | succ n ih => intro v2 v3 v4 M h; exact t_X7_bestSong_7B z N v1 _ ih v2 v3 v4 M h
def f_X7_bestSong (N : Nat) (p1 : Int32) (M : am_M) : Option (Except Nat (Option Value) × am_M) :=
  f_X7_bestSong_7 N p1 N (-1) (-1) 0 M
set_option maxRecDepth 100000 in
theorem t_X7_bestSong (z : Value) (N : Nat) (p1 : Int32) (M : am_M) {r : Except Nat (Option Value)} {M' : am_M} (h : f_X7_bestSong N p1 M = some (r, M')) : cR z me_X7_bestSong (0, [some (.ref 63), some (.int p1), none, none, none], [], M) r M' := by
  unfold f_X7_bestSong at h
  refine am_R.go 6 (q' := (7, [some (.ref 63), some (.int p1), some (.int (-1)), some (.int (-1)), some (.int 0)], [], M)) rfl trivial ?_
  exact t_X7_bestSong_7 z N p1 N (-1) (-1) 0 _ h
def f_X9_compose (N : Nat) (p1 : Int32) (p2 : Int32) (p3 : Int32) (M : am_M) : Option (Except Nat (Option Value) × am_M) :=
  am_bvx (f_X9_needCell N p1 p2 M) fun M3 =>
    am_bvx (f_X9_needBetween N p3 1 12 M3) fun M11 =>
      am_bv (f_X7_listen N p1 p2 M11) fun M20 =>
        am_bi (f_X7_bestSong N p3 M20) fun r28 M28 =>
          some (.ok (some (.int r28)), M28)
set_option maxRecDepth 100000 in
theorem t_X9_compose (z : Value) (N : Nat) (p1 : Int32) (p2 : Int32) (p3 : Int32) (M : am_M) {r : Except Nat (Option Value)} {M' : am_M} (h : f_X9_compose N p1 p2 p3 M = some (r, M')) : cR z me_X9_compose (0, [some (.ref 0), some (.int p1), some (.int p2), some (.int p3)], [], M) r M' := by
  unfold f_X9_compose at h
  refine am_R.go 3 (q' := (3, [some (.ref 0), some (.int p1), some (.int p2), some (.int p3)], [.int p2, .int p1, .ref 0], M)) rfl trivial ?_
  rcases am_bvx_s h with ⟨M3, hz, h⟩ | ⟨x, M3, hz, h⟩
  · refine am_R.call (e' := me_X9_needCell) (as := [.ref 0, .int p1, .int p2]) (rest := []) rfl rfl (Nat.le_of_ble_eq_true rfl) (t_X9_needCell z N p1 p2 _ hz) ?_
    refine am_R.go 4 (q' := (11, [some (.ref 0), some (.int p1), some (.int p2), some (.int p3)], [.int 12, .int 1, .int p3, .ref 0], M3)) rfl trivial ?_
    rcases am_bvx_s h with ⟨M11, hz, h⟩ | ⟨x, M11, hz, h⟩
    · refine am_R.call (e' := me_X9_needBetween) (as := [.ref 0, .int p3, .int 1, .int 12]) (rest := []) rfl rfl (Nat.le_of_ble_eq_true rfl) (t_X9_needBetween z N p3 1 12 _ hz) ?_
      refine am_R.go 4 (q' := (20, [some (.ref 0), some (.int p1), some (.int p2), some (.int p3)], [.int p2, .int p1, .ref 63], M11)) rfl trivial ?_
      obtain ⟨M20, hz, h⟩ := am_bv_s h
      refine am_R.call (e' := me_X7_listen) (as := [.ref 63, .int p1, .int p2]) (rest := []) rfl rfl (Nat.le_of_ble_eq_true rfl) (t_X7_listen z N p1 p2 _ hz) ?_
      refine am_R.go 3 (q' := (28, [some (.ref 0), some (.int p1), some (.int p2), some (.int p3)], [.int p3, .ref 63], M20)) rfl trivial ?_
      obtain ⟨r28, M28, hz, h⟩ := am_bi_s h
      refine am_R.call (e' := me_X7_bestSong) (as := [.ref 63, .int p3]) (rest := []) rfl rfl (Nat.le_of_ble_eq_true rfl) (t_X7_bestSong z N p3 _ hz) ?_
      cases h
      exact am_R.ret rfl rfl trivial
    · cases h
      exact am_R.callx (e' := me_X9_needBetween) (as := [.ref 0, .int p3, .int 1, .int 12]) (rest := []) rfl rfl (Nat.le_of_ble_eq_true rfl) rfl (t_X9_needBetween z N p3 1 12 _ hz)
  · cases h
    exact am_R.callx (e' := me_X9_needCell) (as := [.ref 0, .int p1, .int p2]) (rest := []) rfl rfl (Nat.le_of_ble_eq_true rfl) rfl (t_X9_needCell z N p1 p2 _ hz)
def f_X8_isFull_16 (N : Nat) (M : am_M) : Option (Except Nat (Option Value) × am_M) :=
  if (M 16 3) < (M 16 2) then
    some (.ok (some (.int 0)), M)
  else
    some (.ok (some (.int 1)), M)
set_option maxRecDepth 100000 in
theorem t_X8_isFull_16 (z : Value) (N : Nat) (M : am_M) {r : Except Nat (Option Value)} {M' : am_M} (h : f_X8_isFull_16 N M = some (r, M')) : cR z me_X8_isFull (0, [some (.ref 16)], [], M) r M' := by
  unfold f_X8_isFull_16 at h
  refine am_R.go 4 (q' := (8, [some (.ref 16)], [.int (M 16 2), .int (M 16 3)], M)) rfl trivial ?_
  rcases am_it h with ⟨hc, h⟩ | ⟨hc, h⟩
  · refine am_R.bt rfl rfl hc ?_
    refine am_R.go 1 (q' := (16, [some (.ref 16)], [.int 0], M)) rfl trivial ?_
    cases h
    exact am_R.ret rfl rfl (Or.inl rfl)
  · refine am_R.bn rfl rfl hc ?_
    refine am_R.go 2 (q' := (16, [some (.ref 16)], [.int 1], M)) rfl trivial ?_
    cases h
    exact am_R.ret rfl rfl (Or.inr rfl)
def f_X8_open_16 (N : Nat) (M : am_M) : Option (Except Nat (Option Value) × am_M) :=
  am_bi (f_X8_isFull_16 N M) fun r1 M1 =>
    if r1 = 0 then
      some (.ok (some (.int (((M1 16 3) + 1) - 1))), am_up M1 16 3 ((M1 16 3) + 1))
    else
      some (.ok (some (.int (-1))), M1)
set_option maxRecDepth 100000 in
theorem t_X8_open_16 (z : Value) (N : Nat) (M : am_M) {r : Except Nat (Option Value)} {M' : am_M} (h : f_X8_open_16 N M = some (r, M')) : cR z me_X8_open (0, [some (.ref 16)], [], M) r M' := by
  unfold f_X8_open_16 at h
  refine am_R.go 1 (q' := (1, [some (.ref 16)], [.ref 16], M)) rfl trivial ?_
  obtain ⟨r1, M1, hz, h⟩ := am_bi_s h
  refine am_R.call (e' := me_X8_isFull) (as := [.ref 16]) (rest := []) rfl rfl (Nat.le_of_ble_eq_true rfl) (t_X8_isFull_16 z N _ hz) ?_
  rcases am_it h with ⟨hc, h⟩ | ⟨hc, h⟩
  · refine am_R.ct rfl rfl hc ?_
    refine am_R.go 10 (q' := (25, [some (.ref 16)], [.int (((M1 16 3) + 1) - 1)], am_up M1 16 3 ((M1 16 3) + 1))) rfl trivial ?_
    cases h
    exact am_R.ret rfl rfl trivial
  · refine am_R.cn rfl rfl hc ?_
    refine am_R.go 1 (q' := (8, [some (.ref 16)], [.int (-1)], M1)) rfl trivial ?_
    cases h
    exact am_R.ret rfl rfl trivial
def f_X8_has_16 (N : Nat) (p1 : Int32) (p2 : Int32) (M : am_M) : Option (Except Nat (Option Value) × am_M) :=
  if p1 < 0 then
    some (.ok (some (.int 0)), M)
  else
    if (M 16 3) ≤ p1 then
      some (.ok (some (.int 0)), M)
    else
      if p2 < 0 then
        some (.ok (some (.int 0)), M)
      else
        if (M 16 1) ≤ p2 then
          some (.ok (some (.int 0)), M)
        else
          some (.ok (some (.int 1)), M)
set_option maxRecDepth 100000 in
theorem t_X8_has_16 (z : Value) (N : Nat) (p1 : Int32) (p2 : Int32) (M : am_M) {r : Except Nat (Option Value)} {M' : am_M} (h : f_X8_has_16 N p1 p2 M = some (r, M')) : cR z me_X8_has (0, [some (.ref 16), some (.int p1), some (.int p2)], [], M) r M' := by
  unfold f_X8_has_16 at h
  refine am_R.go 1 (q' := (1, [some (.ref 16), some (.int p1), some (.int p2)], [.int p1], M)) rfl trivial ?_
  rcases am_it h with ⟨hc, h⟩ | ⟨hc, h⟩
  · refine am_R.ct rfl rfl hc ?_
    refine am_R.go 1 (q' := (29, [some (.ref 16), some (.int p1), some (.int p2)], [.int 0], M)) rfl trivial ?_
    cases h
    exact am_R.ret rfl rfl (Or.inl rfl)
  · refine am_R.cn rfl rfl hc ?_
    refine am_R.go 3 (q' := (9, [some (.ref 16), some (.int p1), some (.int p2)], [.int (M 16 3), .int p1], M)) rfl trivial ?_
    rcases am_it h with ⟨hc, h⟩ | ⟨hc, h⟩
    · refine am_R.bt rfl rfl hc ?_
      refine am_R.go 1 (q' := (29, [some (.ref 16), some (.int p1), some (.int p2)], [.int 0], M)) rfl trivial ?_
      cases h
      exact am_R.ret rfl rfl (Or.inl rfl)
    · refine am_R.bn rfl rfl hc ?_
      refine am_R.go 1 (q' := (13, [some (.ref 16), some (.int p1), some (.int p2)], [.int p2], M)) rfl trivial ?_
      rcases am_it h with ⟨hc, h⟩ | ⟨hc, h⟩
      · refine am_R.ct rfl rfl hc ?_
        refine am_R.go 1 (q' := (29, [some (.ref 16), some (.int p1), some (.int p2)], [.int 0], M)) rfl trivial ?_
        cases h
        exact am_R.ret rfl rfl (Or.inl rfl)
      · refine am_R.cn rfl rfl hc ?_
        refine am_R.go 3 (q' := (21, [some (.ref 16), some (.int p1), some (.int p2)], [.int (M 16 1), .int p2], M)) rfl trivial ?_
        rcases am_it h with ⟨hc, h⟩ | ⟨hc, h⟩
        · refine am_R.bt rfl rfl hc ?_
          refine am_R.go 1 (q' := (29, [some (.ref 16), some (.int p1), some (.int p2)], [.int 0], M)) rfl trivial ?_
          cases h
          exact am_R.ret rfl rfl (Or.inl rfl)
        · refine am_R.bn rfl rfl hc ?_
          refine am_R.go 2 (q' := (29, [some (.ref 16), some (.int p1), some (.int p2)], [.int 1], M)) rfl trivial ?_
          cases h
          exact am_R.ret rfl rfl (Or.inr rfl)
def f_X8_put_16 (N : Nat) (p1 : Int32) (p2 : Int32) (p3 : Int32) (M : am_M) : Option (Except Nat (Option Value) × am_M) :=
  am_bi (f_X8_has_16 N p1 p2 M) fun r3 M3 =>
    if r3 = 0 then
      some (.ok none, M3)
    else
      if am_in ((p1 * (M3 16 1)) + p2) 36 then
        some (.ok none, am_up M3 17 (((p1 * (M3 16 1)) + p2).toNatClampNeg) p3)
      else none
set_option maxRecDepth 100000 in
theorem t_X8_put_16 (z : Value) (N : Nat) (p1 : Int32) (p2 : Int32) (p3 : Int32) (M : am_M) {r : Except Nat (Option Value)} {M' : am_M} (h : f_X8_put_16 N p1 p2 p3 M = some (r, M')) : cR z me_X8_put (0, [some (.ref 16), some (.int p1), some (.int p2), some (.int p3)], [], M) r M' := by
  unfold f_X8_put_16 at h
  refine am_R.go 3 (q' := (3, [some (.ref 16), some (.int p1), some (.int p2), some (.int p3)], [.int p2, .int p1, .ref 16], M)) rfl trivial ?_
  obtain ⟨r3, M3, hz, h⟩ := am_bi_s h
  refine am_R.call (e' := me_X8_has) (as := [.ref 16, .int p1, .int p2]) (rest := []) rfl rfl (Nat.le_of_ble_eq_true rfl) (t_X8_has_16 z N p1 p2 _ hz) ?_
  rcases am_it h with ⟨hc, h⟩ | ⟨hc, h⟩
  · refine am_R.ct rfl rfl hc ?_
    cases h
    exact am_R.ret rfl rfl trivial
  · refine am_R.cn rfl rfl hc ?_
    obtain ⟨hC, h⟩ := am_gd h
    refine am_R.go 10 (q' := (23, [some (.ref 16), some (.int p1), some (.int p2), some (.int p3)], [], am_up M3 17 (((p1 * (M3 16 1)) + p2).toNatClampNeg) p3)) rfl ⟨hC, trivial⟩ ?_
    cases h
    exact am_R.ret rfl rfl trivial
def f_X9_book (N : Nat) (p1 : Int32) (p2 : Int32) (p3 : Int32) (p4 : Int32) (M : am_M) : Option (Except Nat (Option Value) × am_M) :=
  am_bvx (f_X9_needCell N p1 p2 M) fun M3 =>
    am_bvx (f_X9_needBetween N p3 1 99 M3) fun M11 =>
      am_bvx (f_X9_needBetween N p4 0 24 M11) fun M20 =>
        am_bi (f_X8_isFull_16 N M20) fun r30 M30 =>
          if r30 = 0 then
            am_bi (f_X8_open_16 N M30) fun r45 M45 =>
              am_bv (f_X8_put_16 N r45 0 p1 M45) fun M61 =>
                am_bv (f_X8_put_16 N r45 1 p2 M61) fun M75 =>
                  am_bv (f_X8_put_16 N r45 2 p3 M75) fun M89 =>
                    am_bv (f_X8_put_16 N r45 3 p4 M89) fun M104 =>
                      some (.ok (some (.int (M104 16 3))), M104)
          else
            some (.ok (some (.int (-1))), M30)
set_option maxRecDepth 100000 in
theorem t_X9_book (z : Value) (N : Nat) (p1 : Int32) (p2 : Int32) (p3 : Int32) (p4 : Int32) (M : am_M) {r : Except Nat (Option Value)} {M' : am_M} (h : f_X9_book N p1 p2 p3 p4 M = some (r, M')) : cR z me_X9_book (0, [some (.ref 0), some (.int p1), some (.int p2), some (.int p3), some (.int p4), none], [], M) r M' := by
  unfold f_X9_book at h
  refine am_R.go 3 (q' := (3, [some (.ref 0), some (.int p1), some (.int p2), some (.int p3), some (.int p4), none], [.int p2, .int p1, .ref 0], M)) rfl trivial ?_
  rcases am_bvx_s h with ⟨M3, hz, h⟩ | ⟨x, M3, hz, h⟩
  · refine am_R.call (e' := me_X9_needCell) (as := [.ref 0, .int p1, .int p2]) (rest := []) rfl rfl (Nat.le_of_ble_eq_true rfl) (t_X9_needCell z N p1 p2 _ hz) ?_
    refine am_R.go 4 (q' := (11, [some (.ref 0), some (.int p1), some (.int p2), some (.int p3), some (.int p4), none], [.int 99, .int 1, .int p3, .ref 0], M3)) rfl trivial ?_
    rcases am_bvx_s h with ⟨M11, hz, h⟩ | ⟨x, M11, hz, h⟩
    · refine am_R.call (e' := me_X9_needBetween) (as := [.ref 0, .int p3, .int 1, .int 99]) (rest := []) rfl rfl (Nat.le_of_ble_eq_true rfl) (t_X9_needBetween z N p3 1 99 _ hz) ?_
      refine am_R.go 4 (q' := (20, [some (.ref 0), some (.int p1), some (.int p2), some (.int p3), some (.int p4), none], [.int 24, .int 0, .int p4, .ref 0], M11)) rfl trivial ?_
      rcases am_bvx_s h with ⟨M20, hz, h⟩ | ⟨x, M20, hz, h⟩
      · refine am_R.call (e' := me_X9_needBetween) (as := [.ref 0, .int p4, .int 0, .int 24]) (rest := []) rfl rfl (Nat.le_of_ble_eq_true rfl) (t_X9_needBetween z N p4 0 24 _ hz) ?_
        refine am_R.go 3 (q' := (30, [some (.ref 0), some (.int p1), some (.int p2), some (.int p3), some (.int p4), none], [.ref 16], M20)) rfl trivial ?_
        obtain ⟨r30, M30, hz, h⟩ := am_bi_s h
        refine am_R.call (e' := me_X8_isFull) (as := [.ref 16]) (rest := []) rfl rfl (Nat.le_of_ble_eq_true rfl) (t_X8_isFull_16 z N _ hz) ?_
        rcases am_it h with ⟨hc, h⟩ | ⟨hc, h⟩
        · refine am_R.ct rfl rfl hc ?_
          refine am_R.go 3 (q' := (45, [some (.ref 0), some (.int p1), some (.int p2), some (.int p3), some (.int p4), none], [.ref 16], M30)) rfl trivial ?_
          obtain ⟨r45, M45, hz, h⟩ := am_bi_s h
          refine am_R.call (e' := me_X8_open) (as := [.ref 16]) (rest := []) rfl rfl (Nat.le_of_ble_eq_true rfl) (t_X8_open_16 z N _ hz) ?_
          refine am_R.go 7 (q' := (61, [some (.ref 0), some (.int p1), some (.int p2), some (.int p3), some (.int p4), some (.int r45)], [.int p1, .int 0, .int r45, .ref 16], M45)) rfl trivial ?_
          obtain ⟨M61, hz, h⟩ := am_bv_s h
          refine am_R.call (e' := me_X8_put) (as := [.ref 16, .int r45, .int 0, .int p1]) (rest := []) rfl rfl (Nat.le_of_ble_eq_true rfl) (t_X8_put_16 z N r45 0 p1 _ hz) ?_
          refine am_R.go 6 (q' := (75, [some (.ref 0), some (.int p1), some (.int p2), some (.int p3), some (.int p4), some (.int r45)], [.int p2, .int 1, .int r45, .ref 16], M61)) rfl trivial ?_
          obtain ⟨M75, hz, h⟩ := am_bv_s h
          refine am_R.call (e' := me_X8_put) (as := [.ref 16, .int r45, .int 1, .int p2]) (rest := []) rfl rfl (Nat.le_of_ble_eq_true rfl) (t_X8_put_16 z N r45 1 p2 _ hz) ?_
          refine am_R.go 6 (q' := (89, [some (.ref 0), some (.int p1), some (.int p2), some (.int p3), some (.int p4), some (.int r45)], [.int p3, .int 2, .int r45, .ref 16], M75)) rfl trivial ?_
          obtain ⟨M89, hz, h⟩ := am_bv_s h
          refine am_R.call (e' := me_X8_put) (as := [.ref 16, .int r45, .int 2, .int p3]) (rest := []) rfl rfl (Nat.le_of_ble_eq_true rfl) (t_X8_put_16 z N r45 2 p3 _ hz) ?_
          refine am_R.go 6 (q' := (104, [some (.ref 0), some (.int p1), some (.int p2), some (.int p3), some (.int p4), some (.int r45)], [.int p4, .int 3, .int r45, .ref 16], M89)) rfl trivial ?_
          obtain ⟨M104, hz, h⟩ := am_bv_s h
          refine am_R.call (e' := me_X8_put) (as := [.ref 16, .int r45, .int 3, .int p4]) (rest := []) rfl rfl (Nat.le_of_ble_eq_true rfl) (t_X8_put_16 z N r45 3 p4 _ hz) ?_
          refine am_R.go 4 (q' := (117, [some (.ref 0), some (.int p1), some (.int p2), some (.int p3), some (.int p4), some (.int r45)], [.int (M104 16 3)], M104)) rfl trivial ?_
          cases h
          exact am_R.ret rfl rfl trivial
        · refine am_R.cn rfl rfl hc ?_
          refine am_R.go 1 (q' := (37, [some (.ref 0), some (.int p1), some (.int p2), some (.int p3), some (.int p4), none], [.int (-1)], M30)) rfl trivial ?_
          cases h
          exact am_R.ret rfl rfl trivial
      · cases h
        exact am_R.callx (e' := me_X9_needBetween) (as := [.ref 0, .int p4, .int 0, .int 24]) (rest := []) rfl rfl (Nat.le_of_ble_eq_true rfl) rfl (t_X9_needBetween z N p4 0 24 _ hz)
    · cases h
      exact am_R.callx (e' := me_X9_needBetween) (as := [.ref 0, .int p3, .int 1, .int 99]) (rest := []) rfl rfl (Nat.le_of_ble_eq_true rfl) rfl (t_X9_needBetween z N p3 1 99 _ hz)
  · cases h
    exact am_R.callx (e' := me_X9_needCell) (as := [.ref 0, .int p1, .int p2]) (rest := []) rfl rfl (Nat.le_of_ble_eq_true rfl) rfl (t_X9_needCell z N p1 p2 _ hz)
def f_X9_forget (N : Nat) (M : am_M) : Option (Except Nat (Option Value) × am_M) :=
  some (.ok (some (.int (M 16 3))), am_up M 16 3 0)
set_option maxRecDepth 100000 in
theorem t_X9_forget (z : Value) (N : Nat) (M : am_M) {r : Except Nat (Option Value)} {M' : am_M} (h : f_X9_forget N M = some (r, M')) : cR z me_X9_forget (0, [some (.ref 0), none], [], M) r M' := by
  unfold f_X9_forget at h
  refine am_R.go 11 (q' := (23, [some (.ref 0), some (.int (M 16 3))], [.int (M 16 3)], am_up M 16 3 0)) rfl trivial ?_
  cases h
  exact am_R.ret rfl rfl trivial
def f_X8_has_11 (N : Nat) (p1 : Int32) (p2 : Int32) (M : am_M) : Option (Except Nat (Option Value) × am_M) :=
  if p1 < 0 then
    some (.ok (some (.int 0)), M)
  else
    if (M 11 3) ≤ p1 then
      some (.ok (some (.int 0)), M)
    else
      if p2 < 0 then
        some (.ok (some (.int 0)), M)
      else
        if (M 11 1) ≤ p2 then
          some (.ok (some (.int 0)), M)
        else
          some (.ok (some (.int 1)), M)
set_option maxRecDepth 100000 in
theorem t_X8_has_11 (z : Value) (N : Nat) (p1 : Int32) (p2 : Int32) (M : am_M) {r : Except Nat (Option Value)} {M' : am_M} (h : f_X8_has_11 N p1 p2 M = some (r, M')) : cR z me_X8_has (0, [some (.ref 11), some (.int p1), some (.int p2)], [], M) r M' := by
  unfold f_X8_has_11 at h
  refine am_R.go 1 (q' := (1, [some (.ref 11), some (.int p1), some (.int p2)], [.int p1], M)) rfl trivial ?_
  rcases am_it h with ⟨hc, h⟩ | ⟨hc, h⟩
  · refine am_R.ct rfl rfl hc ?_
    refine am_R.go 1 (q' := (29, [some (.ref 11), some (.int p1), some (.int p2)], [.int 0], M)) rfl trivial ?_
    cases h
    exact am_R.ret rfl rfl (Or.inl rfl)
  · refine am_R.cn rfl rfl hc ?_
    refine am_R.go 3 (q' := (9, [some (.ref 11), some (.int p1), some (.int p2)], [.int (M 11 3), .int p1], M)) rfl trivial ?_
    rcases am_it h with ⟨hc, h⟩ | ⟨hc, h⟩
    · refine am_R.bt rfl rfl hc ?_
      refine am_R.go 1 (q' := (29, [some (.ref 11), some (.int p1), some (.int p2)], [.int 0], M)) rfl trivial ?_
      cases h
      exact am_R.ret rfl rfl (Or.inl rfl)
    · refine am_R.bn rfl rfl hc ?_
      refine am_R.go 1 (q' := (13, [some (.ref 11), some (.int p1), some (.int p2)], [.int p2], M)) rfl trivial ?_
      rcases am_it h with ⟨hc, h⟩ | ⟨hc, h⟩
      · refine am_R.ct rfl rfl hc ?_
        refine am_R.go 1 (q' := (29, [some (.ref 11), some (.int p1), some (.int p2)], [.int 0], M)) rfl trivial ?_
        cases h
        exact am_R.ret rfl rfl (Or.inl rfl)
      · refine am_R.cn rfl rfl hc ?_
        refine am_R.go 3 (q' := (21, [some (.ref 11), some (.int p1), some (.int p2)], [.int (M 11 1), .int p2], M)) rfl trivial ?_
        rcases am_it h with ⟨hc, h⟩ | ⟨hc, h⟩
        · refine am_R.bt rfl rfl hc ?_
          refine am_R.go 1 (q' := (29, [some (.ref 11), some (.int p1), some (.int p2)], [.int 0], M)) rfl trivial ?_
          cases h
          exact am_R.ret rfl rfl (Or.inl rfl)
        · refine am_R.bn rfl rfl hc ?_
          refine am_R.go 2 (q' := (29, [some (.ref 11), some (.int p1), some (.int p2)], [.int 1], M)) rfl trivial ?_
          cases h
          exact am_R.ret rfl rfl (Or.inr rfl)
def f_X8_at_11 (N : Nat) (p1 : Int32) (p2 : Int32) (M : am_M) : Option (Except Nat (Option Value) × am_M) :=
  am_bi (f_X8_has_11 N p1 p2 M) fun r3 M3 =>
    if r3 = 0 then
      some (.ok (some (.int 0)), M3)
    else
      if am_in ((p1 * (M3 11 1)) + p2) 16 then
        some (.ok (some (.int (M3 12 (((p1 * (M3 11 1)) + p2).toNatClampNeg)))), M3)
      else none
set_option maxRecDepth 100000 in
theorem t_X8_at_11 (z : Value) (N : Nat) (p1 : Int32) (p2 : Int32) (M : am_M) {r : Except Nat (Option Value)} {M' : am_M} (h : f_X8_at_11 N p1 p2 M = some (r, M')) : cR z me_X8_at (0, [some (.ref 11), some (.int p1), some (.int p2)], [], M) r M' := by
  unfold f_X8_at_11 at h
  refine am_R.go 3 (q' := (3, [some (.ref 11), some (.int p1), some (.int p2)], [.int p2, .int p1, .ref 11], M)) rfl trivial ?_
  obtain ⟨r3, M3, hz, h⟩ := am_bi_s h
  refine am_R.call (e' := me_X8_has) (as := [.ref 11, .int p1, .int p2]) (rest := []) rfl rfl (Nat.le_of_ble_eq_true rfl) (t_X8_has_11 z N p1 p2 _ hz) ?_
  rcases am_it h with ⟨hc, h⟩ | ⟨hc, h⟩
  · refine am_R.ct rfl rfl hc ?_
    refine am_R.go 1 (q' := (26, [some (.ref 11), some (.int p1), some (.int p2)], [.int 0], M3)) rfl trivial ?_
    cases h
    exact am_R.ret rfl rfl trivial
  · refine am_R.cn rfl rfl hc ?_
    obtain ⟨hC, h⟩ := am_gd h
    refine am_R.go 10 (q' := (26, [some (.ref 11), some (.int p1), some (.int p2)], [.int (M3 12 (((p1 * (M3 11 1)) + p2).toNatClampNeg))], M3)) rfl ⟨hC, trivial⟩ ?_
    cases h
    exact am_R.ret rfl rfl trivial
def f_X8_cellAt_11 (N : Nat) (p1 : Int32) (M : am_M) : Option (Except Nat (Option Value) × am_M) :=
  am_bi (f_X8_at_11 N p1 0 M) fun r3 M3 =>
    am_bi (f_X8_at_11 N p1 1 M3) fun r9 M9 =>
      am_bi (f_X9_cellOf N r3 r9 M9) fun r12 M12 =>
        some (.ok (some (.int r12)), M12)
set_option maxRecDepth 100000 in
theorem t_X8_cellAt_11 (z : Value) (N : Nat) (p1 : Int32) (M : am_M) {r : Except Nat (Option Value)} {M' : am_M} (h : f_X8_cellAt_11 N p1 M = some (r, M')) : cR z me_X8_cellAt (0, [some (.ref 11), some (.int p1)], [], M) r M' := by
  unfold f_X8_cellAt_11 at h
  refine am_R.go 3 (q' := (3, [some (.ref 11), some (.int p1)], [.int 0, .int p1, .ref 11], M)) rfl trivial ?_
  obtain ⟨r3, M3, hz, h⟩ := am_bi_s h
  refine am_R.call (e' := me_X8_at) (as := [.ref 11, .int p1, .int 0]) (rest := []) rfl rfl (Nat.le_of_ble_eq_true rfl) (t_X8_at_11 z N p1 0 _ hz) ?_
  refine am_R.go 3 (q' := (9, [some (.ref 11), some (.int p1)], [.int 1, .int p1, .ref 11, .int r3], M3)) rfl trivial ?_
  obtain ⟨r9, M9, hz, h⟩ := am_bi_s h
  refine am_R.call (e' := me_X8_at) (as := [.ref 11, .int p1, .int 1]) (rest := [.int r3]) rfl rfl (Nat.le_of_ble_eq_true rfl) (t_X8_at_11 z N p1 1 _ hz) ?_
  obtain ⟨r12, M12, hz, h⟩ := am_bi_s h
  refine am_R.call (e' := me_X9_cellOf) (as := [.int r3, .int r9]) (rest := []) rfl rfl (Nat.le_of_ble_eq_true rfl) (t_X9_cellOf z N r3 r9 _ hz) ?_
  cases h
  exact am_R.ret rfl rfl trivial
def f_X2_raise_13_11_5B (N : Nat) (v2 : Int32) (k5 : Int32 → Int32 → am_M → Option (Except Nat (Option Value) × am_M)) (v3 : Int32) (v4 : Int32) (M : am_M) : Option (Except Nat (Option Value) × am_M) :=
  if (M 11 3) ≤ v4 then
    some (.ok (some (.int v3)), M)
  else
    am_bi (f_X8_cellAt_11 N v4 M) fun r17 M17 =>
      if ((v2 >>> (v4 &&& 31)) &&& 1) = 0 then
        k5 v3 (v4 + 1) M17
      else
        if am_in r17 100 then
          if (M17 14 (r17.toNatClampNeg)) = 0 then
            if am_in r17 100 then
              k5 (v3 ||| (1 <<< (v4 &&& 31))) (v4 + 1) (am_up M17 14 (r17.toNatClampNeg) 5)
            else none
          else
            k5 v3 (v4 + 1) M17
        else none
def f_X2_raise_13_11_5 (N : Nat) (v2 : Int32) : Nat → Int32 → Int32 → am_M → Option (Except Nat (Option Value) × am_M)
  | 0 => fun _ _ _ => none
  | n + 1 => f_X2_raise_13_11_5B N v2 (f_X2_raise_13_11_5 N v2 n)
set_option maxRecDepth 100000 in
theorem t_X2_raise_13_11_5B (z : Value) (N : Nat) (v2 : Int32) {r : Except Nat (Option Value)} {M' : am_M} (k5 : Int32 → Int32 → am_M → Option (Except Nat (Option Value) × am_M)) (hk5 : ∀ (v3 : Int32) (v4 : Int32) (d5 : Option Value) (M : am_M), k5 v3 v4 M = some (r, M') → cR z me_X2_raise (5, [some (.ref 13), some (.ref 11), some (.int v2), some (.int v3), some (.int v4), d5], [], M) r M') (v3 : Int32) (v4 : Int32) (d5 : Option Value) (M : am_M) (h : f_X2_raise_13_11_5B N v2 k5 v3 v4 M = some (r, M')) : cR z me_X2_raise (5, [some (.ref 13), some (.ref 11), some (.int v2), some (.int v3), some (.int v4), d5], [], M) r M' := by
  unfold f_X2_raise_13_11_5B at h
  refine am_R.go 3 (q' := (11, [some (.ref 13), some (.ref 11), some (.int v2), some (.int v3), some (.int v4), d5], [.int (M 11 3), .int v4], M)) rfl trivial ?_
  rcases am_it h with ⟨hc, h⟩ | ⟨hc, h⟩
  · refine am_R.bt rfl rfl hc ?_
    refine am_R.go 1 (q' := (63, [some (.ref 13), some (.ref 11), some (.int v2), some (.int v3), some (.int v4), d5], [.int v3], M)) rfl trivial ?_
    cases h
    exact am_R.ret rfl rfl trivial
  · refine am_R.bn rfl rfl hc ?_
    refine am_R.go 2 (q' := (17, [some (.ref 13), some (.ref 11), some (.int v2), some (.int v3), some (.int v4), d5], [.int v4, .ref 11], M)) rfl trivial ?_
    obtain ⟨r17, M17, hz, h⟩ := am_bi_s h
    refine am_R.call (e' := me_X8_cellAt) (as := [.ref 11, .int v4]) (rest := []) rfl rfl (Nat.le_of_ble_eq_true rfl) (t_X8_cellAt_11 z N v4 _ hz) ?_
    refine am_R.go 6 (q' := (28, [some (.ref 13), some (.ref 11), some (.int v2), some (.int v3), some (.int v4), some (.int r17)], [.int ((v2 >>> (v4 &&& 31)) &&& 1)], M17)) rfl trivial ?_
    rcases am_it h with ⟨hc, h⟩ | ⟨hc, h⟩
    · refine am_R.ct rfl rfl hc ?_
      refine am_R.go 2 (q' := (5, [some (.ref 13), some (.ref 11), some (.int v2), some (.int v3), some (.int (v4 + 1)), some (.int r17)], [], M17)) rfl trivial ?_
      exact hk5 v3 (v4 + 1) _ _ h
    · refine am_R.cn rfl rfl hc ?_
      obtain ⟨hC, h⟩ := am_gd h
      refine am_R.go 4 (q' := (38, [some (.ref 13), some (.ref 11), some (.int v2), some (.int v3), some (.int v4), some (.int r17)], [.int (M17 14 (r17.toNatClampNeg))], M17)) rfl ⟨hC, trivial⟩ ?_
      rcases am_it h with ⟨hc, h⟩ | ⟨hc, h⟩
      · refine am_R.cn rfl rfl (fun q => q hc) ?_
        obtain ⟨hC, h⟩ := am_gd h
        refine am_R.go 13 (q' := (5, [some (.ref 13), some (.ref 11), some (.int v2), some (.int (v3 ||| (1 <<< (v4 &&& 31)))), some (.int (v4 + 1)), some (.int r17)], [], am_up M17 14 (r17.toNatClampNeg) 5)) rfl ⟨hC, trivial⟩ ?_
        exact hk5 (v3 ||| (1 <<< (v4 &&& 31))) (v4 + 1) _ _ h
      · refine am_R.ct rfl rfl hc ?_
        refine am_R.go 2 (q' := (5, [some (.ref 13), some (.ref 11), some (.int v2), some (.int v3), some (.int (v4 + 1)), some (.int r17)], [], M17)) rfl trivial ?_
        exact hk5 v3 (v4 + 1) _ _ h
set_option maxRecDepth 100000 in
theorem t_X2_raise_13_11_5 (z : Value) (N : Nat) (v2 : Int32) {r : Except Nat (Option Value)} {M' : am_M} : ∀ (n : Nat) (v3 : Int32) (v4 : Int32) (d5 : Option Value) (M : am_M), f_X2_raise_13_11_5 N v2 n v3 v4 M = some (r, M') → cR z me_X2_raise (5, [some (.ref 13), some (.ref 11), some (.int v2), some (.int v3), some (.int v4), d5], [], M) r M' := by
  intro n
  induction n with
  | zero => intro v3 v4 d5 M h; cases h
  | succ n ih => intro v3 v4 d5 M h; exact t_X2_raise_13_11_5B z N v2 _ ih v3 v4 d5 M h
def f_X2_raise_13_11 (N : Nat) (p2 : Int32) (M : am_M) : Option (Except Nat (Option Value) × am_M) :=
  f_X2_raise_13_11_5 N p2 N 0 0 M
set_option maxRecDepth 100000 in
theorem t_X2_raise_13_11 (z : Value) (N : Nat) (p2 : Int32) (M : am_M) {r : Except Nat (Option Value)} {M' : am_M} (h : f_X2_raise_13_11 N p2 M = some (r, M')) : cR z me_X2_raise (0, [some (.ref 13), some (.ref 11), some (.int p2), none, none, none], [], M) r M' := by
  unfold f_X2_raise_13_11 at h
  refine am_R.go 4 (q' := (5, [some (.ref 13), some (.ref 11), some (.int p2), some (.int 0), some (.int 0), none], [], M)) rfl trivial ?_
  exact t_X2_raise_13_11_5 z N p2 N 0 0 _ _ h
def f_X8_at_16 (N : Nat) (p1 : Int32) (p2 : Int32) (M : am_M) : Option (Except Nat (Option Value) × am_M) :=
  am_bi (f_X8_has_16 N p1 p2 M) fun r3 M3 =>
    if r3 = 0 then
      some (.ok (some (.int 0)), M3)
    else
      if am_in ((p1 * (M3 16 1)) + p2) 36 then
        some (.ok (some (.int (M3 17 (((p1 * (M3 16 1)) + p2).toNatClampNeg)))), M3)
      else none
set_option maxRecDepth 100000 in
theorem t_X8_at_16 (z : Value) (N : Nat) (p1 : Int32) (p2 : Int32) (M : am_M) {r : Except Nat (Option Value)} {M' : am_M} (h : f_X8_at_16 N p1 p2 M = some (r, M')) : cR z me_X8_at (0, [some (.ref 16), some (.int p1), some (.int p2)], [], M) r M' := by
  unfold f_X8_at_16 at h
  refine am_R.go 3 (q' := (3, [some (.ref 16), some (.int p1), some (.int p2)], [.int p2, .int p1, .ref 16], M)) rfl trivial ?_
  obtain ⟨r3, M3, hz, h⟩ := am_bi_s h
  refine am_R.call (e' := me_X8_has) (as := [.ref 16, .int p1, .int p2]) (rest := []) rfl rfl (Nat.le_of_ble_eq_true rfl) (t_X8_has_16 z N p1 p2 _ hz) ?_
  rcases am_it h with ⟨hc, h⟩ | ⟨hc, h⟩
  · refine am_R.ct rfl rfl hc ?_
    refine am_R.go 1 (q' := (26, [some (.ref 16), some (.int p1), some (.int p2)], [.int 0], M3)) rfl trivial ?_
    cases h
    exact am_R.ret rfl rfl trivial
  · refine am_R.cn rfl rfl hc ?_
    obtain ⟨hC, h⟩ := am_gd h
    refine am_R.go 10 (q' := (26, [some (.ref 16), some (.int p1), some (.int p2)], [.int (M3 17 (((p1 * (M3 16 1)) + p2).toNatClampNeg))], M3)) rfl ⟨hC, trivial⟩ ?_
    cases h
    exact am_R.ret rfl rfl trivial
def f_X6_countAt_4B (N : Nat) (v1 : Int32) (k4 : Int32 → Int32 → am_M → Option (Except Nat (Option Value) × am_M)) (v2 : Int32) (v3 : Int32) (M : am_M) : Option (Except Nat (Option Value) × am_M) :=
  if (M 51 0) ≤ v3 then
    some (.ok (some (.int v2)), M)
  else
    if am_in v3 24 then
      if (M 52 (v3.toNatClampNeg)) = v1 then
        k4 (v2 + 1) (v3 + 1) M
      else
        k4 v2 (v3 + 1) M
    else none
def f_X6_countAt_4 (N : Nat) (v1 : Int32) : Nat → Int32 → Int32 → am_M → Option (Except Nat (Option Value) × am_M)
  | 0 => fun _ _ _ => none
  | n + 1 => f_X6_countAt_4B N v1 (f_X6_countAt_4 N v1 n)
set_option maxRecDepth 100000 in
theorem t_X6_countAt_4B (z : Value) (N : Nat) (v1 : Int32) {r : Except Nat (Option Value)} {M' : am_M} (k4 : Int32 → Int32 → am_M → Option (Except Nat (Option Value) × am_M)) (hk4 : ∀ (v2 : Int32) (v3 : Int32) (M : am_M), k4 v2 v3 M = some (r, M') → cR z me_X6_countAt (4, [some (.ref 51), some (.int v1), some (.int v2), some (.int v3)], [], M) r M') (v2 : Int32) (v3 : Int32) (M : am_M) (h : f_X6_countAt_4B N v1 k4 v2 v3 M = some (r, M')) : cR z me_X6_countAt (4, [some (.ref 51), some (.int v1), some (.int v2), some (.int v3)], [], M) r M' := by
  unfold f_X6_countAt_4B at h
  refine am_R.go 3 (q' := (9, [some (.ref 51), some (.int v1), some (.int v2), some (.int v3)], [.int (M 51 0), .int v3], M)) rfl trivial ?_
  rcases am_it h with ⟨hc, h⟩ | ⟨hc, h⟩
  · refine am_R.bt rfl rfl hc ?_
    refine am_R.go 1 (q' := (32, [some (.ref 51), some (.int v1), some (.int v2), some (.int v3)], [.int v2], M)) rfl trivial ?_
    cases h
    exact am_R.ret rfl rfl trivial
  · refine am_R.bn rfl rfl hc ?_
    obtain ⟨hC, h⟩ := am_gd h
    refine am_R.go 5 (q' := (19, [some (.ref 51), some (.int v1), some (.int v2), some (.int v3)], [.int v1, .int (M 52 (v3.toNatClampNeg))], M)) rfl ⟨hC, trivial⟩ ?_
    rcases am_it h with ⟨hc, h⟩ | ⟨hc, h⟩
    · refine am_R.bn rfl rfl (fun q => q hc) ?_
      refine am_R.go 3 (q' := (4, [some (.ref 51), some (.int v1), some (.int (v2 + 1)), some (.int (v3 + 1))], [], M)) rfl trivial ?_
      exact hk4 (v2 + 1) (v3 + 1) _ h
    · refine am_R.bt rfl rfl hc ?_
      refine am_R.go 2 (q' := (4, [some (.ref 51), some (.int v1), some (.int v2), some (.int (v3 + 1))], [], M)) rfl trivial ?_
      exact hk4 v2 (v3 + 1) _ h
set_option maxRecDepth 100000 in
theorem t_X6_countAt_4 (z : Value) (N : Nat) (v1 : Int32) {r : Except Nat (Option Value)} {M' : am_M} : ∀ (n : Nat) (v2 : Int32) (v3 : Int32) (M : am_M), f_X6_countAt_4 N v1 n v2 v3 M = some (r, M') → cR z me_X6_countAt (4, [some (.ref 51), some (.int v1), some (.int v2), some (.int v3)], [], M) r M' := by
  intro n
  induction n with
  | zero => intro v2 v3 M h; cases h
  | succ n ih => intro v2 v3 M h; exact t_X6_countAt_4B z N v1 _ ih v2 v3 M h
def f_X6_countAt (N : Nat) (p1 : Int32) (M : am_M) : Option (Except Nat (Option Value) × am_M) :=
  f_X6_countAt_4 N p1 N 0 0 M
set_option maxRecDepth 100000 in
theorem t_X6_countAt (z : Value) (N : Nat) (p1 : Int32) (M : am_M) {r : Except Nat (Option Value)} {M' : am_M} (h : f_X6_countAt N p1 M = some (r, M')) : cR z me_X6_countAt (0, [some (.ref 51), some (.int p1), none, none], [], M) r M' := by
  unfold f_X6_countAt at h
  refine am_R.go 4 (q' := (4, [some (.ref 51), some (.int p1), some (.int 0), some (.int 0)], [], M)) rfl trivial ?_
  exact t_X6_countAt_4 z N p1 N 0 0 _ h
