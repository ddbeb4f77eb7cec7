def f_X0_bookIsSo_10B (N : Nat) (k10 : Int32 → am_M → Option (Except Nat (Option Value) × am_M)) (v2 : Int32) (M : am_M) : Option (Except Nat (Option Value) × am_M) :=
  if (M 16 3) ≤ v2 then
    some (.ok (some (.int 1)), M)
  else
    am_bi (f_X8_at_16 N v2 0 M) fun r25 M25 =>
      am_bi (f_X8_at_16 N v2 1 M25) fun r31 M31 =>
        am_bv (f_X6_shout N r25 r31 (M31 2 2) 0 M31) fun M42 =>
          am_bi (f_X8_at_16 N v2 2 M42) fun r52 M52 =>
            am_bi (f_X6_countAt N r52 M52) fun r55 M55 =>
              am_bi (f_X8_at_16 N v2 3 M55) fun r61 M61 =>
                if r55 = r61 then
                  k10 (v2 + 1) M61
                else
                  some (.ok (some (.int 0)), M61)
def f_X0_bookIsSo_10 (N : Nat) : Nat → Int32 → am_M → Option (Except Nat (Option Value) × am_M)
  | 0 => fun _ _ => none
  | n + 1 => f_X0_bookIsSo_10B N (f_X0_bookIsSo_10 N n)
set_option maxRecDepth 100000 in
theorem t_X0_bookIsSo_10B (z : Value) (N : Nat) {r : Except Nat (Option Value)} {M' : am_M} (k10 : Int32 → am_M → Option (Except Nat (Option Value) × am_M)) (hk10 : ∀ (v2 : Int32) (M : am_M), k10 v2 M = some (r, M') → cR z me_X0_bookIsSo (10, [some (.ref 65), some (.ref 16), some (.int v2)], [], M) r M') (v2 : Int32) (M : am_M) (h : f_X0_bookIsSo_10B N k10 v2 M = some (r, M')) : cR z me_X0_bookIsSo (10, [some (.ref 65), some (.ref 16), some (.int v2)], [], M) r M' := by
  unfold f_X0_bookIsSo_10B at h
  refine am_R.go 3 (q' := (15, [some (.ref 65), some (.ref 16), some (.int v2)], [.int (M 16 3), .int v2], M)) rfl trivial ?_
  rcases am_it h with ⟨hc, h⟩ | ⟨hc, h⟩
  · refine am_R.bt rfl rfl hc ?_
    refine am_R.go 1 (q' := (76, [some (.ref 65), some (.ref 16), some (.int v2)], [.int 1], M)) rfl trivial ?_
    cases h
    exact am_R.ret rfl rfl (Or.inr rfl)
  · refine am_R.bn rfl rfl hc ?_
    refine am_R.go 5 (q' := (25, [some (.ref 65), some (.ref 16), some (.int v2)], [.int 0, .int v2, .ref 16, .ref 51], M)) rfl trivial ?_
    obtain ⟨r25, M25, hz, h⟩ := am_bi_s h
    refine am_R.call (e' := me_X8_at) (as := [.ref 16, .int v2, .int 0]) (rest := [.ref 51]) rfl rfl (Nat.le_of_ble_eq_true rfl) (t_X8_at_16 z N v2 0 _ hz) ?_
    refine am_R.go 3 (q' := (31, [some (.ref 65), some (.ref 16), some (.int v2)], [.int 1, .int v2, .ref 16, .int r25, .ref 51], M25)) rfl trivial ?_
    obtain ⟨r31, M31, hz, h⟩ := am_bi_s h
    refine am_R.call (e' := me_X8_at) (as := [.ref 16, .int v2, .int 1]) (rest := [.int r25, .ref 51]) rfl rfl (Nat.le_of_ble_eq_true rfl) (t_X8_at_16 z N v2 1 _ hz) ?_
    refine am_R.go 4 (q' := (42, [some (.ref 65), some (.ref 16), some (.int v2)], [.int 0, .int (M31 2 2), .int r31, .int r25, .ref 51], M31)) rfl trivial ?_
    obtain ⟨M42, hz, h⟩ := am_bv_s h
    refine am_R.call (e' := me_X6_shout) (as := [.ref 51, .int r25, .int r31, .int (M31 2 2), .int 0]) (rest := []) rfl rfl (Nat.le_of_ble_eq_true rfl) (t_X6_shout z N r25 r31 (M31 2 2) 0 _ hz) ?_
    refine am_R.go 5 (q' := (52, [some (.ref 65), some (.ref 16), some (.int v2)], [.int 2, .int v2, .ref 16, .ref 51], M42)) rfl trivial ?_
    obtain ⟨r52, M52, hz, h⟩ := am_bi_s h
    refine am_R.call (e' := me_X8_at) (as := [.ref 16, .int v2, .int 2]) (rest := [.ref 51]) rfl rfl (Nat.le_of_ble_eq_true rfl) (t_X8_at_16 z N v2 2 _ hz) ?_
    obtain ⟨r55, M55, hz, h⟩ := am_bi_s h
    refine am_R.call (e' := me_X6_countAt) (as := [.ref 51, .int r52]) (rest := []) rfl rfl (Nat.le_of_ble_eq_true rfl) (t_X6_countAt z N r52 _ hz) ?_
    refine am_R.go 3 (q' := (61, [some (.ref 65), some (.ref 16), some (.int v2)], [.int 3, .int v2, .ref 16, .int r55], M55)) rfl trivial ?_
    obtain ⟨r61, M61, hz, h⟩ := am_bi_s h
    refine am_R.call (e' := me_X8_at) (as := [.ref 16, .int v2, .int 3]) (rest := [.int r55]) rfl rfl (Nat.le_of_ble_eq_true rfl) (t_X8_at_16 z N v2 3 _ hz) ?_
    rcases am_it h with ⟨hc, h⟩ | ⟨hc, h⟩
    · refine am_R.bt rfl rfl hc ?_
      refine am_R.go 2 (q' := (10, [some (.ref 65), some (.ref 16), some (.int (v2 + 1))], [], M61)) rfl trivial ?_
      exact hk10 (v2 + 1) _ h
    · refine am_R.bn rfl rfl hc ?_
      refine am_R.go 1 (q' := (68, [some (.ref 65), some (.ref 16), some (.int v2)], [.int 0], M61)) rfl trivial ?_
      cases h
      exact am_R.ret rfl rfl (Or.inl rfl)
set_option maxRecDepth 100000 in
theorem t_X0_bookIsSo_10 (z : Value) (N : Nat) {r : Except Nat (Option Value)} {M' : am_M} : ∀ (n : Nat) (v2 : Int32) (M : am_M), f_X0_bookIsSo_10 N n v2 M = some (r, M') → cR z me_X0_bookIsSo (10, [some (.ref 65), some (.ref 16), some (.int v2)], [], M) r M' := by
  intro n
  induction n with
  | zero => intro v2 M h; cases h
  | succ n ih => intro v2 M h; exact t_X0_bookIsSo_10B z N _ ih v2 M h
def f_X0_bookIsSo (N : Nat) (M : am_M) : Option (Except Nat (Option Value) × am_M) :=
  f_X0_bookIsSo_10 N N 0 M
set_option maxRecDepth 100000 in
theorem t_X0_bookIsSo (z : Value) (N : Nat) (M : am_M) {r : Except Nat (Option Value)} {M' : am_M} (h : f_X0_bookIsSo N M = some (r, M')) : cR z me_X0_bookIsSo (0, [some (.ref 65), none, none], [], M) r M' := by
  unfold f_X0_bookIsSo at h
  refine am_R.go 6 (q' := (10, [some (.ref 65), some (.ref 16), some (.int 0)], [], M)) rfl trivial ?_
  exact t_X0_bookIsSo_10 z N N 0 _ h
def f_X2_lower_13_11_2B (N : Nat) (v2 : Int32) (k2 : Int32 → am_M → Option (Except Nat (Option Value) × am_M)) (v3 : Int32) (M : am_M) : Option (Except Nat (Option Value) × am_M) :=
  if (M 11 3) ≤ v3 then
    some (.ok none, M)
  else
    if ((v2 >>> (v3 &&& 31)) &&& 1) = 0 then
      k2 (v3 + 1) M
    else
      am_bi (f_X8_cellAt_11 N v3 M) fun r24 M24 =>
        if am_in r24 100 then
          k2 (v3 + 1) (am_up M24 14 (r24.toNatClampNeg) 0)
        else none
def f_X2_lower_13_11_2 (N : Nat) (v2 : Int32) : Nat → Int32 → am_M → Option (Except Nat (Option Value) × am_M)
  | 0 => fun _ _ => none
  | n + 1 => f_X2_lower_13_11_2B N v2 (f_X2_lower_13_11_2 N v2 n)
set_option maxRecDepth 100000 in
theorem t_X2_lower_13_11_2B (z : Value) (N : Nat) (v2 : Int32) {r : Except Nat (Option Value)} {M' : am_M} (k2 : Int32 → am_M → Option (Except Nat (Option Value) × am_M)) (hk2 : ∀ (v3 : Int32) (M : am_M), k2 v3 M = some (r, M') → cR z me_X2_lower (2, [some (.ref 13), some (.ref 11), some (.int v2), some (.int v3)], [], M) r M') (v3 : Int32) (M : am_M) (h : f_X2_lower_13_11_2B N v2 k2 v3 M = some (r, M')) : cR z me_X2_lower (2, [some (.ref 13), some (.ref 11), some (.int v2), some (.int v3)], [], M) r M' := by
  unfold f_X2_lower_13_11_2B at h
  refine am_R.go 3 (q' := (7, [some (.ref 13), some (.ref 11), some (.int v2), some (.int v3)], [.int (M 11 3), .int v3], M)) rfl trivial ?_
  rcases am_it h with ⟨hc, h⟩ | ⟨hc, h⟩
  · refine am_R.bt rfl rfl hc ?_
    cases h
    exact am_R.ret rfl rfl trivial
  · refine am_R.bn rfl rfl hc ?_
    refine am_R.go 5 (q' := (15, [some (.ref 13), some (.ref 11), some (.int v2), some (.int v3)], [.int ((v2 >>> (v3 &&& 31)) &&& 1)], M)) rfl trivial ?_
    rcases am_it h with ⟨hc, h⟩ | ⟨hc, h⟩
    · refine am_R.ct rfl rfl hc ?_
      refine am_R.go 2 (q' := (2, [some (.ref 13), some (.ref 11), some (.int v2), some (.int (v3 + 1))], [], M)) rfl trivial ?_
      exact hk2 (v3 + 1) _ h
    · refine am_R.cn rfl rfl hc ?_
      refine am_R.go 4 (q' := (24, [some (.ref 13), some (.ref 11), some (.int v2), some (.int v3)], [.int v3, .ref 11, .ref 14], M)) rfl trivial ?_
      obtain ⟨r24, M24, hz, h⟩ := am_bi_s h
      refine am_R.call (e' := me_X8_cellAt) (as := [.ref 11, .int v3]) (rest := [.ref 14]) rfl rfl (Nat.le_of_ble_eq_true rfl) (t_X8_cellAt_11 z N v3 _ hz) ?_
      obtain ⟨hC, h⟩ := am_gd h
      refine am_R.go 4 (q' := (2, [some (.ref 13), some (.ref 11), some (.int v2), some (.int (v3 + 1))], [], am_up M24 14 (r24.toNatClampNeg) 0)) rfl ⟨hC, trivial⟩ ?_
      exact hk2 (v3 + 1) _ h
set_option maxRecDepth 100000 in
theorem t_X2_lower_13_11_2 (z : Value) (N : Nat) (v2 : Int32) {r : Except Nat (Option Value)} {M' : am_M} : ∀ (n : Nat) (v3 : Int32) (M : am_M), f_X2_lower_13_11_2 N v2 n v3 M = some (r, M') → cR z me_X2_lower (2, [some (.ref 13), some (.ref 11), some (.int v2), some (.int v3)], [], M) r M' := by
  intro n
  induction n with
  | zero => intro v3 M h; cases h
  | succ n ih => intro v3 M h; exact t_X2_lower_13_11_2B z N v2 _ ih v3 M h
def f_X2_lower_13_11 (N : Nat) (p2 : Int32) (M : am_M) : Option (Except Nat (Option Value) × am_M) :=
  f_X2_lower_13_11_2 N p2 N 0 M
set_option maxRecDepth 100000 in
theorem t_X2_lower_13_11 (z : Value) (N : Nat) (p2 : Int32) (M : am_M) {r : Except Nat (Option Value)} {M' : am_M} (h : f_X2_lower_13_11 N p2 M = some (r, M')) : cR z me_X2_lower (0, [some (.ref 13), some (.ref 11), some (.int p2), none], [], M) r M' := by
  unfold f_X2_lower_13_11 at h
  refine am_R.go 2 (q' := (2, [some (.ref 13), some (.ref 11), some (.int p2), some (.int 0)], [], M)) rfl trivial ?_
  exact t_X2_lower_13_11_2 z N p2 N 0 _ h
def f_X0_findSets_157 (N : Nat) (v1 : Int32) (v2 : Int32) (s0 : Int32) (M : am_M) : Option (Except Nat (Option Value) × am_M) :=
  if (M 65 0) = 0 then
    some (.ok none, am_up (am_up M 65 2 s0) 65 3 0)
  else
    some (.ok none, am_up (am_up M 65 2 s0) 65 3 (v1 &&& (v2 ^^^ (-1))))
set_option maxRecDepth 100000 in
theorem t_X0_findSets_157 (z : Value) (N : Nat) {r : Except Nat (Option Value)} {M' : am_M} (v1 : Int32) (v2 : Int32) (s0 : Int32) (d3 : Option Value) (d4 : Option Value) (M : am_M) (h : f_X0_findSets_157 N v1 v2 s0 M = some (r, M')) : cR z me_X0_findSets (157, [some (.ref 65), some (.int v1), some (.int v2), d3, d4], [.int s0, .ref 65], M) r M' := by
  unfold f_X0_findSets_157 at h
  refine am_R.go 4 (q' := (165, [some (.ref 65), some (.int v1), some (.int v2), d3, d4], [.int (M 65 0), .ref 65], am_up M 65 2 s0)) rfl trivial ?_
  rcases am_it h with ⟨hc, h⟩ | ⟨hc, h⟩
  · refine am_R.cn rfl rfl (fun q => q hc) ?_
    refine am_R.go 3 (q' := (180, [some (.ref 65), some (.int v1), some (.int v2), d3, d4], [], am_up (am_up M 65 2 s0) 65 3 0)) rfl trivial ?_
    cases h
    exact am_R.ret rfl rfl trivial
  · refine am_R.ct rfl rfl hc ?_
    refine am_R.go 6 (q' := (180, [some (.ref 65), some (.int v1), some (.int v2), d3, d4], [], am_up (am_up M 65 2 s0) 65 3 (v1 &&& (v2 ^^^ (-1))))) rfl trivial ?_
    cases h
    exact am_R.ret rfl rfl trivial
def f_X0_findSets_118 (N : Nat) (k34 : Int32 → Int32 → am_M → Option (Except Nat (Option Value) × am_M)) (v1 : Int32) (v2 : Int32) (v3 : Int32) (s0 : Int32) (M : am_M) : Option (Except Nat (Option Value) × am_M) :=
  k34 (v2 ||| v3) (v3 + 1) (am_up (am_up M 65 1 s0) 65 2 ((M 65 2) &&& v3))
set_option maxRecDepth 100000 in
theorem t_X0_findSets_118 (z : Value) (N : Nat) (k34 : Int32 → Int32 → am_M → Option (Except Nat (Option Value) × am_M)) {r : Except Nat (Option Value)} {M' : am_M} (v1 : Int32) (v2 : Int32) (v3 : Int32) (s0 : Int32) (d4 : Option Value) (M : am_M) (hk34 : ∀ (v2 : Int32) (v3 : Int32) (d4 : Option Value) (M : am_M), k34 v2 v3 M = some (r, M') → cR z me_X0_findSets (34, [some (.ref 65), some (.int v1), some (.int v2), some (.int v3), d4], [], M) r M') (h : f_X0_findSets_118 N k34 v1 v2 v3 s0 M = some (r, M')) : cR z me_X0_findSets (118, [some (.ref 65), some (.int v1), some (.int v2), some (.int v3), d4], [.int s0, .ref 65], M) r M' := by
  unfold f_X0_findSets_118 at h
  refine am_R.go 13 (q' := (34, [some (.ref 65), some (.int v1), some (.int (v2 ||| v3)), some (.int (v3 + 1)), d4], [], am_up (am_up M 65 1 s0) 65 2 ((M 65 2) &&& v3))) rfl trivial ?_
  exact hk34 (v2 ||| v3) (v3 + 1) _ _ h
def f_X0_findSets_34B (N : Nat) (v1 : Int32) (k34 : Int32 → Int32 → am_M → Option (Except Nat (Option Value) × am_M)) (v2 : Int32) (v3 : Int32) (M : am_M) : Option (Except Nat (Option Value) × am_M) :=
  if v1 < v3 then
    if (M 65 0) = 0 then
      f_X0_findSets_157 N v1 v2 0 M
    else
      f_X0_findSets_157 N v1 v2 (M 65 2) M
  else
    am_bi (f_X2_raise_13_11 N v3 M) fun r51 M51 =>
      am_bi (f_X0_bookIsSo N M51) fun r62 M62 =>
        if (am_in v3 256 ∧ am_z r62) then
          am_bv (f_X2_lower_13_11 N r51 (am_up M62 66 (v3.toNatClampNeg) r62)) fun M79 =>
            if am_in v3 256 then
              if (M79 66 (v3.toNatClampNeg)) = 0 then
                k34 v2 (v3 + 1) M79
              else
                if (M79 65 1) = (-1) then
                  f_X0_findSets_118 N k34 v1 v2 v3 v3 (am_up M79 65 0 ((M79 65 0) + 1))
                else
                  f_X0_findSets_118 N k34 v1 v2 v3 (M79 65 1) (am_up M79 65 0 ((M79 65 0) + 1))
            else none
        else none
def f_X0_findSets_34 (N : Nat) (v1 : Int32) : Nat → Int32 → Int32 → am_M → Option (Except Nat (Option Value) × am_M)
  | 0 => fun _ _ _ => none
  | n + 1 => f_X0_findSets_34B N v1 (f_X0_findSets_34 N v1 n)
set_option maxRecDepth 100000 in
theorem t_X0_findSets_34B (z : Value) (N : Nat) (v1 : Int32) {r : Except Nat (Option Value)} {M' : am_M} (k34 : Int32 → Int32 → am_M → Option (Except Nat (Option Value) × am_M)) (hk34 : ∀ (v2 : Int32) (v3 : Int32) (d4 : Option Value) (M : am_M), k34 v2 v3 M = some (r, M') → cR z me_X0_findSets (34, [some (.ref 65), some (.int v1), some (.int v2), some (.int v3), d4], [], M) r M') (v2 : Int32) (v3 : Int32) (d4 : Option Value) (M : am_M) (h : f_X0_findSets_34B N v1 k34 v2 v3 M = some (r, M')) : cR z me_X0_findSets (34, [some (.ref 65), some (.int v1), some (.int v2), some (.int v3), d4], [], M) r M' := by
  unfold f_X0_findSets_34B at h
  refine am_R.go 2 (q' := (36, [some (.ref 65), some (.int v1), some (.int v2), some (.int v3), d4], [.int v1, .int v3], M)) rfl trivial ?_
  rcases am_it h with ⟨hc, h⟩ | ⟨hc, h⟩
  · refine am_R.bt rfl rfl hc ?_
    refine am_R.go 3 (q' := (146, [some (.ref 65), some (.int v1), some (.int v2), some (.int v3), d4], [.int (M 65 0), .ref 65], M)) rfl trivial ?_
    rcases am_it h with ⟨hc, h⟩ | ⟨hc, h⟩
    · refine am_R.cn rfl rfl (fun q => q hc) ?_
      refine am_R.go 2 (q' := (157, [some (.ref 65), some (.int v1), some (.int v2), some (.int v3), d4], [.int 0, .ref 65], M)) rfl trivial ?_
      exact t_X0_findSets_157 z N v1 v2 0 _ _ _ h
    · refine am_R.ct rfl rfl hc ?_
      refine am_R.go 2 (q' := (157, [some (.ref 65), some (.int v1), some (.int v2), some (.int v3), d4], [.int (M 65 2), .ref 65], M)) rfl trivial ?_
      exact t_X0_findSets_157 z N v1 v2 (M 65 2) _ _ _ h
  · refine am_R.bn rfl rfl hc ?_
    refine am_R.go 6 (q' := (51, [some (.ref 65), some (.int v1), some (.int v2), some (.int v3), d4], [.int v3, .ref 11, .ref 13], M)) rfl trivial ?_
    obtain ⟨r51, M51, hz, h⟩ := am_bi_s h
    refine am_R.call (e' := me_X2_raise) (as := [.ref 13, .ref 11, .int v3]) (rest := []) rfl rfl (Nat.le_of_ble_eq_true rfl) (t_X2_raise_13_11 z N v3 _ hz) ?_
    refine am_R.go 5 (q' := (62, [some (.ref 65), some (.int v1), some (.int v2), some (.int v3), some (.int r51)], [.ref 65, .int v3, .ref 66], M51)) rfl trivial ?_
    obtain ⟨r62, M62, hz, h⟩ := am_bi_s h
    refine am_R.call (e' := me_X0_bookIsSo) (as := [.ref 65]) (rest := [.int v3, .ref 66]) rfl rfl (Nat.le_of_ble_eq_true rfl) (t_X0_bookIsSo z N _ hz) ?_
    obtain ⟨hC, h⟩ := am_gd h
    refine am_R.go 7 (q' := (79, [some (.ref 65), some (.int v1), some (.int v2), some (.int v3), some (.int r51)], [.int r51, .ref 11, .ref 13], am_up M62 66 (v3.toNatClampNeg) r62)) rfl ⟨hC, trivial⟩ ?_
    obtain ⟨M79, hz, h⟩ := am_bv_s h
    refine am_R.call (e' := me_X2_lower) (as := [.ref 13, .ref 11, .int r51]) (rest := []) rfl rfl (Nat.le_of_ble_eq_true rfl) (t_X2_lower_13_11 z N r51 _ hz) ?_
    obtain ⟨hC, h⟩ := am_gd h
    refine am_R.go 4 (q' := (88, [some (.ref 65), some (.int v1), some (.int v2), some (.int v3), some (.int r51)], [.int (M79 66 (v3.toNatClampNeg))], M79)) rfl ⟨hC, trivial⟩ ?_
    rcases am_it h with ⟨hc, h⟩ | ⟨hc, h⟩
    · refine am_R.ct rfl rfl hc ?_
      refine am_R.go 2 (q' := (34, [some (.ref 65), some (.int v1), some (.int v2), some (.int (v3 + 1)), some (.int r51)], [], M79)) rfl trivial ?_
      exact hk34 v2 (v3 + 1) _ _ h
    · refine am_R.cn rfl rfl hc ?_
      refine am_R.go 10 (q' := (107, [some (.ref 65), some (.int v1), some (.int v2), some (.int v3), some (.int r51)], [.int (-1), .int (M79 65 1), .ref 65], am_up M79 65 0 ((M79 65 0) + 1))) rfl trivial ?_
      rcases am_it h with ⟨hc, h⟩ | ⟨hc, h⟩
      · refine am_R.bn rfl rfl (fun q => q hc) ?_
        refine am_R.go 2 (q' := (118, [some (.ref 65), some (.int v1), some (.int v2), some (.int v3), some (.int r51)], [.int v3, .ref 65], am_up M79 65 0 ((M79 65 0) + 1))) rfl trivial ?_
        exact t_X0_findSets_118 z N k34 v1 v2 v3 v3 _ _ hk34 h
      · refine am_R.bt rfl rfl hc ?_
        refine am_R.go 2 (q' := (118, [some (.ref 65), some (.int v1), some (.int v2), some (.int v3), some (.int r51)], [.int (M79 65 1), .ref 65], am_up M79 65 0 ((M79 65 0) + 1))) rfl trivial ?_
        exact t_X0_findSets_118 z N k34 v1 v2 v3 (M79 65 1) _ _ hk34 h
set_option maxRecDepth 100000 in
theorem t_X0_findSets_34 (z : Value) (N : Nat) (v1 : Int32) {r : Except Nat (Option Value)} {M' : am_M} : ∀ (n : Nat) (v2 : Int32) (v3 : Int32) (d4 : Option Value) (M : am_M), f_X0_findSets_34 N v1 n v2 v3 M = some (r, M') → cR z me_X0_findSets (34, [some (.ref 65), some (.int v1), some (.int v2), some (.int v3), d4], [], M) r M' := by
  intro n
  induction n with
  | zero => intro v2 v3 d4 M h; cases h
  | succ n ih => intro v2 v3 d4 M h; exact t_X0_findSets_34B z N v1 _ ih v2 v3 d4 M h
def f_X0_findSets (N : Nat) (M : am_M) : Option (Except Nat (Option Value) × am_M) :=
  f_X0_findSets_34 N ((1 <<< ((M 11 3) &&& 31)) - 1) N 0 0 (am_up (am_up (am_up M 65 0 0) 65 1 (-1)) 65 2 ((1 <<< ((M 11 3) &&& 31)) - 1))
set_option maxRecDepth 100000 in
theorem t_X0_findSets (z : Value) (N : Nat) (M : am_M) {r : Except Nat (Option Value)} {M' : am_M} (h : f_X0_findSets N M = some (r, M')) : cR z me_X0_findSets (0, [some (.ref 65), none, none, none, none], [], M) r M' := by
  unfold f_X0_findSets at h
  refine am_R.go 22 (q' := (34, [some (.ref 65), some (.int ((1 <<< ((M 11 3) &&& 31)) - 1)), some (.int 0), some (.int 0), none], [], am_up (am_up (am_up M 65 0 0) 65 1 (-1)) 65 2 ((1 <<< ((M 11 3) &&& 31)) - 1))) rfl trivial ?_
  exact t_X0_findSets_34 z N ((1 <<< ((M 11 3) &&& 31)) - 1) N 0 0 _ _ h
def f_X9_explain (N : Nat) (p1 : Int32) (M : am_M) : Option (Except Nat (Option Value) × am_M) :=
  am_bvx (f_X9_needBetween N p1 0 3 M) fun M4 =>
    am_bv (f_X0_findSets N M4) fun M11 =>
      if p1.toInt = 0 then
        some (.ok (some (.int (M11 65 0))), M11)
      else
      if p1.toInt = 1 then
        some (.ok (some (.int (M11 65 1))), M11)
      else
      if p1.toInt = 2 then
        some (.ok (some (.int (M11 65 2))), M11)
      else
        some (.ok (some (.int (M11 65 3))), M11)
set_option maxRecDepth 100000 in
theorem t_X9_explain (z : Value) (N : Nat) (p1 : Int32) (M : am_M) {r : Except Nat (Option Value)} {M' : am_M} (h : f_X9_explain N p1 M = some (r, M')) : cR z me_X9_explain (0, [some (.ref 0), some (.int p1)], [], M) r M' := by
  unfold f_X9_explain at h
  refine am_R.go 4 (q' := (4, [some (.ref 0), some (.int p1)], [.int 3, .int 0, .int p1, .ref 0], M)) rfl trivial ?_
  rcases am_bvx_s h with ⟨M4, hz, h⟩ | ⟨x, M4, hz, h⟩
  · refine am_R.call (e' := me_X9_needBetween) (as := [.ref 0, .int p1, .int 0, .int 3]) (rest := []) rfl rfl (Nat.le_of_ble_eq_true rfl) (t_X9_needBetween z N p1 0 3 _ hz) ?_
    refine am_R.go 2 (q' := (11, [some (.ref 0), some (.int p1)], [.ref 65], M4)) rfl trivial ?_
    obtain ⟨M11, hz, h⟩ := am_bv_s h
    refine am_R.call (e' := me_X0_findSets) (as := [.ref 65]) (rest := []) rfl rfl (Nat.le_of_ble_eq_true rfl) (t_X0_findSets z N _ hz) ?_
    refine am_R.go 1 (q' := (15, [some (.ref 0), some (.int p1)], [.int p1], M11)) rfl trivial ?_
    rcases am_it h with ⟨hc, h⟩ | ⟨hc0, h⟩
    · refine am_R.one (c := some (p1.toInt = 0 + ((0 : Nat) : Int))) (q' := (40, [some (.ref 0), some (.int p1)], [], M11)) rfl (List.mem_of_getElem? (i := 1) rfl) (by show p1.toInt = _; omega) ?_
      refine am_R.go 3 (q' := (47, [some (.ref 0), some (.int p1)], [.int (M11 65 0)], M11)) rfl trivial ?_
      cases h
      exact am_R.ret rfl rfl trivial
    rcases am_it h with ⟨hc, h⟩ | ⟨hc1, h⟩
    · refine am_R.one (c := some (p1.toInt = 0 + ((1 : Nat) : Int))) (q' := (48, [some (.ref 0), some (.int p1)], [], M11)) rfl (List.mem_of_getElem? (i := 2) rfl) (by show p1.toInt = _; omega) ?_
      refine am_R.go 3 (q' := (55, [some (.ref 0), some (.int p1)], [.int (M11 65 1)], M11)) rfl trivial ?_
      cases h
      exact am_R.ret rfl rfl trivial
    rcases am_it h with ⟨hc, h⟩ | ⟨hc2, h⟩
    · refine am_R.one (c := some (p1.toInt = 0 + ((2 : Nat) : Int))) (q' := (56, [some (.ref 0), some (.int p1)], [], M11)) rfl (List.mem_of_getElem? (i := 3) rfl) (by show p1.toInt = _; omega) ?_
      refine am_R.go 3 (q' := (63, [some (.ref 0), some (.int p1)], [.int (M11 65 2)], M11)) rfl trivial ?_
      cases h
      exact am_R.ret rfl rfl trivial
    refine am_R.one (c := some (p1.toInt < 0 ∨ 2 < p1.toInt)) (q' := (64, [some (.ref 0), some (.int p1)], [], M11)) rfl (List.mem_of_getElem? (i := 0) rfl) (by show _ ∨ _; omega) ?_
    refine am_R.go 3 (q' := (71, [some (.ref 0), some (.int p1)], [.int (M11 65 3)], M11)) rfl trivial ?_
    cases h
    exact am_R.ret rfl rfl trivial
  · cases h
    exact am_R.callx (e' := me_X9_needBetween) (as := [.ref 0, .int p1, .int 0, .int 3]) (rest := []) rfl rfl (Nat.le_of_ble_eq_true rfl) rfl (t_X9_needBetween z N p1 0 3 _ hz)
def f_X0_maybesReached_77 (N : Nat) (k5 : Int32 → Int32 → am_M → Option (Except Nat (Option Value) × am_M)) (v1 : Int32) (v2 : Int32) (v3 : Int32) (v4 : Int32) (M : am_M) : Option (Except Nat (Option Value) × am_M) :=
  k5 (v3 ||| (1 <<< (v4 &&& 31))) (v4 + 1) M
set_option maxRecDepth 100000 in
theorem t_X0_maybesReached_77 (z : Value) (N : Nat) (k5 : Int32 → Int32 → am_M → Option (Except Nat (Option Value) × am_M)) {r : Except Nat (Option Value)} {M' : am_M} (v1 : Int32) (v2 : Int32) (v3 : Int32) (v4 : Int32) (d5 : Option Value) (d6 : Option Value) (M : am_M) (hk5 : ∀ (v3 : Int32) (v4 : Int32) (d5 : Option Value) (d6 : Option Value) (M : am_M), k5 v3 v4 M = some (r, M') → cR z me_X0_maybesReached (5, [some (.ref 65), some (.int v1), some (.int v2), some (.int v3), some (.int v4), d5, d6], [], M) r M') (h : f_X0_maybesReached_77 N k5 v1 v2 v3 v4 M = some (r, M')) : cR z me_X0_maybesReached (77, [some (.ref 65), some (.int v1), some (.int v2), some (.int v3), some (.int v4), d5, d6], [], M) r M' := by
  unfold f_X0_maybesReached_77 at h
  refine am_R.go 8 (q' := (5, [some (.ref 65), some (.int v1), some (.int v2), some (.int (v3 ||| (1 <<< (v4 &&& 31)))), some (.int (v4 + 1)), d5, d6], [], M)) rfl trivial ?_
  exact hk5 (v3 ||| (1 <<< (v4 &&& 31))) (v4 + 1) _ _ _ h
def f_X0_maybesReached_5B (N : Nat) (v1 : Int32) (v2 : Int32) (k5 : Int32 → Int32 → am_M → Option (Except Nat (Option Value) × am_M)) (v3 : Int32) (v4 : Int32) (M : am_M) : Option (Except Nat (Option Value) × am_M) :=
  if (M 11 3) ≤ v4 then
    some (.ok (some (.int v3)), M)
  else
    am_bi (f_X8_at_11 N v4 0 M) fun r30 M30 =>
      am_bi (f_X8_at_11 N v4 1 M30) fun r50 M50 =>
        if (if 0 ≤ (r30 - v1) then r30 - v1 else 0 - (r30 - v1)) = 0 then
          f_X0_maybesReached_77 N k5 v1 v2 v3 v4 M50
        else
          if (if 0 ≤ (r50 - v2) then r50 - v2 else 0 - (r50 - v2)) = 0 then
            f_X0_maybesReached_77 N k5 v1 v2 v3 v4 M50
          else
            if (if 0 ≤ (r30 - v1) then r30 - v1 else 0 - (r30 - v1)) = (if 0 ≤ (r50 - v2) then r50 - v2 else 0 - (r50 - v2)) then
              f_X0_maybesReached_77 N k5 v1 v2 v3 v4 M50
            else
              k5 v3 (v4 + 1) M50
def f_X0_maybesReached_5 (N : Nat) (v1 : Int32) (v2 : Int32) : Nat → Int32 → Int32 → am_M → Option (Except Nat (Option Value) × am_M)
  | 0 => fun _ _ _ => none
  | n + 1 => f_X0_maybesReached_5B N v1 v2 (f_X0_maybesReached_5 N v1 v2 n)
set_option maxRecDepth 100000 in
theorem t_X0_maybesReached_5B (z : Value) (N : Nat) (v1 : Int32) (v2 : Int32) {r : Except Nat (Option Value)} {M' : am_M} (k5 : Int32 → Int32 → am_M → Option (Except Nat (Option Value) × am_M)) (hk5 : ∀ (v3 : Int32) (v4 : Int32) (d5 : Option Value) (d6 : Option Value) (M : am_M), k5 v3 v4 M = some (r, M') → cR z me_X0_maybesReached (5, [some (.ref 65), some (.int v1), some (.int v2), some (.int v3), some (.int v4), d5, d6], [], M) r M') (v3 : Int32) (v4 : Int32) (d5 : Option Value) (d6 : Option Value) (M : am_M) (h : f_X0_maybesReached_5B N v1 v2 k5 v3 v4 M = some (r, M')) : cR z me_X0_maybesReached (5, [some (.ref 65), some (.int v1), some (.int v2), some (.int v3), some (.int v4), d5, d6], [], M) r M' := by
  unfold f_X0_maybesReached_5B at h
  refine am_R.go 5 (q' := (17, [some (.ref 65), some (.int v1), some (.int v2), some (.int v3), some (.int v4), d5, d6], [.int (M 11 3), .int v4], M)) rfl trivial ?_
  rcases am_it h with ⟨hc, h⟩ | ⟨hc, h⟩
  · refine am_R.bt rfl rfl hc ?_
    refine am_R.go 1 (q' := (91, [some (.ref 65), some (.int v1), some (.int v2), some (.int v3), some (.int v4), d5, d6], [.int v3], M)) rfl trivial ?_
    cases h
    exact am_R.ret rfl rfl trivial
  · refine am_R.bn rfl rfl hc ?_
    refine am_R.go 5 (q' := (30, [some (.ref 65), some (.int v1), some (.int v2), some (.int v3), some (.int v4), d5, d6], [.int 0, .int v4, .ref 11], M)) rfl trivial ?_
    obtain ⟨r30, M30, hz, h⟩ := am_bi_s h
    refine am_R.call (e' := me_X8_at) (as := [.ref 11, .int v4, .int 0]) (rest := []) rfl rfl (Nat.le_of_ble_eq_true rfl) (t_X8_at_11 z N v4 0 _ hz) ?_
    refine am_R.go 9 (q' := (50, [some (.ref 65), some (.int v1), some (.int v2), some (.int v3), some (.int v4), some (.int (if 0 ≤ (r30 - v1) then r30 - v1 else 0 - (r30 - v1))), d6], [.int 1, .int v4, .ref 11], M30)) rfl trivial ?_
    obtain ⟨r50, M50, hz, h⟩ := am_bi_s h
    refine am_R.call (e' := me_X8_at) (as := [.ref 11, .int v4, .int 1]) (rest := []) rfl rfl (Nat.le_of_ble_eq_true rfl) (t_X8_at_11 z N v4 1 _ hz) ?_
    refine am_R.go 5 (q' := (62, [some (.ref 65), some (.int v1), some (.int v2), some (.int v3), some (.int v4), some (.int (if 0 ≤ (r30 - v1) then r30 - v1 else 0 - (r30 - v1))), some (.int (if 0 ≤ (r50 - v2) then r50 - v2 else 0 - (r50 - v2)))], [.int (if 0 ≤ (r30 - v1) then r30 - v1 else 0 - (r30 - v1))], M50)) rfl trivial ?_
    rcases am_it h with ⟨hc, h⟩ | ⟨hc, h⟩
    · refine am_R.ct rfl rfl hc ?_
      exact t_X0_maybesReached_77 z N k5 v1 v2 v3 v4 _ _ _ hk5 h
    · refine am_R.cn rfl rfl hc ?_
      refine am_R.go 1 (q' := (67, [some (.ref 65), some (.int v1), some (.int v2), some (.int v3), some (.int v4), some (.int (if 0 ≤ (r30 - v1) then r30 - v1 else 0 - (r30 - v1))), some (.int (if 0 ≤ (r50 - v2) then r50 - v2 else 0 - (r50 - v2)))], [.int (if 0 ≤ (r50 - v2) then r50 - v2 else 0 - (r50 - v2))], M50)) rfl trivial ?_
      rcases am_it h with ⟨hc, h⟩ | ⟨hc, h⟩
      · refine am_R.ct rfl rfl hc ?_
        exact t_X0_maybesReached_77 z N k5 v1 v2 v3 v4 _ _ _ hk5 h
      · refine am_R.cn rfl rfl hc ?_
        refine am_R.go 2 (q' := (74, [some (.ref 65), some (.int v1), some (.int v2), some (.int v3), some (.int v4), some (.int (if 0 ≤ (r30 - v1) then r30 - v1 else 0 - (r30 - v1))), some (.int (if 0 ≤ (r50 - v2) then r50 - v2 else 0 - (r50 - v2)))], [.int (if 0 ≤ (r50 - v2) then r50 - v2 else 0 - (r50 - v2)), .int (if 0 ≤ (r30 - v1) then r30 - v1 else 0 - (r30 - v1))], M50)) rfl trivial ?_
        rcases am_it h with ⟨hc, h⟩ | ⟨hc, h⟩
        · refine am_R.bn rfl rfl (fun q => q hc) ?_
          exact t_X0_maybesReached_77 z N k5 v1 v2 v3 v4 _ _ _ hk5 h
        · refine am_R.bt rfl rfl hc ?_
          refine am_R.go 2 (q' := (5, [some (.ref 65), some (.int v1), some (.int v2), some (.int v3), some (.int (v4 + 1)), some (.int (if 0 ≤ (r30 - v1) then r30 - v1 else 0 - (r30 - v1))), some (.int (if 0 ≤ (r50 - v2) then r50 - v2 else 0 - (r50 - v2)))], [], M50)) rfl trivial ?_
          exact hk5 v3 (v4 + 1) _ _ _ h
set_option maxRecDepth 100000 in
theorem t_X0_maybesReached_5 (z : Value) (N : Nat) (v1 : Int32) (v2 : Int32) {r : Except Nat (Option Value)} {M' : am_M} : ∀ (n : Nat) (v3 : Int32) (v4 : Int32) (d5 : Option Value) (d6 : Option Value) (M : am_M), f_X0_maybesReached_5 N v1 v2 n v3 v4 M = some (r, M') → cR z me_X0_maybesReached (5, [some (.ref 65), some (.int v1), some (.int v2), some (.int v3), some (.int v4), d5, d6], [], M) r M' := by
  intro n
  induction n with
  | zero => intro v3 v4 d5 d6 M h; cases h
  | succ n ih => intro v3 v4 d5 d6 M h; exact t_X0_maybesReached_5B z N v1 v2 _ ih v3 v4 d5 d6 M h
def f_X0_maybesReached (N : Nat) (p1 : Int32) (p2 : Int32) (M : am_M) : Option (Except Nat (Option Value) × am_M) :=
  f_X0_maybesReached_5 N p1 p2 N 0 0 M
set_option maxRecDepth 100000 in
theorem t_X0_maybesReached (z : Value) (N : Nat) (p1 : Int32) (p2 : Int32) (M : am_M) {r : Except Nat (Option Value)} {M' : am_M} (h : f_X0_maybesReached N p1 p2 M = some (r, M')) : cR z me_X0_maybesReached (0, [some (.ref 65), some (.int p1), some (.int p2), none, none, none, none], [], M) r M' := by
  unfold f_X0_maybesReached at h
  refine am_R.go 4 (q' := (5, [some (.ref 65), some (.int p1), some (.int p2), some (.int 0), some (.int 0), none, none], [], M)) rfl trivial ?_
  exact t_X0_maybesReached_5 z N p1 p2 N 0 0 _ _ _ h
def f_X0_countWith (N : Nat) (p1 : Int32) (p2 : Int32) (p3 : Int32) (M : am_M) : Option (Except Nat (Option Value) × am_M) :=
  if am_in p3 256 then
    if (M 67 (p3.toNatClampNeg)) = (-1) then
      am_bi (f_X2_raise_13_11 N p3 M) fun r22 M22 =>
        am_bv (f_X6_shout N p1 p2 (M22 2 2) 0 M22) fun M41 =>
          am_bv (f_X2_lower_13_11 N r22 M41) fun M57 =>
            if am_in p3 256 then
              some (.ok (some (.int ((am_up M57 67 (p3.toNatClampNeg) (M57 51 0)) 67 (p3.toNatClampNeg)))), am_up M57 67 (p3.toNatClampNeg) (M57 51 0))
            else none
    else
      if am_in p3 256 then
        some (.ok (some (.int (M 67 (p3.toNatClampNeg)))), M)
      else none
  else none
set_option maxRecDepth 100000 in
theorem t_X0_countWith (z : Value) (N : Nat) (p1 : Int32) (p2 : Int32) (p3 : Int32) (M : am_M) {r : Except Nat (Option Value)} {M' : am_M} (h : f_X0_countWith N p1 p2 p3 M = some (r, M')) : cR z me_X0_countWith (0, [some (.ref 65), some (.int p1), some (.int p2), some (.int p3), none], [], M) r M' := by
  unfold f_X0_countWith at h
  obtain ⟨hC, h⟩ := am_gd h
  refine am_R.go 5 (q' := (7, [some (.ref 65), some (.int p1), some (.int p2), some (.int p3), none], [.int (-1), .int (M 67 (p3.toNatClampNeg))], M)) rfl ⟨hC, trivial⟩ ?_
  rcases am_it h with ⟨hc, h⟩ | ⟨hc, h⟩
  · refine am_R.bn rfl rfl (fun q => q hc) ?_
    refine am_R.go 6 (q' := (22, [some (.ref 65), some (.int p1), some (.int p2), some (.int p3), none], [.int p3, .ref 11, .ref 13], M)) rfl trivial ?_
    obtain ⟨r22, M22, hz, h⟩ := am_bi_s h
    refine am_R.call (e' := me_X2_raise) (as := [.ref 13, .ref 11, .int p3]) (rest := []) rfl rfl (Nat.le_of_ble_eq_true rfl) (t_X2_raise_13_11 z N p3 _ hz) ?_
    refine am_R.go 9 (q' := (41, [some (.ref 65), some (.int p1), some (.int p2), some (.int p3), some (.int r22)], [.int 0, .int (M22 2 2), .int p2, .int p1, .ref 51], M22)) rfl trivial ?_
    obtain ⟨M41, hz, h⟩ := am_bv_s h
    refine am_R.call (e' := me_X6_shout) (as := [.ref 51, .int p1, .int p2, .int (M22 2 2), .int 0]) (rest := []) rfl rfl (Nat.le_of_ble_eq_true rfl) (t_X6_shout z N p1 p2 (M22 2 2) 0 _ hz) ?_
    refine am_R.go 6 (q' := (57, [some (.ref 65), some (.int p1), some (.int p2), some (.int p3), some (.int r22)], [.int r22, .ref 11, .ref 13], M41)) rfl trivial ?_
    obtain ⟨M57, hz, h⟩ := am_bv_s h
    refine am_R.call (e' := me_X2_lower) (as := [.ref 13, .ref 11, .int r22]) (rest := []) rfl rfl (Nat.le_of_ble_eq_true rfl) (t_X2_lower_13_11 z N r22 _ hz) ?_
    obtain ⟨hC, h⟩ := am_gd h
    refine am_R.go 11 (q' := (79, [some (.ref 65), some (.int p1), some (.int p2), some (.int p3), some (.int r22)], [.int ((am_up M57 67 (p3.toNatClampNeg) (M57 51 0)) 67 (p3.toNatClampNeg))], am_up M57 67 (p3.toNatClampNeg) (M57 51 0))) rfl ⟨hC, hC, trivial⟩ ?_
    cases h
    exact am_R.ret rfl rfl trivial
  · refine am_R.bt rfl rfl hc ?_
    obtain ⟨hC, h⟩ := am_gd h
    refine am_R.go 4 (q' := (79, [some (.ref 65), some (.int p1), some (.int p2), some (.int p3), none], [.int (M 67 (p3.toNatClampNeg))], M)) rfl ⟨hC, trivial⟩ ?_
    cases h
    exact am_R.ret rfl rfl trivial
def f_X0_leftAtWorst_56B (N : Nat) (v1 : Int32) (v2 : Int32) (v3 : Int32) (k56 : Int32 → Int32 → am_M → Option (Except Nat (Option Value) × am_M)) (v4 : Int32) (v5 : Int32) (M : am_M) : Option (Except Nat (Option Value) × am_M) :=
  if (1 <<< ((M 11 3) &&& 31)) ≤ v5 then
    some (.ok (some (.int v4)), M)
  else
    if am_in v5 256 then
      if (M 66 (v5.toNatClampNeg)) = 0 then
        k56 v4 (v5 + 1) M
      else
        am_bi (f_X0_countWith N v1 v2 (v5 &&& v3) M) fun r90 M90 =>
          if am_in r90 25 then
            k56 (if v4 < ((am_up M90 68 (r90.toNatClampNeg) ((M90 68 (r90.toNatClampNeg)) + 1)) 68 (r90.toNatClampNeg)) then (am_up M90 68 (r90.toNatClampNeg) ((M90 68 (r90.toNatClampNeg)) + 1)) 68 (r90.toNatClampNeg) else v4) (v5 + 1) (am_up M90 68 (r90.toNatClampNeg) ((M90 68 (r90.toNatClampNeg)) + 1))
          else none
    else none
def f_X0_leftAtWorst_56 (N : Nat) (v1 : Int32) (v2 : Int32) (v3 : Int32) : Nat → Int32 → Int32 → am_M → Option (Except Nat (Option Value) × am_M)
  | 0 => fun _ _ _ => none
  | n + 1 => f_X0_leftAtWorst_56B N v1 v2 v3 (f_X0_leftAtWorst_56 N v1 v2 v3 n)
set_option maxRecDepth 100000 in
theorem t_X0_leftAtWorst_56B (z : Value) (N : Nat) (v1 : Int32) (v2 : Int32) (v3 : Int32) {r : Except Nat (Option Value)} {M' : am_M} (k56 : Int32 → Int32 → am_M → Option (Except Nat (Option Value) × am_M)) (hk56 : ∀ (v4 : Int32) (v5 : Int32) (d6 : Option Value) (M : am_M), k56 v4 v5 M = some (r, M') → cR z me_X0_leftAtWorst (56, [some (.ref 65), some (.int v1), some (.int v2), some (.int v3), some (.int v4), some (.int v5), d6], [], M) r M') (v4 : Int32) (v5 : Int32) (d6 : Option Value) (M : am_M) (h : f_X0_leftAtWorst_56B N v1 v2 v3 k56 v4 v5 M = some (r, M')) : cR z me_X0_leftAtWorst (56, [some (.ref 65), some (.int v1), some (.int v2), some (.int v3), some (.int v4), some (.int v5), d6], [], M) r M' := by
  unfold f_X0_leftAtWorst_56B at h
  refine am_R.go 7 (q' := (70, [some (.ref 65), some (.int v1), some (.int v2), some (.int v3), some (.int v4), some (.int v5), d6], [.int (1 <<< ((M 11 3) &&& 31)), .int v5], M)) rfl trivial ?_
  rcases am_it h with ⟨hc, h⟩ | ⟨hc, h⟩
  · refine am_R.bt rfl rfl hc ?_
    refine am_R.go 1 (q' := (128, [some (.ref 65), some (.int v1), some (.int v2), some (.int v3), some (.int v4), some (.int v5), d6], [.int v4], M)) rfl trivial ?_
    cases h
    exact am_R.ret rfl rfl trivial
  · refine am_R.bn rfl rfl hc ?_
    obtain ⟨hC, h⟩ := am_gd h
    refine am_R.go 4 (q' := (80, [some (.ref 65), some (.int v1), some (.int v2), some (.int v3), some (.int v4), some (.int v5), d6], [.int (M 66 (v5.toNatClampNeg))], M)) rfl ⟨hC, trivial⟩ ?_
    rcases am_it h with ⟨hc, h⟩ | ⟨hc, h⟩
    · refine am_R.ct rfl rfl hc ?_
      refine am_R.go 2 (q' := (56, [some (.ref 65), some (.int v1), some (.int v2), some (.int v3), some (.int v4), some (.int (v5 + 1)), d6], [], M)) rfl trivial ?_
      exact hk56 v4 (v5 + 1) _ _ h
    · refine am_R.cn rfl rfl hc ?_
      refine am_R.go 6 (q' := (90, [some (.ref 65), some (.int v1), some (.int v2), some (.int v3), some (.int v4), some (.int v5), d6], [.int (v5 &&& v3), .int v2, .int v1, .ref 65], M)) rfl trivial ?_
      obtain ⟨r90, M90, hz, h⟩ := am_bi_s h
      refine am_R.call (e' := me_X0_countWith) (as := [.ref 65, .int v1, .int v2, .int (v5 &&& v3)]) (rest := []) rfl rfl (Nat.le_of_ble_eq_true rfl) (t_X0_countWith z N v1 v2 (v5 &&& v3) _ hz) ?_
      obtain ⟨hC, h⟩ := am_gd h
      refine am_R.go 18 (q' := (56, [some (.ref 65), some (.int v1), some (.int v2), some (.int v3), some (.int (if v4 < ((am_up M90 68 (r90.toNatClampNeg) ((M90 68 (r90.toNatClampNeg)) + 1)) 68 (r90.toNatClampNeg)) then (am_up M90 68 (r90.toNatClampNeg) ((M90 68 (r90.toNatClampNeg)) + 1)) 68 (r90.toNatClampNeg) else v4)), some (.int (v5 + 1)), some (.int r90)], [], am_up M90 68 (r90.toNatClampNeg) ((M90 68 (r90.toNatClampNeg)) + 1))) rfl ⟨hC, hC, hC, trivial⟩ ?_
      exact hk56 (if v4 < ((am_up M90 68 (r90.toNatClampNeg) ((M90 68 (r90.toNatClampNeg)) + 1)) 68 (r90.toNatClampNeg)) then (am_up M90 68 (r90.toNatClampNeg) ((M90 68 (r90.toNatClampNeg)) + 1)) 68 (r90.toNatClampNeg) else v4) (v5 + 1) _ _ h
set_option maxRecDepth 100000 in
theorem t_X0_leftAtWorst_56 (z : Value) (N : Nat) (v1 : Int32) (v2 : Int32) (v3 : Int32) {r : Except Nat (Option Value)} {M' : am_M} : ∀ (n : Nat) (v4 : Int32) (v5 : Int32) (d6 : Option Value) (M : am_M), f_X0_leftAtWorst_56 N v1 v2 v3 n v4 v5 M = some (r, M') → cR z me_X0_leftAtWorst (56, [some (.ref 65), some (.int v1), some (.int v2), some (.int v3), some (.int v4), some (.int v5), d6], [], M) r M' := by
  intro n
  induction n with
  | zero => intro v4 v5 d6 M h; cases h
  | succ n ih => intro v4 v5 d6 M h; exact t_X0_leftAtWorst_56B z N v1 v2 v3 _ ih v4 v5 d6 M h
def f_X0_leftAtWorst_23B (N : Nat) (v1 : Int32) (v2 : Int32) (k23 : Int32 → am_M → Option (Except Nat (Option Value) × am_M)) (v3 : Int32) (M : am_M) : Option (Except Nat (Option Value) × am_M) :=
  if 256 ≤ v3 then
    am_bi (f_X0_maybesReached N v1 v2 M) fun r46 M46 =>
      f_X0_leftAtWorst_56 N v1 v2 r46 N 0 0 M46
  else
    if am_in v3 256 then
      k23 (v3 + 1) (am_up M 67 (v3.toNatClampNeg) (-1))
    else none
def f_X0_leftAtWorst_23 (N : Nat) (v1 : Int32) (v2 : Int32) : Nat → Int32 → am_M → Option (Except Nat (Option Value) × am_M)
  | 0 => fun _ _ => none
  | n + 1 => f_X0_leftAtWorst_23B N v1 v2 (f_X0_leftAtWorst_23 N v1 v2 n)
set_option maxRecDepth 100000 in
theorem t_X0_leftAtWorst_23B (z : Value) (N : Nat) (v1 : Int32) (v2 : Int32) {r : Except Nat (Option Value)} {M' : am_M} (k23 : Int32 → am_M → Option (Except Nat (Option Value) × am_M)) (hk23 : ∀ (v3 : Int32) (d4 : Option Value) (d5 : Option Value) (d6 : Option Value) (M : am_M), k23 v3 M = some (r, M') → cR z me_X0_leftAtWorst (23, [some (.ref 65), some (.int v1), some (.int v2), some (.int v3), d4, d5, d6], [], M) r M') (v3 : Int32) (d4 : Option Value) (d5 : Option Value) (d6 : Option Value) (M : am_M) (h : f_X0_leftAtWorst_23B N v1 v2 k23 v3 M = some (r, M')) : cR z me_X0_leftAtWorst (23, [some (.ref 65), some (.int v1), some (.int v2), some (.int v3), d4, d5, d6], [], M) r M' := by
  unfold f_X0_leftAtWorst_23B at h
  refine am_R.go 2 (q' := (27, [some (.ref 65), some (.int v1), some (.int v2), some (.int v3), d4, d5, d6], [.int 256, .int v3], M)) rfl trivial ?_
  rcases am_it h with ⟨hc, h⟩ | ⟨hc, h⟩
  · refine am_R.bt rfl rfl hc ?_
    refine am_R.go 3 (q' := (46, [some (.ref 65), some (.int v1), some (.int v2), some (.int v3), d4, d5, d6], [.int v2, .int v1, .ref 65], M)) rfl trivial ?_
    obtain ⟨r46, M46, hz, h⟩ := am_bi_s h
    refine am_R.call (e' := me_X0_maybesReached) (as := [.ref 65, .int v1, .int v2]) (rest := []) rfl rfl (Nat.le_of_ble_eq_true rfl) (t_X0_maybesReached z N v1 v2 _ hz) ?_
    refine am_R.go 5 (q' := (56, [some (.ref 65), some (.int v1), some (.int v2), some (.int r46), some (.int 0), some (.int 0), d6], [], M46)) rfl trivial ?_
    exact t_X0_leftAtWorst_56 z N v1 v2 r46 N 0 0 _ _ h
  · refine am_R.bn rfl rfl hc ?_
    obtain ⟨hC, h⟩ := am_gd h
    refine am_R.go 7 (q' := (23, [some (.ref 65), some (.int v1), some (.int v2), some (.int (v3 + 1)), d4, d5, d6], [], am_up M 67 (v3.toNatClampNeg) (-1))) rfl ⟨hC, trivial⟩ ?_
    exact hk23 (v3 + 1) _ _ _ _ h
set_option maxRecDepth 100000 in
theorem t_X0_leftAtWorst_23 (z : Value) (N : Nat) (v1 : Int32) (v2 : Int32) {r : Except Nat (Option Value)} {M' : am_M} : ∀ (n : Nat) (v3 : Int32) (d4 : Option Value) (d5 : Option Value) (d6 : Option Value) (M : am_M), f_X0_leftAtWorst_23 N v1 v2 n v3 M = some (r, M') → cR z me_X0_leftAtWorst (23, [some (.ref 65), some (.int v1), some (.int v2), some (.int v3), d4, d5, d6], [], M) r M' := by
  intro n
  induction n with
  | zero => intro v3 d4 d5 d6 M h; cases h
  | succ n ih => intro v3 d4 d5 d6 M h; exact t_X0_leftAtWorst_23B z N v1 v2 _ ih v3 d4 d5 d6 M h
def f_X0_leftAtWorst_2B (N : Nat) (v1 : Int32) (v2 : Int32) (k2 : Int32 → am_M → Option (Except Nat (Option Value) × am_M)) (v3 : Int32) (M : am_M) : Option (Except Nat (Option Value) × am_M) :=
  if 24 < v3 then
    f_X0_leftAtWorst_23 N v1 v2 N 0 M
  else
    if am_in v3 25 then
      k2 (v3 + 1) (am_up M 68 (v3.toNatClampNeg) 0)
    else none
def f_X0_leftAtWorst_2 (N : Nat) (v1 : Int32) (v2 : Int32) : Nat → Int32 → am_M → Option (Except Nat (Option Value) × am_M)
  | 0 => fun _ _ => none
  | n + 1 => f_X0_leftAtWorst_2B N v1 v2 (f_X0_leftAtWorst_2 N v1 v2 n)
set_option maxRecDepth 100000 in
theorem t_X0_leftAtWorst_2B (z : Value) (N : Nat) (v1 : Int32) (v2 : Int32) {r : Except Nat (Option Value)} {M' : am_M} (k2 : Int32 → am_M → Option (Except Nat (Option Value) × am_M)) (hk2 : ∀ (v3 : Int32) (d4 : Option Value) (d5 : Option Value) (d6 : Option Value) (M : am_M), k2 v3 M = some (r, M') → cR z me_X0_leftAtWorst (2, [some (.ref 65), some (.int v1), some (.int v2), some (.int v3), d4, d5, d6], [], M) r M') (v3 : Int32) (d4 : Option Value) (d5 : Option Value) (d6 : Option Value) (M : am_M) (h : f_X0_leftAtWorst_2B N v1 v2 k2 v3 M = some (r, M')) : cR z me_X0_leftAtWorst (2, [some (.ref 65), some (.int v1), some (.int v2), some (.int v3), d4, d5, d6], [], M) r M' := by
  unfold f_X0_leftAtWorst_2B at h
  refine am_R.go 2 (q' := (5, [some (.ref 65), some (.int v1), some (.int v2), some (.int v3), d4, d5, d6], [.int 24, .int v3], M)) rfl trivial ?_
  rcases am_it h with ⟨hc, h⟩ | ⟨hc, h⟩
  · refine am_R.bt rfl rfl hc ?_
    refine am_R.go 2 (q' := (23, [some (.ref 65), some (.int v1), some (.int v2), some (.int 0), d4, d5, d6], [], M)) rfl trivial ?_
    exact t_X0_leftAtWorst_23 z N v1 v2 N 0 _ _ _ _ h
  · refine am_R.bn rfl rfl hc ?_
    obtain ⟨hC, h⟩ := am_gd h
    refine am_R.go 7 (q' := (2, [some (.ref 65), some (.int v1), some (.int v2), some (.int (v3 + 1)), d4, d5, d6], [], am_up M 68 (v3.toNatClampNeg) 0)) rfl ⟨hC, trivial⟩ ?_
    exact hk2 (v3 + 1) _ _ _ _ h
set_option maxRecDepth 100000 in
theorem t_X0_leftAtWorst_2 (z : Value) (N : Nat) (v1 : Int32) (v2 : Int32) {r : Except Nat (Option Value)} {M' : am_M} : ∀ (n : Nat) (v3 : Int32) (d4 : Option Value) (d5 : Option Value) (d6 : Option Value) (M : am_M), f_X0_leftAtWorst_2 N v1 v2 n v3 M = some (r, M') → cR z me_X0_leftAtWorst (2, [some (.ref 65), some (.int v1), some (.int v2), some (.int v3), d4, d5, d6], [], M) r M' := by
  intro n
  induction n with
  | zero => intro v3 d4 d5 d6 M h; cases h
  | succ n ih => intro v3 d4 d5 d6 M h; exact t_X0_leftAtWorst_2B z N v1 v2 _ ih v3 d4 d5 d6 M h
def f_X0_leftAtWorst (N : Nat) (p1 : Int32) (p2 : Int32) (M : am_M) : Option (Except Nat (Option Value) × am_M) :=
  f_X0_leftAtWorst_2 N p1 p2 N 0 M
set_option maxRecDepth 100000 in
theorem t_X0_leftAtWorst (z : Value) (N : Nat) (p1 : Int32) (p2 : Int32) (M : am_M) {r : Except Nat (Option Value)} {M' : am_M} (h : f_X0_leftAtWorst N p1 p2 M = some (r, M')) : cR z me_X0_leftAtWorst (0, [some (.ref 65), some (.int p1), some (.int p2), none, none, none, none], [], M) r M' := by
  unfold f_X0_leftAtWorst at h
  refine am_R.go 2 (q' := (2, [some (.ref 65), some (.int p1), some (.int p2), some (.int 0), none, none, none], [], M)) rfl trivial ?_
  exact t_X0_leftAtWorst_2 z N p1 p2 N 0 _ _ _ _ h
def f_X0_findQuestion_76 (N : Nat) (k29 : Int32 → am_M → Option (Except Nat (Option Value) × am_M)) (k42 : Int32 → am_M → Option (Except Nat (Option Value) × am_M)) (v1 : Int32) (v2 : Int32) (v3 : Int32) (M : am_M) : Option (Except Nat (Option Value) × am_M) :=
  k42 (v2 + 1) (am_up (am_up (am_up M 65 4 v2) 65 5 v1) 65 6 v3)
set_option maxRecDepth 100000 in
theorem t_X0_findQuestion_76 (z : Value) (N : Nat) (k29 : Int32 → am_M → Option (Except Nat (Option Value) × am_M)) (k42 : Int32 → am_M → Option (Except Nat (Option Value) × am_M)) {r : Except Nat (Option Value)} {M' : am_M} (v1 : Int32) (v2 : Int32) (v3 : Int32) (M : am_M) (hk29 : ∀ (v1 : Int32) (d2 : Option Value) (d3 : Option Value) (M : am_M), k29 v1 M = some (r, M') → cR z me_X0_findQuestion (29, [some (.ref 65), some (.int v1), d2, d3], [], M) r M') (hk42 : ∀ (v2 : Int32) (d3 : Option Value) (M : am_M), k42 v2 M = some (r, M') → cR z me_X0_findQuestion (42, [some (.ref 65), some (.int v1), some (.int v2), d3], [], M) r M') (h : f_X0_findQuestion_76 N k29 k42 v1 v2 v3 M = some (r, M')) : cR z me_X0_findQuestion (76, [some (.ref 65), some (.int v1), some (.int v2), some (.int v3)], [], M) r M' := by
  unfold f_X0_findQuestion_76 at h
  refine am_R.go 11 (q' := (42, [some (.ref 65), some (.int v1), some (.int (v2 + 1)), some (.int v3)], [], am_up (am_up (am_up M 65 4 v2) 65 5 v1) 65 6 v3)) rfl trivial ?_
  exact hk42 (v2 + 1) _ _ h
def f_X0_findQuestion_42B (N : Nat) (v1 : Int32) (k29 : Int32 → am_M → Option (Except Nat (Option Value) × am_M)) (k42 : Int32 → am_M → Option (Except Nat (Option Value) × am_M)) (v2 : Int32) (M : am_M) : Option (Except Nat (Option Value) × am_M) :=
  if (M 2 0) ≤ v2 then
    k29 (v1 + 1) M
  else
    am_bi (f_X0_leftAtWorst N v2 v1 M) fun r56 M56 =>
      if (M56 65 6) = (-1) then
        f_X0_findQuestion_76 N k29 k42 v1 v2 r56 M56
      else
        if (M56 65 6) ≤ r56 then
          k42 (v2 + 1) M56
        else
          f_X0_findQuestion_76 N k29 k42 v1 v2 r56 M56
def f_X0_findQuestion_42 (N : Nat) (v1 : Int32) (k29 : Int32 → am_M → Option (Except Nat (Option Value) × am_M)) : Nat → Int32 → am_M → Option (Except Nat (Option Value) × am_M)
  | 0 => fun _ _ => none
  | n + 1 => f_X0_findQuestion_42B N v1 k29 (f_X0_findQuestion_42 N v1 k29 n)
set_option maxRecDepth 100000 in
theorem t_X0_findQuestion_42B (z : Value) (N : Nat) (v1 : Int32) (k29 : Int32 → am_M → Option (Except Nat (Option Value) × am_M)) {r : Except Nat (Option Value)} {M' : am_M} (hk29 : ∀ (v1 : Int32) (d2 : Option Value) (d3 : Option Value) (M : am_M), k29 v1 M = some (r, M') → cR z me_X0_findQuestion (29, [some (.ref 65), some (.int v1), d2, d3], [], M) r M') (k42 : Int32 → am_M → Option (Except Nat (Option Value) × am_M)) (hk42 : ∀ (v2 : Int32) (d3 : Option Value) (M : am_M), k42 v2 M = some (r, M') → cR z me_X0_findQuestion (42, [some (.ref 65), some (.int v1), some (.int v2), d3], [], M) r M') (v2 : Int32) (d3 : Option Value) (M : am_M) (h : f_X0_findQuestion_42B N v1 k29 k42 v2 M = some (r, M')) : cR z me_X0_findQuestion (42, [some (.ref 65), some (.int v1), some (.int v2), d3], [], M) r M' := by
  unfold f_X0_findQuestion_42B at h
  refine am_R.go 4 (q' := (50, [some (.ref 65), some (.int v1), some (.int v2), d3], [.int (M 2 0), .int v2], M)) rfl trivial ?_
  rcases am_it h with ⟨hc, h⟩ | ⟨hc, h⟩
  · refine am_R.bt rfl rfl hc ?_
    refine am_R.go 2 (q' := (29, [some (.ref 65), some (.int (v1 + 1)), some (.int v2), d3], [], M)) rfl trivial ?_
    exact hk29 (v1 + 1) _ _ _ h
  · refine am_R.bn rfl rfl hc ?_
    refine am_R.go 3 (q' := (56, [some (.ref 65), some (.int v1), some (.int v2), d3], [.int v1, .int v2, .ref 65], M)) rfl trivial ?_
    obtain ⟨r56, M56, hz, h⟩ := am_bi_s h
    refine am_R.call (e' := me_X0_leftAtWorst) (as := [.ref 65, .int v2, .int v1]) (rest := []) rfl rfl (Nat.le_of_ble_eq_true rfl) (t_X0_leftAtWorst z N v2 v1 _ hz) ?_
    refine am_R.go 4 (q' := (65, [some (.ref 65), some (.int v1), some (.int v2), some (.int r56)], [.int (-1), .int (M56 65 6)], M56)) rfl trivial ?_
    rcases am_it h with ⟨hc, h⟩ | ⟨hc, h⟩
    · refine am_R.bt rfl rfl hc ?_
      exact t_X0_findQuestion_76 z N k29 k42 v1 v2 r56 _ hk29 hk42 h
    · refine am_R.bn rfl rfl hc ?_
      refine am_R.go 3 (q' := (73, [some (.ref 65), some (.int v1), some (.int v2), some (.int r56)], [.int (M56 65 6), .int r56], M56)) rfl trivial ?_
      rcases am_it h with ⟨hc, h⟩ | ⟨hc, h⟩
      · refine am_R.bt rfl rfl hc ?_
        refine am_R.go 2 (q' := (42, [some (.ref 65), some (.int v1), some (.int (v2 + 1)), some (.int r56)], [], M56)) rfl trivial ?_
        exact hk42 (v2 + 1) _ _ h
      · refine am_R.bn rfl rfl hc ?_
        exact t_X0_findQuestion_76 z N k29 k42 v1 v2 r56 _ hk29 hk42 h
set_option maxRecDepth 100000 in
theorem t_X0_findQuestion_42 (z : Value) (N : Nat) (v1 : Int32) (k29 : Int32 → am_M → Option (Except Nat (Option Value) × am_M)) {r : Except Nat (Option Value)} {M' : am_M} (hk29 : ∀ (v1 : Int32) (d2 : Option Value) (d3 : Option Value) (M : am_M), k29 v1 M = some (r, M') → cR z me_X0_findQuestion (29, [some (.ref 65), some (.int v1), d2, d3], [], M) r M') : ∀ (n : Nat) (v2 : Int32) (d3 : Option Value) (M : am_M), f_X0_findQuestion_42 N v1 k29 n v2 M = some (r, M') → cR z me_X0_findQuestion (42, [some (.ref 65), some (.int v1), some (.int v2), d3], [], M) r M' := by
  intro n
  induction n with
  | zero => intro v2 d3 M h; cases h
  | succ n ih => intro v2 d3 M h; exact t_X0_findQuestion_42B z N v1 k29 hk29 _ ih v2 d3 M h
def f_X0_findQuestion_29B (N : Nat) (k29 : Int32 → am_M → Option (Except Nat (Option Value) × am_M)) (v1 : Int32) (M : am_M) : Option (Except Nat (Option Value) × am_M) :=
  if (M 2 1) ≤ v1 then
    some (.ok none, M)
  else
    f_X0_findQuestion_42 N v1 k29 N 0 M
def f_X0_findQuestion_29 (N : Nat) : Nat → Int32 → am_M → Option (Except Nat (Option Value) × am_M)
  | 0 => fun _ _ => none
  | n + 1 => f_X0_findQuestion_29B N (f_X0_findQuestion_29 N n)
set_option maxRecDepth 100000 in
theorem t_X0_findQuestion_29B (z : Value) (N : Nat) {r : Except Nat (Option Value)} {M' : am_M} (k29 : Int32 → am_M → Option (Except Nat (Option Value) × am_M)) (hk29 : ∀ (v1 : Int32) (d2 : Option Value) (d3 : Option Value) (M : am_M), k29 v1 M = some (r, M') → cR z me_X0_findQuestion (29, [some (.ref 65), some (.int v1), d2, d3], [], M) r M') (v1 : Int32) (d2 : Option Value) (d3 : Option Value) (M : am_M) (h : f_X0_findQuestion_29B N k29 v1 M = some (r, M')) : cR z me_X0_findQuestion (29, [some (.ref 65), some (.int v1), d2, d3], [], M) r M' := by
  unfold f_X0_findQuestion_29B at h
  refine am_R.go 4 (q' := (37, [some (.ref 65), some (.int v1), d2, d3], [.int (M 2 1), .int v1], M)) rfl trivial ?_
  rcases am_it h with ⟨hc, h⟩ | ⟨hc, h⟩
  · refine am_R.bt rfl rfl hc ?_
    cases h
    exact am_R.ret rfl rfl trivial
  · refine am_R.bn rfl rfl hc ?_
    refine am_R.go 2 (q' := (42, [some (.ref 65), some (.int v1), some (.int 0), d3], [], M)) rfl trivial ?_
    exact t_X0_findQuestion_42 z N v1 k29 hk29 N 0 _ _ h
set_option maxRecDepth 100000 in
theorem t_X0_findQuestion_29 (z : Value) (N : Nat) {r : Except Nat (Option Value)} {M' : am_M} : ∀ (n : Nat) (v1 : Int32) (d2 : Option Value) (d3 : Option Value) (M : am_M), f_X0_findQuestion_29 N n v1 M = some (r, M') → cR z me_X0_findQuestion (29, [some (.ref 65), some (.int v1), d2, d3], [], M) r M' := by
  intro n
  induction n with
  | zero => intro v1 d2 d3 M h; cases h
  | succ n ih => intro v1 d2 d3 M h; exact t_X0_findQuestion_29B z N _ ih v1 d2 d3 M h
def f_X0_findQuestion (N : Nat) (M : am_M) : Option (Except Nat (Option Value) × am_M) :=
  am_bv (f_X0_findSets N (am_up (am_up (am_up M 65 4 (-1)) 65 5 (-1)) 65 6 (-1))) fun M16 =>
    if (M16 65 0) = 0 then
      some (.ok none, M16)
    else
      f_X0_findQuestion_29 N N 0 M16
set_option maxRecDepth 100000 in
theorem t_X0_findQuestion (z : Value) (N : Nat) (M : am_M) {r : Except Nat (Option Value)} {M' : am_M} (h : f_X0_findQuestion N M = some (r, M')) : cR z me_X0_findQuestion (0, [some (.ref 65), none, none, none], [], M) r M' := by
  unfold f_X0_findQuestion at h
  refine am_R.go 10 (q' := (16, [some (.ref 65), none, none, none], [.ref 65], am_up (am_up (am_up M 65 4 (-1)) 65 5 (-1)) 65 6 (-1))) rfl trivial ?_
  obtain ⟨M16, hz, h⟩ := am_bv_s h
  refine am_R.call (e' := me_X0_findSets) (as := [.ref 65]) (rest := []) rfl rfl (Nat.le_of_ble_eq_true rfl) (t_X0_findSets z N _ hz) ?_
  refine am_R.go 2 (q' := (23, [some (.ref 65), none, none, none], [.int (M16 65 0)], M16)) rfl trivial ?_
  rcases am_it h with ⟨hc, h⟩ | ⟨hc, h⟩
  · refine am_R.cn rfl rfl (fun q => q hc) ?_
    cases h
    exact am_R.ret rfl rfl trivial
  · refine am_R.ct rfl rfl hc ?_
    refine am_R.go 2 (q' := (29, [some (.ref 65), some (.int 0), none, none], [], M16)) rfl trivial ?_
    exact t_X0_findQuestion_29 z N N 0 _ _ _ h
def f_X9_ask (N : Nat) (p1 : Int32) (M : am_M) : Option (Except Nat (Option Value) × am_M) :=
  am_bvx (f_X9_needBetween N p1 0 2 M) fun M4 =>
    am_bv (f_X0_findQuestion N M4) fun M11 =>
      if p1 = 0 then
        some (.ok (some (.int (M11 65 4))), M11)
      else
        if p1 = 1 then
          some (.ok (some (.int (M11 65 5))), M11)
        else
          some (.ok (some (.int (M11 65 6))), M11)
set_option maxRecDepth 100000 in
theorem t_X9_ask (z : Value) (N : Nat) (p1 : Int32) (M : am_M) {r : Except Nat (Option Value)} {M' : am_M} (h : f_X9_ask N p1 M = some (r, M')) : cR z me_X9_ask (0, [some (.ref 0), some (.int p1)], [], M) r M' := by
  unfold f_X9_ask at h
  refine am_R.go 4 (q' := (4, [some (.ref 0), some (.int p1)], [.int 2, .int 0, .int p1, .ref 0], M)) rfl trivial ?_
  rcases am_bvx_s h with ⟨M4, hz, h⟩ | ⟨x, M4, hz, h⟩
  · refine am_R.call (e' := me_X9_needBetween) (as := [.ref 0, .int p1, .int 0, .int 2]) (rest := []) rfl rfl (Nat.le_of_ble_eq_true rfl) (t_X9_needBetween z N p1 0 2 _ hz) ?_
    refine am_R.go 2 (q' := (11, [some (.ref 0), some (.int p1)], [.ref 65], M4)) rfl trivial ?_
    obtain ⟨M11, hz, h⟩ := am_bv_s h
    refine am_R.call (e' := me_X0_findQuestion) (as := [.ref 65]) (rest := []) rfl rfl (Nat.le_of_ble_eq_true rfl) (t_X0_findQuestion z N _ hz) ?_
    refine am_R.go 1 (q' := (15, [some (.ref 0), some (.int p1)], [.int p1], M11)) rfl trivial ?_
    rcases am_it h with ⟨hc, h⟩ | ⟨hc, h⟩
    · refine am_R.cn rfl rfl (fun q => q hc) ?_
      refine am_R.go 4 (q' := (50, [some (.ref 0), some (.int p1)], [.int (M11 65 4)], M11)) rfl trivial ?_
      cases h
      exact am_R.ret rfl rfl trivial
    · refine am_R.ct rfl rfl hc ?_
      refine am_R.go 2 (q' := (30, [some (.ref 0), some (.int p1)], [.int 1, .int p1], M11)) rfl trivial ?_
      rcases am_it h with ⟨hc, h⟩ | ⟨hc, h⟩
      · refine am_R.bn rfl rfl (fun q => q hc) ?_
        refine am_R.go 4 (q' := (50, [some (.ref 0), some (.int p1)], [.int (M11 65 5)], M11)) rfl trivial ?_
        cases h
        exact am_R.ret rfl rfl trivial
      · refine am_R.bt rfl rfl hc ?_
        refine am_R.go 3 (q' := (50, [some (.ref 0), some (.int p1)], [.int (M11 65 6)], M11)) rfl trivial ?_
        cases h
        exact am_R.ret rfl rfl trivial
  · cases h
    exact am_R.callx (e' := me_X9_needBetween) (as := [.ref 0, .int p1, .int 0, .int 2]) (rest := []) rfl rfl (Nat.le_of_ble_eq_true rfl) rfl (t_X9_needBetween z N p1 0 2 _ hz)
def f_X6_shoutForPeaks_3B (N : Nat) (v1 : Int32) (v2 : Int32) (v3 : Int32) (k3 : Int32 → am_M → Option (Except Nat (Option Value) × am_M)) (v4 : Int32) (M : am_M) : Option (Except Nat (Option Value) × am_M) :=
  if 100 ≤ v4 then
    am_bi (f_X9_cellOf N v1 v2 M) fun r30 M30 =>
      if am_in r30 100 then
        am_bv (f_X6_shout N v1 v2 v3 0 (am_up (am_up M30 56 (r30.toNatClampNeg) v3) 51 6 1)) fun M45 =>
          some (.ok none, am_up M45 51 6 0)
      else none
  else
    if am_in v4 100 then
      k3 (v4 + 1) (am_up M 56 (v4.toNatClampNeg) 0)
    else none
def f_X6_shoutForPeaks_3 (N : Nat) (v1 : Int32) (v2 : Int32) (v3 : Int32) : Nat → Int32 → am_M → Option (Except Nat (Option Value) × am_M)
  | 0 => fun _ _ => none
  | n + 1 => f_X6_shoutForPeaks_3B N v1 v2 v3 (f_X6_shoutForPeaks_3 N v1 v2 v3 n)
set_option maxRecDepth 100000 in
theorem t_X6_shoutForPeaks_3B (z : Value) (N : Nat) (v1 : Int32) (v2 : Int32) (v3 : Int32) {r : Except Nat (Option Value)} {M' : am_M} (k3 : Int32 → am_M → Option (Except Nat (Option Value) × am_M)) (hk3 : ∀ (v4 : Int32) (M : am_M), k3 v4 M = some (r, M') → cR z me_X6_shoutForPeaks (3, [some (.ref 51), some (.int v1), some (.int v2), some (.int v3), some (.int v4)], [], M) r M') (v4 : Int32) (M : am_M) (h : f_X6_shoutForPeaks_3B N v1 v2 v3 k3 v4 M = some (r, M')) : cR z me_X6_shoutForPeaks (3, [some (.ref 51), some (.int v1), some (.int v2), some (.int v3), some (.int v4)], [], M) r M' := by
  unfold f_X6_shoutForPeaks_3B at h
  refine am_R.go 2 (q' := (7, [some (.ref 51), some (.int v1), some (.int v2), some (.int v3), some (.int v4)], [.int 100, .int v4], M)) rfl trivial ?_
  rcases am_it h with ⟨hc, h⟩ | ⟨hc, h⟩
  · refine am_R.bt rfl rfl hc ?_
    refine am_R.go 4 (q' := (30, [some (.ref 51), some (.int v1), some (.int v2), some (.int v3), some (.int v4)], [.int v2, .int v1, .ref 56], M)) rfl trivial ?_
    obtain ⟨r30, M30, hz, h⟩ := am_bi_s h
    refine am_R.call (e' := me_X9_cellOf) (as := [.int v1, .int v2]) (rest := [.ref 56]) rfl rfl (Nat.le_of_ble_eq_true rfl) (t_X9_cellOf z N v1 v2 _ hz) ?_
    obtain ⟨hC, h⟩ := am_gd h
    refine am_R.go 10 (q' := (45, [some (.ref 51), some (.int v1), some (.int v2), some (.int v3), some (.int v4)], [.int 0, .int v3, .int v2, .int v1, .ref 51], am_up (am_up M30 56 (r30.toNatClampNeg) v3) 51 6 1)) rfl ⟨hC, (by decide), trivial⟩ ?_
    obtain ⟨M45, hz, h⟩ := am_bv_s h
    refine am_R.call (e' := me_X6_shout) (as := [.ref 51, .int v1, .int v2, .int v3, .int 0]) (rest := []) rfl rfl (Nat.le_of_ble_eq_true rfl) (t_X6_shout z N v1 v2 v3 0 _ hz) ?_
    refine am_R.go 3 (q' := (53, [some (.ref 51), some (.int v1), some (.int v2), some (.int v3), some (.int v4)], [], am_up M45 51 6 0)) rfl ⟨(by decide), trivial⟩ ?_
    cases h
    exact am_R.ret rfl rfl trivial
  · refine am_R.bn rfl rfl hc ?_
    obtain ⟨hC, h⟩ := am_gd h
    refine am_R.go 7 (q' := (3, [some (.ref 51), some (.int v1), some (.int v2), some (.int v3), some (.int (v4 + 1))], [], am_up M 56 (v4.toNatClampNeg) 0)) rfl ⟨hC, trivial⟩ ?_
    exact hk3 (v4 + 1) _ h
set_option maxRecDepth 100000 in
theorem t_X6_shoutForPeaks_3 (z : Value) (N : Nat) (v1 : Int32) (v2 : Int32) (v3 : Int32) {r : Except Nat (Option Value)} {M' : am_M} : ∀ (n : Nat) (v4 : Int32) (M : am_M), f_X6_shoutForPeaks_3 N v1 v2 v3 n v4 M = some (r, M') → cR z me_X6_shoutForPeaks (3, [some (.ref 51), some (.int v1), some (.int v2), some (.int v3), some (.int v4)], [], M) r M' := by
  intro n
  induction n with
  | zero => intro v4 M h; cases h
  | succ n ih => intro v4 M h; exact t_X6_shoutForPeaks_3B z N v1 v2 v3 _ ih v4 M h
def f_X6_shoutForPeaks (N : Nat) (p1 : Int32) (p2 : Int32) (p3 : Int32) (M : am_M) : Option (Except Nat (Option Value) × am_M) :=
  f_X6_shoutForPeaks_3 N p1 p2 p3 N 0 M
set_option maxRecDepth 100000 in
theorem t_X6_shoutForPeaks (z : Value) (N : Nat) (p1 : Int32) (p2 : Int32) (p3 : Int32) (M : am_M) {r : Except Nat (Option Value)} {M' : am_M} (h : f_X6_shoutForPeaks N p1 p2 p3 M = some (r, M')) : cR z me_X6_shoutForPeaks (0, [some (.ref 51), some (.int p1), some (.int p2), some (.int p3), none], [], M) r M' := by
  unfold f_X6_shoutForPeaks at h
  refine am_R.go 2 (q' := (3, [some (.ref 51), some (.int p1), some (.int p2), some (.int p3), some (.int 0)], [], M)) rfl trivial ?_
  exact t_X6_shoutForPeaks_3 z N p1 p2 p3 N 0 _ h
