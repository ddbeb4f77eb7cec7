def f_X0_bookIsSo_10B (N : Nat) (k10 : Int32 → am_M → Option (Except Nat (Option Value) × am_M)) (v2 : Int32) (M : am_M) : Option (Except Nat (Option Value) × am_M) :=
  if (M 16 3) ≤ v2 then
    some (.ok (some (.int 1)), M)
  else
    am_bi (f_X8_at_16 N v2 0 M) fun r25 M25 =>
      am_bi (f_X8_at_16 N v2 1 M25) fun r31 M31 =>
        am_bv (f_X6_shout N r25 r31 (M31 2 2) 0 M31) fun M42 =>
          am_bi (f_X8_at_16 N v2 2 M42) fun r52 M52 =>
            am_bi (f_X6_countAt N r52 M52) fun r55 M55 =>
              am_bi (f_X8_at_16 N v2 3 M55) fun r61 M61 =>
                if r55 = r61 then
                  k10 (v2 + 1) M61
                else
                  some (.ok (some (.int 0)), M61)
def f_X0_bookIsSo_10 (N : Nat) : Nat → Int32 → am_M → Option (Except Nat (Option Value) × am_M)
  | 0 => fun _ _ => none
  | n + 1 => f_X0_bookIsSo_10B N (f_X0_bookIsSo_10 N n)
set_option maxRecDepth 100000 in
theorem t_X0_bookIsSo_10B (z : Value) (N : Nat) {r : Except Nat (Option Value)} {M' : am_M} (k10 : Int32 → am_M → Option (Except Nat (Option Value) × am_M)) (hk10 : ∀ (v2 : Int32) (M : am_M), k10 v2 M = some (r, M') → cR z me_X0_bookIsSo (10, [some (.ref 65), some (.ref 16), some (.int v2)], [], M) r M') (v2 : Int32) (M : am_M) (h : f_X0_bookIsSo_10B N k10 v2 M = some (r, M')) : cR z me_X0_bookIsSo (10, [some (.ref 65), some (.ref 16), some (.int v2)], [], M) r M' := by
  unfold f_X0_bookIsSo_10B at h
  refine am_R.go 3 (q' := (15, [some (.ref 65), some (.ref 16), some (.int v2)], [.int (M 16 3), .int v2], M)) rfl trivial ?_
  rcases am_it h with ⟨hc, h⟩ | ⟨hc, h⟩
  · refine am_R.bt rfl rfl hc ?_
    refine am_R.go 1 (q' := (76, [some (.ref 65), some (.ref 16), some (.int v2)], [.int 1], M)) rfl trivial ?_
    cases h
    exact am_R.ret rfl rfl (Or.inr rfl)
  · refine am_R.bn rfl rfl hc ?_
    refine am_R.go 5 (q' := (25, [some (.ref 65), some (.ref 16), some (.int v2)], [.int 0, .int v2, .ref 16, .ref 51], M)) rfl trivial ?_
    obtain ⟨r25, M25, hz, h⟩ := am_bi_s h
    refine am_R.call (e' := me_X8_at) (as := [.ref 16, .int v2, .int 0]) (rest := [.ref 51]) rfl rfl (Nat.le_of_ble_eq_true rfl) (t_X8_at_16 z N v2 0 _ hz) ?_
    refine am_R.go 3 (q' := (31, [some (.ref 65), some (.ref 16), some (.int v2)], [.int 1, .int v2, .ref 16, .int r25, .ref 51], M25)) rfl trivial ?_
    obtain ⟨r31, M31, hz, h⟩ := am_bi_s h
    refine am_R.call (e' := me_X8_at) (as := [.ref 16, .int v2, .int 1]) (rest := [.int r25, .ref 51]) rfl rfl (Nat.le_of_ble_eq_true rfl) (t_X8_at_16 z N v2 1 _ hz) ?_
    refine am_R.go 4 (q' := (42, [some (.ref 65), some (.ref 16), some (.int v2)], [.int 0, .int (M31 2 2), .int r31, .int r25, .ref 51], M31)) rfl trivial ?_
    obtain ⟨M42, hz, h⟩ := am_bv_s h
    refine am_R.call (e' := me_X6_shout) (as := [.ref 51, .int r25, .int r31, .int (M31 2 2), .int 0]) (rest := []) rfl rfl (Nat.le_of_ble_eq_true rfl) (t_X6_shout z N r25 r31 (M31 2 2) 0 _ hz) ?_
    refine am_R.go 5 (q' := (52, [some (.ref 65), some (.ref 16), some (.int v2)], [.int 2, .int v2, .ref 16, .ref 51], M42)) rfl trivial ?_
    obtain ⟨r52, M52, hz, h⟩ := am_bi_s h
    refine am_R.call (e' := me_X8_at) (as := [.ref 16, .int v2, .int 2]) (rest := [.ref 51]) rfl rfl (Nat.le_of_ble_eq_true rfl) (t_X8_at_16 z N v2 2 _ hz) ?_
    obtain ⟨r55, M55, hz, h⟩ := am_bi_s h
    refine am_R.call (e' := me_X6_countAt) (as := [.ref 51, .int r52]) (rest := []) rfl rfl (Nat.le_of_ble_eq_true rfl) (t_X6_countAt z N r52 _ hz) ?_
    refine am_R.go 3 (q' := (61, [some (.ref 65), some (.ref 16), some (.int v2)], [.int 3, .int v2, .ref 16, .int r55], M55)) rfl trivial ?_
    obtain ⟨r61, M61, hz, h⟩ := am_bi_s h
    refine am_R.call (e' := me_X8_at) (as := [.ref 16, .int v2, .int 3]) (rest := [.int r55]) rfl rfl (Nat.le_of_ble_eq_true rfl) (t_X8_at_16 z N v2 3 _ hz) ?_
    rcases am_it h with ⟨hc, h⟩ | ⟨hc, h⟩
    · refine am_R.bt rfl rfl hc ?_
      refine am_R.go 2 (q' := (10, [some (.ref 65), some (.ref 16), some (.int (v2 + 1))], [], M61)) rfl trivial ?_
      exact hk10 (v2 + 1) _ h
    · refine am_R.bn rfl rfl hc ?_
      refine am_R.go 1 (q' := (68, [some (.ref 65), some (.ref 16), some (.int v2)], [.int 0], M61)) rfl trivial ?_
      cases h
      exact am_R.ret rfl rfl (Or.inl rfl)
set_option maxRecDepth 100000 in
theorem t_X0_bookIsSo_10 (z : Value) (N : Nat) {r : Except Nat (Option Value)} {M' : am_M} : ∀ (n : Nat) (v2 : Int32) (M : am_M), f_X0_bookIsSo_10 N n v2 M = some (r, M') → cR z me_X0_bookIsSo (10, [some (.ref 65), some (.ref 16), some (.int v2)], [], M) r M' := by
  intro n
  induction n with
  | zero => intro v2 M h; cases h
  | succ n ih => intro v2 M h; exact t_X0_bookIsSo_10B z N _ ih v2 M h
def f_X0_bookIsSo (N : Nat) (M : am_M) : Option (Except Nat (Option Value) × am_M) :=
  f_X0_bookIsSo_10 N N 0 M
set_option maxRecDepth 100000 in
theorem t_X0_bookIsSo (z : Value) (N : Nat) (M : am_M) {r : Except Nat (Option Value)} {M' : am_M} (h : f_X0_bookIsSo N M = some (r, M')) : cR z me_X0_bookIsSo (0, [some (.ref 65), none, none], [], M) r M' := by
  unfold f_X0_bookIsSo at h
  refine am_R.go 6 (q' := (10, [some (.ref 65), some (.ref 16), some (.int 0)], [], M)) rfl trivial ?_
  exact t_X0_bookIsSo_10 z N N 0 _ h
def f_X2_lower_13_11_2B (N : Nat) (v2 : Int32) (k2 : Int32 → am_M → Option (Except Nat (Option Value) × am_M)) (v3 : Int32) (M : am_M) : Option (Except Nat (Option Value) × am_M) :=
  if (M 11 3) ≤ v3 then
    some (.ok none, M)
  else
    if ((v2 >>> (v3 &&& 31)) &&& 1) = 0 then
      k2 (v3 + 1) M
    else
      am_bi (f_X8_cellAt_11 N v3 M) fun r24 M24 =>
        if am_in r24 100 then
          k2 (v3 + 1) (am_up M24 14 (r24.toNatClampNeg) 0)
        else none
def f_X2_lower_13_11_2 (N : Nat) (v2 : Int32) : Nat → Int32 → am_M → Option (Except Nat (Option Value) × am_M)
  | 0 => fun _ _ => none
  | n + 1 => f_X2_lower_13_11_2B N v2 (f_X2_lower_13_11_2 N v2 n)
set_option maxRecDepth 100000 in
theorem t_X2_lower_13_11_2B (z : Value) (N : Nat) (v2 : Int32) {r : Except Nat (Option Value)} {M' : am_M} (k2 : Int32 → am_M → Option (Except Nat (Option Value) × am_M)) (hk2 : ∀ (v3 : Int32) (M : am_M), k2 v3 M = some (r, M') → cR z me_X2_lower (2, [some (.ref 13), some (.ref 11), some (.int v2), some (.int v3)], [], M) r M') (v3 : Int32) (M : am_M) (h : f_X2_lower_13_11_2B N v2 k2 v3 M = some (r, M')) : cR z me_X2_lower (2, [some (.ref 13), some (.ref 11), some (.int v2), some (.int v3)], [], M) r M' := by
  unfold f_X2_lower_13_11_2B at h
  refine am_R.go 3 (q' := (7, [some (.ref 13), some (.ref 11), some (.int v2), some (.int v3)], [.int (M 11 3), .int v3], M)) rfl trivial ?_
  rcases am_it h with ⟨hc, h⟩ | ⟨hc, h⟩
  · refine am_R.bt rfl rfl hc ?_
    cases h
    exact am_R.ret rfl rfl trivial
  · refine am_R.bn rfl rfl hc ?_
    refine am_R.go 5 (q' := (15, [some (.ref 13), some (.ref 11), some (.int v2), some (.int v3)], [.int ((v2 >>> (v3 &&& 31)) &&& 1)], M)) rfl trivial ?_
    rcases am_it h with ⟨hc, h⟩ | ⟨hc, h⟩
    · refine am_R.ct rfl rfl hc ?_
      refine am_R.go 2 (q' := (2, [some (.ref 13), some (.ref 11), some (.int v2), some (.int (v3 + 1))], [], M)) rfl trivial ?_
      exact hk2 (v3 + 1) _ h
    · refine am_R.cn rfl rfl hc ?_
      refine am_R.go 4 (q' := (24, [some (.ref 13), some (.ref 11), some (.int v2), some (.int v3)], [.int v3, .ref 11, .ref 14], M)) rfl trivial ?_
      obtain ⟨r24, M24, hz, h⟩ := am_bi_s h
      refine am_R.call (e' := me_X8_cellAt) (as := [.ref 11, .int v3]) (rest := [.ref 14]) rfl rfl (Nat.le_of_ble_eq_true rfl) (t_X8_cellAt_11 z N v3 _ hz) ?_
      obtain ⟨hC, h⟩ := am_gd h
      refine am_R.go 4 (q' := (2, [some (.ref 13), some (.ref 11), some (.int v2), some (.int (v3 + 1))], [], am_up M24 14 (r24.toNatClampNeg) 0)) rfl ⟨hC, trivial⟩ ?_
      exact hk2 (v3 + 1) _ h
set_option maxRecDepth 100000 in
theorem t_X2_lower_13_11_2 (z : Value) (N : Nat) (v2 : Int32) {r : Except Nat (Option Value)} {M' : am_M} : ∀ (n : Nat) (v3 : Int32) (M : am_M), f_X2_lower_13_11_2 N v2 n v3 M = some (r, M') → cR z me_X2_lower (2, [some (.ref 13), some (.ref 11), some (.int v2), some (.int v3)], [], M) r M' := by
  intro n
  induction n with
  | zero => intro v3 M h; cases h
  | succ n ih => intro v3 M h; exact t_X2_lower_13_11_2B z N v2 _ ih v3 M h
def f_X2_lower_13_11 (N : Nat) (p2 : Int32) (M : am_M) : Option (Except Nat (Option Value) × am_M) :=
  f_X2_lower_13_11_2 N p2 N 0 M
set_option maxRecDepth 100000 in
theorem t_X2_lower_13_11 (z : Value) (N : Nat) (p2 : Int32) (M : am_M) {r : Except Nat (Option Value)} {M' : am_M} (h : f_X2_lower_13_11 N p2 M = some (r, M')) : cR z me_X2_lower (0, [some (.ref 13), some (.ref 11), some (.int p2), none], [], M) r M' := by
  unfold f_X2_lower_13_11 at h
  refine am_R.go 2 (q' := (2, [some (.ref 13), some (.ref 11), some (.int p2), some (.int 0)], [], M)) rfl trivial ?_
  exact t_X2_lower_13_11_2 z N p2 N 0 _ h
def f_X0_findSets_145 (N : Nat) (v1 : Int32) (v2 : Int32) (s0 : Int32) (M : am_M) : Option (Except Nat (Option Value) × am_M) :=
  if (M 65 0) = 0 then
    some (.ok none, am_up (am_up M 65 2 s0) 65 3 0)
  else
    some (.ok none, am_up (am_up M 65 2 s0) 65 3 (v1 &&& (v2 ^^^ (-1))))
set_option maxRecDepth 100000 in
theorem t_X0_findSets_145 (z : Value) (N : Nat) {r : Except Nat (Option Value)} {M' : am_M} (v1 : Int32) (v2 : Int32) (s0 : Int32) (d3 : Option Value) (d4 : Option Value) (M : am_M) (h : f_X0_findSets_145 N v1 v2 s0 M = some (r, M')) : cR z me_X0_findSets (145, [some (.ref 65), some (.int v1), some (.int v2), d3, d4], [.int s0, .ref 65], M) r M' := by
  unfold f_X0_findSets_145 at h
  refine am_R.go 4 (q' := (153, [some (.ref 65), some (.int v1), some (.int v2), d3, d4], [.int (M 65 0), .ref 65], am_up M 65 2 s0)) rfl trivial ?_
  rcases am_it h with ⟨hc, h⟩ | ⟨hc, h⟩
  · refine am_R.cn rfl rfl (fun q => q hc) ?_
    refine am_R.go 3 (q' := (168, [some (.ref 65), some (.int v1), some (.int v2), d3, d4], [], am_up (am_up M 65 2 s0) 65 3 0)) rfl trivial ?_
    cases h
    exact am_R.ret rfl rfl trivial
  · refine am_R.ct rfl rfl hc ?_
    refine am_R.go 6 (q' := (168, [some (.ref 65), some (.int v1), some (.int v2), d3, d4], [], am_up (am_up M 65 2 s0) 65 3 (v1 &&& (v2 ^^^ (-1))))) rfl trivial ?_
    cases h
    exact am_R.ret rfl rfl trivial
def f_X0_findSets_107 (N : Nat) (k34 : Int32 → Int32 → am_M → Option (Except Nat (Option Value) × am_M)) (v1 : Int32) (v2 : Int32) (v3 : Int32) (v4 : Int32) (M : am_M) : Option (Except Nat (Option Value) × am_M) :=
  am_bv (f_X2_lower_13_11 N v4 M) fun M120 =>
    k34 v2 (v3 + 1) M120
set_option maxRecDepth 100000 in
theorem t_X0_findSets_107 (z : Value) (N : Nat) (k34 : Int32 → Int32 → am_M → Option (Except Nat (Option Value) × am_M)) {r : Except Nat (Option Value)} {M' : am_M} (v1 : Int32) (v2 : Int32) (v3 : Int32) (v4 : Int32) (M : am_M) (hk34 : ∀ (v2 : Int32) (v3 : Int32) (d4 : Option Value) (M : am_M), k34 v2 v3 M = some (r, M') → cR z me_X0_findSets (34, [some (.ref 65), some (.int v1), some (.int v2), some (.int v3), d4], [], M) r M') (h : f_X0_findSets_107 N k34 v1 v2 v3 v4 M = some (r, M')) : cR z me_X0_findSets (107, [some (.ref 65), some (.int v1), some (.int v2), some (.int v3), some (.int v4)], [], M) r M' := by
  unfold f_X0_findSets_107 at h
  refine am_R.go 6 (q' := (120, [some (.ref 65), some (.int v1), some (.int v2), some (.int v3), some (.int v4)], [.int v4, .ref 11, .ref 13], M)) rfl trivial ?_
  obtain ⟨M120, hz, h⟩ := am_bv_s h
  refine am_R.call (e' := me_X2_lower) (as := [.ref 13, .ref 11, .int v4]) (rest := []) rfl rfl (Nat.le_of_ble_eq_true rfl) (t_X2_lower_13_11 z N v4 _ hz) ?_
  refine am_R.go 2 (q' := (34, [some (.ref 65), some (.int v1), some (.int v2), some (.int (v3 + 1)), some (.int v4)], [], M120)) rfl trivial ?_
  exact hk34 v2 (v3 + 1) _ _ h
def f_X0_findSets_90 (N : Nat) (k34 : Int32 → Int32 → am_M → Option (Except Nat (Option Value) × am_M)) (v1 : Int32) (v2 : Int32) (v3 : Int32) (v4 : Int32) (s0 : Int32) (M : am_M) : Option (Except Nat (Option Value) × am_M) :=
  f_X0_findSets_107 N k34 v1 (v2 ||| v3) v3 v4 (am_up (am_up M 65 1 s0) 65 2 ((M 65 2) &&& v3))
set_option maxRecDepth 100000 in
theorem t_X0_findSets_90 (z : Value) (N : Nat) (k34 : Int32 → Int32 → am_M → Option (Except Nat (Option Value) × am_M)) {r : Except Nat (Option Value)} {M' : am_M} (v1 : Int32) (v2 : Int32) (v3 : Int32) (v4 : Int32) (s0 : Int32) (M : am_M) (hk34 : ∀ (v2 : Int32) (v3 : Int32) (d4 : Option Value) (M : am_M), k34 v2 v3 M = some (r, M') → cR z me_X0_findSets (34, [some (.ref 65), some (.int v1), some (.int v2), some (.int v3), d4], [], M) r M') (h : f_X0_findSets_90 N k34 v1 v2 v3 v4 s0 M = some (r, M')) : cR z me_X0_findSets (90, [some (.ref 65), some (.int v1), some (.int v2), some (.int v3), some (.int v4)], [.int s0, .ref 65], M) r M' := by
  unfold f_X0_findSets_90 at h
  refine am_R.go 11 (q' := (107, [some (.ref 65), some (.int v1), some (.int (v2 ||| v3)), some (.int v3), some (.int v4)], [], am_up (am_up M 65 1 s0) 65 2 ((M 65 2) &&& v3))) rfl trivial ?_
  exact t_X0_findSets_107 z N k34 v1 (v2 ||| v3) v3 v4 _ hk34 h
def f_X0_findSets_34B (N : Nat) (v1 : Int32) (k34 : Int32 → Int32 → am_M → Option (Except Nat (Option Value) × am_M)) (v2 : Int32) (v3 : Int32) (M : am_M) : Option (Except Nat (Option Value) × am_M) :=
  if v1 < v3 then
    if (M 65 0) = 0 then
      f_X0_findSets_145 N v1 v2 0 M
    else
      f_X0_findSets_145 N v1 v2 (M 65 2) M
  else
    am_bi (f_X2_raise_13_11 N v3 M) fun r51 M51 =>
      am_bi (f_X0_bookIsSo N M51) fun r57 M57 =>
        if r57 = 0 then
          f_X0_findSets_107 N k34 v1 v2 v3 r51 M57
        else
          if (M57 65 1) = (-1) then
            f_X0_findSets_90 N k34 v1 v2 v3 r51 v3 (am_up M57 65 0 ((M57 65 0) + 1))
          else
            f_X0_findSets_90 N k34 v1 v2 v3 r51 (M57 65 1) (am_up M57 65 0 ((M57 65 0) + 1))
def f_X0_findSets_34 (N : Nat) (v1 : Int32) : Nat → Int32 → Int32 → am_M → Option (Except Nat (Option Value) × am_M)
  | 0 => fun _ _ _ => none
  | n + 1 => f_X0_findSets_34B N v1 (f_X0_findSets_34 N v1 n)
set_option maxRecDepth 100000 in
theorem t_X0_findSets_34B (z : Value) (N : Nat) (v1 : Int32) {r : Except Nat (Option Value)} {M' : am_M} (k34 : Int32 → Int32 → am_M → Option (Except Nat (Option Value) × am_M)) (hk34 : ∀ (v2 : Int32) (v3 : Int32) (d4 : Option Value) (M : am_M), k34 v2 v3 M = some (r, M') → cR z me_X0_findSets (34, [some (.ref 65), some (.int v1), some (.int v2), some (.int v3), d4], [], M) r M') (v2 : Int32) (v3 : Int32) (d4 : Option Value) (M : am_M) (h : f_X0_findSets_34B N v1 k34 v2 v3 M = some (r, M')) : cR z me_X0_findSets (34, [some (.ref 65), some (.int v1), some (.int v2), some (.int v3), d4], [], M) r M' := by
  unfold f_X0_findSets_34B at h
  refine am_R.go 2 (q' := (36, [some (.ref 65), some (.int v1), some (.int v2), some (.int v3), d4], [.int v1, .int v3], M)) rfl trivial ?_
  rcases am_it h with ⟨hc, h⟩ | ⟨hc, h⟩
  · refine am_R.bt rfl rfl hc ?_
    refine am_R.go 3 (q' := (134, [some (.ref 65), some (.int v1), some (.int v2), some (.int v3), d4], [.int (M 65 0), .ref 65], M)) rfl trivial ?_
    rcases am_it h with ⟨hc, h⟩ | ⟨hc, h⟩
    · refine am_R.cn rfl rfl (fun q => q hc) ?_
      refine am_R.go 2 (q' := (145, [some (.ref 65), some (.int v1), some (.int v2), some (.int v3), d4], [.int 0, .ref 65], M)) rfl trivial ?_
      exact t_X0_findSets_145 z N v1 v2 0 _ _ _ h
    · refine am_R.ct rfl rfl hc ?_
      refine am_R.go 2 (q' := (145, [some (.ref 65), some (.int v1), some (.int v2), some (.int v3), d4], [.int (M 65 2), .ref 65], M)) rfl trivial ?_
      exact t_X0_findSets_145 z N v1 v2 (M 65 2) _ _ _ h
  · refine am_R.bn rfl rfl hc ?_
    refine am_R.go 6 (q' := (51, [some (.ref 65), some (.int v1), some (.int v2), some (.int v3), d4], [.int v3, .ref 11, .ref 13], M)) rfl trivial ?_
    obtain ⟨r51, M51, hz, h⟩ := am_bi_s h
    refine am_R.call (e' := me_X2_raise) (as := [.ref 13, .ref 11, .int v3]) (rest := []) rfl rfl (Nat.le_of_ble_eq_true rfl) (t_X2_raise_13_11 z N v3 _ hz) ?_
    refine am_R.go 2 (q' := (57, [some (.ref 65), some (.int v1), some (.int v2), some (.int v3), some (.int r51)], [.ref 65], M51)) rfl trivial ?_
    obtain ⟨r57, M57, hz, h⟩ := am_bi_s h
    refine am_R.call (e' := me_X0_bookIsSo) (as := [.ref 65]) (rest := []) rfl rfl (Nat.le_of_ble_eq_true rfl) (t_X0_bookIsSo z N _ hz) ?_
    rcases am_it h with ⟨hc, h⟩ | ⟨hc, h⟩
    · refine am_R.ct rfl rfl hc ?_
      exact t_X0_findSets_107 z N k34 v1 v2 v3 r51 _ hk34 h
    · refine am_R.cn rfl rfl hc ?_
      refine am_R.go 10 (q' := (79, [some (.ref 65), some (.int v1), some (.int v2), some (.int v3), some (.int r51)], [.int (-1), .int (M57 65 1), .ref 65], am_up M57 65 0 ((M57 65 0) + 1))) rfl trivial ?_
      rcases am_it h with ⟨hc, h⟩ | ⟨hc, h⟩
      · refine am_R.bn rfl rfl (fun q => q hc) ?_
        refine am_R.go 2 (q' := (90, [some (.ref 65), some (.int v1), some (.int v2), some (.int v3), some (.int r51)], [.int v3, .ref 65], am_up M57 65 0 ((M57 65 0) + 1))) rfl trivial ?_
        exact t_X0_findSets_90 z N k34 v1 v2 v3 r51 v3 _ hk34 h
      · refine am_R.bt rfl rfl hc ?_
        refine am_R.go 2 (q' := (90, [some (.ref 65), some (.int v1), some (.int v2), some (.int v3), some (.int r51)], [.int (M57 65 1), .ref 65], am_up M57 65 0 ((M57 65 0) + 1))) rfl trivial ?_
        exact t_X0_findSets_90 z N k34 v1 v2 v3 r51 (M57 65 1) _ hk34 h
set_option maxRecDepth 100000 in
theorem t_X0_findSets_34 (z : Value) (N : Nat) (v1 : Int32) {r : Except Nat (Option Value)} {M' : am_M} : ∀ (n : Nat) (v2 : Int32) (v3 : Int32) (d4 : Option Value) (M : am_M), f_X0_findSets_34 N v1 n v2 v3 M = some (r, M') → cR z me_X0_findSets (34, [some (.ref 65), some (.int v1), some (.int v2), some (.int v3), d4], [], M) r M' := by
  intro n
  induction n with
  | zero => intro v2 v3 d4 M h; cases h
  | succ n ih => intro v2 v3 d4 M h; exact t_X0_findSets_34B z N v1 _ ih v2 v3 d4 M h
def f_X0_findSets (N : Nat) (M : am_M) : Option (Except Nat (Option Value) × am_M) :=
  f_X0_findSets_34 N ((1 <<< ((M 11 3) &&& 31)) - 1) N 0 0 (am_up (am_up (am_up M 65 0 0) 65 1 (-1)) 65 2 ((1 <<< ((M 11 3) &&& 31)) - 1))
set_option maxRecDepth 100000 in
theorem t_X0_findSets (z : Value) (N : Nat) (M : am_M) {r : Except Nat (Option Value)} {M' : am_M} (h : f_X0_findSets N M = some (r, M')) : cR z me_X0_findSets (0, [some (.ref 65), none, none, none, none], [], M) r M' := by
  unfold f_X0_findSets at h
  refine am_R.go 22 (q' := (34, [some (.ref 65), some (.int ((1 <<< ((M 11 3) &&& 31)) - 1)), some (.int 0), some (.int 0), none], [], am_up (am_up (am_up M 65 0 0) 65 1 (-1)) 65 2 ((1 <<< ((M 11 3) &&& 31)) - 1))) rfl trivial ?_
  exact t_X0_findSets_34 z N ((1 <<< ((M 11 3) &&& 31)) - 1) N 0 0 _ _ h
def f_X9_explain (N : Nat) (p1 : Int32) (M : am_M) : Option (Except Nat (Option Value) × am_M) :=
  am_bvx (f_X9_needBetween N p1 0 3 M) fun M4 =>
    am_bv (f_X0_findSets N M4) fun M11 =>
      if p1.toInt = 0 then
        some (.ok (some (.int (M11 65 0))), M11)
      else
      if p1.toInt = 1 then
        some (.ok (some (.int (M11 65 1))), M11)
      else
      if p1.toInt = 2 then
        some (.ok (some (.int (M11 65 2))), M11)
      else
        some (.ok (some (.int (M11 65 3))), M11)
set_option maxRecDepth 100000 in
theorem t_X9_explain (z : Value) (N : Nat) (p1 : Int32) (M : am_M) {r : Except Nat (Option Value)} {M' : am_M} (h : f_X9_explain N p1 M = some (r, M')) : cR z me_X9_explain (0, [some (.ref 0), some (.int p1)], [], M) r M' := by
  unfold f_X9_explain at h
  refine am_R.go 4 (q' := (4, [some (.ref 0), some (.int p1)], [.int 3, .int 0, .int p1, .ref 0], M)) rfl trivial ?_
  rcases am_bvx_s h with ⟨M4, hz, h⟩ | ⟨x, M4, hz, h⟩
  · refine am_R.call (e' := me_X9_needBetween) (as := [.ref 0, .int p1, .int 0, .int 3]) (rest := []) rfl rfl (Nat.le_of_ble_eq_true rfl) (t_X9_needBetween z N p1 0 3 _ hz) ?_
    refine am_R.go 2 (q' := (11, [some (.ref 0), some (.int p1)], [.ref 65], M4)) rfl trivial ?_
    obtain ⟨M11, hz, h⟩ := am_bv_s h
    refine am_R.call (e' := me_X0_findSets) (as := [.ref 65]) (rest := []) rfl rfl (Nat.le_of_ble_eq_true rfl) (t_X0_findSets z N _ hz) ?_
    refine am_R.go 1 (q' := (15, [some (.ref 0), some (.int p1)], [.int p1], M11)) rfl trivial ?_
    rcases am_it h with ⟨hc, h⟩ | ⟨hc0, h⟩
    · refine am_R.one (c := some (p1.toInt = 0 + ((0 : Nat) : Int))) (q' := (40, [some (.ref 0), some (.int p1)], [], M11)) rfl (List.mem_of_getElem? (i := 1) rfl) (by show p1.toInt = _; omega) ?_
      refine am_R.go 3 (q' := (47, [some (.ref 0), some (.int p1)], [.int (M11 65 0)], M11)) rfl trivial ?_
      cases h
      exact am_R.ret rfl rfl trivial
    rcases am_it h with ⟨hc, h⟩ | ⟨hc1, h⟩
    · refine am_R.one (c := some (p1.toInt = 0 + ((1 : Nat) : Int))) (q' := (48, [some (.ref 0), some (.int p1)], [], M11)) rfl (List.mem_of_getElem? (i := 2) rfl) (by show p1.toInt = _; omega) ?_
      refine am_R.go 3 (q' := (55, [some (.ref 0), some (.int p1)], [.int (M11 65 1)], M11)) rfl trivial ?_
      cases h
      exact am_R.ret rfl rfl trivial
    rcases am_it h with ⟨hc, h⟩ | ⟨hc2, h⟩
    · refine am_R.one (c := some (p1.toInt = 0 + ((2 : Nat) : Int))) (q' := (56, [some (.ref 0), some (.int p1)], [], M11)) rfl (List.mem_of_getElem? (i := 3) rfl) (by show p1.toInt = _; omega) ?_
      refine am_R.go 3 (q' := (63, [some (.ref 0), some (.int p1)], [.int (M11 65 2)], M11)) rfl trivial ?_
      cases h
      exact am_R.ret rfl rfl trivial
    refine am_R.one (c := some (p1.toInt < 0 ∨ 2 < p1.toInt)) (q' := (64, [some (.ref 0), some (.int p1)], [], M11)) rfl (List.mem_of_getElem? (i := 0) rfl) (by show _ ∨ _; omega) ?_
    refine am_R.go 3 (q' := (71, [some (.ref 0), some (.int p1)], [.int (M11 65 3)], M11)) rfl trivial ?_
    cases h
    exact am_R.ret rfl rfl trivial
  · cases h
    exact am_R.callx (e' := me_X9_needBetween) (as := [.ref 0, .int p1, .int 0, .int 3]) (rest := []) rfl rfl (Nat.le_of_ble_eq_true rfl) rfl (t_X9_needBetween z N p1 0 3 _ hz)
def f_X0_leftAtWorst_4B (N : Nat) (v1 : Int32) (k4 : Int32 → Int32 → am_M → Option (Except Nat (Option Value) × am_M)) (v2 : Int32) (v3 : Int32) (M : am_M) : Option (Except Nat (Option Value) × am_M) :=
  if 25 ≤ v3 then
    some (.ok (some (.int v2)), M)
  else
    if am_in ((v1 * 25) + v3) 2500 then
      k4 (if v2 < (M 66 (((v1 * 25) + v3).toNatClampNeg)) then M 66 (((v1 * 25) + v3).toNatClampNeg) else v2) (v3 + 1) M
    else none
def f_X0_leftAtWorst_4 (N : Nat) (v1 : Int32) : Nat → Int32 → Int32 → am_M → Option (Except Nat (Option Value) × am_M)
  | 0 => fun _ _ _ => none
  | n + 1 => f_X0_leftAtWorst_4B N v1 (f_X0_leftAtWorst_4 N v1 n)
set_option maxRecDepth 100000 in
theorem t_X0_leftAtWorst_4B (z : Value) (N : Nat) (v1 : Int32) {r : Except Nat (Option Value)} {M' : am_M} (k4 : Int32 → Int32 → am_M → Option (Except Nat (Option Value) × am_M)) (hk4 : ∀ (v2 : Int32) (v3 : Int32) (M : am_M), k4 v2 v3 M = some (r, M') → cR z me_X0_leftAtWorst (4, [some (.ref 65), some (.int v1), some (.int v2), some (.int v3)], [], M) r M') (v2 : Int32) (v3 : Int32) (M : am_M) (h : f_X0_leftAtWorst_4B N v1 k4 v2 v3 M = some (r, M')) : cR z me_X0_leftAtWorst (4, [some (.ref 65), some (.int v1), some (.int v2), some (.int v3)], [], M) r M' := by
  unfold f_X0_leftAtWorst_4B at h
  refine am_R.go 2 (q' := (7, [some (.ref 65), some (.int v1), some (.int v2), some (.int v3)], [.int 25, .int v3], M)) rfl trivial ?_
  rcases am_it h with ⟨hc, h⟩ | ⟨hc, h⟩
  · refine am_R.bt rfl rfl hc ?_
    refine am_R.go 1 (q' := (33, [some (.ref 65), some (.int v1), some (.int v2), some (.int v3)], [.int v2], M)) rfl trivial ?_
    cases h
    exact am_R.ret rfl rfl trivial
  · refine am_R.bn rfl rfl hc ?_
    obtain ⟨hC, h⟩ := am_gd h
    refine am_R.go 13 (q' := (4, [some (.ref 65), some (.int v1), some (.int (if v2 < (M 66 (((v1 * 25) + v3).toNatClampNeg)) then M 66 (((v1 * 25) + v3).toNatClampNeg) else v2)), some (.int (v3 + 1))], [], M)) rfl ⟨hC, trivial⟩ ?_
    exact hk4 (if v2 < (M 66 (((v1 * 25) + v3).toNatClampNeg)) then M 66 (((v1 * 25) + v3).toNatClampNeg) else v2) (v3 + 1) _ h
set_option maxRecDepth 100000 in
theorem t_X0_leftAtWorst_4 (z : Value) (N : Nat) (v1 : Int32) {r : Except Nat (Option Value)} {M' : am_M} : ∀ (n : Nat) (v2 : Int32) (v3 : Int32) (M : am_M), f_X0_leftAtWorst_4 N v1 n v2 v3 M = some (r, M') → cR z me_X0_leftAtWorst (4, [some (.ref 65), some (.int v1), some (.int v2), some (.int v3)], [], M) r M' := by
  intro n
  induction n with
  | zero => intro v2 v3 M h; cases h
  | succ n ih => intro v2 v3 M h; exact t_X0_leftAtWorst_4B z N v1 _ ih v2 v3 M h
def f_X0_leftAtWorst (N : Nat) (p1 : Int32) (M : am_M) : Option (Except Nat (Option Value) × am_M) :=
  f_X0_leftAtWorst_4 N p1 N 0 0 M
set_option maxRecDepth 100000 in
theorem t_X0_leftAtWorst (z : Value) (N : Nat) (p1 : Int32) (M : am_M) {r : Except Nat (Option Value)} {M' : am_M} (h : f_X0_leftAtWorst N p1 M = some (r, M')) : cR z me_X0_leftAtWorst (0, [some (.ref 65), some (.int p1), none, none], [], M) r M' := by
  unfold f_X0_leftAtWorst at h
  refine am_R.go 4 (q' := (4, [some (.ref 65), some (.int p1), some (.int 0), some (.int 0)], [], M)) rfl trivial ?_
  exact t_X0_leftAtWorst_4 z N p1 N 0 0 _ h
def f_X0_chooseQuestion_52 (N : Nat) (k2 : Int32 → am_M → Option (Except Nat (Option Value) × am_M)) (k15 : Int32 → am_M → Option (Except Nat (Option Value) × am_M)) (v1 : Int32) (v2 : Int32) (v3 : Int32) (M : am_M) : Option (Except Nat (Option Value) × am_M) :=
  k15 (v2 + 1) (am_up (am_up (am_up M 65 4 v2) 65 5 v1) 65 6 v3)
set_option maxRecDepth 100000 in
theorem t_X0_chooseQuestion_52 (z : Value) (N : Nat) (k2 : Int32 → am_M → Option (Except Nat (Option Value) × am_M)) (k15 : Int32 → am_M → Option (Except Nat (Option Value) × am_M)) {r : Except Nat (Option Value)} {M' : am_M} (v1 : Int32) (v2 : Int32) (v3 : Int32) (M : am_M) (hk2 : ∀ (v1 : Int32) (d2 : Option Value) (d3 : Option Value) (M : am_M), k2 v1 M = some (r, M') → cR z me_X0_chooseQuestion (2, [some (.ref 65), some (.int v1), d2, d3], [], M) r M') (hk15 : ∀ (v2 : Int32) (d3 : Option Value) (M : am_M), k15 v2 M = some (r, M') → cR z me_X0_chooseQuestion (15, [some (.ref 65), some (.int v1), some (.int v2), d3], [], M) r M') (h : f_X0_chooseQuestion_52 N k2 k15 v1 v2 v3 M = some (r, M')) : cR z me_X0_chooseQuestion (52, [some (.ref 65), some (.int v1), some (.int v2), some (.int v3)], [], M) r M' := by
  unfold f_X0_chooseQuestion_52 at h
  refine am_R.go 11 (q' := (15, [some (.ref 65), some (.int v1), some (.int (v2 + 1)), some (.int v3)], [], am_up (am_up (am_up M 65 4 v2) 65 5 v1) 65 6 v3)) rfl trivial ?_
  exact hk15 (v2 + 1) _ _ h
def f_X0_chooseQuestion_15B (N : Nat) (v1 : Int32) (k2 : Int32 → am_M → Option (Except Nat (Option Value) × am_M)) (k15 : Int32 → am_M → Option (Except Nat (Option Value) × am_M)) (v2 : Int32) (M : am_M) : Option (Except Nat (Option Value) × am_M) :=
  if (M 2 0) ≤ v2 then
    k2 (v1 + 1) M
  else
    am_bi (f_X9_cellOf N v2 v1 M) fun r29 M29 =>
      am_bi (f_X0_leftAtWorst N r29 M29) fun r32 M32 =>
        if (M32 65 6) = (-1) then
          f_X0_chooseQuestion_52 N k2 k15 v1 v2 r32 M32
        else
          if (M32 65 6) ≤ r32 then
            k15 (v2 + 1) M32
          else
            f_X0_chooseQuestion_52 N k2 k15 v1 v2 r32 M32
def f_X0_chooseQuestion_15 (N : Nat) (v1 : Int32) (k2 : Int32 → am_M → Option (Except Nat (Option Value) × am_M)) : Nat → Int32 → am_M → Option (Except Nat (Option Value) × am_M)
  | 0 => fun _ _ => none
  | n + 1 => f_X0_chooseQuestion_15B N v1 k2 (f_X0_chooseQuestion_15 N v1 k2 n)
set_option maxRecDepth 100000 in
theorem t_X0_chooseQuestion_15B (z : Value) (N : Nat) (v1 : Int32) (k2 : Int32 → am_M → Option (Except Nat (Option Value) × am_M)) {r : Except Nat (Option Value)} {M' : am_M} (hk2 : ∀ (v1 : Int32) (d2 : Option Value) (d3 : Option Value) (M : am_M), k2 v1 M = some (r, M') → cR z me_X0_chooseQuestion (2, [some (.ref 65), some (.int v1), d2, d3], [], M) r M') (k15 : Int32 → am_M → Option (Except Nat (Option Value) × am_M)) (hk15 : ∀ (v2 : Int32) (d3 : Option Value) (M : am_M), k15 v2 M = some (r, M') → cR z me_X0_chooseQuestion (15, [some (.ref 65), some (.int v1), some (.int v2), d3], [], M) r M') (v2 : Int32) (d3 : Option Value) (M : am_M) (h : f_X0_chooseQuestion_15B N v1 k2 k15 v2 M = some (r, M')) : cR z me_X0_chooseQuestion (15, [some (.ref 65), some (.int v1), some (.int v2), d3], [], M) r M' := by
  unfold f_X0_chooseQuestion_15B at h
  refine am_R.go 4 (q' := (23, [some (.ref 65), some (.int v1), some (.int v2), d3], [.int (M 2 0), .int v2], M)) rfl trivial ?_
  rcases am_it h with ⟨hc, h⟩ | ⟨hc, h⟩
  · refine am_R.bt rfl rfl hc ?_
    refine am_R.go 2 (q' := (2, [some (.ref 65), some (.int (v1 + 1)), some (.int v2), d3], [], M)) rfl trivial ?_
    exact hk2 (v1 + 1) _ _ _ h
  · refine am_R.bn rfl rfl hc ?_
    refine am_R.go 3 (q' := (29, [some (.ref 65), some (.int v1), some (.int v2), d3], [.int v1, .int v2, .ref 65], M)) rfl trivial ?_
    obtain ⟨r29, M29, hz, h⟩ := am_bi_s h
    refine am_R.call (e' := me_X9_cellOf) (as := [.int v2, .int v1]) (rest := [.ref 65]) rfl rfl (Nat.le_of_ble_eq_true rfl) (t_X9_cellOf z N v2 v1 _ hz) ?_
    obtain ⟨r32, M32, hz, h⟩ := am_bi_s h
    refine am_R.call (e' := me_X0_leftAtWorst) (as := [.ref 65, .int r29]) (rest := []) rfl rfl (Nat.le_of_ble_eq_true rfl) (t_X0_leftAtWorst z N r29 _ hz) ?_
    refine am_R.go 4 (q' := (41, [some (.ref 65), some (.int v1), some (.int v2), some (.int r32)], [.int (-1), .int (M32 65 6)], M32)) rfl trivial ?_
    rcases am_it h with ⟨hc, h⟩ | ⟨hc, h⟩
    · refine am_R.bt rfl rfl hc ?_
      exact t_X0_chooseQuestion_52 z N k2 k15 v1 v2 r32 _ hk2 hk15 h
    · refine am_R.bn rfl rfl hc ?_
      refine am_R.go 3 (q' := (49, [some (.ref 65), some (.int v1), some (.int v2), some (.int r32)], [.int (M32 65 6), .int r32], M32)) rfl trivial ?_
      rcases am_it h with ⟨hc, h⟩ | ⟨hc, h⟩
      · refine am_R.bt rfl rfl hc ?_
        refine am_R.go 2 (q' := (15, [some (.ref 65), some (.int v1), some (.int (v2 + 1)), some (.int r32)], [], M32)) rfl trivial ?_
        exact hk15 (v2 + 1) _ _ h
      · refine am_R.bn rfl rfl hc ?_
        exact t_X0_chooseQuestion_52 z N k2 k15 v1 v2 r32 _ hk2 hk15 h
set_option maxRecDepth 100000 in
theorem t_X0_chooseQuestion_15 (z : Value) (N : Nat) (v1 : Int32) (k2 : Int32 → am_M → Option (Except Nat (Option Value) × am_M)) {r : Except Nat (Option Value)} {M' : am_M} (hk2 : ∀ (v1 : Int32) (d2 : Option Value) (d3 : Option Value) (M : am_M), k2 v1 M = some (r, M') → cR z me_X0_chooseQuestion (2, [some (.ref 65), some (.int v1), d2, d3], [], M) r M') : ∀ (n : Nat) (v2 : Int32) (d3 : Option Value) (M : am_M), f_X0_chooseQuestion_15 N v1 k2 n v2 M = some (r, M') → cR z me_X0_chooseQuestion (15, [some (.ref 65), some (.int v1), some (.int v2), d3], [], M) r M' := by
  intro n
  induction n with
  | zero => intro v2 d3 M h; cases h
  | succ n ih => intro v2 d3 M h; exact t_X0_chooseQuestion_15B z N v1 k2 hk2 _ ih v2 d3 M h
def f_X0_chooseQuestion_2B (N : Nat) (k2 : Int32 → am_M → Option (Except Nat (Option Value) × am_M)) (v1 : Int32) (M : am_M) : Option (Except Nat (Option Value) × am_M) :=
  if (M 2 1) ≤ v1 then
    some (.ok none, M)
  else
    f_X0_chooseQuestion_15 N v1 k2 N 0 M
def f_X0_chooseQuestion_2 (N : Nat) : Nat → Int32 → am_M → Option (Except Nat (Option Value) × am_M)
  | 0 => fun _ _ => none
  | n + 1 => f_X0_chooseQuestion_2B N (f_X0_chooseQuestion_2 N n)
set_option maxRecDepth 100000 in
theorem t_X0_chooseQuestion_2B (z : Value) (N : Nat) {r : Except Nat (Option Value)} {M' : am_M} (k2 : Int32 → am_M → Option (Except Nat (Option Value) × am_M)) (hk2 : ∀ (v1 : Int32) (d2 : Option Value) (d3 : Option Value) (M : am_M), k2 v1 M = some (r, M') → cR z me_X0_chooseQuestion (2, [some (.ref 65), some (.int v1), d2, d3], [], M) r M') (v1 : Int32) (d2 : Option Value) (d3 : Option Value) (M : am_M) (h : f_X0_chooseQuestion_2B N k2 v1 M = some (r, M')) : cR z me_X0_chooseQuestion (2, [some (.ref 65), some (.int v1), d2, d3], [], M) r M' := by
  unfold f_X0_chooseQuestion_2B at h
  refine am_R.go 4 (q' := (10, [some (.ref 65), some (.int v1), d2, d3], [.int (M 2 1), .int v1], M)) rfl trivial ?_
  rcases am_it h with ⟨hc, h⟩ | ⟨hc, h⟩
  · refine am_R.bt rfl rfl hc ?_
    cases h
    exact am_R.ret rfl rfl trivial
  · refine am_R.bn rfl rfl hc ?_
    refine am_R.go 2 (q' := (15, [some (.ref 65), some (.int v1), some (.int 0), d3], [], M)) rfl trivial ?_
    exact t_X0_chooseQuestion_15 z N v1 k2 hk2 N 0 _ _ h
set_option maxRecDepth 100000 in
theorem t_X0_chooseQuestion_2 (z : Value) (N : Nat) {r : Except Nat (Option Value)} {M' : am_M} : ∀ (n : Nat) (v1 : Int32) (d2 : Option Value) (d3 : Option Value) (M : am_M), f_X0_chooseQuestion_2 N n v1 M = some (r, M') → cR z me_X0_chooseQuestion (2, [some (.ref 65), some (.int v1), d2, d3], [], M) r M' := by
  intro n
  induction n with
  | zero => intro v1 d2 d3 M h; cases h
  | succ n ih => intro v1 d2 d3 M h; exact t_X0_chooseQuestion_2B z N _ ih v1 d2 d3 M h
def f_X0_chooseQuestion (N : Nat) (M : am_M) : Option (Except Nat (Option Value) × am_M) :=
  f_X0_chooseQuestion_2 N N 0 M
set_option maxRecDepth 100000 in
theorem t_X0_chooseQuestion (z : Value) (N : Nat) (M : am_M) {r : Except Nat (Option Value)} {M' : am_M} (h : f_X0_chooseQuestion N M = some (r, M')) : cR z me_X0_chooseQuestion (0, [some (.ref 65), none, none, none], [], M) r M' := by
  unfold f_X0_chooseQuestion at h
  refine am_R.go 2 (q' := (2, [some (.ref 65), some (.int 0), none, none], [], M)) rfl trivial ?_
  exact t_X0_chooseQuestion_2 z N N 0 _ _ _ h
def f_X0_tallyCells_15B (N : Nat) (v1 : Int32) (k2 : Int32 → am_M → Option (Except Nat (Option Value) × am_M)) (k15 : Int32 → am_M → Option (Except Nat (Option Value) × am_M)) (v2 : Int32) (M : am_M) : Option (Except Nat (Option Value) × am_M) :=
  if (M 2 0) ≤ v2 then
    k2 (v1 + 1) M
  else
    am_bv (f_X6_shout N v2 v1 (M 2 2) 0 M) fun M40 =>
      am_bi (f_X9_cellOf N v2 v1 M40) fun r49 M49 =>
        if am_in ((r49 * 25) + (M49 51 0)) 2500 then
          k15 (v2 + 1) (am_up M49 66 (((r49 * 25) + (M49 51 0)).toNatClampNeg) ((M49 66 (((r49 * 25) + (M49 51 0)).toNatClampNeg)) + 1))
        else none
def f_X0_tallyCells_15 (N : Nat) (v1 : Int32) (k2 : Int32 → am_M → Option (Except Nat (Option Value) × am_M)) : Nat → Int32 → am_M → Option (Except Nat (Option Value) × am_M)
  | 0 => fun _ _ => none
  | n + 1 => f_X0_tallyCells_15B N v1 k2 (f_X0_tallyCells_15 N v1 k2 n)
set_option maxRecDepth 100000 in
theorem t_X0_tallyCells_15B (z : Value) (N : Nat) (v1 : Int32) (k2 : Int32 → am_M → Option (Except Nat (Option Value) × am_M)) {r : Except Nat (Option Value)} {M' : am_M} (hk2 : ∀ (v1 : Int32) (d2 : Option Value) (M : am_M), k2 v1 M = some (r, M') → cR z me_X0_tallyCells (2, [some (.ref 65), some (.int v1), d2], [], M) r M') (k15 : Int32 → am_M → Option (Except Nat (Option Value) × am_M)) (hk15 : ∀ (v2 : Int32) (M : am_M), k15 v2 M = some (r, M') → cR z me_X0_tallyCells (15, [some (.ref 65), some (.int v1), some (.int v2)], [], M) r M') (v2 : Int32) (M : am_M) (h : f_X0_tallyCells_15B N v1 k2 k15 v2 M = some (r, M')) : cR z me_X0_tallyCells (15, [some (.ref 65), some (.int v1), some (.int v2)], [], M) r M' := by
  unfold f_X0_tallyCells_15B at h
  refine am_R.go 4 (q' := (23, [some (.ref 65), some (.int v1), some (.int v2)], [.int (M 2 0), .int v2], M)) rfl trivial ?_
  rcases am_it h with ⟨hc, h⟩ | ⟨hc, h⟩
  · refine am_R.bt rfl rfl hc ?_
    refine am_R.go 2 (q' := (2, [some (.ref 65), some (.int (v1 + 1)), some (.int v2)], [], M)) rfl trivial ?_
    exact hk2 (v1 + 1) _ _ h
  · refine am_R.bn rfl rfl hc ?_
    refine am_R.go 8 (q' := (40, [some (.ref 65), some (.int v1), some (.int v2)], [.int 0, .int (M 2 2), .int v1, .int v2, .ref 51], M)) rfl trivial ?_
    obtain ⟨M40, hz, h⟩ := am_bv_s h
    refine am_R.call (e' := me_X6_shout) (as := [.ref 51, .int v2, .int v1, .int (M 2 2), .int 0]) (rest := []) rfl rfl (Nat.le_of_ble_eq_true rfl) (t_X6_shout z N v2 v1 (M 2 2) 0 _ hz) ?_
    refine am_R.go 4 (q' := (49, [some (.ref 65), some (.int v1), some (.int v2)], [.int v1, .int v2, .ref 66], M40)) rfl trivial ?_
    obtain ⟨r49, M49, hz, h⟩ := am_bi_s h
    refine am_R.call (e' := me_X9_cellOf) (as := [.int v2, .int v1]) (rest := [.ref 66]) rfl rfl (Nat.le_of_ble_eq_true rfl) (t_X9_cellOf z N v2 v1 _ hz) ?_
    obtain ⟨hC, h⟩ := am_gd h
    refine am_R.go 13 (q' := (15, [some (.ref 65), some (.int v1), some (.int (v2 + 1))], [], am_up M49 66 (((r49 * 25) + (M49 51 0)).toNatClampNeg) ((M49 66 (((r49 * 25) + (M49 51 0)).toNatClampNeg)) + 1))) rfl ⟨hC, hC, trivial⟩ ?_
    exact hk15 (v2 + 1) _ h
set_option maxRecDepth 100000 in
theorem t_X0_tallyCells_15 (z : Value) (N : Nat) (v1 : Int32) (k2 : Int32 → am_M → Option (Except Nat (Option Value) × am_M)) {r : Except Nat (Option Value)} {M' : am_M} (hk2 : ∀ (v1 : Int32) (d2 : Option Value) (M : am_M), k2 v1 M = some (r, M') → cR z me_X0_tallyCells (2, [some (.ref 65), some (.int v1), d2], [], M) r M') : ∀ (n : Nat) (v2 : Int32) (M : am_M), f_X0_tallyCells_15 N v1 k2 n v2 M = some (r, M') → cR z me_X0_tallyCells (15, [some (.ref 65), some (.int v1), some (.int v2)], [], M) r M' := by
  intro n
  induction n with
  | zero => intro v2 M h; cases h
  | succ n ih => intro v2 M h; exact t_X0_tallyCells_15B z N v1 k2 hk2 _ ih v2 M h
def f_X0_tallyCells_2B (N : Nat) (k2 : Int32 → am_M → Option (Except Nat (Option Value) × am_M)) (v1 : Int32) (M : am_M) : Option (Except Nat (Option Value) × am_M) :=
  if (M 2 1) ≤ v1 then
    some (.ok none, M)
  else
    f_X0_tallyCells_15 N v1 k2 N 0 M
def f_X0_tallyCells_2 (N : Nat) : Nat → Int32 → am_M → Option (Except Nat (Option Value) × am_M)
  | 0 => fun _ _ => none
  | n + 1 => f_X0_tallyCells_2B N (f_X0_tallyCells_2 N n)
set_option maxRecDepth 100000 in
theorem t_X0_tallyCells_2B (z : Value) (N : Nat) {r : Except Nat (Option Value)} {M' : am_M} (k2 : Int32 → am_M → Option (Except Nat (Option Value) × am_M)) (hk2 : ∀ (v1 : Int32) (d2 : Option Value) (M : am_M), k2 v1 M = some (r, M') → cR z me_X0_tallyCells (2, [some (.ref 65), some (.int v1), d2], [], M) r M') (v1 : Int32) (d2 : Option Value) (M : am_M) (h : f_X0_tallyCells_2B N k2 v1 M = some (r, M')) : cR z me_X0_tallyCells (2, [some (.ref 65), some (.int v1), d2], [], M) r M' := by
  unfold f_X0_tallyCells_2B at h
  refine am_R.go 4 (q' := (10, [some (.ref 65), some (.int v1), d2], [.int (M 2 1), .int v1], M)) rfl trivial ?_
  rcases am_it h with ⟨hc, h⟩ | ⟨hc, h⟩
  · refine am_R.bt rfl rfl hc ?_
    cases h
    exact am_R.ret rfl rfl trivial
  · refine am_R.bn rfl rfl hc ?_
    refine am_R.go 2 (q' := (15, [some (.ref 65), some (.int v1), some (.int 0)], [], M)) rfl trivial ?_
    exact t_X0_tallyCells_15 z N v1 k2 hk2 N 0 _ h
set_option maxRecDepth 100000 in
theorem t_X0_tallyCells_2 (z : Value) (N : Nat) {r : Except Nat (Option Value)} {M' : am_M} : ∀ (n : Nat) (v1 : Int32) (d2 : Option Value) (M : am_M), f_X0_tallyCells_2 N n v1 M = some (r, M') → cR z me_X0_tallyCells (2, [some (.ref 65), some (.int v1), d2], [], M) r M' := by
  intro n
  induction n with
  | zero => intro v1 d2 M h; cases h
  | succ n ih => intro v1 d2 M h; exact t_X0_tallyCells_2B z N _ ih v1 d2 M h
def f_X0_tallyCells (N : Nat) (M : am_M) : Option (Except Nat (Option Value) × am_M) :=
  f_X0_tallyCells_2 N N 0 M
set_option maxRecDepth 100000 in
theorem t_X0_tallyCells (z : Value) (N : Nat) (M : am_M) {r : Except Nat (Option Value)} {M' : am_M} (h : f_X0_tallyCells N M = some (r, M')) : cR z me_X0_tallyCells (0, [some (.ref 65), none, none], [], M) r M' := by
  unfold f_X0_tallyCells at h
  refine am_R.go 2 (q' := (2, [some (.ref 65), some (.int 0), none], [], M)) rfl trivial ?_
  exact t_X0_tallyCells_2 z N N 0 _ _ h
def f_X0_findQuestion_71 (N : Nat) (k26 : Int32 → Int32 → am_M → Option (Except Nat (Option Value) × am_M)) (v1 : Int32) (v2 : Int32) (v3 : Int32) (M : am_M) : Option (Except Nat (Option Value) × am_M) :=
  am_bv (f_X2_lower_13_11 N v3 M) fun M83 =>
    k26 v1 (v2 + 1) M83
set_option maxRecDepth 100000 in
theorem t_X0_findQuestion_71 (z : Value) (N : Nat) (k26 : Int32 → Int32 → am_M → Option (Except Nat (Option Value) × am_M)) {r : Except Nat (Option Value)} {M' : am_M} (v1 : Int32) (v2 : Int32) (v3 : Int32) (M : am_M) (hk26 : ∀ (v1 : Int32) (v2 : Int32) (d3 : Option Value) (M : am_M), k26 v1 v2 M = some (r, M') → cR z me_X0_findQuestion (26, [some (.ref 65), some (.int v1), some (.int v2), d3], [], M) r M') (h : f_X0_findQuestion_71 N k26 v1 v2 v3 M = some (r, M')) : cR z me_X0_findQuestion (71, [some (.ref 65), some (.int v1), some (.int v2), some (.int v3)], [], M) r M' := by
  unfold f_X0_findQuestion_71 at h
  refine am_R.go 6 (q' := (83, [some (.ref 65), some (.int v1), some (.int v2), some (.int v3)], [.int v3, .ref 11, .ref 13], M)) rfl trivial ?_
  obtain ⟨M83, hz, h⟩ := am_bv_s h
  refine am_R.call (e' := me_X2_lower) (as := [.ref 13, .ref 11, .int v3]) (rest := []) rfl rfl (Nat.le_of_ble_eq_true rfl) (t_X2_lower_13_11 z N v3 _ hz) ?_
  refine am_R.go 2 (q' := (26, [some (.ref 65), some (.int v1), some (.int (v2 + 1)), some (.int v3)], [], M83)) rfl trivial ?_
  exact hk26 v1 (v2 + 1) _ _ h
def f_X0_findQuestion_26B (N : Nat) (k26 : Int32 → Int32 → am_M → Option (Except Nat (Option Value) × am_M)) (v1 : Int32) (v2 : Int32) (M : am_M) : Option (Except Nat (Option Value) × am_M) :=
  if (1 <<< ((M 11 3) &&& 31)) ≤ v2 then
    if v1 = 0 then
      some (.ok none, am_up (am_up (am_up M 65 4 (-1)) 65 5 (-1)) 65 6 (-1))
    else
      am_bv (f_X0_chooseQuestion N (am_up (am_up (am_up M 65 4 (-1)) 65 5 (-1)) 65 6 (-1))) fun M112 =>
        some (.ok none, M112)
  else
    am_bi (f_X2_raise_13_11 N v2 M) fun r54 M54 =>
      am_bi (f_X0_bookIsSo N M54) fun r59 M59 =>
        if r59 = 0 then
          f_X0_findQuestion_71 N k26 v1 v2 r54 M59
        else
          am_bv (f_X0_tallyCells N M59) fun M68 =>
            f_X0_findQuestion_71 N k26 1 v2 r54 M68
def f_X0_findQuestion_26 (N : Nat) : Nat → Int32 → Int32 → am_M → Option (Except Nat (Option Value) × am_M)
  | 0 => fun _ _ _ => none
  | n + 1 => f_X0_findQuestion_26B N (f_X0_findQuestion_26 N n)
set_option maxRecDepth 100000 in
theorem t_X0_findQuestion_26B (z : Value) (N : Nat) {r : Except Nat (Option Value)} {M' : am_M} (k26 : Int32 → Int32 → am_M → Option (Except Nat (Option Value) × am_M)) (hk26 : ∀ (v1 : Int32) (v2 : Int32) (d3 : Option Value) (M : am_M), k26 v1 v2 M = some (r, M') → cR z me_X0_findQuestion (26, [some (.ref 65), some (.int v1), some (.int v2), d3], [], M) r M') (v1 : Int32) (v2 : Int32) (d3 : Option Value) (M : am_M) (h : f_X0_findQuestion_26B N k26 v1 v2 M = some (r, M')) : cR z me_X0_findQuestion (26, [some (.ref 65), some (.int v1), some (.int v2), d3], [], M) r M' := by
  unfold f_X0_findQuestion_26B at h
  refine am_R.go 7 (q' := (39, [some (.ref 65), some (.int v1), some (.int v2), d3], [.int (1 <<< ((M 11 3) &&& 31)), .int v2], M)) rfl trivial ?_
  rcases am_it h with ⟨hc, h⟩ | ⟨hc, h⟩
  · refine am_R.bt rfl rfl hc ?_
    refine am_R.go 10 (q' := (108, [some (.ref 65), some (.int v1), some (.int v2), d3], [.int v1], am_up (am_up (am_up M 65 4 (-1)) 65 5 (-1)) 65 6 (-1))) rfl trivial ?_
    rcases am_it h with ⟨hc, h⟩ | ⟨hc, h⟩
    · refine am_R.ct rfl rfl hc ?_
      cases h
      exact am_R.ret rfl rfl trivial
    · refine am_R.cn rfl rfl hc ?_
      refine am_R.go 1 (q' := (112, [some (.ref 65), some (.int v1), some (.int v2), d3], [.ref 65], am_up (am_up (am_up M 65 4 (-1)) 65 5 (-1)) 65 6 (-1))) rfl trivial ?_
      obtain ⟨M112, hz, h⟩ := am_bv_s h
      refine am_R.call (e' := me_X0_chooseQuestion) (as := [.ref 65]) (rest := []) rfl rfl (Nat.le_of_ble_eq_true rfl) (t_X0_chooseQuestion z N _ hz) ?_
      cases h
      exact am_R.ret rfl rfl trivial
  · refine am_R.bn rfl rfl hc ?_
    refine am_R.go 6 (q' := (54, [some (.ref 65), some (.int v1), some (.int v2), d3], [.int v2, .ref 11, .ref 13], M)) rfl trivial ?_
    obtain ⟨r54, M54, hz, h⟩ := am_bi_s h
    refine am_R.call (e' := me_X2_raise) (as := [.ref 13, .ref 11, .int v2]) (rest := []) rfl rfl (Nat.le_of_ble_eq_true rfl) (t_X2_raise_13_11 z N v2 _ hz) ?_
    refine am_R.go 2 (q' := (59, [some (.ref 65), some (.int v1), some (.int v2), some (.int r54)], [.ref 65], M54)) rfl trivial ?_
    obtain ⟨r59, M59, hz, h⟩ := am_bi_s h
    refine am_R.call (e' := me_X0_bookIsSo) (as := [.ref 65]) (rest := []) rfl rfl (Nat.le_of_ble_eq_true rfl) (t_X0_bookIsSo z N _ hz) ?_
    rcases am_it h with ⟨hc, h⟩ | ⟨hc, h⟩
    · refine am_R.ct rfl rfl hc ?_
      exact t_X0_findQuestion_71 z N k26 v1 v2 r54 _ hk26 h
    · refine am_R.cn rfl rfl hc ?_
      refine am_R.go 3 (q' := (68, [some (.ref 65), some (.int 1), some (.int v2), some (.int r54)], [.ref 65], M59)) rfl trivial ?_
      obtain ⟨M68, hz, h⟩ := am_bv_s h
      refine am_R.call (e' := me_X0_tallyCells) (as := [.ref 65]) (rest := []) rfl rfl (Nat.le_of_ble_eq_true rfl) (t_X0_tallyCells z N _ hz) ?_
      exact t_X0_findQuestion_71 z N k26 1 v2 r54 _ hk26 h
set_option maxRecDepth 100000 in
theorem t_X0_findQuestion_26 (z : Value) (N : Nat) {r : Except Nat (Option Value)} {M' : am_M} : ∀ (n : Nat) (v1 : Int32) (v2 : Int32) (d3 : Option Value) (M : am_M), f_X0_findQuestion_26 N n v1 v2 M = some (r, M') → cR z me_X0_findQuestion (26, [some (.ref 65), some (.int v1), some (.int v2), d3], [], M) r M' := by
  intro n
  induction n with
  | zero => intro v1 v2 d3 M h; cases h
  | succ n ih => intro v1 v2 d3 M h; exact t_X0_findQuestion_26B z N _ ih v1 v2 d3 M h
def f_X0_findQuestion_2B (N : Nat) (k2 : Int32 → am_M → Option (Except Nat (Option Value) × am_M)) (v1 : Int32) (M : am_M) : Option (Except Nat (Option Value) × am_M) :=
  if 2500 ≤ v1 then
    f_X0_findQuestion_26 N N 0 0 M
  else
    if am_in v1 2500 then
      k2 (v1 + 1) (am_up M 66 (v1.toNatClampNeg) 0)
    else none
def f_X0_findQuestion_2 (N : Nat) : Nat → Int32 → am_M → Option (Except Nat (Option Value) × am_M)
  | 0 => fun _ _ => none
  | n + 1 => f_X0_findQuestion_2B N (f_X0_findQuestion_2 N n)
set_option maxRecDepth 100000 in
theorem t_X0_findQuestion_2B (z : Value) (N : Nat) {r : Except Nat (Option Value)} {M' : am_M} (k2 : Int32 → am_M → Option (Except Nat (Option Value) × am_M)) (hk2 : ∀ (v1 : Int32) (d2 : Option Value) (d3 : Option Value) (M : am_M), k2 v1 M = some (r, M') → cR z me_X0_findQuestion (2, [some (.ref 65), some (.int v1), d2, d3], [], M) r M') (v1 : Int32) (d2 : Option Value) (d3 : Option Value) (M : am_M) (h : f_X0_findQuestion_2B N k2 v1 M = some (r, M')) : cR z me_X0_findQuestion (2, [some (.ref 65), some (.int v1), d2, d3], [], M) r M' := by
  unfold f_X0_findQuestion_2B at h
  refine am_R.go 2 (q' := (6, [some (.ref 65), some (.int v1), d2, d3], [.int 2500, .int v1], M)) rfl trivial ?_
  rcases am_it h with ⟨hc, h⟩ | ⟨hc, h⟩
  · refine am_R.bt rfl rfl hc ?_
    refine am_R.go 4 (q' := (26, [some (.ref 65), some (.int 0), some (.int 0), d3], [], M)) rfl trivial ?_
    exact t_X0_findQuestion_26 z N N 0 0 _ _ h
  · refine am_R.bn rfl rfl hc ?_
    obtain ⟨hC, h⟩ := am_gd h
    refine am_R.go 7 (q' := (2, [some (.ref 65), some (.int (v1 + 1)), d2, d3], [], am_up M 66 (v1.toNatClampNeg) 0)) rfl ⟨hC, trivial⟩ ?_
    exact hk2 (v1 + 1) _ _ _ h
set_option maxRecDepth 100000 in
theorem t_X0_findQuestion_2 (z : Value) (N : Nat) {r : Except Nat (Option Value)} {M' : am_M} : ∀ (n : Nat) (v1 : Int32) (d2 : Option Value) (d3 : Option Value) (M : am_M), f_X0_findQuestion_2 N n v1 M = some (r, M') → cR z me_X0_findQuestion (2, [some (.ref 65), some (.int v1), d2, d3], [], M) r M' := by
  intro n
  induction n with
  | zero => intro v1 d2 d3 M h; cases h
  | succ n ih => intro v1 d2 d3 M h; exact t_X0_findQuestion_2B z N _ ih v1 d2 d3 M h
def f_X0_findQuestion (N : Nat) (M : am_M) : Option (Except Nat (Option Value) × am_M) :=
  f_X0_findQuestion_2 N N 0 M
set_option maxRecDepth 100000 in
theorem t_X0_findQuestion (z : Value) (N : Nat) (M : am_M) {r : Except Nat (Option Value)} {M' : am_M} (h : f_X0_findQuestion N M = some (r, M')) : cR z me_X0_findQuestion (0, [some (.ref 65), none, none, none], [], M) r M' := by
  unfold f_X0_findQuestion at h
  refine am_R.go 2 (q' := (2, [some (.ref 65), some (.int 0), none, none], [], M)) rfl trivial ?_
  exact t_X0_findQuestion_2 z N N 0 _ _ _ h
def f_X9_ask (N : Nat) (p1 : Int32) (M : am_M) : Option (Except Nat (Option Value) × am_M) :=
  am_bvx (f_X9_needBetween N p1 0 2 M) fun M4 =>
    am_bv (f_X0_findQuestion N M4) fun M11 =>
      if p1 = 0 then
        some (.ok (some (.int (M11 65 4))), M11)
      else
        if p1 = 1 then
          some (.ok (some (.int (M11 65 5))), M11)
        else
          some (.ok (some (.int (M11 65 6))), M11)
set_option maxRecDepth 100000 in
theorem t_X9_ask (z : Value) (N : Nat) (p1 : Int32) (M : am_M) {r : Except Nat (Option Value)} {M' : am_M} (h : f_X9_ask N p1 M = some (r, M')) : cR z me_X9_ask (0, [some (.ref 0), some (.int p1)], [], M) r M' := by
  unfold f_X9_ask at h
  refine am_R.go 4 (q' := (4, [some (.ref 0), some (.int p1)], [.int 2, .int 0, .int p1, .ref 0], M)) rfl trivial ?_
  rcases am_bvx_s h with ⟨M4, hz, h⟩ | ⟨x, M4, hz, h⟩
  · refine am_R.call (e' := me_X9_needBetween) (as := [.ref 0, .int p1, .int 0, .int 2]) (rest := []) rfl rfl (Nat.le_of_ble_eq_true rfl) (t_X9_needBetween z N p1 0 2 _ hz) ?_
    refine am_R.go 2 (q' := (11, [some (.ref 0), some (.int p1)], [.ref 65], M4)) rfl trivial ?_
    obtain ⟨M11, hz, h⟩ := am_bv_s h
    refine am_R.call (e' := me_X0_findQuestion) (as := [.ref 65]) (rest := []) rfl rfl (Nat.le_of_ble_eq_true rfl) (t_X0_findQuestion z N _ hz) ?_
    refine am_R.go 1 (q' := (15, [some (.ref 0), some (.int p1)], [.int p1], M11)) rfl trivial ?_
    rcases am_it h with ⟨hc, h⟩ | ⟨hc, h⟩
    · refine am_R.cn rfl rfl (fun q => q hc) ?_
      refine am_R.go 4 (q' := (50, [some (.ref 0), some (.int p1)], [.int (M11 65 4)], M11)) rfl trivial ?_
      cases h
      exact am_R.ret rfl rfl trivial
    · refine am_R.ct rfl rfl hc ?_
      refine am_R.go 2 (q' := (30, [some (.ref 0), some (.int p1)], [.int 1, .int p1], M11)) rfl trivial ?_
      rcases am_it h with ⟨hc, h⟩ | ⟨hc, h⟩
      · refine am_R.bn rfl rfl (fun q => q hc) ?_
        refine am_R.go 4 (q' := (50, [some (.ref 0), some (.int p1)], [.int (M11 65 5)], M11)) rfl trivial ?_
        cases h
        exact am_R.ret rfl rfl trivial
      · refine am_R.bt rfl rfl hc ?_
        refine am_R.go 3 (q' := (50, [some (.ref 0), some (.int p1)], [.int (M11 65 6)], M11)) rfl trivial ?_
        cases h
        exact am_R.ret rfl rfl trivial
  · cases h
    exact am_R.callx (e' := me_X9_needBetween) (as := [.ref 0, .int p1, .int 0, .int 2]) (rest := []) rfl rfl (Nat.le_of_ble_eq_true rfl) rfl (t_X9_needBetween z N p1 0 2 _ hz)
def f_X6_shoutForPeaks_3B (N : Nat) (v1 : Int32) (v2 : Int32) (v3 : Int32) (k3 : Int32 → am_M → Option (Except Nat (Option Value) × am_M)) (v4 : Int32) (M : am_M) : Option (Except Nat (Option Value) × am_M) :=
  if 100 ≤ v4 then
    am_bi (f_X9_cellOf N v1 v2 M) fun r30 M30 =>
      if am_in r30 100 then
        am_bv (f_X6_shout N v1 v2 v3 0 (am_up (am_up M30 56 (r30.toNatClampNeg) v3) 51 6 1)) fun M45 =>
          some (.ok none, am_up M45 51 6 0)
      else none
  else
    if am_in v4 100 then
      k3 (v4 + 1) (am_up M 56 (v4.toNatClampNeg) 0)
    else none
def f_X6_shoutForPeaks_3 (N : Nat) (v1 : Int32) (v2 : Int32) (v3 : Int32) : Nat → Int32 → am_M → Option (Except Nat (Option Value) × am_M)
  | 0 => fun _ _ => none
  | n + 1 => f_X6_shoutForPeaks_3B N v1 v2 v3 (f_X6_shoutForPeaks_3 N v1 v2 v3 n)
set_option maxRecDepth 100000 in
theorem t_X6_shoutForPeaks_3B (z : Value) (N : Nat) (v1 : Int32) (v2 : Int32) (v3 : Int32) {r : Except Nat (Option Value)} {M' : am_M} (k3 : Int32 → am_M → Option (Except Nat (Option Value) × am_M)) (hk3 : ∀ (v4 : Int32) (M : am_M), k3 v4 M = some (r, M') → cR z me_X6_shoutForPeaks (3, [some (.ref 51), some (.int v1), some (.int v2), some (.int v3), some (.int v4)], [], M) r M') (v4 : Int32) (M : am_M) (h : f_X6_shoutForPeaks_3B N v1 v2 v3 k3 v4 M = some (r, M')) : cR z me_X6_shoutForPeaks (3, [some (.ref 51), some (.int v1), some (.int v2), some (.int v3), some (.int v4)], [], M) r M' := by
  unfold f_X6_shoutForPeaks_3B at h
  refine am_R.go 2 (q' := (7, [some (.ref 51), some (.int v1), some (.int v2), some (.int v3), some (.int v4)], [.int 100, .int v4], M)) rfl trivial ?_
  rcases am_it h with ⟨hc, h⟩ | ⟨hc, h⟩
  · refine am_R.bt rfl rfl hc ?_
    refine am_R.go 4 (q' := (30, [some (.ref 51), some (.int v1), some (.int v2), some (.int v3), some (.int v4)], [.int v2, .int v1, .ref 56], M)) rfl trivial ?_
    obtain ⟨r30, M30, hz, h⟩ := am_bi_s h
    refine am_R.call (e' := me_X9_cellOf) (as := [.int v1, .int v2]) (rest := [.ref 56]) rfl rfl (Nat.le_of_ble_eq_true rfl) (t_X9_cellOf z N v1 v2 _ hz) ?_
    obtain ⟨hC, h⟩ := am_gd h
    refine am_R.go 10 (q' := (45, [some (.ref 51), some (.int v1), some (.int v2), some (.int v3), some (.int v4)], [.int 0, .int v3, .int v2, .int v1, .ref 51], am_up (am_up M30 56 (r30.toNatClampNeg) v3) 51 6 1)) rfl ⟨hC, (by decide), trivial⟩ ?_
    obtain ⟨M45, hz, h⟩ := am_bv_s h
    refine am_R.call (e' := me_X6_shout) (as := [.ref 51, .int v1, .int v2, .int v3, .int 0]) (rest := []) rfl rfl (Nat.le_of_ble_eq_true rfl) (t_X6_shout z N v1 v2 v3 0 _ hz) ?_
    refine am_R.go 3 (q' := (53, [some (.ref 51), some (.int v1), some (.int v2), some (.int v3), some (.int v4)], [], am_up M45 51 6 0)) rfl ⟨(by decide), trivial⟩ ?_
    cases h
    exact am_R.ret rfl rfl trivial
  · refine am_R.bn rfl rfl hc ?_
    obtain ⟨hC, h⟩ := am_gd h
    refine am_R.go 7 (q' := (3, [some (.ref 51), some (.int v1), some (.int v2), some (.int v3), some (.int (v4 + 1))], [], am_up M 56 (v4.toNatClampNeg) 0)) rfl ⟨hC, trivial⟩ ?_
    exact hk3 (v4 + 1) _ h
set_option maxRecDepth 100000 in
theorem t_X6_shoutForPeaks_3 (z : Value) (N : Nat) (v1 : Int32) (v2 : Int32) (v3 : Int32) {r : Except Nat (Option Value)} {M' : am_M} : ∀ (n : Nat) (v4 : Int32) (M : am_M), f_X6_shoutForPeaks_3 N v1 v2 v3 n v4 M = some (r, M') → cR z me_X6_shoutForPeaks (3, [some (.ref 51), some (.int v1), some (.int v2), some (.int v3), some (.int v4)], [], M) r M' := by
  intro n
  induction n with
  | zero => intro v4 M h; cases h
  | succ n ih => intro v4 M h; exact t_X6_shoutForPeaks_3B z N v1 v2 v3 _ ih v4 M h
def f_X6_shoutForPeaks (N : Nat) (p1 : Int32) (p2 : Int32) (p3 : Int32) (M : am_M) : Option (Except Nat (Option Value) × am_M) :=
  f_X6_shoutForPeaks_3 N p1 p2 p3 N 0 M
set_option maxRecDepth 100000 in
theorem t_X6_shoutForPeaks (z : Value) (N : Nat) (p1 : Int32) (p2 : Int32) (p3 : Int32) (M : am_M) {r : Except Nat (Option Value)} {M' : am_M} (h : f_X6_shoutForPeaks N p1 p2 p3 M = some (r, M')) : cR z me_X6_shoutForPeaks (0, [some (.ref 51), some (.int p1), some (.int p2), some (.int p3), none], [], M) r M' := by
  unfold f_X6_shoutForPeaks at h
  refine am_R.go 2 (q' := (3, [some (.ref 51), some (.int p1), some (.int p2), some (.int p3), some (.int 0)], [], M)) rfl trivial ?_
  exact t_X6_shoutForPeaks_3 z N p1 p2 p3 N 0 _ h
def f_X8_has_9 (N : Nat) (p1 : Int32) (p2 : Int32) (M : am_M) : Option (Except Nat (Option Value) × am_M) :=
  if p1 < 0 then
    some (.ok (some (.int 0)), M)
  else
    if (M 9 3) ≤ p1 then
      some (.ok (some (.int 0)), M)
    else
      if p2 < 0 then
        some (.ok (some (.int 0)), M)
      else
        if (M 9 1) ≤ p2 then
          some (.ok (some (.int 0)), M)
        else
          some (.ok (some (.int 1)), M)
set_option maxRecDepth 100000 in
theorem t_X8_has_9 (z : Value) (N : Nat) (p1 : Int32) (p2 : Int32) (M : am_M) {r : Except Nat (Option Value)} {M' : am_M} (h : f_X8_has_9 N p1 p2 M = some (r, M')) : cR z me_X8_has (0, [some (.ref 9), some (.int p1), some (.int p2)], [], M) r M' := by
  unfold f_X8_has_9 at h
  refine am_R.go 1 (q' := (1, [some (.ref 9), some (.int p1), some (.int p2)], [.int p1], M)) rfl trivial ?_
  rcases am_it h with ⟨hc, h⟩ | ⟨hc, h⟩
  · refine am_R.ct rfl rfl hc ?_
    refine am_R.go 1 (q' := (29, [some (.ref 9), some (.int p1), some (.int p2)], [.int 0], M)) rfl trivial ?_
    cases h
    exact am_R.ret rfl rfl (Or.inl rfl)
  · refine am_R.cn rfl rfl hc ?_
    refine am_R.go 3 (q' := (9, [some (.ref 9), some (.int p1), some (.int p2)], [.int (M 9 3), .int p1], M)) rfl trivial ?_
    rcases am_it h with ⟨hc, h⟩ | ⟨hc, h⟩
    · refine am_R.bt rfl rfl hc ?_
      refine am_R.go 1 (q' := (29, [some (.ref 9), some (.int p1), some (.int p2)], [.int 0], M)) rfl trivial ?_
      cases h
      exact am_R.ret rfl rfl (Or.inl rfl)
    · refine am_R.bn rfl rfl hc ?_
      refine am_R.go 1 (q' := (13, [some (.ref 9), some (.int p1), some (.int p2)], [.int p2], M)) rfl trivial ?_
      rcases am_it h with ⟨hc, h⟩ | ⟨hc, h⟩
      · refine am_R.ct rfl rfl hc ?_
        refine am_R.go 1 (q' := (29, [some (.ref 9), some (.int p1), some (.int p2)], [.int 0], M)) rfl trivial ?_
        cases h
        exact am_R.ret rfl rfl (Or.inl rfl)
      · refine am_R.cn rfl rfl hc ?_
        refine am_R.go 3 (q' := (21, [some (.ref 9), some (.int p1), some (.int p2)], [.int (M 9 1), .int p2], M)) rfl trivial ?_
        rcases am_it h with ⟨hc, h⟩ | ⟨hc, h⟩
        · refine am_R.bt rfl rfl hc ?_
          refine am_R.go 1 (q' := (29, [some (.ref 9), some (.int p1), some (.int p2)], [.int 0], M)) rfl trivial ?_
          cases h
          exact am_R.ret rfl rfl (Or.inl rfl)
        · refine am_R.bn rfl rfl hc ?_
          refine am_R.go 2 (q' := (29, [some (.ref 9), some (.int p1), some (.int p2)], [.int 1], M)) rfl trivial ?_
          cases h
          exact am_R.ret rfl rfl (Or.inr rfl)
def f_X8_at_9 (N : Nat) (p1 : Int32) (p2 : Int32) (M : am_M) : Option (Except Nat (Option Value) × am_M) :=
  am_bi (f_X8_has_9 N p1 p2 M) fun r3 M3 =>
    if r3 = 0 then
      some (.ok (some (.int 0)), M3)
    else
      if am_in ((p1 * (M3 9 1)) + p2) 24 then
        some (.ok (some (.int (M3 10 (((p1 * (M3 9 1)) + p2).toNatClampNeg)))), M3)
      else none
set_option maxRecDepth 100000 in
theorem t_X8_at_9 (z : Value) (N : Nat) (p1 : Int32) (p2 : Int32) (M : am_M) {r : Except Nat (Option Value)} {M' : am_M} (h : f_X8_at_9 N p1 p2 M = some (r, M')) : cR z me_X8_at (0, [some (.ref 9), some (.int p1), some (.int p2)], [], M) r M' := by
  unfold f_X8_at_9 at h
  refine am_R.go 3 (q' := (3, [some (.ref 9), some (.int p1), some (.int p2)], [.int p2, .int p1, .ref 9], M)) rfl trivial ?_
  obtain ⟨r3, M3, hz, h⟩ := am_bi_s h
  refine am_R.call (e' := me_X8_has) (as := [.ref 9, .int p1, .int p2]) (rest := []) rfl rfl (Nat.le_of_ble_eq_true rfl) (t_X8_has_9 z N p1 p2 _ hz) ?_
  rcases am_it h with ⟨hc, h⟩ | ⟨hc, h⟩
  · refine am_R.ct rfl rfl hc ?_
    refine am_R.go 1 (q' := (26, [some (.ref 9), some (.int p1), some (.int p2)], [.int 0], M3)) rfl trivial ?_
    cases h
    exact am_R.ret rfl rfl trivial
  · refine am_R.cn rfl rfl hc ?_
    obtain ⟨hC, h⟩ := am_gd h
    refine am_R.go 10 (q' := (26, [some (.ref 9), some (.int p1), some (.int p2)], [.int (M3 10 (((p1 * (M3 9 1)) + p2).toNatClampNeg))], M3)) rfl ⟨hC, trivial⟩ ?_
    cases h
    exact am_R.ret rfl rfl trivial
