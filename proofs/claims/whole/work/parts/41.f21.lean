def f_X10_unlike_59B (N : Nat) (v1 : Int32) (v2 : Int32) (v4 : Int32) (k44 : Int32 → Int32 → am_M → Option (Except Nat (Option Value) × am_M)) (k59 : Int32 → Int32 → am_M → Option (Except Nat (Option Value) × am_M)) (v3 : Int32) (v5 : Int32) (M : am_M) : Option (Except Nat (Option Value) × am_M) :=
  if (M 0 36) ≤ v5 then
    k44 v3 (v4 + 1) M
  else
    am_bi (f_X10_worthBy N v4 0 v1 M) fun r74 M74 =>
      am_bi (f_X10_worthBy N v5 0 v1 M74) fun r82 M82 =>
        am_bi (f_X10_sideOf N r74 r82 M82) fun r85 M85 =>
          am_bi (f_X10_worthBy N v4 0 v2 M85) fun r93 M93 =>
            am_bi (f_X10_worthBy N v5 0 v2 M93) fun r101 M101 =>
              am_bi (f_X10_sideOf N r93 r101 M101) fun r104 M104 =>
                if r85 = r104 then
                  k59 (v3 + 0) (v5 + 1) M104
                else
                  k59 (v3 + 1) (v5 + 1) M104
def f_X10_unlike_59 (N : Nat) (v1 : Int32) (v2 : Int32) (v4 : Int32) (k44 : Int32 → Int32 → am_M → Option (Except Nat (Option Value) × am_M)) : Nat → Int32 → Int32 → am_M → Option (Except Nat (Option Value) × am_M)
  | 0 => fun _ _ _ => none
  | n + 1 => f_X10_unlike_59B N v1 v2 v4 k44 (f_X10_unlike_59 N v1 v2 v4 k44 n)
set_option maxRecDepth 100000 in
theorem t_X10_unlike_59B (z : Value) (N : Nat) (v1 : Int32) (v2 : Int32) (v4 : Int32) (k44 : Int32 → Int32 → am_M → Option (Except Nat (Option Value) × am_M)) {r : Except Nat (Option Value)} {M' : am_M} (hk44 : ∀ (v3 : Int32) (v4 : Int32) (d5 : Option Value) (M : am_M), k44 v3 v4 M = some (r, M') → mR z me_X10_unlike (44, [some (.ref 0), some (.int v1), some (.int v2), some (.int v3), some (.int v4), d5], [], M) r M') (k59 : Int32 → Int32 → am_M → Option (Except Nat (Option Value) × am_M)) (hk59 : ∀ (v3 : Int32) (v5 : Int32) (M : am_M), k59 v3 v5 M = some (r, M') → mR z me_X10_unlike (59, [some (.ref 0), some (.int v1), some (.int v2), some (.int v3), some (.int v4), some (.int v5)], [], M) r M') (v3 : Int32) (v5 : Int32) (M : am_M) (h : f_X10_unlike_59B N v1 v2 v4 k44 k59 v3 v5 M = some (r, M')) : mR z me_X10_unlike (59, [some (.ref 0), some (.int v1), some (.int v2), some (.int v3), some (.int v4), some (.int v5)], [], M) r M' := by
  unfold f_X10_unlike_59B at h
  refine am_R.go 3 (q' := (65, [some (.ref 0), some (.int v1), some (.int v2), some (.int v3), some (.int v4), some (.int v5)], [.int (M 0 36), .int v5], M)) rfl trivial ?_
  rcases am_it h with ⟨hc, h⟩ | ⟨hc, h⟩
  · refine am_R.bt rfl rfl hc ?_
    refine am_R.go 2 (q' := (44, [some (.ref 0), some (.int v1), some (.int v2), some (.int v3), some (.int (v4 + 1)), some (.int v5)], [], M)) rfl trivial ?_
    exact hk44 v3 (v4 + 1) _ _ h
  · refine am_R.bn rfl rfl hc ?_
    refine am_R.go 5 (q' := (74, [some (.ref 0), some (.int v1), some (.int v2), some (.int v3), some (.int v4), some (.int v5)], [.int v1, .int 0, .int v4, .ref 0, .int v3], M)) rfl trivial ?_
    obtain ⟨r74, M74, hz, h⟩ := am_bi_s h
    refine am_R.call (e' := me_X10_worthBy) (as := [.ref 0, .int v4, .int 0, .int v1]) (rest := [.int v3]) rfl rfl (Nat.le_of_ble_eq_true rfl) (t_X10_worthBy z N v4 0 v1 _ hz) ?_
    refine am_R.go 4 (q' := (82, [some (.ref 0), some (.int v1), some (.int v2), some (.int v3), some (.int v4), some (.int v5)], [.int v1, .int 0, .int v5, .ref 0, .int r74, .int v3], M74)) rfl trivial ?_
    obtain ⟨r82, M82, hz, h⟩ := am_bi_s h
    refine am_R.call (e' := me_X10_worthBy) (as := [.ref 0, .int v5, .int 0, .int v1]) (rest := [.int r74, .int v3]) rfl rfl (Nat.le_of_ble_eq_true rfl) (t_X10_worthBy z N v5 0 v1 _ hz) ?_
    obtain ⟨r85, M85, hz, h⟩ := am_bi_s h
    refine am_R.call (e' := me_X10_sideOf) (as := [.int r74, .int r82]) (rest := [.int v3]) rfl rfl (Nat.le_of_ble_eq_true rfl) (t_X10_sideOf z N r74 r82 _ hz) ?_
    refine am_R.go 4 (q' := (93, [some (.ref 0), some (.int v1), some (.int v2), some (.int v3), some (.int v4), some (.int v5)], [.int v2, .int 0, .int v4, .ref 0, .int r85, .int v3], M85)) rfl trivial ?_
    obtain ⟨r93, M93, hz, h⟩ := am_bi_s h
    refine am_R.call (e' := me_X10_worthBy) (as := [.ref 0, .int v4, .int 0, .int v2]) (rest := [.int r85, .int v3]) rfl rfl (Nat.le_of_ble_eq_true rfl) (t_X10_worthBy z N v4 0 v2 _ hz) ?_
    refine am_R.go 4 (q' := (101, [some (.ref 0), some (.int v1), some (.int v2), some (.int v3), some (.int v4), some (.int v5)], [.int v2, .int 0, .int v5, .ref 0, .int r93, .int r85, .int v3], M93)) rfl trivial ?_
    obtain ⟨r101, M101, hz, h⟩ := am_bi_s h
    refine am_R.call (e' := me_X10_worthBy) (as := [.ref 0, .int v5, .int 0, .int v2]) (rest := [.int r93, .int r85, .int v3]) rfl rfl (Nat.le_of_ble_eq_true rfl) (t_X10_worthBy z N v5 0 v2 _ hz) ?_
    obtain ⟨r104, M104, hz, h⟩ := am_bi_s h
    refine am_R.call (e' := me_X10_sideOf) (as := [.int r93, .int r101]) (rest := [.int r85, .int v3]) rfl rfl (Nat.le_of_ble_eq_true rfl) (t_X10_sideOf z N r93 r101 _ hz) ?_
    rcases am_it h with ⟨hc, h⟩ | ⟨hc, h⟩
    · refine am_R.bt rfl rfl hc ?_
      refine am_R.go 5 (q' := (59, [some (.ref 0), some (.int v1), some (.int v2), some (.int (v3 + 0)), some (.int v4), some (.int (v5 + 1))], [], M104)) rfl trivial ?_
      exact hk59 (v3 + 0) (v5 + 1) _ h
    · refine am_R.bn rfl rfl hc ?_
      refine am_R.go 6 (q' := (59, [some (.ref 0), some (.int v1), some (.int v2), some (.int (v3 + 1)), some (.int v4), some (.int (v5 + 1))], [], M104)) rfl trivial ?_
      exact hk59 (v3 + 1) (v5 + 1) _ h
set_option maxRecDepth 100000 in
theorem t_X10_unlike_59 (z : Value) (N : Nat) (v1 : Int32) (v2 : Int32) (v4 : Int32) (k44 : Int32 → Int32 → am_M → Option (Except Nat (Option Value) × am_M)) {r : Except Nat (Option Value)} {M' : am_M} (hk44 : ∀ (v3 : Int32) (v4 : Int32) (d5 : Option Value) (M : am_M), k44 v3 v4 M = some (r, M') → mR z me_X10_unlike (44, [some (.ref 0), some (.int v1), some (.int v2), some (.int v3), some (.int v4), d5], [], M) r M') : ∀ (n : Nat) (v3 : Int32) (v5 : Int32) (M : am_M), f_X10_unlike_59 N v1 v2 v4 k44 n v3 v5 M = some (r, M') → mR z me_X10_unlike (59, [some (.ref 0), some (.int v1), some (.int v2), some (.int v3), some (.int v4), some (.int v5)], [], M) r M' := by
  intro n
  induction n with
  | zero => intro v3 v5 M h; cases h
  | succ n ih => intro v3 v5 M h; exact t_X10_unlike_59B z N v1 v2 v4 k44 hk44 _ ih v3 v5 M h
def f_X10_unlike_44B (N : Nat) (v1 : Int32) (v2 : Int32) (k44 : Int32 → Int32 → am_M → Option (Except Nat (Option Value) × am_M)) (v3 : Int32) (v4 : Int32) (M : am_M) : Option (Except Nat (Option Value) × am_M) :=
  if (M 0 36) ≤ v4 then
    some (.ok (some (.int v3)), M)
  else
    f_X10_unlike_59 N v1 v2 v4 k44 N v3 (v4 + 1) M
def f_X10_unlike_44 (N : Nat) (v1 : Int32) (v2 : Int32) : Nat → Int32 → Int32 → am_M → Option (Except Nat (Option Value) × am_M)
  | 0 => fun _ _ _ => none
  | n + 1 => f_X10_unlike_44B N v1 v2 (f_X10_unlike_44 N v1 v2 n)
set_option maxRecDepth 100000 in
theorem t_X10_unlike_44B (z : Value) (N : Nat) (v1 : Int32) (v2 : Int32) {r : Except Nat (Option Value)} {M' : am_M} (k44 : Int32 → Int32 → am_M → Option (Except Nat (Option Value) × am_M)) (hk44 : ∀ (v3 : Int32) (v4 : Int32) (d5 : Option Value) (M : am_M), k44 v3 v4 M = some (r, M') → mR z me_X10_unlike (44, [some (.ref 0), some (.int v1), some (.int v2), some (.int v3), some (.int v4), d5], [], M) r M') (v3 : Int32) (v4 : Int32) (d5 : Option Value) (M : am_M) (h : f_X10_unlike_44B N v1 v2 k44 v3 v4 M = some (r, M')) : mR z me_X10_unlike (44, [some (.ref 0), some (.int v1), some (.int v2), some (.int v3), some (.int v4), d5], [], M) r M' := by
  unfold f_X10_unlike_44B at h
  refine am_R.go 3 (q' := (50, [some (.ref 0), some (.int v1), some (.int v2), some (.int v3), some (.int v4), d5], [.int (M 0 36), .int v4], M)) rfl trivial ?_
  rcases am_it h with ⟨hc, h⟩ | ⟨hc, h⟩
  · refine am_R.bt rfl rfl hc ?_
    refine am_R.go 1 (q' := (130, [some (.ref 0), some (.int v1), some (.int v2), some (.int v3), some (.int v4), d5], [.int v3], M)) rfl trivial ?_
    cases h
    exact am_R.ret rfl rfl trivial
  · refine am_R.bn rfl rfl hc ?_
    refine am_R.go 4 (q' := (59, [some (.ref 0), some (.int v1), some (.int v2), some (.int v3), some (.int v4), some (.int (v4 + 1))], [], M)) rfl trivial ?_
    exact t_X10_unlike_59 z N v1 v2 v4 k44 hk44 N v3 (v4 + 1) _ h
set_option maxRecDepth 100000 in
theorem t_X10_unlike_44 (z : Value) (N : Nat) (v1 : Int32) (v2 : Int32) {r : Except Nat (Option Value)} {M' : am_M} : ∀ (n : Nat) (v3 : Int32) (v4 : Int32) (d5 : Option Value) (M : am_M), f_X10_unlike_44 N v1 v2 n v3 v4 M = some (r, M') → mR z me_X10_unlike (44, [some (.ref 0), some (.int v1), some (.int v2), some (.int v3), some (.int v4), d5], [], M) r M' := by
  intro n
  induction n with
  | zero => intro v3 v4 d5 M h; cases h
  | succ n ih => intro v3 v4 d5 M h; exact t_X10_unlike_44B z N v1 v2 _ ih v3 v4 d5 M h
def f_X10_unlike_29 (N : Nat) (v1 : Int32) (v2 : Int32) (s0 : Int32) (M : am_M) : Option (Except Nat (Option Value) × am_M) :=
  am_bi (f_X10_may N s0 1 2 M) fun r31 M31 =>
    if r31 = 0 then
      some (.ok (some (.int 0)), M31)
    else
      f_X10_unlike_44 N v1 v2 N 0 0 M31
set_option maxRecDepth 100000 in
theorem t_X10_unlike_29 (z : Value) (N : Nat) {r : Except Nat (Option Value)} {M' : am_M} (v1 : Int32) (v2 : Int32) (s0 : Int32) (d3 : Option Value) (d4 : Option Value) (d5 : Option Value) (M : am_M) (h : f_X10_unlike_29 N v1 v2 s0 M = some (r, M')) : mR z me_X10_unlike (29, [some (.ref 0), some (.int v1), some (.int v2), d3, d4, d5], [.int s0, .ref 0], M) r M' := by
  unfold f_X10_unlike_29 at h
  refine am_R.go 2 (q' := (31, [some (.ref 0), some (.int v1), some (.int v2), d3, d4, d5], [.int 2, .int 1, .int s0, .ref 0], M)) rfl trivial ?_
  obtain ⟨r31, M31, hz, h⟩ := am_bi_s h
  refine am_R.call (e' := me_X10_may) (as := [.ref 0, .int s0, .int 1, .int 2]) (rest := []) rfl rfl (Nat.le_of_ble_eq_true rfl) (t_X10_may z N s0 1 2 _ hz) ?_
  rcases am_it h with ⟨hc, h⟩ | ⟨hc, h⟩
  · refine am_R.cn rfl rfl (fun q => q hc) ?_
    refine am_R.go 1 (q' := (38, [some (.ref 0), some (.int v1), some (.int v2), d3, d4, d5], [.int 0], M31)) rfl trivial ?_
    cases h
    exact am_R.ret rfl rfl trivial
  · refine am_R.ct rfl rfl hc ?_
    refine am_R.go 4 (q' := (44, [some (.ref 0), some (.int v1), some (.int v2), some (.int 0), some (.int 0), d5], [], M31)) rfl trivial ?_
    exact t_X10_unlike_44 z N v1 v2 N 0 0 _ _ h
def f_X10_unlike_28 (N : Nat) (v1 : Int32) (v2 : Int32) (M : am_M) : Option (Except Nat (Option Value) × am_M) :=
  f_X10_unlike_29 N v1 v2 0 M
set_option maxRecDepth 100000 in
theorem t_X10_unlike_28 (z : Value) (N : Nat) {r : Except Nat (Option Value)} {M' : am_M} (v1 : Int32) (v2 : Int32) (d3 : Option Value) (d4 : Option Value) (d5 : Option Value) (M : am_M) (h : f_X10_unlike_28 N v1 v2 M = some (r, M')) : mR z me_X10_unlike (28, [some (.ref 0), some (.int v1), some (.int v2), d3, d4, d5], [.ref 0], M) r M' := by
  unfold f_X10_unlike_28 at h
  refine am_R.go 1 (q' := (29, [some (.ref 0), some (.int v1), some (.int v2), d3, d4, d5], [.int 0, .ref 0], M)) rfl trivial ?_
  exact t_X10_unlike_29 z N v1 v2 0 _ _ _ _ h
def f_X10_unlike (N : Nat) (p1 : Int32) (p2 : Int32) (M : am_M) : Option (Except Nat (Option Value) × am_M) :=
  am_bi (f_X10_within N p1 0 2 (am_up M 0 0 0)) fun r9 M9 =>
    if r9 = 0 then
      f_X10_unlike_28 N p1 p2 M9
    else
      am_bi (f_X10_within N p2 0 2 M9) fun r18 M18 =>
        if r18 = 0 then
          f_X10_unlike_28 N p1 p2 M18
        else
          f_X10_unlike_29 N p1 p2 1 M18
set_option maxRecDepth 100000 in
theorem t_X10_unlike (z : Value) (N : Nat) (p1 : Int32) (p2 : Int32) (M : am_M) {r : Except Nat (Option Value)} {M' : am_M} (h : f_X10_unlike N p1 p2 M = some (r, M')) : mR z me_X10_unlike (0, [some (.ref 0), some (.int p1), some (.int p2), none, none, none], [], M) r M' := by
  unfold f_X10_unlike at h
  refine am_R.go 7 (q' := (9, [some (.ref 0), some (.int p1), some (.int p2), none, none, none], [.int 2, .int 0, .int p1, .ref 0], am_up M 0 0 0)) rfl trivial ?_
  obtain ⟨r9, M9, hz, h⟩ := am_bi_s h
  refine am_R.call (e' := me_X10_within) (as := [.int p1, .int 0, .int 2]) (rest := [.ref 0]) rfl rfl (Nat.le_of_ble_eq_true rfl) (t_X10_within z N p1 0 2 _ hz) ?_
  rcases am_it h with ⟨hc, h⟩ | ⟨hc, h⟩
  · refine am_R.ct rfl rfl hc ?_
    exact t_X10_unlike_28 z N p1 p2 _ _ _ _ h
  · refine am_R.cn rfl rfl hc ?_
    refine am_R.go 3 (q' := (18, [some (.ref 0), some (.int p1), some (.int p2), none, none, none], [.int 2, .int 0, .int p2, .ref 0], M9)) rfl trivial ?_
    obtain ⟨r18, M18, hz, h⟩ := am_bi_s h
    refine am_R.call (e' := me_X10_within) (as := [.int p2, .int 0, .int 2]) (rest := [.ref 0]) rfl rfl (Nat.le_of_ble_eq_true rfl) (t_X10_within z N p2 0 2 _ hz) ?_
    rcases am_it h with ⟨hc, h⟩ | ⟨hc, h⟩
    · refine am_R.ct rfl rfl hc ?_
      exact t_X10_unlike_28 z N p1 p2 _ _ _ _ h
    · refine am_R.cn rfl rfl hc ?_
      refine am_R.go 2 (q' := (29, [some (.ref 0), some (.int p1), some (.int p2), none, none, none], [.int 1, .ref 0], M18)) rfl trivial ?_
      exact t_X10_unlike_29 z N p1 p2 1 _ _ _ _ h
def f_X10_areNotes (N : Nat) (p0 : Int32) (M : am_M) : Option (Except Nat (Option Value) × am_M) :=
  am_bi (f_X10_within N p0 0 4095 M) fun r5 M5 =>
    if am_z r5 then some (.ok (some (.int r5)), M5) else none
set_option maxRecDepth 100000 in
theorem t_X10_areNotes (z : Value) (N : Nat) (p0 : Int32) (M : am_M) {r : Except Nat (Option Value)} {M' : am_M} (h : f_X10_areNotes N p0 M = some (r, M')) : mR z me_X10_areNotes (0, [some (.int p0)], [], M) r M' := by
  unfold f_X10_areNotes at h
  refine am_R.go 3 (q' := (5, [some (.int p0)], [.int 4095, .int 0, .int p0], M)) rfl trivial ?_
  obtain ⟨r5, M5, hz, h⟩ := am_bi_s h
  refine am_R.call (e' := me_X10_within) (as := [.int p0, .int 0, .int 4095]) (rest := []) rfl rfl (Nat.le_of_ble_eq_true rfl) (t_X10_within z N p0 0 4095 _ hz) ?_
  obtain ⟨hC, h⟩ := am_gd h
  cases h
  exact am_R.ret rfl rfl hC
def f_X10_listens_33B (N : Nat) (k33 : Int32 → am_M → Option (Except Nat (Option Value) × am_M)) (v2 : Int32) (M : am_M) : Option (Except Nat (Option Value) × am_M) :=
  if (M 0 48) ≤ v2 then
    some (.ok none, M)
  else
    if am_in v2 24 then
      if 100 ≤ (M 17 (v2.toNatClampNeg)) then
        k33 (v2 + 1) M
      else
        if am_in v2 24 ∧ am_in (M 17 (v2.toNatClampNeg)) 100 then
          k33 (v2 + 1) (am_up M 24 ((M 17 (v2.toNatClampNeg)).toNatClampNeg) ((M 24 ((M 17 (v2.toNatClampNeg)).toNatClampNeg)) + (M 18 (v2.toNatClampNeg))))
        else none
    else none
def f_X10_listens_33 (N : Nat) : Nat → Int32 → am_M → Option (Except Nat (Option Value) × am_M)
  | 0 => fun _ _ => none
  | n + 1 => f_X10_listens_33B N (f_X10_listens_33 N n)
set_option maxRecDepth 100000 in
theorem t_X10_listens_33B (z : Value) (N : Nat) {r : Except Nat (Option Value)} {M' : am_M} (k33 : Int32 → am_M → Option (Except Nat (Option Value) × am_M)) (hk33 : ∀ (v2 : Int32) (d1 : Option Value) (M : am_M), k33 v2 M = some (r, M') → mR z me_X10_listens (33, [some (.ref 0), d1, some (.int v2)], [], M) r M') (v2 : Int32) (d1 : Option Value) (M : am_M) (h : f_X10_listens_33B N k33 v2 M = some (r, M')) : mR z me_X10_listens (33, [some (.ref 0), d1, some (.int v2)], [], M) r M' := by
  unfold f_X10_listens_33B at h
  refine am_R.go 3 (q' := (38, [some (.ref 0), d1, some (.int v2)], [.int (M 0 48), .int v2], M)) rfl trivial ?_
  rcases am_it h with ⟨hc, h⟩ | ⟨hc, h⟩
  · refine am_R.bt rfl rfl hc ?_
    cases h
    exact am_R.ret rfl rfl trivial
  · refine am_R.bn rfl rfl hc ?_
    obtain ⟨hC, h⟩ := am_gd h
    refine am_R.go 5 (q' := (49, [some (.ref 0), d1, some (.int v2)], [.int 100, .int (M 17 (v2.toNatClampNeg))], M)) rfl ⟨hC, trivial⟩ ?_
    rcases am_it h with ⟨hc, h⟩ | ⟨hc, h⟩
    · refine am_R.bt rfl rfl hc ?_
      refine am_R.go 2 (q' := (33, [some (.ref 0), d1, some (.int (v2 + 1))], [], M)) rfl trivial ?_
      exact hk33 (v2 + 1) _ _ h
    · refine am_R.bn rfl rfl hc ?_
      obtain ⟨hC, h⟩ := am_gd h
      refine am_R.go 16 (q' := (33, [some (.ref 0), d1, some (.int (v2 + 1))], [], am_up M 24 ((M 17 (v2.toNatClampNeg)).toNatClampNeg) ((M 24 ((M 17 (v2.toNatClampNeg)).toNatClampNeg)) + (M 18 (v2.toNatClampNeg))))) rfl ⟨hC.1, hC.2, hC.1, hC.2, trivial⟩ ?_
      exact hk33 (v2 + 1) _ _ h
set_option maxRecDepth 100000 in
theorem t_X10_listens_33 (z : Value) (N : Nat) {r : Except Nat (Option Value)} {M' : am_M} : ∀ (n : Nat) (v2 : Int32) (d1 : Option Value) (M : am_M), f_X10_listens_33 N n v2 M = some (r, M') → mR z me_X10_listens (33, [some (.ref 0), d1, some (.int v2)], [], M) r M' := by
  intro n
  induction n with
  | zero => intro v2 d1 M h; cases h
  | succ n ih => intro v2 d1 M h; exact t_X10_listens_33B z N _ ih v2 d1 M h
def f_X10_listens_12B (N : Nat) (k12 : Int32 → am_M → Option (Except Nat (Option Value) × am_M)) (v2 : Int32) (M : am_M) : Option (Except Nat (Option Value) × am_M) :=
  if 100 ≤ v2 then
    f_X10_listens_33 N N 0 M
  else
    if am_in v2 100 then
      k12 (v2 + 1) (am_up M 24 (v2.toNatClampNeg) 0)
    else none
def f_X10_listens_12 (N : Nat) : Nat → Int32 → am_M → Option (Except Nat (Option Value) × am_M)
  | 0 => fun _ _ => none
  | n + 1 => f_X10_listens_12B N (f_X10_listens_12 N n)
set_option maxRecDepth 100000 in
theorem t_X10_listens_12B (z : Value) (N : Nat) {r : Except Nat (Option Value)} {M' : am_M} (k12 : Int32 → am_M → Option (Except Nat (Option Value) × am_M)) (hk12 : ∀ (v2 : Int32) (d1 : Option Value) (M : am_M), k12 v2 M = some (r, M') → mR z me_X10_listens (12, [some (.ref 0), d1, some (.int v2)], [], M) r M') (v2 : Int32) (d1 : Option Value) (M : am_M) (h : f_X10_listens_12B N k12 v2 M = some (r, M')) : mR z me_X10_listens (12, [some (.ref 0), d1, some (.int v2)], [], M) r M' := by
  unfold f_X10_listens_12B at h
  refine am_R.go 2 (q' := (15, [some (.ref 0), d1, some (.int v2)], [.int 100, .int v2], M)) rfl trivial ?_
  rcases am_it h with ⟨hc, h⟩ | ⟨hc, h⟩
  · refine am_R.bt rfl rfl hc ?_
    refine am_R.go 2 (q' := (33, [some (.ref 0), d1, some (.int 0)], [], M)) rfl trivial ?_
    exact t_X10_listens_33 z N N 0 _ _ h
  · refine am_R.bn rfl rfl hc ?_
    obtain ⟨hC, h⟩ := am_gd h
    refine am_R.go 7 (q' := (12, [some (.ref 0), d1, some (.int (v2 + 1))], [], am_up M 24 (v2.toNatClampNeg) 0)) rfl ⟨hC, trivial⟩ ?_
    exact hk12 (v2 + 1) _ _ h
set_option maxRecDepth 100000 in
theorem t_X10_listens_12 (z : Value) (N : Nat) {r : Except Nat (Option Value)} {M' : am_M} : ∀ (n : Nat) (v2 : Int32) (d1 : Option Value) (M : am_M), f_X10_listens_12 N n v2 M = some (r, M') → mR z me_X10_listens (12, [some (.ref 0), d1, some (.int v2)], [], M) r M' := by
  intro n
  induction n with
  | zero => intro v2 d1 M h; cases h
  | succ n ih => intro v2 d1 M h; exact t_X10_listens_12B z N _ ih v2 d1 M h
def f_X10_listens (N : Nat) (p1 : Int32) (M : am_M) : Option (Except Nat (Option Value) × am_M) :=
  am_bv (f_X10_shouts N p1 0 (M 0 40) M) fun M7 =>
    f_X10_listens_12 N N 0 M7
set_option maxRecDepth 100000 in
theorem t_X10_listens (z : Value) (N : Nat) (p1 : Int32) (M : am_M) {r : Except Nat (Option Value)} {M' : am_M} (h : f_X10_listens N p1 M = some (r, M')) : mR z me_X10_listens (0, [some (.ref 0), some (.int p1), none], [], M) r M' := by
  unfold f_X10_listens at h
  refine am_R.go 5 (q' := (7, [some (.ref 0), some (.int p1), none], [.int (M 0 40), .int 0, .int p1, .ref 0], M)) rfl trivial ?_
  obtain ⟨M7, hz, h⟩ := am_bv_s h
  refine am_R.call (e' := me_X10_shouts) (as := [.ref 0, .int p1, .int 0, .int (M 0 40)]) (rest := []) rfl rfl (Nat.le_of_ble_eq_true rfl) (t_X10_shouts z N p1 0 (M 0 40) _ hz) ?_
  refine am_R.go 2 (q' := (12, [some (.ref 0), some (.int p1), some (.int 0)], [], M7)) rfl trivial ?_
  exact t_X10_listens_12 z N N 0 _ _ h
def f_X10_heardAt_5B (N : Nat) (v1 : Int32) (v2 : Int32) (k5 : Int32 → Int32 → am_M → Option (Except Nat (Option Value) × am_M)) (v3 : Int32) (v4 : Int32) (M : am_M) : Option (Except Nat (Option Value) × am_M) :=
  if 12 ≤ v4 then
    some (.ok (some (.int v3)), M)
  else
    if v2 < v4 then
      some (.ok (some (.int v3)), M)
    else
      if ((v1 >>> (v4 &&& 31)) &&& 1) = 1 then
        if am_in (v2 - v4) 100 then
          k5 (v3 + (M 24 ((v2 - v4).toNatClampNeg))) (v4 + 1) M
        else none
      else
        k5 (v3 + 0) (v4 + 1) M
def f_X10_heardAt_5 (N : Nat) (v1 : Int32) (v2 : Int32) : Nat → Int32 → Int32 → am_M → Option (Except Nat (Option Value) × am_M)
  | 0 => fun _ _ _ => none
  | n + 1 => f_X10_heardAt_5B N v1 v2 (f_X10_heardAt_5 N v1 v2 n)
set_option maxRecDepth 100000 in
theorem t_X10_heardAt_5B (z : Value) (N : Nat) (v1 : Int32) (v2 : Int32) {r : Except Nat (Option Value)} {M' : am_M} (k5 : Int32 → Int32 → am_M → Option (Except Nat (Option Value) × am_M)) (hk5 : ∀ (v3 : Int32) (v4 : Int32) (M : am_M), k5 v3 v4 M = some (r, M') → mR z me_X10_heardAt (5, [some (.ref 0), some (.int v1), some (.int v2), some (.int v3), some (.int v4)], [], M) r M') (v3 : Int32) (v4 : Int32) (M : am_M) (h : f_X10_heardAt_5B N v1 v2 k5 v3 v4 M = some (r, M')) : mR z me_X10_heardAt (5, [some (.ref 0), some (.int v1), some (.int v2), some (.int v3), some (.int v4)], [], M) r M' := by
  unfold f_X10_heardAt_5B at h
  refine am_R.go 2 (q' := (9, [some (.ref 0), some (.int v1), some (.int v2), some (.int v3), some (.int v4)], [.int 12, .int v4], M)) rfl trivial ?_
  rcases am_it h with ⟨hc, h⟩ | ⟨hc, h⟩
  · refine am_R.bt rfl rfl hc ?_
    refine am_R.go 1 (q' := (51, [some (.ref 0), some (.int v1), some (.int v2), some (.int v3), some (.int v4)], [.int v3], M)) rfl trivial ?_
    cases h
    exact am_R.ret rfl rfl trivial
  · refine am_R.bn rfl rfl hc ?_
    refine am_R.go 2 (q' := (15, [some (.ref 0), some (.int v1), some (.int v2), some (.int v3), some (.int v4)], [.int v2, .int v4], M)) rfl trivial ?_
    rcases am_it h with ⟨hc, h⟩ | ⟨hc, h⟩
    · refine am_R.bt rfl rfl hc ?_
      refine am_R.go 1 (q' := (51, [some (.ref 0), some (.int v1), some (.int v2), some (.int v3), some (.int v4)], [.int v3], M)) rfl trivial ?_
      cases h
      exact am_R.ret rfl rfl trivial
    · refine am_R.bn rfl rfl hc ?_
      refine am_R.go 7 (q' := (26, [some (.ref 0), some (.int v1), some (.int v2), some (.int v3), some (.int v4)], [.int 1, .int ((v1 >>> (v4 &&& 31)) &&& 1), .int v3], M)) rfl trivial ?_
      rcases am_it h with ⟨hc, h⟩ | ⟨hc, h⟩
      · refine am_R.bn rfl rfl (fun q => q hc) ?_
        obtain ⟨hC, h⟩ := am_gd h
        refine am_R.go 11 (q' := (5, [some (.ref 0), some (.int v1), some (.int v2), some (.int (v3 + (M 24 ((v2 - v4).toNatClampNeg)))), some (.int (v4 + 1))], [], M)) rfl ⟨hC, trivial⟩ ?_
        exact hk5 (v3 + (M 24 ((v2 - v4).toNatClampNeg))) (v4 + 1) _ h
      · refine am_R.bt rfl rfl hc ?_
        refine am_R.go 5 (q' := (5, [some (.ref 0), some (.int v1), some (.int v2), some (.int (v3 + 0)), some (.int (v4 + 1))], [], M)) rfl trivial ?_
        exact hk5 (v3 + 0) (v4 + 1) _ h
set_option maxRecDepth 100000 in
theorem t_X10_heardAt_5 (z : Value) (N : Nat) (v1 : Int32) (v2 : Int32) {r : Except Nat (Option Value)} {M' : am_M} : ∀ (n : Nat) (v3 : Int32) (v4 : Int32) (M : am_M), f_X10_heardAt_5 N v1 v2 n v3 v4 M = some (r, M') → mR z me_X10_heardAt (5, [some (.ref 0), some (.int v1), some (.int v2), some (.int v3), some (.int v4)], [], M) r M' := by
  intro n
  induction n with
  | zero => intro v3 v4 M h; cases h
  | succ n ih => intro v3 v4 M h; exact t_X10_heardAt_5B z N v1 v2 _ ih v3 v4 M h
def f_X10_heardAt (N : Nat) (p1 : Int32) (p2 : Int32) (M : am_M) : Option (Except Nat (Option Value) × am_M) :=
  f_X10_heardAt_5 N p1 p2 N 0 0 M
set_option maxRecDepth 100000 in
theorem t_X10_heardAt (z : Value) (N : Nat) (p1 : Int32) (p2 : Int32) (M : am_M) {r : Except Nat (Option Value)} {M' : am_M} (h : f_X10_heardAt N p1 p2 M = some (r, M')) : mR z me_X10_heardAt (0, [some (.ref 0), some (.int p1), some (.int p2), none, none], [], M) r M' := by
  unfold f_X10_heardAt at h
  refine am_R.go 4 (q' := (5, [some (.ref 0), some (.int p1), some (.int p2), some (.int 0), some (.int 0)], [], M)) rfl trivial ?_
  exact t_X10_heardAt_5 z N p1 p2 N 0 0 _ h
def f_X10_heard_39 (N : Nat) (v1 : Int32) (v2 : Int32) (v3 : Int32) (v4 : Int32) (s0 : Int32) (M : am_M) : Option (Except Nat (Option Value) × am_M) :=
  am_bi (f_X10_may N s0 2 2 M) fun r41 M41 =>
    if r41 = 0 then
      some (.ok (some (.int 0)), M41)
    else
      am_bv (f_X10_listens N ((10 * v2) + v1) M41) fun M56 =>
        am_bi (f_X10_heardAt N v3 v4 M56) fun r63 M63 =>
          some (.ok (some (.int r63)), M63)
set_option maxRecDepth 100000 in
theorem t_X10_heard_39 (z : Value) (N : Nat) {r : Except Nat (Option Value)} {M' : am_M} (v1 : Int32) (v2 : Int32) (v3 : Int32) (v4 : Int32) (s0 : Int32) (M : am_M) (h : f_X10_heard_39 N v1 v2 v3 v4 s0 M = some (r, M')) : mR z me_X10_heard (39, [some (.ref 0), some (.int v1), some (.int v2), some (.int v3), some (.int v4)], [.int s0, .ref 0], M) r M' := by
  unfold f_X10_heard_39 at h
  refine am_R.go 2 (q' := (41, [some (.ref 0), some (.int v1), some (.int v2), some (.int v3), some (.int v4)], [.int 2, .int 2, .int s0, .ref 0], M)) rfl trivial ?_
  obtain ⟨r41, M41, hz, h⟩ := am_bi_s h
  refine am_R.call (e' := me_X10_may) (as := [.ref 0, .int s0, .int 2, .int 2]) (rest := []) rfl rfl (Nat.le_of_ble_eq_true rfl) (t_X10_may z N s0 2 2 _ hz) ?_
  rcases am_it h with ⟨hc, h⟩ | ⟨hc, h⟩
  · refine am_R.cn rfl rfl (fun q => q hc) ?_
    refine am_R.go 1 (q' := (48, [some (.ref 0), some (.int v1), some (.int v2), some (.int v3), some (.int v4)], [.int 0], M41)) rfl trivial ?_
    cases h
    exact am_R.ret rfl rfl trivial
  · refine am_R.ct rfl rfl hc ?_
    refine am_R.go 6 (q' := (56, [some (.ref 0), some (.int v1), some (.int v2), some (.int v3), some (.int v4)], [.int ((10 * v2) + v1), .ref 0], M41)) rfl trivial ?_
    obtain ⟨M56, hz, h⟩ := am_bv_s h
    refine am_R.call (e' := me_X10_listens) (as := [.ref 0, .int ((10 * v2) + v1)]) (rest := []) rfl rfl (Nat.le_of_ble_eq_true rfl) (t_X10_listens z N ((10 * v2) + v1) _ hz) ?_
    refine am_R.go 3 (q' := (63, [some (.ref 0), some (.int v1), some (.int v2), some (.int v3), some (.int v4)], [.int v4, .int v3, .ref 0], M56)) rfl trivial ?_
    obtain ⟨r63, M63, hz, h⟩ := am_bi_s h
    refine am_R.call (e' := me_X10_heardAt) (as := [.ref 0, .int v3, .int v4]) (rest := []) rfl rfl (Nat.le_of_ble_eq_true rfl) (t_X10_heardAt z N v3 v4 _ hz) ?_
    cases h
    exact am_R.ret rfl rfl trivial
def f_X10_heard_38 (N : Nat) (v1 : Int32) (v2 : Int32) (v3 : Int32) (v4 : Int32) (M : am_M) : Option (Except Nat (Option Value) × am_M) :=
  f_X10_heard_39 N v1 v2 v3 v4 0 M
set_option maxRecDepth 100000 in
theorem t_X10_heard_38 (z : Value) (N : Nat) {r : Except Nat (Option Value)} {M' : am_M} (v1 : Int32) (v2 : Int32) (v3 : Int32) (v4 : Int32) (M : am_M) (h : f_X10_heard_38 N v1 v2 v3 v4 M = some (r, M')) : mR z me_X10_heard (38, [some (.ref 0), some (.int v1), some (.int v2), some (.int v3), some (.int v4)], [.ref 0], M) r M' := by
  unfold f_X10_heard_38 at h
  refine am_R.go 1 (q' := (39, [some (.ref 0), some (.int v1), some (.int v2), some (.int v3), some (.int v4)], [.int 0, .ref 0], M)) rfl trivial ?_
  exact t_X10_heard_39 z N v1 v2 v3 v4 0 _ h
def f_X10_heard (N : Nat) (p1 : Int32) (p2 : Int32) (p3 : Int32) (p4 : Int32) (M : am_M) : Option (Except Nat (Option Value) × am_M) :=
  am_bi (f_X10_isCell N p1 p2 1 (am_up M 0 0 0)) fun r9 M9 =>
    if r9 = 0 then
      some (.ok (some (.int 0)), M9)
    else
      am_bi (f_X10_areNotes N p3 M9) fun r17 M17 =>
        if r17 = 0 then
          f_X10_heard_38 N p1 p2 p3 p4 M17
        else
          am_bi (f_X10_within N p4 0 99 M17) fun r28 M28 =>
            if r28 = 0 then
              f_X10_heard_38 N p1 p2 p3 p4 M28
            else
              f_X10_heard_39 N p1 p2 p3 p4 1 M28
set_option maxRecDepth 100000 in
theorem t_X10_heard (z : Value) (N : Nat) (p1 : Int32) (p2 : Int32) (p3 : Int32) (p4 : Int32) (M : am_M) {r : Except Nat (Option Value)} {M' : am_M} (h : f_X10_heard N p1 p2 p3 p4 M = some (r, M')) : mR z me_X10_heard (0, [some (.ref 0), some (.int p1), some (.int p2), some (.int p3), some (.int p4)], [], M) r M' := by
  unfold f_X10_heard at h
  refine am_R.go 7 (q' := (9, [some (.ref 0), some (.int p1), some (.int p2), some (.int p3), some (.int p4)], [.int 1, .int p2, .int p1, .ref 0], am_up M 0 0 0)) rfl trivial ?_
  obtain ⟨r9, M9, hz, h⟩ := am_bi_s h
  refine am_R.call (e' := me_X10_isCell) (as := [.ref 0, .int p1, .int p2, .int 1]) (rest := []) rfl rfl (Nat.le_of_ble_eq_true rfl) (t_X10_isCell z N p1 p2 1 _ hz) ?_
  rcases am_it h with ⟨hc, h⟩ | ⟨hc, h⟩
  · refine am_R.ct rfl rfl hc ?_
    refine am_R.go 1 (q' := (48, [some (.ref 0), some (.int p1), some (.int p2), some (.int p3), some (.int p4)], [.int 0], M9)) rfl trivial ?_
    cases h
    exact am_R.ret rfl rfl trivial
  · refine am_R.cn rfl rfl hc ?_
    refine am_R.go 2 (q' := (17, [some (.ref 0), some (.int p1), some (.int p2), some (.int p3), some (.int p4)], [.int p3, .ref 0], M9)) rfl trivial ?_
    obtain ⟨r17, M17, hz, h⟩ := am_bi_s h
    refine am_R.call (e' := me_X10_areNotes) (as := [.int p3]) (rest := [.ref 0]) rfl rfl (Nat.le_of_ble_eq_true rfl) (t_X10_areNotes z N p3 _ hz) ?_
    rcases am_it h with ⟨hc, h⟩ | ⟨hc, h⟩
    · refine am_R.ct rfl rfl hc ?_
      exact t_X10_heard_38 z N p1 p2 p3 p4 _ h
    · refine am_R.cn rfl rfl hc ?_
      refine am_R.go 3 (q' := (28, [some (.ref 0), some (.int p1), some (.int p2), some (.int p3), some (.int p4)], [.int 99, .int 0, .int p4, .ref 0], M17)) rfl trivial ?_
      obtain ⟨r28, M28, hz, h⟩ := am_bi_s h
      refine am_R.call (e' := me_X10_within) (as := [.int p4, .int 0, .int 99]) (rest := [.ref 0]) rfl rfl (Nat.le_of_ble_eq_true rfl) (t_X10_within z N p4 0 99 _ hz) ?_
      rcases am_it h with ⟨hc, h⟩ | ⟨hc, h⟩
      · refine am_R.ct rfl rfl hc ?_
        exact t_X10_heard_38 z N p1 p2 p3 p4 _ h
      · refine am_R.cn rfl rfl hc ?_
        refine am_R.go 2 (q' := (39, [some (.ref 0), some (.int p1), some (.int p2), some (.int p3), some (.int p4)], [.int 1, .ref 0], M28)) rfl trivial ?_
        exact t_X10_heard_39 z N p1 p2 p3 p4 1 _ h
def f_X10_findLoudest_12B (N : Nat) (v1 : Int32) (k12 : Int32 → am_M → Option (Except Nat (Option Value) × am_M)) (v2 : Int32) (M : am_M) : Option (Except Nat (Option Value) × am_M) :=
  if 100 ≤ v2 then
    some (.ok none, M)
  else
    am_bi (f_X10_heardAt N v1 v2 M) fun r21 M21 =>
      if (M21 0 58) < r21 then
        k12 (v2 + 1) (am_up (am_up M21 0 57 v2) 0 58 r21)
      else
        k12 (v2 + 1) M21
def f_X10_findLoudest_12 (N : Nat) (v1 : Int32) : Nat → Int32 → am_M → Option (Except Nat (Option Value) × am_M)
  | 0 => fun _ _ => none
  | n + 1 => f_X10_findLoudest_12B N v1 (f_X10_findLoudest_12 N v1 n)
set_option maxRecDepth 100000 in
theorem t_X10_findLoudest_12B (z : Value) (N : Nat) (v1 : Int32) {r : Except Nat (Option Value)} {M' : am_M} (k12 : Int32 → am_M → Option (Except Nat (Option Value) × am_M)) (hk12 : ∀ (v2 : Int32) (d3 : Option Value) (M : am_M), k12 v2 M = some (r, M') → mR z me_X10_findLoudest (12, [some (.ref 0), some (.int v1), some (.int v2), d3], [], M) r M') (v2 : Int32) (d3 : Option Value) (M : am_M) (h : f_X10_findLoudest_12B N v1 k12 v2 M = some (r, M')) : mR z me_X10_findLoudest (12, [some (.ref 0), some (.int v1), some (.int v2), d3], [], M) r M' := by
  unfold f_X10_findLoudest_12B at h
  refine am_R.go 2 (q' := (15, [some (.ref 0), some (.int v1), some (.int v2), d3], [.int 100, .int v2], M)) rfl trivial ?_
  rcases am_it h with ⟨hc, h⟩ | ⟨hc, h⟩
  · refine am_R.bt rfl rfl hc ?_
    cases h
    exact am_R.ret rfl rfl trivial
  · refine am_R.bn rfl rfl hc ?_
    refine am_R.go 3 (q' := (21, [some (.ref 0), some (.int v1), some (.int v2), d3], [.int v2, .int v1, .ref 0], M)) rfl trivial ?_
    obtain ⟨r21, M21, hz, h⟩ := am_bi_s h
    refine am_R.call (e' := me_X10_heardAt) (as := [.ref 0, .int v1, .int v2]) (rest := []) rfl rfl (Nat.le_of_ble_eq_true rfl) (t_X10_heardAt z N v1 v2 _ hz) ?_
    refine am_R.go 4 (q' := (30, [some (.ref 0), some (.int v1), some (.int v2), some (.int r21)], [.int (M21 0 58), .int r21], M21)) rfl trivial ?_
    rcases am_it h with ⟨hc, h⟩ | ⟨hc, h⟩
    · refine am_R.bt rfl rfl hc ?_
      refine am_R.go 8 (q' := (12, [some (.ref 0), some (.int v1), some (.int (v2 + 1)), some (.int r21)], [], am_up (am_up M21 0 57 v2) 0 58 r21)) rfl trivial ?_
      exact hk12 (v2 + 1) _ _ h
    · refine am_R.bn rfl rfl hc ?_
      refine am_R.go 3 (q' := (12, [some (.ref 0), some (.int v1), some (.int (v2 + 1)), some (.int r21)], [], M21)) rfl trivial ?_
      exact hk12 (v2 + 1) _ _ h
set_option maxRecDepth 100000 in
theorem t_X10_findLoudest_12 (z : Value) (N : Nat) (v1 : Int32) {r : Except Nat (Option Value)} {M' : am_M} : ∀ (n : Nat) (v2 : Int32) (d3 : Option Value) (M : am_M), f_X10_findLoudest_12 N v1 n v2 M = some (r, M') → mR z me_X10_findLoudest (12, [some (.ref 0), some (.int v1), some (.int v2), d3], [], M) r M' := by
  intro n
  induction n with
  | zero => intro v2 d3 M h; cases h
  | succ n ih => intro v2 d3 M h; exact t_X10_findLoudest_12B z N v1 _ ih v2 d3 M h
def f_X10_findLoudest (N : Nat) (p1 : Int32) (M : am_M) : Option (Except Nat (Option Value) × am_M) :=
  f_X10_findLoudest_12 N p1 N 0 (am_up (am_up M 0 57 0) 0 58 0)
set_option maxRecDepth 100000 in
theorem t_X10_findLoudest (z : Value) (N : Nat) (p1 : Int32) (M : am_M) {r : Except Nat (Option Value)} {M' : am_M} (h : f_X10_findLoudest N p1 M = some (r, M')) : mR z me_X10_findLoudest (0, [some (.ref 0), some (.int p1), none, none], [], M) r M' := by
  unfold f_X10_findLoudest at h
  refine am_R.go 8 (q' := (12, [some (.ref 0), some (.int p1), some (.int 0), none], [], am_up (am_up M 0 57 0) 0 58 0)) rfl trivial ?_
  exact t_X10_findLoudest_12 z N p1 N 0 _ _ h
def f_X10_loudest_38 (N : Nat) (v1 : Int32) (v2 : Int32) (v3 : Int32) (v4 : Int32) (s0 : Int32) (M : am_M) : Option (Except Nat (Option Value) × am_M) :=
  am_bi (f_X10_may N s0 2 2 M) fun r40 M40 =>
    if r40 = 0 then
      some (.ok (some (.int 0)), M40)
    else
      am_bv (f_X10_listens N ((10 * v2) + v1) M40) fun M55 =>
        am_bv (f_X10_findLoudest N v3 M55) fun M60 =>
          if v4 = 0 then
            some (.ok (some (.int (M60 0 58))), M60)
          else
            some (.ok (some (.int (M60 0 57))), M60)
set_option maxRecDepth 100000 in
theorem t_X10_loudest_38 (z : Value) (N : Nat) {r : Except Nat (Option Value)} {M' : am_M} (v1 : Int32) (v2 : Int32) (v3 : Int32) (v4 : Int32) (s0 : Int32) (M : am_M) (h : f_X10_loudest_38 N v1 v2 v3 v4 s0 M = some (r, M')) : mR z me_X10_loudest (38, [some (.ref 0), some (.int v1), some (.int v2), some (.int v3), some (.int v4)], [.int s0, .ref 0], M) r M' := by
  unfold f_X10_loudest_38 at h
  refine am_R.go 2 (q' := (40, [some (.ref 0), some (.int v1), some (.int v2), some (.int v3), some (.int v4)], [.int 2, .int 2, .int s0, .ref 0], M)) rfl trivial ?_
  obtain ⟨r40, M40, hz, h⟩ := am_bi_s h
  refine am_R.call (e' := me_X10_may) (as := [.ref 0, .int s0, .int 2, .int 2]) (rest := []) rfl rfl (Nat.le_of_ble_eq_true rfl) (t_X10_may z N s0 2 2 _ hz) ?_
  rcases am_it h with ⟨hc, h⟩ | ⟨hc, h⟩
  · refine am_R.cn rfl rfl (fun q => q hc) ?_
    refine am_R.go 1 (q' := (47, [some (.ref 0), some (.int v1), some (.int v2), some (.int v3), some (.int v4)], [.int 0], M40)) rfl trivial ?_
    cases h
    exact am_R.ret rfl rfl trivial
  · refine am_R.ct rfl rfl hc ?_
    refine am_R.go 6 (q' := (55, [some (.ref 0), some (.int v1), some (.int v2), some (.int v3), some (.int v4)], [.int ((10 * v2) + v1), .ref 0], M40)) rfl trivial ?_
    obtain ⟨M55, hz, h⟩ := am_bv_s h
    refine am_R.call (e' := me_X10_listens) (as := [.ref 0, .int ((10 * v2) + v1)]) (rest := []) rfl rfl (Nat.le_of_ble_eq_true rfl) (t_X10_listens z N ((10 * v2) + v1) _ hz) ?_
    refine am_R.go 2 (q' := (60, [some (.ref 0), some (.int v1), some (.int v2), some (.int v3), some (.int v4)], [.int v3, .ref 0], M55)) rfl trivial ?_
    obtain ⟨M60, hz, h⟩ := am_bv_s h
    refine am_R.call (e' := me_X10_findLoudest) (as := [.ref 0, .int v3]) (rest := []) rfl rfl (Nat.le_of_ble_eq_true rfl) (t_X10_findLoudest z N v3 _ hz) ?_
    refine am_R.go 1 (q' := (65, [some (.ref 0), some (.int v1), some (.int v2), some (.int v3), some (.int v4)], [.int v4], M60)) rfl trivial ?_
    rcases am_it h with ⟨hc, h⟩ | ⟨hc, h⟩
    · refine am_R.cn rfl rfl (fun q => q hc) ?_
      refine am_R.go 3 (q' := (79, [some (.ref 0), some (.int v1), some (.int v2), some (.int v3), some (.int v4)], [.int (M60 0 58)], M60)) rfl trivial ?_
      cases h
      exact am_R.ret rfl rfl trivial
    · refine am_R.ct rfl rfl hc ?_
      refine am_R.go 2 (q' := (79, [some (.ref 0), some (.int v1), some (.int v2), some (.int v3), some (.int v4)], [.int (M60 0 57)], M60)) rfl trivial ?_
      cases h
      exact am_R.ret rfl rfl trivial
def f_X10_loudest_37 (N : Nat) (v1 : Int32) (v2 : Int32) (v3 : Int32) (v4 : Int32) (M : am_M) : Option (Except Nat (Option Value) × am_M) :=
  f_X10_loudest_38 N v1 v2 v3 v4 0 M
set_option maxRecDepth 100000 in
theorem t_X10_loudest_37 (z : Value) (N : Nat) {r : Except Nat (Option Value)} {M' : am_M} (v1 : Int32) (v2 : Int32) (v3 : Int32) (v4 : Int32) (M : am_M) (h : f_X10_loudest_37 N v1 v2 v3 v4 M = some (r, M')) : mR z me_X10_loudest (37, [some (.ref 0), some (.int v1), some (.int v2), some (.int v3), some (.int v4)], [.ref 0], M) r M' := by
  unfold f_X10_loudest_37 at h
  refine am_R.go 1 (q' := (38, [some (.ref 0), some (.int v1), some (.int v2), some (.int v3), some (.int v4)], [.int 0, .ref 0], M)) rfl trivial ?_
  exact t_X10_loudest_38 z N v1 v2 v3 v4 0 _ h
def f_X10_loudest (N : Nat) (p1 : Int32) (p2 : Int32) (p3 : Int32) (p4 : Int32) (M : am_M) : Option (Except Nat (Option Value) × am_M) :=
  am_bi (f_X10_isCell N p1 p2 1 (am_up M 0 0 0)) fun r9 M9 =>
    if r9 = 0 then
      some (.ok (some (.int 0)), M9)
    else
      am_bi (f_X10_areNotes N p3 M9) fun r17 M17 =>
        if r17 = 0 then
          f_X10_loudest_37 N p1 p2 p3 p4 M17
        else
          am_bi (f_X10_within N p4 0 1 M17) fun r27 M27 =>
            if r27 = 0 then
              f_X10_loudest_37 N p1 p2 p3 p4 M27
            else
              f_X10_loudest_38 N p1 p2 p3 p4 1 M27
set_option maxRecDepth 100000 in
theorem t_X10_loudest (z : Value) (N : Nat) (p1 : Int32) (p2 : Int32) (p3 : Int32) (p4 : Int32) (M : am_M) {r : Except Nat (Option Value)} {M' : am_M} (h : f_X10_loudest N p1 p2 p3 p4 M = some (r, M')) : mR z me_X10_loudest (0, [some (.ref 0), some (.int p1), some (.int p2), some (.int p3), some (.int p4)], [], M) r M' := by
  unfold f_X10_loudest at h
  refine am_R.go 7 (q' := (9, [some (.ref 0), some (.int p1), some (.int p2), some (.int p3), some (.int p4)], [.int 1, .int p2, .int p1, .ref 0], am_up M 0 0 0)) rfl trivial ?_
  obtain ⟨r9, M9, hz, h⟩ := am_bi_s h
  refine am_R.call (e' := me_X10_isCell) (as := [.ref 0, .int p1, .int p2, .int 1]) (rest := []) rfl rfl (Nat.le_of_ble_eq_true rfl) (t_X10_isCell z N p1 p2 1 _ hz) ?_
  rcases am_it h with ⟨hc, h⟩ | ⟨hc, h⟩
  · refine am_R.ct rfl rfl hc ?_
    refine am_R.go 1 (q' := (47, [some (.ref 0), some (.int p1), some (.int p2), some (.int p3), some (.int p4)], [.int 0], M9)) rfl trivial ?_
    cases h
    exact am_R.ret rfl rfl trivial
  · refine am_R.cn rfl rfl hc ?_
    refine am_R.go 2 (q' := (17, [some (.ref 0), some (.int p1), some (.int p2), some (.int p3), some (.int p4)], [.int p3, .ref 0], M9)) rfl trivial ?_
    obtain ⟨r17, M17, hz, h⟩ := am_bi_s h
    refine am_R.call (e' := me_X10_areNotes) (as := [.int p3]) (rest := [.ref 0]) rfl rfl (Nat.le_of_ble_eq_true rfl) (t_X10_areNotes z N p3 _ hz) ?_
    rcases am_it h with ⟨hc, h⟩ | ⟨hc, h⟩
    · refine am_R.ct rfl rfl hc ?_
      exact t_X10_loudest_37 z N p1 p2 p3 p4 _ h
    · refine am_R.cn rfl rfl hc ?_
      refine am_R.go 3 (q' := (27, [some (.ref 0), some (.int p1), some (.int p2), some (.int p3), some (.int p4)], [.int 1, .int 0, .int p4, .ref 0], M17)) rfl trivial ?_
      obtain ⟨r27, M27, hz, h⟩ := am_bi_s h
      refine am_R.call (e' := me_X10_within) (as := [.int p4, .int 0, .int 1]) (rest := [.ref 0]) rfl rfl (Nat.le_of_ble_eq_true rfl) (t_X10_within z N p4 0 1 _ hz) ?_
      rcases am_it h with ⟨hc, h⟩ | ⟨hc, h⟩
      · refine am_R.ct rfl rfl hc ?_
        exact t_X10_loudest_37 z N p1 p2 p3 p4 _ h
      · refine am_R.cn rfl rfl hc ?_
        refine am_R.go 2 (q' := (38, [some (.ref 0), some (.int p1), some (.int p2), some (.int p3), some (.int p4)], [.int 1, .ref 0], M27)) rfl trivial ?_
        exact t_X10_loudest_38 z N p1 p2 p3 p4 1 _ h
def f_X10_ones_4B (N : Nat) (k4 : Int32 → Int32 → am_M → Option (Except Nat (Option Value) × am_M)) (v1 : Int32) (v2 : Int32) (M : am_M) : Option (Except Nat (Option Value) × am_M) :=
  if v2 = 0 then
    some (.ok (some (.int v1)), M)
  else
    k4 (v1 + 1) (v2 &&& (v2 - 1)) M
def f_X10_ones_4 (N : Nat) : Nat → Int32 → Int32 → am_M → Option (Except Nat (Option Value) × am_M)
  | 0 => fun _ _ _ => none
  | n + 1 => f_X10_ones_4B N (f_X10_ones_4 N n)
set_option maxRecDepth 100000 in
theorem t_X10_ones_4B (z : Value) (N : Nat) {r : Except Nat (Option Value)} {M' : am_M} (k4 : Int32 → Int32 → am_M → Option (Except Nat (Option Value) × am_M)) (hk4 : ∀ (v1 : Int32) (v2 : Int32) (d0 : Option Value) (M : am_M), k4 v1 v2 M = some (r, M') → mR z me_X10_ones (4, [d0, some (.int v1), some (.int v2)], [], M) r M') (v1 : Int32) (v2 : Int32) (d0 : Option Value) (M : am_M) (h : f_X10_ones_4B N k4 v1 v2 M = some (r, M')) : mR z me_X10_ones (4, [d0, some (.int v1), some (.int v2)], [], M) r M' := by
  unfold f_X10_ones_4B at h
  refine am_R.go 1 (q' := (5, [d0, some (.int v1), some (.int v2)], [.int v2], M)) rfl trivial ?_
  rcases am_it h with ⟨hc, h⟩ | ⟨hc, h⟩
  · refine am_R.ct rfl rfl hc ?_
    refine am_R.go 1 (q' := (21, [d0, some (.int v1), some (.int v2)], [.int v1], M)) rfl trivial ?_
    cases h
    exact am_R.ret rfl rfl trivial
  · refine am_R.cn rfl rfl hc ?_
    refine am_R.go 8 (q' := (4, [d0, some (.int (v1 + 1)), some (.int (v2 &&& (v2 - 1)))], [], M)) rfl trivial ?_
    exact hk4 (v1 + 1) (v2 &&& (v2 - 1)) _ _ h
set_option maxRecDepth 100000 in
theorem t_X10_ones_4 (z : Value) (N : Nat) {r : Except Nat (Option Value)} {M' : am_M} : ∀ (n : Nat) (v1 : Int32) (v2 : Int32) (d0 : Option Value) (M : am_M), f_X10_ones_4 N n v1 v2 M = some (r, M') → mR z me_X10_ones (4, [d0, some (.int v1), some (.int v2)], [], M) r M' := by
  intro n
  induction n with
  | zero => intro v1 v2 d0 M h; cases h
  | succ n ih => intro v1 v2 d0 M h; exact t_X10_ones_4B z N _ ih v1 v2 d0 M h
def f_X10_ones (N : Nat) (p0 : Int32) (M : am_M) : Option (Except Nat (Option Value) × am_M) :=
  f_X10_ones_4 N N 0 p0 M
set_option maxRecDepth 100000 in
theorem t_X10_ones (z : Value) (N : Nat) (p0 : Int32) (M : am_M) {r : Except Nat (Option Value)} {M' : am_M} (h : f_X10_ones N p0 M = some (r, M')) : mR z me_X10_ones (0, [some (.int p0), none, none], [], M) r M' := by
  unfold f_X10_ones at h
  refine am_R.go 4 (q' := (4, [some (.int p0), some (.int 0), some (.int p0)], [], M)) rfl trivial ?_
  exact t_X10_ones_4 z N N 0 p0 _ _ h
def f_X10_compose_96 (N : Nat) (k52 : Int32 → Int32 → Int32 → am_M → Option (Except Nat (Option Value) × am_M)) (v3 : Int32) (v6 : Int32) (M : am_M) : Option (Except Nat (Option Value) × am_M) :=
  k52 v6 (M 0 58) (v6 + 1) M
set_option maxRecDepth 100000 in
theorem t_X10_compose_96 (z : Value) (N : Nat) (k52 : Int32 → Int32 → Int32 → am_M → Option (Except Nat (Option Value) × am_M)) {r : Except Nat (Option Value)} {M' : am_M} (v3 : Int32) (v6 : Int32) (d1 : Option Value) (d2 : Option Value) (d4 : Option Value) (d5 : Option Value) (M : am_M) (hk52 : ∀ (v4 : Int32) (v5 : Int32) (v6 : Int32) (d1 : Option Value) (d2 : Option Value) (M : am_M), k52 v4 v5 v6 M = some (r, M') → mR z me_X10_compose (52, [some (.ref 0), d1, d2, some (.int v3), some (.int v4), some (.int v5), some (.int v6)], [], M) r M') (h : f_X10_compose_96 N k52 v3 v6 M = some (r, M')) : mR z me_X10_compose (96, [some (.ref 0), d1, d2, some (.int v3), d4, d5, some (.int v6)], [], M) r M' := by
  unfold f_X10_compose_96 at h
  refine am_R.go 7 (q' := (52, [some (.ref 0), d1, d2, some (.int v3), some (.int v6), some (.int (M 0 58)), some (.int (v6 + 1))], [], M)) rfl trivial ?_
  exact hk52 v6 (M 0 58) (v6 + 1) _ _ _ h
def f_X10_compose_52B (N : Nat) (v3 : Int32) (k52 : Int32 → Int32 → Int32 → am_M → Option (Except Nat (Option Value) × am_M)) (v4 : Int32) (v5 : Int32) (v6 : Int32) (M : am_M) : Option (Except Nat (Option Value) × am_M) :=
  if 4096 ≤ v6 then
    some (.ok (some (.int v4)), M)
  else
    am_bi (f_X10_ones N v6 M) fun r62 M62 =>
      if r62 = v3 then
        am_bv (f_X10_findLoudest N v6 M62) fun M75 =>
          if v4 = (-1) then
            f_X10_compose_96 N k52 v3 v6 M75
          else
            if v5 < (M75 0 58) then
              f_X10_compose_96 N k52 v3 v6 M75
            else
              k52 v4 v5 (v6 + 1) M75
      else
        k52 v4 v5 (v6 + 1) M62
def f_X10_compose_52 (N : Nat) (v3 : Int32) : Nat → Int32 → Int32 → Int32 → am_M → Option (Except Nat (Option Value) × am_M)
  | 0 => fun _ _ _ _ => none
  | n + 1 => f_X10_compose_52B N v3 (f_X10_compose_52 N v3 n)
set_option maxRecDepth 100000 in
theorem t_X10_compose_52B (z : Value) (N : Nat) (v3 : Int32) {r : Except Nat (Option Value)} {M' : am_M} (k52 : Int32 → Int32 → Int32 → am_M → Option (Except Nat (Option Value) × am_M)) (hk52 : ∀ (v4 : Int32) (v5 : Int32) (v6 : Int32) (d1 : Option Value) (d2 : Option Value) (M : am_M), k52 v4 v5 v6 M = some (r, M') → mR z me_X10_compose (52, [some (.ref 0), d1, d2, some (.int v3), some (.int v4), some (.int v5), some (.int v6)], [], M) r M') (v4 : Int32) (v5 : Int32) (v6 : Int32) (d1 : Option Value) (d2 : Option Value) (M : am_M) (h : f_X10_compose_52B N v3 k52 v4 v5 v6 M = some (r, M')) : mR z me_X10_compose (52, [some (.ref 0), d1, d2, some (.int v3), some (.int v4), some (.int v5), some (.int v6)], [], M) r M' := by
  unfold f_X10_compose_52B at h
  refine am_R.go 2 (q' := (57, [some (.ref 0), d1, d2, some (.int v3), some (.int v4), some (.int v5), some (.int v6)], [.int 4096, .int v6], M)) rfl trivial ?_
  rcases am_it h with ⟨hc, h⟩ | ⟨hc, h⟩
  · refine am_R.bt rfl rfl hc ?_
    refine am_R.go 1 (q' := (114, [some (.ref 0), d1, d2, some (.int v3), some (.int v4), some (.int v5), some (.int v6)], [.int v4], M)) rfl trivial ?_
    cases h
    exact am_R.ret rfl rfl trivial
  · refine am_R.bn rfl rfl hc ?_
    refine am_R.go 1 (q' := (62, [some (.ref 0), d1, d2, some (.int v3), some (.int v4), some (.int v5), some (.int v6)], [.int v6], M)) rfl trivial ?_
    obtain ⟨r62, M62, hz, h⟩ := am_bi_s h
    refine am_R.call (e' := me_X10_ones) (as := [.int v6]) (rest := []) rfl rfl (Nat.le_of_ble_eq_true rfl) (t_X10_ones z N v6 _ hz) ?_
    refine am_R.go 1 (q' := (66, [some (.ref 0), d1, d2, some (.int v3), some (.int v4), some (.int v5), some (.int v6)], [.int v3, .int r62], M62)) rfl trivial ?_
    rcases am_it h with ⟨hc, h⟩ | ⟨hc, h⟩
    · refine am_R.bt rfl rfl hc ?_
      refine am_R.go 2 (q' := (75, [some (.ref 0), d1, d2, some (.int v3), some (.int v4), some (.int v5), some (.int v6)], [.int v6, .ref 0], M62)) rfl trivial ?_
      obtain ⟨M75, hz, h⟩ := am_bv_s h
      refine am_R.call (e' := me_X10_findLoudest) (as := [.ref 0, .int v6]) (rest := []) rfl rfl (Nat.le_of_ble_eq_true rfl) (t_X10_findLoudest z N v6 _ hz) ?_
      refine am_R.go 2 (q' := (81, [some (.ref 0), d1, d2, some (.int v3), some (.int v4), some (.int v5), some (.int v6)], [.int (-1), .int v4], M75)) rfl trivial ?_
      rcases am_it h with ⟨hc, h⟩ | ⟨hc, h⟩
      · refine am_R.bt rfl rfl hc ?_
        exact t_X10_compose_96 z N k52 v3 v6 _ _ _ _ _ hk52 h
      · refine am_R.bn rfl rfl hc ?_
        refine am_R.go 3 (q' := (90, [some (.ref 0), d1, d2, some (.int v3), some (.int v4), some (.int v5), some (.int v6)], [.int v5, .int (M75 0 58)], M75)) rfl trivial ?_
        rcases am_it h with ⟨hc, h⟩ | ⟨hc, h⟩
        · refine am_R.bt rfl rfl hc ?_
          exact t_X10_compose_96 z N k52 v3 v6 _ _ _ _ _ hk52 h
        · refine am_R.bn rfl rfl hc ?_
          refine am_R.go 3 (q' := (52, [some (.ref 0), d1, d2, some (.int v3), some (.int v4), some (.int v5), some (.int (v6 + 1))], [], M75)) rfl trivial ?_
          exact hk52 v4 v5 (v6 + 1) _ _ _ h
    · refine am_R.bn rfl rfl hc ?_
      refine am_R.go 3 (q' := (52, [some (.ref 0), d1, d2, some (.int v3), some (.int v4), some (.int v5), some (.int (v6 + 1))], [], M62)) rfl trivial ?_
      exact hk52 v4 v5 (v6 + 1) _ _ _ h
set_option maxRecDepth 100000 in
theorem t_X10_compose_52 (z : Value) (N : Nat) (v3 : Int32) {r : Except Nat (Option Value)} {M' : am_M} : ∀ (n : Nat) (v4 : Int32) (v5 : Int32) (v6 : Int32) (d1 : Option Value) (d2 : Option Value) (M : am_M), f_X10_compose_52 N v3 n v4 v5 v6 M = some (r, M') → mR z me_X10_compose (52, [some (.ref 0), d1, d2, some (.int v3), some (.int v4), some (.int v5), some (.int v6)], [], M) r M' := by
  intro n
  induction n with
  | zero => intro v4 v5 v6 d1 d2 M h; cases h
  | succ n ih => intro v4 v5 v6 d1 d2 M h; exact t_X10_compose_52B z N v3 _ ih v4 v5 v6 d1 d2 M h
def f_X10_compose (N : Nat) (p1 : Int32) (p2 : Int32) (p3 : Int32) (M : am_M) : Option (Except Nat (Option Value) × am_M) :=
  am_bi (f_X10_isCell N p1 p2 1 (am_up M 0 0 0)) fun r9 M9 =>
    if r9 = 0 then
      some (.ok (some (.int 0)), M9)
    else
      am_bi (f_X10_within N p3 1 12 M9) fun r20 M20 =>
        am_bi (f_X10_may N r20 2 2 M20) fun r25 M25 =>
          if r25 = 0 then
            some (.ok (some (.int 0)), M25)
          else
            am_bv (f_X10_listens N ((10 * p2) + p1) M25) fun M40 =>
              f_X10_compose_52 N p3 N (-1) 0 0 M40
set_option maxRecDepth 100000 in
theorem t_X10_compose (z : Value) (N : Nat) (p1 : Int32) (p2 : Int32) (p3 : Int32) (M : am_M) {r : Except Nat (Option Value)} {M' : am_M} (h : f_X10_compose N p1 p2 p3 M = some (r, M')) : mR z me_X10_compose (0, [some (.ref 0), some (.int p1), some (.int p2), some (.int p3), none, none, none], [], M) r M' := by
  unfold f_X10_compose at h
  refine am_R.go 7 (q' := (9, [some (.ref 0), some (.int p1), some (.int p2), some (.int p3), none, none, none], [.int 1, .int p2, .int p1, .ref 0], am_up M 0 0 0)) rfl trivial ?_
  obtain ⟨r9, M9, hz, h⟩ := am_bi_s h
  refine am_R.call (e' := me_X10_isCell) (as := [.ref 0, .int p1, .int p2, .int 1]) (rest := []) rfl rfl (Nat.le_of_ble_eq_true rfl) (t_X10_isCell z N p1 p2 1 _ hz) ?_
  rcases am_it h with ⟨hc, h⟩ | ⟨hc, h⟩
  · refine am_R.ct rfl rfl hc ?_
    refine am_R.go 1 (q' := (32, [some (.ref 0), some (.int p1), some (.int p2), some (.int p3), none, none, none], [.int 0], M9)) rfl trivial ?_
    cases h
    exact am_R.ret rfl rfl trivial
  · refine am_R.cn rfl rfl hc ?_
    refine am_R.go 4 (q' := (20, [some (.ref 0), some (.int p1), some (.int p2), some (.int p3), none, none, none], [.int 12, .int 1, .int p3, .ref 0], M9)) rfl trivial ?_
    obtain ⟨r20, M20, hz, h⟩ := am_bi_s h
    refine am_R.call (e' := me_X10_within) (as := [.int p3, .int 1, .int 12]) (rest := [.ref 0]) rfl rfl (Nat.le_of_ble_eq_true rfl) (t_X10_within z N p3 1 12 _ hz) ?_
    refine am_R.go 2 (q' := (25, [some (.ref 0), some (.int p1), some (.int p2), some (.int p3), none, none, none], [.int 2, .int 2, .int r20, .ref 0], M20)) rfl trivial ?_
    obtain ⟨r25, M25, hz, h⟩ := am_bi_s h
    refine am_R.call (e' := me_X10_may) (as := [.ref 0, .int r20, .int 2, .int 2]) (rest := []) rfl rfl (Nat.le_of_ble_eq_true rfl) (t_X10_may z N r20 2 2 _ hz) ?_
    rcases am_it h with ⟨hc, h⟩ | ⟨hc, h⟩
    · refine am_R.cn rfl rfl (fun q => q hc) ?_
      refine am_R.go 1 (q' := (32, [some (.ref 0), some (.int p1), some (.int p2), some (.int p3), none, none, none], [.int 0], M25)) rfl trivial ?_
      cases h
      exact am_R.ret rfl rfl trivial
    · refine am_R.ct rfl rfl hc ?_
      refine am_R.go 6 (q' := (40, [some (.ref 0), some (.int p1), some (.int p2), some (.int p3), none, none, none], [.int ((10 * p2) + p1), .ref 0], M25)) rfl trivial ?_
      obtain ⟨M40, hz, h⟩ := am_bv_s h
      refine am_R.call (e' := me_X10_listens) (as := [.ref 0, .int ((10 * p2) + p1)]) (rest := []) rfl rfl (Nat.le_of_ble_eq_true rfl) (t_X10_listens z N ((10 * p2) + p1) _ hz) ?_
      refine am_R.go 6 (q' := (52, [some (.ref 0), some (.int p1), some (.int p2), some (.int p3), some (.int (-1)), some (.int 0), some (.int 0)], [], M40)) rfl trivial ?_
      exact t_X10_compose_52 z N p3 N (-1) 0 0 _ _ _ h
def f_X10_book_42 (N : Nat) (v1 : Int32) (v2 : Int32) (v3 : Int32) (v4 : Int32) (s0 : Int32) (M : am_M) : Option (Except Nat (Option Value) × am_M) :=
  am_bi (f_X10_may N s0 2 2 M) fun r44 M44 =>
    if r44 = 0 then
      some (.ok (some (.int 0)), M44)
    else
      if (M44 0 60) = 9 then
        some (.ok (some (.int (-1))), M44)
      else
        if am_in (3 * (M44 0 60)) 27 ∧ am_in ((3 * (M44 0 60)) + 1) 27 ∧ am_in ((3 * (M44 0 60)) + 2) 27 then
          some (.ok (some (.int ((M44 0 60) + 1))), am_up (am_up (am_up (am_up M44 25 ((3 * (M44 0 60)).toNatClampNeg) ((10 * v2) + v1)) 25 (((3 * (M44 0 60)) + 1).toNatClampNeg) v3) 25 (((3 * (M44 0 60)) + 2).toNatClampNeg) v4) 0 60 ((M44 0 60) + 1))
        else none
set_option maxRecDepth 100000 in
theorem t_X10_book_42 (z : Value) (N : Nat) {r : Except Nat (Option Value)} {M' : am_M} (v1 : Int32) (v2 : Int32) (v3 : Int32) (v4 : Int32) (s0 : Int32) (M : am_M) (h : f_X10_book_42 N v1 v2 v3 v4 s0 M = some (r, M')) : mR z me_X10_book (42, [some (.ref 0), some (.int v1), some (.int v2), some (.int v3), some (.int v4)], [.int s0, .ref 0], M) r M' := by
  unfold f_X10_book_42 at h
  refine am_R.go 2 (q' := (44, [some (.ref 0), some (.int v1), some (.int v2), some (.int v3), some (.int v4)], [.int 2, .int 2, .int s0, .ref 0], M)) rfl trivial ?_
  obtain ⟨r44, M44, hz, h⟩ := am_bi_s h
  refine am_R.call (e' := me_X10_may) (as := [.ref 0, .int s0, .int 2, .int 2]) (rest := []) rfl rfl (Nat.le_of_ble_eq_true rfl) (t_X10_may z N s0 2 2 _ hz) ?_
  rcases am_it h with ⟨hc, h⟩ | ⟨hc, h⟩
  · refine am_R.cn rfl rfl (fun q => q hc) ?_
    refine am_R.go 1 (q' := (51, [some (.ref 0), some (.int v1), some (.int v2), some (.int v3), some (.int v4)], [.int 0], M44)) rfl trivial ?_
    cases h
    exact am_R.ret rfl rfl trivial
  · refine am_R.ct rfl rfl hc ?_
    refine am_R.go 3 (q' := (58, [some (.ref 0), some (.int v1), some (.int v2), some (.int v3), some (.int v4)], [.int 9, .int (M44 0 60)], M44)) rfl trivial ?_
    rcases am_it h with ⟨hc, h⟩ | ⟨hc, h⟩
    · refine am_R.bn rfl rfl (fun q => q hc) ?_
      refine am_R.go 1 (q' := (62, [some (.ref 0), some (.int v1), some (.int v2), some (.int v3), some (.int v4)], [.int (-1)], M44)) rfl trivial ?_
      cases h
      exact am_R.ret rfl rfl trivial
    · refine am_R.bt rfl rfl hc ?_
      obtain ⟨hC, h⟩ := am_gd h
      refine am_R.go 40 (q' := (123, [some (.ref 0), some (.int v1), some (.int v2), some (.int v3), some (.int v4)], [.int ((M44 0 60) + 1)], am_up (am_up (am_up (am_up M44 25 ((3 * (M44 0 60)).toNatClampNeg) ((10 * v2) + v1)) 25 (((3 * (M44 0 60)) + 1).toNatClampNeg) v3) 25 (((3 * (M44 0 60)) + 2).toNatClampNeg) v4) 0 60 ((M44 0 60) + 1))) rfl ⟨hC.1, hC.2.1, hC.2.2, trivial⟩ ?_
      cases h
      exact am_R.ret rfl rfl trivial
def f_X10_book_41 (N : Nat) (v1 : Int32) (v2 : Int32) (v3 : Int32) (v4 : Int32) (M : am_M) : Option (Except Nat (Option Value) × am_M) :=
  f_X10_book_42 N v1 v2 v3 v4 0 M
set_option maxRecDepth 100000 in
theorem t_X10_book_41 (z : Value) (N : Nat) {r : Except Nat (Option Value)} {M' : am_M} (v1 : Int32) (v2 : Int32) (v3 : Int32) (v4 : Int32) (M : am_M) (h : f_X10_book_41 N v1 v2 v3 v4 M = some (r, M')) : mR z me_X10_book (41, [some (.ref 0), some (.int v1), some (.int v2), some (.int v3), some (.int v4)], [.ref 0], M) r M' := by
  unfold f_X10_book_41 at h
  refine am_R.go 1 (q' := (42, [some (.ref 0), some (.int v1), some (.int v2), some (.int v3), some (.int v4)], [.int 0, .ref 0], M)) rfl trivial ?_
  exact t_X10_book_42 z N v1 v2 v3 v4 0 _ h
def f_X10_book (N : Nat) (p1 : Int32) (p2 : Int32) (p3 : Int32) (p4 : Int32) (M : am_M) : Option (Except Nat (Option Value) × am_M) :=
  am_bi (f_X10_isCell N p1 p2 1 (am_up M 0 0 0)) fun r9 M9 =>
    if r9 = 0 then
      some (.ok (some (.int 0)), M9)
    else
      am_bi (f_X10_within N p3 1 99 M9) fun r20 M20 =>
        if r20 = 0 then
          f_X10_book_41 N p1 p2 p3 p4 M20
        else
          am_bi (f_X10_within N p4 0 24 M20) fun r31 M31 =>
            if r31 = 0 then
              f_X10_book_41 N p1 p2 p3 p4 M31
            else
              f_X10_book_42 N p1 p2 p3 p4 1 M31
set_option maxRecDepth 100000 in
theorem t_X10_book (z : Value) (N : Nat) (p1 : Int32) (p2 : Int32) (p3 : Int32) (p4 : Int32) (M : am_M) {r : Except Nat (Option Value)} {M' : am_M} (h : f_X10_book N p1 p2 p3 p4 M = some (r, M')) : mR z me_X10_book (0, [some (.ref 0), some (.int p1), some (.int p2), some (.int p3), some (.int p4)], [], M) r M' := by
  unfold f_X10_book at h
  refine am_R.go 7 (q' := (9, [some (.ref 0), some (.int p1), some (.int p2), some (.int p3), some (.int p4)], [.int 1, .int p2, .int p1, .ref 0], am_up M 0 0 0)) rfl trivial ?_
  obtain ⟨r9, M9, hz, h⟩ := am_bi_s h
  refine am_R.call (e' := me_X10_isCell) (as := [.ref 0, .int p1, .int p2, .int 1]) (rest := []) rfl rfl (Nat.le_of_ble_eq_true rfl) (t_X10_isCell z N p1 p2 1 _ hz) ?_
  rcases am_it h with ⟨hc, h⟩ | ⟨hc, h⟩
  · refine am_R.ct rfl rfl hc ?_
    refine am_R.go 1 (q' := (51, [some (.ref 0), some (.int p1), some (.int p2), some (.int p3), some (.int p4)], [.int 0], M9)) rfl trivial ?_
    cases h
    exact am_R.ret rfl rfl trivial
  · refine am_R.cn rfl rfl hc ?_
    refine am_R.go 4 (q' := (20, [some (.ref 0), some (.int p1), some (.int p2), some (.int p3), some (.int p4)], [.int 99, .int 1, .int p3, .ref 0], M9)) rfl trivial ?_
    obtain ⟨r20, M20, hz, h⟩ := am_bi_s h
    refine am_R.call (e' := me_X10_within) (as := [.int p3, .int 1, .int 99]) (rest := [.ref 0]) rfl rfl (Nat.le_of_ble_eq_true rfl) (t_X10_within z N p3 1 99 _ hz) ?_
    rcases am_it h with ⟨hc, h⟩ | ⟨hc, h⟩
    · refine am_R.ct rfl rfl hc ?_
      exact t_X10_book_41 z N p1 p2 p3 p4 _ h
    · refine am_R.cn rfl rfl hc ?_
      refine am_R.go 3 (q' := (31, [some (.ref 0), some (.int p1), some (.int p2), some (.int p3), some (.int p4)], [.int 24, .int 0, .int p4, .ref 0], M20)) rfl trivial ?_
      obtain ⟨r31, M31, hz, h⟩ := am_bi_s h
      refine am_R.call (e' := me_X10_within) (as := [.int p4, .int 0, .int 24]) (rest := [.ref 0]) rfl rfl (Nat.le_of_ble_eq_true rfl) (t_X10_within z N p4 0 24 _ hz) ?_
      rcases am_it h with ⟨hc, h⟩ | ⟨hc, h⟩
      · refine am_R.ct rfl rfl hc ?_
        exact t_X10_book_41 z N p1 p2 p3 p4 _ h
      · refine am_R.cn rfl rfl hc ?_
        refine am_R.go 2 (q' := (42, [some (.ref 0), some (.int p1), some (.int p2), some (.int p3), some (.int p4)], [.int 1, .ref 0], M31)) rfl trivial ?_
        exact t_X10_book_42 z N p1 p2 p3 p4 1 _ h
def f_X10_forget (N : Nat) (M : am_M) : Option (Except Nat (Option Value) × am_M) :=
  some (.ok (some (.int (M 0 60))), am_up (am_up M 0 0 0) 0 60 0)
set_option maxRecDepth 100000 in
theorem t_X10_forget (z : Value) (N : Nat) (M : am_M) {r : Except Nat (Option Value)} {M' : am_M} (h : f_X10_forget N M = some (r, M')) : mR z me_X10_forget (0, [some (.ref 0), none], [], M) r M' := by
  unfold f_X10_forget at h
  refine am_R.go 10 (q' := (16, [some (.ref 0), some (.int (M 0 60))], [.int (M 0 60)], am_up (am_up M 0 0 0) 0 60 0)) rfl trivial ?_
  cases h
  exact am_R.ret rfl rfl trivial
