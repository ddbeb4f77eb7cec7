def f_X10_valley_181 (N : Nat) (M : am_M) : Option (Except Nat (Option Value) × am_M) :=
  am_bi (f_X10_result N (M 0 27) M) fun r186 M186 =>
    if (M186 0 5) = (-1) then
      am_bv (f_X10_sets N M186) fun M199 =>
        some (.ok (some (.int r186)), M199)
    else
      some (.ok (some (.int r186)), M186)
set_option maxRecDepth 100000 in
theorem t_X10_valley_181 (z : Value) (N : Nat) {r : Except Nat (Option Value)} {M' : am_M} (d1 : Option Value) (d2 : Option Value) (d3 : Option Value) (M : am_M) (h : f_X10_valley_181 N M = some (r, M')) : mR z me_X10_valley (181, [some (.ref 0), d1, d2, d3], [], M) r M' := by
  unfold f_X10_valley_181 at h
  refine am_R.go 3 (q' := (186, [some (.ref 0), d1, d2, d3], [.int (M 0 27), .ref 0], M)) rfl trivial ?_
  obtain ⟨r186, M186, hz, h⟩ := am_bi_s h
  refine am_R.call (e' := me_X10_result) (as := [.ref 0, .int (M 0 27)]) (rest := []) rfl rfl (Nat.le_of_ble_eq_true rfl) (t_X10_result z N (M 0 27) _ hz) ?_
  refine am_R.go 4 (q' := (195, [some (.ref 0), d1, d2, some (.int r186)], [.int (-1), .int (M186 0 5)], M186)) rfl trivial ?_
  rcases am_it h with ⟨hc, h⟩ | ⟨hc, h⟩
  · refine am_R.bn rfl rfl (fun q => q hc) ?_
    refine am_R.go 1 (q' := (199, [some (.ref 0), d1, d2, some (.int r186)], [.ref 0], M186)) rfl trivial ?_
    obtain ⟨M199, hz, h⟩ := am_bv_s h
    refine am_R.call (e' := me_X10_sets) (as := [.ref 0]) (rest := []) rfl rfl (Nat.le_of_ble_eq_true rfl) (t_X10_sets z N _ hz) ?_
    refine am_R.go 1 (q' := (203, [some (.ref 0), d1, d2, some (.int r186)], [.int r186], M199)) rfl trivial ?_
    cases h
    exact am_R.ret rfl rfl trivial
  · refine am_R.bt rfl rfl hc ?_
    refine am_R.go 1 (q' := (203, [some (.ref 0), d1, d2, some (.int r186)], [.int r186], M186)) rfl trivial ?_
    cases h
    exact am_R.ret rfl rfl trivial
def f_X10_valley_169 (N : Nat) (k44 : Int32 → am_M → Option (Except Nat (Option Value) × am_M)) (v2 : Int32) (M : am_M) : Option (Except Nat (Option Value) × am_M) :=
  am_bv (f_X10_sign N 59 M) fun M172 =>
    k44 (v2 + 1) M172
set_option maxRecDepth 100000 in
theorem t_X10_valley_169 (z : Value) (N : Nat) (k44 : Int32 → am_M → Option (Except Nat (Option Value) × am_M)) {r : Except Nat (Option Value)} {M' : am_M} (v2 : Int32) (d1 : Option Value) (d3 : Option Value) (M : am_M) (hk44 : ∀ (v2 : Int32) (d1 : Option Value) (d3 : Option Value) (M : am_M), k44 v2 M = some (r, M') → mR z me_X10_valley (44, [some (.ref 0), d1, some (.int v2), d3], [], M) r M') (h : f_X10_valley_169 N k44 v2 M = some (r, M')) : mR z me_X10_valley (169, [some (.ref 0), d1, some (.int v2), d3], [], M) r M' := by
  unfold f_X10_valley_169 at h
  refine am_R.go 2 (q' := (172, [some (.ref 0), d1, some (.int v2), d3], [.int 59, .ref 0], M)) rfl trivial ?_
  obtain ⟨M172, hz, h⟩ := am_bv_s h
  refine am_R.call (e' := me_X10_sign) (as := [.ref 0, .int 59]) (rest := []) rfl rfl (Nat.le_of_ble_eq_true rfl) (t_X10_sign z N 59 _ hz) ?_
  refine am_R.go 2 (q' := (44, [some (.ref 0), d1, some (.int (v2 + 1)), d3], [], M172)) rfl trivial ?_
  exact hk44 (v2 + 1) _ _ _ h
def f_X10_valley_121 (N : Nat) (k44 : Int32 → am_M → Option (Except Nat (Option Value) × am_M)) (v2 : Int32) (v3 : Int32) (M : am_M) : Option (Except Nat (Option Value) × am_M) :=
  am_bi (f_X10_fine N M) fun r122 M122 =>
    if r122 = 0 then
      f_X10_valley_181 N M122
    else
      am_bv (f_X10_pass N M122) fun M132 =>
        if v2 = 0 then
          am_bi (f_X10_readNumber N 2 10 M132) fun r144 M144 =>
            am_bi (f_X10_readNumber N 2 10 (am_up M144 0 24 r144)) fun r155 M155 =>
              f_X10_valley_169 N k44 v2 (am_up M155 0 25 r155)
        else
          am_bv (f_X10_readOther N v3 M132) fun M166 =>
            f_X10_valley_169 N k44 v2 M166
set_option maxRecDepth 100000 in
theorem t_X10_valley_121 (z : Value) (N : Nat) (k44 : Int32 → am_M → Option (Except Nat (Option Value) × am_M)) {r : Except Nat (Option Value)} {M' : am_M} (v2 : Int32) (v3 : Int32) (d1 : Option Value) (M : am_M) (hk44 : ∀ (v2 : Int32) (d1 : Option Value) (d3 : Option Value) (M : am_M), k44 v2 M = some (r, M') → mR z me_X10_valley (44, [some (.ref 0), d1, some (.int v2), d3], [], M) r M') (h : f_X10_valley_121 N k44 v2 v3 M = some (r, M')) : mR z me_X10_valley (121, [some (.ref 0), d1, some (.int v2), some (.int v3)], [], M) r M' := by
  unfold f_X10_valley_121 at h
  refine am_R.go 1 (q' := (122, [some (.ref 0), d1, some (.int v2), some (.int v3)], [.ref 0], M)) rfl trivial ?_
  obtain ⟨r122, M122, hz, h⟩ := am_bi_s h
  refine am_R.call (e' := me_X10_fine) (as := [.ref 0]) (rest := []) rfl rfl (Nat.le_of_ble_eq_true rfl) (t_X10_fine z N _ hz) ?_
  rcases am_it h with ⟨hc, h⟩ | ⟨hc, h⟩
  · refine am_R.cn rfl rfl (fun q => q hc) ?_
    refine am_R.go 1 (q' := (181, [some (.ref 0), d1, some (.int v2), some (.int v3)], [], M122)) rfl trivial ?_
    exact t_X10_valley_181 z N _ _ _ _ h
  · refine am_R.ct rfl rfl hc ?_
    refine am_R.go 1 (q' := (132, [some (.ref 0), d1, some (.int v2), some (.int v3)], [.ref 0], M122)) rfl trivial ?_
    obtain ⟨M132, hz, h⟩ := am_bv_s h
    refine am_R.call (e' := me_X10_pass) (as := [.ref 0]) (rest := []) rfl rfl (Nat.le_of_ble_eq_true rfl) (t_X10_pass z N _ hz) ?_
    refine am_R.go 1 (q' := (136, [some (.ref 0), d1, some (.int v2), some (.int v3)], [.int v2], M132)) rfl trivial ?_
    rcases am_it h with ⟨hc, h⟩ | ⟨hc, h⟩
    · refine am_R.cn rfl rfl (fun q => q hc) ?_
      refine am_R.go 4 (q' := (144, [some (.ref 0), d1, some (.int v2), some (.int v3)], [.int 10, .int 2, .ref 0, .ref 0], M132)) rfl trivial ?_
      obtain ⟨r144, M144, hz, h⟩ := am_bi_s h
      refine am_R.call (e' := me_X10_readNumber) (as := [.ref 0, .int 2, .int 10]) (rest := [.ref 0]) rfl rfl (Nat.le_of_ble_eq_true rfl) (t_X10_readNumber z N 2 10 _ hz) ?_
      refine am_R.go 5 (q' := (155, [some (.ref 0), d1, some (.int v2), some (.int v3)], [.int 10, .int 2, .ref 0, .ref 0], am_up M144 0 24 r144)) rfl trivial ?_
      obtain ⟨r155, M155, hz, h⟩ := am_bi_s h
      refine am_R.call (e' := me_X10_readNumber) (as := [.ref 0, .int 2, .int 10]) (rest := [.ref 0]) rfl rfl (Nat.le_of_ble_eq_true rfl) (t_X10_readNumber z N 2 10 _ hz) ?_
      refine am_R.go 2 (q' := (169, [some (.ref 0), d1, some (.int v2), some (.int v3)], [], am_up M155 0 25 r155)) rfl trivial ?_
      exact t_X10_valley_169 z N k44 v2 _ _ _ hk44 h
    · refine am_R.ct rfl rfl hc ?_
      refine am_R.go 2 (q' := (166, [some (.ref 0), d1, some (.int v2), some (.int v3)], [.int v3, .ref 0], M132)) rfl trivial ?_
      obtain ⟨M166, hz, h⟩ := am_bv_s h
      refine am_R.call (e' := me_X10_readOther) (as := [.ref 0, .int v3]) (rest := []) rfl rfl (Nat.le_of_ble_eq_true rfl) (t_X10_readOther z N v3 _ hz) ?_
      exact t_X10_valley_169 z N k44 v2 _ _ _ hk44 h
def f_X10_valley_112 (N : Nat) (k44 : Int32 → am_M → Option (Except Nat (Option Value) × am_M)) (v2 : Int32) (v3 : Int32) (M : am_M) : Option (Except Nat (Option Value) × am_M) :=
  am_bv (f_X10_wrong N 3 (M 0 4) M) fun M118 =>
    f_X10_valley_121 N k44 v2 v3 M118
set_option maxRecDepth 100000 in
theorem t_X10_valley_112 (z : Value) (N : Nat) (k44 : Int32 → am_M → Option (Except Nat (Option Value) × am_M)) {r : Except Nat (Option Value)} {M' : am_M} (v2 : Int32) (v3 : Int32) (d1 : Option Value) (M : am_M) (hk44 : ∀ (v2 : Int32) (d1 : Option Value) (d3 : Option Value) (M : am_M), k44 v2 M = some (r, M') → mR z me_X10_valley (44, [some (.ref 0), d1, some (.int v2), d3], [], M) r M') (h : f_X10_valley_112 N k44 v2 v3 M = some (r, M')) : mR z me_X10_valley (112, [some (.ref 0), d1, some (.int v2), some (.int v3)], [], M) r M' := by
  unfold f_X10_valley_112 at h
  refine am_R.go 4 (q' := (118, [some (.ref 0), d1, some (.int v2), some (.int v3)], [.int (M 0 4), .int 3, .ref 0], M)) rfl trivial ?_
  obtain ⟨M118, hz, h⟩ := am_bv_s h
  refine am_R.call (e' := me_X10_wrong) (as := [.ref 0, .int 3, .int (M 0 4)]) (rest := []) rfl rfl (Nat.le_of_ble_eq_true rfl) (t_X10_wrong z N 3 (M 0 4) _ hz) ?_
  exact t_X10_valley_121 z N k44 v2 v3 _ _ hk44 h
def f_X10_valley_98 (N : Nat) (k44 : Int32 → am_M → Option (Except Nat (Option Value) × am_M)) (v2 : Int32) (v3 : Int32) (M : am_M) : Option (Except Nat (Option Value) × am_M) :=
  if v2 = 60 then
    f_X10_valley_112 N k44 v2 v3 M
  else
    am_bi (f_X10_isFull N v3 M) fun r106 M106 =>
      if r106 = 0 then
        f_X10_valley_121 N k44 v2 v3 M106
      else
        f_X10_valley_112 N k44 v2 v3 M106
set_option maxRecDepth 100000 in
theorem t_X10_valley_98 (z : Value) (N : Nat) (k44 : Int32 → am_M → Option (Except Nat (Option Value) × am_M)) {r : Except Nat (Option Value)} {M' : am_M} (v2 : Int32) (v3 : Int32) (d1 : Option Value) (M : am_M) (hk44 : ∀ (v2 : Int32) (d1 : Option Value) (d3 : Option Value) (M : am_M), k44 v2 M = some (r, M') → mR z me_X10_valley (44, [some (.ref 0), d1, some (.int v2), d3], [], M) r M') (h : f_X10_valley_98 N k44 v2 v3 M = some (r, M')) : mR z me_X10_valley (98, [some (.ref 0), d1, some (.int v2), some (.int v3)], [], M) r M' := by
  unfold f_X10_valley_98 at h
  refine am_R.go 2 (q' := (101, [some (.ref 0), d1, some (.int v2), some (.int v3)], [.int 60, .int v2], M)) rfl trivial ?_
  rcases am_it h with ⟨hc, h⟩ | ⟨hc, h⟩
  · refine am_R.bt rfl rfl hc ?_
    exact t_X10_valley_112 z N k44 v2 v3 _ _ hk44 h
  · refine am_R.bn rfl rfl hc ?_
    refine am_R.go 2 (q' := (106, [some (.ref 0), d1, some (.int v2), some (.int v3)], [.int v3, .ref 0], M)) rfl trivial ?_
    obtain ⟨r106, M106, hz, h⟩ := am_bi_s h
    refine am_R.call (e' := me_X10_isFull) (as := [.ref 0, .int v3]) (rest := []) rfl rfl (Nat.le_of_ble_eq_true rfl) (t_X10_isFull z N v3 _ hz) ?_
    rcases am_it h with ⟨hc, h⟩ | ⟨hc, h⟩
    · refine am_R.ct rfl rfl hc ?_
      exact t_X10_valley_121 z N k44 v2 v3 _ _ hk44 h
    · refine am_R.cn rfl rfl hc ?_
      exact t_X10_valley_112 z N k44 v2 v3 _ _ hk44 h
def f_X10_valley_86 (N : Nat) (k44 : Int32 → am_M → Option (Except Nat (Option Value) × am_M)) (v2 : Int32) (v3 : Int32) (M : am_M) : Option (Except Nat (Option Value) × am_M) :=
  am_bv (f_X10_wrong N 1 (M 0 4) M) fun M92 =>
    f_X10_valley_121 N k44 v2 v3 M92
set_option maxRecDepth 100000 in
theorem t_X10_valley_86 (z : Value) (N : Nat) (k44 : Int32 → am_M → Option (Except Nat (Option Value) × am_M)) {r : Except Nat (Option Value)} {M' : am_M} (v2 : Int32) (v3 : Int32) (d1 : Option Value) (M : am_M) (hk44 : ∀ (v2 : Int32) (d1 : Option Value) (d3 : Option Value) (M : am_M), k44 v2 M = some (r, M') → mR z me_X10_valley (44, [some (.ref 0), d1, some (.int v2), d3], [], M) r M') (h : f_X10_valley_86 N k44 v2 v3 M = some (r, M')) : mR z me_X10_valley (86, [some (.ref 0), d1, some (.int v2), some (.int v3)], [], M) r M' := by
  unfold f_X10_valley_86 at h
  refine am_R.go 4 (q' := (92, [some (.ref 0), d1, some (.int v2), some (.int v3)], [.int (M 0 4), .int 1, .ref 0], M)) rfl trivial ?_
  obtain ⟨M92, hz, h⟩ := am_bv_s h
  refine am_R.call (e' := me_X10_wrong) (as := [.ref 0, .int 1, .int (M 0 4)]) (rest := []) rfl rfl (Nat.le_of_ble_eq_true rfl) (t_X10_wrong z N 1 (M 0 4) _ hz) ?_
  refine am_R.go 1 (q' := (121, [some (.ref 0), d1, some (.int v2), some (.int v3)], [], M92)) rfl trivial ?_
  exact t_X10_valley_121 z N k44 v2 v3 _ _ hk44 h
def f_X10_valley_44B (N : Nat) (k44 : Int32 → am_M → Option (Except Nat (Option Value) × am_M)) (v2 : Int32) (M : am_M) : Option (Except Nat (Option Value) × am_M) :=
  am_bi (f_X10_fine N M) fun r45 M45 =>
    if r45 = 0 then
      f_X10_valley_181 N M45
    else
      am_bi (f_X10_isMore N M45) fun r52 M52 =>
        if r52 = 0 then
          f_X10_valley_181 N M52
        else
          am_bi (f_X10_word N M52) fun r59 M59 =>
            if v2 = 0 then
              am_bi (f_X10_of_1000 N M59) fun r70 M70 =>
                if r59 = r70 then
                  f_X10_valley_98 N k44 v2 r59 M70
                else
                  f_X10_valley_86 N k44 v2 r59 M70
            else
              am_bi (f_X10_isOther N r59 M59) fun r80 M80 =>
                if r80 = 0 then
                  f_X10_valley_86 N k44 v2 r59 M80
                else
                  f_X10_valley_98 N k44 v2 r59 M80
def f_X10_valley_44 (N : Nat) : Nat → Int32 → am_M → Option (Except Nat (Option Value) × am_M)
  | 0 => fun _ _ => none
  | n + 1 => f_X10_valley_44B N (f_X10_valley_44 N n)
set_option maxRecDepth 100000 in
theorem t_X10_valley_44B (z : Value) (N : Nat) {r : Except Nat (Option Value)} {M' : am_M} (k44 : Int32 → am_M → Option (Except Nat (Option Value) × am_M)) (hk44 : ∀ (v2 : Int32) (d1 : Option Value) (d3 : Option Value) (M : am_M), k44 v2 M = some (r, M') → mR z me_X10_valley (44, [some (.ref 0), d1, some (.int v2), d3], [], M) r M') (v2 : Int32) (d1 : Option Value) (d3 : Option Value) (M : am_M) (h : f_X10_valley_44B N k44 v2 M = some (r, M')) : mR z me_X10_valley (44, [some (.ref 0), d1, some (.int v2), d3], [], M) r M' := by
  unfold f_X10_valley_44B at h
  refine am_R.go 1 (q' := (45, [some (.ref 0), d1, some (.int v2), d3], [.ref 0], M)) rfl trivial ?_
  obtain ⟨r45, M45, hz, h⟩ := am_bi_s h
  refine am_R.call (e' := me_X10_fine) (as := [.ref 0]) (rest := []) rfl rfl (Nat.le_of_ble_eq_true rfl) (t_X10_fine z N _ hz) ?_
  rcases am_it h with ⟨hc, h⟩ | ⟨hc, h⟩
  · refine am_R.ct rfl rfl hc ?_
    exact t_X10_valley_181 z N _ _ _ _ h
  · refine am_R.cn rfl rfl hc ?_
    refine am_R.go 1 (q' := (52, [some (.ref 0), d1, some (.int v2), d3], [.ref 0], M45)) rfl trivial ?_
    obtain ⟨r52, M52, hz, h⟩ := am_bi_s h
    refine am_R.call (e' := me_X10_isMore) (as := [.ref 0]) (rest := []) rfl rfl (Nat.le_of_ble_eq_true rfl) (t_X10_isMore z N _ hz) ?_
    rcases am_it h with ⟨hc, h⟩ | ⟨hc, h⟩
    · refine am_R.ct rfl rfl hc ?_
      exact t_X10_valley_181 z N _ _ _ _ h
    · refine am_R.cn rfl rfl hc ?_
      refine am_R.go 1 (q' := (59, [some (.ref 0), d1, some (.int v2), d3], [.ref 0], M52)) rfl trivial ?_
      obtain ⟨r59, M59, hz, h⟩ := am_bi_s h
      refine am_R.call (e' := me_X10_word) (as := [.ref 0]) (rest := []) rfl rfl (Nat.le_of_ble_eq_true rfl) (t_X10_word z N _ hz) ?_
      refine am_R.go 2 (q' := (64, [some (.ref 0), d1, some (.int v2), some (.int r59)], [.int v2], M59)) rfl trivial ?_
      rcases am_it h with ⟨hc, h⟩ | ⟨hc, h⟩
      · refine am_R.cn rfl rfl (fun q => q hc) ?_
        refine am_R.go 2 (q' := (70, [some (.ref 0), d1, some (.int v2), some (.int r59)], [.ref 1000, .int r59], M59)) rfl trivial ?_
        obtain ⟨r70, M70, hz, h⟩ := am_bi_s h
        refine am_R.call (e' := me_X10_of) (as := [.ref 1000]) (rest := [.int r59]) rfl rfl (Nat.le_of_ble_eq_true rfl) (t_X10_of_1000 z N _ hz) ?_
        rcases am_it h with ⟨hc, h⟩ | ⟨hc, h⟩
        · refine am_R.bt rfl rfl hc ?_
          exact t_X10_valley_98 z N k44 v2 r59 _ _ hk44 h
        · refine am_R.bn rfl rfl hc ?_
          refine am_R.go 1 (q' := (86, [some (.ref 0), d1, some (.int v2), some (.int r59)], [], M70)) rfl trivial ?_
          exact t_X10_valley_86 z N k44 v2 r59 _ _ hk44 h
      · refine am_R.ct rfl rfl hc ?_
        refine am_R.go 1 (q' := (80, [some (.ref 0), d1, some (.int v2), some (.int r59)], [.int r59], M59)) rfl trivial ?_
        obtain ⟨r80, M80, hz, h⟩ := am_bi_s h
        refine am_R.call (e' := me_X10_isOther) (as := [.int r59]) (rest := []) rfl rfl (Nat.le_of_ble_eq_true rfl) (t_X10_isOther z N r59 _ hz) ?_
        rcases am_it h with ⟨hc, h⟩ | ⟨hc, h⟩
        · refine am_R.cn rfl rfl (fun q => q hc) ?_
          exact t_X10_valley_86 z N k44 v2 r59 _ _ hk44 h
        · refine am_R.ct rfl rfl hc ?_
          exact t_X10_valley_98 z N k44 v2 r59 _ _ hk44 h
set_option maxRecDepth 100000 in
theorem t_X10_valley_44 (z : Value) (N : Nat) {r : Except Nat (Option Value)} {M' : am_M} : ∀ (n : Nat) (v2 : Int32) (d1 : Option Value) (d3 : Option Value) (M : am_M), f_X10_valley_44 N n v2 M = some (r, M') → mR z me_X10_valley (44, [some (.ref 0), d1, some (.int v2), d3], [], M) r M' := by
  intro n
  induction n with
  | zero => intro v2 d1 d3 M h; cases h
  | succ n ih => intro v2 d1 d3 M h; exact t_X10_valley_44B z N _ ih v2 d1 d3 M h
def f_X10_valley_23 (N : Nat) (v1 : Int32) (s0 : Int32) (M : am_M) : Option (Except Nat (Option Value) × am_M) :=
  am_bi (f_X10_may N s0 1 2 M) fun r25 M25 =>
    if r25 = 0 then
      some (.ok (some (.int 0)), M25)
    else
      am_bv (f_X10_begins N v1 M25) fun M35 =>
        am_bv (f_X10_clears N M35) fun M39 =>
          f_X10_valley_44 N N 0 M39
set_option maxRecDepth 100000 in
theorem t_X10_valley_23 (z : Value) (N : Nat) {r : Except Nat (Option Value)} {M' : am_M} (v1 : Int32) (s0 : Int32) (d2 : Option Value) (d3 : Option Value) (M : am_M) (h : f_X10_valley_23 N v1 s0 M = some (r, M')) : mR z me_X10_valley (23, [some (.ref 0), some (.int v1), d2, d3], [.int s0, .ref 0], M) r M' := by
  unfold f_X10_valley_23 at h
  refine am_R.go 2 (q' := (25, [some (.ref 0), some (.int v1), d2, d3], [.int 2, .int 1, .int s0, .ref 0], M)) rfl trivial ?_
  obtain ⟨r25, M25, hz, h⟩ := am_bi_s h
  refine am_R.call (e' := me_X10_may) (as := [.ref 0, .int s0, .int 1, .int 2]) (rest := []) rfl rfl (Nat.le_of_ble_eq_true rfl) (t_X10_may z N s0 1 2 _ hz) ?_
  rcases am_it h with ⟨hc, h⟩ | ⟨hc, h⟩
  · refine am_R.cn rfl rfl (fun q => q hc) ?_
    refine am_R.go 1 (q' := (32, [some (.ref 0), some (.int v1), d2, d3], [.int 0], M25)) rfl trivial ?_
    cases h
    exact am_R.ret rfl rfl trivial
  · refine am_R.ct rfl rfl hc ?_
    refine am_R.go 2 (q' := (35, [some (.ref 0), some (.int v1), d2, d3], [.int v1, .ref 0], M25)) rfl trivial ?_
    obtain ⟨M35, hz, h⟩ := am_bv_s h
    refine am_R.call (e' := me_X10_begins) (as := [.ref 0, .int v1]) (rest := []) rfl rfl (Nat.le_of_ble_eq_true rfl) (t_X10_begins z N v1 _ hz) ?_
    refine am_R.go 1 (q' := (39, [some (.ref 0), some (.int v1), d2, d3], [.ref 0], M35)) rfl trivial ?_
    obtain ⟨M39, hz, h⟩ := am_bv_s h
    refine am_R.call (e' := me_X10_clears) (as := [.ref 0]) (rest := []) rfl rfl (Nat.le_of_ble_eq_true rfl) (t_X10_clears z N _ hz) ?_
    refine am_R.go 2 (q' := (44, [some (.ref 0), some (.int v1), some (.int 0), d3], [], M39)) rfl trivial ?_
    exact t_X10_valley_44 z N N 0 _ _ _ h
def f_X10_valley_22 (N : Nat) (v1 : Int32) (M : am_M) : Option (Except Nat (Option Value) × am_M) :=
  f_X10_valley_23 N v1 0 M
set_option maxRecDepth 100000 in
theorem t_X10_valley_22 (z : Value) (N : Nat) {r : Except Nat (Option Value)} {M' : am_M} (v1 : Int32) (d2 : Option Value) (d3 : Option Value) (M : am_M) (h : f_X10_valley_22 N v1 M = some (r, M')) : mR z me_X10_valley (22, [some (.ref 0), some (.int v1), d2, d3], [.ref 0], M) r M' := by
  unfold f_X10_valley_22 at h
  refine am_R.go 1 (q' := (23, [some (.ref 0), some (.int v1), d2, d3], [.int 0, .ref 0], M)) rfl trivial ?_
  exact t_X10_valley_23 z N v1 0 _ _ _ h
def f_X10_valley (N : Nat) (p1 : Int32) (M : am_M) : Option (Except Nat (Option Value) × am_M) :=
  if p1 < 0 then
    f_X10_valley_22 N p1 (am_up M 0 0 0)
  else
    if (M 0 2) < p1 then
      f_X10_valley_22 N p1 (am_up M 0 0 0)
    else
      f_X10_valley_23 N p1 1 (am_up M 0 0 0)
set_option maxRecDepth 100000 in
theorem t_X10_valley (z : Value) (N : Nat) (p1 : Int32) (M : am_M) {r : Except Nat (Option Value)} {M' : am_M} (h : f_X10_valley N p1 M = some (r, M')) : mR z me_X10_valley (0, [some (.ref 0), some (.int p1), none, none], [], M) r M' := by
  unfold f_X10_valley at h
  refine am_R.go 5 (q' := (7, [some (.ref 0), some (.int p1), none, none], [.int p1, .ref 0], am_up M 0 0 0)) rfl trivial ?_
  rcases am_it h with ⟨hc, h⟩ | ⟨hc, h⟩
  · refine am_R.ct rfl rfl hc ?_
    exact t_X10_valley_22 z N p1 _ _ _ h
  · refine am_R.cn rfl rfl hc ?_
    refine am_R.go 3 (q' := (15, [some (.ref 0), some (.int p1), none, none], [.int (M 0 2), .int p1, .ref 0], am_up M 0 0 0)) rfl trivial ?_
    rcases am_it h with ⟨hc, h⟩ | ⟨hc, h⟩
    · refine am_R.bt rfl rfl hc ?_
      exact t_X10_valley_22 z N p1 _ _ _ h
    · refine am_R.bn rfl rfl hc ?_
      refine am_R.go 2 (q' := (23, [some (.ref 0), some (.int p1), none, none], [.int 1, .ref 0], am_up M 0 0 0)) rfl trivial ?_
      exact t_X10_valley_23 z N p1 1 _ _ _ h
def f_X10_fault (N : Nat) (M : am_M) : Option (Except Nat (Option Value) × am_M) :=
  some (.ok (some (.int (M 0 8))), am_up M 0 0 0)
set_option maxRecDepth 100000 in
theorem t_X10_fault (z : Value) (N : Nat) (M : am_M) {r : Except Nat (Option Value)} {M' : am_M} (h : f_X10_fault N M = some (r, M')) : mR z me_X10_fault (0, [some (.ref 0)], [], M) r M' := by
  unfold f_X10_fault at h
  refine am_R.go 5 (q' := (9, [some (.ref 0)], [.int (M 0 8)], am_up M 0 0 0)) rfl trivial ?_
  cases h
  exact am_R.ret rfl rfl trivial
def f_X10_within (N : Nat) (p0 : Int32) (p1 : Int32) (p2 : Int32) (M : am_M) : Option (Except Nat (Option Value) × am_M) :=
  if p0 < p1 then
    some (.ok (some (.int 0)), M)
  else
    if p2 < p0 then
      some (.ok (some (.int 0)), M)
    else
      some (.ok (some (.int 1)), M)
set_option maxRecDepth 100000 in
theorem t_X10_within (z : Value) (N : Nat) (p0 : Int32) (p1 : Int32) (p2 : Int32) (M : am_M) {r : Except Nat (Option Value)} {M' : am_M} (h : f_X10_within N p0 p1 p2 M = some (r, M')) : mR z me_X10_within (0, [some (.int p0), some (.int p1), some (.int p2)], [], M) r M' := by
  unfold f_X10_within at h
  refine am_R.go 2 (q' := (2, [some (.int p0), some (.int p1), some (.int p2)], [.int p1, .int p0], M)) rfl trivial ?_
  rcases am_it h with ⟨hc, h⟩ | ⟨hc, h⟩
  · refine am_R.bt rfl rfl hc ?_
    refine am_R.go 1 (q' := (15, [some (.int p0), some (.int p1), some (.int p2)], [.int 0], M)) rfl trivial ?_
    cases h
    exact am_R.ret rfl rfl (Or.inl rfl)
  · refine am_R.bn rfl rfl hc ?_
    refine am_R.go 2 (q' := (7, [some (.int p0), some (.int p1), some (.int p2)], [.int p2, .int p0], M)) rfl trivial ?_
    rcases am_it h with ⟨hc, h⟩ | ⟨hc, h⟩
    · refine am_R.bt rfl rfl hc ?_
      refine am_R.go 1 (q' := (15, [some (.int p0), some (.int p1), some (.int p2)], [.int 0], M)) rfl trivial ?_
      cases h
      exact am_R.ret rfl rfl (Or.inl rfl)
    · refine am_R.bn rfl rfl hc ?_
      refine am_R.go 2 (q' := (15, [some (.int p0), some (.int p1), some (.int p2)], [.int 1], M)) rfl trivial ?_
      cases h
      exact am_R.ret rfl rfl (Or.inr rfl)
def f_X10_told (N : Nat) (p1 : Int32) (M : am_M) : Option (Except Nat (Option Value) × am_M) :=
  am_bi (f_X10_within N p1 0 10 (am_up M 0 0 0)) fun r10 M10 =>
    am_bi (f_X10_may N r10 1 2 M10) fun r15 M15 =>
      if r15 = 0 then
        some (.ok (some (.int 0)), M15)
      else
        if 4 ≤ p1 then
          if 8 ≤ p1 then
            if p1 = 8 then
              some (.ok (some (.int (M15 0 41))), M15)
            else
              if p1 = 9 then
                some (.ok (some (.int (M15 0 42))), M15)
              else
                some (.ok (some (.int (M15 0 60))), M15)
          else
            if p1 = 4 then
              some (.ok (some (.int (M15 0 38))), M15)
            else
              if p1 = 5 then
                some (.ok (some (.int (M15 0 35))), M15)
              else
                if p1 = 6 then
                  some (.ok (some (.int (M15 0 39))), M15)
                else
                  some (.ok (some (.int (M15 0 40))), M15)
        else
          if p1 = 0 then
            some (.ok (some (.int (M15 0 33))), M15)
          else
            if p1 = 1 then
              some (.ok (some (.int (M15 0 34))), M15)
            else
              if p1 = 2 then
                some (.ok (some (.int (M15 0 36))), M15)
              else
                some (.ok (some (.int (M15 0 37))), M15)
set_option maxRecDepth 100000 in
theorem t_X10_told (z : Value) (N : Nat) (p1 : Int32) (M : am_M) {r : Except Nat (Option Value)} {M' : am_M} (h : f_X10_told N p1 M = some (r, M')) : mR z me_X10_told (0, [some (.ref 0), some (.int p1)], [], M) r M' := by
  unfold f_X10_told at h
  refine am_R.go 7 (q' := (10, [some (.ref 0), some (.int p1)], [.int 10, .int 0, .int p1, .ref 0], am_up M 0 0 0)) rfl trivial ?_
  obtain ⟨r10, M10, hz, h⟩ := am_bi_s h
  refine am_R.call (e' := me_X10_within) (as := [.int p1, .int 0, .int 10]) (rest := [.ref 0]) rfl rfl (Nat.le_of_ble_eq_true rfl) (t_X10_within z N p1 0 10 _ hz) ?_
  refine am_R.go 2 (q' := (15, [some (.ref 0), some (.int p1)], [.int 2, .int 1, .int r10, .ref 0], M10)) rfl trivial ?_
  obtain ⟨r15, M15, hz, h⟩ := am_bi_s h
  refine am_R.call (e' := me_X10_may) (as := [.ref 0, .int r10, .int 1, .int 2]) (rest := []) rfl rfl (Nat.le_of_ble_eq_true rfl) (t_X10_may z N r10 1 2 _ hz) ?_
  rcases am_it h with ⟨hc, h⟩ | ⟨hc, h⟩
  · refine am_R.cn rfl rfl (fun q => q hc) ?_
    refine am_R.go 1 (q' := (22, [some (.ref 0), some (.int p1)], [.int 0], M15)) rfl trivial ?_
    cases h
    exact am_R.ret rfl rfl trivial
  · refine am_R.ct rfl rfl hc ?_
    refine am_R.go 2 (q' := (25, [some (.ref 0), some (.int p1)], [.int 4, .int p1], M15)) rfl trivial ?_
    rcases am_it h with ⟨hc, h⟩ | ⟨hc, h⟩
    · refine am_R.bt rfl rfl hc ?_
      refine am_R.go 2 (q' := (71, [some (.ref 0), some (.int p1)], [.int 8, .int p1], M15)) rfl trivial ?_
      rcases am_it h with ⟨hc, h⟩ | ⟨hc, h⟩
      · refine am_R.bt rfl rfl hc ?_
        refine am_R.go 2 (q' := (119, [some (.ref 0), some (.int p1)], [.int 8, .int p1], M15)) rfl trivial ?_
        rcases am_it h with ⟨hc, h⟩ | ⟨hc, h⟩
        · refine am_R.bn rfl rfl (fun q => q hc) ?_
          refine am_R.go 3 (q' := (146, [some (.ref 0), some (.int p1)], [.int (M15 0 41)], M15)) rfl trivial ?_
          cases h
          exact am_R.ret rfl rfl trivial
        · refine am_R.bt rfl rfl hc ?_
          refine am_R.go 2 (q' := (132, [some (.ref 0), some (.int p1)], [.int 9, .int p1], M15)) rfl trivial ?_
          rcases am_it h with ⟨hc, h⟩ | ⟨hc, h⟩
          · refine am_R.bn rfl rfl (fun q => q hc) ?_
            refine am_R.go 3 (q' := (146, [some (.ref 0), some (.int p1)], [.int (M15 0 42)], M15)) rfl trivial ?_
            cases h
            exact am_R.ret rfl rfl trivial
          · refine am_R.bt rfl rfl hc ?_
            refine am_R.go 2 (q' := (146, [some (.ref 0), some (.int p1)], [.int (M15 0 60)], M15)) rfl trivial ?_
            cases h
            exact am_R.ret rfl rfl trivial
      · refine am_R.bn rfl rfl hc ?_
        refine am_R.go 2 (q' := (76, [some (.ref 0), some (.int p1)], [.int 4, .int p1], M15)) rfl trivial ?_
        rcases am_it h with ⟨hc, h⟩ | ⟨hc, h⟩
        · refine am_R.bn rfl rfl (fun q => q hc) ?_
          refine am_R.go 3 (q' := (115, [some (.ref 0), some (.int p1)], [.int (M15 0 38)], M15)) rfl trivial ?_
          cases h
          exact am_R.ret rfl rfl trivial
        · refine am_R.bt rfl rfl hc ?_
          refine am_R.go 2 (q' := (88, [some (.ref 0), some (.int p1)], [.int 5, .int p1], M15)) rfl trivial ?_
          rcases am_it h with ⟨hc, h⟩ | ⟨hc, h⟩
          · refine am_R.bn rfl rfl (fun q => q hc) ?_
            refine am_R.go 3 (q' := (115, [some (.ref 0), some (.int p1)], [.int (M15 0 35)], M15)) rfl trivial ?_
            cases h
            exact am_R.ret rfl rfl trivial
          · refine am_R.bt rfl rfl hc ?_
            refine am_R.go 2 (q' := (101, [some (.ref 0), some (.int p1)], [.int 6, .int p1], M15)) rfl trivial ?_
            rcases am_it h with ⟨hc, h⟩ | ⟨hc, h⟩
            · refine am_R.bn rfl rfl (fun q => q hc) ?_
              refine am_R.go 3 (q' := (115, [some (.ref 0), some (.int p1)], [.int (M15 0 39)], M15)) rfl trivial ?_
              cases h
              exact am_R.ret rfl rfl trivial
            · refine am_R.bt rfl rfl hc ?_
              refine am_R.go 2 (q' := (115, [some (.ref 0), some (.int p1)], [.int (M15 0 40)], M15)) rfl trivial ?_
              cases h
              exact am_R.ret rfl rfl trivial
    · refine am_R.bn rfl rfl hc ?_
      refine am_R.go 1 (q' := (29, [some (.ref 0), some (.int p1)], [.int p1], M15)) rfl trivial ?_
      rcases am_it h with ⟨hc, h⟩ | ⟨hc, h⟩
      · refine am_R.cn rfl rfl (fun q => q hc) ?_
        refine am_R.go 3 (q' := (67, [some (.ref 0), some (.int p1)], [.int (M15 0 33)], M15)) rfl trivial ?_
        cases h
        exact am_R.ret rfl rfl trivial
      · refine am_R.ct rfl rfl hc ?_
        refine am_R.go 2 (q' := (41, [some (.ref 0), some (.int p1)], [.int 1, .int p1], M15)) rfl trivial ?_
        rcases am_it h with ⟨hc, h⟩ | ⟨hc, h⟩
        · refine am_R.bn rfl rfl (fun q => q hc) ?_
          refine am_R.go 3 (q' := (67, [some (.ref 0), some (.int p1)], [.int (M15 0 34)], M15)) rfl trivial ?_
          cases h
          exact am_R.ret rfl rfl trivial
        · refine am_R.bt rfl rfl hc ?_
          refine am_R.go 2 (q' := (53, [some (.ref 0), some (.int p1)], [.int 2, .int p1], M15)) rfl trivial ?_
          rcases am_it h with ⟨hc, h⟩ | ⟨hc, h⟩
          · refine am_R.bn rfl rfl (fun q => q hc) ?_
            refine am_R.go 3 (q' := (67, [some (.ref 0), some (.int p1)], [.int (M15 0 36)], M15)) rfl trivial ?_
            cases h
            exact am_R.ret rfl rfl trivial
          · refine am_R.bt rfl rfl hc ?_
            refine am_R.go 2 (q' := (67, [some (.ref 0), some (.int p1)], [.int (M15 0 37)], M15)) rfl trivial ?_
            cases h
            exact am_R.ret rfl rfl trivial
def f_X10_isCell_34 (N : Nat) (v3 : Int32) (s0 : Int32) (M : am_M) : Option (Except Nat (Option Value) × am_M) :=
  am_bi (f_X10_may N s0 v3 0 M) fun r36 M36 =>
    if am_z r36 then some (.ok (some (.int r36)), M36) else none
set_option maxRecDepth 100000 in
theorem t_X10_isCell_34 (z : Value) (N : Nat) {r : Except Nat (Option Value)} {M' : am_M} (v3 : Int32) (s0 : Int32) (d0 : Option Value) (d1 : Option Value) (d2 : Option Value) (M : am_M) (h : f_X10_isCell_34 N v3 s0 M = some (r, M')) : mR z me_X10_isCell (34, [d0, d1, d2, some (.int v3)], [.int s0, .ref 0], M) r M' := by
  unfold f_X10_isCell_34 at h
  refine am_R.go 2 (q' := (36, [d0, d1, d2, some (.int v3)], [.int 0, .int v3, .int s0, .ref 0], M)) rfl trivial ?_
  obtain ⟨r36, M36, hz, h⟩ := am_bi_s h
  refine am_R.call (e' := me_X10_may) (as := [.ref 0, .int s0, .int v3, .int 0]) (rest := []) rfl rfl (Nat.le_of_ble_eq_true rfl) (t_X10_may z N s0 v3 0 _ hz) ?_
  obtain ⟨hC, h⟩ := am_gd h
  cases h
  exact am_R.ret rfl rfl hC
def f_X10_isCell_33 (N : Nat) (v3 : Int32) (M : am_M) : Option (Except Nat (Option Value) × am_M) :=
  f_X10_isCell_34 N v3 0 M
set_option maxRecDepth 100000 in
theorem t_X10_isCell_33 (z : Value) (N : Nat) {r : Except Nat (Option Value)} {M' : am_M} (v3 : Int32) (d0 : Option Value) (d1 : Option Value) (d2 : Option Value) (M : am_M) (h : f_X10_isCell_33 N v3 M = some (r, M')) : mR z me_X10_isCell (33, [d0, d1, d2, some (.int v3)], [.ref 0], M) r M' := by
  unfold f_X10_isCell_33 at h
  refine am_R.go 1 (q' := (34, [d0, d1, d2, some (.int v3)], [.int 0, .ref 0], M)) rfl trivial ?_
  exact t_X10_isCell_34 z N v3 0 _ _ _ _ h
def f_X10_isCell (N : Nat) (p1 : Int32) (p2 : Int32) (p3 : Int32) (M : am_M) : Option (Except Nat (Option Value) × am_M) :=
  am_bi (f_X10_within N p1 0 ((M 0 33) - 1) M) fun r9 M9 =>
    if r9 = 0 then
      f_X10_isCell_33 N p3 M9
    else
      am_bi (f_X10_within N p2 0 ((M9 0 34) - 1) M9) fun r23 M23 =>
        if r23 = 0 then
          f_X10_isCell_33 N p3 M23
        else
          f_X10_isCell_34 N p3 1 M23
set_option maxRecDepth 100000 in
theorem t_X10_isCell (z : Value) (N : Nat) (p1 : Int32) (p2 : Int32) (p3 : Int32) (M : am_M) {r : Except Nat (Option Value)} {M' : am_M} (h : f_X10_isCell N p1 p2 p3 M = some (r, M')) : mR z me_X10_isCell (0, [some (.ref 0), some (.int p1), some (.int p2), some (.int p3)], [], M) r M' := by
  unfold f_X10_isCell at h
  refine am_R.go 7 (q' := (9, [some (.ref 0), some (.int p1), some (.int p2), some (.int p3)], [.int ((M 0 33) - 1), .int 0, .int p1, .ref 0], M)) rfl trivial ?_
  obtain ⟨r9, M9, hz, h⟩ := am_bi_s h
  refine am_R.call (e' := me_X10_within) (as := [.int p1, .int 0, .int ((M 0 33) - 1)]) (rest := [.ref 0]) rfl rfl (Nat.le_of_ble_eq_true rfl) (t_X10_within z N p1 0 ((M 0 33) - 1) _ hz) ?_
  rcases am_it h with ⟨hc, h⟩ | ⟨hc, h⟩
  · refine am_R.ct rfl rfl hc ?_
    exact t_X10_isCell_33 z N p3 _ _ _ _ h
  · refine am_R.cn rfl rfl hc ?_
    refine am_R.go 6 (q' := (23, [some (.ref 0), some (.int p1), some (.int p2), some (.int p3)], [.int ((M9 0 34) - 1), .int 0, .int p2, .ref 0], M9)) rfl trivial ?_
    obtain ⟨r23, M23, hz, h⟩ := am_bi_s h
    refine am_R.call (e' := me_X10_within) (as := [.int p2, .int 0, .int ((M9 0 34) - 1)]) (rest := [.ref 0]) rfl rfl (Nat.le_of_ble_eq_true rfl) (t_X10_within z N p2 0 ((M9 0 34) - 1) _ hz) ?_
    rcases am_it h with ⟨hc, h⟩ | ⟨hc, h⟩
    · refine am_R.ct rfl rfl hc ?_
      exact t_X10_isCell_33 z N p3 _ _ _ _ h
    · refine am_R.cn rfl rfl hc ?_
      refine am_R.go 2 (q' := (34, [some (.ref 0), some (.int p1), some (.int p2), some (.int p3)], [.int 1, .ref 0], M23)) rfl trivial ?_
      exact t_X10_isCell_34 z N p3 1 _ _ _ _ h
def f_X10_cell (N : Nat) (p1 : Int32) (p2 : Int32) (p3 : Int32) (M : am_M) : Option (Except Nat (Option Value) × am_M) :=
  am_bi (f_X10_isCell N p1 p2 1 (am_up M 0 0 0)) fun r9 M9 =>
    if r9 = 0 then
      some (.ok (some (.int 0)), M9)
    else
      am_bi (f_X10_within N p3 0 1 M9) fun r19 M19 =>
        am_bi (f_X10_may N r19 2 2 M19) fun r24 M24 =>
          if r24 = 0 then
            some (.ok (some (.int 0)), M24)
          else
            if p3 = 0 then
              if am_in ((10 * p2) + p1) 100 then
                some (.ok (some (.int (M24 10 (((10 * p2) + p1).toNatClampNeg)))), M24)
              else none
            else
              if am_in ((10 * p2) + p1) 100 then
                some (.ok (some (.int (M24 11 (((10 * p2) + p1).toNatClampNeg)))), M24)
              else none
set_option maxRecDepth 100000 in
theorem t_X10_cell (z : Value) (N : Nat) (p1 : Int32) (p2 : Int32) (p3 : Int32) (M : am_M) {r : Except Nat (Option Value)} {M' : am_M} (h : f_X10_cell N p1 p2 p3 M = some (r, M')) : mR z me_X10_cell (0, [some (.ref 0), some (.int p1), some (.int p2), some (.int p3)], [], M) r M' := by
  unfold f_X10_cell at h
  refine am_R.go 7 (q' := (9, [some (.ref 0), some (.int p1), some (.int p2), some (.int p3)], [.int 1, .int p2, .int p1, .ref 0], am_up M 0 0 0)) rfl trivial ?_
  obtain ⟨r9, M9, hz, h⟩ := am_bi_s h
  refine am_R.call (e' := me_X10_isCell) (as := [.ref 0, .int p1, .int p2, .int 1]) (rest := []) rfl rfl (Nat.le_of_ble_eq_true rfl) (t_X10_isCell z N p1 p2 1 _ hz) ?_
  rcases am_it h with ⟨hc, h⟩ | ⟨hc, h⟩
  · refine am_R.ct rfl rfl hc ?_
    refine am_R.go 1 (q' := (31, [some (.ref 0), some (.int p1), some (.int p2), some (.int p3)], [.int 0], M9)) rfl trivial ?_
    cases h
    exact am_R.ret rfl rfl trivial
  · refine am_R.cn rfl rfl hc ?_
    refine am_R.go 4 (q' := (19, [some (.ref 0), some (.int p1), some (.int p2), some (.int p3)], [.int 1, .int 0, .int p3, .ref 0], M9)) rfl trivial ?_
    obtain ⟨r19, M19, hz, h⟩ := am_bi_s h
    refine am_R.call (e' := me_X10_within) (as := [.int p3, .int 0, .int 1]) (rest := [.ref 0]) rfl rfl (Nat.le_of_ble_eq_true rfl) (t_X10_within z N p3 0 1 _ hz) ?_
    refine am_R.go 2 (q' := (24, [some (.ref 0), some (.int p1), some (.int p2), some (.int p3)], [.int 2, .int 2, .int r19, .ref 0], M19)) rfl trivial ?_
    obtain ⟨r24, M24, hz, h⟩ := am_bi_s h
    refine am_R.call (e' := me_X10_may) (as := [.ref 0, .int r19, .int 2, .int 2]) (rest := []) rfl rfl (Nat.le_of_ble_eq_true rfl) (t_X10_may z N r19 2 2 _ hz) ?_
    rcases am_it h with ⟨hc, h⟩ | ⟨hc, h⟩
    · refine am_R.cn rfl rfl (fun q => q hc) ?_
      refine am_R.go 1 (q' := (31, [some (.ref 0), some (.int p1), some (.int p2), some (.int p3)], [.int 0], M24)) rfl trivial ?_
      cases h
      exact am_R.ret rfl rfl trivial
    · refine am_R.ct rfl rfl hc ?_
      refine am_R.go 1 (q' := (33, [some (.ref 0), some (.int p1), some (.int p2), some (.int p3)], [.int p3], M24)) rfl trivial ?_
      rcases am_it h with ⟨hc, h⟩ | ⟨hc, h⟩
      · refine am_R.cn rfl rfl (fun q => q hc) ?_
        obtain ⟨hC, h⟩ := am_gd h
        refine am_R.go 9 (q' := (61, [some (.ref 0), some (.int p1), some (.int p2), some (.int p3)], [.int (M24 10 (((10 * p2) + p1).toNatClampNeg))], M24)) rfl ⟨hC, trivial⟩ ?_
        cases h
        exact am_R.ret rfl rfl trivial
      · refine am_R.ct rfl rfl hc ?_
        obtain ⟨hC, h⟩ := am_gd h
        refine am_R.go 8 (q' := (61, [some (.ref 0), some (.int p1), some (.int p2), some (.int p3)], [.int (M24 11 (((10 * p2) + p1).toNatClampNeg))], M24)) rfl ⟨hC, trivial⟩ ?_
        cases h
        exact am_R.ret rfl rfl trivial
def f_X10_build (N : Nat) (p1 : Int32) (p2 : Int32) (M : am_M) : Option (Except Nat (Option Value) × am_M) :=
  am_bi (f_X10_isCell N p1 p2 1 (am_up M 0 0 0)) fun r9 M9 =>
    if r9 = 0 then
      some (.ok (some (.int 0)), M9)
    else
      if am_in ((10 * p2) + p1) 100 then
        if (M9 10 (((10 * p2) + p1).toNatClampNeg)) ≤ 0 then
          if am_in ((10 * p2) + p1) 100 then
            some (.ok (some (.int 1)), am_up M9 10 (((10 * p2) + p1).toNatClampNeg) 5)
          else none
        else
          some (.ok (some (.int 0)), M9)
      else none
set_option maxRecDepth 100000 in
theorem t_X10_build (z : Value) (N : Nat) (p1 : Int32) (p2 : Int32) (M : am_M) {r : Except Nat (Option Value)} {M' : am_M} (h : f_X10_build N p1 p2 M = some (r, M')) : mR z me_X10_build (0, [some (.ref 0), some (.int p1), some (.int p2)], [], M) r M' := by
  unfold f_X10_build at h
  refine am_R.go 7 (q' := (9, [some (.ref 0), some (.int p1), some (.int p2)], [.int 1, .int p2, .int p1, .ref 0], am_up M 0 0 0)) rfl trivial ?_
  obtain ⟨r9, M9, hz, h⟩ := am_bi_s h
  refine am_R.call (e' := me_X10_isCell) (as := [.ref 0, .int p1, .int p2, .int 1]) (rest := []) rfl rfl (Nat.le_of_ble_eq_true rfl) (t_X10_isCell z N p1 p2 1 _ hz) ?_
  rcases am_it h with ⟨hc, h⟩ | ⟨hc, h⟩
  · refine am_R.ct rfl rfl hc ?_
    refine am_R.go 1 (q' := (30, [some (.ref 0), some (.int p1), some (.int p2)], [.int 0], M9)) rfl trivial ?_
    cases h
    exact am_R.ret rfl rfl trivial
  · refine am_R.cn rfl rfl hc ?_
    obtain ⟨hC, h⟩ := am_gd h
    refine am_R.go 8 (q' := (26, [some (.ref 0), some (.int p1), some (.int p2)], [.int (M9 10 (((10 * p2) + p1).toNatClampNeg))], M9)) rfl ⟨hC, trivial⟩ ?_
    rcases am_it h with ⟨hc, h⟩ | ⟨hc, h⟩
    · refine am_R.ct rfl rfl hc ?_
      obtain ⟨hC, h⟩ := am_gd h
      refine am_R.go 10 (q' := (44, [some (.ref 0), some (.int p1), some (.int p2)], [.int 1], am_up M9 10 (((10 * p2) + p1).toNatClampNeg) 5)) rfl ⟨hC, trivial⟩ ?_
      cases h
      exact am_R.ret rfl rfl trivial
    · refine am_R.cn rfl rfl hc ?_
      refine am_R.go 1 (q' := (30, [some (.ref 0), some (.int p1), some (.int p2)], [.int 0], M9)) rfl trivial ?_
      cases h
      exact am_R.ret rfl rfl trivial
def f_X10_fell (N : Nat) (p1 : Int32) (p2 : Int32) (M : am_M) : Option (Except Nat (Option Value) × am_M) :=
  am_bi (f_X10_isCell N p1 p2 1 (am_up M 0 0 0)) fun r9 M9 =>
    if r9 = 0 then
      some (.ok (some (.int 0)), M9)
    else
      if am_in ((10 * p2) + p1) 100 then
        some (.ok (some (.int (M9 11 (((10 * p2) + p1).toNatClampNeg)))), am_up M9 11 (((10 * p2) + p1).toNatClampNeg) 0)
      else none
set_option maxRecDepth 100000 in
theorem t_X10_fell (z : Value) (N : Nat) (p1 : Int32) (p2 : Int32) (M : am_M) {r : Except Nat (Option Value)} {M' : am_M} (h : f_X10_fell N p1 p2 M = some (r, M')) : mR z me_X10_fell (0, [some (.ref 0), some (.int p1), some (.int p2), none], [], M) r M' := by
  unfold f_X10_fell at h
  refine am_R.go 7 (q' := (9, [some (.ref 0), some (.int p1), some (.int p2), none], [.int 1, .int p2, .int p1, .ref 0], am_up M 0 0 0)) rfl trivial ?_
  obtain ⟨r9, M9, hz, h⟩ := am_bi_s h
  refine am_R.call (e' := me_X10_isCell) (as := [.ref 0, .int p1, .int p2, .int 1]) (rest := []) rfl rfl (Nat.le_of_ble_eq_true rfl) (t_X10_isCell z N p1 p2 1 _ hz) ?_
  rcases am_it h with ⟨hc, h⟩ | ⟨hc, h⟩
  · refine am_R.cn rfl rfl (fun q => q hc) ?_
    refine am_R.go 1 (q' := (16, [some (.ref 0), some (.int p1), some (.int p2), none], [.int 0], M9)) rfl trivial ?_
    cases h
    exact am_R.ret rfl rfl trivial
  · refine am_R.ct rfl rfl hc ?_
    obtain ⟨hC, h⟩ := am_gd h
    refine am_R.go 19 (q' := (42, [some (.ref 0), some (.int p1), some (.int p2), some (.int (M9 11 (((10 * p2) + p1).toNatClampNeg)))], [.int (M9 11 (((10 * p2) + p1).toNatClampNeg))], am_up M9 11 (((10 * p2) + p1).toNatClampNeg) 0)) rfl ⟨hC, hC, trivial⟩ ?_
    cases h
    exact am_R.ret rfl rfl trivial
def f_X10_years (N : Nat) (p1 : Int32) (M : am_M) : Option (Except Nat (Option Value) × am_M) :=
  am_bi (f_X10_within N p1 0 20 (am_up M 0 0 0)) fun r10 M10 =>
    am_bi (f_X10_may N r10 1 2 M10) fun r15 M15 =>
      if r15 = 0 then
        some (.ok (some (.int 0)), M15)
      else
        if ((M15 0 42) + p1) ≤ 20 then
          some (.ok (some (.int ((M15 0 42) + p1))), am_up M15 0 42 ((M15 0 42) + p1))
        else
          some (.ok (some (.int 20)), am_up M15 0 42 20)
set_option maxRecDepth 100000 in
theorem t_X10_years (z : Value) (N : Nat) (p1 : Int32) (M : am_M) {r : Except Nat (Option Value)} {M' : am_M} (h : f_X10_years N p1 M = some (r, M')) : mR z me_X10_years (0, [some (.ref 0), some (.int p1)], [], M) r M' := by
  unfold f_X10_years at h
  refine am_R.go 7 (q' := (10, [some (.ref 0), some (.int p1)], [.int 20, .int 0, .int p1, .ref 0], am_up M 0 0 0)) rfl trivial ?_
  obtain ⟨r10, M10, hz, h⟩ := am_bi_s h
  refine am_R.call (e' := me_X10_within) (as := [.int p1, .int 0, .int 20]) (rest := [.ref 0]) rfl rfl (Nat.le_of_ble_eq_true rfl) (t_X10_within z N p1 0 20 _ hz) ?_
  refine am_R.go 2 (q' := (15, [some (.ref 0), some (.int p1)], [.int 2, .int 1, .int r10, .ref 0], M10)) rfl trivial ?_
  obtain ⟨r15, M15, hz, h⟩ := am_bi_s h
  refine am_R.call (e' := me_X10_may) (as := [.ref 0, .int r10, .int 1, .int 2]) (rest := []) rfl rfl (Nat.le_of_ble_eq_true rfl) (t_X10_may z N r10 1 2 _ hz) ?_
  rcases am_it h with ⟨hc, h⟩ | ⟨hc, h⟩
  · refine am_R.cn rfl rfl (fun q => q hc) ?_
    refine am_R.go 1 (q' := (22, [some (.ref 0), some (.int p1)], [.int 0], M15)) rfl trivial ?_
    cases h
    exact am_R.ret rfl rfl trivial
  · refine am_R.ct rfl rfl hc ?_
    refine am_R.go 6 (q' := (32, [some (.ref 0), some (.int p1)], [.int 20, .int ((M15 0 42) + p1), .ref 0], M15)) rfl trivial ?_
    rcases am_it h with ⟨hc, h⟩ | ⟨hc, h⟩
    · refine am_R.bt rfl rfl hc ?_
      refine am_R.go 7 (q' := (53, [some (.ref 0), some (.int p1)], [.int ((M15 0 42) + p1)], am_up M15 0 42 ((M15 0 42) + p1))) rfl trivial ?_
      cases h
      exact am_R.ret rfl rfl trivial
    · refine am_R.bn rfl rfl hc ?_
      refine am_R.go 5 (q' := (53, [some (.ref 0), some (.int p1)], [.int 20], am_up M15 0 42 20)) rfl trivial ?_
      cases h
      exact am_R.ret rfl rfl trivial
def f_X10_isFog (N : Nat) (p1 : Int32) (M : am_M) : Option (Except Nat (Option Value) × am_M) :=
  am_bi (f_X10_within N p1 0 9 M) fun r4 M4 =>
    if am_z r4 then some (.ok (some (.int r4)), M4) else none
set_option maxRecDepth 100000 in
theorem t_X10_isFog (z : Value) (N : Nat) (p1 : Int32) (M : am_M) {r : Except Nat (Option Value)} {M' : am_M} (h : f_X10_isFog N p1 M = some (r, M')) : mR z me_X10_isFog (0, [some (.ref 0), some (.int p1)], [], M) r M' := by
  unfold f_X10_isFog at h
  refine am_R.go 3 (q' := (4, [some (.ref 0), some (.int p1)], [.int 9, .int 0, .int p1], M)) rfl trivial ?_
  obtain ⟨r4, M4, hz, h⟩ := am_bi_s h
  refine am_R.call (e' := me_X10_within) (as := [.int p1, .int 0, .int 9]) (rest := []) rfl rfl (Nat.le_of_ble_eq_true rfl) (t_X10_within z N p1 0 9 _ hz) ?_
  obtain ⟨hC, h⟩ := am_gd h
  cases h
  exact am_R.ret rfl rfl hC
def f_X10_falls_2B (N : Nat) (v1 : Int32) (v2 : Int32) (k2 : Int32 → am_M → Option (Except Nat (Option Value) × am_M)) (v3 : Int32) (M : am_M) : Option (Except Nat (Option Value) × am_M) :=
  if (M 0 35) ≤ v3 then
    some (.ok none, M)
  else
    if am_in (2 * v3) 16 then
      if (M 12 ((2 * v3).toNatClampNeg)) = v1 then
        if am_in ((2 * v3) + 1) 16 then
          if v2 < (M 12 (((2 * v3) + 1).toNatClampNeg)) then
            k2 (v3 + 1) M
          else
            k2 (v3 + 1) (am_up M 0 49 ((M 0 49) ||| (1 <<< (v3 &&& 31))))
        else none
      else
        k2 (v3 + 1) M
    else none
def f_X10_falls_2 (N : Nat) (v1 : Int32) (v2 : Int32) : Nat → Int32 → am_M → Option (Except Nat (Option Value) × am_M)
  | 0 => fun _ _ => none
  | n + 1 => f_X10_falls_2B N v1 v2 (f_X10_falls_2 N v1 v2 n)
set_option maxRecDepth 100000 in
theorem t_X10_falls_2B (z : Value) (N : Nat) (v1 : Int32) (v2 : Int32) {r : Except Nat (Option Value)} {M' : am_M} (k2 : Int32 → am_M → Option (Except Nat (Option Value) × am_M)) (hk2 : ∀ (v3 : Int32) (M : am_M), k2 v3 M = some (r, M') → mR z me_X10_falls (2, [some (.ref 0), some (.int v1), some (.int v2), some (.int v3)], [], M) r M') (v3 : Int32) (M : am_M) (h : f_X10_falls_2B N v1 v2 k2 v3 M = some (r, M')) : mR z me_X10_falls (2, [some (.ref 0), some (.int v1), some (.int v2), some (.int v3)], [], M) r M' := by
  unfold f_X10_falls_2B at h
  refine am_R.go 3 (q' := (7, [some (.ref 0), some (.int v1), some (.int v2), some (.int v3)], [.int (M 0 35), .int v3], M)) rfl trivial ?_
  rcases am_it h with ⟨hc, h⟩ | ⟨hc, h⟩
  · refine am_R.bt rfl rfl hc ?_
    cases h
    exact am_R.ret rfl rfl trivial
  · refine am_R.bn rfl rfl hc ?_
    obtain ⟨hC, h⟩ := am_gd h
    refine am_R.go 7 (q' := (19, [some (.ref 0), some (.int v1), some (.int v2), some (.int v3)], [.int v1, .int (M 12 ((2 * v3).toNatClampNeg))], M)) rfl ⟨hC, trivial⟩ ?_
    rcases am_it h with ⟨hc, h⟩ | ⟨hc, h⟩
    · refine am_R.bn rfl rfl (fun q => q hc) ?_
      obtain ⟨hC, h⟩ := am_gd h
      refine am_R.go 9 (q' := (33, [some (.ref 0), some (.int v1), some (.int v2), some (.int v3)], [.int (M 12 (((2 * v3) + 1).toNatClampNeg)), .int v2], M)) rfl ⟨hC, trivial⟩ ?_
      rcases am_it h with ⟨hc, h⟩ | ⟨hc, h⟩
      · refine am_R.bt rfl rfl hc ?_
        refine am_R.go 2 (q' := (2, [some (.ref 0), some (.int v1), some (.int v2), some (.int (v3 + 1))], [], M)) rfl trivial ?_
        exact hk2 (v3 + 1) _ h
      · refine am_R.bn rfl rfl hc ?_
        refine am_R.go 10 (q' := (2, [some (.ref 0), some (.int v1), some (.int v2), some (.int (v3 + 1))], [], am_up M 0 49 ((M 0 49) ||| (1 <<< (v3 &&& 31))))) rfl trivial ?_
        exact hk2 (v3 + 1) _ h
    · refine am_R.bt rfl rfl hc ?_
      refine am_R.go 2 (q' := (2, [some (.ref 0), some (.int v1), some (.int v2), some (.int (v3 + 1))], [], M)) rfl trivial ?_
      exact hk2 (v3 + 1) _ h
set_option maxRecDepth 100000 in
theorem t_X10_falls_2 (z : Value) (N : Nat) (v1 : Int32) (v2 : Int32) {r : Except Nat (Option Value)} {M' : am_M} : ∀ (n : Nat) (v3 : Int32) (M : am_M), f_X10_falls_2 N v1 v2 n v3 M = some (r, M') → mR z me_X10_falls (2, [some (.ref 0), some (.int v1), some (.int v2), some (.int v3)], [], M) r M' := by
  intro n
  induction n with
  | zero => intro v3 M h; cases h
  | succ n ih => intro v3 M h; exact t_X10_falls_2B z N v1 v2 _ ih v3 M h
def f_X10_falls (N : Nat) (p1 : Int32) (p2 : Int32) (M : am_M) : Option (Except Nat (Option Value) × am_M) :=
  f_X10_falls_2 N p1 p2 N 0 M
set_option maxRecDepth 100000 in
theorem t_X10_falls (z : Value) (N : Nat) (p1 : Int32) (p2 : Int32) (M : am_M) {r : Except Nat (Option Value)} {M' : am_M} (h : f_X10_falls N p1 p2 M = some (r, M')) : mR z me_X10_falls (0, [some (.ref 0), some (.int p1), some (.int p2), none], [], M) r M' := by
  unfold f_X10_falls at h
  refine am_R.go 2 (q' := (2, [some (.ref 0), some (.int p1), some (.int p2), some (.int 0)], [], M)) rfl trivial ?_
  exact t_X10_falls_2 z N p1 p2 N 0 _ h
def f_X10_across (N : Nat) (p0 : Int32) (M : am_M) : Option (Except Nat (Option Value) × am_M) :=
  if p0 = 0 then
    some (.ok (some (.int 1)), M)
  else
    if p0 = 1 then
      some (.ok (some (.int 1)), M)
    else
      if p0 = 7 then
        some (.ok (some (.int 1)), M)
      else
        if p0 = 2 then
          some (.ok (some (.int 0)), M)
        else
          if p0 = 6 then
            some (.ok (some (.int 0)), M)
          else
            some (.ok (some (.int (-1))), M)
set_option maxRecDepth 100000 in
theorem t_X10_across (z : Value) (N : Nat) (p0 : Int32) (M : am_M) {r : Except Nat (Option Value)} {M' : am_M} (h : f_X10_across N p0 M = some (r, M')) : mR z me_X10_across (0, [some (.int p0)], [], M) r M' := by
  unfold f_X10_across at h
  refine am_R.go 1 (q' := (1, [some (.int p0)], [.int p0], M)) rfl trivial ?_
  rcases am_it h with ⟨hc, h⟩ | ⟨hc, h⟩
  · refine am_R.ct rfl rfl hc ?_
    refine am_R.go 2 (q' := (35, [some (.int p0)], [.int 1], M)) rfl trivial ?_
    cases h
    exact am_R.ret rfl rfl trivial
  · refine am_R.cn rfl rfl hc ?_
    refine am_R.go 2 (q' := (6, [some (.int p0)], [.int 1, .int p0], M)) rfl trivial ?_
    rcases am_it h with ⟨hc, h⟩ | ⟨hc, h⟩
    · refine am_R.bt rfl rfl hc ?_
      refine am_R.go 2 (q' := (35, [some (.int p0)], [.int 1], M)) rfl trivial ?_
      cases h
      exact am_R.ret rfl rfl trivial
    · refine am_R.bn rfl rfl hc ?_
      refine am_R.go 2 (q' := (12, [some (.int p0)], [.int 7, .int p0], M)) rfl trivial ?_
      rcases am_it h with ⟨hc, h⟩ | ⟨hc, h⟩
      · refine am_R.bn rfl rfl (fun q => q hc) ?_
        refine am_R.go 2 (q' := (35, [some (.int p0)], [.int 1], M)) rfl trivial ?_
        cases h
        exact am_R.ret rfl rfl trivial
      · refine am_R.bt rfl rfl hc ?_
        refine am_R.go 2 (q' := (21, [some (.int p0)], [.int 2, .int p0], M)) rfl trivial ?_
        rcases am_it h with ⟨hc, h⟩ | ⟨hc, h⟩
        · refine am_R.bt rfl rfl hc ?_
          refine am_R.go 2 (q' := (35, [some (.int p0)], [.int 0], M)) rfl trivial ?_
          cases h
          exact am_R.ret rfl rfl trivial
        · refine am_R.bn rfl rfl hc ?_
          refine am_R.go 2 (q' := (27, [some (.int p0)], [.int 6, .int p0], M)) rfl trivial ?_
          rcases am_it h with ⟨hc, h⟩ | ⟨hc, h⟩
          · refine am_R.bn rfl rfl (fun q => q hc) ?_
            refine am_R.go 2 (q' := (35, [some (.int p0)], [.int 0], M)) rfl trivial ?_
            cases h
            exact am_R.ret rfl rfl trivial
          · refine am_R.bt rfl rfl hc ?_
            refine am_R.go 1 (q' := (35, [some (.int p0)], [.int (-1)], M)) rfl trivial ?_
            cases h
            exact am_R.ret rfl rfl trivial
def f_X10_down (N : Nat) (p0 : Int32) (M : am_M) : Option (Except Nat (Option Value) × am_M) :=
  am_bi (f_X10_within N p0 1 3 M) fun r3 M3 =>
    if r3 = 0 then
      am_bi (f_X10_within N p0 5 7 M3) fun r17 M17 =>
        if r17 = 0 then
          some (.ok (some (.int 0)), M17)
        else
          some (.ok (some (.int (-1))), M17)
    else
      some (.ok (some (.int 1)), M3)
set_option maxRecDepth 100000 in
theorem t_X10_down (z : Value) (N : Nat) (p0 : Int32) (M : am_M) {r : Except Nat (Option Value)} {M' : am_M} (h : f_X10_down N p0 M = some (r, M')) : mR z me_X10_down (0, [some (.int p0)], [], M) r M' := by
  unfold f_X10_down at h
  refine am_R.go 3 (q' := (3, [some (.int p0)], [.int 3, .int 1, .int p0], M)) rfl trivial ?_
  obtain ⟨r3, M3, hz, h⟩ := am_bi_s h
  refine am_R.call (e' := me_X10_within) (as := [.int p0, .int 1, .int 3]) (rest := []) rfl rfl (Nat.le_of_ble_eq_true rfl) (t_X10_within z N p0 1 3 _ hz) ?_
  rcases am_it h with ⟨hc, h⟩ | ⟨hc, h⟩
  · refine am_R.ct rfl rfl hc ?_
    refine am_R.go 3 (q' := (17, [some (.int p0)], [.int 7, .int 5, .int p0], M3)) rfl trivial ?_
    obtain ⟨r17, M17, hz, h⟩ := am_bi_s h
    refine am_R.call (e' := me_X10_within) (as := [.int p0, .int 5, .int 7]) (rest := []) rfl rfl (Nat.le_of_ble_eq_true rfl) (t_X10_within z N p0 5 7 _ hz) ?_
    rcases am_it h with ⟨hc, h⟩ | ⟨hc, h⟩
    · refine am_R.ct rfl rfl hc ?_
      refine am_R.go 1 (q' := (28, [some (.int p0)], [.int 0], M17)) rfl trivial ?_
      cases h
      exact am_R.ret rfl rfl trivial
    · refine am_R.cn rfl rfl hc ?_
      refine am_R.go 2 (q' := (28, [some (.int p0)], [.int (-1)], M17)) rfl trivial ?_
      cases h
      exact am_R.ret rfl rfl trivial
  · refine am_R.cn rfl rfl hc ?_
    refine am_R.go 2 (q' := (28, [some (.int p0)], [.int 1], M3)) rfl trivial ?_
    cases h
    exact am_R.ret rfl rfl trivial
def f_X10_hard (N : Nat) (p1 : Int32) (M : am_M) : Option (Except Nat (Option Value) × am_M) :=
  if am_in p1 100 then
    if (M 10 (p1.toNatClampNeg)) ≤ 0 then
      if am_in p1 100 then
        some (.ok (some (.int (M 21 (p1.toNatClampNeg)))), M)
      else none
    else
      if am_in p1 100 then
        some (.ok (some (.int (M 10 (p1.toNatClampNeg)))), M)
      else none
  else none
set_option maxRecDepth 100000 in
theorem t_X10_hard (z : Value) (N : Nat) (p1 : Int32) (M : am_M) {r : Except Nat (Option Value)} {M' : am_M} (h : f_X10_hard N p1 M = some (r, M')) : mR z me_X10_hard (0, [some (.ref 0), some (.int p1)], [], M) r M' := by
  unfold f_X10_hard at h
  obtain ⟨hC, h⟩ := am_gd h
  refine am_R.go 4 (q' := (6, [some (.ref 0), some (.int p1)], [.int (M 10 (p1.toNatClampNeg))], M)) rfl ⟨hC, trivial⟩ ?_
  rcases am_it h with ⟨hc, h⟩ | ⟨hc, h⟩
  · refine am_R.ct rfl rfl hc ?_
    obtain ⟨hC, h⟩ := am_gd h
    refine am_R.go 4 (q' := (24, [some (.ref 0), some (.int p1)], [.int (M 21 (p1.toNatClampNeg))], M)) rfl ⟨hC, trivial⟩ ?_
    cases h
    exact am_R.ret rfl rfl trivial
  · refine am_R.cn rfl rfl hc ?_
    obtain ⟨hC, h⟩ := am_gd h
    refine am_R.go 5 (q' := (24, [some (.ref 0), some (.int p1)], [.int (M 10 (p1.toNatClampNeg))], M)) rfl ⟨hC, trivial⟩ ?_
    cases h
    exact am_R.ret rfl rfl trivial
def f_X10_puts_94 (N : Nat) (v1 : Int32) (v2 : Int32) (v3 : Int32) (v4 : Int32) (v5 : Int32) (M : am_M) : Option (Except Nat (Option Value) × am_M) :=
  if am_in v5 24 then
    some (.ok none, am_up (am_up (am_up (am_up (am_up M 17 (v5.toNatClampNeg) v1) 18 (v5.toNatClampNeg) v2) 19 (v5.toNatClampNeg) v3) 20 (v5.toNatClampNeg) v4) 0 48 ((M 0 48) + 1))
  else none
set_option maxRecDepth 100000 in
theorem t_X10_puts_94 (z : Value) (N : Nat) {r : Except Nat (Option Value)} {M' : am_M} (v1 : Int32) (v2 : Int32) (v3 : Int32) (v4 : Int32) (v5 : Int32) (M : am_M) (h : f_X10_puts_94 N v1 v2 v3 v4 v5 M = some (r, M')) : mR z me_X10_puts (94, [some (.ref 0), some (.int v1), some (.int v2), some (.int v3), some (.int v4), some (.int v5)], [], M) r M' := by
  unfold f_X10_puts_94 at h
  obtain ⟨hC, h⟩ := am_gd h
  refine am_R.go 26 (q' := (137, [some (.ref 0), some (.int v1), some (.int v2), some (.int v3), some (.int v4), some (.int v5)], [], am_up (am_up (am_up (am_up (am_up M 17 (v5.toNatClampNeg) v1) 18 (v5.toNatClampNeg) v2) 19 (v5.toNatClampNeg) v3) 20 (v5.toNatClampNeg) v4) 0 48 ((M 0 48) + 1))) rfl ⟨hC, hC, hC, hC, trivial⟩ ?_
  cases h
  exact am_R.ret rfl rfl trivial
def f_X10_puts_6B (N : Nat) (v1 : Int32) (v2 : Int32) (v3 : Int32) (v4 : Int32) (k6 : Int32 → am_M → Option (Except Nat (Option Value) × am_M)) (v5 : Int32) (M : am_M) : Option (Except Nat (Option Value) × am_M) :=
  if v5 ≤ 0 then
    f_X10_puts_94 N v1 v2 v3 v4 v5 M
  else
    if am_in (v5 - 1) 24 then
      if (M 17 ((v5 - 1).toNatClampNeg)) ≤ v1 then
        f_X10_puts_94 N v1 v2 v3 v4 v5 M
      else
        if am_in (v5 - 1) 24 ∧ am_in v5 24 then
          k6 (v5 + (-1)) (am_up (am_up (am_up (am_up M 17 (v5.toNatClampNeg) (M 17 ((v5 - 1).toNatClampNeg))) 18 (v5.toNatClampNeg) (M 18 ((v5 - 1).toNatClampNeg))) 19 (v5.toNatClampNeg) (M 19 ((v5 - 1).toNatClampNeg))) 20 (v5.toNatClampNeg) (M 20 ((v5 - 1).toNatClampNeg)))
        else none
    else none
def f_X10_puts_6 (N : Nat) (v1 : Int32) (v2 : Int32) (v3 : Int32) (v4 : Int32) : Nat → Int32 → am_M → Option (Except Nat (Option Value) × am_M)
  | 0 => fun _ _ => none
  | n + 1 => f_X10_puts_6B N v1 v2 v3 v4 (f_X10_puts_6 N v1 v2 v3 v4 n)
set_option maxRecDepth 100000 in
theorem t_X10_puts_6B (z : Value) (N : Nat) (v1 : Int32) (v2 : Int32) (v3 : Int32) (v4 : Int32) {r : Except Nat (Option Value)} {M' : am_M} (k6 : Int32 → am_M → Option (Except Nat (Option Value) × am_M)) (hk6 : ∀ (v5 : Int32) (M : am_M), k6 v5 M = some (r, M') → mR z me_X10_puts (6, [some (.ref 0), some (.int v1), some (.int v2), some (.int v3), some (.int v4), some (.int v5)], [], M) r M') (v5 : Int32) (M : am_M) (h : f_X10_puts_6B N v1 v2 v3 v4 k6 v5 M = some (r, M')) : mR z me_X10_puts (6, [some (.ref 0), some (.int v1), some (.int v2), some (.int v3), some (.int v4), some (.int v5)], [], M) r M' := by
  unfold f_X10_puts_6B at h
  refine am_R.go 1 (q' := (8, [some (.ref 0), some (.int v1), some (.int v2), some (.int v3), some (.int v4), some (.int v5)], [.int v5], M)) rfl trivial ?_
  rcases am_it h with ⟨hc, h⟩ | ⟨hc, h⟩
  · refine am_R.ct rfl rfl hc ?_
    exact t_X10_puts_94 z N v1 v2 v3 v4 v5 _ h
  · refine am_R.cn rfl rfl hc ?_
    obtain ⟨hC, h⟩ := am_gd h
    refine am_R.go 7 (q' := (21, [some (.ref 0), some (.int v1), some (.int v2), some (.int v3), some (.int v4), some (.int v5)], [.int v1, .int (M 17 ((v5 - 1).toNatClampNeg))], M)) rfl ⟨hC, trivial⟩ ?_
    rcases am_it h with ⟨hc, h⟩ | ⟨hc, h⟩
    · refine am_R.bt rfl rfl hc ?_
      exact t_X10_puts_94 z N v1 v2 v3 v4 v5 _ h
    · refine am_R.bn rfl rfl hc ?_
      obtain ⟨hC, h⟩ := am_gd h
      refine am_R.go 42 (q' := (6, [some (.ref 0), some (.int v1), some (.int v2), some (.int v3), some (.int v4), some (.int (v5 + (-1)))], [], am_up (am_up (am_up (am_up M 17 (v5.toNatClampNeg) (M 17 ((v5 - 1).toNatClampNeg))) 18 (v5.toNatClampNeg) (M 18 ((v5 - 1).toNatClampNeg))) 19 (v5.toNatClampNeg) (M 19 ((v5 - 1).toNatClampNeg))) 20 (v5.toNatClampNeg) (M 20 ((v5 - 1).toNatClampNeg)))) rfl ⟨hC.1, hC.2, hC.1, hC.2, hC.1, hC.2, hC.1, hC.2, trivial⟩ ?_
      exact hk6 (v5 + (-1)) _ h
set_option maxRecDepth 100000 in
theorem t_X10_puts_6 (z : Value) (N : Nat) (v1 : Int32) (v2 : Int32) (v3 : Int32) (v4 : Int32) {r : Except Nat (Option Value)} {M' : am_M} : ∀ (n : Nat) (v5 : Int32) (M : am_M), f_X10_puts_6 N v1 v2 v3 v4 n v5 M = some (r, M') → mR z me_X10_puts (6, [some (.ref 0), some (.int v1), some (.int v2), some (.int v3), some (.int v4), some (.int v5)], [], M) r M' := by
  intro n
  induction n with
  | zero => intro v5 M h; cases h
  | succ n ih => intro v5 M h; exact t_X10_puts_6B z N v1 v2 v3 v4 _ ih v5 M h
def f_X10_puts (N : Nat) (p1 : Int32) (p2 : Int32) (p3 : Int32) (p4 : Int32) (M : am_M) : Option (Except Nat (Option Value) × am_M) :=
  f_X10_puts_6 N p1 p2 p3 p4 N (M 0 48) M
set_option maxRecDepth 100000 in
theorem t_X10_puts (z : Value) (N : Nat) (p1 : Int32) (p2 : Int32) (p3 : Int32) (p4 : Int32) (M : am_M) {r : Except Nat (Option Value)} {M' : am_M} (h : f_X10_puts N p1 p2 p3 p4 M = some (r, M')) : mR z me_X10_puts (0, [some (.ref 0), some (.int p1), some (.int p2), some (.int p3), some (.int p4), none], [], M) r M' := by
  unfold f_X10_puts at h
  refine am_R.go 3 (q' := (6, [some (.ref 0), some (.int p1), some (.int p2), some (.int p3), some (.int p4), some (.int (M 0 48))], [], M)) rfl trivial ?_
  exact t_X10_puts_6 z N p1 p2 p3 p4 N (M 0 48) _ h
