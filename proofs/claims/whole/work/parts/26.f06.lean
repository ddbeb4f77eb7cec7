def f_X3_noteCount_60 (N : Nat) (v3 : Int32) (M : am_M) : Option (Except Nat (Option Value) × am_M) :=
  some (.ok none, am_up (am_up M 57 6 ((M 57 6) + v3)) 57 7 ((M 57 7) + 1))
set_option maxRecDepth 100000 in
theorem t_X3_noteCount_60 (z : Value) (N : Nat) {r : Except Nat (Option Value)} {M' : am_M} (v3 : Int32) (d1 : Option Value) (d2 : Option Value) (M : am_M) (h : f_X3_noteCount_60 N v3 M = some (r, M')) : cR z me_X3_noteCount (60, [some (.ref 57), d1, d2, some (.int v3)], [], M) r M' := by
  unfold f_X3_noteCount_60 at h
  refine am_R.go 12 (q' := (80, [some (.ref 57), d1, d2, some (.int v3)], [], am_up (am_up M 57 6 ((M 57 6) + v3)) 57 7 ((M 57 7) + 1))) rfl trivial ?_
  cases h
  exact am_R.ret rfl rfl trivial
def f_X3_noteCount_45 (N : Nat) (v1 : Int32) (v2 : Int32) (v3 : Int32) (M : am_M) : Option (Except Nat (Option Value) × am_M) :=
  f_X3_noteCount_60 N v3 (am_up (am_up (am_up M 57 3 v3) 57 4 v1) 57 5 v2)
set_option maxRecDepth 100000 in
theorem t_X3_noteCount_45 (z : Value) (N : Nat) {r : Except Nat (Option Value)} {M' : am_M} (v1 : Int32) (v2 : Int32) (v3 : Int32) (M : am_M) (h : f_X3_noteCount_45 N v1 v2 v3 M = some (r, M')) : cR z me_X3_noteCount (45, [some (.ref 57), some (.int v1), some (.int v2), some (.int v3)], [], M) r M' := by
  unfold f_X3_noteCount_45 at h
  refine am_R.go 9 (q' := (60, [some (.ref 57), some (.int v1), some (.int v2), some (.int v3)], [], am_up (am_up (am_up M 57 3 v3) 57 4 v1) 57 5 v2)) rfl trivial ?_
  exact t_X3_noteCount_60 z N v3 _ _ _ h
def f_X3_noteCount_30 (N : Nat) (v1 : Int32) (v2 : Int32) (v3 : Int32) (M : am_M) : Option (Except Nat (Option Value) × am_M) :=
  if (M 57 7) = 0 then
    f_X3_noteCount_45 N v1 v2 v3 M
  else
    if (M 57 3) ≤ v3 then
      f_X3_noteCount_60 N v3 M
    else
      f_X3_noteCount_45 N v1 v2 v3 M
set_option maxRecDepth 100000 in
theorem t_X3_noteCount_30 (z : Value) (N : Nat) {r : Except Nat (Option Value)} {M' : am_M} (v1 : Int32) (v2 : Int32) (v3 : Int32) (M : am_M) (h : f_X3_noteCount_30 N v1 v2 v3 M = some (r, M')) : cR z me_X3_noteCount (30, [some (.ref 57), some (.int v1), some (.int v2), some (.int v3)], [], M) r M' := by
  unfold f_X3_noteCount_30 at h
  refine am_R.go 2 (q' := (34, [some (.ref 57), some (.int v1), some (.int v2), some (.int v3)], [.int (M 57 7)], M)) rfl trivial ?_
  rcases am_it h with ⟨hc, h⟩ | ⟨hc, h⟩
  · refine am_R.ct rfl rfl hc ?_
    exact t_X3_noteCount_45 z N v1 v2 v3 _ h
  · refine am_R.cn rfl rfl hc ?_
    refine am_R.go 3 (q' := (42, [some (.ref 57), some (.int v1), some (.int v2), some (.int v3)], [.int (M 57 3), .int v3], M)) rfl trivial ?_
    rcases am_it h with ⟨hc, h⟩ | ⟨hc, h⟩
    · refine am_R.bt rfl rfl hc ?_
      exact t_X3_noteCount_60 z N v3 _ _ _ h
    · refine am_R.bn rfl rfl hc ?_
      exact t_X3_noteCount_45 z N v1 v2 v3 _ h
def f_X3_noteCount_15 (N : Nat) (v1 : Int32) (v2 : Int32) (v3 : Int32) (M : am_M) : Option (Except Nat (Option Value) × am_M) :=
  f_X3_noteCount_30 N v1 v2 v3 (am_up (am_up (am_up M 57 0 v3) 57 1 v1) 57 2 v2)
set_option maxRecDepth 100000 in
theorem t_X3_noteCount_15 (z : Value) (N : Nat) {r : Except Nat (Option Value)} {M' : am_M} (v1 : Int32) (v2 : Int32) (v3 : Int32) (M : am_M) (h : f_X3_noteCount_15 N v1 v2 v3 M = some (r, M')) : cR z me_X3_noteCount (15, [some (.ref 57), some (.int v1), some (.int v2), some (.int v3)], [], M) r M' := by
  unfold f_X3_noteCount_15 at h
  refine am_R.go 9 (q' := (30, [some (.ref 57), some (.int v1), some (.int v2), some (.int v3)], [], am_up (am_up (am_up M 57 0 v3) 57 1 v1) 57 2 v2)) rfl trivial ?_
  exact t_X3_noteCount_30 z N v1 v2 v3 _ h
def f_X3_noteCount (N : Nat) (p1 : Int32) (p2 : Int32) (p3 : Int32) (M : am_M) : Option (Except Nat (Option Value) × am_M) :=
  if (M 57 7) = 0 then
    f_X3_noteCount_15 N p1 p2 p3 M
  else
    if p3 ≤ (M 57 0) then
      f_X3_noteCount_30 N p1 p2 p3 M
    else
      f_X3_noteCount_15 N p1 p2 p3 M
set_option maxRecDepth 100000 in
theorem t_X3_noteCount (z : Value) (N : Nat) (p1 : Int32) (p2 : Int32) (p3 : Int32) (M : am_M) {r : Except Nat (Option Value)} {M' : am_M} (h : f_X3_noteCount N p1 p2 p3 M = some (r, M')) : cR z me_X3_noteCount (0, [some (.ref 57), some (.int p1), some (.int p2), some (.int p3)], [], M) r M' := by
  unfold f_X3_noteCount at h
  refine am_R.go 2 (q' := (4, [some (.ref 57), some (.int p1), some (.int p2), some (.int p3)], [.int (M 57 7)], M)) rfl trivial ?_
  rcases am_it h with ⟨hc, h⟩ | ⟨hc, h⟩
  · refine am_R.ct rfl rfl hc ?_
    exact t_X3_noteCount_15 z N p1 p2 p3 _ h
  · refine am_R.cn rfl rfl hc ?_
    refine am_R.go 3 (q' := (12, [some (.ref 57), some (.int p1), some (.int p2), some (.int p3)], [.int (M 57 0), .int p3], M)) rfl trivial ?_
    rcases am_it h with ⟨hc, h⟩ | ⟨hc, h⟩
    · refine am_R.bt rfl rfl hc ?_
      exact t_X3_noteCount_30 z N p1 p2 p3 _ h
    · refine am_R.bn rfl rfl hc ?_
      exact t_X3_noteCount_15 z N p1 p2 p3 _ h
def f_X3_survey_73B (N : Nat) (v1 : Int32) (v2 : Int32) (v3 : Int32) (v4 : Int32) (v5 : Int32) (v6 : Int32) (k52 : Int32 → am_M → Option (Except Nat (Option Value) × am_M)) (k73 : Int32 → am_M → Option (Except Nat (Option Value) × am_M)) (v7 : Int32) (M : am_M) : Option (Except Nat (Option Value) × am_M) :=
  if v4 < v7 then
    k52 (v6 + 1) M
  else
    am_bv (f_X6_shout N v7 v6 (M 2 2) v2 M) fun M96 =>
      am_bi (f_X6_countBy N v3 M96) fun r109 M109 =>
        am_bv (f_X3_noteCount N v7 v6 r109 M109) fun M112 =>
          k73 (v7 + 1) M112
def f_X3_survey_73 (N : Nat) (v1 : Int32) (v2 : Int32) (v3 : Int32) (v4 : Int32) (v5 : Int32) (v6 : Int32) (k52 : Int32 → am_M → Option (Except Nat (Option Value) × am_M)) : Nat → Int32 → am_M → Option (Except Nat (Option Value) × am_M)
  | 0 => fun _ _ => none
  | n + 1 => f_X3_survey_73B N v1 v2 v3 v4 v5 v6 k52 (f_X3_survey_73 N v1 v2 v3 v4 v5 v6 k52 n)
set_option maxRecDepth 100000 in
theorem t_X3_survey_73B (z : Value) (N : Nat) (v1 : Int32) (v2 : Int32) (v3 : Int32) (v4 : Int32) (v5 : Int32) (v6 : Int32) (k52 : Int32 → am_M → Option (Except Nat (Option Value) × am_M)) {r : Except Nat (Option Value)} {M' : am_M} (hk52 : ∀ (v6 : Int32) (d7 : Option Value) (M : am_M), k52 v6 M = some (r, M') → cR z me_X3_survey (52, [some (.ref 57), some (.int v1), some (.int v2), some (.int v3), some (.int v4), some (.int v5), some (.int v6), d7], [], M) r M') (k73 : Int32 → am_M → Option (Except Nat (Option Value) × am_M)) (hk73 : ∀ (v7 : Int32) (M : am_M), k73 v7 M = some (r, M') → cR z me_X3_survey (73, [some (.ref 57), some (.int v1), some (.int v2), some (.int v3), some (.int v4), some (.int v5), some (.int v6), some (.int v7)], [], M) r M') (v7 : Int32) (M : am_M) (h : f_X3_survey_73B N v1 v2 v3 v4 v5 v6 k52 k73 v7 M = some (r, M')) : cR z me_X3_survey (73, [some (.ref 57), some (.int v1), some (.int v2), some (.int v3), some (.int v4), some (.int v5), some (.int v6), some (.int v7)], [], M) r M' := by
  unfold f_X3_survey_73B at h
  refine am_R.go 2 (q' := (77, [some (.ref 57), some (.int v1), some (.int v2), some (.int v3), some (.int v4), some (.int v5), some (.int v6), some (.int v7)], [.int v4, .int v7], M)) rfl trivial ?_
  rcases am_it h with ⟨hc, h⟩ | ⟨hc, h⟩
  · refine am_R.bt rfl rfl hc ?_
    refine am_R.go 2 (q' := (52, [some (.ref 57), some (.int v1), some (.int v2), some (.int v3), some (.int v4), some (.int v5), some (.int (v6 + 1)), some (.int v7)], [], M)) rfl trivial ?_
    exact hk52 (v6 + 1) _ _ h
  · refine am_R.bn rfl rfl hc ?_
    refine am_R.go 8 (q' := (96, [some (.ref 57), some (.int v1), some (.int v2), some (.int v3), some (.int v4), some (.int v5), some (.int v6), some (.int v7)], [.int v2, .int (M 2 2), .int v6, .int v7, .ref 51], M)) rfl trivial ?_
    obtain ⟨M96, hz, h⟩ := am_bv_s h
    refine am_R.call (e' := me_X6_shout) (as := [.ref 51, .int v7, .int v6, .int (M 2 2), .int v2]) (rest := []) rfl rfl (Nat.le_of_ble_eq_true rfl) (t_X6_shout z N v7 v6 (M 2 2) v2 _ hz) ?_
    refine am_R.go 6 (q' := (109, [some (.ref 57), some (.int v1), some (.int v2), some (.int v3), some (.int v4), some (.int v5), some (.int v6), some (.int v7)], [.int v3, .ref 51, .int v6, .int v7, .ref 57], M96)) rfl trivial ?_
    obtain ⟨r109, M109, hz, h⟩ := am_bi_s h
    refine am_R.call (e' := me_X6_countBy) (as := [.ref 51, .int v3]) (rest := [.int v6, .int v7, .ref 57]) rfl rfl (Nat.le_of_ble_eq_true rfl) (t_X6_countBy z N v3 _ hz) ?_
    obtain ⟨M112, hz, h⟩ := am_bv_s h
    refine am_R.call (e' := me_X3_noteCount) (as := [.ref 57, .int v7, .int v6, .int r109]) (rest := []) rfl rfl (Nat.le_of_ble_eq_true rfl) (t_X3_noteCount z N v7 v6 r109 _ hz) ?_
    refine am_R.go 2 (q' := (73, [some (.ref 57), some (.int v1), some (.int v2), some (.int v3), some (.int v4), some (.int v5), some (.int v6), some (.int (v7 + 1))], [], M112)) rfl trivial ?_
    exact hk73 (v7 + 1) _ h
set_option maxRecDepth 100000 in
theorem t_X3_survey_73 (z : Value) (N : Nat) (v1 : Int32) (v2 : Int32) (v3 : Int32) (v4 : Int32) (v5 : Int32) (v6 : Int32) (k52 : Int32 → am_M → Option (Except Nat (Option Value) × am_M)) {r : Except Nat (Option Value)} {M' : am_M} (hk52 : ∀ (v6 : Int32) (d7 : Option Value) (M : am_M), k52 v6 M = some (r, M') → cR z me_X3_survey (52, [some (.ref 57), some (.int v1), some (.int v2), some (.int v3), some (.int v4), some (.int v5), some (.int v6), d7], [], M) r M') : ∀ (n : Nat) (v7 : Int32) (M : am_M), f_X3_survey_73 N v1 v2 v3 v4 v5 v6 k52 n v7 M = some (r, M') → cR z me_X3_survey (73, [some (.ref 57), some (.int v1), some (.int v2), some (.int v3), some (.int v4), some (.int v5), some (.int v6), some (.int v7)], [], M) r M' := by
  intro n
  induction n with
  | zero => intro v7 M h; cases h
  | succ n ih => intro v7 M h; exact t_X3_survey_73B z N v1 v2 v3 v4 v5 v6 k52 hk52 _ ih v7 M h
def f_X3_survey_52B (N : Nat) (v1 : Int32) (v2 : Int32) (v3 : Int32) (v4 : Int32) (v5 : Int32) (k52 : Int32 → am_M → Option (Except Nat (Option Value) × am_M)) (v6 : Int32) (M : am_M) : Option (Except Nat (Option Value) × am_M) :=
  if v5 < v6 then
    some (.ok none, M)
  else
    am_bi (f_X8_at_3 N v1 0 M) fun r68 M68 =>
      f_X3_survey_73 N v1 v2 v3 v4 v5 v6 k52 N r68 M68
def f_X3_survey_52 (N : Nat) (v1 : Int32) (v2 : Int32) (v3 : Int32) (v4 : Int32) (v5 : Int32) : Nat → Int32 → am_M → Option (Except Nat (Option Value) × am_M)
  | 0 => fun _ _ => none
  | n + 1 => f_X3_survey_52B N v1 v2 v3 v4 v5 (f_X3_survey_52 N v1 v2 v3 v4 v5 n)
set_option maxRecDepth 100000 in
theorem t_X3_survey_52B (z : Value) (N : Nat) (v1 : Int32) (v2 : Int32) (v3 : Int32) (v4 : Int32) (v5 : Int32) {r : Except Nat (Option Value)} {M' : am_M} (k52 : Int32 → am_M → Option (Except Nat (Option Value) × am_M)) (hk52 : ∀ (v6 : Int32) (d7 : Option Value) (M : am_M), k52 v6 M = some (r, M') → cR z me_X3_survey (52, [some (.ref 57), some (.int v1), some (.int v2), some (.int v3), some (.int v4), some (.int v5), some (.int v6), d7], [], M) r M') (v6 : Int32) (d7 : Option Value) (M : am_M) (h : f_X3_survey_52B N v1 v2 v3 v4 v5 k52 v6 M = some (r, M')) : cR z me_X3_survey (52, [some (.ref 57), some (.int v1), some (.int v2), some (.int v3), some (.int v4), some (.int v5), some (.int v6), d7], [], M) r M' := by
  unfold f_X3_survey_52B at h
  refine am_R.go 2 (q' := (56, [some (.ref 57), some (.int v1), some (.int v2), some (.int v3), some (.int v4), some (.int v5), some (.int v6), d7], [.int v5, .int v6], M)) rfl trivial ?_
  rcases am_it h with ⟨hc, h⟩ | ⟨hc, h⟩
  · refine am_R.bt rfl rfl hc ?_
    cases h
    exact am_R.ret rfl rfl trivial
  · refine am_R.bn rfl rfl hc ?_
    refine am_R.go 5 (q' := (68, [some (.ref 57), some (.int v1), some (.int v2), some (.int v3), some (.int v4), some (.int v5), some (.int v6), d7], [.int 0, .int v1, .ref 3], M)) rfl trivial ?_
    obtain ⟨r68, M68, hz, h⟩ := am_bi_s h
    refine am_R.call (e' := me_X8_at) (as := [.ref 3, .int v1, .int 0]) (rest := []) rfl rfl (Nat.le_of_ble_eq_true rfl) (t_X8_at_3 z N v1 0 _ hz) ?_
    refine am_R.go 1 (q' := (73, [some (.ref 57), some (.int v1), some (.int v2), some (.int v3), some (.int v4), some (.int v5), some (.int v6), some (.int r68)], [], M68)) rfl trivial ?_
    exact t_X3_survey_73 z N v1 v2 v3 v4 v5 v6 k52 hk52 N r68 _ h
set_option maxRecDepth 100000 in
theorem t_X3_survey_52 (z : Value) (N : Nat) (v1 : Int32) (v2 : Int32) (v3 : Int32) (v4 : Int32) (v5 : Int32) {r : Except Nat (Option Value)} {M' : am_M} : ∀ (n : Nat) (v6 : Int32) (d7 : Option Value) (M : am_M), f_X3_survey_52 N v1 v2 v3 v4 v5 n v6 M = some (r, M') → cR z me_X3_survey (52, [some (.ref 57), some (.int v1), some (.int v2), some (.int v3), some (.int v4), some (.int v5), some (.int v6), d7], [], M) r M' := by
  intro n
  induction n with
  | zero => intro v6 d7 M h; cases h
  | succ n ih => intro v6 d7 M h; exact t_X3_survey_52B z N v1 v2 v3 v4 v5 _ ih v6 d7 M h
def f_X3_survey (N : Nat) (p1 : Int32) (p2 : Int32) (p3 : Int32) (M : am_M) : Option (Except Nat (Option Value) × am_M) :=
  am_bi (f_X8_at_3 N p1 2 M) fun r9 M9 =>
    am_bi (f_X8_at_3 N p1 3 M9) fun r23 M23 =>
      am_bi (f_X8_at_3 N p1 1 (am_up (am_up M23 57 6 0) 57 7 0)) fun r47 M47 =>
        f_X3_survey_52 N p1 p2 p3 r9 r23 N r47 M47
set_option maxRecDepth 100000 in
theorem t_X3_survey (z : Value) (N : Nat) (p1 : Int32) (p2 : Int32) (p3 : Int32) (M : am_M) {r : Except Nat (Option Value)} {M' : am_M} (h : f_X3_survey N p1 p2 p3 M = some (r, M')) : cR z me_X3_survey (0, [some (.ref 57), some (.int p1), some (.int p2), some (.int p3), none, none, none, none], [], M) r M' := by
  unfold f_X3_survey at h
  refine am_R.go 5 (q' := (9, [some (.ref 57), some (.int p1), some (.int p2), some (.int p3), none, none, none, none], [.int 2, .int p1, .ref 3], M)) rfl trivial ?_
  obtain ⟨r9, M9, hz, h⟩ := am_bi_s h
  refine am_R.call (e' := me_X8_at) (as := [.ref 3, .int p1, .int 2]) (rest := []) rfl rfl (Nat.le_of_ble_eq_true rfl) (t_X8_at_3 z N p1 2 _ hz) ?_
  refine am_R.go 6 (q' := (23, [some (.ref 57), some (.int p1), some (.int p2), some (.int p3), some (.int r9), none, none, none], [.int 3, .int p1, .ref 3], M9)) rfl trivial ?_
  obtain ⟨r23, M23, hz, h⟩ := am_bi_s h
  refine am_R.call (e' := me_X8_at) (as := [.ref 3, .int p1, .int 3]) (rest := []) rfl rfl (Nat.le_of_ble_eq_true rfl) (t_X8_at_3 z N p1 3 _ hz) ?_
  refine am_R.go 12 (q' := (47, [some (.ref 57), some (.int p1), some (.int p2), some (.int p3), some (.int r9), some (.int r23), none, none], [.int 1, .int p1, .ref 3], am_up (am_up M23 57 6 0) 57 7 0)) rfl trivial ?_
  obtain ⟨r47, M47, hz, h⟩ := am_bi_s h
  refine am_R.call (e' := me_X8_at) (as := [.ref 3, .int p1, .int 1]) (rest := []) rfl rfl (Nat.le_of_ble_eq_true rfl) (t_X8_at_3 z N p1 1 _ hz) ?_
  refine am_R.go 1 (q' := (52, [some (.ref 57), some (.int p1), some (.int p2), some (.int p3), some (.int r9), some (.int r23), some (.int r47), none], [], M47)) rfl trivial ?_
  exact t_X3_survey_52 z N p1 p2 p3 r9 r23 N r47 _ _ h
def f_X9_most (N : Nat) (p1 : Int32) (p2 : Int32) (p3 : Int32) (p4 : Int32) (M : am_M) : Option (Except Nat (Option Value) × am_M) :=
  am_bvx (f_X9_needSurvey N p1 p2 p3 M) fun M4 =>
    am_bvx (f_X9_needBetween N p4 0 2 M4) fun M12 =>
      am_bv (f_X3_survey N p1 p2 p3 M12) fun M22 =>
        if p4 = 0 then
          some (.ok (some (.int (M22 57 0))), M22)
        else
          if p4 = 1 then
            some (.ok (some (.int (M22 57 1))), M22)
          else
            some (.ok (some (.int (M22 57 2))), M22)
set_option maxRecDepth 100000 in
theorem t_X9_most (z : Value) (N : Nat) (p1 : Int32) (p2 : Int32) (p3 : Int32) (p4 : Int32) (M : am_M) {r : Except Nat (Option Value)} {M' : am_M} (h : f_X9_most N p1 p2 p3 p4 M = some (r, M')) : cR z me_X9_most (0, [some (.ref 0), some (.int p1), some (.int p2), some (.int p3), some (.int p4)], [], M) r M' := by
  unfold f_X9_most at h
  refine am_R.go 4 (q' := (4, [some (.ref 0), some (.int p1), some (.int p2), some (.int p3), some (.int p4)], [.int p3, .int p2, .int p1, .ref 0], M)) rfl trivial ?_
  rcases am_bvx_s h with ⟨M4, hz, h⟩ | ⟨x, M4, hz, h⟩
  · refine am_R.call (e' := me_X9_needSurvey) (as := [.ref 0, .int p1, .int p2, .int p3]) (rest := []) rfl rfl (Nat.le_of_ble_eq_true rfl) (t_X9_needSurvey z N p1 p2 p3 _ hz) ?_
    refine am_R.go 4 (q' := (12, [some (.ref 0), some (.int p1), some (.int p2), some (.int p3), some (.int p4)], [.int 2, .int 0, .int p4, .ref 0], M4)) rfl trivial ?_
    rcases am_bvx_s h with ⟨M12, hz, h⟩ | ⟨x, M12, hz, h⟩
    · refine am_R.call (e' := me_X9_needBetween) (as := [.ref 0, .int p4, .int 0, .int 2]) (rest := []) rfl rfl (Nat.le_of_ble_eq_true rfl) (t_X9_needBetween z N p4 0 2 _ hz) ?_
      refine am_R.go 5 (q' := (22, [some (.ref 0), some (.int p1), some (.int p2), some (.int p3), some (.int p4)], [.int p3, .int p2, .int p1, .ref 57], M12)) rfl trivial ?_
      obtain ⟨M22, hz, h⟩ := am_bv_s h
      refine am_R.call (e' := me_X3_survey) (as := [.ref 57, .int p1, .int p2, .int p3]) (rest := []) rfl rfl (Nat.le_of_ble_eq_true rfl) (t_X3_survey z N p1 p2 p3 _ hz) ?_
      refine am_R.go 1 (q' := (27, [some (.ref 0), some (.int p1), some (.int p2), some (.int p3), some (.int p4)], [.int p4], M22)) rfl trivial ?_
      rcases am_it h with ⟨hc, h⟩ | ⟨hc, h⟩
      · refine am_R.cn rfl rfl (fun q => q hc) ?_
        refine am_R.go 4 (q' := (63, [some (.ref 0), some (.int p1), some (.int p2), some (.int p3), some (.int p4)], [.int (M22 57 0)], M22)) rfl trivial ?_
        cases h
        exact am_R.ret rfl rfl trivial
      · refine am_R.ct rfl rfl hc ?_
        refine am_R.go 2 (q' := (43, [some (.ref 0), some (.int p1), some (.int p2), some (.int p3), some (.int p4)], [.int 1, .int p4], M22)) rfl trivial ?_
        rcases am_it h with ⟨hc, h⟩ | ⟨hc, h⟩
        · refine am_R.bn rfl rfl (fun q => q hc) ?_
          refine am_R.go 4 (q' := (63, [some (.ref 0), some (.int p1), some (.int p2), some (.int p3), some (.int p4)], [.int (M22 57 1)], M22)) rfl trivial ?_
          cases h
          exact am_R.ret rfl rfl trivial
        · refine am_R.bt rfl rfl hc ?_
          refine am_R.go 3 (q' := (63, [some (.ref 0), some (.int p1), some (.int p2), some (.int p3), some (.int p4)], [.int (M22 57 2)], M22)) rfl trivial ?_
          cases h
          exact am_R.ret rfl rfl trivial
    · cases h
      exact am_R.callx (e' := me_X9_needBetween) (as := [.ref 0, .int p4, .int 0, .int 2]) (rest := []) rfl rfl (Nat.le_of_ble_eq_true rfl) rfl (t_X9_needBetween z N p4 0 2 _ hz)
  · cases h
    exact am_R.callx (e' := me_X9_needSurvey) (as := [.ref 0, .int p1, .int p2, .int p3]) (rest := []) rfl rfl (Nat.le_of_ble_eq_true rfl) rfl (t_X9_needSurvey z N p1 p2 p3 _ hz)
def f_X9_least (N : Nat) (p1 : Int32) (p2 : Int32) (p3 : Int32) (p4 : Int32) (M : am_M) : Option (Except Nat (Option Value) × am_M) :=
  am_bvx (f_X9_needSurvey N p1 p2 p3 M) fun M4 =>
    am_bvx (f_X9_needBetween N p4 0 2 M4) fun M12 =>
      am_bv (f_X3_survey N p1 p2 p3 M12) fun M22 =>
        if p4 = 0 then
          some (.ok (some (.int (M22 57 3))), M22)
        else
          if p4 = 1 then
            some (.ok (some (.int (M22 57 4))), M22)
          else
            some (.ok (some (.int (M22 57 5))), M22)
set_option maxRecDepth 100000 in
theorem t_X9_least (z : Value) (N : Nat) (p1 : Int32) (p2 : Int32) (p3 : Int32) (p4 : Int32) (M : am_M) {r : Except Nat (Option Value)} {M' : am_M} (h : f_X9_least N p1 p2 p3 p4 M = some (r, M')) : cR z me_X9_least (0, [some (.ref 0), some (.int p1), some (.int p2), some (.int p3), some (.int p4)], [], M) r M' := by
  unfold f_X9_least at h
  refine am_R.go 4 (q' := (4, [some (.ref 0), some (.int p1), some (.int p2), some (.int p3), some (.int p4)], [.int p3, .int p2, .int p1, .ref 0], M)) rfl trivial ?_
  rcases am_bvx_s h with ⟨M4, hz, h⟩ | ⟨x, M4, hz, h⟩
  · refine am_R.call (e' := me_X9_needSurvey) (as := [.ref 0, .int p1, .int p2, .int p3]) (rest := []) rfl rfl (Nat.le_of_ble_eq_true rfl) (t_X9_needSurvey z N p1 p2 p3 _ hz) ?_
    refine am_R.go 4 (q' := (12, [some (.ref 0), some (.int p1), some (.int p2), some (.int p3), some (.int p4)], [.int 2, .int 0, .int p4, .ref 0], M4)) rfl trivial ?_
    rcases am_bvx_s h with ⟨M12, hz, h⟩ | ⟨x, M12, hz, h⟩
    · refine am_R.call (e' := me_X9_needBetween) (as := [.ref 0, .int p4, .int 0, .int 2]) (rest := []) rfl rfl (Nat.le_of_ble_eq_true rfl) (t_X9_needBetween z N p4 0 2 _ hz) ?_
      refine am_R.go 5 (q' := (22, [some (.ref 0), some (.int p1), some (.int p2), some (.int p3), some (.int p4)], [.int p3, .int p2, .int p1, .ref 57], M12)) rfl trivial ?_
      obtain ⟨M22, hz, h⟩ := am_bv_s h
      refine am_R.call (e' := me_X3_survey) (as := [.ref 57, .int p1, .int p2, .int p3]) (rest := []) rfl rfl (Nat.le_of_ble_eq_true rfl) (t_X3_survey z N p1 p2 p3 _ hz) ?_
      refine am_R.go 1 (q' := (27, [some (.ref 0), some (.int p1), some (.int p2), some (.int p3), some (.int p4)], [.int p4], M22)) rfl trivial ?_
      rcases am_it h with ⟨hc, h⟩ | ⟨hc, h⟩
      · refine am_R.cn rfl rfl (fun q => q hc) ?_
        refine am_R.go 4 (q' := (63, [some (.ref 0), some (.int p1), some (.int p2), some (.int p3), some (.int p4)], [.int (M22 57 3)], M22)) rfl trivial ?_
        cases h
        exact am_R.ret rfl rfl trivial
      · refine am_R.ct rfl rfl hc ?_
        refine am_R.go 2 (q' := (43, [some (.ref 0), some (.int p1), some (.int p2), some (.int p3), some (.int p4)], [.int 1, .int p4], M22)) rfl trivial ?_
        rcases am_it h with ⟨hc, h⟩ | ⟨hc, h⟩
        · refine am_R.bn rfl rfl (fun q => q hc) ?_
          refine am_R.go 4 (q' := (63, [some (.ref 0), some (.int p1), some (.int p2), some (.int p3), some (.int p4)], [.int (M22 57 4)], M22)) rfl trivial ?_
          cases h
          exact am_R.ret rfl rfl trivial
        · refine am_R.bt rfl rfl hc ?_
          refine am_R.go 3 (q' := (63, [some (.ref 0), some (.int p1), some (.int p2), some (.int p3), some (.int p4)], [.int (M22 57 5)], M22)) rfl trivial ?_
          cases h
          exact am_R.ret rfl rfl trivial
    · cases h
      exact am_R.callx (e' := me_X9_needBetween) (as := [.ref 0, .int p4, .int 0, .int 2]) (rest := []) rfl rfl (Nat.le_of_ble_eq_true rfl) rfl (t_X9_needBetween z N p4 0 2 _ hz)
  · cases h
    exact am_R.callx (e' := me_X9_needSurvey) (as := [.ref 0, .int p1, .int p2, .int p3]) (rest := []) rfl rfl (Nat.le_of_ble_eq_true rfl) rfl (t_X9_needSurvey z N p1 p2 p3 _ hz)
def f_X9_commonDivisor_7B (N : Nat) (k7 : Int32 → Int32 → Int32 → am_M → Option (Except Nat (Option Value) × am_M)) (v2 : Int32) (v3 : Int32) (v4 : Int32) (M : am_M) : Option (Except Nat (Option Value) × am_M) :=
  if 64 ≤ v4 then
    some (.ok (some (.int v2)), M)
  else
    if v3 ≤ 0 then
      some (.ok (some (.int v2)), M)
    else
      if ¬ v3 = 0 then
        k7 v3 (v2 - v2 / v3 * v3) (v4 + 1) M
      else none
def f_X9_commonDivisor_7 (N : Nat) : Nat → Int32 → Int32 → Int32 → am_M → Option (Except Nat (Option Value) × am_M)
  | 0 => fun _ _ _ _ => none
  | n + 1 => f_X9_commonDivisor_7B N (f_X9_commonDivisor_7 N n)
set_option maxRecDepth 100000 in
theorem t_X9_commonDivisor_7B (z : Value) (N : Nat) {r : Except Nat (Option Value)} {M' : am_M} (k7 : Int32 → Int32 → Int32 → am_M → Option (Except Nat (Option Value) × am_M)) (hk7 : ∀ (v2 : Int32) (v3 : Int32) (v4 : Int32) (d0 : Option Value) (d1 : Option Value) (d5 : Option Value) (M : am_M), k7 v2 v3 v4 M = some (r, M') → cR z me_X9_commonDivisor (7, [d0, d1, some (.int v2), some (.int v3), some (.int v4), d5], [], M) r M') (v2 : Int32) (v3 : Int32) (v4 : Int32) (d0 : Option Value) (d1 : Option Value) (d5 : Option Value) (M : am_M) (h : f_X9_commonDivisor_7B N k7 v2 v3 v4 M = some (r, M')) : cR z me_X9_commonDivisor (7, [d0, d1, some (.int v2), some (.int v3), some (.int v4), d5], [], M) r M' := by
  unfold f_X9_commonDivisor_7B at h
  refine am_R.go 2 (q' := (11, [d0, d1, some (.int v2), some (.int v3), some (.int v4), d5], [.int 64, .int v4], M)) rfl trivial ?_
  rcases am_it h with ⟨hc, h⟩ | ⟨hc, h⟩
  · refine am_R.bt rfl rfl hc ?_
    refine am_R.go 1 (q' := (35, [d0, d1, some (.int v2), some (.int v3), some (.int v4), d5], [.int v2], M)) rfl trivial ?_
    cases h
    exact am_R.ret rfl rfl trivial
  · refine am_R.bn rfl rfl hc ?_
    refine am_R.go 1 (q' := (15, [d0, d1, some (.int v2), some (.int v3), some (.int v4), d5], [.int v3], M)) rfl trivial ?_
    rcases am_it h with ⟨hc, h⟩ | ⟨hc, h⟩
    · refine am_R.ct rfl rfl hc ?_
      refine am_R.go 1 (q' := (35, [d0, d1, some (.int v2), some (.int v3), some (.int v4), d5], [.int v2], M)) rfl trivial ?_
      cases h
      exact am_R.ret rfl rfl trivial
    · refine am_R.cn rfl rfl hc ?_
      obtain ⟨hC, h⟩ := am_gd h
      refine am_R.go 10 (q' := (7, [d0, d1, some (.int v3), some (.int (v2 - v2 / v3 * v3)), some (.int (v4 + 1)), some (.int (v2 - v2 / v3 * v3))], [], M)) rfl ⟨hC, trivial⟩ ?_
      exact hk7 v3 (v2 - v2 / v3 * v3) (v4 + 1) _ _ _ _ h
set_option maxRecDepth 100000 in
theorem t_X9_commonDivisor_7 (z : Value) (N : Nat) {r : Except Nat (Option Value)} {M' : am_M} : ∀ (n : Nat) (v2 : Int32) (v3 : Int32) (v4 : Int32) (d0 : Option Value) (d1 : Option Value) (d5 : Option Value) (M : am_M), f_X9_commonDivisor_7 N n v2 v3 v4 M = some (r, M') → cR z me_X9_commonDivisor (7, [d0, d1, some (.int v2), some (.int v3), some (.int v4), d5], [], M) r M' := by
  intro n
  induction n with
  | zero => intro v2 v3 v4 d0 d1 d5 M h; cases h
  | succ n ih => intro v2 v3 v4 d0 d1 d5 M h; exact t_X9_commonDivisor_7B z N _ ih v2 v3 v4 d0 d1 d5 M h
def f_X9_commonDivisor (N : Nat) (p0 : Int32) (p1 : Int32) (M : am_M) : Option (Except Nat (Option Value) × am_M) :=
  f_X9_commonDivisor_7 N N p0 p1 0 M
set_option maxRecDepth 100000 in
theorem t_X9_commonDivisor (z : Value) (N : Nat) (p0 : Int32) (p1 : Int32) (M : am_M) {r : Except Nat (Option Value)} {M' : am_M} (h : f_X9_commonDivisor N p0 p1 M = some (r, M')) : cR z me_X9_commonDivisor (0, [some (.int p0), some (.int p1), none, none, none, none], [], M) r M' := by
  unfold f_X9_commonDivisor at h
  refine am_R.go 6 (q' := (7, [some (.int p0), some (.int p1), some (.int p0), some (.int p1), some (.int 0), none], [], M)) rfl trivial ?_
  exact t_X9_commonDivisor_7 z N N p0 p1 0 _ _ _ _ h
def f_X9_partOfFraction_9 (N : Nat) (v0 : Int32) (v1 : Int32) (s0 : Int32) (M : am_M) : Option (Except Nat (Option Value) × am_M) :=
  am_bi (f_X9_commonDivisor N v0 v1 M) fun r12 M12 =>
    if r12 ≤ 0 then
      some (.ok (some (.int s0)), M12)
    else
      if ¬ r12 = 0 then
        some (.ok (some (.int (s0 / r12))), M12)
      else none
set_option maxRecDepth 100000 in
theorem t_X9_partOfFraction_9 (z : Value) (N : Nat) {r : Except Nat (Option Value)} {M' : am_M} (v0 : Int32) (v1 : Int32) (s0 : Int32) (d2 : Option Value) (d3 : Option Value) (d4 : Option Value) (M : am_M) (h : f_X9_partOfFraction_9 N v0 v1 s0 M = some (r, M')) : cR z me_X9_partOfFraction (9, [some (.int v0), some (.int v1), d2, d3, d4], [.int s0], M) r M' := by
  unfold f_X9_partOfFraction_9 at h
  refine am_R.go 3 (q' := (12, [some (.int v0), some (.int v1), d2, some (.int s0), d4], [.int v1, .int v0], M)) rfl trivial ?_
  obtain ⟨r12, M12, hz, h⟩ := am_bi_s h
  refine am_R.call (e' := me_X9_commonDivisor) (as := [.int v0, .int v1]) (rest := []) rfl rfl (Nat.le_of_ble_eq_true rfl) (t_X9_commonDivisor z N v0 v1 _ hz) ?_
  refine am_R.go 2 (q' := (19, [some (.int v0), some (.int v1), d2, some (.int s0), some (.int r12)], [.int r12], M12)) rfl trivial ?_
  rcases am_it h with ⟨hc, h⟩ | ⟨hc, h⟩
  · refine am_R.ct rfl rfl hc ?_
    refine am_R.go 1 (q' := (30, [some (.int v0), some (.int v1), d2, some (.int s0), some (.int r12)], [.int s0], M12)) rfl trivial ?_
    cases h
    exact am_R.ret rfl rfl trivial
  · refine am_R.cn rfl rfl hc ?_
    obtain ⟨hC, h⟩ := am_gd h
    refine am_R.go 4 (q' := (30, [some (.int v0), some (.int v1), d2, some (.int s0), some (.int r12)], [.int (s0 / r12)], M12)) rfl ⟨hC, trivial⟩ ?_
    cases h
    exact am_R.ret rfl rfl trivial
def f_X9_partOfFraction (N : Nat) (p0 : Int32) (p1 : Int32) (p2 : Int32) (M : am_M) : Option (Except Nat (Option Value) × am_M) :=
  if p2 = 0 then
    f_X9_partOfFraction_9 N p0 p1 p0 M
  else
    f_X9_partOfFraction_9 N p0 p1 p1 M
set_option maxRecDepth 100000 in
theorem t_X9_partOfFraction (z : Value) (N : Nat) (p0 : Int32) (p1 : Int32) (p2 : Int32) (M : am_M) {r : Except Nat (Option Value)} {M' : am_M} (h : f_X9_partOfFraction N p0 p1 p2 M = some (r, M')) : cR z me_X9_partOfFraction (0, [some (.int p0), some (.int p1), some (.int p2), none, none], [], M) r M' := by
  unfold f_X9_partOfFraction at h
  refine am_R.go 1 (q' := (1, [some (.int p0), some (.int p1), some (.int p2), none, none], [.int p2], M)) rfl trivial ?_
  rcases am_it h with ⟨hc, h⟩ | ⟨hc, h⟩
  · refine am_R.cn rfl rfl (fun q => q hc) ?_
    refine am_R.go 2 (q' := (9, [some (.int p0), some (.int p1), some (.int p2), none, none], [.int p0], M)) rfl trivial ?_
    exact t_X9_partOfFraction_9 z N p0 p1 p0 _ _ _ _ h
  · refine am_R.ct rfl rfl hc ?_
    refine am_R.go 1 (q' := (9, [some (.int p0), some (.int p1), some (.int p2), none, none], [.int p1], M)) rfl trivial ?_
    exact t_X9_partOfFraction_9 z N p0 p1 p1 _ _ _ _ h
def f_X9_mean (N : Nat) (p1 : Int32) (p2 : Int32) (p3 : Int32) (p4 : Int32) (M : am_M) : Option (Except Nat (Option Value) × am_M) :=
  am_bvx (f_X9_needSurvey N p1 p2 p3 M) fun M4 =>
    am_bvx (f_X9_needBetween N p4 0 1 M4) fun M12 =>
      am_bv (f_X3_survey N p1 p2 p3 M12) fun M22 =>
        am_bi (f_X9_partOfFraction N (M22 57 6) (M22 57 7) p4 M22) fun r41 M41 =>
          some (.ok (some (.int r41)), M41)
set_option maxRecDepth 100000 in
theorem t_X9_mean (z : Value) (N : Nat) (p1 : Int32) (p2 : Int32) (p3 : Int32) (p4 : Int32) (M : am_M) {r : Except Nat (Option Value)} {M' : am_M} (h : f_X9_mean N p1 p2 p3 p4 M = some (r, M')) : cR z me_X9_mean (0, [some (.ref 0), some (.int p1), some (.int p2), some (.int p3), some (.int p4)], [], M) r M' := by
  unfold f_X9_mean at h
  refine am_R.go 4 (q' := (4, [some (.ref 0), some (.int p1), some (.int p2), some (.int p3), some (.int p4)], [.int p3, .int p2, .int p1, .ref 0], M)) rfl trivial ?_
  rcases am_bvx_s h with ⟨M4, hz, h⟩ | ⟨x, M4, hz, h⟩
  · refine am_R.call (e' := me_X9_needSurvey) (as := [.ref 0, .int p1, .int p2, .int p3]) (rest := []) rfl rfl (Nat.le_of_ble_eq_true rfl) (t_X9_needSurvey z N p1 p2 p3 _ hz) ?_
    refine am_R.go 4 (q' := (12, [some (.ref 0), some (.int p1), some (.int p2), some (.int p3), some (.int p4)], [.int 1, .int 0, .int p4, .ref 0], M4)) rfl trivial ?_
    rcases am_bvx_s h with ⟨M12, hz, h⟩ | ⟨x, M12, hz, h⟩
    · refine am_R.call (e' := me_X9_needBetween) (as := [.ref 0, .int p4, .int 0, .int 1]) (rest := []) rfl rfl (Nat.le_of_ble_eq_true rfl) (t_X9_needBetween z N p4 0 1 _ hz) ?_
      refine am_R.go 5 (q' := (22, [some (.ref 0), some (.int p1), some (.int p2), some (.int p3), some (.int p4)], [.int p3, .int p2, .int p1, .ref 57], M12)) rfl trivial ?_
      obtain ⟨M22, hz, h⟩ := am_bv_s h
      refine am_R.call (e' := me_X3_survey) (as := [.ref 57, .int p1, .int p2, .int p3]) (rest := []) rfl rfl (Nat.le_of_ble_eq_true rfl) (t_X3_survey z N p1 p2 p3 _ hz) ?_
      refine am_R.go 7 (q' := (41, [some (.ref 0), some (.int p1), some (.int p2), some (.int p3), some (.int p4)], [.int p4, .int (M22 57 7), .int (M22 57 6)], M22)) rfl trivial ?_
      obtain ⟨r41, M41, hz, h⟩ := am_bi_s h
      refine am_R.call (e' := me_X9_partOfFraction) (as := [.int (M22 57 6), .int (M22 57 7), .int p4]) (rest := []) rfl rfl (Nat.le_of_ble_eq_true rfl) (t_X9_partOfFraction z N (M22 57 6) (M22 57 7) p4 _ hz) ?_
      cases h
      exact am_R.ret rfl rfl trivial
    · cases h
      exact am_R.callx (e' := me_X9_needBetween) (as := [.ref 0, .int p4, .int 0, .int 1]) (rest := []) rfl rfl (Nat.le_of_ble_eq_true rfl) rfl (t_X9_needBetween z N p4 0 1 _ hz)
  · cases h
    exact am_R.callx (e' := me_X9_needSurvey) (as := [.ref 0, .int p1, .int p2, .int p3]) (rest := []) rfl rfl (Nat.le_of_ble_eq_true rfl) rfl (t_X9_needSurvey z N p1 p2 p3 _ hz)
def f_X3_worthBy (N : Nat) (p1 : Int32) (p2 : Int32) (p3 : Int32) (M : am_M) : Option (Except Nat (Option Value) × am_M) :=
  am_bv (f_X3_survey N p1 p2 p3 M) fun M4 =>
    am_bi (f_X8_at_3 N p1 4 M4) fun r16 M16 =>
      some (.ok (some (.int (r16 * (M16 57 0)))), M16)
set_option maxRecDepth 100000 in
theorem t_X3_worthBy (z : Value) (N : Nat) (p1 : Int32) (p2 : Int32) (p3 : Int32) (M : am_M) {r : Except Nat (Option Value)} {M' : am_M} (h : f_X3_worthBy N p1 p2 p3 M = some (r, M')) : cR z me_X3_worthBy (0, [some (.ref 57), some (.int p1), some (.int p2), some (.int p3)], [], M) r M' := by
  unfold f_X3_worthBy at h
  refine am_R.go 4 (q' := (4, [some (.ref 57), some (.int p1), some (.int p2), some (.int p3)], [.int p3, .int p2, .int p1, .ref 57], M)) rfl trivial ?_
  obtain ⟨M4, hz, h⟩ := am_bv_s h
  refine am_R.call (e' := me_X3_survey) (as := [.ref 57, .int p1, .int p2, .int p3]) (rest := []) rfl rfl (Nat.le_of_ble_eq_true rfl) (t_X3_survey z N p1 p2 p3 _ hz) ?_
  refine am_R.go 5 (q' := (16, [some (.ref 57), some (.int p1), some (.int p2), some (.int p3)], [.int 4, .int p1, .ref 3], M4)) rfl trivial ?_
  obtain ⟨r16, M16, hz, h⟩ := am_bi_s h
  refine am_R.call (e' := me_X8_at) (as := [.ref 3, .int p1, .int 4]) (rest := []) rfl rfl (Nat.le_of_ble_eq_true rfl) (t_X8_at_3 z N p1 4 _ hz) ?_
  refine am_R.go 3 (q' := (24, [some (.ref 57), some (.int p1), some (.int p2), some (.int p3)], [.int (r16 * (M16 57 0))], M16)) rfl trivial ?_
  cases h
  exact am_R.ret rfl rfl trivial
def f_X9_worth (N : Nat) (p1 : Int32) (p2 : Int32) (M : am_M) : Option (Except Nat (Option Value) × am_M) :=
  am_bvx (f_X9_needField N p1 M) fun M2 =>
    am_bvx (f_X9_needFog N p2 M2) fun M7 =>
      am_bi (f_X3_worthBy N p1 p2 (M7 2 3) M7) fun r23 M23 =>
        some (.ok (some (.int r23)), M23)
set_option maxRecDepth 100000 in
theorem t_X9_worth (z : Value) (N : Nat) (p1 : Int32) (p2 : Int32) (M : am_M) {r : Except Nat (Option Value)} {M' : am_M} (h : f_X9_worth N p1 p2 M = some (r, M')) : cR z me_X9_worth (0, [some (.ref 0), some (.int p1), some (.int p2)], [], M) r M' := by
  unfold f_X9_worth at h
  refine am_R.go 2 (q' := (2, [some (.ref 0), some (.int p1), some (.int p2)], [.int p1, .ref 0], M)) rfl trivial ?_
  rcases am_bvx_s h with ⟨M2, hz, h⟩ | ⟨x, M2, hz, h⟩
  · refine am_R.call (e' := me_X9_needField) (as := [.ref 0, .int p1]) (rest := []) rfl rfl (Nat.le_of_ble_eq_true rfl) (t_X9_needField z N p1 _ hz) ?_
    refine am_R.go 2 (q' := (7, [some (.ref 0), some (.int p1), some (.int p2)], [.int p2, .ref 0], M2)) rfl trivial ?_
    rcases am_bvx_s h with ⟨M7, hz, h⟩ | ⟨x, M7, hz, h⟩
    · refine am_R.call (e' := me_X9_needFog) (as := [.ref 0, .int p2]) (rest := []) rfl rfl (Nat.le_of_ble_eq_true rfl) (t_X9_needFog z N p2 _ hz) ?_
      refine am_R.go 7 (q' := (23, [some (.ref 0), some (.int p1), some (.int p2)], [.int (M7 2 3), .int p2, .int p1, .ref 57], M7)) rfl trivial ?_
      obtain ⟨r23, M23, hz, h⟩ := am_bi_s h
      refine am_R.call (e' := me_X3_worthBy) (as := [.ref 57, .int p1, .int p2, .int (M7 2 3)]) (rest := []) rfl rfl (Nat.le_of_ble_eq_true rfl) (t_X3_worthBy z N p1 p2 (M7 2 3) _ hz) ?_
      cases h
      exact am_R.ret rfl rfl trivial
    · cases h
      exact am_R.callx (e' := me_X9_needFog) (as := [.ref 0, .int p2]) (rest := []) rfl rfl (Nat.le_of_ble_eq_true rfl) rfl (t_X9_needFog z N p2 _ hz)
  · cases h
    exact am_R.callx (e' := me_X9_needField) (as := [.ref 0, .int p1]) (rest := []) rfl rfl (Nat.le_of_ble_eq_true rfl) rfl (t_X9_needField z N p1 _ hz)
def f_X1_gainBy (N : Nat) (p1 : Int32) (p2 : Int32) (M : am_M) : Option (Except Nat (Option Value) × am_M) :=
  if am_in p1 100 then
    if (M 14 (p1.toNatClampNeg)) = 0 then
      am_bi (f_X3_worthBy N p2 0 (M 2 3) M) fun r27 M27 =>
        if am_in p1 100 then
          am_bi (f_X3_worthBy N p2 0 (M27 2 3) (am_up M27 14 (p1.toNatClampNeg) 5)) fun r54 M54 =>
            if am_in p1 100 then
              some (.ok (some (.int (r54 - r27))), am_up M54 14 (p1.toNatClampNeg) 0)
            else none
        else none
    else
      some (.ok (some (.int 0)), M)
  else none
set_option maxRecDepth 100000 in
theorem t_X1_gainBy (z : Value) (N : Nat) (p1 : Int32) (p2 : Int32) (M : am_M) {r : Except Nat (Option Value)} {M' : am_M} (h : f_X1_gainBy N p1 p2 M = some (r, M')) : cR z me_X1_gainBy (0, [some (.ref 60), some (.int p1), some (.int p2), none, none], [], M) r M' := by
  unfold f_X1_gainBy at h
  obtain ⟨hC, h⟩ := am_gd h
  refine am_R.go 5 (q' := (9, [some (.ref 60), some (.int p1), some (.int p2), none, none], [.int (M 14 (p1.toNatClampNeg))], M)) rfl ⟨hC, trivial⟩ ?_
  rcases am_it h with ⟨hc, h⟩ | ⟨hc, h⟩
  · refine am_R.ct rfl rfl hc ?_
    refine am_R.go 7 (q' := (27, [some (.ref 60), some (.int p1), some (.int p2), none, none], [.int (M 2 3), .int 0, .int p2, .ref 57], M)) rfl trivial ?_
    obtain ⟨r27, M27, hz, h⟩ := am_bi_s h
    refine am_R.call (e' := me_X3_worthBy) (as := [.ref 57, .int p2, .int 0, .int (M 2 3)]) (rest := []) rfl rfl (Nat.le_of_ble_eq_true rfl) (t_X3_worthBy z N p2 0 (M 2 3) _ hz) ?_
    obtain ⟨hC, h⟩ := am_gd h
    refine am_R.go 14 (q' := (54, [some (.ref 60), some (.int p1), some (.int p2), some (.int r27), none], [.int (M27 2 3), .int 0, .int p2, .ref 57], am_up M27 14 (p1.toNatClampNeg) 5)) rfl ⟨hC, trivial⟩ ?_
    obtain ⟨r54, M54, hz, h⟩ := am_bi_s h
    refine am_R.call (e' := me_X3_worthBy) (as := [.ref 57, .int p2, .int 0, .int (M27 2 3)]) (rest := []) rfl rfl (Nat.le_of_ble_eq_true rfl) (t_X3_worthBy z N p2 0 (M27 2 3) _ hz) ?_
    obtain ⟨hC, h⟩ := am_gd h
    refine am_R.go 10 (q' := (73, [some (.ref 60), some (.int p1), some (.int p2), some (.int r27), some (.int r54)], [.int (r54 - r27)], am_up M54 14 (p1.toNatClampNeg) 0)) rfl ⟨hC, trivial⟩ ?_
    cases h
    exact am_R.ret rfl rfl trivial
  · refine am_R.cn rfl rfl hc ?_
    refine am_R.go 1 (q' := (13, [some (.ref 60), some (.int p1), some (.int p2), none, none], [.int 0], M)) rfl trivial ?_
    cases h
    exact am_R.ret rfl rfl trivial
def f_X9_gain (N : Nat) (p1 : Int32) (p2 : Int32) (p3 : Int32) (M : am_M) : Option (Except Nat (Option Value) × am_M) :=
  am_bvx (f_X9_needCell N p1 p2 M) fun M3 =>
    am_bvx (f_X9_needField N p3 M3) fun M8 =>
      am_bi (f_X9_cellOf N p1 p2 M8) fun r17 M17 =>
        am_bi (f_X1_gainBy N r17 p3 M17) fun r21 M21 =>
          some (.ok (some (.int r21)), M21)
set_option maxRecDepth 100000 in
theorem t_X9_gain (z : Value) (N : Nat) (p1 : Int32) (p2 : Int32) (p3 : Int32) (M : am_M) {r : Except Nat (Option Value)} {M' : am_M} (h : f_X9_gain N p1 p2 p3 M = some (r, M')) : cR z me_X9_gain (0, [some (.ref 0), some (.int p1), some (.int p2), some (.int p3)], [], M) r M' := by
  unfold f_X9_gain at h
  refine am_R.go 3 (q' := (3, [some (.ref 0), some (.int p1), some (.int p2), some (.int p3)], [.int p2, .int p1, .ref 0], M)) rfl trivial ?_
  rcases am_bvx_s h with ⟨M3, hz, h⟩ | ⟨x, M3, hz, h⟩
  · refine am_R.call (e' := me_X9_needCell) (as := [.ref 0, .int p1, .int p2]) (rest := []) rfl rfl (Nat.le_of_ble_eq_true rfl) (t_X9_needCell z N p1 p2 _ hz) ?_
    refine am_R.go 2 (q' := (8, [some (.ref 0), some (.int p1), some (.int p2), some (.int p3)], [.int p3, .ref 0], M3)) rfl trivial ?_
    rcases am_bvx_s h with ⟨M8, hz, h⟩ | ⟨x, M8, hz, h⟩
    · refine am_R.call (e' := me_X9_needField) (as := [.ref 0, .int p3]) (rest := []) rfl rfl (Nat.le_of_ble_eq_true rfl) (t_X9_needField z N p3 _ hz) ?_
      refine am_R.go 4 (q' := (17, [some (.ref 0), some (.int p1), some (.int p2), some (.int p3)], [.int p2, .int p1, .ref 60], M8)) rfl trivial ?_
      obtain ⟨r17, M17, hz, h⟩ := am_bi_s h
      refine am_R.call (e' := me_X9_cellOf) (as := [.int p1, .int p2]) (rest := [.ref 60]) rfl rfl (Nat.le_of_ble_eq_true rfl) (t_X9_cellOf z N p1 p2 _ hz) ?_
      refine am_R.go 1 (q' := (21, [some (.ref 0), some (.int p1), some (.int p2), some (.int p3)], [.int p3, .int r17, .ref 60], M17)) rfl trivial ?_
      obtain ⟨r21, M21, hz, h⟩ := am_bi_s h
      refine am_R.call (e' := me_X1_gainBy) (as := [.ref 60, .int r17, .int p3]) (rest := []) rfl rfl (Nat.le_of_ble_eq_true rfl) (t_X1_gainBy z N r17 p3 _ hz) ?_
      cases h
      exact am_R.ret rfl rfl trivial
    · cases h
      exact am_R.callx (e' := me_X9_needField) (as := [.ref 0, .int p3]) (rest := []) rfl rfl (Nat.le_of_ble_eq_true rfl) rfl (t_X9_needField z N p3 _ hz)
  · cases h
    exact am_R.callx (e' := me_X9_needCell) (as := [.ref 0, .int p1, .int p2]) (rest := []) rfl rfl (Nat.le_of_ble_eq_true rfl) rfl (t_X9_needCell z N p1 p2 _ hz)
def f_X8_has_5 (N : Nat) (p1 : Int32) (p2 : Int32) (M : am_M) : Option (Except Nat (Option Value) × am_M) :=
  if p1 < 0 then
    some (.ok (some (.int 0)), M)
  else
    if (M 5 3) ≤ p1 then
      some (.ok (some (.int 0)), M)
    else
      if p2 < 0 then
        some (.ok (some (.int 0)), M)
      else
        if (M 5 1) ≤ p2 then
          some (.ok (some (.int 0)), M)
        else
          some (.ok (some (.int 1)), M)
set_option maxRecDepth 100000 in
theorem t_X8_has_5 (z : Value) (N : Nat) (p1 : Int32) (p2 : Int32) (M : am_M) {r : Except Nat (Option Value)} {M' : am_M} (h : f_X8_has_5 N p1 p2 M = some (r, M')) : cR z me_X8_has (0, [some (.ref 5), some (.int p1), some (.int p2)], [], M) r M' := by
  unfold f_X8_has_5 at h
  refine am_R.go 1 (q' := (1, [some (.ref 5), some (.int p1), some (.int p2)], [.int p1], M)) rfl trivial ?_
  rcases am_it h with ⟨hc, h⟩ | ⟨hc, h⟩
  · refine am_R.ct rfl rfl hc ?_
    refine am_R.go 1 (q' := (29, [some (.ref 5), some (.int p1), some (.int p2)], [.int 0], M)) rfl trivial ?_
    cases h
    exact am_R.ret rfl rfl (Or.inl rfl)
  · refine am_R.cn rfl rfl hc ?_
    refine am_R.go 3 (q' := (9, [some (.ref 5), some (.int p1), some (.int p2)], [.int (M 5 3), .int p1], M)) rfl trivial ?_
    rcases am_it h with ⟨hc, h⟩ | ⟨hc, h⟩
    · refine am_R.bt rfl rfl hc ?_
      refine am_R.go 1 (q' := (29, [some (.ref 5), some (.int p1), some (.int p2)], [.int 0], M)) rfl trivial ?_
      cases h
      exact am_R.ret rfl rfl (Or.inl rfl)
    · refine am_R.bn rfl rfl hc ?_
      refine am_R.go 1 (q' := (13, [some (.ref 5), some (.int p1), some (.int p2)], [.int p2], M)) rfl trivial ?_
      rcases am_it h with ⟨hc, h⟩ | ⟨hc, h⟩
      · refine am_R.ct rfl rfl hc ?_
        refine am_R.go 1 (q' := (29, [some (.ref 5), some (.int p1), some (.int p2)], [.int 0], M)) rfl trivial ?_
        cases h
        exact am_R.ret rfl rfl (Or.inl rfl)
      · refine am_R.cn rfl rfl hc ?_
        refine am_R.go 3 (q' := (21, [some (.ref 5), some (.int p1), some (.int p2)], [.int (M 5 1), .int p2], M)) rfl trivial ?_
        rcases am_it h with ⟨hc, h⟩ | ⟨hc, h⟩
        · refine am_R.bt rfl rfl hc ?_
          refine am_R.go 1 (q' := (29, [some (.ref 5), some (.int p1), some (.int p2)], [.int 0], M)) rfl trivial ?_
          cases h
          exact am_R.ret rfl rfl (Or.inl rfl)
        · refine am_R.bn rfl rfl hc ?_
          refine am_R.go 2 (q' := (29, [some (.ref 5), some (.int p1), some (.int p2)], [.int 1], M)) rfl trivial ?_
          cases h
          exact am_R.ret rfl rfl (Or.inr rfl)
def f_X8_at_5 (N : Nat) (p1 : Int32) (p2 : Int32) (M : am_M) : Option (Except Nat (Option Value) × am_M) :=
  am_bi (f_X8_has_5 N p1 p2 M) fun r3 M3 =>
    if r3 = 0 then
      some (.ok (some (.int 0)), M3)
    else
      if am_in ((p1 * (M3 5 1)) + p2) 12 then
        some (.ok (some (.int (M3 6 (((p1 * (M3 5 1)) + p2).toNatClampNeg)))), M3)
      else none
set_option maxRecDepth 100000 in
theorem t_X8_at_5 (z : Value) (N : Nat) (p1 : Int32) (p2 : Int32) (M : am_M) {r : Except Nat (Option Value)} {M' : am_M} (h : f_X8_at_5 N p1 p2 M = some (r, M')) : cR z me_X8_at (0, [some (.ref 5), some (.int p1), some (.int p2)], [], M) r M' := by
  unfold f_X8_at_5 at h
  refine am_R.go 3 (q' := (3, [some (.ref 5), some (.int p1), some (.int p2)], [.int p2, .int p1, .ref 5], M)) rfl trivial ?_
  obtain ⟨r3, M3, hz, h⟩ := am_bi_s h
  refine am_R.call (e' := me_X8_has) (as := [.ref 5, .int p1, .int p2]) (rest := []) rfl rfl (Nat.le_of_ble_eq_true rfl) (t_X8_has_5 z N p1 p2 _ hz) ?_
  rcases am_it h with ⟨hc, h⟩ | ⟨hc, h⟩
  · refine am_R.ct rfl rfl hc ?_
    refine am_R.go 1 (q' := (26, [some (.ref 5), some (.int p1), some (.int p2)], [.int 0], M3)) rfl trivial ?_
    cases h
    exact am_R.ret rfl rfl trivial
  · refine am_R.cn rfl rfl hc ?_
    obtain ⟨hC, h⟩ := am_gd h
    refine am_R.go 10 (q' := (26, [some (.ref 5), some (.int p1), some (.int p2)], [.int (M3 6 (((p1 * (M3 5 1)) + p2).toNatClampNeg))], M3)) rfl ⟨hC, trivial⟩ ?_
    cases h
    exact am_R.ret rfl rfl trivial
def f_X8_cellAt_5 (N : Nat) (p1 : Int32) (M : am_M) : Option (Except Nat (Option Value) × am_M) :=
  am_bi (f_X8_at_5 N p1 0 M) fun r3 M3 =>
    am_bi (f_X8_at_5 N p1 1 M3) fun r9 M9 =>
      am_bi (f_X9_cellOf N r3 r9 M9) fun r12 M12 =>
        some (.ok (some (.int r12)), M12)
set_option maxRecDepth 100000 in
theorem t_X8_cellAt_5 (z : Value) (N : Nat) (p1 : Int32) (M : am_M) {r : Except Nat (Option Value)} {M' : am_M} (h : f_X8_cellAt_5 N p1 M = some (r, M')) : cR z me_X8_cellAt (0, [some (.ref 5), some (.int p1)], [], M) r M' := by
  unfold f_X8_cellAt_5 at h
  refine am_R.go 3 (q' := (3, [some (.ref 5), some (.int p1)], [.int 0, .int p1, .ref 5], M)) rfl trivial ?_
  obtain ⟨r3, M3, hz, h⟩ := am_bi_s h
  refine am_R.call (e' := me_X8_at) (as := [.ref 5, .int p1, .int 0]) (rest := []) rfl rfl (Nat.le_of_ble_eq_true rfl) (t_X8_at_5 z N p1 0 _ hz) ?_
  refine am_R.go 3 (q' := (9, [some (.ref 5), some (.int p1)], [.int 1, .int p1, .ref 5, .int r3], M3)) rfl trivial ?_
  obtain ⟨r9, M9, hz, h⟩ := am_bi_s h
  refine am_R.call (e' := me_X8_at) (as := [.ref 5, .int p1, .int 1]) (rest := [.int r3]) rfl rfl (Nat.le_of_ble_eq_true rfl) (t_X8_at_5 z N p1 1 _ hz) ?_
  obtain ⟨r12, M12, hz, h⟩ := am_bi_s h
  refine am_R.call (e' := me_X9_cellOf) (as := [.int r3, .int r9]) (rest := []) rfl rfl (Nat.le_of_ble_eq_true rfl) (t_X9_cellOf z N r3 r9 _ hz) ?_
  cases h
  exact am_R.ret rfl rfl trivial
def f_X2_bare_13_5_4B (N : Nat) (k4 : Int32 → Int32 → am_M → Option (Except Nat (Option Value) × am_M)) (v2 : Int32) (v3 : Int32) (M : am_M) : Option (Except Nat (Option Value) × am_M) :=
  if (M 5 3) ≤ v3 then
    some (.ok (some (.int v2)), M)
  else
    am_bi (f_X8_cellAt_5 N v3 M) fun r18 M18 =>
      if am_in r18 100 then
        if (M18 14 (r18.toNatClampNeg)) = 0 then
          k4 (v2 ||| (1 <<< (v3 &&& 31))) (v3 + 1) M18
        else
          k4 v2 (v3 + 1) M18
      else none
def f_X2_bare_13_5_4 (N : Nat) : Nat → Int32 → Int32 → am_M → Option (Except Nat (Option Value) × am_M)
  | 0 => fun _ _ _ => none
  | n + 1 => f_X2_bare_13_5_4B N (f_X2_bare_13_5_4 N n)
set_option maxRecDepth 100000 in
theorem t_X2_bare_13_5_4B (z : Value) (N : Nat) {r : Except Nat (Option Value)} {M' : am_M} (k4 : Int32 → Int32 → am_M → Option (Except Nat (Option Value) × am_M)) (hk4 : ∀ (v2 : Int32) (v3 : Int32) (M : am_M), k4 v2 v3 M = some (r, M') → cR z me_X2_bare (4, [some (.ref 13), some (.ref 5), some (.int v2), some (.int v3)], [], M) r M') (v2 : Int32) (v3 : Int32) (M : am_M) (h : f_X2_bare_13_5_4B N k4 v2 v3 M = some (r, M')) : cR z me_X2_bare (4, [some (.ref 13), some (.ref 5), some (.int v2), some (.int v3)], [], M) r M' := by
  unfold f_X2_bare_13_5_4B at h
  refine am_R.go 3 (q' := (9, [some (.ref 13), some (.ref 5), some (.int v2), some (.int v3)], [.int (M 5 3), .int v3], M)) rfl trivial ?_
  rcases am_it h with ⟨hc, h⟩ | ⟨hc, h⟩
  · refine am_R.bt rfl rfl hc ?_
    refine am_R.go 1 (q' := (38, [some (.ref 13), some (.ref 5), some (.int v2), some (.int v3)], [.int v2], M)) rfl trivial ?_
    cases h
    exact am_R.ret rfl rfl trivial
  · refine am_R.bn rfl rfl hc ?_
    refine am_R.go 4 (q' := (18, [some (.ref 13), some (.ref 5), some (.int v2), some (.int v3)], [.int v3, .ref 5, .ref 14], M)) rfl trivial ?_
    obtain ⟨r18, M18, hz, h⟩ := am_bi_s h
    refine am_R.call (e' := me_X8_cellAt) (as := [.ref 5, .int v3]) (rest := [.ref 14]) rfl rfl (Nat.le_of_ble_eq_true rfl) (t_X8_cellAt_5 z N v3 _ hz) ?_
    obtain ⟨hC, h⟩ := am_gd h
    refine am_R.go 1 (q' := (22, [some (.ref 13), some (.ref 5), some (.int v2), some (.int v3)], [.int (M18 14 (r18.toNatClampNeg))], M18)) rfl ⟨hC, trivial⟩ ?_
    rcases am_it h with ⟨hc, h⟩ | ⟨hc, h⟩
    · refine am_R.cn rfl rfl (fun q => q hc) ?_
      refine am_R.go 8 (q' := (4, [some (.ref 13), some (.ref 5), some (.int (v2 ||| (1 <<< (v3 &&& 31)))), some (.int (v3 + 1))], [], M18)) rfl trivial ?_
      exact hk4 (v2 ||| (1 <<< (v3 &&& 31))) (v3 + 1) _ h
    · refine am_R.ct rfl rfl hc ?_
      refine am_R.go 2 (q' := (4, [some (.ref 13), some (.ref 5), some (.int v2), some (.int (v3 + 1))], [], M18)) rfl trivial ?_
      exact hk4 v2 (v3 + 1) _ h
set_option maxRecDepth 100000 in
theorem t_X2_bare_13_5_4 (z : Value) (N : Nat) {r : Except Nat (Option Value)} {M' : am_M} : ∀ (n : Nat) (v2 : Int32) (v3 : Int32) (M : am_M), f_X2_bare_13_5_4 N n v2 v3 M = some (r, M') → cR z me_X2_bare (4, [some (.ref 13), some (.ref 5), some (.int v2), some (.int v3)], [], M) r M' := by
  intro n
  induction n with
  | zero => intro v2 v3 M h; cases h
  | succ n ih => intro v2 v3 M h; exact t_X2_bare_13_5_4B z N _ ih v2 v3 M h
def f_X2_bare_13_5 (N : Nat) (M : am_M) : Option (Except Nat (Option Value) × am_M) :=
  f_X2_bare_13_5_4 N N 0 0 M
set_option maxRecDepth 100000 in
theorem t_X2_bare_13_5 (z : Value) (N : Nat) (M : am_M) {r : Except Nat (Option Value)} {M' : am_M} (h : f_X2_bare_13_5 N M = some (r, M')) : cR z me_X2_bare (0, [some (.ref 13), some (.ref 5), none, none], [], M) r M' := by
  unfold f_X2_bare_13_5 at h
  refine am_R.go 4 (q' := (4, [some (.ref 13), some (.ref 5), some (.int 0), some (.int 0)], [], M)) rfl trivial ?_
  exact t_X2_bare_13_5_4 z N N 0 0 _ h
def f_X1_costOf_4B (N : Nat) (v1 : Int32) (k4 : Int32 → Int32 → am_M → Option (Except Nat (Option Value) × am_M)) (v2 : Int32) (v3 : Int32) (M : am_M) : Option (Except Nat (Option Value) × am_M) :=
  if (M 5 3) ≤ v3 then
    some (.ok (some (.int v2)), M)
  else
    if ((v1 >>> (v3 &&& 31)) &&& 1) = 0 then
      k4 v2 (v3 + 1) M
    else
      am_bi (f_X8_at_5 N v3 2 M) fun r36 M36 =>
        k4 (v2 + r36) (v3 + 1) M36
def f_X1_costOf_4 (N : Nat) (v1 : Int32) : Nat → Int32 → Int32 → am_M → Option (Except Nat (Option Value) × am_M)
  | 0 => fun _ _ _ => none
  | n + 1 => f_X1_costOf_4B N v1 (f_X1_costOf_4 N v1 n)
set_option maxRecDepth 100000 in
theorem t_X1_costOf_4B (z : Value) (N : Nat) (v1 : Int32) {r : Except Nat (Option Value)} {M' : am_M} (k4 : Int32 → Int32 → am_M → Option (Except Nat (Option Value) × am_M)) (hk4 : ∀ (v2 : Int32) (v3 : Int32) (M : am_M), k4 v2 v3 M = some (r, M') → cR z me_X1_costOf (4, [some (.ref 60), some (.int v1), some (.int v2), some (.int v3)], [], M) r M') (v2 : Int32) (v3 : Int32) (M : am_M) (h : f_X1_costOf_4B N v1 k4 v2 v3 M = some (r, M')) : cR z me_X1_costOf (4, [some (.ref 60), some (.int v1), some (.int v2), some (.int v3)], [], M) r M' := by
  unfold f_X1_costOf_4B at h
  refine am_R.go 5 (q' := (15, [some (.ref 60), some (.int v1), some (.int v2), some (.int v3)], [.int (M 5 3), .int v3], M)) rfl trivial ?_
  rcases am_it h with ⟨hc, h⟩ | ⟨hc, h⟩
  · refine am_R.bt rfl rfl hc ?_
    refine am_R.go 1 (q' := (48, [some (.ref 60), some (.int v1), some (.int v2), some (.int v3)], [.int v2], M)) rfl trivial ?_
    cases h
    exact am_R.ret rfl rfl trivial
  · refine am_R.bn rfl rfl hc ?_
    refine am_R.go 5 (q' := (23, [some (.ref 60), some (.int v1), some (.int v2), some (.int v3)], [.int ((v1 >>> (v3 &&& 31)) &&& 1)], M)) rfl trivial ?_
    rcases am_it h with ⟨hc, h⟩ | ⟨hc, h⟩
    · refine am_R.ct rfl rfl hc ?_
      refine am_R.go 2 (q' := (4, [some (.ref 60), some (.int v1), some (.int v2), some (.int (v3 + 1))], [], M)) rfl trivial ?_
      exact hk4 v2 (v3 + 1) _ h
    · refine am_R.cn rfl rfl hc ?_
      refine am_R.go 6 (q' := (36, [some (.ref 60), some (.int v1), some (.int v2), some (.int v3)], [.int 2, .int v3, .ref 5, .int v2], M)) rfl trivial ?_
      obtain ⟨r36, M36, hz, h⟩ := am_bi_s h
      refine am_R.call (e' := me_X8_at) (as := [.ref 5, .int v3, .int 2]) (rest := [.int v2]) rfl rfl (Nat.le_of_ble_eq_true rfl) (t_X8_at_5 z N v3 2 _ hz) ?_
      refine am_R.go 4 (q' := (4, [some (.ref 60), some (.int v1), some (.int (v2 + r36)), some (.int (v3 + 1))], [], M36)) rfl trivial ?_
      exact hk4 (v2 + r36) (v3 + 1) _ h
set_option maxRecDepth 100000 in
theorem t_X1_costOf_4 (z : Value) (N : Nat) (v1 : Int32) {r : Except Nat (Option Value)} {M' : am_M} : ∀ (n : Nat) (v2 : Int32) (v3 : Int32) (M : am_M), f_X1_costOf_4 N v1 n v2 v3 M = some (r, M') → cR z me_X1_costOf (4, [some (.ref 60), some (.int v1), some (.int v2), some (.int v3)], [], M) r M' := by
  intro n
  induction n with
  | zero => intro v2 v3 M h; cases h
  | succ n ih => intro v2 v3 M h; exact t_X1_costOf_4B z N v1 _ ih v2 v3 M h
def f_X1_costOf (N : Nat) (p1 : Int32) (M : am_M) : Option (Except Nat (Option Value) × am_M) :=
  f_X1_costOf_4 N p1 N 0 0 M
set_option maxRecDepth 100000 in
theorem t_X1_costOf (z : Value) (N : Nat) (p1 : Int32) (M : am_M) {r : Except Nat (Option Value)} {M' : am_M} (h : f_X1_costOf N p1 M = some (r, M')) : cR z me_X1_costOf (0, [some (.ref 60), some (.int p1), none, none], [], M) r M' := by
  unfold f_X1_costOf at h
  refine am_R.go 4 (q' := (4, [some (.ref 60), some (.int p1), some (.int 0), some (.int 0)], [], M)) rfl trivial ?_
  exact t_X1_costOf_4 z N p1 N 0 0 _ h
def f_X2_raise_13_5_5B (N : Nat) (v2 : Int32) (k5 : Int32 → Int32 → am_M → Option (Except Nat (Option Value) × am_M)) (v3 : Int32) (v4 : Int32) (M : am_M) : Option (Except Nat (Option Value) × am_M) :=
  if (M 5 3) ≤ v4 then
    some (.ok (some (.int v3)), M)
  else
    am_bi (f_X8_cellAt_5 N v4 M) fun r17 M17 =>
      if ((v2 >>> (v4 &&& 31)) &&& 1) = 0 then
        k5 v3 (v4 + 1) M17
      else
        if am_in r17 100 then
          if (M17 14 (r17.toNatClampNeg)) = 0 then
            if am_in r17 100 then
              k5 (v3 ||| (1 <<< (v4 &&& 31))) (v4 + 1) (am_up M17 14 (r17.toNatClampNeg) 5)
            else none
          else
            k5 v3 (v4 + 1) M17
        else none
def f_X2_raise_13_5_5 (N : Nat) (v2 : Int32) : Nat → Int32 → Int32 → am_M → Option (Except Nat (Option Value) × am_M)
  | 0 => fun _ _ _ => none
  | n + 1 => f_X2_raise_13_5_5B N v2 (f_X2_raise_13_5_5 N v2 n)
set_option maxRecDepth 100000 in
theorem t_X2_raise_13_5_5B (z : Value) (N : Nat) (v2 : Int32) {r : Except Nat (Option Value)} {M' : am_M} (k5 : Int32 → Int32 → am_M → Option (Except Nat (Option Value) × am_M)) (hk5 : ∀ (v3 : Int32) (v4 : Int32) (d5 : Option Value) (M : am_M), k5 v3 v4 M = some (r, M') → cR z me_X2_raise (5, [some (.ref 13), some (.ref 5), some (.int v2), some (.int v3), some (.int v4), d5], [], M) r M') (v3 : Int32) (v4 : Int32) (d5 : Option Value) (M : am_M) (h : f_X2_raise_13_5_5B N v2 k5 v3 v4 M = some (r, M')) : cR z me_X2_raise (5, [some (.ref 13), some (.ref 5), some (.int v2), some (.int v3), some (.int v4), d5], [], M) r M' := by
  unfold f_X2_raise_13_5_5B at h
  refine am_R.go 3 (q' := (11, [some (.ref 13), some (.ref 5), some (.int v2), some (.int v3), some (.int v4), d5], [.int (M 5 3), .int v4], M)) rfl trivial ?_
  rcases am_it h with ⟨hc, h⟩ | ⟨hc, h⟩
  · refine am_R.bt rfl rfl hc ?_
    refine am_R.go 1 (q' := (63, [some (.ref 13), some (.ref 5), some (.int v2), some (.int v3), some (.int v4), d5], [.int v3], M)) rfl trivial ?_
    cases h
    exact am_R.ret rfl rfl trivial
  · refine am_R.bn rfl rfl hc ?_
    refine am_R.go 2 (q' := (17, [some (.ref 13), some (.ref 5), some (.int v2), some (.int v3), some (.int v4), d5], [.int v4, .ref 5], M)) rfl trivial ?_
    obtain ⟨r17, M17, hz, h⟩ := am_bi_s h
    refine am_R.call (e' := me_X8_cellAt) (as := [.ref 5, .int v4]) (rest := []) rfl rfl (Nat.le_of_ble_eq_true rfl) (t_X8_cellAt_5 z N v4 _ hz) ?_
    refine am_R.go 6 (q' := (28, [some (.ref 13), some (.ref 5), some (.int v2), some (.int v3), some (.int v4), some (.int r17)], [.int ((v2 >>> (v4 &&& 31)) &&& 1)], M17)) rfl trivial ?_
    rcases am_it h with ⟨hc, h⟩ | ⟨hc, h⟩
    · refine am_R.ct rfl rfl hc ?_
      refine am_R.go 2 (q' := (5, [some (.ref 13), some (.ref 5), some (.int v2), some (.int v3), some (.int (v4 + 1)), some (.int r17)], [], M17)) rfl trivial ?_
      exact hk5 v3 (v4 + 1) _ _ h
    · refine am_R.cn rfl rfl hc ?_
      obtain ⟨hC, h⟩ := am_gd h
      refine am_R.go 4 (q' := (38, [some (.ref 13), some (.ref 5), some (.int v2), some (.int v3), some (.int v4), some (.int r17)], [.int (M17 14 (r17.toNatClampNeg))], M17)) rfl ⟨hC, trivial⟩ ?_
      rcases am_it h with ⟨hc, h⟩ | ⟨hc, h⟩
      · refine am_R.cn rfl rfl (fun q => q hc) ?_
        obtain ⟨hC, h⟩ := am_gd h
        refine am_R.go 13 (q' := (5, [some (.ref 13), some (.ref 5), some (.int v2), some (.int (v3 ||| (1 <<< (v4 &&& 31)))), some (.int (v4 + 1)), some (.int r17)], [], am_up M17 14 (r17.toNatClampNeg) 5)) rfl ⟨hC, trivial⟩ ?_
        exact hk5 (v3 ||| (1 <<< (v4 &&& 31))) (v4 + 1) _ _ h
      · refine am_R.ct rfl rfl hc ?_
        refine am_R.go 2 (q' := (5, [some (.ref 13), some (.ref 5), some (.int v2), some (.int v3), some (.int (v4 + 1)), some (.int r17)], [], M17)) rfl trivial ?_
        exact hk5 v3 (v4 + 1) _ _ h
set_option maxRecDepth 100000 in
theorem t_X2_raise_13_5_5 (z : Value) (N : Nat) (v2 : Int32) {r : Except Nat (Option Value)} {M' : am_M} : ∀ (n : Nat) (v3 : Int32) (v4 : Int32) (d5 : Option Value) (M : am_M), f_X2_raise_13_5_5 N v2 n v3 v4 M = some (r, M') → cR z me_X2_raise (5, [some (.ref 13), some (.ref 5), some (.int v2), some (.int v3), some (.int v4), d5], [], M) r M' := by
  intro n
  induction n with
  | zero => intro v3 v4 d5 M h; cases h
  | succ n ih => intro v3 v4 d5 M h; exact t_X2_raise_13_5_5B z N v2 _ ih v3 v4 d5 M h
def f_X2_raise_13_5 (N : Nat) (p2 : Int32) (M : am_M) : Option (Except Nat (Option Value) × am_M) :=
  f_X2_raise_13_5_5 N p2 N 0 0 M
set_option maxRecDepth 100000 in
theorem t_X2_raise_13_5 (z : Value) (N : Nat) (p2 : Int32) (M : am_M) {r : Except Nat (Option Value)} {M' : am_M} (h : f_X2_raise_13_5 N p2 M = some (r, M')) : cR z me_X2_raise (0, [some (.ref 13), some (.ref 5), some (.int p2), none, none, none], [], M) r M' := by
  unfold f_X2_raise_13_5 at h
  refine am_R.go 4 (q' := (5, [some (.ref 13), some (.ref 5), some (.int p2), some (.int 0), some (.int 0), none], [], M)) rfl trivial ?_
  exact t_X2_raise_13_5_5 z N p2 N 0 0 _ _ h
