def f_X9_rests (N : Nat) (p1 : Int32) (M : am_M) : Option (Except Nat (Option Value) × am_M) :=
  am_bvx (f_X9_needBetween N p1 0 1 M) fun M4 =>
    am_bv (f_X1_findRests N M4) fun M11 =>
      if p1 = 0 then
        some (.ok (some (.int (M11 60 2))), M11)
      else
        some (.ok (some (.int (M11 60 3))), M11)
set_option maxRecDepth 100000 in
theorem t_X9_rests (z : Value) (N : Nat) (p1 : Int32) (M : am_M) {r : Except Nat (Option Value)} {M' : am_M} (h : f_X9_rests N p1 M = some (r, M')) : cR z me_X9_rests (0, [some (.ref 0), some (.int p1)], [], M) r M' := by
  unfold f_X9_rests at h
  refine am_R.go 4 (q' := (4, [some (.ref 0), some (.int p1)], [.int 1, .int 0, .int p1, .ref 0], M)) rfl trivial ?_
  rcases am_bvx_s h with ⟨M4, hz, h⟩ | ⟨x, M4, hz, h⟩
  · refine am_R.call (e' := me_X9_needBetween) (as := [.ref 0, .int p1, .int 0, .int 1]) (rest := []) rfl rfl (Nat.le_of_ble_eq_true rfl) (t_X9_needBetween z N p1 0 1 _ hz) ?_
    refine am_R.go 2 (q' := (11, [some (.ref 0), some (.int p1)], [.ref 60], M4)) rfl trivial ?_
    obtain ⟨M11, hz, h⟩ := am_bv_s h
    refine am_R.call (e' := me_X1_findRests) (as := [.ref 60]) (rest := []) rfl rfl (Nat.le_of_ble_eq_true rfl) (t_X1_findRests z N _ hz) ?_
    refine am_R.go 1 (q' := (15, [some (.ref 0), some (.int p1)], [.int p1], M11)) rfl trivial ?_
    rcases am_it h with ⟨hc, h⟩ | ⟨hc, h⟩
    · refine am_R.cn rfl rfl (fun q => q hc) ?_
      refine am_R.go 4 (q' := (35, [some (.ref 0), some (.int p1)], [.int (M11 60 2)], M11)) rfl trivial ?_
      cases h
      exact am_R.ret rfl rfl trivial
    · refine am_R.ct rfl rfl hc ?_
      refine am_R.go 3 (q' := (35, [some (.ref 0), some (.int p1)], [.int (M11 60 3)], M11)) rfl trivial ?_
      cases h
      exact am_R.ret rfl rfl trivial
  · cases h
    exact am_R.callx (e' := me_X9_needBetween) (as := [.ref 0, .int p1, .int 0, .int 1]) (rest := []) rfl rfl (Nat.le_of_ble_eq_true rfl) rfl (t_X9_needBetween z N p1 0 1 _ hz)
def f_X8_has_7 (N : Nat) (p1 : Int32) (p2 : Int32) (M : am_M) : Option (Except Nat (Option Value) × am_M) :=
  if p1 < 0 then
    some (.ok (some (.int 0)), M)
  else
    if (M 7 3) ≤ p1 then
      some (.ok (some (.int 0)), M)
    else
      if p2 < 0 then
        some (.ok (some (.int 0)), M)
      else
        if (M 7 1) ≤ p2 then
          some (.ok (some (.int 0)), M)
        else
          some (.ok (some (.int 1)), M)
set_option maxRecDepth 100000 in
theorem t_X8_has_7 (z : Value) (N : Nat) (p1 : Int32) (p2 : Int32) (M : am_M) {r : Except Nat (Option Value)} {M' : am_M} (h : f_X8_has_7 N p1 p2 M = some (r, M')) : cR z me_X8_has (0, [some (.ref 7), some (.int p1), some (.int p2)], [], M) r M' := by
  unfold f_X8_has_7 at h
  refine am_R.go 1 (q' := (1, [some (.ref 7), some (.int p1), some (.int p2)], [.int p1], M)) rfl trivial ?_
  rcases am_it h with ⟨hc, h⟩ | ⟨hc, h⟩
  · refine am_R.ct rfl rfl hc ?_
    refine am_R.go 1 (q' := (29, [some (.ref 7), some (.int p1), some (.int p2)], [.int 0], M)) rfl trivial ?_
    cases h
    exact am_R.ret rfl rfl (Or.inl rfl)
  · refine am_R.cn rfl rfl hc ?_
    refine am_R.go 3 (q' := (9, [some (.ref 7), some (.int p1), some (.int p2)], [.int (M 7 3), .int p1], M)) rfl trivial ?_
    rcases am_it h with ⟨hc, h⟩ | ⟨hc, h⟩
    · refine am_R.bt rfl rfl hc ?_
      refine am_R.go 1 (q' := (29, [some (.ref 7), some (.int p1), some (.int p2)], [.int 0], M)) rfl trivial ?_
      cases h
      exact am_R.ret rfl rfl (Or.inl rfl)
    · refine am_R.bn rfl rfl hc ?_
      refine am_R.go 1 (q' := (13, [some (.ref 7), some (.int p1), some (.int p2)], [.int p2], M)) rfl trivial ?_
      rcases am_it h with ⟨hc, h⟩ | ⟨hc, h⟩
      · refine am_R.ct rfl rfl hc ?_
        refine am_R.go 1 (q' := (29, [some (.ref 7), some (.int p1), some (.int p2)], [.int 0], M)) rfl trivial ?_
        cases h
        exact am_R.ret rfl rfl (Or.inl rfl)
      · refine am_R.cn rfl rfl hc ?_
        refine am_R.go 3 (q' := (21, [some (.ref 7), some (.int p1), some (.int p2)], [.int (M 7 1), .int p2], M)) rfl trivial ?_
        rcases am_it h with ⟨hc, h⟩ | ⟨hc, h⟩
        · refine am_R.bt rfl rfl hc ?_
          refine am_R.go 1 (q' := (29, [some (.ref 7), some (.int p1), some (.int p2)], [.int 0], M)) rfl trivial ?_
          cases h
          exact am_R.ret rfl rfl (Or.inl rfl)
        · refine am_R.bn rfl rfl hc ?_
          refine am_R.go 2 (q' := (29, [some (.ref 7), some (.int p1), some (.int p2)], [.int 1], M)) rfl trivial ?_
          cases h
          exact am_R.ret rfl rfl (Or.inr rfl)
def f_X8_at_7 (N : Nat) (p1 : Int32) (p2 : Int32) (M : am_M) : Option (Except Nat (Option Value) × am_M) :=
  am_bi (f_X8_has_7 N p1 p2 M) fun r3 M3 =>
    if r3 = 0 then
      some (.ok (some (.int 0)), M3)
    else
      if am_in ((p1 * (M3 7 1)) + p2) 8 then
        some (.ok (some (.int (M3 8 (((p1 * (M3 7 1)) + p2).toNatClampNeg)))), M3)
      else none
set_option maxRecDepth 100000 in
theorem t_X8_at_7 (z : Value) (N : Nat) (p1 : Int32) (p2 : Int32) (M : am_M) {r : Except Nat (Option Value)} {M' : am_M} (h : f_X8_at_7 N p1 p2 M = some (r, M')) : cR z me_X8_at (0, [some (.ref 7), some (.int p1), some (.int p2)], [], M) r M' := by
  unfold f_X8_at_7 at h
  refine am_R.go 3 (q' := (3, [some (.ref 7), some (.int p1), some (.int p2)], [.int p2, .int p1, .ref 7], M)) rfl trivial ?_
  obtain ⟨r3, M3, hz, h⟩ := am_bi_s h
  refine am_R.call (e' := me_X8_has) (as := [.ref 7, .int p1, .int p2]) (rest := []) rfl rfl (Nat.le_of_ble_eq_true rfl) (t_X8_has_7 z N p1 p2 _ hz) ?_
  rcases am_it h with ⟨hc, h⟩ | ⟨hc, h⟩
  · refine am_R.ct rfl rfl hc ?_
    refine am_R.go 1 (q' := (26, [some (.ref 7), some (.int p1), some (.int p2)], [.int 0], M3)) rfl trivial ?_
    cases h
    exact am_R.ret rfl rfl trivial
  · refine am_R.cn rfl rfl hc ?_
    obtain ⟨hC, h⟩ := am_gd h
    refine am_R.go 10 (q' := (26, [some (.ref 7), some (.int p1), some (.int p2)], [.int (M3 8 (((p1 * (M3 7 1)) + p2).toNatClampNeg))], M3)) rfl ⟨hC, trivial⟩ ?_
    cases h
    exact am_R.ret rfl rfl trivial
def f_X3_fairPart_40B (N : Nat) (v1 : Int32) (v2 : Int32) (k40 : Int32 → Int32 → Int32 → am_M → Option (Except Nat (Option Value) × am_M)) (v3 : Int32) (v4 : Int32) (v5 : Int32) (M : am_M) : Option (Except Nat (Option Value) × am_M) :=
  if (M 7 3) ≤ v5 then
    am_bi (f_X9_partOfFraction N v3 v4 v2 M) fun r118 M118 =>
      some (.ok (some (.int r118)), M118)
  else
    am_bi (f_X8_at_7 N v5 1 M) fun r65 M65 =>
      am_bi (f_X8_at_7 N v5 0 M65) fun r85 M85 =>
        am_bi (f_X3_worthBy N v1 r85 (M85 2 3) M85) fun r95 M95 =>
          k40 (v3 + (r65 * r95)) (v4 + r65) (v5 + 1) M95
def f_X3_fairPart_40 (N : Nat) (v1 : Int32) (v2 : Int32) : Nat → Int32 → Int32 → Int32 → am_M → Option (Except Nat (Option Value) × am_M)
  | 0 => fun _ _ _ _ => none
  | n + 1 => f_X3_fairPart_40B N v1 v2 (f_X3_fairPart_40 N v1 v2 n)
set_option maxRecDepth 100000 in
theorem t_X3_fairPart_40B (z : Value) (N : Nat) (v1 : Int32) (v2 : Int32) {r : Except Nat (Option Value)} {M' : am_M} (k40 : Int32 → Int32 → Int32 → am_M → Option (Except Nat (Option Value) × am_M)) (hk40 : ∀ (v3 : Int32) (v4 : Int32) (v5 : Int32) (d6 : Option Value) (M : am_M), k40 v3 v4 v5 M = some (r, M') → cR z me_X3_fairPart (40, [some (.ref 57), some (.int v1), some (.int v2), some (.int v3), some (.int v4), some (.int v5), d6], [], M) r M') (v3 : Int32) (v4 : Int32) (v5 : Int32) (d6 : Option Value) (M : am_M) (h : f_X3_fairPart_40B N v1 v2 k40 v3 v4 v5 M = some (r, M')) : cR z me_X3_fairPart (40, [some (.ref 57), some (.int v1), some (.int v2), some (.int v3), some (.int v4), some (.int v5), d6], [], M) r M' := by
  unfold f_X3_fairPart_40B at h
  refine am_R.go 5 (q' := (52, [some (.ref 57), some (.int v1), some (.int v2), some (.int v3), some (.int v4), some (.int v5), d6], [.int (M 7 3), .int v5], M)) rfl trivial ?_
  rcases am_it h with ⟨hc, h⟩ | ⟨hc, h⟩
  · refine am_R.bt rfl rfl hc ?_
    refine am_R.go 3 (q' := (118, [some (.ref 57), some (.int v1), some (.int v2), some (.int v3), some (.int v4), some (.int v5), d6], [.int v2, .int v4, .int v3], M)) rfl trivial ?_
    obtain ⟨r118, M118, hz, h⟩ := am_bi_s h
    refine am_R.call (e' := me_X9_partOfFraction) (as := [.int v3, .int v4, .int v2]) (rest := []) rfl rfl (Nat.le_of_ble_eq_true rfl) (t_X9_partOfFraction z N v3 v4 v2 _ hz) ?_
    cases h
    exact am_R.ret rfl rfl trivial
  · refine am_R.bn rfl rfl hc ?_
    refine am_R.go 5 (q' := (65, [some (.ref 57), some (.int v1), some (.int v2), some (.int v3), some (.int v4), some (.int v5), d6], [.int 1, .int v5, .ref 7], M)) rfl trivial ?_
    obtain ⟨r65, M65, hz, h⟩ := am_bi_s h
    refine am_R.call (e' := me_X8_at) (as := [.ref 7, .int v5, .int 1]) (rest := []) rfl rfl (Nat.le_of_ble_eq_true rfl) (t_X8_at_7 z N v5 1 _ hz) ?_
    refine am_R.go 10 (q' := (85, [some (.ref 57), some (.int v1), some (.int v2), some (.int v3), some (.int v4), some (.int v5), some (.int r65)], [.int 0, .int v5, .ref 7, .int v1, .ref 57, .int r65, .int v3], M65)) rfl trivial ?_
    obtain ⟨r85, M85, hz, h⟩ := am_bi_s h
    refine am_R.call (e' := me_X8_at) (as := [.ref 7, .int v5, .int 0]) (rest := [.int v1, .ref 57, .int r65, .int v3]) rfl rfl (Nat.le_of_ble_eq_true rfl) (t_X8_at_7 z N v5 0 _ hz) ?_
    refine am_R.go 3 (q' := (95, [some (.ref 57), some (.int v1), some (.int v2), some (.int v3), some (.int v4), some (.int v5), some (.int r65)], [.int (M85 2 3), .int r85, .int v1, .ref 57, .int r65, .int v3], M85)) rfl trivial ?_
    obtain ⟨r95, M95, hz, h⟩ := am_bi_s h
    refine am_R.call (e' := me_X3_worthBy) (as := [.ref 57, .int v1, .int r85, .int (M85 2 3)]) (rest := [.int r65, .int v3]) rfl rfl (Nat.le_of_ble_eq_true rfl) (t_X3_worthBy z N v1 r85 (M85 2 3) _ hz) ?_
    refine am_R.go 9 (q' := (40, [some (.ref 57), some (.int v1), some (.int v2), some (.int (v3 + (r65 * r95))), some (.int (v4 + r65)), some (.int (v5 + 1)), some (.int r65)], [], M95)) rfl trivial ?_
    exact hk40 (v3 + (r65 * r95)) (v4 + r65) (v5 + 1) _ _ h
set_option maxRecDepth 100000 in
theorem t_X3_fairPart_40 (z : Value) (N : Nat) (v1 : Int32) (v2 : Int32) {r : Except Nat (Option Value)} {M' : am_M} : ∀ (n : Nat) (v3 : Int32) (v4 : Int32) (v5 : Int32) (d6 : Option Value) (M : am_M), f_X3_fairPart_40 N v1 v2 n v3 v4 v5 M = some (r, M') → cR z me_X3_fairPart (40, [some (.ref 57), some (.int v1), some (.int v2), some (.int v3), some (.int v4), some (.int v5), d6], [], M) r M' := by
  intro n
  induction n with
  | zero => intro v3 v4 v5 d6 M h; cases h
  | succ n ih => intro v3 v4 v5 d6 M h; exact t_X3_fairPart_40B z N v1 v2 _ ih v3 v4 v5 d6 M h
def f_X3_fairPart (N : Nat) (p1 : Int32) (p2 : Int32) (M : am_M) : Option (Except Nat (Option Value) × am_M) :=
  if (M 7 3) = 0 then
    am_bi (f_X3_worthBy N p1 0 (M 2 3) M) fun r23 M23 =>
      am_bi (f_X9_partOfFraction N r23 1 p2 M23) fun r28 M28 =>
        some (.ok (some (.int r28)), M28)
  else
    f_X3_fairPart_40 N p1 p2 N 0 0 0 M
set_option maxRecDepth 100000 in
theorem t_X3_fairPart (z : Value) (N : Nat) (p1 : Int32) (p2 : Int32) (M : am_M) {r : Except Nat (Option Value)} {M' : am_M} (h : f_X3_fairPart N p1 p2 M = some (r, M')) : cR z me_X3_fairPart (0, [some (.ref 57), some (.int p1), some (.int p2), none, none, none, none], [], M) r M' := by
  unfold f_X3_fairPart at h
  refine am_R.go 4 (q' := (10, [some (.ref 57), some (.int p1), some (.int p2), none, none, none, none], [.int (M 7 3)], M)) rfl trivial ?_
  rcases am_it h with ⟨hc, h⟩ | ⟨hc, h⟩
  · refine am_R.cn rfl rfl (fun q => q hc) ?_
    refine am_R.go 6 (q' := (23, [some (.ref 57), some (.int p1), some (.int p2), none, none, none, none], [.int (M 2 3), .int 0, .int p1, .ref 57], M)) rfl trivial ?_
    obtain ⟨r23, M23, hz, h⟩ := am_bi_s h
    refine am_R.call (e' := me_X3_worthBy) (as := [.ref 57, .int p1, .int 0, .int (M 2 3)]) (rest := []) rfl rfl (Nat.le_of_ble_eq_true rfl) (t_X3_worthBy z N p1 0 (M 2 3) _ hz) ?_
    refine am_R.go 2 (q' := (28, [some (.ref 57), some (.int p1), some (.int p2), none, none, none, none], [.int p2, .int 1, .int r23], M23)) rfl trivial ?_
    obtain ⟨r28, M28, hz, h⟩ := am_bi_s h
    refine am_R.call (e' := me_X9_partOfFraction) (as := [.int r23, .int 1, .int p2]) (rest := []) rfl rfl (Nat.le_of_ble_eq_true rfl) (t_X9_partOfFraction z N r23 1 p2 _ hz) ?_
    cases h
    exact am_R.ret rfl rfl trivial
  · refine am_R.ct rfl rfl hc ?_
    refine am_R.go 6 (q' := (40, [some (.ref 57), some (.int p1), some (.int p2), some (.int 0), some (.int 0), some (.int 0), none], [], M)) rfl trivial ?_
    exact t_X3_fairPart_40 z N p1 p2 N 0 0 0 _ _ h
def f_X9_fair (N : Nat) (p1 : Int32) (p2 : Int32) (M : am_M) : Option (Except Nat (Option Value) × am_M) :=
  am_bvx (f_X9_needField N p1 M) fun M2 =>
    am_bvx (f_X9_needBetween N p2 0 1 M2) fun M9 =>
      am_bi (f_X3_fairPart N p1 p2 M9) fun r18 M18 =>
        some (.ok (some (.int r18)), M18)
set_option maxRecDepth 100000 in
theorem t_X9_fair (z : Value) (N : Nat) (p1 : Int32) (p2 : Int32) (M : am_M) {r : Except Nat (Option Value)} {M' : am_M} (h : f_X9_fair N p1 p2 M = some (r, M')) : cR z me_X9_fair (0, [some (.ref 0), some (.int p1), some (.int p2)], [], M) r M' := by
  unfold f_X9_fair at h
  refine am_R.go 2 (q' := (2, [some (.ref 0), some (.int p1), some (.int p2)], [.int p1, .ref 0], M)) rfl trivial ?_
  rcases am_bvx_s h with ⟨M2, hz, h⟩ | ⟨x, M2, hz, h⟩
  · refine am_R.call (e' := me_X9_needField) (as := [.ref 0, .int p1]) (rest := []) rfl rfl (Nat.le_of_ble_eq_true rfl) (t_X9_needField z N p1 _ hz) ?_
    refine am_R.go 4 (q' := (9, [some (.ref 0), some (.int p1), some (.int p2)], [.int 1, .int 0, .int p2, .ref 0], M2)) rfl trivial ?_
    rcases am_bvx_s h with ⟨M9, hz, h⟩ | ⟨x, M9, hz, h⟩
    · refine am_R.call (e' := me_X9_needBetween) (as := [.ref 0, .int p2, .int 0, .int 1]) (rest := []) rfl rfl (Nat.le_of_ble_eq_true rfl) (t_X9_needBetween z N p2 0 1 _ hz) ?_
      refine am_R.go 4 (q' := (18, [some (.ref 0), some (.int p1), some (.int p2)], [.int p2, .int p1, .ref 57], M9)) rfl trivial ?_
      obtain ⟨r18, M18, hz, h⟩ := am_bi_s h
      refine am_R.call (e' := me_X3_fairPart) (as := [.ref 57, .int p1, .int p2]) (rest := []) rfl rfl (Nat.le_of_ble_eq_true rfl) (t_X3_fairPart z N p1 p2 _ hz) ?_
      cases h
      exact am_R.ret rfl rfl trivial
    · cases h
      exact am_R.callx (e' := me_X9_needBetween) (as := [.ref 0, .int p2, .int 0, .int 1]) (rest := []) rfl rfl (Nat.le_of_ble_eq_true rfl) rfl (t_X9_needBetween z N p2 0 1 _ hz)
  · cases h
    exact am_R.callx (e' := me_X9_needField) (as := [.ref 0, .int p1]) (rest := []) rfl rfl (Nat.le_of_ble_eq_true rfl) rfl (t_X9_needField z N p1 _ hz)
def f_X3_bestTrade_78B (N : Nat) (v2 : Int32) (v5 : Int32) (k60 : Int32 → Int32 → Int32 → am_M → Option (Except Nat (Option Value) × am_M)) (k78 : Int32 → Int32 → Int32 → am_M → Option (Except Nat (Option Value) × am_M)) (v3 : Int32) (v4 : Int32) (v6 : Int32) (M : am_M) : Option (Except Nat (Option Value) × am_M) :=
  if (M 7 3) ≤ v6 then
    k60 v3 v4 (v5 + 1) M
  else
    if am_in v6 5 ∧ am_in v5 5 then
      if ((M 58 (v6.toNatClampNeg)) - (M 58 (v5.toNatClampNeg))) ≤ v3 then
        k78 v3 v4 (v6 + 1) M
      else
        k78 ((M 58 (v6.toNatClampNeg)) - (M 58 (v5.toNatClampNeg))) ((10 * v5) + v6) (v6 + 1) M
    else none
def f_X3_bestTrade_78 (N : Nat) (v2 : Int32) (v5 : Int32) (k60 : Int32 → Int32 → Int32 → am_M → Option (Except Nat (Option Value) × am_M)) : Nat → Int32 → Int32 → Int32 → am_M → Option (Except Nat (Option Value) × am_M)
  | 0 => fun _ _ _ _ => none
  | n + 1 => f_X3_bestTrade_78B N v2 v5 k60 (f_X3_bestTrade_78 N v2 v5 k60 n)
set_option maxRecDepth 100000 in
theorem t_X3_bestTrade_78B (z : Value) (N : Nat) (v2 : Int32) (v5 : Int32) (k60 : Int32 → Int32 → Int32 → am_M → Option (Except Nat (Option Value) × am_M)) {r : Except Nat (Option Value)} {M' : am_M} (hk60 : ∀ (v3 : Int32) (v4 : Int32) (v5 : Int32) (d1 : Option Value) (d6 : Option Value) (d7 : Option Value) (M : am_M), k60 v3 v4 v5 M = some (r, M') → cR z me_X3_bestTrade (60, [some (.ref 57), d1, some (.int v2), some (.int v3), some (.int v4), some (.int v5), d6, d7], [], M) r M') (k78 : Int32 → Int32 → Int32 → am_M → Option (Except Nat (Option Value) × am_M)) (hk78 : ∀ (v3 : Int32) (v4 : Int32) (v6 : Int32) (d1 : Option Value) (d7 : Option Value) (M : am_M), k78 v3 v4 v6 M = some (r, M') → cR z me_X3_bestTrade (78, [some (.ref 57), d1, some (.int v2), some (.int v3), some (.int v4), some (.int v5), some (.int v6), d7], [], M) r M') (v3 : Int32) (v4 : Int32) (v6 : Int32) (d1 : Option Value) (d7 : Option Value) (M : am_M) (h : f_X3_bestTrade_78B N v2 v5 k60 k78 v3 v4 v6 M = some (r, M')) : cR z me_X3_bestTrade (78, [some (.ref 57), d1, some (.int v2), some (.int v3), some (.int v4), some (.int v5), some (.int v6), d7], [], M) r M' := by
  unfold f_X3_bestTrade_78B at h
  refine am_R.go 5 (q' := (90, [some (.ref 57), d1, some (.int v2), some (.int v3), some (.int v4), some (.int v5), some (.int v6), d7], [.int (M 7 3), .int v6], M)) rfl trivial ?_
  rcases am_it h with ⟨hc, h⟩ | ⟨hc, h⟩
  · refine am_R.bt rfl rfl hc ?_
    refine am_R.go 2 (q' := (60, [some (.ref 57), d1, some (.int v2), some (.int v3), some (.int v4), some (.int (v5 + 1)), some (.int v6), d7], [], M)) rfl trivial ?_
    exact hk60 v3 v4 (v5 + 1) _ _ _ _ h
  · refine am_R.bn rfl rfl hc ?_
    obtain ⟨hC, h⟩ := am_gd h
    refine am_R.go 12 (q' := (113, [some (.ref 57), d1, some (.int v2), some (.int v3), some (.int v4), some (.int v5), some (.int v6), some (.int ((M 58 (v6.toNatClampNeg)) - (M 58 (v5.toNatClampNeg))))], [.int v3, .int ((M 58 (v6.toNatClampNeg)) - (M 58 (v5.toNatClampNeg)))], M)) rfl ⟨hC.1, hC.2, trivial⟩ ?_
    rcases am_it h with ⟨hc, h⟩ | ⟨hc, h⟩
    · refine am_R.bt rfl rfl hc ?_
      refine am_R.go 2 (q' := (78, [some (.ref 57), d1, some (.int v2), some (.int v3), some (.int v4), some (.int v5), some (.int (v6 + 1)), some (.int ((M 58 (v6.toNatClampNeg)) - (M 58 (v5.toNatClampNeg))))], [], M)) rfl trivial ?_
      exact hk78 v3 v4 (v6 + 1) _ _ _ h
    · refine am_R.bn rfl rfl hc ?_
      refine am_R.go 10 (q' := (78, [some (.ref 57), d1, some (.int v2), some (.int ((M 58 (v6.toNatClampNeg)) - (M 58 (v5.toNatClampNeg)))), some (.int ((10 * v5) + v6)), some (.int v5), some (.int (v6 + 1)), some (.int ((M 58 (v6.toNatClampNeg)) - (M 58 (v5.toNatClampNeg))))], [], M)) rfl trivial ?_
      exact hk78 ((M 58 (v6.toNatClampNeg)) - (M 58 (v5.toNatClampNeg))) ((10 * v5) + v6) (v6 + 1) _ _ _ h
set_option maxRecDepth 100000 in
theorem t_X3_bestTrade_78 (z : Value) (N : Nat) (v2 : Int32) (v5 : Int32) (k60 : Int32 → Int32 → Int32 → am_M → Option (Except Nat (Option Value) × am_M)) {r : Except Nat (Option Value)} {M' : am_M} (hk60 : ∀ (v3 : Int32) (v4 : Int32) (v5 : Int32) (d1 : Option Value) (d6 : Option Value) (d7 : Option Value) (M : am_M), k60 v3 v4 v5 M = some (r, M') → cR z me_X3_bestTrade (60, [some (.ref 57), d1, some (.int v2), some (.int v3), some (.int v4), some (.int v5), d6, d7], [], M) r M') : ∀ (n : Nat) (v3 : Int32) (v4 : Int32) (v6 : Int32) (d1 : Option Value) (d7 : Option Value) (M : am_M), f_X3_bestTrade_78 N v2 v5 k60 n v3 v4 v6 M = some (r, M') → cR z me_X3_bestTrade (78, [some (.ref 57), d1, some (.int v2), some (.int v3), some (.int v4), some (.int v5), some (.int v6), d7], [], M) r M' := by
  intro n
  induction n with
  | zero => intro v3 v4 v6 d1 d7 M h; cases h
  | succ n ih => intro v3 v4 v6 d1 d7 M h; exact t_X3_bestTrade_78B z N v2 v5 k60 hk60 _ ih v3 v4 v6 d1 d7 M h
def f_X3_bestTrade_60B (N : Nat) (v2 : Int32) (k60 : Int32 → Int32 → Int32 → am_M → Option (Except Nat (Option Value) × am_M)) (v3 : Int32) (v4 : Int32) (v5 : Int32) (M : am_M) : Option (Except Nat (Option Value) × am_M) :=
  if (M 7 3) ≤ v5 then
    if v2 = 0 then
      some (.ok (some (.int v3)), M)
    else
      some (.ok (some (.int v4)), M)
  else
    f_X3_bestTrade_78 N v2 v5 k60 N v3 v4 0 M
def f_X3_bestTrade_60 (N : Nat) (v2 : Int32) : Nat → Int32 → Int32 → Int32 → am_M → Option (Except Nat (Option Value) × am_M)
  | 0 => fun _ _ _ _ => none
  | n + 1 => f_X3_bestTrade_60B N v2 (f_X3_bestTrade_60 N v2 n)
set_option maxRecDepth 100000 in
theorem t_X3_bestTrade_60B (z : Value) (N : Nat) (v2 : Int32) {r : Except Nat (Option Value)} {M' : am_M} (k60 : Int32 → Int32 → Int32 → am_M → Option (Except Nat (Option Value) × am_M)) (hk60 : ∀ (v3 : Int32) (v4 : Int32) (v5 : Int32) (d1 : Option Value) (d6 : Option Value) (d7 : Option Value) (M : am_M), k60 v3 v4 v5 M = some (r, M') → cR z me_X3_bestTrade (60, [some (.ref 57), d1, some (.int v2), some (.int v3), some (.int v4), some (.int v5), d6, d7], [], M) r M') (v3 : Int32) (v4 : Int32) (v5 : Int32) (d1 : Option Value) (d6 : Option Value) (d7 : Option Value) (M : am_M) (h : f_X3_bestTrade_60B N v2 k60 v3 v4 v5 M = some (r, M')) : cR z me_X3_bestTrade (60, [some (.ref 57), d1, some (.int v2), some (.int v3), some (.int v4), some (.int v5), d6, d7], [], M) r M' := by
  unfold f_X3_bestTrade_60B at h
  refine am_R.go 5 (q' := (72, [some (.ref 57), d1, some (.int v2), some (.int v3), some (.int v4), some (.int v5), d6, d7], [.int (M 7 3), .int v5], M)) rfl trivial ?_
  rcases am_it h with ⟨hc, h⟩ | ⟨hc, h⟩
  · refine am_R.bt rfl rfl hc ?_
    refine am_R.go 1 (q' := (142, [some (.ref 57), d1, some (.int v2), some (.int v3), some (.int v4), some (.int v5), d6, d7], [.int v2], M)) rfl trivial ?_
    rcases am_it h with ⟨hc, h⟩ | ⟨hc, h⟩
    · refine am_R.cn rfl rfl (fun q => q hc) ?_
      refine am_R.go 2 (q' := (151, [some (.ref 57), d1, some (.int v2), some (.int v3), some (.int v4), some (.int v5), d6, d7], [.int v3], M)) rfl trivial ?_
      cases h
      exact am_R.ret rfl rfl trivial
    · refine am_R.ct rfl rfl hc ?_
      refine am_R.go 1 (q' := (151, [some (.ref 57), d1, some (.int v2), some (.int v3), some (.int v4), some (.int v5), d6, d7], [.int v4], M)) rfl trivial ?_
      cases h
      exact am_R.ret rfl rfl trivial
  · refine am_R.bn rfl rfl hc ?_
    refine am_R.go 2 (q' := (78, [some (.ref 57), d1, some (.int v2), some (.int v3), some (.int v4), some (.int v5), some (.int 0), d7], [], M)) rfl trivial ?_
    exact t_X3_bestTrade_78 z N v2 v5 k60 hk60 N v3 v4 0 _ _ _ h
set_option maxRecDepth 100000 in
theorem t_X3_bestTrade_60 (z : Value) (N : Nat) (v2 : Int32) {r : Except Nat (Option Value)} {M' : am_M} : ∀ (n : Nat) (v3 : Int32) (v4 : Int32) (v5 : Int32) (d1 : Option Value) (d6 : Option Value) (d7 : Option Value) (M : am_M), f_X3_bestTrade_60 N v2 n v3 v4 v5 M = some (r, M') → cR z me_X3_bestTrade (60, [some (.ref 57), d1, some (.int v2), some (.int v3), some (.int v4), some (.int v5), d6, d7], [], M) r M' := by
  intro n
  induction n with
  | zero => intro v3 v4 v5 d1 d6 d7 M h; cases h
  | succ n ih => intro v3 v4 v5 d1 d6 d7 M h; exact t_X3_bestTrade_60B z N v2 _ ih v3 v4 v5 d1 d6 d7 M h
def f_X3_bestTrade_2B (N : Nat) (v1 : Int32) (v2 : Int32) (k2 : Int32 → am_M → Option (Except Nat (Option Value) × am_M)) (v3 : Int32) (M : am_M) : Option (Except Nat (Option Value) × am_M) :=
  if (M 7 3) ≤ v3 then
    f_X3_bestTrade_60 N v2 N 0 (-1) 0 M
  else
    am_bi (f_X8_at_7 N v3 0 M) fun r32 M32 =>
      am_bi (f_X3_worthBy N v1 r32 (M32 2 3) M32) fun r42 M42 =>
        if am_in v3 5 then
          k2 (v3 + 1) (am_up M42 58 (v3.toNatClampNeg) r42)
        else none
def f_X3_bestTrade_2 (N : Nat) (v1 : Int32) (v2 : Int32) : Nat → Int32 → am_M → Option (Except Nat (Option Value) × am_M)
  | 0 => fun _ _ => none
  | n + 1 => f_X3_bestTrade_2B N v1 v2 (f_X3_bestTrade_2 N v1 v2 n)
set_option maxRecDepth 100000 in
theorem t_X3_bestTrade_2B (z : Value) (N : Nat) (v1 : Int32) (v2 : Int32) {r : Except Nat (Option Value)} {M' : am_M} (k2 : Int32 → am_M → Option (Except Nat (Option Value) × am_M)) (hk2 : ∀ (v3 : Int32) (d4 : Option Value) (d5 : Option Value) (d6 : Option Value) (d7 : Option Value) (M : am_M), k2 v3 M = some (r, M') → cR z me_X3_bestTrade (2, [some (.ref 57), some (.int v1), some (.int v2), some (.int v3), d4, d5, d6, d7], [], M) r M') (v3 : Int32) (d4 : Option Value) (d5 : Option Value) (d6 : Option Value) (d7 : Option Value) (M : am_M) (h : f_X3_bestTrade_2B N v1 v2 k2 v3 M = some (r, M')) : cR z me_X3_bestTrade (2, [some (.ref 57), some (.int v1), some (.int v2), some (.int v3), d4, d5, d6, d7], [], M) r M' := by
  unfold f_X3_bestTrade_2B at h
  refine am_R.go 5 (q' := (13, [some (.ref 57), some (.int v1), some (.int v2), some (.int v3), d4, d5, d6, d7], [.int (M 7 3), .int v3], M)) rfl trivial ?_
  rcases am_it h with ⟨hc, h⟩ | ⟨hc, h⟩
  · refine am_R.bt rfl rfl hc ?_
    refine am_R.go 6 (q' := (60, [some (.ref 57), some (.int v1), some (.int v2), some (.int 0), some (.int (-1)), some (.int 0), d6, d7], [], M)) rfl trivial ?_
    exact t_X3_bestTrade_60 z N v2 N 0 (-1) 0 _ _ _ _ h
  · refine am_R.bn rfl rfl hc ?_
    refine am_R.go 10 (q' := (32, [some (.ref 57), some (.int v1), some (.int v2), some (.int v3), d4, d5, d6, d7], [.int 0, .int v3, .ref 7, .int v1, .ref 57, .int v3, .ref 58], M)) rfl trivial ?_
    obtain ⟨r32, M32, hz, h⟩ := am_bi_s h
    refine am_R.call (e' := me_X8_at) (as := [.ref 7, .int v3, .int 0]) (rest := [.int v1, .ref 57, .int v3, .ref 58]) rfl rfl (Nat.le_of_ble_eq_true rfl) (t_X8_at_7 z N v3 0 _ hz) ?_
    refine am_R.go 3 (q' := (42, [some (.ref 57), some (.int v1), some (.int v2), some (.int v3), d4, d5, d6, d7], [.int (M32 2 3), .int r32, .int v1, .ref 57, .int v3, .ref 58], M32)) rfl trivial ?_
    obtain ⟨r42, M42, hz, h⟩ := am_bi_s h
    refine am_R.call (e' := me_X3_worthBy) (as := [.ref 57, .int v1, .int r32, .int (M32 2 3)]) (rest := [.int v3, .ref 58]) rfl rfl (Nat.le_of_ble_eq_true rfl) (t_X3_worthBy z N v1 r32 (M32 2 3) _ hz) ?_
    obtain ⟨hC, h⟩ := am_gd h
    refine am_R.go 3 (q' := (2, [some (.ref 57), some (.int v1), some (.int v2), some (.int (v3 + 1)), d4, d5, d6, d7], [], am_up M42 58 (v3.toNatClampNeg) r42)) rfl ⟨hC, trivial⟩ ?_
    exact hk2 (v3 + 1) _ _ _ _ _ h
set_option maxRecDepth 100000 in
theorem t_X3_bestTrade_2 (z : Value) (N : Nat) (v1 : Int32) (v2 : Int32) {r : Except Nat (Option Value)} {M' : am_M} : ∀ (n : Nat) (v3 : Int32) (d4 : Option Value) (d5 : Option Value) (d6 : Option Value) (d7 : Option Value) (M : am_M), f_X3_bestTrade_2 N v1 v2 n v3 M = some (r, M') → cR z me_X3_bestTrade (2, [some (.ref 57), some (.int v1), some (.int v2), some (.int v3), d4, d5, d6, d7], [], M) r M' := by
  intro n
  induction n with
  | zero => intro v3 d4 d5 d6 d7 M h; cases h
  | succ n ih => intro v3 d4 d5 d6 d7 M h; exact t_X3_bestTrade_2B z N v1 v2 _ ih v3 d4 d5 d6 d7 M h
def f_X3_bestTrade (N : Nat) (p1 : Int32) (p2 : Int32) (M : am_M) : Option (Except Nat (Option Value) × am_M) :=
  f_X3_bestTrade_2 N p1 p2 N 0 M
set_option maxRecDepth 100000 in
theorem t_X3_bestTrade (z : Value) (N : Nat) (p1 : Int32) (p2 : Int32) (M : am_M) {r : Except Nat (Option Value)} {M' : am_M} (h : f_X3_bestTrade N p1 p2 M = some (r, M')) : cR z me_X3_bestTrade (0, [some (.ref 57), some (.int p1), some (.int p2), none, none, none, none, none], [], M) r M' := by
  unfold f_X3_bestTrade at h
  refine am_R.go 2 (q' := (2, [some (.ref 57), some (.int p1), some (.int p2), some (.int 0), none, none, none, none], [], M)) rfl trivial ?_
  exact t_X3_bestTrade_2 z N p1 p2 N 0 _ _ _ _ _ h
def f_X9_trade (N : Nat) (p1 : Int32) (p2 : Int32) (M : am_M) : Option (Except Nat (Option Value) × am_M) :=
  am_bvx (f_X9_needField N p1 M) fun M2 =>
    am_bvx (f_X9_needBetween N p2 0 1 M2) fun M9 =>
      am_bi (f_X3_bestTrade N p1 p2 M9) fun r18 M18 =>
        some (.ok (some (.int r18)), M18)
set_option maxRecDepth 100000 in
theorem t_X9_trade (z : Value) (N : Nat) (p1 : Int32) (p2 : Int32) (M : am_M) {r : Except Nat (Option Value)} {M' : am_M} (h : f_X9_trade N p1 p2 M = some (r, M')) : cR z me_X9_trade (0, [some (.ref 0), some (.int p1), some (.int p2)], [], M) r M' := by
  unfold f_X9_trade at h
  refine am_R.go 2 (q' := (2, [some (.ref 0), some (.int p1), some (.int p2)], [.int p1, .ref 0], M)) rfl trivial ?_
  rcases am_bvx_s h with ⟨M2, hz, h⟩ | ⟨x, M2, hz, h⟩
  · refine am_R.call (e' := me_X9_needField) (as := [.ref 0, .int p1]) (rest := []) rfl rfl (Nat.le_of_ble_eq_true rfl) (t_X9_needField z N p1 _ hz) ?_
    refine am_R.go 4 (q' := (9, [some (.ref 0), some (.int p1), some (.int p2)], [.int 1, .int 0, .int p2, .ref 0], M2)) rfl trivial ?_
    rcases am_bvx_s h with ⟨M9, hz, h⟩ | ⟨x, M9, hz, h⟩
    · refine am_R.call (e' := me_X9_needBetween) (as := [.ref 0, .int p2, .int 0, .int 1]) (rest := []) rfl rfl (Nat.le_of_ble_eq_true rfl) (t_X9_needBetween z N p2 0 1 _ hz) ?_
      refine am_R.go 4 (q' := (18, [some (.ref 0), some (.int p1), some (.int p2)], [.int p2, .int p1, .ref 57], M9)) rfl trivial ?_
      obtain ⟨r18, M18, hz, h⟩ := am_bi_s h
      refine am_R.call (e' := me_X3_bestTrade) (as := [.ref 57, .int p1, .int p2]) (rest := []) rfl rfl (Nat.le_of_ble_eq_true rfl) (t_X3_bestTrade z N p1 p2 _ hz) ?_
      cases h
      exact am_R.ret rfl rfl trivial
    · cases h
      exact am_R.callx (e' := me_X9_needBetween) (as := [.ref 0, .int p2, .int 0, .int 1]) (rest := []) rfl rfl (Nat.le_of_ble_eq_true rfl) rfl (t_X9_needBetween z N p2 0 1 _ hz)
  · cases h
    exact am_R.callx (e' := me_X9_needField) (as := [.ref 0, .int p1]) (rest := []) rfl rfl (Nat.le_of_ble_eq_true rfl) rfl (t_X9_needField z N p1 _ hz)
def f_cJ6_compare (N : Nat) (p0 : Int32) (p1 : Int32) (M : am_M) : Option (Except Nat (Option Value) × am_M) :=
  if p1 ≤ p0 then
    if p0 = p1 then
      some (.ok (some (.int 0)), M)
    else
      some (.ok (some (.int 1)), M)
  else
    some (.ok (some (.int (-1))), M)
set_option maxRecDepth 100000 in
theorem t_cJ6_compare (z : Value) (N : Nat) (p0 : Int32) (p1 : Int32) (M : am_M) {r : Except Nat (Option Value)} {M' : am_M} (h : f_cJ6_compare N p0 p1 M = some (r, M')) : cR z me_J6_compare_7cf53 (0, [some (.int p0), some (.int p1)], [], M) r M' := by
  unfold f_cJ6_compare at h
  refine am_R.go 2 (q' := (2, [some (.int p0), some (.int p1)], [.int p1, .int p0], M)) rfl trivial ?_
  rcases am_it h with ⟨hc, h⟩ | ⟨hc, h⟩
  · refine am_R.bt rfl rfl hc ?_
    refine am_R.go 2 (q' := (11, [some (.int p0), some (.int p1)], [.int p1, .int p0], M)) rfl trivial ?_
    rcases am_it h with ⟨hc, h⟩ | ⟨hc, h⟩
    · refine am_R.bn rfl rfl (fun q => q hc) ?_
      refine am_R.go 2 (q' := (19, [some (.int p0), some (.int p1)], [.int 0], M)) rfl trivial ?_
      cases h
      exact am_R.ret rfl rfl trivial
    · refine am_R.bt rfl rfl hc ?_
      refine am_R.go 1 (q' := (19, [some (.int p0), some (.int p1)], [.int 1], M)) rfl trivial ?_
      cases h
      exact am_R.ret rfl rfl trivial
  · refine am_R.bn rfl rfl hc ?_
    refine am_R.go 2 (q' := (19, [some (.int p0), some (.int p1)], [.int (-1)], M)) rfl trivial ?_
    cases h
    exact am_R.ret rfl rfl trivial
def f_X3_unlikePairs_74B (N : Nat) (v4 : Int32) (k53 : Int32 → Int32 → am_M → Option (Except Nat (Option Value) × am_M)) (k74 : Int32 → Int32 → am_M → Option (Except Nat (Option Value) × am_M)) (v3 : Int32) (v5 : Int32) (M : am_M) : Option (Except Nat (Option Value) × am_M) :=
  if (M 3 3) ≤ v5 then
    k53 v3 (v4 + 1) M
  else
    if am_in v4 5 ∧ am_in v5 5 then
      am_bi (f_cJ6_compare N (M 58 (v4.toNatClampNeg)) (M 58 (v5.toNatClampNeg)) M) fun r103 M103 =>
        if am_in v4 5 ∧ am_in v5 5 then
          am_bi (f_cJ6_compare N (M103 59 (v4.toNatClampNeg)) (M103 59 (v5.toNatClampNeg)) M103) fun r120 M120 =>
            if r103 = r120 then
              k74 v3 (v5 + 1) M120
            else
              k74 (v3 + 1) (v5 + 1) M120
        else none
    else none
def f_X3_unlikePairs_74 (N : Nat) (v4 : Int32) (k53 : Int32 → Int32 → am_M → Option (Except Nat (Option Value) × am_M)) : Nat → Int32 → Int32 → am_M → Option (Except Nat (Option Value) × am_M)
  | 0 => fun _ _ _ => none
  | n + 1 => f_X3_unlikePairs_74B N v4 k53 (f_X3_unlikePairs_74 N v4 k53 n)
set_option maxRecDepth 100000 in
theorem t_X3_unlikePairs_74B (z : Value) (N : Nat) (v4 : Int32) (k53 : Int32 → Int32 → am_M → Option (Except Nat (Option Value) × am_M)) {r : Except Nat (Option Value)} {M' : am_M} (hk53 : ∀ (v3 : Int32) (v4 : Int32) (d1 : Option Value) (d2 : Option Value) (d5 : Option Value) (M : am_M), k53 v3 v4 M = some (r, M') → cR z me_X3_unlikePairs (53, [some (.ref 57), d1, d2, some (.int v3), some (.int v4), d5], [], M) r M') (k74 : Int32 → Int32 → am_M → Option (Except Nat (Option Value) × am_M)) (hk74 : ∀ (v3 : Int32) (v5 : Int32) (d1 : Option Value) (d2 : Option Value) (M : am_M), k74 v3 v5 M = some (r, M') → cR z me_X3_unlikePairs (74, [some (.ref 57), d1, d2, some (.int v3), some (.int v4), some (.int v5)], [], M) r M') (v3 : Int32) (v5 : Int32) (d1 : Option Value) (d2 : Option Value) (M : am_M) (h : f_X3_unlikePairs_74B N v4 k53 k74 v3 v5 M = some (r, M')) : cR z me_X3_unlikePairs (74, [some (.ref 57), d1, d2, some (.int v3), some (.int v4), some (.int v5)], [], M) r M' := by
  unfold f_X3_unlikePairs_74B at h
  refine am_R.go 5 (q' := (86, [some (.ref 57), d1, d2, some (.int v3), some (.int v4), some (.int v5)], [.int (M 3 3), .int v5], M)) rfl trivial ?_
  rcases am_it h with ⟨hc, h⟩ | ⟨hc, h⟩
  · refine am_R.bt rfl rfl hc ?_
    refine am_R.go 2 (q' := (53, [some (.ref 57), d1, d2, some (.int v3), some (.int (v4 + 1)), some (.int v5)], [], M)) rfl trivial ?_
    exact hk53 v3 (v4 + 1) _ _ _ _ h
  · refine am_R.bn rfl rfl hc ?_
    obtain ⟨hC, h⟩ := am_gd h
    refine am_R.go 8 (q' := (103, [some (.ref 57), d1, d2, some (.int v3), some (.int v4), some (.int v5)], [.int (M 58 (v5.toNatClampNeg)), .int (M 58 (v4.toNatClampNeg))], M)) rfl ⟨hC.1, hC.2, trivial⟩ ?_
    obtain ⟨r103, M103, hz, h⟩ := am_bi_s h
    refine am_R.call (e' := me_J6_compare_7cf53) (as := [.int (M 58 (v4.toNatClampNeg)), .int (M 58 (v5.toNatClampNeg))]) (rest := []) rfl rfl (Nat.le_of_ble_eq_true rfl) (t_cJ6_compare z N (M 58 (v4.toNatClampNeg)) (M 58 (v5.toNatClampNeg)) _ hz) ?_
    obtain ⟨hC, h⟩ := am_gd h
    refine am_R.go 8 (q' := (120, [some (.ref 57), d1, d2, some (.int v3), some (.int v4), some (.int v5)], [.int (M103 59 (v5.toNatClampNeg)), .int (M103 59 (v4.toNatClampNeg)), .int r103], M103)) rfl ⟨hC.1, hC.2, trivial⟩ ?_
    obtain ⟨r120, M120, hz, h⟩ := am_bi_s h
    refine am_R.call (e' := me_J6_compare_7cf53) (as := [.int (M103 59 (v4.toNatClampNeg)), .int (M103 59 (v5.toNatClampNeg))]) (rest := [.int r103]) rfl rfl (Nat.le_of_ble_eq_true rfl) (t_cJ6_compare z N (M103 59 (v4.toNatClampNeg)) (M103 59 (v5.toNatClampNeg)) _ hz) ?_
    rcases am_it h with ⟨hc, h⟩ | ⟨hc, h⟩
    · refine am_R.bt rfl rfl hc ?_
      refine am_R.go 2 (q' := (74, [some (.ref 57), d1, d2, some (.int v3), some (.int v4), some (.int (v5 + 1))], [], M120)) rfl trivial ?_
      exact hk74 v3 (v5 + 1) _ _ _ h
    · refine am_R.bn rfl rfl hc ?_
      refine am_R.go 3 (q' := (74, [some (.ref 57), d1, d2, some (.int (v3 + 1)), some (.int v4), some (.int (v5 + 1))], [], M120)) rfl trivial ?_
      exact hk74 (v3 + 1) (v5 + 1) _ _ _ h
set_option maxRecDepth 100000 in
theorem t_X3_unlikePairs_74 (z : Value) (N : Nat) (v4 : Int32) (k53 : Int32 → Int32 → am_M → Option (Except Nat (Option Value) × am_M)) {r : Except Nat (Option Value)} {M' : am_M} (hk53 : ∀ (v3 : Int32) (v4 : Int32) (d1 : Option Value) (d2 : Option Value) (d5 : Option Value) (M : am_M), k53 v3 v4 M = some (r, M') → cR z me_X3_unlikePairs (53, [some (.ref 57), d1, d2, some (.int v3), some (.int v4), d5], [], M) r M') : ∀ (n : Nat) (v3 : Int32) (v5 : Int32) (d1 : Option Value) (d2 : Option Value) (M : am_M), f_X3_unlikePairs_74 N v4 k53 n v3 v5 M = some (r, M') → cR z me_X3_unlikePairs (74, [some (.ref 57), d1, d2, some (.int v3), some (.int v4), some (.int v5)], [], M) r M' := by
  intro n
  induction n with
  | zero => intro v3 v5 d1 d2 M h; cases h
  | succ n ih => intro v3 v5 d1 d2 M h; exact t_X3_unlikePairs_74B z N v4 k53 hk53 _ ih v3 v5 d1 d2 M h
def f_X3_unlikePairs_53B (N : Nat) (k53 : Int32 → Int32 → am_M → Option (Except Nat (Option Value) × am_M)) (v3 : Int32) (v4 : Int32) (M : am_M) : Option (Except Nat (Option Value) × am_M) :=
  if (M 3 3) ≤ v4 then
    some (.ok (some (.int v3)), M)
  else
    f_X3_unlikePairs_74 N v4 k53 N v3 (v4 + 1) M
def f_X3_unlikePairs_53 (N : Nat) : Nat → Int32 → Int32 → am_M → Option (Except Nat (Option Value) × am_M)
  | 0 => fun _ _ _ => none
  | n + 1 => f_X3_unlikePairs_53B N (f_X3_unlikePairs_53 N n)
set_option maxRecDepth 100000 in
theorem t_X3_unlikePairs_53B (z : Value) (N : Nat) {r : Except Nat (Option Value)} {M' : am_M} (k53 : Int32 → Int32 → am_M → Option (Except Nat (Option Value) × am_M)) (hk53 : ∀ (v3 : Int32) (v4 : Int32) (d1 : Option Value) (d2 : Option Value) (d5 : Option Value) (M : am_M), k53 v3 v4 M = some (r, M') → cR z me_X3_unlikePairs (53, [some (.ref 57), d1, d2, some (.int v3), some (.int v4), d5], [], M) r M') (v3 : Int32) (v4 : Int32) (d1 : Option Value) (d2 : Option Value) (d5 : Option Value) (M : am_M) (h : f_X3_unlikePairs_53B N k53 v3 v4 M = some (r, M')) : cR z me_X3_unlikePairs (53, [some (.ref 57), d1, d2, some (.int v3), some (.int v4), d5], [], M) r M' := by
  unfold f_X3_unlikePairs_53B at h
  refine am_R.go 5 (q' := (65, [some (.ref 57), d1, d2, some (.int v3), some (.int v4), d5], [.int (M 3 3), .int v4], M)) rfl trivial ?_
  rcases am_it h with ⟨hc, h⟩ | ⟨hc, h⟩
  · refine am_R.bt rfl rfl hc ?_
    refine am_R.go 1 (q' := (142, [some (.ref 57), d1, d2, some (.int v3), some (.int v4), d5], [.int v3], M)) rfl trivial ?_
    cases h
    exact am_R.ret rfl rfl trivial
  · refine am_R.bn rfl rfl hc ?_
    refine am_R.go 4 (q' := (74, [some (.ref 57), d1, d2, some (.int v3), some (.int v4), some (.int (v4 + 1))], [], M)) rfl trivial ?_
    exact t_X3_unlikePairs_74 z N v4 k53 hk53 N v3 (v4 + 1) _ _ _ h
set_option maxRecDepth 100000 in
theorem t_X3_unlikePairs_53 (z : Value) (N : Nat) {r : Except Nat (Option Value)} {M' : am_M} : ∀ (n : Nat) (v3 : Int32) (v4 : Int32) (d1 : Option Value) (d2 : Option Value) (d5 : Option Value) (M : am_M), f_X3_unlikePairs_53 N n v3 v4 M = some (r, M') → cR z me_X3_unlikePairs (53, [some (.ref 57), d1, d2, some (.int v3), some (.int v4), d5], [], M) r M' := by
  intro n
  induction n with
  | zero => intro v3 v4 d1 d2 d5 M h; cases h
  | succ n ih => intro v3 v4 d1 d2 d5 M h; exact t_X3_unlikePairs_53B z N _ ih v3 v4 d1 d2 d5 M h
def f_X3_unlikePairs_2B (N : Nat) (v1 : Int32) (v2 : Int32) (k2 : Int32 → am_M → Option (Except Nat (Option Value) × am_M)) (v3 : Int32) (M : am_M) : Option (Except Nat (Option Value) × am_M) :=
  if (M 3 3) ≤ v3 then
    f_X3_unlikePairs_53 N N 0 0 M
  else
    am_bi (f_X3_worthBy N v3 0 v1 M) fun r25 M25 =>
      if am_in v3 5 then
        am_bi (f_X3_worthBy N v3 0 v2 (am_up M25 58 (v3.toNatClampNeg) r25)) fun r38 M38 =>
          if am_in v3 5 then
            k2 (v3 + 1) (am_up M38 59 (v3.toNatClampNeg) r38)
          else none
      else none
def f_X3_unlikePairs_2 (N : Nat) (v1 : Int32) (v2 : Int32) : Nat → Int32 → am_M → Option (Except Nat (Option Value) × am_M)
  | 0 => fun _ _ => none
  | n + 1 => f_X3_unlikePairs_2B N v1 v2 (f_X3_unlikePairs_2 N v1 v2 n)
set_option maxRecDepth 100000 in
theorem t_X3_unlikePairs_2B (z : Value) (N : Nat) (v1 : Int32) (v2 : Int32) {r : Except Nat (Option Value)} {M' : am_M} (k2 : Int32 → am_M → Option (Except Nat (Option Value) × am_M)) (hk2 : ∀ (v3 : Int32) (d4 : Option Value) (d5 : Option Value) (M : am_M), k2 v3 M = some (r, M') → cR z me_X3_unlikePairs (2, [some (.ref 57), some (.int v1), some (.int v2), some (.int v3), d4, d5], [], M) r M') (v3 : Int32) (d4 : Option Value) (d5 : Option Value) (M : am_M) (h : f_X3_unlikePairs_2B N v1 v2 k2 v3 M = some (r, M')) : cR z me_X3_unlikePairs (2, [some (.ref 57), some (.int v1), some (.int v2), some (.int v3), d4, d5], [], M) r M' := by
  unfold f_X3_unlikePairs_2B at h
  refine am_R.go 5 (q' := (13, [some (.ref 57), some (.int v1), some (.int v2), some (.int v3), d4, d5], [.int (M 3 3), .int v3], M)) rfl trivial ?_
  rcases am_it h with ⟨hc, h⟩ | ⟨hc, h⟩
  · refine am_R.bt rfl rfl hc ?_
    refine am_R.go 4 (q' := (53, [some (.ref 57), some (.int v1), some (.int v2), some (.int 0), some (.int 0), d5], [], M)) rfl trivial ?_
    exact t_X3_unlikePairs_53 z N N 0 0 _ _ _ _ h
  · refine am_R.bn rfl rfl hc ?_
    refine am_R.go 7 (q' := (25, [some (.ref 57), some (.int v1), some (.int v2), some (.int v3), d4, d5], [.int v1, .int 0, .int v3, .ref 57, .int v3, .ref 58], M)) rfl trivial ?_
    obtain ⟨r25, M25, hz, h⟩ := am_bi_s h
    refine am_R.call (e' := me_X3_worthBy) (as := [.ref 57, .int v3, .int 0, .int v1]) (rest := [.int v3, .ref 58]) rfl rfl (Nat.le_of_ble_eq_true rfl) (t_X3_worthBy z N v3 0 v1 _ hz) ?_
    obtain ⟨hC, h⟩ := am_gd h
    refine am_R.go 8 (q' := (38, [some (.ref 57), some (.int v1), some (.int v2), some (.int v3), d4, d5], [.int v2, .int 0, .int v3, .ref 57, .int v3, .ref 59], am_up M25 58 (v3.toNatClampNeg) r25)) rfl ⟨hC, trivial⟩ ?_
    obtain ⟨r38, M38, hz, h⟩ := am_bi_s h
    refine am_R.call (e' := me_X3_worthBy) (as := [.ref 57, .int v3, .int 0, .int v2]) (rest := [.int v3, .ref 59]) rfl rfl (Nat.le_of_ble_eq_true rfl) (t_X3_worthBy z N v3 0 v2 _ hz) ?_
    obtain ⟨hC, h⟩ := am_gd h
    refine am_R.go 3 (q' := (2, [some (.ref 57), some (.int v1), some (.int v2), some (.int (v3 + 1)), d4, d5], [], am_up M38 59 (v3.toNatClampNeg) r38)) rfl ⟨hC, trivial⟩ ?_
    exact hk2 (v3 + 1) _ _ _ h
set_option maxRecDepth 100000 in
theorem t_X3_unlikePairs_2 (z : Value) (N : Nat) (v1 : Int32) (v2 : Int32) {r : Except Nat (Option Value)} {M' : am_M} : ∀ (n : Nat) (v3 : Int32) (d4 : Option Value) (d5 : Option Value) (M : am_M), f_X3_unlikePairs_2 N v1 v2 n v3 M = some (r, M') → cR z me_X3_unlikePairs (2, [some (.ref 57), some (.int v1), some (.int v2), some (.int v3), d4, d5], [], M) r M' := by
  intro n
  induction n with
  | zero => intro v3 d4 d5 M h; cases h
  | succ n ih => intro v3 d4 d5 M h; exact t_X3_unlikePairs_2B z N v1 v2 _ ih v3 d4 d5 M h
def f_X3_unlikePairs (N : Nat) (p1 : Int32) (p2 : Int32) (M : am_M) : Option (Except Nat (Option Value) × am_M) :=
  f_X3_unlikePairs_2 N p1 p2 N 0 M
set_option maxRecDepth 100000 in
theorem t_X3_unlikePairs (z : Value) (N : Nat) (p1 : Int32) (p2 : Int32) (M : am_M) {r : Except Nat (Option Value)} {M' : am_M} (h : f_X3_unlikePairs N p1 p2 M = some (r, M')) : cR z me_X3_unlikePairs (0, [some (.ref 57), some (.int p1), some (.int p2), none, none, none], [], M) r M' := by
  unfold f_X3_unlikePairs at h
  refine am_R.go 2 (q' := (2, [some (.ref 57), some (.int p1), some (.int p2), some (.int 0), none, none], [], M)) rfl trivial ?_
  exact t_X3_unlikePairs_2 z N p1 p2 N 0 _ _ _ h
def f_X9_unlike (N : Nat) (p1 : Int32) (p2 : Int32) (M : am_M) : Option (Except Nat (Option Value) × am_M) :=
  am_bvx (f_X9_needLaw N p1 M) fun M2 =>
    am_bvx (f_X9_needLaw N p2 M2) fun M7 =>
      am_bi (f_X3_unlikePairs N p1 p2 M7) fun r16 M16 =>
        some (.ok (some (.int r16)), M16)
set_option maxRecDepth 100000 in
theorem t_X9_unlike (z : Value) (N : Nat) (p1 : Int32) (p2 : Int32) (M : am_M) {r : Except Nat (Option Value)} {M' : am_M} (h : f_X9_unlike N p1 p2 M = some (r, M')) : cR z me_X9_unlike (0, [some (.ref 0), some (.int p1), some (.int p2)], [], M) r M' := by
  unfold f_X9_unlike at h
  refine am_R.go 2 (q' := (2, [some (.ref 0), some (.int p1), some (.int p2)], [.int p1, .ref 0], M)) rfl trivial ?_
  rcases am_bvx_s h with ⟨M2, hz, h⟩ | ⟨x, M2, hz, h⟩
  · refine am_R.call (e' := me_X9_needLaw) (as := [.ref 0, .int p1]) (rest := []) rfl rfl (Nat.le_of_ble_eq_true rfl) (t_X9_needLaw z N p1 _ hz) ?_
    refine am_R.go 2 (q' := (7, [some (.ref 0), some (.int p1), some (.int p2)], [.int p2, .ref 0], M2)) rfl trivial ?_
    rcases am_bvx_s h with ⟨M7, hz, h⟩ | ⟨x, M7, hz, h⟩
    · refine am_R.call (e' := me_X9_needLaw) (as := [.ref 0, .int p2]) (rest := []) rfl rfl (Nat.le_of_ble_eq_true rfl) (t_X9_needLaw z N p2 _ hz) ?_
      refine am_R.go 4 (q' := (16, [some (.ref 0), some (.int p1), some (.int p2)], [.int p2, .int p1, .ref 57], M7)) rfl trivial ?_
      obtain ⟨r16, M16, hz, h⟩ := am_bi_s h
      refine am_R.call (e' := me_X3_unlikePairs) (as := [.ref 57, .int p1, .int p2]) (rest := []) rfl rfl (Nat.le_of_ble_eq_true rfl) (t_X3_unlikePairs z N p1 p2 _ hz) ?_
      cases h
      exact am_R.ret rfl rfl trivial
    · cases h
      exact am_R.callx (e' := me_X9_needLaw) (as := [.ref 0, .int p2]) (rest := []) rfl rfl (Nat.le_of_ble_eq_true rfl) rfl (t_X9_needLaw z N p2 _ hz)
  · cases h
    exact am_R.callx (e' := me_X9_needLaw) (as := [.ref 0, .int p1]) (rest := []) rfl rfl (Nat.le_of_ble_eq_true rfl) rfl (t_X9_needLaw z N p1 _ hz)
def f_X9_needNotes (N : Nat) (p1 : Int32) (M : am_M) : Option (Except Nat (Option Value) × am_M) :=
  am_bvx (f_X9_needBetween N p1 0 4095 M) fun M6 =>
    some (.ok none, M6)
set_option maxRecDepth 100000 in
theorem t_X9_needNotes (z : Value) (N : Nat) (p1 : Int32) (M : am_M) {r : Except Nat (Option Value)} {M' : am_M} (h : f_X9_needNotes N p1 M = some (r, M')) : cR z me_X9_needNotes (0, [some (.ref 0), some (.int p1)], [], M) r M' := by
  unfold f_X9_needNotes at h
  refine am_R.go 4 (q' := (6, [some (.ref 0), some (.int p1)], [.int 4095, .int 0, .int p1, .ref 0], M)) rfl trivial ?_
  rcases am_bvx_s h with ⟨M6, hz, h⟩ | ⟨x, M6, hz, h⟩
  · refine am_R.call (e' := me_X9_needBetween) (as := [.ref 0, .int p1, .int 0, .int 4095]) (rest := []) rfl rfl (Nat.le_of_ble_eq_true rfl) (t_X9_needBetween z N p1 0 4095 _ hz) ?_
    cases h
    exact am_R.ret rfl rfl trivial
  · cases h
    exact am_R.callx (e' := me_X9_needBetween) (as := [.ref 0, .int p1, .int 0, .int 4095]) (rest := []) rfl rfl (Nat.le_of_ble_eq_true rfl) rfl (t_X9_needBetween z N p1 0 4095 _ hz)
def f_X7_listen_45B (N : Nat) (k45 : Int32 → am_M → Option (Except Nat (Option Value) × am_M)) (v3 : Int32) (M : am_M) : Option (Except Nat (Option Value) × am_M) :=
  if (M 51 0) ≤ v3 then
    some (.ok none, M)
  else
    am_bi (f_X6_tellEcho N v3 0 M) fun r62 M62 =>
      if r62 < 0 then
        k45 (v3 + 1) M62
      else
        if 99 < r62 then
          k45 (v3 + 1) M62
        else
          if am_in r62 100 then
            am_bi (f_X6_tellEcho N v3 1 M62) fun r93 M93 =>
              if am_in r62 100 then
                k45 (v3 + 1) (am_up (am_up M93 64 (r62.toNatClampNeg) ((M62 64 (r62.toNatClampNeg)) + r93)) 63 3 r62)
              else none
          else none
def f_X7_listen_45 (N : Nat) : Nat → Int32 → am_M → Option (Except Nat (Option Value) × am_M)
  | 0 => fun _ _ => none
  | n + 1 => f_X7_listen_45B N (f_X7_listen_45 N n)
set_option maxRecDepth 100000 in
theorem t_X7_listen_45B (z : Value) (N : Nat) {r : Except Nat (Option Value)} {M' : am_M} (k45 : Int32 → am_M → Option (Except Nat (Option Value) × am_M)) (hk45 : ∀ (v3 : Int32) (d1 : Option Value) (d2 : Option Value) (d4 : Option Value) (M : am_M), k45 v3 M = some (r, M') → cR z me_X7_listen (45, [some (.ref 63), d1, d2, some (.int v3), d4], [], M) r M') (v3 : Int32) (d1 : Option Value) (d2 : Option Value) (d4 : Option Value) (M : am_M) (h : f_X7_listen_45B N k45 v3 M = some (r, M')) : cR z me_X7_listen (45, [some (.ref 63), d1, d2, some (.int v3), d4], [], M) r M' := by
  unfold f_X7_listen_45B at h
  refine am_R.go 4 (q' := (53, [some (.ref 63), d1, d2, some (.int v3), d4], [.int (M 51 0), .int v3], M)) rfl trivial ?_
  rcases am_it h with ⟨hc, h⟩ | ⟨hc, h⟩
  · refine am_R.bt rfl rfl hc ?_
    cases h
    exact am_R.ret rfl rfl trivial
  · refine am_R.bn rfl rfl hc ?_
    refine am_R.go 4 (q' := (62, [some (.ref 63), d1, d2, some (.int v3), d4], [.int 0, .int v3, .ref 51], M)) rfl trivial ?_
    obtain ⟨r62, M62, hz, h⟩ := am_bi_s h
    refine am_R.call (e' := me_X6_tellEcho) (as := [.ref 51, .int v3, .int 0]) (rest := []) rfl rfl (Nat.le_of_ble_eq_true rfl) (t_X6_tellEcho z N v3 0 _ hz) ?_
    refine am_R.go 2 (q' := (69, [some (.ref 63), d1, d2, some (.int v3), some (.int r62)], [.int r62], M62)) rfl trivial ?_
    rcases am_it h with ⟨hc, h⟩ | ⟨hc, h⟩
    · refine am_R.ct rfl rfl hc ?_
      refine am_R.go 2 (q' := (45, [some (.ref 63), d1, d2, some (.int (v3 + 1)), some (.int r62)], [], M62)) rfl trivial ?_
      exact hk45 (v3 + 1) _ _ _ _ h
    · refine am_R.cn rfl rfl hc ?_
      refine am_R.go 2 (q' := (76, [some (.ref 63), d1, d2, some (.int v3), some (.int r62)], [.int 99, .int r62], M62)) rfl trivial ?_
      rcases am_it h with ⟨hc, h⟩ | ⟨hc, h⟩
      · refine am_R.bt rfl rfl hc ?_
        refine am_R.go 2 (q' := (45, [some (.ref 63), d1, d2, some (.int (v3 + 1)), some (.int r62)], [], M62)) rfl trivial ?_
        exact hk45 (v3 + 1) _ _ _ _ h
      · refine am_R.bn rfl rfl hc ?_
        obtain ⟨hC, h⟩ := am_gd h
        refine am_R.go 9 (q' := (93, [some (.ref 63), d1, d2, some (.int v3), some (.int r62)], [.int 1, .int v3, .ref 51, .int (M62 64 (r62.toNatClampNeg)), .int r62, .ref 64], M62)) rfl ⟨hC, trivial⟩ ?_
        obtain ⟨r93, M93, hz, h⟩ := am_bi_s h
        refine am_R.call (e' := me_X6_tellEcho) (as := [.ref 51, .int v3, .int 1]) (rest := [.int (M62 64 (r62.toNatClampNeg)), .int r62, .ref 64]) rfl rfl (Nat.le_of_ble_eq_true rfl) (t_X6_tellEcho z N v3 1 _ hz) ?_
        obtain ⟨hC, h⟩ := am_gd h
        refine am_R.go 7 (q' := (45, [some (.ref 63), d1, d2, some (.int (v3 + 1)), some (.int r62)], [], am_up (am_up M93 64 (r62.toNatClampNeg) ((M62 64 (r62.toNatClampNeg)) + r93)) 63 3 r62)) rfl ⟨hC, trivial⟩ ?_
        exact hk45 (v3 + 1) _ _ _ _ h
set_option maxRecDepth 100000 in
theorem t_X7_listen_45 (z : Value) (N : Nat) {r : Except Nat (Option Value)} {M' : am_M} : ∀ (n : Nat) (v3 : Int32) (d1 : Option Value) (d2 : Option Value) (d4 : Option Value) (M : am_M), f_X7_listen_45 N n v3 M = some (r, M') → cR z me_X7_listen (45, [some (.ref 63), d1, d2, some (.int v3), d4], [], M) r M' := by
  intro n
  induction n with
  | zero => intro v3 d1 d2 d4 M h; cases h
  | succ n ih => intro v3 d1 d2 d4 M h; exact t_X7_listen_45B z N _ ih v3 d1 d2 d4 M h
def f_X7_listen_2B (N : Nat) (v1 : Int32) (v2 : Int32) (k2 : Int32 → am_M → Option (Except Nat (Option Value) × am_M)) (v3 : Int32) (M : am_M) : Option (Except Nat (Option Value) × am_M) :=
  if 99 < v3 then
    am_bv (f_X6_shout N v1 v2 (M 2 2) 0 M) fun M35 =>
      f_X7_listen_45 N N 0 (am_up M35 63 3 0)
  else
    if am_in v3 100 then
      k2 (v3 + 1) (am_up M 64 (v3.toNatClampNeg) 0)
    else none
def f_X7_listen_2 (N : Nat) (v1 : Int32) (v2 : Int32) : Nat → Int32 → am_M → Option (Except Nat (Option Value) × am_M)
  | 0 => fun _ _ => none
  | n + 1 => f_X7_listen_2B N v1 v2 (f_X7_listen_2 N v1 v2 n)
set_option maxRecDepth 100000 in
theorem t_X7_listen_2B (z : Value) (N : Nat) (v1 : Int32) (v2 : Int32) {r : Except Nat (Option Value)} {M' : am_M} (k2 : Int32 → am_M → Option (Except Nat (Option Value) × am_M)) (hk2 : ∀ (v3 : Int32) (d4 : Option Value) (M : am_M), k2 v3 M = some (r, M') → cR z me_X7_listen (2, [some (.ref 63), some (.int v1), some (.int v2), some (.int v3), d4], [], M) r M') (v3 : Int32) (d4 : Option Value) (M : am_M) (h : f_X7_listen_2B N v1 v2 k2 v3 M = some (r, M')) : cR z me_X7_listen (2, [some (.ref 63), some (.int v1), some (.int v2), some (.int v3), d4], [], M) r M' := by
  unfold f_X7_listen_2B at h
  refine am_R.go 2 (q' := (5, [some (.ref 63), some (.int v1), some (.int v2), some (.int v3), d4], [.int 99, .int v3], M)) rfl trivial ?_
  rcases am_it h with ⟨hc, h⟩ | ⟨hc, h⟩
  · refine am_R.bt rfl rfl hc ?_
    refine am_R.go 8 (q' := (35, [some (.ref 63), some (.int v1), some (.int v2), some (.int v3), d4], [.int 0, .int (M 2 2), .int v2, .int v1, .ref 51], M)) rfl trivial ?_
    obtain ⟨M35, hz, h⟩ := am_bv_s h
    refine am_R.call (e' := me_X6_shout) (as := [.ref 51, .int v1, .int v2, .int (M 2 2), .int 0]) (rest := []) rfl rfl (Nat.le_of_ble_eq_true rfl) (t_X6_shout z N v1 v2 (M 2 2) 0 _ hz) ?_
    refine am_R.go 5 (q' := (45, [some (.ref 63), some (.int v1), some (.int v2), some (.int 0), d4], [], am_up M35 63 3 0)) rfl trivial ?_
    exact t_X7_listen_45 z N N 0 _ _ _ _ h
  · refine am_R.bn rfl rfl hc ?_
    obtain ⟨hC, h⟩ := am_gd h
    refine am_R.go 7 (q' := (2, [some (.ref 63), some (.int v1), some (.int v2), some (.int (v3 + 1)), d4], [], am_up M 64 (v3.toNatClampNeg) 0)) rfl ⟨hC, trivial⟩ ?_
    exact hk2 (v3 + 1) _ _ h
set_option maxRecDepth 100000 in
theorem t_X7_listen_2 (z : Value) (N : Nat) (v1 : Int32) (v2 : Int32) {r : Except Nat (Option Value)} {M' : am_M} : ∀ (n : Nat) (v3 : Int32) (d4 : Option Value) (M : am_M), f_X7_listen_2 N v1 v2 n v3 M = some (r, M') → cR z me_X7_listen (2, [some (.ref 63), some (.int v1), some (.int v2), some (.int v3), d4], [], M) r M' := by
  intro n
  induction n with
  | zero => intro v3 d4 M h; cases h
  | succ n ih => intro v3 d4 M h; exact t_X7_listen_2B z N v1 v2 _ ih v3 d4 M h
def f_X7_listen (N : Nat) (p1 : Int32) (p2 : Int32) (M : am_M) : Option (Except Nat (Option Value) × am_M) :=
  f_X7_listen_2 N p1 p2 N 0 M
set_option maxRecDepth 100000 in
theorem t_X7_listen (z : Value) (N : Nat) (p1 : Int32) (p2 : Int32) (M : am_M) {r : Except Nat (Option Value)} {M' : am_M} (h : f_X7_listen N p1 p2 M = some (r, M')) : cR z me_X7_listen (0, [some (.ref 63), some (.int p1), some (.int p2), none, none], [], M) r M' := by
  unfold f_X7_listen at h
  refine am_R.go 2 (q' := (2, [some (.ref 63), some (.int p1), some (.int p2), some (.int 0), none], [], M)) rfl trivial ?_
  exact t_X7_listen_2 z N p1 p2 N 0 _ _ h
def f_X7_strengthOfSong_5B (N : Nat) (v1 : Int32) (v2 : Int32) (k5 : Int32 → Int32 → am_M → Option (Except Nat (Option Value) × am_M)) (v3 : Int32) (v4 : Int32) (M : am_M) : Option (Except Nat (Option Value) × am_M) :=
  if 12 ≤ v4 then
    some (.ok (some (.int v3)), M)
  else
    if v2 < v4 then
      some (.ok (some (.int v3)), M)
    else
      if ((v1 >>> (v4 &&& 31)) &&& 1) = 0 then
        k5 v3 (v4 + 1) M
      else
        if am_in (v2 - v4) 100 then
          k5 (v3 + (M 64 ((v2 - v4).toNatClampNeg))) (v4 + 1) M
        else none
def f_X7_strengthOfSong_5 (N : Nat) (v1 : Int32) (v2 : Int32) : Nat → Int32 → Int32 → am_M → Option (Except Nat (Option Value) × am_M)
  | 0 => fun _ _ _ => none
  | n + 1 => f_X7_strengthOfSong_5B N v1 v2 (f_X7_strengthOfSong_5 N v1 v2 n)
set_option maxRecDepth 100000 in
theorem t_X7_strengthOfSong_5B (z : Value) (N : Nat) (v1 : Int32) (v2 : Int32) {r : Except Nat (Option Value)} {M' : am_M} (k5 : Int32 → Int32 → am_M → Option (Except Nat (Option Value) × am_M)) (hk5 : ∀ (v3 : Int32) (v4 : Int32) (M : am_M), k5 v3 v4 M = some (r, M') → cR z me_X7_strengthOfSong (5, [some (.ref 63), some (.int v1), some (.int v2), some (.int v3), some (.int v4)], [], M) r M') (v3 : Int32) (v4 : Int32) (M : am_M) (h : f_X7_strengthOfSong_5B N v1 v2 k5 v3 v4 M = some (r, M')) : cR z me_X7_strengthOfSong (5, [some (.ref 63), some (.int v1), some (.int v2), some (.int v3), some (.int v4)], [], M) r M' := by
  unfold f_X7_strengthOfSong_5B at h
  refine am_R.go 2 (q' := (9, [some (.ref 63), some (.int v1), some (.int v2), some (.int v3), some (.int v4)], [.int 12, .int v4], M)) rfl trivial ?_
  rcases am_it h with ⟨hc, h⟩ | ⟨hc, h⟩
  · refine am_R.bt rfl rfl hc ?_
    refine am_R.go 1 (q' := (46, [some (.ref 63), some (.int v1), some (.int v2), some (.int v3), some (.int v4)], [.int v3], M)) rfl trivial ?_
    cases h
    exact am_R.ret rfl rfl trivial
  · refine am_R.bn rfl rfl hc ?_
    refine am_R.go 2 (q' := (15, [some (.ref 63), some (.int v1), some (.int v2), some (.int v3), some (.int v4)], [.int v2, .int v4], M)) rfl trivial ?_
    rcases am_it h with ⟨hc, h⟩ | ⟨hc, h⟩
    · refine am_R.bt rfl rfl hc ?_
      refine am_R.go 1 (q' := (46, [some (.ref 63), some (.int v1), some (.int v2), some (.int v3), some (.int v4)], [.int v3], M)) rfl trivial ?_
      cases h
      exact am_R.ret rfl rfl trivial
    · refine am_R.bn rfl rfl hc ?_
      refine am_R.go 5 (q' := (24, [some (.ref 63), some (.int v1), some (.int v2), some (.int v3), some (.int v4)], [.int ((v1 >>> (v4 &&& 31)) &&& 1)], M)) rfl trivial ?_
      rcases am_it h with ⟨hc, h⟩ | ⟨hc, h⟩
      · refine am_R.ct rfl rfl hc ?_
        refine am_R.go 2 (q' := (5, [some (.ref 63), some (.int v1), some (.int v2), some (.int v3), some (.int (v4 + 1))], [], M)) rfl trivial ?_
        exact hk5 v3 (v4 + 1) _ h
      · refine am_R.cn rfl rfl hc ?_
        obtain ⟨hC, h⟩ := am_gd h
        refine am_R.go 11 (q' := (5, [some (.ref 63), some (.int v1), some (.int v2), some (.int (v3 + (M 64 ((v2 - v4).toNatClampNeg)))), some (.int (v4 + 1))], [], M)) rfl ⟨hC, trivial⟩ ?_
        exact hk5 (v3 + (M 64 ((v2 - v4).toNatClampNeg))) (v4 + 1) _ h
set_option maxRecDepth 100000 in
theorem t_X7_strengthOfSong_5 (z : Value) (N : Nat) (v1 : Int32) (v2 : Int32) {r : Except Nat (Option Value)} {M' : am_M} : ∀ (n : Nat) (v3 : Int32) (v4 : Int32) (M : am_M), f_X7_strengthOfSong_5 N v1 v2 n v3 v4 M = some (r, M') → cR z me_X7_strengthOfSong (5, [some (.ref 63), some (.int v1), some (.int v2), some (.int v3), some (.int v4)], [], M) r M' := by
  intro n
  induction n with
  | zero => intro v3 v4 M h; cases h
  | succ n ih => intro v3 v4 M h; exact t_X7_strengthOfSong_5B z N v1 v2 _ ih v3 v4 M h
def f_X7_strengthOfSong (N : Nat) (p1 : Int32) (p2 : Int32) (M : am_M) : Option (Except Nat (Option Value) × am_M) :=
  f_X7_strengthOfSong_5 N p1 p2 N 0 0 M
set_option maxRecDepth 100000 in
theorem t_X7_strengthOfSong (z : Value) (N : Nat) (p1 : Int32) (p2 : Int32) (M : am_M) {r : Except Nat (Option Value)} {M' : am_M} (h : f_X7_strengthOfSong N p1 p2 M = some (r, M')) : cR z me_X7_strengthOfSong (0, [some (.ref 63), some (.int p1), some (.int p2), none, none], [], M) r M' := by
  unfold f_X7_strengthOfSong at h
  refine am_R.go 4 (q' := (5, [some (.ref 63), some (.int p1), some (.int p2), some (.int 0), some (.int 0)], [], M)) rfl trivial ?_
  exact t_X7_strengthOfSong_5 z N p1 p2 N 0 0 _ h
