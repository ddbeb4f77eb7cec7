def f_X6_follow_209 (N : Nat) (k30 : Int32 → Int32 → Int32 → Int32 → Int32 → Int32 → Int32 → am_M → Option (Except Nat (Option Value) × am_M)) (v1 : Int32) (v2 : Int32) (v3 : Int32) (v5 : Int32) (v6 : Int32) (v7 : Int32) (v8 : Int32) (v9 : Int32) (v10 : Int32) (v11 : Int32) (v12 : Int32) (v13 : Int32) (M : am_M) : Option (Except Nat (Option Value) × am_M) :=
  if am_in v13 100 then
    if (M 14 (v13.toNatClampNeg)) ≤ 0 then
      k30 v6 v7 v8 v9 v10 v11 (v12 + 1) M
    else
      if am_in v13 100 then
        if 1 ≤ (v10 - (10 - (M 14 (v13.toNatClampNeg)))) then
          k30 (-v6) (-v7) v8 v9 (v10 - (10 - (M 14 (v13.toNatClampNeg)))) v11 (v12 + 1) M
        else
          some (.ok none, M)
      else none
  else none
set_option maxRecDepth 100000 in
theorem t_X6_follow_209 (z : Value) (N : Nat) (k30 : Int32 → Int32 → Int32 → Int32 → Int32 → Int32 → Int32 → am_M → Option (Except Nat (Option Value) × am_M)) {r : Except Nat (Option Value)} {M' : am_M} (v1 : Int32) (v2 : Int32) (v3 : Int32) (v5 : Int32) (v6 : Int32) (v7 : Int32) (v8 : Int32) (v9 : Int32) (v10 : Int32) (v11 : Int32) (v12 : Int32) (v13 : Int32) (d4 : Option Value) (M : am_M) (hk30 : ∀ (v6 : Int32) (v7 : Int32) (v8 : Int32) (v9 : Int32) (v10 : Int32) (v11 : Int32) (v12 : Int32) (d4 : Option Value) (d13 : Option Value) (M : am_M), k30 v6 v7 v8 v9 v10 v11 v12 M = some (r, M') → cR z me_X6_follow (30, [some (.ref 51), some (.int v1), some (.int v2), some (.int v3), d4, some (.int v5), some (.int v6), some (.int v7), some (.int v8), some (.int v9), some (.int v10), some (.int v11), some (.int v12), d13], [], M) r M') (h : f_X6_follow_209 N k30 v1 v2 v3 v5 v6 v7 v8 v9 v10 v11 v12 v13 M = some (r, M')) : cR z me_X6_follow (209, [some (.ref 51), some (.int v1), some (.int v2), some (.int v3), d4, some (.int v5), some (.int v6), some (.int v7), some (.int v8), some (.int v9), some (.int v10), some (.int v11), some (.int v12), some (.int v13)], [], M) r M' := by
  unfold f_X6_follow_209 at h
  obtain ⟨hC, h⟩ := am_gd h
  refine am_R.go 5 (q' := (219, [some (.ref 51), some (.int v1), some (.int v2), some (.int v3), d4, some (.int v5), some (.int v6), some (.int v7), some (.int v8), some (.int v9), some (.int v10), some (.int v11), some (.int v12), some (.int v13)], [.int (M 14 (v13.toNatClampNeg))], M)) rfl ⟨hC, trivial⟩ ?_
  rcases am_it h with ⟨hc, h⟩ | ⟨hc, h⟩
  · refine am_R.ct rfl rfl hc ?_
    refine am_R.go 2 (q' := (30, [some (.ref 51), some (.int v1), some (.int v2), some (.int v3), d4, some (.int v5), some (.int v6), some (.int v7), some (.int v8), some (.int v9), some (.int v10), some (.int v11), some (.int (v12 + 1)), some (.int v13)], [], M)) rfl trivial ?_
    exact hk30 v6 v7 v8 v9 v10 v11 (v12 + 1) _ _ _ h
  · refine am_R.cn rfl rfl hc ?_
    obtain ⟨hC, h⟩ := am_gd h
    refine am_R.go 12 (q' := (243, [some (.ref 51), some (.int v1), some (.int v2), some (.int v3), d4, some (.int v5), some (.int v6), some (.int v7), some (.int v8), some (.int v9), some (.int (v10 - (10 - (M 14 (v13.toNatClampNeg))))), some (.int v11), some (.int v12), some (.int v13)], [.int 1, .int (v10 - (10 - (M 14 (v13.toNatClampNeg))))], M)) rfl ⟨hC, trivial⟩ ?_
    rcases am_it h with ⟨hc, h⟩ | ⟨hc, h⟩
    · refine am_R.bt rfl rfl hc ?_
      refine am_R.go 8 (q' := (30, [some (.ref 51), some (.int v1), some (.int v2), some (.int v3), d4, some (.int v5), some (.int (-v6)), some (.int (-v7)), some (.int v8), some (.int v9), some (.int (v10 - (10 - (M 14 (v13.toNatClampNeg))))), some (.int v11), some (.int (v12 + 1)), some (.int v13)], [], M)) rfl trivial ?_
      exact hk30 (-v6) (-v7) v8 v9 (v10 - (10 - (M 14 (v13.toNatClampNeg)))) v11 (v12 + 1) _ _ _ h
    · refine am_R.bn rfl rfl hc ?_
      cases h
      exact am_R.ret rfl rfl trivial
def f_X6_follow_176 (N : Nat) (k30 : Int32 → Int32 → Int32 → Int32 → Int32 → Int32 → Int32 → am_M → Option (Except Nat (Option Value) × am_M)) (v1 : Int32) (v2 : Int32) (v3 : Int32) (v5 : Int32) (v6 : Int32) (v7 : Int32) (v8 : Int32) (v9 : Int32) (v10 : Int32) (v11 : Int32) (v12 : Int32) (v13 : Int32) (M : am_M) : Option (Except Nat (Option Value) × am_M) :=
  if v8 = v1 then
    if v9 = v2 then
      am_bv (f_X6_addEcho N v12 v10 v3 (v11 + 1) M) fun M199 =>
        if (v11 + 1) = 3 then
          some (.ok none, M199)
        else
          k30 v6 v7 v8 v9 v10 (v11 + 1) (v12 + 1) M199
    else
      f_X6_follow_209 N k30 v1 v2 v3 v5 v6 v7 v8 v9 v10 v11 v12 v13 M
  else
    f_X6_follow_209 N k30 v1 v2 v3 v5 v6 v7 v8 v9 v10 v11 v12 v13 M
set_option maxRecDepth 100000 in
theorem t_X6_follow_176 (z : Value) (N : Nat) (k30 : Int32 → Int32 → Int32 → Int32 → Int32 → Int32 → Int32 → am_M → Option (Except Nat (Option Value) × am_M)) {r : Except Nat (Option Value)} {M' : am_M} (v1 : Int32) (v2 : Int32) (v3 : Int32) (v5 : Int32) (v6 : Int32) (v7 : Int32) (v8 : Int32) (v9 : Int32) (v10 : Int32) (v11 : Int32) (v12 : Int32) (v13 : Int32) (d4 : Option Value) (M : am_M) (hk30 : ∀ (v6 : Int32) (v7 : Int32) (v8 : Int32) (v9 : Int32) (v10 : Int32) (v11 : Int32) (v12 : Int32) (d4 : Option Value) (d13 : Option Value) (M : am_M), k30 v6 v7 v8 v9 v10 v11 v12 M = some (r, M') → cR z me_X6_follow (30, [some (.ref 51), some (.int v1), some (.int v2), some (.int v3), d4, some (.int v5), some (.int v6), some (.int v7), some (.int v8), some (.int v9), some (.int v10), some (.int v11), some (.int v12), d13], [], M) r M') (h : f_X6_follow_176 N k30 v1 v2 v3 v5 v6 v7 v8 v9 v10 v11 v12 v13 M = some (r, M')) : cR z me_X6_follow (176, [some (.ref 51), some (.int v1), some (.int v2), some (.int v3), d4, some (.int v5), some (.int v6), some (.int v7), some (.int v8), some (.int v9), some (.int v10), some (.int v11), some (.int v12), some (.int v13)], [], M) r M' := by
  unfold f_X6_follow_176 at h
  refine am_R.go 2 (q' := (179, [some (.ref 51), some (.int v1), some (.int v2), some (.int v3), d4, some (.int v5), some (.int v6), some (.int v7), some (.int v8), some (.int v9), some (.int v10), some (.int v11), some (.int v12), some (.int v13)], [.int v1, .int v8], M)) rfl trivial ?_
  rcases am_it h with ⟨hc, h⟩ | ⟨hc, h⟩
  · refine am_R.bn rfl rfl (fun q => q hc) ?_
    refine am_R.go 2 (q' := (185, [some (.ref 51), some (.int v1), some (.int v2), some (.int v3), d4, some (.int v5), some (.int v6), some (.int v7), some (.int v8), some (.int v9), some (.int v10), some (.int v11), some (.int v12), some (.int v13)], [.int v2, .int v9], M)) rfl trivial ?_
    rcases am_it h with ⟨hc, h⟩ | ⟨hc, h⟩
    · refine am_R.bn rfl rfl (fun q => q hc) ?_
      refine am_R.go 6 (q' := (199, [some (.ref 51), some (.int v1), some (.int v2), some (.int v3), d4, some (.int v5), some (.int v6), some (.int v7), some (.int v8), some (.int v9), some (.int v10), some (.int (v11 + 1)), some (.int v12), some (.int v13)], [.int (v11 + 1), .int v3, .int v10, .int v12, .ref 51], M)) rfl trivial ?_
      obtain ⟨M199, hz, h⟩ := am_bv_s h
      refine am_R.call (e' := me_X6_addEcho) (as := [.ref 51, .int v12, .int v10, .int v3, .int (v11 + 1)]) (rest := []) rfl rfl (Nat.le_of_ble_eq_true rfl) (t_X6_addEcho z N v12 v10 v3 (v11 + 1) _ hz) ?_
      refine am_R.go 2 (q' := (205, [some (.ref 51), some (.int v1), some (.int v2), some (.int v3), d4, some (.int v5), some (.int v6), some (.int v7), some (.int v8), some (.int v9), some (.int v10), some (.int (v11 + 1)), some (.int v12), some (.int v13)], [.int 3, .int (v11 + 1)], M199)) rfl trivial ?_
      rcases am_it h with ⟨hc, h⟩ | ⟨hc, h⟩
      · refine am_R.bn rfl rfl (fun q => q hc) ?_
        cases h
        exact am_R.ret rfl rfl trivial
      · refine am_R.bt rfl rfl hc ?_
        refine am_R.go 2 (q' := (30, [some (.ref 51), some (.int v1), some (.int v2), some (.int v3), d4, some (.int v5), some (.int v6), some (.int v7), some (.int v8), some (.int v9), some (.int v10), some (.int (v11 + 1)), some (.int (v12 + 1)), some (.int v13)], [], M199)) rfl trivial ?_
        exact hk30 v6 v7 v8 v9 v10 (v11 + 1) (v12 + 1) _ _ _ h
    · refine am_R.bt rfl rfl hc ?_
      exact t_X6_follow_209 z N k30 v1 v2 v3 v5 v6 v7 v8 v9 v10 v11 v12 v13 _ _ hk30 h
  · refine am_R.bt rfl rfl hc ?_
    exact t_X6_follow_209 z N k30 v1 v2 v3 v5 v6 v7 v8 v9 v10 v11 v12 v13 _ _ hk30 h
def f_X6_follow_141 (N : Nat) (k30 : Int32 → Int32 → Int32 → Int32 → Int32 → Int32 → Int32 → am_M → Option (Except Nat (Option Value) × am_M)) (v1 : Int32) (v2 : Int32) (v3 : Int32) (v5 : Int32) (v6 : Int32) (v7 : Int32) (v8 : Int32) (v9 : Int32) (v10 : Int32) (v11 : Int32) (v12 : Int32) (v13 : Int32) (M : am_M) : Option (Except Nat (Option Value) × am_M) :=
  if 1 ≤ v10 then
    if (M 51 6) = 0 then
      f_X6_follow_176 N k30 v1 v2 v3 v5 v6 v7 v8 v9 v10 v11 v12 v13 M
    else
      if am_in v13 100 then
        if v10 ≤ (M 56 (v13.toNatClampNeg)) then
          f_X6_follow_176 N k30 v1 v2 v3 v5 v6 v7 v8 v9 v10 v11 v12 v13 M
        else
          if am_in v13 100 then
            f_X6_follow_176 N k30 v1 v2 v3 v5 v6 v7 v8 v9 v10 v11 v12 v13 (am_up M 56 (v13.toNatClampNeg) v10)
          else none
      else none
  else
    some (.ok none, M)
set_option maxRecDepth 100000 in
theorem t_X6_follow_141 (z : Value) (N : Nat) (k30 : Int32 → Int32 → Int32 → Int32 → Int32 → Int32 → Int32 → am_M → Option (Except Nat (Option Value) × am_M)) {r : Except Nat (Option Value)} {M' : am_M} (v1 : Int32) (v2 : Int32) (v3 : Int32) (v5 : Int32) (v6 : Int32) (v7 : Int32) (v8 : Int32) (v9 : Int32) (v10 : Int32) (v11 : Int32) (v12 : Int32) (v13 : Int32) (d4 : Option Value) (M : am_M) (hk30 : ∀ (v6 : Int32) (v7 : Int32) (v8 : Int32) (v9 : Int32) (v10 : Int32) (v11 : Int32) (v12 : Int32) (d4 : Option Value) (d13 : Option Value) (M : am_M), k30 v6 v7 v8 v9 v10 v11 v12 M = some (r, M') → cR z me_X6_follow (30, [some (.ref 51), some (.int v1), some (.int v2), some (.int v3), d4, some (.int v5), some (.int v6), some (.int v7), some (.int v8), some (.int v9), some (.int v10), some (.int v11), some (.int v12), d13], [], M) r M') (h : f_X6_follow_141 N k30 v1 v2 v3 v5 v6 v7 v8 v9 v10 v11 v12 v13 M = some (r, M')) : cR z me_X6_follow (141, [some (.ref 51), some (.int v1), some (.int v2), some (.int v3), d4, some (.int v5), some (.int v6), some (.int v7), some (.int v8), some (.int v9), some (.int v10), some (.int v11), some (.int v12), some (.int v13)], [], M) r M' := by
  unfold f_X6_follow_141 at h
  refine am_R.go 2 (q' := (144, [some (.ref 51), some (.int v1), some (.int v2), some (.int v3), d4, some (.int v5), some (.int v6), some (.int v7), some (.int v8), some (.int v9), some (.int v10), some (.int v11), some (.int v12), some (.int v13)], [.int 1, .int v10], M)) rfl trivial ?_
  rcases am_it h with ⟨hc, h⟩ | ⟨hc, h⟩
  · refine am_R.bt rfl rfl hc ?_
    refine am_R.go 2 (q' := (152, [some (.ref 51), some (.int v1), some (.int v2), some (.int v3), d4, some (.int v5), some (.int v6), some (.int v7), some (.int v8), some (.int v9), some (.int v10), some (.int v11), some (.int v12), some (.int v13)], [.int (M 51 6)], M)) rfl trivial ?_
    rcases am_it h with ⟨hc, h⟩ | ⟨hc, h⟩
    · refine am_R.ct rfl rfl hc ?_
      exact t_X6_follow_176 z N k30 v1 v2 v3 v5 v6 v7 v8 v9 v10 v11 v12 v13 _ _ hk30 h
    · refine am_R.cn rfl rfl hc ?_
      obtain ⟨hC, h⟩ := am_gd h
      refine am_R.go 5 (q' := (164, [some (.ref 51), some (.int v1), some (.int v2), some (.int v3), d4, some (.int v5), some (.int v6), some (.int v7), some (.int v8), some (.int v9), some (.int v10), some (.int v11), some (.int v12), some (.int v13)], [.int v10, .int (M 56 (v13.toNatClampNeg))], M)) rfl ⟨hC, trivial⟩ ?_
      rcases am_it h with ⟨hc, h⟩ | ⟨hc, h⟩
      · refine am_R.bt rfl rfl hc ?_
        exact t_X6_follow_176 z N k30 v1 v2 v3 v5 v6 v7 v8 v9 v10 v11 v12 v13 _ _ hk30 h
      · refine am_R.bn rfl rfl hc ?_
        obtain ⟨hC, h⟩ := am_gd h
        refine am_R.go 5 (q' := (176, [some (.ref 51), some (.int v1), some (.int v2), some (.int v3), d4, some (.int v5), some (.int v6), some (.int v7), some (.int v8), some (.int v9), some (.int v10), some (.int v11), some (.int v12), some (.int v13)], [], am_up M 56 (v13.toNatClampNeg) v10)) rfl ⟨hC, trivial⟩ ?_
        exact t_X6_follow_176 z N k30 v1 v2 v3 v5 v6 v7 v8 v9 v10 v11 v12 v13 _ _ hk30 h
  · refine am_R.bn rfl rfl hc ?_
    cases h
    exact am_R.ret rfl rfl trivial
def f_X6_follow_30B (N : Nat) (v1 : Int32) (v2 : Int32) (v3 : Int32) (v5 : Int32) (k30 : Int32 → Int32 → Int32 → Int32 → Int32 → Int32 → Int32 → am_M → Option (Except Nat (Option Value) × am_M)) (v6 : Int32) (v7 : Int32) (v8 : Int32) (v9 : Int32) (v10 : Int32) (v11 : Int32) (v12 : Int32) (M : am_M) : Option (Except Nat (Option Value) × am_M) :=
  if 99 < v12 then
    some (.ok none, M)
  else
    if (v8 + v6) < 0 then
      some (.ok none, M)
    else
      if (v9 + v7) < 0 then
        some (.ok none, M)
      else
        if (M 2 0) ≤ (v8 + v6) then
          some (.ok none, M)
        else
          if (v9 + v7) < (M 2 1) then
            if am_in (((v9 + v7) * 10) + (v8 + v6)) 100 then
              if (M 15 ((((v9 + v7) * 10) + (v8 + v6)).toNatClampNeg)) ≤ 0 then
                f_X6_follow_141 N k30 v1 v2 v3 v5 v6 v7 (v8 + v6) (v9 + v7) (v10 - (1 + v5)) v11 v12 (((v9 + v7) * 10) + (v8 + v6)) M
              else
                if am_in (((v9 + v7) * 10) + (v8 + v6)) 100 then
                  f_X6_follow_141 N k30 v1 v2 v3 v5 v6 v7 (v8 + v6) (v9 + v7) ((v10 - (1 + v5)) - ((M 15 ((((v9 + v7) * 10) + (v8 + v6)).toNatClampNeg)) + (M 13 2))) v11 v12 (((v9 + v7) * 10) + (v8 + v6)) M
                else none
            else none
          else
            some (.ok none, M)
def f_X6_follow_30 (N : Nat) (v1 : Int32) (v2 : Int32) (v3 : Int32) (v5 : Int32) : Nat → Int32 → Int32 → Int32 → Int32 → Int32 → Int32 → Int32 → am_M → Option (Except Nat (Option Value) × am_M)
  | 0 => fun _ _ _ _ _ _ _ _ => none
  | n + 1 => f_X6_follow_30B N v1 v2 v3 v5 (f_X6_follow_30 N v1 v2 v3 v5 n)
set_option maxRecDepth 100000 in
theorem t_X6_follow_30B (z : Value) (N : Nat) (v1 : Int32) (v2 : Int32) (v3 : Int32) (v5 : Int32) {r : Except Nat (Option Value)} {M' : am_M} (k30 : Int32 → Int32 → Int32 → Int32 → Int32 → Int32 → Int32 → am_M → Option (Except Nat (Option Value) × am_M)) (hk30 : ∀ (v6 : Int32) (v7 : Int32) (v8 : Int32) (v9 : Int32) (v10 : Int32) (v11 : Int32) (v12 : Int32) (d4 : Option Value) (d13 : Option Value) (M : am_M), k30 v6 v7 v8 v9 v10 v11 v12 M = some (r, M') → cR z me_X6_follow (30, [some (.ref 51), some (.int v1), some (.int v2), some (.int v3), d4, some (.int v5), some (.int v6), some (.int v7), some (.int v8), some (.int v9), some (.int v10), some (.int v11), some (.int v12), d13], [], M) r M') (v6 : Int32) (v7 : Int32) (v8 : Int32) (v9 : Int32) (v10 : Int32) (v11 : Int32) (v12 : Int32) (d4 : Option Value) (d13 : Option Value) (M : am_M) (h : f_X6_follow_30B N v1 v2 v3 v5 k30 v6 v7 v8 v9 v10 v11 v12 M = some (r, M')) : cR z me_X6_follow (30, [some (.ref 51), some (.int v1), some (.int v2), some (.int v3), d4, some (.int v5), some (.int v6), some (.int v7), some (.int v8), some (.int v9), some (.int v10), some (.int v11), some (.int v12), d13], [], M) r M' := by
  unfold f_X6_follow_30B at h
  refine am_R.go 2 (q' := (34, [some (.ref 51), some (.int v1), some (.int v2), some (.int v3), d4, some (.int v5), some (.int v6), some (.int v7), some (.int v8), some (.int v9), some (.int v10), some (.int v11), some (.int v12), d13], [.int 99, .int v12], M)) rfl trivial ?_
  rcases am_it h with ⟨hc, h⟩ | ⟨hc, h⟩
  · refine am_R.bt rfl rfl hc ?_
    cases h
    exact am_R.ret rfl rfl trivial
  · refine am_R.bn rfl rfl hc ?_
    refine am_R.go 9 (q' := (53, [some (.ref 51), some (.int v1), some (.int v2), some (.int v3), d4, some (.int v5), some (.int v6), some (.int v7), some (.int (v8 + v6)), some (.int (v9 + v7)), some (.int v10), some (.int v11), some (.int v12), d13], [.int (v8 + v6)], M)) rfl trivial ?_
    rcases am_it h with ⟨hc, h⟩ | ⟨hc, h⟩
    · refine am_R.ct rfl rfl hc ?_
      cases h
      exact am_R.ret rfl rfl trivial
    · refine am_R.cn rfl rfl hc ?_
      refine am_R.go 1 (q' := (58, [some (.ref 51), some (.int v1), some (.int v2), some (.int v3), d4, some (.int v5), some (.int v6), some (.int v7), some (.int (v8 + v6)), some (.int (v9 + v7)), some (.int v10), some (.int v11), some (.int v12), d13], [.int (v9 + v7)], M)) rfl trivial ?_
      rcases am_it h with ⟨hc, h⟩ | ⟨hc, h⟩
      · refine am_R.ct rfl rfl hc ?_
        cases h
        exact am_R.ret rfl rfl trivial
      · refine am_R.cn rfl rfl hc ?_
        refine am_R.go 4 (q' := (70, [some (.ref 51), some (.int v1), some (.int v2), some (.int v3), d4, some (.int v5), some (.int v6), some (.int v7), some (.int (v8 + v6)), some (.int (v9 + v7)), some (.int v10), some (.int v11), some (.int v12), d13], [.int (M 2 0), .int (v8 + v6)], M)) rfl trivial ?_
        rcases am_it h with ⟨hc, h⟩ | ⟨hc, h⟩
        · refine am_R.bt rfl rfl hc ?_
          cases h
          exact am_R.ret rfl rfl trivial
        · refine am_R.bn rfl rfl hc ?_
          refine am_R.go 4 (q' := (82, [some (.ref 51), some (.int v1), some (.int v2), some (.int v3), d4, some (.int v5), some (.int v6), some (.int v7), some (.int (v8 + v6)), some (.int (v9 + v7)), some (.int v10), some (.int v11), some (.int v12), d13], [.int (M 2 1), .int (v9 + v7)], M)) rfl trivial ?_
          rcases am_it h with ⟨hc, h⟩ | ⟨hc, h⟩
          · refine am_R.bt rfl rfl hc ?_
            obtain ⟨hC, h⟩ := am_gd h
            refine am_R.go 17 (q' := (115, [some (.ref 51), some (.int v1), some (.int v2), some (.int v3), d4, some (.int v5), some (.int v6), some (.int v7), some (.int (v8 + v6)), some (.int (v9 + v7)), some (.int (v10 - (1 + v5))), some (.int v11), some (.int v12), some (.int (((v9 + v7) * 10) + (v8 + v6)))], [.int (M 15 ((((v9 + v7) * 10) + (v8 + v6)).toNatClampNeg))], M)) rfl ⟨hC, trivial⟩ ?_
            rcases am_it h with ⟨hc, h⟩ | ⟨hc, h⟩
            · refine am_R.ct rfl rfl hc ?_
              exact t_X6_follow_141 z N k30 v1 v2 v3 v5 v6 v7 (v8 + v6) (v9 + v7) (v10 - (1 + v5)) v11 v12 (((v9 + v7) * 10) + (v8 + v6)) _ _ hk30 h
            · refine am_R.cn rfl rfl hc ?_
              obtain ⟨hC, h⟩ := am_gd h
              refine am_R.go 12 (q' := (141, [some (.ref 51), some (.int v1), some (.int v2), some (.int v3), d4, some (.int v5), some (.int v6), some (.int v7), some (.int (v8 + v6)), some (.int (v9 + v7)), some (.int ((v10 - (1 + v5)) - ((M 15 ((((v9 + v7) * 10) + (v8 + v6)).toNatClampNeg)) + (M 13 2)))), some (.int v11), some (.int v12), some (.int (((v9 + v7) * 10) + (v8 + v6)))], [], M)) rfl ⟨hC, trivial⟩ ?_
              exact t_X6_follow_141 z N k30 v1 v2 v3 v5 v6 v7 (v8 + v6) (v9 + v7) ((v10 - (1 + v5)) - ((M 15 ((((v9 + v7) * 10) + (v8 + v6)).toNatClampNeg)) + (M 13 2))) v11 v12 (((v9 + v7) * 10) + (v8 + v6)) _ _ hk30 h
          · refine am_R.bn rfl rfl hc ?_
            cases h
            exact am_R.ret rfl rfl trivial
set_option maxRecDepth 100000 in
theorem t_X6_follow_30 (z : Value) (N : Nat) (v1 : Int32) (v2 : Int32) (v3 : Int32) (v5 : Int32) {r : Except Nat (Option Value)} {M' : am_M} : ∀ (n : Nat) (v6 : Int32) (v7 : Int32) (v8 : Int32) (v9 : Int32) (v10 : Int32) (v11 : Int32) (v12 : Int32) (d4 : Option Value) (d13 : Option Value) (M : am_M), f_X6_follow_30 N v1 v2 v3 v5 n v6 v7 v8 v9 v10 v11 v12 M = some (r, M') → cR z me_X6_follow (30, [some (.ref 51), some (.int v1), some (.int v2), some (.int v3), d4, some (.int v5), some (.int v6), some (.int v7), some (.int v8), some (.int v9), some (.int v10), some (.int v11), some (.int v12), d13], [], M) r M' := by
  intro n
  induction n with
  | zero => intro v6 v7 v8 v9 v10 v11 v12 d4 d13 M h; cases h
  | succ n ih => intro v6 v7 v8 v9 v10 v11 v12 d4 d13 M h; exact t_X6_follow_30B z N v1 v2 v3 v5 _ ih v6 v7 v8 v9 v10 v11 v12 d4 d13 M h
def f_X6_follow (N : Nat) (p1 : Int32) (p2 : Int32) (p3 : Int32) (p4 : Int32) (p5 : Int32) (M : am_M) : Option (Except Nat (Option Value) × am_M) :=
  if am_in p3 8 then
    f_X6_follow_30 N p1 p2 p3 p5 N (am_right.getD p3.toNatClampNeg 0) (am_down.getD p3.toNatClampNeg 0) p1 p2 p4 0 1 M
  else none
set_option maxRecDepth 100000 in
theorem t_X6_follow (z : Value) (N : Nat) (p1 : Int32) (p2 : Int32) (p3 : Int32) (p4 : Int32) (p5 : Int32) (M : am_M) {r : Except Nat (Option Value)} {M' : am_M} (h : f_X6_follow N p1 p2 p3 p4 p5 M = some (r, M')) : cR z me_X6_follow (0, [some (.ref 51), some (.int p1), some (.int p2), some (.int p3), some (.int p4), some (.int p5), none, none, none, none, none, none, none, none], [], M) r M' := by
  unfold f_X6_follow at h
  obtain ⟨hC, h⟩ := am_gd h
  refine am_R.go 18 (q' := (30, [some (.ref 51), some (.int p1), some (.int p2), some (.int p3), some (.int p4), some (.int p5), some (.int (am_right.getD p3.toNatClampNeg 0)), some (.int (am_down.getD p3.toNatClampNeg 0)), some (.int p1), some (.int p2), some (.int p4), some (.int 0), some (.int 1), none], [], M)) rfl ⟨hC, hC, trivial⟩ ?_
  exact t_X6_follow_30 z N p1 p2 p3 p5 N (am_right.getD p3.toNatClampNeg 0) (am_down.getD p3.toNatClampNeg 0) p1 p2 p4 0 1 _ _ _ h
def f_X6_shout_8B (N : Nat) (v1 : Int32) (v2 : Int32) (v3 : Int32) (v4 : Int32) (k8 : Int32 → am_M → Option (Except Nat (Option Value) × am_M)) (v5 : Int32) (M : am_M) : Option (Except Nat (Option Value) × am_M) :=
  if 8 ≤ v5 then
    some (.ok none, M)
  else
    am_bv (f_X6_follow N v1 v2 v5 v3 v4 M) fun M23 =>
      k8 (v5 + 1) M23
def f_X6_shout_8 (N : Nat) (v1 : Int32) (v2 : Int32) (v3 : Int32) (v4 : Int32) : Nat → Int32 → am_M → Option (Except Nat (Option Value) × am_M)
  | 0 => fun _ _ => none
  | n + 1 => f_X6_shout_8B N v1 v2 v3 v4 (f_X6_shout_8 N v1 v2 v3 v4 n)
set_option maxRecDepth 100000 in
theorem t_X6_shout_8B (z : Value) (N : Nat) (v1 : Int32) (v2 : Int32) (v3 : Int32) (v4 : Int32) {r : Except Nat (Option Value)} {M' : am_M} (k8 : Int32 → am_M → Option (Except Nat (Option Value) × am_M)) (hk8 : ∀ (v5 : Int32) (M : am_M), k8 v5 M = some (r, M') → cR z me_X6_shout (8, [some (.ref 51), some (.int v1), some (.int v2), some (.int v3), some (.int v4), some (.int v5)], [], M) r M') (v5 : Int32) (M : am_M) (h : f_X6_shout_8B N v1 v2 v3 v4 k8 v5 M = some (r, M')) : cR z me_X6_shout (8, [some (.ref 51), some (.int v1), some (.int v2), some (.int v3), some (.int v4), some (.int v5)], [], M) r M' := by
  unfold f_X6_shout_8B at h
  refine am_R.go 2 (q' := (12, [some (.ref 51), some (.int v1), some (.int v2), some (.int v3), some (.int v4), some (.int v5)], [.int 8, .int v5], M)) rfl trivial ?_
  rcases am_it h with ⟨hc, h⟩ | ⟨hc, h⟩
  · refine am_R.bt rfl rfl hc ?_
    cases h
    exact am_R.ret rfl rfl trivial
  · refine am_R.bn rfl rfl hc ?_
    refine am_R.go 6 (q' := (23, [some (.ref 51), some (.int v1), some (.int v2), some (.int v3), some (.int v4), some (.int v5)], [.int v4, .int v3, .int v5, .int v2, .int v1, .ref 51], M)) rfl trivial ?_
    obtain ⟨M23, hz, h⟩ := am_bv_s h
    refine am_R.call (e' := me_X6_follow) (as := [.ref 51, .int v1, .int v2, .int v5, .int v3, .int v4]) (rest := []) rfl rfl (Nat.le_of_ble_eq_true rfl) (t_X6_follow z N v1 v2 v5 v3 v4 _ hz) ?_
    refine am_R.go 2 (q' := (8, [some (.ref 51), some (.int v1), some (.int v2), some (.int v3), some (.int v4), some (.int (v5 + 1))], [], M23)) rfl trivial ?_
    exact hk8 (v5 + 1) _ h
set_option maxRecDepth 100000 in
theorem t_X6_shout_8 (z : Value) (N : Nat) (v1 : Int32) (v2 : Int32) (v3 : Int32) (v4 : Int32) {r : Except Nat (Option Value)} {M' : am_M} : ∀ (n : Nat) (v5 : Int32) (M : am_M), f_X6_shout_8 N v1 v2 v3 v4 n v5 M = some (r, M') → cR z me_X6_shout (8, [some (.ref 51), some (.int v1), some (.int v2), some (.int v3), some (.int v4), some (.int v5)], [], M) r M' := by
  intro n
  induction n with
  | zero => intro v5 M h; cases h
  | succ n ih => intro v5 M h; exact t_X6_shout_8B z N v1 v2 v3 v4 _ ih v5 M h
def f_X6_shout (N : Nat) (p1 : Int32) (p2 : Int32) (p3 : Int32) (p4 : Int32) (M : am_M) : Option (Except Nat (Option Value) × am_M) :=
  f_X6_shout_8 N p1 p2 p3 p4 N 0 (am_up M 51 0 0)
set_option maxRecDepth 100000 in
theorem t_X6_shout (z : Value) (N : Nat) (p1 : Int32) (p2 : Int32) (p3 : Int32) (p4 : Int32) (M : am_M) {r : Except Nat (Option Value)} {M' : am_M} (h : f_X6_shout N p1 p2 p3 p4 M = some (r, M')) : cR z me_X6_shout (0, [some (.ref 51), some (.int p1), some (.int p2), some (.int p3), some (.int p4), none], [], M) r M' := by
  unfold f_X6_shout at h
  refine am_R.go 5 (q' := (8, [some (.ref 51), some (.int p1), some (.int p2), some (.int p3), some (.int p4), some (.int 0)], [], am_up M 51 0 0)) rfl trivial ?_
  exact t_X6_shout_8 z N p1 p2 p3 p4 N 0 _ h
def f_X9_echoes (N : Nat) (p1 : Int32) (p2 : Int32) (p3 : Int32) (M : am_M) : Option (Except Nat (Option Value) × am_M) :=
  am_bvx (f_X9_needCell N p1 p2 M) fun M3 =>
    am_bvx (f_X9_needFog N p3 M3) fun M8 =>
      am_bv (f_X6_shout N p1 p2 (M8 2 2) p3 M8) fun M25 =>
        some (.ok (some (.int (M25 51 0))), M25)
set_option maxRecDepth 100000 in
theorem t_X9_echoes (z : Value) (N : Nat) (p1 : Int32) (p2 : Int32) (p3 : Int32) (M : am_M) {r : Except Nat (Option Value)} {M' : am_M} (h : f_X9_echoes N p1 p2 p3 M = some (r, M')) : cR z me_X9_echoes (0, [some (.ref 0), some (.int p1), some (.int p2), some (.int p3)], [], M) r M' := by
  unfold f_X9_echoes at h
  refine am_R.go 3 (q' := (3, [some (.ref 0), some (.int p1), some (.int p2), some (.int p3)], [.int p2, .int p1, .ref 0], M)) rfl trivial ?_
  rcases am_bvx_s h with ⟨M3, hz, h⟩ | ⟨x, M3, hz, h⟩
  · refine am_R.call (e' := me_X9_needCell) (as := [.ref 0, .int p1, .int p2]) (rest := []) rfl rfl (Nat.le_of_ble_eq_true rfl) (t_X9_needCell z N p1 p2 _ hz) ?_
    refine am_R.go 2 (q' := (8, [some (.ref 0), some (.int p1), some (.int p2), some (.int p3)], [.int p3, .ref 0], M3)) rfl trivial ?_
    rcases am_bvx_s h with ⟨M8, hz, h⟩ | ⟨x, M8, hz, h⟩
    · refine am_R.call (e' := me_X9_needFog) (as := [.ref 0, .int p3]) (rest := []) rfl rfl (Nat.le_of_ble_eq_true rfl) (t_X9_needFog z N p3 _ hz) ?_
      refine am_R.go 8 (q' := (25, [some (.ref 0), some (.int p1), some (.int p2), some (.int p3)], [.int p3, .int (M8 2 2), .int p2, .int p1, .ref 51], M8)) rfl trivial ?_
      obtain ⟨M25, hz, h⟩ := am_bv_s h
      refine am_R.call (e' := me_X6_shout) (as := [.ref 51, .int p1, .int p2, .int (M8 2 2), .int p3]) (rest := []) rfl rfl (Nat.le_of_ble_eq_true rfl) (t_X6_shout z N p1 p2 (M8 2 2) p3 _ hz) ?_
      refine am_R.go 3 (q' := (35, [some (.ref 0), some (.int p1), some (.int p2), some (.int p3)], [.int (M25 51 0)], M25)) rfl trivial ?_
      cases h
      exact am_R.ret rfl rfl trivial
    · cases h
      exact am_R.callx (e' := me_X9_needFog) (as := [.ref 0, .int p3]) (rest := []) rfl rfl (Nat.le_of_ble_eq_true rfl) rfl (t_X9_needFog z N p3 _ hz)
  · cases h
    exact am_R.callx (e' := me_X9_needCell) (as := [.ref 0, .int p1, .int p2]) (rest := []) rfl rfl (Nat.le_of_ble_eq_true rfl) rfl (t_X9_needCell z N p1 p2 _ hz)
def f_X6_tellEcho (N : Nat) (p1 : Int32) (p2 : Int32) (M : am_M) : Option (Except Nat (Option Value) × am_M) :=
  if p1 < 0 then
    some (.ok (some (.int (-1))), M)
  else
    if p1 < (M 51 0) then
      if p2.toInt = 0 then
        if am_in p1 24 then
          some (.ok (some (.int (M 52 (p1.toNatClampNeg)))), M)
        else none
      else
      if p2.toInt = 1 then
        if am_in p1 24 then
          some (.ok (some (.int (M 53 (p1.toNatClampNeg)))), M)
        else none
      else
      if p2.toInt = 2 then
        if am_in p1 24 then
          some (.ok (some (.int (M 54 (p1.toNatClampNeg)))), M)
        else none
      else
        if am_in p1 24 then
          some (.ok (some (.int (M 55 (p1.toNatClampNeg)))), M)
        else none
    else
      some (.ok (some (.int (-1))), M)
set_option maxRecDepth 100000 in
theorem t_X6_tellEcho (z : Value) (N : Nat) (p1 : Int32) (p2 : Int32) (M : am_M) {r : Except Nat (Option Value)} {M' : am_M} (h : f_X6_tellEcho N p1 p2 M = some (r, M')) : cR z me_X6_tellEcho (0, [some (.ref 51), some (.int p1), some (.int p2)], [], M) r M' := by
  unfold f_X6_tellEcho at h
  refine am_R.go 1 (q' := (1, [some (.ref 51), some (.int p1), some (.int p2)], [.int p1], M)) rfl trivial ?_
  rcases am_it h with ⟨hc, h⟩ | ⟨hc, h⟩
  · refine am_R.ct rfl rfl hc ?_
    refine am_R.go 1 (q' := (13, [some (.ref 51), some (.int p1), some (.int p2)], [.int (-1)], M)) rfl trivial ?_
    cases h
    exact am_R.ret rfl rfl trivial
  · refine am_R.cn rfl rfl hc ?_
    refine am_R.go 3 (q' := (9, [some (.ref 51), some (.int p1), some (.int p2)], [.int (M 51 0), .int p1], M)) rfl trivial ?_
    rcases am_it h with ⟨hc, h⟩ | ⟨hc, h⟩
    · refine am_R.bt rfl rfl hc ?_
      refine am_R.go 1 (q' := (15, [some (.ref 51), some (.int p1), some (.int p2)], [.int p2], M)) rfl trivial ?_
      rcases am_it h with ⟨hc, h⟩ | ⟨hc0, h⟩
      · refine am_R.one (c := some (p2.toInt = 0 + ((0 : Nat) : Int))) (q' := (40, [some (.ref 51), some (.int p1), some (.int p2)], [], M)) rfl (List.mem_of_getElem? (i := 1) rfl) (by show p2.toInt = _; omega) ?_
        obtain ⟨hC, h⟩ := am_gd h
        refine am_R.go 4 (q' := (46, [some (.ref 51), some (.int p1), some (.int p2)], [.int (M 52 (p1.toNatClampNeg))], M)) rfl ⟨hC, trivial⟩ ?_
        cases h
        exact am_R.ret rfl rfl trivial
      rcases am_it h with ⟨hc, h⟩ | ⟨hc1, h⟩
      · refine am_R.one (c := some (p2.toInt = 0 + ((1 : Nat) : Int))) (q' := (47, [some (.ref 51), some (.int p1), some (.int p2)], [], M)) rfl (List.mem_of_getElem? (i := 2) rfl) (by show p2.toInt = _; omega) ?_
        obtain ⟨hC, h⟩ := am_gd h
        refine am_R.go 4 (q' := (53, [some (.ref 51), some (.int p1), some (.int p2)], [.int (M 53 (p1.toNatClampNeg))], M)) rfl ⟨hC, trivial⟩ ?_
        cases h
        exact am_R.ret rfl rfl trivial
      rcases am_it h with ⟨hc, h⟩ | ⟨hc2, h⟩
      · refine am_R.one (c := some (p2.toInt = 0 + ((2 : Nat) : Int))) (q' := (54, [some (.ref 51), some (.int p1), some (.int p2)], [], M)) rfl (List.mem_of_getElem? (i := 3) rfl) (by show p2.toInt = _; omega) ?_
        obtain ⟨hC, h⟩ := am_gd h
        refine am_R.go 4 (q' := (60, [some (.ref 51), some (.int p1), some (.int p2)], [.int (M 54 (p1.toNatClampNeg))], M)) rfl ⟨hC, trivial⟩ ?_
        cases h
        exact am_R.ret rfl rfl trivial
      refine am_R.one (c := some (p2.toInt < 0 ∨ 2 < p2.toInt)) (q' := (61, [some (.ref 51), some (.int p1), some (.int p2)], [], M)) rfl (List.mem_of_getElem? (i := 0) rfl) (by show _ ∨ _; omega) ?_
      obtain ⟨hC, h⟩ := am_gd h
      refine am_R.go 4 (q' := (67, [some (.ref 51), some (.int p1), some (.int p2)], [.int (M 55 (p1.toNatClampNeg))], M)) rfl ⟨hC, trivial⟩ ?_
      cases h
      exact am_R.ret rfl rfl trivial
    · refine am_R.bn rfl rfl hc ?_
      refine am_R.go 1 (q' := (13, [some (.ref 51), some (.int p1), some (.int p2)], [.int (-1)], M)) rfl trivial ?_
      cases h
      exact am_R.ret rfl rfl trivial
def f_X9_echo (N : Nat) (p1 : Int32) (p2 : Int32) (p3 : Int32) (p4 : Int32) (p5 : Int32) (M : am_M) : Option (Except Nat (Option Value) × am_M) :=
  am_bvx (f_X9_needCell N p1 p2 M) fun M3 =>
    am_bvx (f_X9_needFog N p3 M3) fun M8 =>
      am_bvx (f_X9_needBetween N p5 0 3 M8) fun M16 =>
        am_bv (f_X6_shout N p1 p2 (M16 2 2) p3 M16) fun M33 =>
          am_bi (f_X6_tellEcho N p4 p5 M33) fun r44 M44 =>
            some (.ok (some (.int r44)), M44)
set_option maxRecDepth 100000 in
theorem t_X9_echo (z : Value) (N : Nat) (p1 : Int32) (p2 : Int32) (p3 : Int32) (p4 : Int32) (p5 : Int32) (M : am_M) {r : Except Nat (Option Value)} {M' : am_M} (h : f_X9_echo N p1 p2 p3 p4 p5 M = some (r, M')) : cR z me_X9_echo (0, [some (.ref 0), some (.int p1), some (.int p2), some (.int p3), some (.int p4), some (.int p5)], [], M) r M' := by
  unfold f_X9_echo at h
  refine am_R.go 3 (q' := (3, [some (.ref 0), some (.int p1), some (.int p2), some (.int p3), some (.int p4), some (.int p5)], [.int p2, .int p1, .ref 0], M)) rfl trivial ?_
  rcases am_bvx_s h with ⟨M3, hz, h⟩ | ⟨x, M3, hz, h⟩
  · refine am_R.call (e' := me_X9_needCell) (as := [.ref 0, .int p1, .int p2]) (rest := []) rfl rfl (Nat.le_of_ble_eq_true rfl) (t_X9_needCell z N p1 p2 _ hz) ?_
    refine am_R.go 2 (q' := (8, [some (.ref 0), some (.int p1), some (.int p2), some (.int p3), some (.int p4), some (.int p5)], [.int p3, .ref 0], M3)) rfl trivial ?_
    rcases am_bvx_s h with ⟨M8, hz, h⟩ | ⟨x, M8, hz, h⟩
    · refine am_R.call (e' := me_X9_needFog) (as := [.ref 0, .int p3]) (rest := []) rfl rfl (Nat.le_of_ble_eq_true rfl) (t_X9_needFog z N p3 _ hz) ?_
      refine am_R.go 4 (q' := (16, [some (.ref 0), some (.int p1), some (.int p2), some (.int p3), some (.int p4), some (.int p5)], [.int 3, .int 0, .int p5, .ref 0], M8)) rfl trivial ?_
      rcases am_bvx_s h with ⟨M16, hz, h⟩ | ⟨x, M16, hz, h⟩
      · refine am_R.call (e' := me_X9_needBetween) (as := [.ref 0, .int p5, .int 0, .int 3]) (rest := []) rfl rfl (Nat.le_of_ble_eq_true rfl) (t_X9_needBetween z N p5 0 3 _ hz) ?_
        refine am_R.go 8 (q' := (33, [some (.ref 0), some (.int p1), some (.int p2), some (.int p3), some (.int p4), some (.int p5)], [.int p3, .int (M16 2 2), .int p2, .int p1, .ref 51], M16)) rfl trivial ?_
        obtain ⟨M33, hz, h⟩ := am_bv_s h
        refine am_R.call (e' := me_X6_shout) (as := [.ref 51, .int p1, .int p2, .int (M16 2 2), .int p3]) (rest := []) rfl rfl (Nat.le_of_ble_eq_true rfl) (t_X6_shout z N p1 p2 (M16 2 2) p3 _ hz) ?_
        refine am_R.go 4 (q' := (44, [some (.ref 0), some (.int p1), some (.int p2), some (.int p3), some (.int p4), some (.int p5)], [.int p5, .int p4, .ref 51], M33)) rfl trivial ?_
        obtain ⟨r44, M44, hz, h⟩ := am_bi_s h
        refine am_R.call (e' := me_X6_tellEcho) (as := [.ref 51, .int p4, .int p5]) (rest := []) rfl rfl (Nat.le_of_ble_eq_true rfl) (t_X6_tellEcho z N p4 p5 _ hz) ?_
        cases h
        exact am_R.ret rfl rfl trivial
      · cases h
        exact am_R.callx (e' := me_X9_needBetween) (as := [.ref 0, .int p5, .int 0, .int 3]) (rest := []) rfl rfl (Nat.le_of_ble_eq_true rfl) rfl (t_X9_needBetween z N p5 0 3 _ hz)
    · cases h
      exact am_R.callx (e' := me_X9_needFog) (as := [.ref 0, .int p3]) (rest := []) rfl rfl (Nat.le_of_ble_eq_true rfl) rfl (t_X9_needFog z N p3 _ hz)
  · cases h
    exact am_R.callx (e' := me_X9_needCell) (as := [.ref 0, .int p1, .int p2]) (rest := []) rfl rfl (Nat.le_of_ble_eq_true rfl) rfl (t_X9_needCell z N p1 p2 _ hz)
def f_X9_needLaw (N : Nat) (p1 : Int32) (M : am_M) : Option (Except Nat (Option Value) × am_M) :=
  am_bvx (f_X9_needBetween N p1 0 2 M) fun M4 =>
    some (.ok none, M4)
set_option maxRecDepth 100000 in
theorem t_X9_needLaw (z : Value) (N : Nat) (p1 : Int32) (M : am_M) {r : Except Nat (Option Value)} {M' : am_M} (h : f_X9_needLaw N p1 M = some (r, M')) : cR z me_X9_needLaw (0, [some (.ref 0), some (.int p1)], [], M) r M' := by
  unfold f_X9_needLaw at h
  refine am_R.go 4 (q' := (4, [some (.ref 0), some (.int p1)], [.int 2, .int 0, .int p1, .ref 0], M)) rfl trivial ?_
  rcases am_bvx_s h with ⟨M4, hz, h⟩ | ⟨x, M4, hz, h⟩
  · refine am_R.call (e' := me_X9_needBetween) (as := [.ref 0, .int p1, .int 0, .int 2]) (rest := []) rfl rfl (Nat.le_of_ble_eq_true rfl) (t_X9_needBetween z N p1 0 2 _ hz) ?_
    cases h
    exact am_R.ret rfl rfl trivial
  · cases h
    exact am_R.callx (e' := me_X9_needBetween) (as := [.ref 0, .int p1, .int 0, .int 2]) (rest := []) rfl rfl (Nat.le_of_ble_eq_true rfl) rfl (t_X9_needBetween z N p1 0 2 _ hz)
def f_X6_countTimes_56 (N : Nat) (k7 : Int32 → Int32 → Int32 → am_M → Option (Except Nat (Option Value) × am_M)) (v1 : Int32) (v2 : Int32) (v3 : Int32) (v4 : Int32) (M : am_M) : Option (Except Nat (Option Value) × am_M) :=
  if v3 < v1 then
    k7 v2 0 (v4 + 1) M
  else
    k7 (v2 + 1) 0 (v4 + 1) M
set_option maxRecDepth 100000 in
theorem t_X6_countTimes_56 (z : Value) (N : Nat) (k7 : Int32 → Int32 → Int32 → am_M → Option (Except Nat (Option Value) × am_M)) {r : Except Nat (Option Value)} {M' : am_M} (v1 : Int32) (v2 : Int32) (v3 : Int32) (v4 : Int32) (M : am_M) (hk7 : ∀ (v2 : Int32) (v3 : Int32) (v4 : Int32) (M : am_M), k7 v2 v3 v4 M = some (r, M') → cR z me_X6_countTimes (7, [some (.ref 51), some (.int v1), some (.int v2), some (.int v3), some (.int v4)], [], M) r M') (h : f_X6_countTimes_56 N k7 v1 v2 v3 v4 M = some (r, M')) : cR z me_X6_countTimes (56, [some (.ref 51), some (.int v1), some (.int v2), some (.int v3), some (.int v4)], [], M) r M' := by
  unfold f_X6_countTimes_56 at h
  refine am_R.go 2 (q' := (58, [some (.ref 51), some (.int v1), some (.int v2), some (.int v3), some (.int v4)], [.int v1, .int v3], M)) rfl trivial ?_
  rcases am_it h with ⟨hc, h⟩ | ⟨hc, h⟩
  · refine am_R.bt rfl rfl hc ?_
    refine am_R.go 4 (q' := (7, [some (.ref 51), some (.int v1), some (.int v2), some (.int 0), some (.int (v4 + 1))], [], M)) rfl trivial ?_
    exact hk7 v2 0 (v4 + 1) _ h
  · refine am_R.bn rfl rfl hc ?_
    refine am_R.go 5 (q' := (7, [some (.ref 51), some (.int v1), some (.int (v2 + 1)), some (.int 0), some (.int (v4 + 1))], [], M)) rfl trivial ?_
    exact hk7 (v2 + 1) 0 (v4 + 1) _ h
def f_X6_countTimes_7B (N : Nat) (v1 : Int32) (k7 : Int32 → Int32 → Int32 → am_M → Option (Except Nat (Option Value) × am_M)) (v2 : Int32) (v3 : Int32) (v4 : Int32) (M : am_M) : Option (Except Nat (Option Value) × am_M) :=
  if (M 51 0) ≤ v4 then
    some (.ok (some (.int v2)), M)
  else
    if am_in v4 24 then
      if (v4 + 1) = (M 51 0) then
        f_X6_countTimes_56 N k7 v1 v2 (v3 + (M 53 (v4.toNatClampNeg))) v4 M
      else
        if am_in (v4 + 1) 24 ∧ am_in v4 24 then
          if (M 52 ((v4 + 1).toNatClampNeg)) = (M 52 (v4.toNatClampNeg)) then
            k7 v2 (v3 + (M 53 (v4.toNatClampNeg))) (v4 + 1) M
          else
            f_X6_countTimes_56 N k7 v1 v2 (v3 + (M 53 (v4.toNatClampNeg))) v4 M
        else none
    else none
def f_X6_countTimes_7 (N : Nat) (v1 : Int32) : Nat → Int32 → Int32 → Int32 → am_M → Option (Except Nat (Option Value) × am_M)
  | 0 => fun _ _ _ _ => none
  | n + 1 => f_X6_countTimes_7B N v1 (f_X6_countTimes_7 N v1 n)
set_option maxRecDepth 100000 in
theorem t_X6_countTimes_7B (z : Value) (N : Nat) (v1 : Int32) {r : Except Nat (Option Value)} {M' : am_M} (k7 : Int32 → Int32 → Int32 → am_M → Option (Except Nat (Option Value) × am_M)) (hk7 : ∀ (v2 : Int32) (v3 : Int32) (v4 : Int32) (M : am_M), k7 v2 v3 v4 M = some (r, M') → cR z me_X6_countTimes (7, [some (.ref 51), some (.int v1), some (.int v2), some (.int v3), some (.int v4)], [], M) r M') (v2 : Int32) (v3 : Int32) (v4 : Int32) (M : am_M) (h : f_X6_countTimes_7B N v1 k7 v2 v3 v4 M = some (r, M')) : cR z me_X6_countTimes (7, [some (.ref 51), some (.int v1), some (.int v2), some (.int v3), some (.int v4)], [], M) r M' := by
  unfold f_X6_countTimes_7B at h
  refine am_R.go 3 (q' := (13, [some (.ref 51), some (.int v1), some (.int v2), some (.int v3), some (.int v4)], [.int (M 51 0), .int v4], M)) rfl trivial ?_
  rcases am_it h with ⟨hc, h⟩ | ⟨hc, h⟩
  · refine am_R.bt rfl rfl hc ?_
    refine am_R.go 1 (q' := (73, [some (.ref 51), some (.int v1), some (.int v2), some (.int v3), some (.int v4)], [.int v2], M)) rfl trivial ?_
    cases h
    exact am_R.ret rfl rfl trivial
  · refine am_R.bn rfl rfl hc ?_
    obtain ⟨hC, h⟩ := am_gd h
    refine am_R.go 12 (q' := (34, [some (.ref 51), some (.int v1), some (.int v2), some (.int (v3 + (M 53 (v4.toNatClampNeg)))), some (.int v4)], [.int (M 51 0), .int (v4 + 1)], M)) rfl ⟨hC, trivial⟩ ?_
    rcases am_it h with ⟨hc, h⟩ | ⟨hc, h⟩
    · refine am_R.bt rfl rfl hc ?_
      exact t_X6_countTimes_56 z N k7 v1 v2 (v3 + (M 53 (v4.toNatClampNeg))) v4 _ hk7 h
    · refine am_R.bn rfl rfl hc ?_
      obtain ⟨hC, h⟩ := am_gd h
      refine am_R.go 10 (q' := (53, [some (.ref 51), some (.int v1), some (.int v2), some (.int (v3 + (M 53 (v4.toNatClampNeg)))), some (.int v4)], [.int (M 52 (v4.toNatClampNeg)), .int (M 52 ((v4 + 1).toNatClampNeg))], M)) rfl ⟨hC.1, hC.2, trivial⟩ ?_
      rcases am_it h with ⟨hc, h⟩ | ⟨hc, h⟩
      · refine am_R.bt rfl rfl hc ?_
        refine am_R.go 2 (q' := (7, [some (.ref 51), some (.int v1), some (.int v2), some (.int (v3 + (M 53 (v4.toNatClampNeg)))), some (.int (v4 + 1))], [], M)) rfl trivial ?_
        exact hk7 v2 (v3 + (M 53 (v4.toNatClampNeg))) (v4 + 1) _ h
      · refine am_R.bn rfl rfl hc ?_
        exact t_X6_countTimes_56 z N k7 v1 v2 (v3 + (M 53 (v4.toNatClampNeg))) v4 _ hk7 h
set_option maxRecDepth 100000 in
theorem t_X6_countTimes_7 (z : Value) (N : Nat) (v1 : Int32) {r : Except Nat (Option Value)} {M' : am_M} : ∀ (n : Nat) (v2 : Int32) (v3 : Int32) (v4 : Int32) (M : am_M), f_X6_countTimes_7 N v1 n v2 v3 v4 M = some (r, M') → cR z me_X6_countTimes (7, [some (.ref 51), some (.int v1), some (.int v2), some (.int v3), some (.int v4)], [], M) r M' := by
  intro n
  induction n with
  | zero => intro v2 v3 v4 M h; cases h
  | succ n ih => intro v2 v3 v4 M h; exact t_X6_countTimes_7B z N v1 _ ih v2 v3 v4 M h
def f_X6_countTimes (N : Nat) (p1 : Int32) (M : am_M) : Option (Except Nat (Option Value) × am_M) :=
  f_X6_countTimes_7 N p1 N 0 0 0 M
set_option maxRecDepth 100000 in
theorem t_X6_countTimes (z : Value) (N : Nat) (p1 : Int32) (M : am_M) {r : Except Nat (Option Value)} {M' : am_M} (h : f_X6_countTimes N p1 M = some (r, M')) : cR z me_X6_countTimes (0, [some (.ref 51), some (.int p1), none, none, none], [], M) r M' := by
  unfold f_X6_countTimes at h
  refine am_R.go 6 (q' := (7, [some (.ref 51), some (.int p1), some (.int 0), some (.int 0), some (.int 0)], [], M)) rfl trivial ?_
  exact t_X6_countTimes_7 z N p1 N 0 0 0 _ h
def f_X6_countBy_23 (N : Nat) (s0 : Int32) (M : am_M) : Option (Except Nat (Option Value) × am_M) :=
  am_bi (f_X6_countTimes N s0 M) fun r23 M23 =>
    some (.ok (some (.int r23)), M23)
set_option maxRecDepth 100000 in
theorem t_X6_countBy_23 (z : Value) (N : Nat) {r : Except Nat (Option Value)} {M' : am_M} (s0 : Int32) (d0 : Option Value) (d1 : Option Value) (M : am_M) (h : f_X6_countBy_23 N s0 M = some (r, M')) : cR z me_X6_countBy (23, [d0, d1], [.int s0, .ref 51], M) r M' := by
  unfold f_X6_countBy_23 at h
  obtain ⟨r23, M23, hz, h⟩ := am_bi_s h
  refine am_R.call (e' := me_X6_countTimes) (as := [.ref 51, .int s0]) (rest := []) rfl rfl (Nat.le_of_ble_eq_true rfl) (t_X6_countTimes z N s0 _ hz) ?_
  cases h
  exact am_R.ret rfl rfl trivial
def f_X6_countBy (N : Nat) (p1 : Int32) (M : am_M) : Option (Except Nat (Option Value) × am_M) :=
  if p1 = 0 then
    some (.ok (some (.int (M 51 0))), M)
  else
    if p1 = 1 then
      f_X6_countBy_23 N 0 M
    else
      f_X6_countBy_23 N 10 M
set_option maxRecDepth 100000 in
theorem t_X6_countBy (z : Value) (N : Nat) (p1 : Int32) (M : am_M) {r : Except Nat (Option Value)} {M' : am_M} (h : f_X6_countBy N p1 M = some (r, M')) : cR z me_X6_countBy (0, [some (.ref 51), some (.int p1)], [], M) r M' := by
  unfold f_X6_countBy at h
  refine am_R.go 1 (q' := (1, [some (.ref 51), some (.int p1)], [.int p1], M)) rfl trivial ?_
  rcases am_it h with ⟨hc, h⟩ | ⟨hc, h⟩
  · refine am_R.cn rfl rfl (fun q => q hc) ?_
    refine am_R.go 3 (q' := (26, [some (.ref 51), some (.int p1)], [.int (M 51 0)], M)) rfl trivial ?_
    cases h
    exact am_R.ret rfl rfl trivial
  · refine am_R.ct rfl rfl hc ?_
    refine am_R.go 3 (q' := (14, [some (.ref 51), some (.int p1)], [.int 1, .int p1, .ref 51], M)) rfl trivial ?_
    rcases am_it h with ⟨hc, h⟩ | ⟨hc, h⟩
    · refine am_R.bn rfl rfl (fun q => q hc) ?_
      refine am_R.go 2 (q' := (23, [some (.ref 51), some (.int p1)], [.int 0, .ref 51], M)) rfl trivial ?_
      exact t_X6_countBy_23 z N 0 _ _ _ h
    · refine am_R.bt rfl rfl hc ?_
      refine am_R.go 1 (q' := (23, [some (.ref 51), some (.int p1)], [.int 10, .ref 51], M)) rfl trivial ?_
      exact t_X6_countBy_23 z N 10 _ _ _ h
def f_X9_count (N : Nat) (p1 : Int32) (p2 : Int32) (p3 : Int32) (p4 : Int32) (M : am_M) : Option (Except Nat (Option Value) × am_M) :=
  am_bvx (f_X9_needCell N p1 p2 M) fun M3 =>
    am_bvx (f_X9_needFog N p3 M3) fun M8 =>
      am_bvx (f_X9_needLaw N p4 M8) fun M14 =>
        am_bv (f_X6_shout N p1 p2 (M14 2 2) p3 M14) fun M31 =>
          am_bi (f_X6_countBy N p4 M31) fun r40 M40 =>
            some (.ok (some (.int r40)), M40)
set_option maxRecDepth 100000 in
theorem t_X9_count (z : Value) (N : Nat) (p1 : Int32) (p2 : Int32) (p3 : Int32) (p4 : Int32) (M : am_M) {r : Except Nat (Option Value)} {M' : am_M} (h : f_X9_count N p1 p2 p3 p4 M = some (r, M')) : cR z me_X9_count (0, [some (.ref 0), some (.int p1), some (.int p2), some (.int p3), some (.int p4)], [], M) r M' := by
  unfold f_X9_count at h
  refine am_R.go 3 (q' := (3, [some (.ref 0), some (.int p1), some (.int p2), some (.int p3), some (.int p4)], [.int p2, .int p1, .ref 0], M)) rfl trivial ?_
  rcases am_bvx_s h with ⟨M3, hz, h⟩ | ⟨x, M3, hz, h⟩
  · refine am_R.call (e' := me_X9_needCell) (as := [.ref 0, .int p1, .int p2]) (rest := []) rfl rfl (Nat.le_of_ble_eq_true rfl) (t_X9_needCell z N p1 p2 _ hz) ?_
    refine am_R.go 2 (q' := (8, [some (.ref 0), some (.int p1), some (.int p2), some (.int p3), some (.int p4)], [.int p3, .ref 0], M3)) rfl trivial ?_
    rcases am_bvx_s h with ⟨M8, hz, h⟩ | ⟨x, M8, hz, h⟩
    · refine am_R.call (e' := me_X9_needFog) (as := [.ref 0, .int p3]) (rest := []) rfl rfl (Nat.le_of_ble_eq_true rfl) (t_X9_needFog z N p3 _ hz) ?_
      refine am_R.go 2 (q' := (14, [some (.ref 0), some (.int p1), some (.int p2), some (.int p3), some (.int p4)], [.int p4, .ref 0], M8)) rfl trivial ?_
      rcases am_bvx_s h with ⟨M14, hz, h⟩ | ⟨x, M14, hz, h⟩
      · refine am_R.call (e' := me_X9_needLaw) (as := [.ref 0, .int p4]) (rest := []) rfl rfl (Nat.le_of_ble_eq_true rfl) (t_X9_needLaw z N p4 _ hz) ?_
        refine am_R.go 8 (q' := (31, [some (.ref 0), some (.int p1), some (.int p2), some (.int p3), some (.int p4)], [.int p3, .int (M14 2 2), .int p2, .int p1, .ref 51], M14)) rfl trivial ?_
        obtain ⟨M31, hz, h⟩ := am_bv_s h
        refine am_R.call (e' := me_X6_shout) (as := [.ref 51, .int p1, .int p2, .int (M14 2 2), .int p3]) (rest := []) rfl rfl (Nat.le_of_ble_eq_true rfl) (t_X6_shout z N p1 p2 (M14 2 2) p3 _ hz) ?_
        refine am_R.go 3 (q' := (40, [some (.ref 0), some (.int p1), some (.int p2), some (.int p3), some (.int p4)], [.int p4, .ref 51], M31)) rfl trivial ?_
        obtain ⟨r40, M40, hz, h⟩ := am_bi_s h
        refine am_R.call (e' := me_X6_countBy) (as := [.ref 51, .int p4]) (rest := []) rfl rfl (Nat.le_of_ble_eq_true rfl) (t_X6_countBy z N p4 _ hz) ?_
        cases h
        exact am_R.ret rfl rfl trivial
      · cases h
        exact am_R.callx (e' := me_X9_needLaw) (as := [.ref 0, .int p4]) (rest := []) rfl rfl (Nat.le_of_ble_eq_true rfl) rfl (t_X9_needLaw z N p4 _ hz)
    · cases h
      exact am_R.callx (e' := me_X9_needFog) (as := [.ref 0, .int p3]) (rest := []) rfl rfl (Nat.le_of_ble_eq_true rfl) rfl (t_X9_needFog z N p3 _ hz)
  · cases h
    exact am_R.callx (e' := me_X9_needCell) (as := [.ref 0, .int p1, .int p2]) (rest := []) rfl rfl (Nat.le_of_ble_eq_true rfl) rfl (t_X9_needCell z N p1 p2 _ hz)
def f_X9_needField_18 (N : Nat) (M : am_M) : Option (Except Nat (Option Value) × am_M) :=
  some (.error 1, am_up M 0 4 ((M 0 4) + 1))
set_option maxRecDepth 100000 in
theorem t_X9_needField_18 (z : Value) (N : Nat) {r : Except Nat (Option Value)} {M' : am_M} (d1 : Option Value) (M : am_M) (h : f_X9_needField_18 N M = some (r, M')) : cR z me_X9_needField (18, [some (.ref 0), d1], [], M) r M' := by
  unfold f_X9_needField_18 at h
  refine am_R.go 6 (q' := (28, [some (.ref 0), d1], [], am_up M 0 4 ((M 0 4) + 1))) rfl trivial ?_
  cases h
  exact am_R.thr (x := 1) rfl rfl
def f_X9_needField (N : Nat) (p1 : Int32) (M : am_M) : Option (Except Nat (Option Value) × am_M) :=
  if p1 < 0 then
    f_X9_needField_18 N M
  else
    if p1 < (M 3 3) then
      some (.ok none, M)
    else
      f_X9_needField_18 N M
set_option maxRecDepth 100000 in
theorem t_X9_needField (z : Value) (N : Nat) (p1 : Int32) (M : am_M) {r : Except Nat (Option Value)} {M' : am_M} (h : f_X9_needField N p1 M = some (r, M')) : cR z me_X9_needField (0, [some (.ref 0), some (.int p1)], [], M) r M' := by
  unfold f_X9_needField at h
  refine am_R.go 1 (q' := (1, [some (.ref 0), some (.int p1)], [.int p1], M)) rfl trivial ?_
  rcases am_it h with ⟨hc, h⟩ | ⟨hc, h⟩
  · refine am_R.ct rfl rfl hc ?_
    exact t_X9_needField_18 z N _ _ h
  · refine am_R.cn rfl rfl hc ?_
    refine am_R.go 5 (q' := (15, [some (.ref 0), some (.int p1)], [.int (M 3 3), .int p1], M)) rfl trivial ?_
    rcases am_it h with ⟨hc, h⟩ | ⟨hc, h⟩
    · refine am_R.bt rfl rfl hc ?_
      cases h
      exact am_R.ret rfl rfl trivial
    · refine am_R.bn rfl rfl hc ?_
      exact t_X9_needField_18 z N _ _ h
def f_X8_has_3 (N : Nat) (p1 : Int32) (p2 : Int32) (M : am_M) : Option (Except Nat (Option Value) × am_M) :=
  if p1 < 0 then
    some (.ok (some (.int 0)), M)
  else
    if (M 3 3) ≤ p1 then
      some (.ok (some (.int 0)), M)
    else
      if p2 < 0 then
        some (.ok (some (.int 0)), M)
      else
        if (M 3 1) ≤ p2 then
          some (.ok (some (.int 0)), M)
        else
          some (.ok (some (.int 1)), M)
set_option maxRecDepth 100000 in
theorem t_X8_has_3 (z : Value) (N : Nat) (p1 : Int32) (p2 : Int32) (M : am_M) {r : Except Nat (Option Value)} {M' : am_M} (h : f_X8_has_3 N p1 p2 M = some (r, M')) : cR z me_X8_has (0, [some (.ref 3), some (.int p1), some (.int p2)], [], M) r M' := by
  unfold f_X8_has_3 at h
  refine am_R.go 1 (q' := (1, [some (.ref 3), some (.int p1), some (.int p2)], [.int p1], M)) rfl trivial ?_
  rcases am_it h with ⟨hc, h⟩ | ⟨hc, h⟩
  · refine am_R.ct rfl rfl hc ?_
    refine am_R.go 1 (q' := (29, [some (.ref 3), some (.int p1), some (.int p2)], [.int 0], M)) rfl trivial ?_
    cases h
    exact am_R.ret rfl rfl (Or.inl rfl)
  · refine am_R.cn rfl rfl hc ?_
    refine am_R.go 3 (q' := (9, [some (.ref 3), some (.int p1), some (.int p2)], [.int (M 3 3), .int p1], M)) rfl trivial ?_
    rcases am_it h with ⟨hc, h⟩ | ⟨hc, h⟩
    · refine am_R.bt rfl rfl hc ?_
      refine am_R.go 1 (q' := (29, [some (.ref 3), some (.int p1), some (.int p2)], [.int 0], M)) rfl trivial ?_
      cases h
      exact am_R.ret rfl rfl (Or.inl rfl)
    · refine am_R.bn rfl rfl hc ?_
      refine am_R.go 1 (q' := (13, [some (.ref 3), some (.int p1), some (.int p2)], [.int p2], M)) rfl trivial ?_
      rcases am_it h with ⟨hc, h⟩ | ⟨hc, h⟩
      · refine am_R.ct rfl rfl hc ?_
        refine am_R.go 1 (q' := (29, [some (.ref 3), some (.int p1), some (.int p2)], [.int 0], M)) rfl trivial ?_
        cases h
        exact am_R.ret rfl rfl (Or.inl rfl)
      · refine am_R.cn rfl rfl hc ?_
        refine am_R.go 3 (q' := (21, [some (.ref 3), some (.int p1), some (.int p2)], [.int (M 3 1), .int p2], M)) rfl trivial ?_
        rcases am_it h with ⟨hc, h⟩ | ⟨hc, h⟩
        · refine am_R.bt rfl rfl hc ?_
          refine am_R.go 1 (q' := (29, [some (.ref 3), some (.int p1), some (.int p2)], [.int 0], M)) rfl trivial ?_
          cases h
          exact am_R.ret rfl rfl (Or.inl rfl)
        · refine am_R.bn rfl rfl hc ?_
          refine am_R.go 2 (q' := (29, [some (.ref 3), some (.int p1), some (.int p2)], [.int 1], M)) rfl trivial ?_
          cases h
          exact am_R.ret rfl rfl (Or.inr rfl)
def f_X8_at_3 (N : Nat) (p1 : Int32) (p2 : Int32) (M : am_M) : Option (Except Nat (Option Value) × am_M) :=
  am_bi (f_X8_has_3 N p1 p2 M) fun r3 M3 =>
    if r3 = 0 then
      some (.ok (some (.int 0)), M3)
    else
      if am_in ((p1 * (M3 3 1)) + p2) 25 then
        some (.ok (some (.int (M3 4 (((p1 * (M3 3 1)) + p2).toNatClampNeg)))), M3)
      else none
set_option maxRecDepth 100000 in
theorem t_X8_at_3 (z : Value) (N : Nat) (p1 : Int32) (p2 : Int32) (M : am_M) {r : Except Nat (Option Value)} {M' : am_M} (h : f_X8_at_3 N p1 p2 M = some (r, M')) : cR z me_X8_at (0, [some (.ref 3), some (.int p1), some (.int p2)], [], M) r M' := by
  unfold f_X8_at_3 at h
  refine am_R.go 3 (q' := (3, [some (.ref 3), some (.int p1), some (.int p2)], [.int p2, .int p1, .ref 3], M)) rfl trivial ?_
  obtain ⟨r3, M3, hz, h⟩ := am_bi_s h
  refine am_R.call (e' := me_X8_has) (as := [.ref 3, .int p1, .int p2]) (rest := []) rfl rfl (Nat.le_of_ble_eq_true rfl) (t_X8_has_3 z N p1 p2 _ hz) ?_
  rcases am_it h with ⟨hc, h⟩ | ⟨hc, h⟩
  · refine am_R.ct rfl rfl hc ?_
    refine am_R.go 1 (q' := (26, [some (.ref 3), some (.int p1), some (.int p2)], [.int 0], M3)) rfl trivial ?_
    cases h
    exact am_R.ret rfl rfl trivial
  · refine am_R.cn rfl rfl hc ?_
    obtain ⟨hC, h⟩ := am_gd h
    refine am_R.go 10 (q' := (26, [some (.ref 3), some (.int p1), some (.int p2)], [.int (M3 4 (((p1 * (M3 3 1)) + p2).toNatClampNeg))], M3)) rfl ⟨hC, trivial⟩ ?_
    cases h
    exact am_R.ret rfl rfl trivial
def f_X9_field (N : Nat) (p1 : Int32) (p2 : Int32) (M : am_M) : Option (Except Nat (Option Value) × am_M) :=
  am_bvx (f_X9_needField N p1 M) fun M2 =>
    am_bvx (f_X9_needBetween N p2 0 4 M2) fun M9 =>
      am_bi (f_X8_at_3 N p1 p2 M9) fun r21 M21 =>
        some (.ok (some (.int r21)), M21)
set_option maxRecDepth 100000 in
theorem t_X9_field (z : Value) (N : Nat) (p1 : Int32) (p2 : Int32) (M : am_M) {r : Except Nat (Option Value)} {M' : am_M} (h : f_X9_field N p1 p2 M = some (r, M')) : cR z me_X9_field (0, [some (.ref 0), some (.int p1), some (.int p2)], [], M) r M' := by
  unfold f_X9_field at h
  refine am_R.go 2 (q' := (2, [some (.ref 0), some (.int p1), some (.int p2)], [.int p1, .ref 0], M)) rfl trivial ?_
  rcases am_bvx_s h with ⟨M2, hz, h⟩ | ⟨x, M2, hz, h⟩
  · refine am_R.call (e' := me_X9_needField) (as := [.ref 0, .int p1]) (rest := []) rfl rfl (Nat.le_of_ble_eq_true rfl) (t_X9_needField z N p1 _ hz) ?_
    refine am_R.go 4 (q' := (9, [some (.ref 0), some (.int p1), some (.int p2)], [.int 4, .int 0, .int p2, .ref 0], M2)) rfl trivial ?_
    rcases am_bvx_s h with ⟨M9, hz, h⟩ | ⟨x, M9, hz, h⟩
    · refine am_R.call (e' := me_X9_needBetween) (as := [.ref 0, .int p2, .int 0, .int 4]) (rest := []) rfl rfl (Nat.le_of_ble_eq_true rfl) (t_X9_needBetween z N p2 0 4 _ hz) ?_
      refine am_R.go 5 (q' := (21, [some (.ref 0), some (.int p1), some (.int p2)], [.int p2, .int p1, .ref 3], M9)) rfl trivial ?_
      obtain ⟨r21, M21, hz, h⟩ := am_bi_s h
      refine am_R.call (e' := me_X8_at) (as := [.ref 3, .int p1, .int p2]) (rest := []) rfl rfl (Nat.le_of_ble_eq_true rfl) (t_X8_at_3 z N p1 p2 _ hz) ?_
      cases h
      exact am_R.ret rfl rfl trivial
    · cases h
      exact am_R.callx (e' := me_X9_needBetween) (as := [.ref 0, .int p2, .int 0, .int 4]) (rest := []) rfl rfl (Nat.le_of_ble_eq_true rfl) rfl (t_X9_needBetween z N p2 0 4 _ hz)
  · cases h
    exact am_R.callx (e' := me_X9_needField) (as := [.ref 0, .int p1]) (rest := []) rfl rfl (Nat.le_of_ble_eq_true rfl) rfl (t_X9_needField z N p1 _ hz)
def f_X9_needSurvey (N : Nat) (p1 : Int32) (p2 : Int32) (p3 : Int32) (M : am_M) : Option (Except Nat (Option Value) × am_M) :=
  am_bvx (f_X9_needField N p1 M) fun M2 =>
    am_bvx (f_X9_needFog N p2 M2) fun M7 =>
      am_bvx (f_X9_needLaw N p3 M7) fun M12 =>
        some (.ok none, M12)
set_option maxRecDepth 100000 in
theorem t_X9_needSurvey (z : Value) (N : Nat) (p1 : Int32) (p2 : Int32) (p3 : Int32) (M : am_M) {r : Except Nat (Option Value)} {M' : am_M} (h : f_X9_needSurvey N p1 p2 p3 M = some (r, M')) : cR z me_X9_needSurvey (0, [some (.ref 0), some (.int p1), some (.int p2), some (.int p3)], [], M) r M' := by
  unfold f_X9_needSurvey at h
  refine am_R.go 2 (q' := (2, [some (.ref 0), some (.int p1), some (.int p2), some (.int p3)], [.int p1, .ref 0], M)) rfl trivial ?_
  rcases am_bvx_s h with ⟨M2, hz, h⟩ | ⟨x, M2, hz, h⟩
  · refine am_R.call (e' := me_X9_needField) (as := [.ref 0, .int p1]) (rest := []) rfl rfl (Nat.le_of_ble_eq_true rfl) (t_X9_needField z N p1 _ hz) ?_
    refine am_R.go 2 (q' := (7, [some (.ref 0), some (.int p1), some (.int p2), some (.int p3)], [.int p2, .ref 0], M2)) rfl trivial ?_
    rcases am_bvx_s h with ⟨M7, hz, h⟩ | ⟨x, M7, hz, h⟩
    · refine am_R.call (e' := me_X9_needFog) (as := [.ref 0, .int p2]) (rest := []) rfl rfl (Nat.le_of_ble_eq_true rfl) (t_X9_needFog z N p2 _ hz) ?_
      refine am_R.go 2 (q' := (12, [some (.ref 0), some (.int p1), some (.int p2), some (.int p3)], [.int p3, .ref 0], M7)) rfl trivial ?_
      rcases am_bvx_s h with ⟨M12, hz, h⟩ | ⟨x, M12, hz, h⟩
      · refine am_R.call (e' := me_X9_needLaw) (as := [.ref 0, .int p3]) (rest := []) rfl rfl (Nat.le_of_ble_eq_true rfl) (t_X9_needLaw z N p3 _ hz) ?_
        cases h
        exact am_R.ret rfl rfl trivial
      · cases h
        exact am_R.callx (e' := me_X9_needLaw) (as := [.ref 0, .int p3]) (rest := []) rfl rfl (Nat.le_of_ble_eq_true rfl) rfl (t_X9_needLaw z N p3 _ hz)
    · cases h
      exact am_R.callx (e' := me_X9_needFog) (as := [.ref 0, .int p2]) (rest := []) rfl rfl (Nat.le_of_ble_eq_true rfl) rfl (t_X9_needFog z N p2 _ hz)
  · cases h
    exact am_R.callx (e' := me_X9_needField) (as := [.ref 0, .int p1]) (rest := []) rfl rfl (Nat.le_of_ble_eq_true rfl) rfl (t_X9_needField z N p1 _ hz)
