def f_X10_goes_129 (N : Nat) (k34 : Int32 → Int32 → Int32 → Int32 → Int32 → Int32 → Int32 → am_M → Option (Except Nat (Option Value) × am_M)) (v1 : Int32) (v2 : Int32) (v3 : Int32) (v5 : Int32) (v6 : Int32) (v7 : Int32) (v8 : Int32) (v10 : Int32) (v11 : Int32) (v12 : Int32) (s0 : Int32) (s1 : Int32) (s2 : Int32) (M : am_M) : Option (Except Nat (Option Value) × am_M) :=
  if 1 ≤ (s2 - (s1 + s0)) then
    am_bv (f_X10_falls N v12 (s2 - (s1 + s0)) M) fun M145 =>
      if v12 = v1 then
        am_bv (f_X10_puts N v10 (s2 - (s1 + s0)) v2 (v11 + 1) M145) fun M165 =>
          k34 v5 v6 v7 v8 (s2 - (s1 + s0)) v10 (v11 + 1) M165
      else
        am_bi (f_X10_hard N v12 M145) fun r174 M174 =>
          if r174 ≤ 0 then
            k34 v5 v6 v7 v8 (s2 - (s1 + s0)) v10 v11 M174
          else
            am_bi (f_X10_hard N v12 M174) fun r187 M187 =>
              if 1 ≤ ((s2 - (s1 + s0)) - (10 - r187)) then
                k34 v5 v6 (-v7) (-v8) ((s2 - (s1 + s0)) - (10 - r187)) v10 v11 M187
              else
                some (.ok none, M187)
  else
    some (.ok none, M)
set_option maxRecDepth 100000 in
theorem t_X10_goes_129 (z : Value) (N : Nat) (k34 : Int32 → Int32 → Int32 → Int32 → Int32 → Int32 → Int32 → am_M → Option (Except Nat (Option Value) × am_M)) {r : Except Nat (Option Value)} {M' : am_M} (v1 : Int32) (v2 : Int32) (v3 : Int32) (v5 : Int32) (v6 : Int32) (v7 : Int32) (v8 : Int32) (v10 : Int32) (v11 : Int32) (v12 : Int32) (s0 : Int32) (s1 : Int32) (s2 : Int32) (d4 : Option Value) (d9 : Option Value) (M : am_M) (hk34 : ∀ (v5 : Int32) (v6 : Int32) (v7 : Int32) (v8 : Int32) (v9 : Int32) (v10 : Int32) (v11 : Int32) (d4 : Option Value) (d12 : Option Value) (M : am_M), k34 v5 v6 v7 v8 v9 v10 v11 M = some (r, M') → mR z me_X10_goes (34, [some (.ref 0), some (.int v1), some (.int v2), some (.int v3), d4, some (.int v5), some (.int v6), some (.int v7), some (.int v8), some (.int v9), some (.int v10), some (.int v11), d12], [], M) r M') (h : f_X10_goes_129 N k34 v1 v2 v3 v5 v6 v7 v8 v10 v11 v12 s0 s1 s2 M = some (r, M')) : mR z me_X10_goes (129, [some (.ref 0), some (.int v1), some (.int v2), some (.int v3), d4, some (.int v5), some (.int v6), some (.int v7), some (.int v8), d9, some (.int v10), some (.int v11), some (.int v12)], [.int s0, .int s1, .int s2], M) r M' := by
  unfold f_X10_goes_129 at h
  refine am_R.go 5 (q' := (136, [some (.ref 0), some (.int v1), some (.int v2), some (.int v3), d4, some (.int v5), some (.int v6), some (.int v7), some (.int v8), some (.int (s2 - (s1 + s0))), some (.int v10), some (.int v11), some (.int v12)], [.int 1, .int (s2 - (s1 + s0))], M)) rfl trivial ?_
  rcases am_it h with ⟨hc, h⟩ | ⟨hc, h⟩
  · refine am_R.bt rfl rfl hc ?_
    refine am_R.go 3 (q' := (145, [some (.ref 0), some (.int v1), some (.int v2), some (.int v3), d4, some (.int v5), some (.int v6), some (.int v7), some (.int v8), some (.int (s2 - (s1 + s0))), some (.int v10), some (.int v11), some (.int v12)], [.int (s2 - (s1 + s0)), .int v12, .ref 0], M)) rfl trivial ?_
    obtain ⟨M145, hz, h⟩ := am_bv_s h
    refine am_R.call (e' := me_X10_falls) (as := [.ref 0, .int v12, .int (s2 - (s1 + s0))]) (rest := []) rfl rfl (Nat.le_of_ble_eq_true rfl) (t_X10_falls z N v12 (s2 - (s1 + s0)) _ hz) ?_
    refine am_R.go 2 (q' := (151, [some (.ref 0), some (.int v1), some (.int v2), some (.int v3), d4, some (.int v5), some (.int v6), some (.int v7), some (.int v8), some (.int (s2 - (s1 + s0))), some (.int v10), some (.int v11), some (.int v12)], [.int v1, .int v12], M145)) rfl trivial ?_
    rcases am_it h with ⟨hc, h⟩ | ⟨hc, h⟩
    · refine am_R.bn rfl rfl (fun q => q hc) ?_
      refine am_R.go 6 (q' := (165, [some (.ref 0), some (.int v1), some (.int v2), some (.int v3), d4, some (.int v5), some (.int v6), some (.int v7), some (.int v8), some (.int (s2 - (s1 + s0))), some (.int v10), some (.int (v11 + 1)), some (.int v12)], [.int (v11 + 1), .int v2, .int (s2 - (s1 + s0)), .int v10, .ref 0], M145)) rfl trivial ?_
      obtain ⟨M165, hz, h⟩ := am_bv_s h
      refine am_R.call (e' := me_X10_puts) (as := [.ref 0, .int v10, .int (s2 - (s1 + s0)), .int v2, .int (v11 + 1)]) (rest := []) rfl rfl (Nat.le_of_ble_eq_true rfl) (t_X10_puts z N v10 (s2 - (s1 + s0)) v2 (v11 + 1) _ hz) ?_
      refine am_R.go 2 (q' := (34, [some (.ref 0), some (.int v1), some (.int v2), some (.int v3), d4, some (.int v5), some (.int v6), some (.int v7), some (.int v8), some (.int (s2 - (s1 + s0))), some (.int v10), some (.int (v11 + 1)), some (.int v12)], [], M165)) rfl trivial ?_
      exact hk34 v5 v6 v7 v8 (s2 - (s1 + s0)) v10 (v11 + 1) _ _ _ h
    · refine am_R.bt rfl rfl hc ?_
      refine am_R.go 2 (q' := (174, [some (.ref 0), some (.int v1), some (.int v2), some (.int v3), d4, some (.int v5), some (.int v6), some (.int v7), some (.int v8), some (.int (s2 - (s1 + s0))), some (.int v10), some (.int v11), some (.int v12)], [.int v12, .ref 0], M145)) rfl trivial ?_
      obtain ⟨r174, M174, hz, h⟩ := am_bi_s h
      refine am_R.call (e' := me_X10_hard) (as := [.ref 0, .int v12]) (rest := []) rfl rfl (Nat.le_of_ble_eq_true rfl) (t_X10_hard z N v12 _ hz) ?_
      rcases am_it h with ⟨hc, h⟩ | ⟨hc, h⟩
      · refine am_R.ct rfl rfl hc ?_
        refine am_R.go 1 (q' := (34, [some (.ref 0), some (.int v1), some (.int v2), some (.int v3), d4, some (.int v5), some (.int v6), some (.int v7), some (.int v8), some (.int (s2 - (s1 + s0))), some (.int v10), some (.int v11), some (.int v12)], [], M174)) rfl trivial ?_
        exact hk34 v5 v6 v7 v8 (s2 - (s1 + s0)) v10 v11 _ _ _ h
      · refine am_R.cn rfl rfl hc ?_
        refine am_R.go 4 (q' := (187, [some (.ref 0), some (.int v1), some (.int v2), some (.int v3), d4, some (.int v5), some (.int v6), some (.int v7), some (.int v8), some (.int (s2 - (s1 + s0))), some (.int v10), some (.int v11), some (.int v12)], [.int v12, .ref 0, .int 10, .int (s2 - (s1 + s0))], M174)) rfl trivial ?_
        obtain ⟨r187, M187, hz, h⟩ := am_bi_s h
        refine am_R.call (e' := me_X10_hard) (as := [.ref 0, .int v12]) (rest := [.int 10, .int (s2 - (s1 + s0))]) rfl rfl (Nat.le_of_ble_eq_true rfl) (t_X10_hard z N v12 _ hz) ?_
        refine am_R.go 5 (q' := (197, [some (.ref 0), some (.int v1), some (.int v2), some (.int v3), d4, some (.int v5), some (.int v6), some (.int v7), some (.int v8), some (.int ((s2 - (s1 + s0)) - (10 - r187))), some (.int v10), some (.int v11), some (.int v12)], [.int 1, .int ((s2 - (s1 + s0)) - (10 - r187))], M187)) rfl trivial ?_
        rcases am_it h with ⟨hc, h⟩ | ⟨hc, h⟩
        · refine am_R.bt rfl rfl hc ?_
          refine am_R.go 7 (q' := (34, [some (.ref 0), some (.int v1), some (.int v2), some (.int v3), d4, some (.int v5), some (.int v6), some (.int (-v7)), some (.int (-v8)), some (.int ((s2 - (s1 + s0)) - (10 - r187))), some (.int v10), some (.int v11), some (.int v12)], [], M187)) rfl trivial ?_
          exact hk34 v5 v6 (-v7) (-v8) ((s2 - (s1 + s0)) - (10 - r187)) v10 v11 _ _ _ h
        · refine am_R.bn rfl rfl hc ?_
          cases h
          exact am_R.ret rfl rfl trivial
  · refine am_R.bn rfl rfl hc ?_
    cases h
    exact am_R.ret rfl rfl trivial
def f_X10_goes_34B (N : Nat) (v1 : Int32) (v2 : Int32) (v3 : Int32) (k34 : Int32 → Int32 → Int32 → Int32 → Int32 → Int32 → Int32 → am_M → Option (Except Nat (Option Value) × am_M)) (v5 : Int32) (v6 : Int32) (v7 : Int32) (v8 : Int32) (v9 : Int32) (v10 : Int32) (v11 : Int32) (M : am_M) : Option (Except Nat (Option Value) × am_M) :=
  if 3 ≤ v11 then
    some (.ok none, M)
  else
    am_bi (f_X10_within N (v5 + v7) 0 ((M 0 33) - 1) M) fun r66 M66 =>
      if r66 = 0 then
        some (.ok none, M66)
      else
        am_bi (f_X10_within N (v6 + v8) 0 ((M66 0 34) - 1) M66) fun r81 M81 =>
          if r81 = 0 then
            some (.ok none, M81)
          else
            if am_in ((10 * (v6 + v8)) + (v5 + v7)) 100 then
              if (M81 11 (((10 * (v6 + v8)) + (v5 + v7)).toNatClampNeg)) ≤ 0 then
                f_X10_goes_129 N k34 v1 v2 v3 (v5 + v7) (v6 + v8) v7 v8 (v10 + 1) v11 ((10 * (v6 + v8)) + (v5 + v7)) 0 (1 + v3) v9 M81
              else
                if am_in ((10 * (v6 + v8)) + (v5 + v7)) 100 then
                  f_X10_goes_129 N k34 v1 v2 v3 (v5 + v7) (v6 + v8) v7 v8 (v10 + 1) v11 ((10 * (v6 + v8)) + (v5 + v7)) ((M81 11 (((10 * (v6 + v8)) + (v5 + v7)).toNatClampNeg)) + (M81 0 42)) (1 + v3) v9 M81
                else none
            else none
def f_X10_goes_34 (N : Nat) (v1 : Int32) (v2 : Int32) (v3 : Int32) : Nat → Int32 → Int32 → Int32 → Int32 → Int32 → Int32 → Int32 → am_M → Option (Except Nat (Option Value) × am_M)
  | 0 => fun _ _ _ _ _ _ _ _ => none
  | n + 1 => f_X10_goes_34B N v1 v2 v3 (f_X10_goes_34 N v1 v2 v3 n)
set_option maxRecDepth 100000 in
theorem t_X10_goes_34B (z : Value) (N : Nat) (v1 : Int32) (v2 : Int32) (v3 : Int32) {r : Except Nat (Option Value)} {M' : am_M} (k34 : Int32 → Int32 → Int32 → Int32 → Int32 → Int32 → Int32 → am_M → Option (Except Nat (Option Value) × am_M)) (hk34 : ∀ (v5 : Int32) (v6 : Int32) (v7 : Int32) (v8 : Int32) (v9 : Int32) (v10 : Int32) (v11 : Int32) (d4 : Option Value) (d12 : Option Value) (M : am_M), k34 v5 v6 v7 v8 v9 v10 v11 M = some (r, M') → mR z me_X10_goes (34, [some (.ref 0), some (.int v1), some (.int v2), some (.int v3), d4, some (.int v5), some (.int v6), some (.int v7), some (.int v8), some (.int v9), some (.int v10), some (.int v11), d12], [], M) r M') (v5 : Int32) (v6 : Int32) (v7 : Int32) (v8 : Int32) (v9 : Int32) (v10 : Int32) (v11 : Int32) (d4 : Option Value) (d12 : Option Value) (M : am_M) (h : f_X10_goes_34B N v1 v2 v3 k34 v5 v6 v7 v8 v9 v10 v11 M = some (r, M')) : mR z me_X10_goes (34, [some (.ref 0), some (.int v1), some (.int v2), some (.int v3), d4, some (.int v5), some (.int v6), some (.int v7), some (.int v8), some (.int v9), some (.int v10), some (.int v11), d12], [], M) r M' := by
  unfold f_X10_goes_34B at h
  refine am_R.go 2 (q' := (37, [some (.ref 0), some (.int v1), some (.int v2), some (.int v3), d4, some (.int v5), some (.int v6), some (.int v7), some (.int v8), some (.int v9), some (.int v10), some (.int v11), d12], [.int 3, .int v11], M)) rfl trivial ?_
  rcases am_it h with ⟨hc, h⟩ | ⟨hc, h⟩
  · refine am_R.bt rfl rfl hc ?_
    cases h
    exact am_R.ret rfl rfl trivial
  · refine am_R.bn rfl rfl hc ?_
    refine am_R.go 15 (q' := (66, [some (.ref 0), some (.int v1), some (.int v2), some (.int v3), d4, some (.int (v5 + v7)), some (.int (v6 + v8)), some (.int v7), some (.int v8), some (.int v9), some (.int (v10 + 1)), some (.int v11), d12], [.int ((M 0 33) - 1), .int 0, .int (v5 + v7)], M)) rfl trivial ?_
    obtain ⟨r66, M66, hz, h⟩ := am_bi_s h
    refine am_R.call (e' := me_X10_within) (as := [.int (v5 + v7), .int 0, .int ((M 0 33) - 1)]) (rest := []) rfl rfl (Nat.le_of_ble_eq_true rfl) (t_X10_within z N (v5 + v7) 0 ((M 0 33) - 1) _ hz) ?_
    rcases am_it h with ⟨hc, h⟩ | ⟨hc, h⟩
    · refine am_R.ct rfl rfl hc ?_
      cases h
      exact am_R.ret rfl rfl trivial
    · refine am_R.cn rfl rfl hc ?_
      refine am_R.go 6 (q' := (81, [some (.ref 0), some (.int v1), some (.int v2), some (.int v3), d4, some (.int (v5 + v7)), some (.int (v6 + v8)), some (.int v7), some (.int v8), some (.int v9), some (.int (v10 + 1)), some (.int v11), d12], [.int ((M66 0 34) - 1), .int 0, .int (v6 + v8)], M66)) rfl trivial ?_
      obtain ⟨r81, M81, hz, h⟩ := am_bi_s h
      refine am_R.call (e' := me_X10_within) (as := [.int (v6 + v8), .int 0, .int ((M66 0 34) - 1)]) (rest := []) rfl rfl (Nat.le_of_ble_eq_true rfl) (t_X10_within z N (v6 + v8) 0 ((M66 0 34) - 1) _ hz) ?_
      rcases am_it h with ⟨hc, h⟩ | ⟨hc, h⟩
      · refine am_R.cn rfl rfl (fun q => q hc) ?_
        cases h
        exact am_R.ret rfl rfl trivial
      · refine am_R.ct rfl rfl hc ?_
        obtain ⟨hC, h⟩ := am_gd h
        refine am_R.go 14 (q' := (110, [some (.ref 0), some (.int v1), some (.int v2), some (.int v3), d4, some (.int (v5 + v7)), some (.int (v6 + v8)), some (.int v7), some (.int v8), some (.int v9), some (.int (v10 + 1)), some (.int v11), some (.int ((10 * (v6 + v8)) + (v5 + v7)))], [.int (M81 11 (((10 * (v6 + v8)) + (v5 + v7)).toNatClampNeg)), .int (1 + v3), .int v9], M81)) rfl ⟨hC, trivial⟩ ?_
        rcases am_it h with ⟨hc, h⟩ | ⟨hc, h⟩
        · refine am_R.ct rfl rfl hc ?_
          refine am_R.go 1 (q' := (129, [some (.ref 0), some (.int v1), some (.int v2), some (.int v3), d4, some (.int (v5 + v7)), some (.int (v6 + v8)), some (.int v7), some (.int v8), some (.int v9), some (.int (v10 + 1)), some (.int v11), some (.int ((10 * (v6 + v8)) + (v5 + v7)))], [.int 0, .int (1 + v3), .int v9], M81)) rfl trivial ?_
          exact t_X10_goes_129 z N k34 v1 v2 v3 (v5 + v7) (v6 + v8) v7 v8 (v10 + 1) v11 ((10 * (v6 + v8)) + (v5 + v7)) 0 (1 + v3) v9 _ _ _ hk34 h
        · refine am_R.cn rfl rfl hc ?_
          obtain ⟨hC, h⟩ := am_gd h
          refine am_R.go 8 (q' := (129, [some (.ref 0), some (.int v1), some (.int v2), some (.int v3), d4, some (.int (v5 + v7)), some (.int (v6 + v8)), some (.int v7), some (.int v8), some (.int v9), some (.int (v10 + 1)), some (.int v11), some (.int ((10 * (v6 + v8)) + (v5 + v7)))], [.int ((M81 11 (((10 * (v6 + v8)) + (v5 + v7)).toNatClampNeg)) + (M81 0 42)), .int (1 + v3), .int v9], M81)) rfl ⟨hC, trivial⟩ ?_
          exact t_X10_goes_129 z N k34 v1 v2 v3 (v5 + v7) (v6 + v8) v7 v8 (v10 + 1) v11 ((10 * (v6 + v8)) + (v5 + v7)) ((M81 11 (((10 * (v6 + v8)) + (v5 + v7)).toNatClampNeg)) + (M81 0 42)) (1 + v3) v9 _ _ _ hk34 h
set_option maxRecDepth 100000 in
theorem t_X10_goes_34 (z : Value) (N : Nat) (v1 : Int32) (v2 : Int32) (v3 : Int32) {r : Except Nat (Option Value)} {M' : am_M} : ∀ (n : Nat) (v5 : Int32) (v6 : Int32) (v7 : Int32) (v8 : Int32) (v9 : Int32) (v10 : Int32) (v11 : Int32) (d4 : Option Value) (d12 : Option Value) (M : am_M), f_X10_goes_34 N v1 v2 v3 n v5 v6 v7 v8 v9 v10 v11 M = some (r, M') → mR z me_X10_goes (34, [some (.ref 0), some (.int v1), some (.int v2), some (.int v3), d4, some (.int v5), some (.int v6), some (.int v7), some (.int v8), some (.int v9), some (.int v10), some (.int v11), d12], [], M) r M' := by
  intro n
  induction n with
  | zero => intro v5 v6 v7 v8 v9 v10 v11 d4 d12 M h; cases h
  | succ n ih => intro v5 v6 v7 v8 v9 v10 v11 d4 d12 M h; exact t_X10_goes_34B z N v1 v2 v3 _ ih v5 v6 v7 v8 v9 v10 v11 d4 d12 M h
def f_X10_goes (N : Nat) (p1 : Int32) (p2 : Int32) (p3 : Int32) (p4 : Int32) (M : am_M) : Option (Except Nat (Option Value) × am_M) :=
  am_bi (f_X10_across N p2 M) fun r13 M13 =>
    am_bi (f_X10_down N p2 M13) fun r19 M19 =>
      f_X10_goes_34 N p1 p2 p3 N (p1 - p1 / 10 * 10) (p1 / 10) r13 r19 p4 0 0 M19
set_option maxRecDepth 100000 in
theorem t_X10_goes (z : Value) (N : Nat) (p1 : Int32) (p2 : Int32) (p3 : Int32) (p4 : Int32) (M : am_M) {r : Except Nat (Option Value)} {M' : am_M} (h : f_X10_goes N p1 p2 p3 p4 M = some (r, M')) : mR z me_X10_goes (0, [some (.ref 0), some (.int p1), some (.int p2), some (.int p3), some (.int p4), none, none, none, none, none, none, none, none], [], M) r M' := by
  unfold f_X10_goes at h
  refine am_R.go 9 (q' := (13, [some (.ref 0), some (.int p1), some (.int p2), some (.int p3), some (.int p4), some (.int (p1 - p1 / 10 * 10)), some (.int (p1 / 10)), none, none, none, none, none, none], [.int p2], M)) rfl ⟨(by decide), (by decide), trivial⟩ ?_
  obtain ⟨r13, M13, hz, h⟩ := am_bi_s h
  refine am_R.call (e' := me_X10_across) (as := [.int p2]) (rest := []) rfl rfl (Nat.le_of_ble_eq_true rfl) (t_X10_across z N p2 _ hz) ?_
  refine am_R.go 2 (q' := (19, [some (.ref 0), some (.int p1), some (.int p2), some (.int p3), some (.int p4), some (.int (p1 - p1 / 10 * 10)), some (.int (p1 / 10)), some (.int r13), none, none, none, none, none], [.int p2], M13)) rfl trivial ?_
  obtain ⟨r19, M19, hz, h⟩ := am_bi_s h
  refine am_R.call (e' := me_X10_down) (as := [.int p2]) (rest := []) rfl rfl (Nat.le_of_ble_eq_true rfl) (t_X10_down z N p2 _ hz) ?_
  refine am_R.go 7 (q' := (34, [some (.ref 0), some (.int p1), some (.int p2), some (.int p3), some (.int p4), some (.int (p1 - p1 / 10 * 10)), some (.int (p1 / 10)), some (.int r13), some (.int r19), some (.int p4), some (.int 0), some (.int 0), none], [], M19)) rfl trivial ?_
  exact t_X10_goes_34 z N p1 p2 p3 N (p1 - p1 / 10 * 10) (p1 / 10) r13 r19 p4 0 0 _ _ _ h
def f_X10_shouts_19B (N : Nat) (v1 : Int32) (v2 : Int32) (v3 : Int32) (k19 : Int32 → am_M → Option (Except Nat (Option Value) × am_M)) (v4 : Int32) (M : am_M) : Option (Except Nat (Option Value) × am_M) :=
  if 8 ≤ v4 then
    some (.ok none, M)
  else
    am_bv (f_X10_goes N v1 v4 v2 v3 M) fun M32 =>
      k19 (v4 + 1) M32
def f_X10_shouts_19 (N : Nat) (v1 : Int32) (v2 : Int32) (v3 : Int32) : Nat → Int32 → am_M → Option (Except Nat (Option Value) × am_M)
  | 0 => fun _ _ => none
  | n + 1 => f_X10_shouts_19B N v1 v2 v3 (f_X10_shouts_19 N v1 v2 v3 n)
set_option maxRecDepth 100000 in
theorem t_X10_shouts_19B (z : Value) (N : Nat) (v1 : Int32) (v2 : Int32) (v3 : Int32) {r : Except Nat (Option Value)} {M' : am_M} (k19 : Int32 → am_M → Option (Except Nat (Option Value) × am_M)) (hk19 : ∀ (v4 : Int32) (M : am_M), k19 v4 M = some (r, M') → mR z me_X10_shouts (19, [some (.ref 0), some (.int v1), some (.int v2), some (.int v3), some (.int v4)], [], M) r M') (v4 : Int32) (M : am_M) (h : f_X10_shouts_19B N v1 v2 v3 k19 v4 M = some (r, M')) : mR z me_X10_shouts (19, [some (.ref 0), some (.int v1), some (.int v2), some (.int v3), some (.int v4)], [], M) r M' := by
  unfold f_X10_shouts_19B at h
  refine am_R.go 2 (q' := (23, [some (.ref 0), some (.int v1), some (.int v2), some (.int v3), some (.int v4)], [.int 8, .int v4], M)) rfl trivial ?_
  rcases am_it h with ⟨hc, h⟩ | ⟨hc, h⟩
  · refine am_R.bt rfl rfl hc ?_
    cases h
    exact am_R.ret rfl rfl trivial
  · refine am_R.bn rfl rfl hc ?_
    refine am_R.go 5 (q' := (32, [some (.ref 0), some (.int v1), some (.int v2), some (.int v3), some (.int v4)], [.int v3, .int v2, .int v4, .int v1, .ref 0], M)) rfl trivial ?_
    obtain ⟨M32, hz, h⟩ := am_bv_s h
    refine am_R.call (e' := me_X10_goes) (as := [.ref 0, .int v1, .int v4, .int v2, .int v3]) (rest := []) rfl rfl (Nat.le_of_ble_eq_true rfl) (t_X10_goes z N v1 v4 v2 v3 _ hz) ?_
    refine am_R.go 2 (q' := (19, [some (.ref 0), some (.int v1), some (.int v2), some (.int v3), some (.int (v4 + 1))], [], M32)) rfl trivial ?_
    exact hk19 (v4 + 1) _ h
set_option maxRecDepth 100000 in
theorem t_X10_shouts_19 (z : Value) (N : Nat) (v1 : Int32) (v2 : Int32) (v3 : Int32) {r : Except Nat (Option Value)} {M' : am_M} : ∀ (n : Nat) (v4 : Int32) (M : am_M), f_X10_shouts_19 N v1 v2 v3 n v4 M = some (r, M') → mR z me_X10_shouts (19, [some (.ref 0), some (.int v1), some (.int v2), some (.int v3), some (.int v4)], [], M) r M' := by
  intro n
  induction n with
  | zero => intro v4 M h; cases h
  | succ n ih => intro v4 M h; exact t_X10_shouts_19B z N v1 v2 v3 _ ih v4 M h
def f_X10_shouts (N : Nat) (p1 : Int32) (p2 : Int32) (p3 : Int32) (M : am_M) : Option (Except Nat (Option Value) × am_M) :=
  am_bv (f_X10_falls N p1 p3 (am_up (am_up M 0 48 0) 0 49 0)) fun M13 =>
    f_X10_shouts_19 N p1 p2 p3 N 0 M13
set_option maxRecDepth 100000 in
theorem t_X10_shouts (z : Value) (N : Nat) (p1 : Int32) (p2 : Int32) (p3 : Int32) (M : am_M) {r : Except Nat (Option Value)} {M' : am_M} (h : f_X10_shouts N p1 p2 p3 M = some (r, M')) : mR z me_X10_shouts (0, [some (.ref 0), some (.int p1), some (.int p2), some (.int p3), none], [], M) r M' := by
  unfold f_X10_shouts at h
  refine am_R.go 9 (q' := (13, [some (.ref 0), some (.int p1), some (.int p2), some (.int p3), none], [.int p3, .int p1, .ref 0], am_up (am_up M 0 48 0) 0 49 0)) rfl trivial ?_
  obtain ⟨M13, hz, h⟩ := am_bv_s h
  refine am_R.call (e' := me_X10_falls) (as := [.ref 0, .int p1, .int p3]) (rest := []) rfl rfl (Nat.le_of_ble_eq_true rfl) (t_X10_falls z N p1 p3 _ hz) ?_
  refine am_R.go 2 (q' := (19, [some (.ref 0), some (.int p1), some (.int p2), some (.int p3), some (.int 0)], [], M13)) rfl trivial ?_
  exact t_X10_shouts_19 z N p1 p2 p3 N 0 _ h
def f_X10_echoes (N : Nat) (p1 : Int32) (p2 : Int32) (p3 : Int32) (M : am_M) : Option (Except Nat (Option Value) × am_M) :=
  am_bi (f_X10_isCell N p1 p2 1 (am_up M 0 0 0)) fun r9 M9 =>
    if r9 = 0 then
      some (.ok (some (.int 0)), M9)
    else
      am_bi (f_X10_isFog N p3 M9) fun r18 M18 =>
        am_bi (f_X10_may N r18 2 2 M18) fun r23 M23 =>
          if r23 = 0 then
            some (.ok (some (.int 0)), M23)
          else
            am_bv (f_X10_shouts N ((10 * p2) + p1) p3 (M23 0 40) M23) fun M43 =>
              some (.ok (some (.int (M43 0 48))), M43)
set_option maxRecDepth 100000 in
theorem t_X10_echoes (z : Value) (N : Nat) (p1 : Int32) (p2 : Int32) (p3 : Int32) (M : am_M) {r : Except Nat (Option Value)} {M' : am_M} (h : f_X10_echoes N p1 p2 p3 M = some (r, M')) : mR z me_X10_echoes (0, [some (.ref 0), some (.int p1), some (.int p2), some (.int p3)], [], M) r M' := by
  unfold f_X10_echoes at h
  refine am_R.go 7 (q' := (9, [some (.ref 0), some (.int p1), some (.int p2), some (.int p3)], [.int 1, .int p2, .int p1, .ref 0], am_up M 0 0 0)) rfl trivial ?_
  obtain ⟨r9, M9, hz, h⟩ := am_bi_s h
  refine am_R.call (e' := me_X10_isCell) (as := [.ref 0, .int p1, .int p2, .int 1]) (rest := []) rfl rfl (Nat.le_of_ble_eq_true rfl) (t_X10_isCell z N p1 p2 1 _ hz) ?_
  rcases am_it h with ⟨hc, h⟩ | ⟨hc, h⟩
  · refine am_R.ct rfl rfl hc ?_
    refine am_R.go 1 (q' := (30, [some (.ref 0), some (.int p1), some (.int p2), some (.int p3)], [.int 0], M9)) rfl trivial ?_
    cases h
    exact am_R.ret rfl rfl trivial
  · refine am_R.cn rfl rfl hc ?_
    refine am_R.go 3 (q' := (18, [some (.ref 0), some (.int p1), some (.int p2), some (.int p3)], [.int p3, .ref 0, .ref 0], M9)) rfl trivial ?_
    obtain ⟨r18, M18, hz, h⟩ := am_bi_s h
    refine am_R.call (e' := me_X10_isFog) (as := [.ref 0, .int p3]) (rest := [.ref 0]) rfl rfl (Nat.le_of_ble_eq_true rfl) (t_X10_isFog z N p3 _ hz) ?_
    refine am_R.go 2 (q' := (23, [some (.ref 0), some (.int p1), some (.int p2), some (.int p3)], [.int 2, .int 2, .int r18, .ref 0], M18)) rfl trivial ?_
    obtain ⟨r23, M23, hz, h⟩ := am_bi_s h
    refine am_R.call (e' := me_X10_may) (as := [.ref 0, .int r18, .int 2, .int 2]) (rest := []) rfl rfl (Nat.le_of_ble_eq_true rfl) (t_X10_may z N r18 2 2 _ hz) ?_
    rcases am_it h with ⟨hc, h⟩ | ⟨hc, h⟩
    · refine am_R.cn rfl rfl (fun q => q hc) ?_
      refine am_R.go 1 (q' := (30, [some (.ref 0), some (.int p1), some (.int p2), some (.int p3)], [.int 0], M23)) rfl trivial ?_
      cases h
      exact am_R.ret rfl rfl trivial
    · refine am_R.ct rfl rfl hc ?_
      refine am_R.go 9 (q' := (43, [some (.ref 0), some (.int p1), some (.int p2), some (.int p3)], [.int (M23 0 40), .int p3, .int ((10 * p2) + p1), .ref 0], M23)) rfl trivial ?_
      obtain ⟨M43, hz, h⟩ := am_bv_s h
      refine am_R.call (e' := me_X10_shouts) (as := [.ref 0, .int ((10 * p2) + p1), .int p3, .int (M23 0 40)]) (rest := []) rfl rfl (Nat.le_of_ble_eq_true rfl) (t_X10_shouts z N ((10 * p2) + p1) p3 (M23 0 40) _ hz) ?_
      refine am_R.go 2 (q' := (50, [some (.ref 0), some (.int p1), some (.int p2), some (.int p3)], [.int (M43 0 48)], M43)) rfl trivial ?_
      cases h
      exact am_R.ret rfl rfl trivial
def f_X10_echo_39 (N : Nat) (v1 : Int32) (v2 : Int32) (v3 : Int32) (v4 : Int32) (v5 : Int32) (s0 : Int32) (M : am_M) : Option (Except Nat (Option Value) × am_M) :=
  am_bi (f_X10_may N s0 2 2 M) fun r41 M41 =>
    if r41 = 0 then
      some (.ok (some (.int 0)), M41)
    else
      am_bv (f_X10_shouts N ((10 * v2) + v1) v3 (M41 0 40) M41) fun M61 =>
        am_bi (f_X10_within N v4 0 ((M61 0 48) - 1) M61) fun r73 M73 =>
          if r73 = 0 then
            some (.ok (some (.int (-1))), M73)
          else
            if v5 = 0 then
              if am_in v4 24 then
                some (.ok (some (.int (M73 17 (v4.toNatClampNeg)))), M73)
              else none
            else
              if v5 = 1 then
                if am_in v4 24 then
                  some (.ok (some (.int (M73 18 (v4.toNatClampNeg)))), M73)
                else none
              else
                if v5 = 2 then
                  if am_in v4 24 then
                    some (.ok (some (.int (M73 19 (v4.toNatClampNeg)))), M73)
                  else none
                else
                  if am_in v4 24 then
                    some (.ok (some (.int (M73 20 (v4.toNatClampNeg)))), M73)
                  else none
set_option maxRecDepth 100000 in
theorem t_X10_echo_39 (z : Value) (N : Nat) {r : Except Nat (Option Value)} {M' : am_M} (v1 : Int32) (v2 : Int32) (v3 : Int32) (v4 : Int32) (v5 : Int32) (s0 : Int32) (M : am_M) (h : f_X10_echo_39 N v1 v2 v3 v4 v5 s0 M = some (r, M')) : mR z me_X10_echo (39, [some (.ref 0), some (.int v1), some (.int v2), some (.int v3), some (.int v4), some (.int v5)], [.int s0, .ref 0], M) r M' := by
  unfold f_X10_echo_39 at h
  refine am_R.go 2 (q' := (41, [some (.ref 0), some (.int v1), some (.int v2), some (.int v3), some (.int v4), some (.int v5)], [.int 2, .int 2, .int s0, .ref 0], M)) rfl trivial ?_
  obtain ⟨r41, M41, hz, h⟩ := am_bi_s h
  refine am_R.call (e' := me_X10_may) (as := [.ref 0, .int s0, .int 2, .int 2]) (rest := []) rfl rfl (Nat.le_of_ble_eq_true rfl) (t_X10_may z N s0 2 2 _ hz) ?_
  rcases am_it h with ⟨hc, h⟩ | ⟨hc, h⟩
  · refine am_R.cn rfl rfl (fun q => q hc) ?_
    refine am_R.go 1 (q' := (48, [some (.ref 0), some (.int v1), some (.int v2), some (.int v3), some (.int v4), some (.int v5)], [.int 0], M41)) rfl trivial ?_
    cases h
    exact am_R.ret rfl rfl trivial
  · refine am_R.ct rfl rfl hc ?_
    refine am_R.go 9 (q' := (61, [some (.ref 0), some (.int v1), some (.int v2), some (.int v3), some (.int v4), some (.int v5)], [.int (M41 0 40), .int v3, .int ((10 * v2) + v1), .ref 0], M41)) rfl trivial ?_
    obtain ⟨M61, hz, h⟩ := am_bv_s h
    refine am_R.call (e' := me_X10_shouts) (as := [.ref 0, .int ((10 * v2) + v1), .int v3, .int (M41 0 40)]) (rest := []) rfl rfl (Nat.le_of_ble_eq_true rfl) (t_X10_shouts z N ((10 * v2) + v1) v3 (M41 0 40) _ hz) ?_
    refine am_R.go 6 (q' := (73, [some (.ref 0), some (.int v1), some (.int v2), some (.int v3), some (.int v4), some (.int v5)], [.int ((M61 0 48) - 1), .int 0, .int v4], M61)) rfl trivial ?_
    obtain ⟨r73, M73, hz, h⟩ := am_bi_s h
    refine am_R.call (e' := me_X10_within) (as := [.int v4, .int 0, .int ((M61 0 48) - 1)]) (rest := []) rfl rfl (Nat.le_of_ble_eq_true rfl) (t_X10_within z N v4 0 ((M61 0 48) - 1) _ hz) ?_
    rcases am_it h with ⟨hc, h⟩ | ⟨hc, h⟩
    · refine am_R.cn rfl rfl (fun q => q hc) ?_
      refine am_R.go 1 (q' := (80, [some (.ref 0), some (.int v1), some (.int v2), some (.int v3), some (.int v4), some (.int v5)], [.int (-1)], M73)) rfl trivial ?_
      cases h
      exact am_R.ret rfl rfl trivial
    · refine am_R.ct rfl rfl hc ?_
      refine am_R.go 1 (q' := (83, [some (.ref 0), some (.int v1), some (.int v2), some (.int v3), some (.int v4), some (.int v5)], [.int v5], M73)) rfl trivial ?_
      rcases am_it h with ⟨hc, h⟩ | ⟨hc, h⟩
      · refine am_R.cn rfl rfl (fun q => q hc) ?_
        obtain ⟨hC, h⟩ := am_gd h
        refine am_R.go 5 (q' := (135, [some (.ref 0), some (.int v1), some (.int v2), some (.int v3), some (.int v4), some (.int v5)], [.int (M73 17 (v4.toNatClampNeg))], M73)) rfl ⟨hC, trivial⟩ ?_
        cases h
        exact am_R.ret rfl rfl trivial
      · refine am_R.ct rfl rfl hc ?_
        refine am_R.go 2 (q' := (99, [some (.ref 0), some (.int v1), some (.int v2), some (.int v3), some (.int v4), some (.int v5)], [.int 1, .int v5], M73)) rfl trivial ?_
        rcases am_it h with ⟨hc, h⟩ | ⟨hc, h⟩
        · refine am_R.bn rfl rfl (fun q => q hc) ?_
          obtain ⟨hC, h⟩ := am_gd h
          refine am_R.go 5 (q' := (135, [some (.ref 0), some (.int v1), some (.int v2), some (.int v3), some (.int v4), some (.int v5)], [.int (M73 18 (v4.toNatClampNeg))], M73)) rfl ⟨hC, trivial⟩ ?_
          cases h
          exact am_R.ret rfl rfl trivial
        · refine am_R.bt rfl rfl hc ?_
          refine am_R.go 2 (q' := (115, [some (.ref 0), some (.int v1), some (.int v2), some (.int v3), some (.int v4), some (.int v5)], [.int 2, .int v5], M73)) rfl trivial ?_
          rcases am_it h with ⟨hc, h⟩ | ⟨hc, h⟩
          · refine am_R.bn rfl rfl (fun q => q hc) ?_
            obtain ⟨hC, h⟩ := am_gd h
            refine am_R.go 5 (q' := (135, [some (.ref 0), some (.int v1), some (.int v2), some (.int v3), some (.int v4), some (.int v5)], [.int (M73 19 (v4.toNatClampNeg))], M73)) rfl ⟨hC, trivial⟩ ?_
            cases h
            exact am_R.ret rfl rfl trivial
          · refine am_R.bt rfl rfl hc ?_
            obtain ⟨hC, h⟩ := am_gd h
            refine am_R.go 4 (q' := (135, [some (.ref 0), some (.int v1), some (.int v2), some (.int v3), some (.int v4), some (.int v5)], [.int (M73 20 (v4.toNatClampNeg))], M73)) rfl ⟨hC, trivial⟩ ?_
            cases h
            exact am_R.ret rfl rfl trivial
def f_X10_echo_38 (N : Nat) (v1 : Int32) (v2 : Int32) (v3 : Int32) (v4 : Int32) (v5 : Int32) (M : am_M) : Option (Except Nat (Option Value) × am_M) :=
  f_X10_echo_39 N v1 v2 v3 v4 v5 0 M
set_option maxRecDepth 100000 in
theorem t_X10_echo_38 (z : Value) (N : Nat) {r : Except Nat (Option Value)} {M' : am_M} (v1 : Int32) (v2 : Int32) (v3 : Int32) (v4 : Int32) (v5 : Int32) (M : am_M) (h : f_X10_echo_38 N v1 v2 v3 v4 v5 M = some (r, M')) : mR z me_X10_echo (38, [some (.ref 0), some (.int v1), some (.int v2), some (.int v3), some (.int v4), some (.int v5)], [.ref 0], M) r M' := by
  unfold f_X10_echo_38 at h
  refine am_R.go 1 (q' := (39, [some (.ref 0), some (.int v1), some (.int v2), some (.int v3), some (.int v4), some (.int v5)], [.int 0, .ref 0], M)) rfl trivial ?_
  exact t_X10_echo_39 z N v1 v2 v3 v4 v5 0 _ h
def f_X10_echo (N : Nat) (p1 : Int32) (p2 : Int32) (p3 : Int32) (p4 : Int32) (p5 : Int32) (M : am_M) : Option (Except Nat (Option Value) × am_M) :=
  am_bi (f_X10_isCell N p1 p2 1 (am_up M 0 0 0)) fun r9 M9 =>
    if r9 = 0 then
      some (.ok (some (.int 0)), M9)
    else
      am_bi (f_X10_isFog N p3 M9) fun r18 M18 =>
        if r18 = 0 then
          f_X10_echo_38 N p1 p2 p3 p4 p5 M18
        else
          am_bi (f_X10_within N p5 0 3 M18) fun r28 M28 =>
            if r28 = 0 then
              f_X10_echo_38 N p1 p2 p3 p4 p5 M28
            else
              f_X10_echo_39 N p1 p2 p3 p4 p5 1 M28
set_option maxRecDepth 100000 in
theorem t_X10_echo (z : Value) (N : Nat) (p1 : Int32) (p2 : Int32) (p3 : Int32) (p4 : Int32) (p5 : Int32) (M : am_M) {r : Except Nat (Option Value)} {M' : am_M} (h : f_X10_echo N p1 p2 p3 p4 p5 M = some (r, M')) : mR z me_X10_echo (0, [some (.ref 0), some (.int p1), some (.int p2), some (.int p3), some (.int p4), some (.int p5)], [], M) r M' := by
  unfold f_X10_echo at h
  refine am_R.go 7 (q' := (9, [some (.ref 0), some (.int p1), some (.int p2), some (.int p3), some (.int p4), some (.int p5)], [.int 1, .int p2, .int p1, .ref 0], am_up M 0 0 0)) rfl trivial ?_
  obtain ⟨r9, M9, hz, h⟩ := am_bi_s h
  refine am_R.call (e' := me_X10_isCell) (as := [.ref 0, .int p1, .int p2, .int 1]) (rest := []) rfl rfl (Nat.le_of_ble_eq_true rfl) (t_X10_isCell z N p1 p2 1 _ hz) ?_
  rcases am_it h with ⟨hc, h⟩ | ⟨hc, h⟩
  · refine am_R.ct rfl rfl hc ?_
    refine am_R.go 1 (q' := (48, [some (.ref 0), some (.int p1), some (.int p2), some (.int p3), some (.int p4), some (.int p5)], [.int 0], M9)) rfl trivial ?_
    cases h
    exact am_R.ret rfl rfl trivial
  · refine am_R.cn rfl rfl hc ?_
    refine am_R.go 3 (q' := (18, [some (.ref 0), some (.int p1), some (.int p2), some (.int p3), some (.int p4), some (.int p5)], [.int p3, .ref 0, .ref 0], M9)) rfl trivial ?_
    obtain ⟨r18, M18, hz, h⟩ := am_bi_s h
    refine am_R.call (e' := me_X10_isFog) (as := [.ref 0, .int p3]) (rest := [.ref 0]) rfl rfl (Nat.le_of_ble_eq_true rfl) (t_X10_isFog z N p3 _ hz) ?_
    rcases am_it h with ⟨hc, h⟩ | ⟨hc, h⟩
    · refine am_R.ct rfl rfl hc ?_
      exact t_X10_echo_38 z N p1 p2 p3 p4 p5 _ h
    · refine am_R.cn rfl rfl hc ?_
      refine am_R.go 3 (q' := (28, [some (.ref 0), some (.int p1), some (.int p2), some (.int p3), some (.int p4), some (.int p5)], [.int 3, .int 0, .int p5, .ref 0], M18)) rfl trivial ?_
      obtain ⟨r28, M28, hz, h⟩ := am_bi_s h
      refine am_R.call (e' := me_X10_within) (as := [.int p5, .int 0, .int 3]) (rest := [.ref 0]) rfl rfl (Nat.le_of_ble_eq_true rfl) (t_X10_within z N p5 0 3 _ hz) ?_
      rcases am_it h with ⟨hc, h⟩ | ⟨hc, h⟩
      · refine am_R.ct rfl rfl hc ?_
        exact t_X10_echo_38 z N p1 p2 p3 p4 p5 _ h
      · refine am_R.cn rfl rfl hc ?_
        refine am_R.go 2 (q' := (39, [some (.ref 0), some (.int p1), some (.int p2), some (.int p3), some (.int p4), some (.int p5)], [.int 1, .ref 0], M28)) rfl trivial ?_
        exact t_X10_echo_39 z N p1 p2 p3 p4 p5 1 _ h
def f_X10_countOf_139 (N : Nat) (k28 : Int32 → Int32 → Int32 → am_M → Option (Except Nat (Option Value) × am_M)) (v3 : Int32) (v5 : Int32) (v6 : Int32) (s0 : Int32) (M : am_M) : Option (Except Nat (Option Value) × am_M) :=
  k28 (s0 + 1) v5 (v6 + 1) M
set_option maxRecDepth 100000 in
theorem t_X10_countOf_139 (z : Value) (N : Nat) (k28 : Int32 → Int32 → Int32 → am_M → Option (Except Nat (Option Value) × am_M)) {r : Except Nat (Option Value)} {M' : am_M} (v3 : Int32) (v5 : Int32) (v6 : Int32) (s0 : Int32) (d1 : Option Value) (d2 : Option Value) (d4 : Option Value) (d7 : Option Value) (M : am_M) (hk28 : ∀ (v4 : Int32) (v5 : Int32) (v6 : Int32) (d1 : Option Value) (d2 : Option Value) (d7 : Option Value) (M : am_M), k28 v4 v5 v6 M = some (r, M') → mR z me_X10_countOf (28, [some (.ref 0), d1, d2, some (.int v3), some (.int v4), some (.int v5), some (.int v6), d7], [], M) r M') (h : f_X10_countOf_139 N k28 v3 v5 v6 s0 M = some (r, M')) : mR z me_X10_countOf (139, [some (.ref 0), d1, d2, some (.int v3), d4, some (.int v5), some (.int v6), d7], [.int s0], M) r M' := by
  unfold f_X10_countOf_139 at h
  refine am_R.go 6 (q' := (28, [some (.ref 0), d1, d2, some (.int v3), some (.int (s0 + 1)), some (.int v5), some (.int (v6 + 1)), d7], [], M)) rfl trivial ?_
  exact hk28 (s0 + 1) v5 (v6 + 1) _ _ _ _ h
def f_X10_countOf_118 (N : Nat) (k28 : Int32 → Int32 → Int32 → am_M → Option (Except Nat (Option Value) × am_M)) (v3 : Int32) (v4 : Int32) (v5 : Int32) (v6 : Int32) (s0 : Int32) (M : am_M) : Option (Except Nat (Option Value) × am_M) :=
  if s0 = 0 then
    k28 (v4 + 0) v5 (v6 + 1) M
  else
    if v3 = 1 then
      f_X10_countOf_139 N k28 v3 v5 v6 v4 M
    else
      if v5 < 10 then
        k28 (v4 + 0) v5 (v6 + 1) M
      else
        f_X10_countOf_139 N k28 v3 v5 v6 v4 M
set_option maxRecDepth 100000 in
theorem t_X10_countOf_118 (z : Value) (N : Nat) (k28 : Int32 → Int32 → Int32 → am_M → Option (Except Nat (Option Value) × am_M)) {r : Except Nat (Option Value)} {M' : am_M} (v3 : Int32) (v4 : Int32) (v5 : Int32) (v6 : Int32) (s0 : Int32) (d1 : Option Value) (d2 : Option Value) (d7 : Option Value) (M : am_M) (hk28 : ∀ (v4 : Int32) (v5 : Int32) (v6 : Int32) (d1 : Option Value) (d2 : Option Value) (d7 : Option Value) (M : am_M), k28 v4 v5 v6 M = some (r, M') → mR z me_X10_countOf (28, [some (.ref 0), d1, d2, some (.int v3), some (.int v4), some (.int v5), some (.int v6), d7], [], M) r M') (h : f_X10_countOf_118 N k28 v3 v4 v5 v6 s0 M = some (r, M')) : mR z me_X10_countOf (118, [some (.ref 0), d1, d2, some (.int v3), some (.int v4), some (.int v5), some (.int v6), d7], [.int s0], M) r M' := by
  unfold f_X10_countOf_118 at h
  refine am_R.go 3 (q' := (124, [some (.ref 0), d1, d2, some (.int v3), some (.int v4), some (.int v5), some (.int v6), some (.int s0)], [.int s0, .int v4], M)) rfl trivial ?_
  rcases am_it h with ⟨hc, h⟩ | ⟨hc, h⟩
  · refine am_R.ct rfl rfl hc ?_
    refine am_R.go 5 (q' := (28, [some (.ref 0), d1, d2, some (.int v3), some (.int (v4 + 0)), some (.int v5), some (.int (v6 + 1)), some (.int s0)], [], M)) rfl trivial ?_
    exact hk28 (v4 + 0) v5 (v6 + 1) _ _ _ _ h
  · refine am_R.cn rfl rfl hc ?_
    refine am_R.go 2 (q' := (129, [some (.ref 0), d1, d2, some (.int v3), some (.int v4), some (.int v5), some (.int v6), some (.int s0)], [.int 1, .int v3, .int v4], M)) rfl trivial ?_
    rcases am_it h with ⟨hc, h⟩ | ⟨hc, h⟩
    · refine am_R.bt rfl rfl hc ?_
      exact t_X10_countOf_139 z N k28 v3 v5 v6 v4 _ _ _ _ _ hk28 h
    · refine am_R.bn rfl rfl hc ?_
      refine am_R.go 2 (q' := (136, [some (.ref 0), d1, d2, some (.int v3), some (.int v4), some (.int v5), some (.int v6), some (.int s0)], [.int 10, .int v5, .int v4], M)) rfl trivial ?_
      rcases am_it h with ⟨hc, h⟩ | ⟨hc, h⟩
      · refine am_R.bt rfl rfl hc ?_
        refine am_R.go 5 (q' := (28, [some (.ref 0), d1, d2, some (.int v3), some (.int (v4 + 0)), some (.int v5), some (.int (v6 + 1)), some (.int s0)], [], M)) rfl trivial ?_
        exact hk28 (v4 + 0) v5 (v6 + 1) _ _ _ _ h
      · refine am_R.bn rfl rfl hc ?_
        exact t_X10_countOf_139 z N k28 v3 v5 v6 v4 _ _ _ _ _ hk28 h
def f_X10_countOf_113 (N : Nat) (k28 : Int32 → Int32 → Int32 → am_M → Option (Except Nat (Option Value) × am_M)) (v3 : Int32) (v4 : Int32) (v5 : Int32) (v6 : Int32) (M : am_M) : Option (Except Nat (Option Value) × am_M) :=
  f_X10_countOf_118 N k28 v3 v4 v5 v6 1 M
set_option maxRecDepth 100000 in
theorem t_X10_countOf_113 (z : Value) (N : Nat) (k28 : Int32 → Int32 → Int32 → am_M → Option (Except Nat (Option Value) × am_M)) {r : Except Nat (Option Value)} {M' : am_M} (v3 : Int32) (v4 : Int32) (v5 : Int32) (v6 : Int32) (d1 : Option Value) (d2 : Option Value) (d7 : Option Value) (M : am_M) (hk28 : ∀ (v4 : Int32) (v5 : Int32) (v6 : Int32) (d1 : Option Value) (d2 : Option Value) (d7 : Option Value) (M : am_M), k28 v4 v5 v6 M = some (r, M') → mR z me_X10_countOf (28, [some (.ref 0), d1, d2, some (.int v3), some (.int v4), some (.int v5), some (.int v6), d7], [], M) r M') (h : f_X10_countOf_113 N k28 v3 v4 v5 v6 M = some (r, M')) : mR z me_X10_countOf (113, [some (.ref 0), d1, d2, some (.int v3), some (.int v4), some (.int v5), some (.int v6), d7], [], M) r M' := by
  unfold f_X10_countOf_113 at h
  refine am_R.go 2 (q' := (118, [some (.ref 0), d1, d2, some (.int v3), some (.int v4), some (.int v5), some (.int v6), d7], [.int 1], M)) rfl trivial ?_
  exact t_X10_countOf_118 z N k28 v3 v4 v5 v6 1 _ _ _ _ hk28 h
def f_X10_countOf_81 (N : Nat) (k28 : Int32 → Int32 → Int32 → am_M → Option (Except Nat (Option Value) × am_M)) (v3 : Int32) (v4 : Int32) (v6 : Int32) (s0 : Int32) (M : am_M) : Option (Except Nat (Option Value) × am_M) :=
  if v6 = ((M 0 48) - 1) then
    f_X10_countOf_113 N k28 v3 v4 s0 v6 M
  else
    if am_in (v6 + 1) 24 ∧ am_in v6 24 then
      if (M 17 ((v6 + 1).toNatClampNeg)) = (M 17 (v6.toNatClampNeg)) then
        f_X10_countOf_118 N k28 v3 v4 s0 v6 0 M
      else
        f_X10_countOf_113 N k28 v3 v4 s0 v6 M
    else none
set_option maxRecDepth 100000 in
theorem t_X10_countOf_81 (z : Value) (N : Nat) (k28 : Int32 → Int32 → Int32 → am_M → Option (Except Nat (Option Value) × am_M)) {r : Except Nat (Option Value)} {M' : am_M} (v3 : Int32) (v4 : Int32) (v6 : Int32) (s0 : Int32) (d1 : Option Value) (d2 : Option Value) (d5 : Option Value) (d7 : Option Value) (M : am_M) (hk28 : ∀ (v4 : Int32) (v5 : Int32) (v6 : Int32) (d1 : Option Value) (d2 : Option Value) (d7 : Option Value) (M : am_M), k28 v4 v5 v6 M = some (r, M') → mR z me_X10_countOf (28, [some (.ref 0), d1, d2, some (.int v3), some (.int v4), some (.int v5), some (.int v6), d7], [], M) r M') (h : f_X10_countOf_81 N k28 v3 v4 v6 s0 M = some (r, M')) : mR z me_X10_countOf (81, [some (.ref 0), d1, d2, some (.int v3), some (.int v4), d5, some (.int v6), d7], [.int s0], M) r M' := by
  unfold f_X10_countOf_81 at h
  refine am_R.go 6 (q' := (91, [some (.ref 0), d1, d2, some (.int v3), some (.int v4), some (.int s0), some (.int v6), d7], [.int ((M 0 48) - 1), .int v6], M)) rfl trivial ?_
  rcases am_it h with ⟨hc, h⟩ | ⟨hc, h⟩
  · refine am_R.bt rfl rfl hc ?_
    exact t_X10_countOf_113 z N k28 v3 v4 s0 v6 _ _ _ _ hk28 h
  · refine am_R.bn rfl rfl hc ?_
    obtain ⟨hC, h⟩ := am_gd h
    refine am_R.go 10 (q' := (110, [some (.ref 0), d1, d2, some (.int v3), some (.int v4), some (.int s0), some (.int v6), d7], [.int (M 17 (v6.toNatClampNeg)), .int (M 17 ((v6 + 1).toNatClampNeg))], M)) rfl ⟨hC.1, hC.2, trivial⟩ ?_
    rcases am_it h with ⟨hc, h⟩ | ⟨hc, h⟩
    · refine am_R.bt rfl rfl hc ?_
      refine am_R.go 1 (q' := (118, [some (.ref 0), d1, d2, some (.int v3), some (.int v4), some (.int s0), some (.int v6), d7], [.int 0], M)) rfl trivial ?_
      exact t_X10_countOf_118 z N k28 v3 v4 s0 v6 0 _ _ _ _ hk28 h
    · refine am_R.bn rfl rfl hc ?_
      exact t_X10_countOf_113 z N k28 v3 v4 s0 v6 _ _ _ _ hk28 h
def f_X10_countOf_74 (N : Nat) (k28 : Int32 → Int32 → Int32 → am_M → Option (Except Nat (Option Value) × am_M)) (v3 : Int32) (v4 : Int32) (v6 : Int32) (M : am_M) : Option (Except Nat (Option Value) × am_M) :=
  if am_in v6 24 then
    f_X10_countOf_81 N k28 v3 v4 v6 (M 18 (v6.toNatClampNeg)) M
  else none
set_option maxRecDepth 100000 in
theorem t_X10_countOf_74 (z : Value) (N : Nat) (k28 : Int32 → Int32 → Int32 → am_M → Option (Except Nat (Option Value) × am_M)) {r : Except Nat (Option Value)} {M' : am_M} (v3 : Int32) (v4 : Int32) (v6 : Int32) (d1 : Option Value) (d2 : Option Value) (d5 : Option Value) (d7 : Option Value) (M : am_M) (hk28 : ∀ (v4 : Int32) (v5 : Int32) (v6 : Int32) (d1 : Option Value) (d2 : Option Value) (d7 : Option Value) (M : am_M), k28 v4 v5 v6 M = some (r, M') → mR z me_X10_countOf (28, [some (.ref 0), d1, d2, some (.int v3), some (.int v4), some (.int v5), some (.int v6), d7], [], M) r M') (h : f_X10_countOf_74 N k28 v3 v4 v6 M = some (r, M')) : mR z me_X10_countOf (74, [some (.ref 0), d1, d2, some (.int v3), some (.int v4), d5, some (.int v6), d7], [], M) r M' := by
  unfold f_X10_countOf_74 at h
  obtain ⟨hC, h⟩ := am_gd h
  refine am_R.go 4 (q' := (81, [some (.ref 0), d1, d2, some (.int v3), some (.int v4), d5, some (.int v6), d7], [.int (M 18 (v6.toNatClampNeg))], M)) rfl ⟨hC, trivial⟩ ?_
  exact t_X10_countOf_81 z N k28 v3 v4 v6 (M 18 (v6.toNatClampNeg)) _ _ _ _ _ hk28 h
def f_X10_countOf_28B (N : Nat) (v3 : Int32) (k28 : Int32 → Int32 → Int32 → am_M → Option (Except Nat (Option Value) × am_M)) (v4 : Int32) (v5 : Int32) (v6 : Int32) (M : am_M) : Option (Except Nat (Option Value) × am_M) :=
  if (M 0 48) ≤ v6 then
    some (.ok (some (.int v4)), M)
  else
    if v6 ≤ 0 then
      f_X10_countOf_74 N k28 v3 v4 v6 M
    else
      if am_in v6 24 ∧ am_in (v6 - 1) 24 then
        if (M 17 (v6.toNatClampNeg)) = (M 17 ((v6 - 1).toNatClampNeg)) then
          if am_in v6 24 then
            f_X10_countOf_81 N k28 v3 v4 v6 (v5 + (M 18 (v6.toNatClampNeg))) M
          else none
        else
          f_X10_countOf_74 N k28 v3 v4 v6 M
      else none
def f_X10_countOf_28 (N : Nat) (v3 : Int32) : Nat → Int32 → Int32 → Int32 → am_M → Option (Except Nat (Option Value) × am_M)
  | 0 => fun _ _ _ _ => none
  | n + 1 => f_X10_countOf_28B N v3 (f_X10_countOf_28 N v3 n)
set_option maxRecDepth 100000 in
theorem t_X10_countOf_28B (z : Value) (N : Nat) (v3 : Int32) {r : Except Nat (Option Value)} {M' : am_M} (k28 : Int32 → Int32 → Int32 → am_M → Option (Except Nat (Option Value) × am_M)) (hk28 : ∀ (v4 : Int32) (v5 : Int32) (v6 : Int32) (d1 : Option Value) (d2 : Option Value) (d7 : Option Value) (M : am_M), k28 v4 v5 v6 M = some (r, M') → mR z me_X10_countOf (28, [some (.ref 0), d1, d2, some (.int v3), some (.int v4), some (.int v5), some (.int v6), d7], [], M) r M') (v4 : Int32) (v5 : Int32) (v6 : Int32) (d1 : Option Value) (d2 : Option Value) (d7 : Option Value) (M : am_M) (h : f_X10_countOf_28B N v3 k28 v4 v5 v6 M = some (r, M')) : mR z me_X10_countOf (28, [some (.ref 0), d1, d2, some (.int v3), some (.int v4), some (.int v5), some (.int v6), d7], [], M) r M' := by
  unfold f_X10_countOf_28B at h
  refine am_R.go 3 (q' := (34, [some (.ref 0), d1, d2, some (.int v3), some (.int v4), some (.int v5), some (.int v6), d7], [.int (M 0 48), .int v6], M)) rfl trivial ?_
  rcases am_it h with ⟨hc, h⟩ | ⟨hc, h⟩
  · refine am_R.bt rfl rfl hc ?_
    refine am_R.go 1 (q' := (155, [some (.ref 0), d1, d2, some (.int v3), some (.int v4), some (.int v5), some (.int v6), d7], [.int v4], M)) rfl trivial ?_
    cases h
    exact am_R.ret rfl rfl trivial
  · refine am_R.bn rfl rfl hc ?_
    refine am_R.go 1 (q' := (39, [some (.ref 0), d1, d2, some (.int v3), some (.int v4), some (.int v5), some (.int v6), d7], [.int v6], M)) rfl trivial ?_
    rcases am_it h with ⟨hc, h⟩ | ⟨hc, h⟩
    · refine am_R.ct rfl rfl hc ?_
      exact t_X10_countOf_74 z N k28 v3 v4 v6 _ _ _ _ _ hk28 h
    · refine am_R.cn rfl rfl hc ?_
      obtain ⟨hC, h⟩ := am_gd h
      refine am_R.go 10 (q' := (58, [some (.ref 0), d1, d2, some (.int v3), some (.int v4), some (.int v5), some (.int v6), d7], [.int (M 17 ((v6 - 1).toNatClampNeg)), .int (M 17 (v6.toNatClampNeg))], M)) rfl ⟨hC.1, hC.2, trivial⟩ ?_
      rcases am_it h with ⟨hc, h⟩ | ⟨hc, h⟩
      · refine am_R.bn rfl rfl (fun q => q hc) ?_
        obtain ⟨hC, h⟩ := am_gd h
        refine am_R.go 7 (q' := (81, [some (.ref 0), d1, d2, some (.int v3), some (.int v4), some (.int v5), some (.int v6), d7], [.int (v5 + (M 18 (v6.toNatClampNeg)))], M)) rfl ⟨hC, trivial⟩ ?_
        exact t_X10_countOf_81 z N k28 v3 v4 v6 (v5 + (M 18 (v6.toNatClampNeg))) _ _ _ _ _ hk28 h
      · refine am_R.bt rfl rfl hc ?_
        exact t_X10_countOf_74 z N k28 v3 v4 v6 _ _ _ _ _ hk28 h
set_option maxRecDepth 100000 in
theorem t_X10_countOf_28 (z : Value) (N : Nat) (v3 : Int32) {r : Except Nat (Option Value)} {M' : am_M} : ∀ (n : Nat) (v4 : Int32) (v5 : Int32) (v6 : Int32) (d1 : Option Value) (d2 : Option Value) (d7 : Option Value) (M : am_M), f_X10_countOf_28 N v3 n v4 v5 v6 M = some (r, M') → mR z me_X10_countOf (28, [some (.ref 0), d1, d2, some (.int v3), some (.int v4), some (.int v5), some (.int v6), d7], [], M) r M' := by
  intro n
  induction n with
  | zero => intro v4 v5 v6 d1 d2 d7 M h; cases h
  | succ n ih => intro v4 v5 v6 d1 d2 d7 M h; exact t_X10_countOf_28B z N v3 _ ih v4 v5 v6 d1 d2 d7 M h
def f_X10_countOf (N : Nat) (p1 : Int32) (p2 : Int32) (p3 : Int32) (M : am_M) : Option (Except Nat (Option Value) × am_M) :=
  am_bv (f_X10_shouts N p1 p2 (M 0 40) M) fun M7 =>
    if p3 = 0 then
      some (.ok (some (.int (M7 0 48))), M7)
    else
      f_X10_countOf_28 N p3 N 0 0 0 M7
set_option maxRecDepth 100000 in
theorem t_X10_countOf (z : Value) (N : Nat) (p1 : Int32) (p2 : Int32) (p3 : Int32) (M : am_M) {r : Except Nat (Option Value)} {M' : am_M} (h : f_X10_countOf N p1 p2 p3 M = some (r, M')) : mR z me_X10_countOf (0, [some (.ref 0), some (.int p1), some (.int p2), some (.int p3), none, none, none, none], [], M) r M' := by
  unfold f_X10_countOf at h
  refine am_R.go 5 (q' := (7, [some (.ref 0), some (.int p1), some (.int p2), some (.int p3), none, none, none, none], [.int (M 0 40), .int p2, .int p1, .ref 0], M)) rfl trivial ?_
  obtain ⟨M7, hz, h⟩ := am_bv_s h
  refine am_R.call (e' := me_X10_shouts) (as := [.ref 0, .int p1, .int p2, .int (M 0 40)]) (rest := []) rfl rfl (Nat.le_of_ble_eq_true rfl) (t_X10_shouts z N p1 p2 (M 0 40) _ hz) ?_
  refine am_R.go 1 (q' := (11, [some (.ref 0), some (.int p1), some (.int p2), some (.int p3), none, none, none, none], [.int p3], M7)) rfl trivial ?_
  rcases am_it h with ⟨hc, h⟩ | ⟨hc, h⟩
  · refine am_R.cn rfl rfl (fun q => q hc) ?_
    refine am_R.go 2 (q' := (18, [some (.ref 0), some (.int p1), some (.int p2), some (.int p3), none, none, none, none], [.int (M7 0 48)], M7)) rfl trivial ?_
    cases h
    exact am_R.ret rfl rfl trivial
  · refine am_R.ct rfl rfl hc ?_
    refine am_R.go 6 (q' := (28, [some (.ref 0), some (.int p1), some (.int p2), some (.int p3), some (.int 0), some (.int 0), some (.int 0), none], [], M7)) rfl trivial ?_
    exact t_X10_countOf_28 z N p3 N 0 0 0 _ _ _ _ h
def f_X10_count_39 (N : Nat) (v1 : Int32) (v2 : Int32) (v3 : Int32) (v4 : Int32) (s0 : Int32) (M : am_M) : Option (Except Nat (Option Value) × am_M) :=
  am_bi (f_X10_may N s0 2 2 M) fun r41 M41 =>
    if r41 = 0 then
      some (.ok (some (.int 0)), M41)
    else
      am_bi (f_X10_countOf N ((10 * v2) + v1) v3 v4 M41) fun r59 M59 =>
        some (.ok (some (.int r59)), M59)
set_option maxRecDepth 100000 in
theorem t_X10_count_39 (z : Value) (N : Nat) {r : Except Nat (Option Value)} {M' : am_M} (v1 : Int32) (v2 : Int32) (v3 : Int32) (v4 : Int32) (s0 : Int32) (M : am_M) (h : f_X10_count_39 N v1 v2 v3 v4 s0 M = some (r, M')) : mR z me_X10_count (39, [some (.ref 0), some (.int v1), some (.int v2), some (.int v3), some (.int v4)], [.int s0, .ref 0], M) r M' := by
  unfold f_X10_count_39 at h
  refine am_R.go 2 (q' := (41, [some (.ref 0), some (.int v1), some (.int v2), some (.int v3), some (.int v4)], [.int 2, .int 2, .int s0, .ref 0], M)) rfl trivial ?_
  obtain ⟨r41, M41, hz, h⟩ := am_bi_s h
  refine am_R.call (e' := me_X10_may) (as := [.ref 0, .int s0, .int 2, .int 2]) (rest := []) rfl rfl (Nat.le_of_ble_eq_true rfl) (t_X10_may z N s0 2 2 _ hz) ?_
  rcases am_it h with ⟨hc, h⟩ | ⟨hc, h⟩
  · refine am_R.cn rfl rfl (fun q => q hc) ?_
    refine am_R.go 1 (q' := (48, [some (.ref 0), some (.int v1), some (.int v2), some (.int v3), some (.int v4)], [.int 0], M41)) rfl trivial ?_
    cases h
    exact am_R.ret rfl rfl trivial
  · refine am_R.ct rfl rfl hc ?_
    refine am_R.go 8 (q' := (59, [some (.ref 0), some (.int v1), some (.int v2), some (.int v3), some (.int v4)], [.int v4, .int v3, .int ((10 * v2) + v1), .ref 0], M41)) rfl trivial ?_
    obtain ⟨r59, M59, hz, h⟩ := am_bi_s h
    refine am_R.call (e' := me_X10_countOf) (as := [.ref 0, .int ((10 * v2) + v1), .int v3, .int v4]) (rest := []) rfl rfl (Nat.le_of_ble_eq_true rfl) (t_X10_countOf z N ((10 * v2) + v1) v3 v4 _ hz) ?_
    cases h
    exact am_R.ret rfl rfl trivial
def f_X10_count_38 (N : Nat) (v1 : Int32) (v2 : Int32) (v3 : Int32) (v4 : Int32) (M : am_M) : Option (Except Nat (Option Value) × am_M) :=
  f_X10_count_39 N v1 v2 v3 v4 0 M
set_option maxRecDepth 100000 in
theorem t_X10_count_38 (z : Value) (N : Nat) {r : Except Nat (Option Value)} {M' : am_M} (v1 : Int32) (v2 : Int32) (v3 : Int32) (v4 : Int32) (M : am_M) (h : f_X10_count_38 N v1 v2 v3 v4 M = some (r, M')) : mR z me_X10_count (38, [some (.ref 0), some (.int v1), some (.int v2), some (.int v3), some (.int v4)], [.ref 0], M) r M' := by
  unfold f_X10_count_38 at h
  refine am_R.go 1 (q' := (39, [some (.ref 0), some (.int v1), some (.int v2), some (.int v3), some (.int v4)], [.int 0, .ref 0], M)) rfl trivial ?_
  exact t_X10_count_39 z N v1 v2 v3 v4 0 _ h
def f_X10_count (N : Nat) (p1 : Int32) (p2 : Int32) (p3 : Int32) (p4 : Int32) (M : am_M) : Option (Except Nat (Option Value) × am_M) :=
  am_bi (f_X10_isCell N p1 p2 1 (am_up M 0 0 0)) fun r9 M9 =>
    if r9 = 0 then
      some (.ok (some (.int 0)), M9)
    else
      am_bi (f_X10_isFog N p3 M9) fun r18 M18 =>
        if r18 = 0 then
          f_X10_count_38 N p1 p2 p3 p4 M18
        else
          am_bi (f_X10_within N p4 0 2 M18) fun r28 M28 =>
            if r28 = 0 then
              f_X10_count_38 N p1 p2 p3 p4 M28
            else
              f_X10_count_39 N p1 p2 p3 p4 1 M28
set_option maxRecDepth 100000 in
theorem t_X10_count (z : Value) (N : Nat) (p1 : Int32) (p2 : Int32) (p3 : Int32) (p4 : Int32) (M : am_M) {r : Except Nat (Option Value)} {M' : am_M} (h : f_X10_count N p1 p2 p3 p4 M = some (r, M')) : mR z me_X10_count (0, [some (.ref 0), some (.int p1), some (.int p2), some (.int p3), some (.int p4)], [], M) r M' := by
  unfold f_X10_count at h
  refine am_R.go 7 (q' := (9, [some (.ref 0), some (.int p1), some (.int p2), some (.int p3), some (.int p4)], [.int 1, .int p2, .int p1, .ref 0], am_up M 0 0 0)) rfl trivial ?_
  obtain ⟨r9, M9, hz, h⟩ := am_bi_s h
  refine am_R.call (e' := me_X10_isCell) (as := [.ref 0, .int p1, .int p2, .int 1]) (rest := []) rfl rfl (Nat.le_of_ble_eq_true rfl) (t_X10_isCell z N p1 p2 1 _ hz) ?_
  rcases am_it h with ⟨hc, h⟩ | ⟨hc, h⟩
  · refine am_R.ct rfl rfl hc ?_
    refine am_R.go 1 (q' := (48, [some (.ref 0), some (.int p1), some (.int p2), some (.int p3), some (.int p4)], [.int 0], M9)) rfl trivial ?_
    cases h
    exact am_R.ret rfl rfl trivial
  · refine am_R.cn rfl rfl hc ?_
    refine am_R.go 3 (q' := (18, [some (.ref 0), some (.int p1), some (.int p2), some (.int p3), some (.int p4)], [.int p3, .ref 0, .ref 0], M9)) rfl trivial ?_
    obtain ⟨r18, M18, hz, h⟩ := am_bi_s h
    refine am_R.call (e' := me_X10_isFog) (as := [.ref 0, .int p3]) (rest := [.ref 0]) rfl rfl (Nat.le_of_ble_eq_true rfl) (t_X10_isFog z N p3 _ hz) ?_
    rcases am_it h with ⟨hc, h⟩ | ⟨hc, h⟩
    · refine am_R.ct rfl rfl hc ?_
      exact t_X10_count_38 z N p1 p2 p3 p4 _ h
    · refine am_R.cn rfl rfl hc ?_
      refine am_R.go 3 (q' := (28, [some (.ref 0), some (.int p1), some (.int p2), some (.int p3), some (.int p4)], [.int 2, .int 0, .int p4, .ref 0], M18)) rfl trivial ?_
      obtain ⟨r28, M28, hz, h⟩ := am_bi_s h
      refine am_R.call (e' := me_X10_within) (as := [.int p4, .int 0, .int 2]) (rest := [.ref 0]) rfl rfl (Nat.le_of_ble_eq_true rfl) (t_X10_within z N p4 0 2 _ hz) ?_
      rcases am_it h with ⟨hc, h⟩ | ⟨hc, h⟩
      · refine am_R.ct rfl rfl hc ?_
        exact t_X10_count_38 z N p1 p2 p3 p4 _ h
      · refine am_R.cn rfl rfl hc ?_
        refine am_R.go 2 (q' := (39, [some (.ref 0), some (.int p1), some (.int p2), some (.int p3), some (.int p4)], [.int 1, .ref 0], M28)) rfl trivial ?_
        exact t_X10_count_39 z N p1 p2 p3 p4 1 _ h
def f_X10_isField (N : Nat) (p1 : Int32) (p2 : Int32) (M : am_M) : Option (Except Nat (Option Value) × am_M) :=
  am_bi (f_X10_within N p1 0 ((M 0 36) - 1) M) fun r9 M9 =>
    am_bi (f_X10_may N r9 p2 1 M9) fun r14 M14 =>
      if am_z r14 then some (.ok (some (.int r14)), M14) else none
set_option maxRecDepth 100000 in
theorem t_X10_isField (z : Value) (N : Nat) (p1 : Int32) (p2 : Int32) (M : am_M) {r : Except Nat (Option Value)} {M' : am_M} (h : f_X10_isField N p1 p2 M = some (r, M')) : mR z me_X10_isField (0, [some (.ref 0), some (.int p1), some (.int p2)], [], M) r M' := by
  unfold f_X10_isField at h
  refine am_R.go 7 (q' := (9, [some (.ref 0), some (.int p1), some (.int p2)], [.int ((M 0 36) - 1), .int 0, .int p1, .ref 0], M)) rfl trivial ?_
  obtain ⟨r9, M9, hz, h⟩ := am_bi_s h
  refine am_R.call (e' := me_X10_within) (as := [.int p1, .int 0, .int ((M 0 36) - 1)]) (rest := [.ref 0]) rfl rfl (Nat.le_of_ble_eq_true rfl) (t_X10_within z N p1 0 ((M 0 36) - 1) _ hz) ?_
  refine am_R.go 2 (q' := (14, [some (.ref 0), some (.int p1), some (.int p2)], [.int 1, .int p2, .int r9, .ref 0], M9)) rfl trivial ?_
  obtain ⟨r14, M14, hz, h⟩ := am_bi_s h
  refine am_R.call (e' := me_X10_may) (as := [.ref 0, .int r9, .int p2, .int 1]) (rest := []) rfl rfl (Nat.le_of_ble_eq_true rfl) (t_X10_may z N r9 p2 1 _ hz) ?_
  obtain ⟨hC, h⟩ := am_gd h
  cases h
  exact am_R.ret rfl rfl hC
def f_X10_field (N : Nat) (p1 : Int32) (p2 : Int32) (M : am_M) : Option (Except Nat (Option Value) × am_M) :=
  am_bi (f_X10_isField N p1 1 (am_up M 0 0 0)) fun r8 M8 =>
    if r8 = 0 then
      some (.ok (some (.int 0)), M8)
    else
      am_bi (f_X10_within N p2 0 4 M8) fun r18 M18 =>
        am_bi (f_X10_may N r18 2 2 M18) fun r23 M23 =>
          if r23 = 0 then
            some (.ok (some (.int 0)), M23)
          else
            if am_in ((5 * p1) + p2) 25 then
              some (.ok (some (.int (M23 13 (((5 * p1) + p2).toNatClampNeg)))), M23)
            else none
set_option maxRecDepth 100000 in
theorem t_X10_field (z : Value) (N : Nat) (p1 : Int32) (p2 : Int32) (M : am_M) {r : Except Nat (Option Value)} {M' : am_M} (h : f_X10_field N p1 p2 M = some (r, M')) : mR z me_X10_field (0, [some (.ref 0), some (.int p1), some (.int p2)], [], M) r M' := by
  unfold f_X10_field at h
  refine am_R.go 6 (q' := (8, [some (.ref 0), some (.int p1), some (.int p2)], [.int 1, .int p1, .ref 0], am_up M 0 0 0)) rfl trivial ?_
  obtain ⟨r8, M8, hz, h⟩ := am_bi_s h
  refine am_R.call (e' := me_X10_isField) (as := [.ref 0, .int p1, .int 1]) (rest := []) rfl rfl (Nat.le_of_ble_eq_true rfl) (t_X10_isField z N p1 1 _ hz) ?_
  rcases am_it h with ⟨hc, h⟩ | ⟨hc, h⟩
  · refine am_R.ct rfl rfl hc ?_
    refine am_R.go 1 (q' := (30, [some (.ref 0), some (.int p1), some (.int p2)], [.int 0], M8)) rfl trivial ?_
    cases h
    exact am_R.ret rfl rfl trivial
  · refine am_R.cn rfl rfl hc ?_
    refine am_R.go 4 (q' := (18, [some (.ref 0), some (.int p1), some (.int p2)], [.int 4, .int 0, .int p2, .ref 0], M8)) rfl trivial ?_
    obtain ⟨r18, M18, hz, h⟩ := am_bi_s h
    refine am_R.call (e' := me_X10_within) (as := [.int p2, .int 0, .int 4]) (rest := [.ref 0]) rfl rfl (Nat.le_of_ble_eq_true rfl) (t_X10_within z N p2 0 4 _ hz) ?_
    refine am_R.go 2 (q' := (23, [some (.ref 0), some (.int p1), some (.int p2)], [.int 2, .int 2, .int r18, .ref 0], M18)) rfl trivial ?_
    obtain ⟨r23, M23, hz, h⟩ := am_bi_s h
    refine am_R.call (e' := me_X10_may) (as := [.ref 0, .int r18, .int 2, .int 2]) (rest := []) rfl rfl (Nat.le_of_ble_eq_true rfl) (t_X10_may z N r18 2 2 _ hz) ?_
    rcases am_it h with ⟨hc, h⟩ | ⟨hc, h⟩
    · refine am_R.cn rfl rfl (fun q => q hc) ?_
      refine am_R.go 1 (q' := (30, [some (.ref 0), some (.int p1), some (.int p2)], [.int 0], M23)) rfl trivial ?_
      cases h
      exact am_R.ret rfl rfl trivial
    · refine am_R.ct rfl rfl hc ?_
      obtain ⟨hC, h⟩ := am_gd h
      refine am_R.go 8 (q' := (41, [some (.ref 0), some (.int p1), some (.int p2)], [.int (M23 13 (((5 * p1) + p2).toNatClampNeg))], M23)) rfl ⟨hC, trivial⟩ ?_
      cases h
      exact am_R.ret rfl rfl trivial
