def f_X10_readOther (N : Nat) (p1 : Int32) (M : am_M) : Option (Except Nat (Option Value) × am_M) :=
  am_bi (f_X10_of_1001 N M) fun r3 M3 =>
    if p1 = r3 then
      am_bi (f_X10_readCell N M3) fun r10 M10 =>
        am_bi (f_X10_readNumber N 1 9 M10) fun r18 M18 =>
          am_bi (f_X10_fine N M18) fun r23 M23 =>
            if r23 = 0 then
              some (.ok none, M23)
            else
              if am_in r10 100 then
                some (.ok none, am_up M23 3 (r10.toNatClampNeg) r18)
              else none
    else
      am_bi (f_X10_of_1002 N M3) fun r42 M42 =>
        if p1 = r42 then
          am_bi (f_X10_readCell N M42) fun r49 M49 =>
            am_bi (f_X10_readNumber N 1 9 M49) fun r57 M57 =>
              am_bi (f_X10_fine N M57) fun r62 M62 =>
                if r62 = 0 then
                  some (.ok none, M62)
                else
                  if am_in r49 100 then
                    some (.ok none, am_up M62 4 (r49.toNatClampNeg) r57)
                  else none
        else
          am_bi (f_X10_of_1003 N M42) fun r81 M81 =>
            if p1 = r81 then
              am_bi (f_X10_readCell N M81) fun r98 M98 =>
                if am_in (2 * (M81 0 26)) 16 then
                  am_bi (f_X10_readNumber N 1 99 (am_up M98 5 ((2 * (M81 0 26)).toNatClampNeg) r98)) fun r118 M118 =>
                    if am_in ((2 * (M98 0 26)) + 1) 16 then
                      some (.ok none, am_up (am_up M118 5 (((2 * (M98 0 26)) + 1).toNatClampNeg) r118) 0 26 ((M118 0 26) + 1))
                    else none
                else none
            else
              am_bi (f_X10_of_1004 N M81) fun r138 M138 =>
                if p1 = r138 then
                  am_bi (f_X10_readNumber N 0 ((M138 0 24) - 1) M138) fun r159 M159 =>
                    am_bi (f_X10_readNumber N 0 ((M159 0 25) - 1) M159) fun r171 M171 =>
                      if am_in (5 * (M138 0 27)) 25 ∧ am_in ((5 * (M138 0 27)) + 1) 25 then
                        am_bi (f_X10_readNumber N r159 ((M171 0 24) - 1) (am_up (am_up M171 6 ((5 * (M138 0 27)).toNatClampNeg) r159) 6 (((5 * (M138 0 27)) + 1).toNatClampNeg) r171)) fun r208 M208 =>
                          if am_in ((5 * (M138 0 27)) + 2) 25 then
                            am_bi (f_X10_readNumber N r171 ((M208 0 25) - 1) (am_up M208 6 (((5 * (M138 0 27)) + 2).toNatClampNeg) r208)) fun r228 M228 =>
                              if am_in ((5 * (M138 0 27)) + 3) 25 then
                                am_bi (f_X10_readNumber N 1 99 (am_up M228 6 (((5 * (M138 0 27)) + 3).toNatClampNeg) r228)) fun r243 M243 =>
                                  if am_in ((5 * (M138 0 27)) + 4) 25 then
                                    some (.ok none, am_up (am_up M243 6 (((5 * (M138 0 27)) + 4).toNatClampNeg) r243) 0 27 ((M243 0 27) + 1))
                                  else none
                              else none
                          else none
                      else none
                else
                  am_bi (f_X10_of_1005 N M138) fun r263 M263 =>
                    if p1 = r263 then
                      am_bi (f_X10_readCell N M263) fun r280 M280 =>
                        if am_in (2 * (M263 0 28)) 8 then
                          am_bi (f_X10_readNumber N 0 99 (am_up M280 7 ((2 * (M263 0 28)).toNatClampNeg) r280)) fun r300 M300 =>
                            if am_in ((2 * (M280 0 28)) + 1) 8 then
                              some (.ok none, am_up (am_up M300 7 (((2 * (M280 0 28)) + 1).toNatClampNeg) r300) 0 28 ((M300 0 28) + 1))
                            else none
                        else none
                    else
                      am_bi (f_X10_of_1006 N M263) fun r320 M320 =>
                        if p1 = r320 then
                          am_bi (f_X10_readNumber N 0 9 M320) fun r340 M340 =>
                            if am_in (2 * (M320 0 29)) 8 then
                              am_bi (f_X10_readNumber N 1 9 (am_up M340 8 ((2 * (M320 0 29)).toNatClampNeg) r340)) fun r360 M360 =>
                                if am_in ((2 * (M340 0 29)) + 1) 8 then
                                  some (.ok none, am_up (am_up M360 8 (((2 * (M340 0 29)) + 1).toNatClampNeg) r360) 0 29 ((M360 0 29) + 1))
                                else none
                            else none
                        else
                          am_bi (f_X10_of_1007 N M320) fun r380 M380 =>
                            if p1 = r380 then
                              am_bi (f_X10_readCell N M380) fun r395 M395 =>
                                if am_in (M380 0 30) 8 then
                                  some (.ok none, am_up (am_up M395 9 ((M380 0 30).toNatClampNeg) r395) 0 30 ((M395 0 30) + 1))
                                else none
                            else
                              am_bi (f_X10_of_1008 N M380) fun r415 M415 =>
                                if p1 = r415 then
                                  am_bi (f_X10_readNumber N 1 99 M415) fun r426 M426 =>
                                    some (.ok none, am_up M426 0 31 r426)
                                else
                                  am_bi (f_X10_readNumber N 0 2 M415) fun r439 M439 =>
                                    some (.ok none, am_up M439 0 32 r439)
set_option maxRecDepth 100000 in
theorem t_X10_readOther (z : Value) (N : Nat) (p1 : Int32) (M : am_M) {r : Except Nat (Option Value)} {M' : am_M} (h : f_X10_readOther N p1 M = some (r, M')) : mR z me_X10_readOther (0, [some (.ref 0), some (.int p1), none, none, none], [], M) r M' := by
  unfold f_X10_readOther at h
  refine am_R.go 2 (q' := (3, [some (.ref 0), some (.int p1), none, none, none], [.ref 1001, .int p1], M)) rfl trivial ?_
  obtain ⟨r3, M3, hz, h⟩ := am_bi_s h
  refine am_R.call (e' := me_X10_of) (as := [.ref 1001]) (rest := [.int p1]) rfl rfl (Nat.le_of_ble_eq_true rfl) (t_X10_of_1001 z N _ hz) ?_
  rcases am_it h with ⟨hc, h⟩ | ⟨hc, h⟩
  · refine am_R.bn rfl rfl (fun q => q hc) ?_
    refine am_R.go 1 (q' := (10, [some (.ref 0), some (.int p1), none, none, none], [.ref 0], M3)) rfl trivial ?_
    obtain ⟨r10, M10, hz, h⟩ := am_bi_s h
    refine am_R.call (e' := me_X10_readCell) (as := [.ref 0]) (rest := []) rfl rfl (Nat.le_of_ble_eq_true rfl) (t_X10_readCell z N _ hz) ?_
    refine am_R.go 4 (q' := (18, [some (.ref 0), some (.int p1), some (.int r10), none, none], [.int 9, .int 1, .ref 0], M10)) rfl trivial ?_
    obtain ⟨r18, M18, hz, h⟩ := am_bi_s h
    refine am_R.call (e' := me_X10_readNumber) (as := [.ref 0, .int 1, .int 9]) (rest := []) rfl rfl (Nat.le_of_ble_eq_true rfl) (t_X10_readNumber z N 1 9 _ hz) ?_
    refine am_R.go 2 (q' := (23, [some (.ref 0), some (.int p1), some (.int r10), some (.int r18), none], [.ref 0], M18)) rfl trivial ?_
    obtain ⟨r23, M23, hz, h⟩ := am_bi_s h
    refine am_R.call (e' := me_X10_fine) (as := [.ref 0]) (rest := []) rfl rfl (Nat.le_of_ble_eq_true rfl) (t_X10_fine z N _ hz) ?_
    rcases am_it h with ⟨hc, h⟩ | ⟨hc, h⟩
    · refine am_R.ct rfl rfl hc ?_
      refine am_R.go 1 (q' := (445, [some (.ref 0), some (.int p1), some (.int r10), some (.int r18), none], [], M23)) rfl trivial ?_
      cases h
      exact am_R.ret rfl rfl trivial
    · refine am_R.cn rfl rfl hc ?_
      obtain ⟨hC, h⟩ := am_gd h
      refine am_R.go 6 (q' := (445, [some (.ref 0), some (.int p1), some (.int r10), some (.int r18), none], [], am_up M23 3 (r10.toNatClampNeg) r18)) rfl ⟨hC, trivial⟩ ?_
      cases h
      exact am_R.ret rfl rfl trivial
  · refine am_R.bt rfl rfl hc ?_
    refine am_R.go 2 (q' := (42, [some (.ref 0), some (.int p1), none, none, none], [.ref 1002, .int p1], M3)) rfl trivial ?_
    obtain ⟨r42, M42, hz, h⟩ := am_bi_s h
    refine am_R.call (e' := me_X10_of) (as := [.ref 1002]) (rest := [.int p1]) rfl rfl (Nat.le_of_ble_eq_true rfl) (t_X10_of_1002 z N _ hz) ?_
    rcases am_it h with ⟨hc, h⟩ | ⟨hc, h⟩
    · refine am_R.bn rfl rfl (fun q => q hc) ?_
      refine am_R.go 1 (q' := (49, [some (.ref 0), some (.int p1), none, none, none], [.ref 0], M42)) rfl trivial ?_
      obtain ⟨r49, M49, hz, h⟩ := am_bi_s h
      refine am_R.call (e' := me_X10_readCell) (as := [.ref 0]) (rest := []) rfl rfl (Nat.le_of_ble_eq_true rfl) (t_X10_readCell z N _ hz) ?_
      refine am_R.go 4 (q' := (57, [some (.ref 0), some (.int p1), some (.int r49), none, none], [.int 9, .int 1, .ref 0], M49)) rfl trivial ?_
      obtain ⟨r57, M57, hz, h⟩ := am_bi_s h
      refine am_R.call (e' := me_X10_readNumber) (as := [.ref 0, .int 1, .int 9]) (rest := []) rfl rfl (Nat.le_of_ble_eq_true rfl) (t_X10_readNumber z N 1 9 _ hz) ?_
      refine am_R.go 2 (q' := (62, [some (.ref 0), some (.int p1), some (.int r49), some (.int r57), none], [.ref 0], M57)) rfl trivial ?_
      obtain ⟨r62, M62, hz, h⟩ := am_bi_s h
      refine am_R.call (e' := me_X10_fine) (as := [.ref 0]) (rest := []) rfl rfl (Nat.le_of_ble_eq_true rfl) (t_X10_fine z N _ hz) ?_
      rcases am_it h with ⟨hc, h⟩ | ⟨hc, h⟩
      · refine am_R.ct rfl rfl hc ?_
        refine am_R.go 1 (q' := (445, [some (.ref 0), some (.int p1), some (.int r49), some (.int r57), none], [], M62)) rfl trivial ?_
        cases h
        exact am_R.ret rfl rfl trivial
      · refine am_R.cn rfl rfl hc ?_
        obtain ⟨hC, h⟩ := am_gd h
        refine am_R.go 6 (q' := (445, [some (.ref 0), some (.int p1), some (.int r49), some (.int r57), none], [], am_up M62 4 (r49.toNatClampNeg) r57)) rfl ⟨hC, trivial⟩ ?_
        cases h
        exact am_R.ret rfl rfl trivial
    · refine am_R.bt rfl rfl hc ?_
      refine am_R.go 2 (q' := (81, [some (.ref 0), some (.int p1), none, none, none], [.ref 1003, .int p1], M42)) rfl trivial ?_
      obtain ⟨r81, M81, hz, h⟩ := am_bi_s h
      refine am_R.call (e' := me_X10_of) (as := [.ref 1003]) (rest := [.int p1]) rfl rfl (Nat.le_of_ble_eq_true rfl) (t_X10_of_1003 z N _ hz) ?_
      rcases am_it h with ⟨hc, h⟩ | ⟨hc, h⟩
      · refine am_R.bn rfl rfl (fun q => q hc) ?_
        refine am_R.go 7 (q' := (98, [some (.ref 0), some (.int p1), none, none, none], [.ref 0, .int (2 * (M81 0 26)), .ref 5], M81)) rfl trivial ?_
        obtain ⟨r98, M98, hz, h⟩ := am_bi_s h
        refine am_R.call (e' := me_X10_readCell) (as := [.ref 0]) (rest := [.int (2 * (M81 0 26)), .ref 5]) rfl rfl (Nat.le_of_ble_eq_true rfl) (t_X10_readCell z N _ hz) ?_
        obtain ⟨hC, h⟩ := am_gd h
        refine am_R.go 12 (q' := (118, [some (.ref 0), some (.int p1), none, none, none], [.int 99, .int 1, .ref 0, .int ((2 * (M98 0 26)) + 1), .ref 5], am_up M98 5 ((2 * (M81 0 26)).toNatClampNeg) r98)) rfl ⟨hC, trivial⟩ ?_
        obtain ⟨r118, M118, hz, h⟩ := am_bi_s h
        refine am_R.call (e' := me_X10_readNumber) (as := [.ref 0, .int 1, .int 99]) (rest := [.int ((2 * (M98 0 26)) + 1), .ref 5]) rfl rfl (Nat.le_of_ble_eq_true rfl) (t_X10_readNumber z N 1 99 _ hz) ?_
        obtain ⟨hC, h⟩ := am_gd h
        refine am_R.go 8 (q' := (445, [some (.ref 0), some (.int p1), none, none, none], [], am_up (am_up M118 5 (((2 * (M98 0 26)) + 1).toNatClampNeg) r118) 0 26 ((M118 0 26) + 1))) rfl ⟨hC, trivial⟩ ?_
        cases h
        exact am_R.ret rfl rfl trivial
      · refine am_R.bt rfl rfl hc ?_
        refine am_R.go 2 (q' := (138, [some (.ref 0), some (.int p1), none, none, none], [.ref 1004, .int p1], M81)) rfl trivial ?_
        obtain ⟨r138, M138, hz, h⟩ := am_bi_s h
        refine am_R.call (e' := me_X10_of) (as := [.ref 1004]) (rest := [.int p1]) rfl rfl (Nat.le_of_ble_eq_true rfl) (t_X10_of_1004 z N _ hz) ?_
        rcases am_it h with ⟨hc, h⟩ | ⟨hc, h⟩
        · refine am_R.bn rfl rfl (fun q => q hc) ?_
          refine am_R.go 11 (q' := (159, [some (.ref 0), some (.int p1), some (.int (5 * (M138 0 27))), none, none], [.int ((M138 0 24) - 1), .int 0, .ref 0], M138)) rfl trivial ?_
          obtain ⟨r159, M159, hz, h⟩ := am_bi_s h
          refine am_R.call (e' := me_X10_readNumber) (as := [.ref 0, .int 0, .int ((M138 0 24) - 1)]) (rest := []) rfl rfl (Nat.le_of_ble_eq_true rfl) (t_X10_readNumber z N 0 ((M138 0 24) - 1) _ hz) ?_
          refine am_R.go 7 (q' := (171, [some (.ref 0), some (.int p1), some (.int (5 * (M138 0 27))), some (.int r159), none], [.int ((M159 0 25) - 1), .int 0, .ref 0], M159)) rfl trivial ?_
          obtain ⟨r171, M171, hz, h⟩ := am_bi_s h
          refine am_R.call (e' := me_X10_readNumber) (as := [.ref 0, .int 0, .int ((M159 0 25) - 1)]) (rest := []) rfl rfl (Nat.le_of_ble_eq_true rfl) (t_X10_readNumber z N 0 ((M159 0 25) - 1) _ hz) ?_
          obtain ⟨hC, h⟩ := am_gd h
          refine am_R.go 24 (q' := (208, [some (.ref 0), some (.int p1), some (.int (5 * (M138 0 27))), some (.int r159), some (.int r171)], [.int ((M171 0 24) - 1), .int r159, .ref 0, .int ((5 * (M138 0 27)) + 2), .ref 6], am_up (am_up M171 6 ((5 * (M138 0 27)).toNatClampNeg) r159) 6 (((5 * (M138 0 27)) + 1).toNatClampNeg) r171)) rfl ⟨hC.1, hC.2, trivial⟩ ?_
          obtain ⟨r208, M208, hz, h⟩ := am_bi_s h
          refine am_R.call (e' := me_X10_readNumber) (as := [.ref 0, .int r159, .int ((M171 0 24) - 1)]) (rest := [.int ((5 * (M138 0 27)) + 2), .ref 6]) rfl rfl (Nat.le_of_ble_eq_true rfl) (t_X10_readNumber z N r159 ((M171 0 24) - 1) _ hz) ?_
          obtain ⟨hC, h⟩ := am_gd h
          refine am_R.go 12 (q' := (228, [some (.ref 0), some (.int p1), some (.int (5 * (M138 0 27))), some (.int r159), some (.int r171)], [.int ((M208 0 25) - 1), .int r171, .ref 0, .int ((5 * (M138 0 27)) + 3), .ref 6], am_up M208 6 (((5 * (M138 0 27)) + 2).toNatClampNeg) r208)) rfl ⟨hC, trivial⟩ ?_
          obtain ⟨r228, M228, hz, h⟩ := am_bi_s h
          refine am_R.call (e' := me_X10_readNumber) (as := [.ref 0, .int r171, .int ((M208 0 25) - 1)]) (rest := [.int ((5 * (M138 0 27)) + 3), .ref 6]) rfl rfl (Nat.le_of_ble_eq_true rfl) (t_X10_readNumber z N r171 ((M208 0 25) - 1) _ hz) ?_
          obtain ⟨hC, h⟩ := am_gd h
          refine am_R.go 9 (q' := (243, [some (.ref 0), some (.int p1), some (.int (5 * (M138 0 27))), some (.int r159), some (.int r171)], [.int 99, .int 1, .ref 0, .int ((5 * (M138 0 27)) + 4), .ref 6], am_up M228 6 (((5 * (M138 0 27)) + 3).toNatClampNeg) r228)) rfl ⟨hC, trivial⟩ ?_
          obtain ⟨r243, M243, hz, h⟩ := am_bi_s h
          refine am_R.call (e' := me_X10_readNumber) (as := [.ref 0, .int 1, .int 99]) (rest := [.int ((5 * (M138 0 27)) + 4), .ref 6]) rfl rfl (Nat.le_of_ble_eq_true rfl) (t_X10_readNumber z N 1 99 _ hz) ?_
          obtain ⟨hC, h⟩ := am_gd h
          refine am_R.go 8 (q' := (445, [some (.ref 0), some (.int p1), some (.int (5 * (M138 0 27))), some (.int r159), some (.int r171)], [], am_up (am_up M243 6 (((5 * (M138 0 27)) + 4).toNatClampNeg) r243) 0 27 ((M243 0 27) + 1))) rfl ⟨hC, trivial⟩ ?_
          cases h
          exact am_R.ret rfl rfl trivial
        · refine am_R.bt rfl rfl hc ?_
          refine am_R.go 2 (q' := (263, [some (.ref 0), some (.int p1), none, none, none], [.ref 1005, .int p1], M138)) rfl trivial ?_
          obtain ⟨r263, M263, hz, h⟩ := am_bi_s h
          refine am_R.call (e' := me_X10_of) (as := [.ref 1005]) (rest := [.int p1]) rfl rfl (Nat.le_of_ble_eq_true rfl) (t_X10_of_1005 z N _ hz) ?_
          rcases am_it h with ⟨hc, h⟩ | ⟨hc, h⟩
          · refine am_R.bn rfl rfl (fun q => q hc) ?_
            refine am_R.go 7 (q' := (280, [some (.ref 0), some (.int p1), none, none, none], [.ref 0, .int (2 * (M263 0 28)), .ref 7], M263)) rfl trivial ?_
            obtain ⟨r280, M280, hz, h⟩ := am_bi_s h
            refine am_R.call (e' := me_X10_readCell) (as := [.ref 0]) (rest := [.int (2 * (M263 0 28)), .ref 7]) rfl rfl (Nat.le_of_ble_eq_true rfl) (t_X10_readCell z N _ hz) ?_
            obtain ⟨hC, h⟩ := am_gd h
            refine am_R.go 12 (q' := (300, [some (.ref 0), some (.int p1), none, none, none], [.int 99, .int 0, .ref 0, .int ((2 * (M280 0 28)) + 1), .ref 7], am_up M280 7 ((2 * (M263 0 28)).toNatClampNeg) r280)) rfl ⟨hC, trivial⟩ ?_
            obtain ⟨r300, M300, hz, h⟩ := am_bi_s h
            refine am_R.call (e' := me_X10_readNumber) (as := [.ref 0, .int 0, .int 99]) (rest := [.int ((2 * (M280 0 28)) + 1), .ref 7]) rfl rfl (Nat.le_of_ble_eq_true rfl) (t_X10_readNumber z N 0 99 _ hz) ?_
            obtain ⟨hC, h⟩ := am_gd h
            refine am_R.go 8 (q' := (445, [some (.ref 0), some (.int p1), none, none, none], [], am_up (am_up M300 7 (((2 * (M280 0 28)) + 1).toNatClampNeg) r300) 0 28 ((M300 0 28) + 1))) rfl ⟨hC, trivial⟩ ?_
            cases h
            exact am_R.ret rfl rfl trivial
          · refine am_R.bt rfl rfl hc ?_
            refine am_R.go 2 (q' := (320, [some (.ref 0), some (.int p1), none, none, none], [.ref 1006, .int p1], M263)) rfl trivial ?_
            obtain ⟨r320, M320, hz, h⟩ := am_bi_s h
            refine am_R.call (e' := me_X10_of) (as := [.ref 1006]) (rest := [.int p1]) rfl rfl (Nat.le_of_ble_eq_true rfl) (t_X10_of_1006 z N _ hz) ?_
            rcases am_it h with ⟨hc, h⟩ | ⟨hc, h⟩
            · refine am_R.bn rfl rfl (fun q => q hc) ?_
              refine am_R.go 9 (q' := (340, [some (.ref 0), some (.int p1), none, none, none], [.int 9, .int 0, .ref 0, .int (2 * (M320 0 29)), .ref 8], M320)) rfl trivial ?_
              obtain ⟨r340, M340, hz, h⟩ := am_bi_s h
              refine am_R.call (e' := me_X10_readNumber) (as := [.ref 0, .int 0, .int 9]) (rest := [.int (2 * (M320 0 29)), .ref 8]) rfl rfl (Nat.le_of_ble_eq_true rfl) (t_X10_readNumber z N 0 9 _ hz) ?_
              obtain ⟨hC, h⟩ := am_gd h
              refine am_R.go 12 (q' := (360, [some (.ref 0), some (.int p1), none, none, none], [.int 9, .int 1, .ref 0, .int ((2 * (M340 0 29)) + 1), .ref 8], am_up M340 8 ((2 * (M320 0 29)).toNatClampNeg) r340)) rfl ⟨hC, trivial⟩ ?_
              obtain ⟨r360, M360, hz, h⟩ := am_bi_s h
              refine am_R.call (e' := me_X10_readNumber) (as := [.ref 0, .int 1, .int 9]) (rest := [.int ((2 * (M340 0 29)) + 1), .ref 8]) rfl rfl (Nat.le_of_ble_eq_true rfl) (t_X10_readNumber z N 1 9 _ hz) ?_
              obtain ⟨hC, h⟩ := am_gd h
              refine am_R.go 8 (q' := (445, [some (.ref 0), some (.int p1), none, none, none], [], am_up (am_up M360 8 (((2 * (M340 0 29)) + 1).toNatClampNeg) r360) 0 29 ((M360 0 29) + 1))) rfl ⟨hC, trivial⟩ ?_
              cases h
              exact am_R.ret rfl rfl trivial
            · refine am_R.bt rfl rfl hc ?_
              refine am_R.go 2 (q' := (380, [some (.ref 0), some (.int p1), none, none, none], [.ref 1007, .int p1], M320)) rfl trivial ?_
              obtain ⟨r380, M380, hz, h⟩ := am_bi_s h
              refine am_R.call (e' := me_X10_of) (as := [.ref 1007]) (rest := [.int p1]) rfl rfl (Nat.le_of_ble_eq_true rfl) (t_X10_of_1007 z N _ hz) ?_
              rcases am_it h with ⟨hc, h⟩ | ⟨hc, h⟩
              · refine am_R.bn rfl rfl (fun q => q hc) ?_
                refine am_R.go 5 (q' := (395, [some (.ref 0), some (.int p1), none, none, none], [.ref 0, .int (M380 0 30), .ref 9], M380)) rfl trivial ?_
                obtain ⟨r395, M395, hz, h⟩ := am_bi_s h
                refine am_R.call (e' := me_X10_readCell) (as := [.ref 0]) (rest := [.int (M380 0 30), .ref 9]) rfl rfl (Nat.le_of_ble_eq_true rfl) (t_X10_readCell z N _ hz) ?_
                obtain ⟨hC, h⟩ := am_gd h
                refine am_R.go 8 (q' := (445, [some (.ref 0), some (.int p1), none, none, none], [], am_up (am_up M395 9 ((M380 0 30).toNatClampNeg) r395) 0 30 ((M395 0 30) + 1))) rfl ⟨hC, trivial⟩ ?_
                cases h
                exact am_R.ret rfl rfl trivial
              · refine am_R.bt rfl rfl hc ?_
                refine am_R.go 2 (q' := (415, [some (.ref 0), some (.int p1), none, none, none], [.ref 1008, .int p1], M380)) rfl trivial ?_
                obtain ⟨r415, M415, hz, h⟩ := am_bi_s h
                refine am_R.call (e' := me_X10_of) (as := [.ref 1008]) (rest := [.int p1]) rfl rfl (Nat.le_of_ble_eq_true rfl) (t_X10_of_1008 z N _ hz) ?_
                rcases am_it h with ⟨hc, h⟩ | ⟨hc, h⟩
                · refine am_R.bn rfl rfl (fun q => q hc) ?_
                  refine am_R.go 4 (q' := (426, [some (.ref 0), some (.int p1), none, none, none], [.int 99, .int 1, .ref 0, .ref 0], M415)) rfl trivial ?_
                  obtain ⟨r426, M426, hz, h⟩ := am_bi_s h
                  refine am_R.call (e' := me_X10_readNumber) (as := [.ref 0, .int 1, .int 99]) (rest := [.ref 0]) rfl rfl (Nat.le_of_ble_eq_true rfl) (t_X10_readNumber z N 1 99 _ hz) ?_
                  refine am_R.go 2 (q' := (445, [some (.ref 0), some (.int p1), none, none, none], [], am_up M426 0 31 r426)) rfl trivial ?_
                  cases h
                  exact am_R.ret rfl rfl trivial
                · refine am_R.bt rfl rfl hc ?_
                  refine am_R.go 4 (q' := (439, [some (.ref 0), some (.int p1), none, none, none], [.int 2, .int 0, .ref 0, .ref 0], M415)) rfl trivial ?_
                  obtain ⟨r439, M439, hz, h⟩ := am_bi_s h
                  refine am_R.call (e' := me_X10_readNumber) (as := [.ref 0, .int 0, .int 2]) (rest := [.ref 0]) rfl rfl (Nat.le_of_ble_eq_true rfl) (t_X10_readNumber z N 0 2 _ hz) ?_
                  refine am_R.go 1 (q' := (445, [some (.ref 0), some (.int p1), none, none, none], [], am_up M439 0 32 r439)) rfl trivial ?_
                  cases h
                  exact am_R.ret rfl rfl trivial
def f_X10_sign_24 (N : Nat) (M : am_M) : Option (Except Nat (Option Value) × am_M) :=
  am_bi (f_X10_fine N M) fun r25 M25 =>
    if r25 = 0 then
      some (.ok none, M25)
    else
      some (.ok none, am_up M25 0 4 ((M25 0 4) + 1))
set_option maxRecDepth 100000 in
theorem t_X10_sign_24 (z : Value) (N : Nat) {r : Except Nat (Option Value)} {M' : am_M} (d1 : Option Value) (M : am_M) (h : f_X10_sign_24 N M = some (r, M')) : mR z me_X10_sign (24, [some (.ref 0), d1], [], M) r M' := by
  unfold f_X10_sign_24 at h
  refine am_R.go 1 (q' := (25, [some (.ref 0), d1], [.ref 0], M)) rfl trivial ?_
  obtain ⟨r25, M25, hz, h⟩ := am_bi_s h
  refine am_R.call (e' := me_X10_fine) (as := [.ref 0]) (rest := []) rfl rfl (Nat.le_of_ble_eq_true rfl) (t_X10_fine z N _ hz) ?_
  rcases am_it h with ⟨hc, h⟩ | ⟨hc, h⟩
  · refine am_R.ct rfl rfl hc ?_
    cases h
    exact am_R.ret rfl rfl trivial
  · refine am_R.cn rfl rfl hc ?_
    refine am_R.go 6 (q' := (41, [some (.ref 0), d1], [], am_up M25 0 4 ((M25 0 4) + 1))) rfl trivial ?_
    cases h
    exact am_R.ret rfl rfl trivial
def f_X10_sign (N : Nat) (p1 : Int32) (M : am_M) : Option (Except Nat (Option Value) × am_M) :=
  am_bi (f_X10_fine N M) fun r1 M1 =>
    if r1 = 0 then
      f_X10_sign_24 N M1
    else
      am_bi (f_X10_here N M1) fun r8 M8 =>
        if r8 = p1 then
          f_X10_sign_24 N M8
        else
          am_bv (f_X10_wrong N 1 (M8 0 4) M8) fun M21 =>
            f_X10_sign_24 N M21
set_option maxRecDepth 100000 in
theorem t_X10_sign (z : Value) (N : Nat) (p1 : Int32) (M : am_M) {r : Except Nat (Option Value)} {M' : am_M} (h : f_X10_sign N p1 M = some (r, M')) : mR z me_X10_sign (0, [some (.ref 0), some (.int p1)], [], M) r M' := by
  unfold f_X10_sign at h
  refine am_R.go 1 (q' := (1, [some (.ref 0), some (.int p1)], [.ref 0], M)) rfl trivial ?_
  obtain ⟨r1, M1, hz, h⟩ := am_bi_s h
  refine am_R.call (e' := me_X10_fine) (as := [.ref 0]) (rest := []) rfl rfl (Nat.le_of_ble_eq_true rfl) (t_X10_fine z N _ hz) ?_
  rcases am_it h with ⟨hc, h⟩ | ⟨hc, h⟩
  · refine am_R.ct rfl rfl hc ?_
    exact t_X10_sign_24 z N _ _ h
  · refine am_R.cn rfl rfl hc ?_
    refine am_R.go 1 (q' := (8, [some (.ref 0), some (.int p1)], [.ref 0], M1)) rfl trivial ?_
    obtain ⟨r8, M8, hz, h⟩ := am_bi_s h
    refine am_R.call (e' := me_X10_here) (as := [.ref 0]) (rest := []) rfl rfl (Nat.le_of_ble_eq_true rfl) (t_X10_here z N _ hz) ?_
    refine am_R.go 1 (q' := (12, [some (.ref 0), some (.int p1)], [.int p1, .int r8], M8)) rfl trivial ?_
    rcases am_it h with ⟨hc, h⟩ | ⟨hc, h⟩
    · refine am_R.bt rfl rfl hc ?_
      exact t_X10_sign_24 z N _ _ h
    · refine am_R.bn rfl rfl hc ?_
      refine am_R.go 4 (q' := (21, [some (.ref 0), some (.int p1)], [.int (M8 0 4), .int 1, .ref 0], M8)) rfl trivial ?_
      obtain ⟨M21, hz, h⟩ := am_bv_s h
      refine am_R.call (e' := me_X10_wrong) (as := [.ref 0, .int 1, .int (M8 0 4)]) (rest := []) rfl rfl (Nat.le_of_ble_eq_true rfl) (t_X10_wrong z N 1 (M8 0 4) _ hz) ?_
      exact t_X10_sign_24 z N _ _ h
def f_X10_isFull_69 (N : Nat) (v1 : Int32) (M : am_M) : Option (Except Nat (Option Value) × am_M) :=
  am_bi (f_X10_of_1007 N M) fun r72 M72 =>
    if v1 = r72 then
      if (M72 0 30) = 8 then
        some (.ok (some (.int 1)), M72)
      else
        some (.ok (some (.int 0)), M72)
    else
      some (.ok (some (.int 0)), M72)
set_option maxRecDepth 100000 in
theorem t_X10_isFull_69 (z : Value) (N : Nat) {r : Except Nat (Option Value)} {M' : am_M} (v1 : Int32) (M : am_M) (h : f_X10_isFull_69 N v1 M = some (r, M')) : mR z me_X10_isFull (69, [some (.ref 0), some (.int v1)], [], M) r M' := by
  unfold f_X10_isFull_69 at h
  refine am_R.go 2 (q' := (72, [some (.ref 0), some (.int v1)], [.ref 1007, .int v1], M)) rfl trivial ?_
  obtain ⟨r72, M72, hz, h⟩ := am_bi_s h
  refine am_R.call (e' := me_X10_of) (as := [.ref 1007]) (rest := [.int v1]) rfl rfl (Nat.le_of_ble_eq_true rfl) (t_X10_of_1007 z N _ hz) ?_
  rcases am_it h with ⟨hc, h⟩ | ⟨hc, h⟩
  · refine am_R.bn rfl rfl (fun q => q hc) ?_
    refine am_R.go 3 (q' := (84, [some (.ref 0), some (.int v1)], [.int 8, .int (M72 0 30)], M72)) rfl trivial ?_
    rcases am_it h with ⟨hc, h⟩ | ⟨hc, h⟩
    · refine am_R.bn rfl rfl (fun q => q hc) ?_
      refine am_R.go 2 (q' := (92, [some (.ref 0), some (.int v1)], [.int 1], M72)) rfl trivial ?_
      cases h
      exact am_R.ret rfl rfl (Or.inr rfl)
    · refine am_R.bt rfl rfl hc ?_
      refine am_R.go 1 (q' := (92, [some (.ref 0), some (.int v1)], [.int 0], M72)) rfl trivial ?_
      cases h
      exact am_R.ret rfl rfl (Or.inl rfl)
  · refine am_R.bt rfl rfl hc ?_
    refine am_R.go 1 (q' := (92, [some (.ref 0), some (.int v1)], [.int 0], M72)) rfl trivial ?_
    cases h
    exact am_R.ret rfl rfl (Or.inl rfl)
def f_X10_isFull_52 (N : Nat) (v1 : Int32) (M : am_M) : Option (Except Nat (Option Value) × am_M) :=
  am_bi (f_X10_of_1006 N M) fun r55 M55 =>
    if v1 = r55 then
      if (M55 0 29) = 4 then
        some (.ok (some (.int 1)), M55)
      else
        f_X10_isFull_69 N v1 M55
    else
      f_X10_isFull_69 N v1 M55
set_option maxRecDepth 100000 in
theorem t_X10_isFull_52 (z : Value) (N : Nat) {r : Except Nat (Option Value)} {M' : am_M} (v1 : Int32) (M : am_M) (h : f_X10_isFull_52 N v1 M = some (r, M')) : mR z me_X10_isFull (52, [some (.ref 0), some (.int v1)], [], M) r M' := by
  unfold f_X10_isFull_52 at h
  refine am_R.go 2 (q' := (55, [some (.ref 0), some (.int v1)], [.ref 1006, .int v1], M)) rfl trivial ?_
  obtain ⟨r55, M55, hz, h⟩ := am_bi_s h
  refine am_R.call (e' := me_X10_of) (as := [.ref 1006]) (rest := [.int v1]) rfl rfl (Nat.le_of_ble_eq_true rfl) (t_X10_of_1006 z N _ hz) ?_
  rcases am_it h with ⟨hc, h⟩ | ⟨hc, h⟩
  · refine am_R.bn rfl rfl (fun q => q hc) ?_
    refine am_R.go 3 (q' := (66, [some (.ref 0), some (.int v1)], [.int 4, .int (M55 0 29)], M55)) rfl trivial ?_
    rcases am_it h with ⟨hc, h⟩ | ⟨hc, h⟩
    · refine am_R.bt rfl rfl hc ?_
      refine am_R.go 2 (q' := (92, [some (.ref 0), some (.int v1)], [.int 1], M55)) rfl trivial ?_
      cases h
      exact am_R.ret rfl rfl (Or.inr rfl)
    · refine am_R.bn rfl rfl hc ?_
      exact t_X10_isFull_69 z N v1 _ h
  · refine am_R.bt rfl rfl hc ?_
    exact t_X10_isFull_69 z N v1 _ h
def f_X10_isFull_35 (N : Nat) (v1 : Int32) (M : am_M) : Option (Except Nat (Option Value) × am_M) :=
  am_bi (f_X10_of_1005 N M) fun r38 M38 =>
    if v1 = r38 then
      if (M38 0 28) = 4 then
        some (.ok (some (.int 1)), M38)
      else
        f_X10_isFull_52 N v1 M38
    else
      f_X10_isFull_52 N v1 M38
set_option maxRecDepth 100000 in
theorem t_X10_isFull_35 (z : Value) (N : Nat) {r : Except Nat (Option Value)} {M' : am_M} (v1 : Int32) (M : am_M) (h : f_X10_isFull_35 N v1 M = some (r, M')) : mR z me_X10_isFull (35, [some (.ref 0), some (.int v1)], [], M) r M' := by
  unfold f_X10_isFull_35 at h
  refine am_R.go 2 (q' := (38, [some (.ref 0), some (.int v1)], [.ref 1005, .int v1], M)) rfl trivial ?_
  obtain ⟨r38, M38, hz, h⟩ := am_bi_s h
  refine am_R.call (e' := me_X10_of) (as := [.ref 1005]) (rest := [.int v1]) rfl rfl (Nat.le_of_ble_eq_true rfl) (t_X10_of_1005 z N _ hz) ?_
  rcases am_it h with ⟨hc, h⟩ | ⟨hc, h⟩
  · refine am_R.bn rfl rfl (fun q => q hc) ?_
    refine am_R.go 3 (q' := (49, [some (.ref 0), some (.int v1)], [.int 4, .int (M38 0 28)], M38)) rfl trivial ?_
    rcases am_it h with ⟨hc, h⟩ | ⟨hc, h⟩
    · refine am_R.bt rfl rfl hc ?_
      refine am_R.go 2 (q' := (92, [some (.ref 0), some (.int v1)], [.int 1], M38)) rfl trivial ?_
      cases h
      exact am_R.ret rfl rfl (Or.inr rfl)
    · refine am_R.bn rfl rfl hc ?_
      exact t_X10_isFull_52 z N v1 _ h
  · refine am_R.bt rfl rfl hc ?_
    exact t_X10_isFull_52 z N v1 _ h
def f_X10_isFull_18 (N : Nat) (v1 : Int32) (M : am_M) : Option (Except Nat (Option Value) × am_M) :=
  am_bi (f_X10_of_1004 N M) fun r21 M21 =>
    if v1 = r21 then
      if (M21 0 27) = 5 then
        some (.ok (some (.int 1)), M21)
      else
        f_X10_isFull_35 N v1 M21
    else
      f_X10_isFull_35 N v1 M21
set_option maxRecDepth 100000 in
theorem t_X10_isFull_18 (z : Value) (N : Nat) {r : Except Nat (Option Value)} {M' : am_M} (v1 : Int32) (M : am_M) (h : f_X10_isFull_18 N v1 M = some (r, M')) : mR z me_X10_isFull (18, [some (.ref 0), some (.int v1)], [], M) r M' := by
  unfold f_X10_isFull_18 at h
  refine am_R.go 2 (q' := (21, [some (.ref 0), some (.int v1)], [.ref 1004, .int v1], M)) rfl trivial ?_
  obtain ⟨r21, M21, hz, h⟩ := am_bi_s h
  refine am_R.call (e' := me_X10_of) (as := [.ref 1004]) (rest := [.int v1]) rfl rfl (Nat.le_of_ble_eq_true rfl) (t_X10_of_1004 z N _ hz) ?_
  rcases am_it h with ⟨hc, h⟩ | ⟨hc, h⟩
  · refine am_R.bn rfl rfl (fun q => q hc) ?_
    refine am_R.go 3 (q' := (32, [some (.ref 0), some (.int v1)], [.int 5, .int (M21 0 27)], M21)) rfl trivial ?_
    rcases am_it h with ⟨hc, h⟩ | ⟨hc, h⟩
    · refine am_R.bt rfl rfl hc ?_
      refine am_R.go 2 (q' := (92, [some (.ref 0), some (.int v1)], [.int 1], M21)) rfl trivial ?_
      cases h
      exact am_R.ret rfl rfl (Or.inr rfl)
    · refine am_R.bn rfl rfl hc ?_
      exact t_X10_isFull_35 z N v1 _ h
  · refine am_R.bt rfl rfl hc ?_
    exact t_X10_isFull_35 z N v1 _ h
def f_X10_isFull (N : Nat) (p1 : Int32) (M : am_M) : Option (Except Nat (Option Value) × am_M) :=
  am_bi (f_X10_of_1003 N M) fun r3 M3 =>
    if p1 = r3 then
      if (M3 0 26) = 8 then
        some (.ok (some (.int 1)), M3)
      else
        f_X10_isFull_18 N p1 M3
    else
      f_X10_isFull_18 N p1 M3
set_option maxRecDepth 100000 in
theorem t_X10_isFull (z : Value) (N : Nat) (p1 : Int32) (M : am_M) {r : Except Nat (Option Value)} {M' : am_M} (h : f_X10_isFull N p1 M = some (r, M')) : mR z me_X10_isFull (0, [some (.ref 0), some (.int p1)], [], M) r M' := by
  unfold f_X10_isFull at h
  refine am_R.go 2 (q' := (3, [some (.ref 0), some (.int p1)], [.ref 1003, .int p1], M)) rfl trivial ?_
  obtain ⟨r3, M3, hz, h⟩ := am_bi_s h
  refine am_R.call (e' := me_X10_of) (as := [.ref 1003]) (rest := [.int p1]) rfl rfl (Nat.le_of_ble_eq_true rfl) (t_X10_of_1003 z N _ hz) ?_
  rcases am_it h with ⟨hc, h⟩ | ⟨hc, h⟩
  · refine am_R.bn rfl rfl (fun q => q hc) ?_
    refine am_R.go 3 (q' := (15, [some (.ref 0), some (.int p1)], [.int 8, .int (M3 0 26)], M3)) rfl trivial ?_
    rcases am_it h with ⟨hc, h⟩ | ⟨hc, h⟩
    · refine am_R.bt rfl rfl hc ?_
      refine am_R.go 2 (q' := (92, [some (.ref 0), some (.int p1)], [.int 1], M3)) rfl trivial ?_
      cases h
      exact am_R.ret rfl rfl (Or.inr rfl)
    · refine am_R.bn rfl rfl hc ?_
      exact t_X10_isFull_18 z N p1 _ h
  · refine am_R.bt rfl rfl hc ?_
    exact t_X10_isFull_18 z N p1 _ h
def f_mJ0_coder_1000 (N : Nat) (M : am_M) : Option (Except Nat (Option Value) × am_M) :=
  if (0 : Int32).toInt8.toInt32 = 0 then some (.ok (some (.int 0)), M) else none
set_option maxRecDepth 100000 in
theorem t_mJ0_coder_1000 (z : Value) (N : Nat) (M : am_M) {r : Except Nat (Option Value)} {M' : am_M} (h : f_mJ0_coder_1000 N M = some (r, M')) : mR z me_J0_coder_7d493 (0, [some (.ref 1000)], [], M) r M' := by
  unfold f_mJ0_coder_1000 at h
  refine am_R.go 1 (q' := (3, [some (.ref 1000)], [.int 1], M)) rfl trivial ?_
  refine am_R.cn rfl rfl (by unfold am_c; decide) ?_
  refine am_R.go 3 (q' := (14, [some (.ref 1000)], [.int 0], M)) rfl ⟨(by decide), trivial⟩ ?_
  obtain ⟨hC, h⟩ := am_gd h
  cases h
  exact am_R.ret rfl rfl hC
def f_mJ0_length_1000 (N : Nat) (M : am_M) : Option (Except Nat (Option Value) × am_M) :=
  am_bi (f_mJ0_coder_1000 N M) fun r6 M6 =>
    some (.ok (some (.int (6 >>> (r6 &&& 31)))), M6)
set_option maxRecDepth 100000 in
theorem t_mJ0_length_1000 (z : Value) (N : Nat) (M : am_M) {r : Except Nat (Option Value)} {M' : am_M} (h : f_mJ0_length_1000 N M = some (r, M')) : mR z me_J0_length_8abf5 (0, [some (.ref 1000)], [], M) r M' := by
  unfold f_mJ0_length_1000 at h
  refine am_R.go 4 (q' := (6, [some (.ref 1000)], [.ref 1000, .int 6], M)) rfl ⟨(by decide), trivial⟩ ?_
  obtain ⟨r6, M6, hz, h⟩ := am_bi_s h
  refine am_R.call (e' := me_J0_coder_7d493) (as := [.ref 1000]) (rest := [.int 6]) rfl rfl (Nat.le_of_ble_eq_true rfl) (t_mJ0_coder_1000 z N _ hz) ?_
  refine am_R.go 1 (q' := (10, [some (.ref 1000)], [.int (6 >>> (r6 &&& 31))], M6)) rfl trivial ?_
  cases h
  exact am_R.ret rfl rfl trivial
def f_mJ0_isLatin1_1000 (N : Nat) (M : am_M) : Option (Except Nat (Option Value) × am_M) :=
  some (.ok (some (.int 1)), M)
set_option maxRecDepth 100000 in
theorem t_mJ0_isLatin1_1000 (z : Value) (N : Nat) (M : am_M) {r : Except Nat (Option Value)} {M' : am_M} (h : f_mJ0_isLatin1_1000 N M = some (r, M')) : mR z me_J0_isLatin1_aae02 (0, [some (.ref 1000)], [], M) r M' := by
  unfold f_mJ0_isLatin1_1000 at h
  refine am_R.go 1 (q' := (3, [some (.ref 1000)], [.int 1], M)) rfl trivial ?_
  refine am_R.cn rfl rfl (by unfold am_c; decide) ?_
  refine am_R.go 2 (q' := (10, [some (.ref 1000)], [.int 0], M)) rfl ⟨(by decide), trivial⟩ ?_
  refine am_R.cn rfl rfl (by unfold am_c; decide) ?_
  refine am_R.go 2 (q' := (18, [some (.ref 1000)], [.int 1], M)) rfl trivial ?_
  cases h
  exact am_R.ret rfl rfl (Or.inr rfl)
def f_mJ1_charAt_2000 (N : Nat) (p1 : Int32) (M : am_M) : Option (Except Nat (Option Value) × am_M) :=
  am_bv (f_mJ0_checkIndex N p1 6 M) fun M3 =>
    if am_in p1 6 then
      if ((((((am_byt.getD 0 []).getD p1.toNatClampNeg 0) &&& 255).toUInt32 % 65536).toInt32).toUInt32 % 65536).toInt32 = ((((am_byt.getD 0 []).getD p1.toNatClampNeg 0) &&& 255).toUInt32 % 65536).toInt32 then some (.ok (some (.int (((((am_byt.getD 0 []).getD p1.toNatClampNeg 0) &&& 255).toUInt32 % 65536).toInt32))), M3) else none
    else none
set_option maxRecDepth 100000 in
theorem t_mJ1_charAt_2000 (z : Value) (N : Nat) (p1 : Int32) (M : am_M) {r : Except Nat (Option Value)} {M' : am_M} (h : f_mJ1_charAt_2000 N p1 M = some (r, M')) : mR z me_J1_charAt_3b067 (0, [some (.ref 2000), some (.int p1)], [], M) r M' := by
  unfold f_mJ1_charAt_2000 at h
  refine am_R.go 3 (q' := (3, [some (.ref 2000), some (.int p1)], [.int 6, .int p1], M)) rfl trivial ?_
  obtain ⟨M3, hz, h⟩ := am_bv_s h
  refine am_R.call (e' := me_J0_checkIndex_df160) (as := [.int p1, .int 6]) (rest := []) rfl rfl (Nat.le_of_ble_eq_true rfl) (t_mJ0_checkIndex z N p1 6 _ hz) ?_
  obtain ⟨hC, h⟩ := am_gd h
  refine am_R.go 6 (q' := (14, [some (.ref 2000), some (.int p1)], [.int (((((am_byt.getD 0 []).getD p1.toNatClampNeg 0) &&& 255).toUInt32 % 65536).toInt32)], M3)) rfl ⟨hC, trivial⟩ ?_
  obtain ⟨hC, h⟩ := am_gd h
  cases h
  exact am_R.ret rfl rfl hC
def f_mJ0_charAt_1000 (N : Nat) (p1 : Int32) (M : am_M) : Option (Except Nat (Option Value) × am_M) :=
  am_bi (f_mJ0_isLatin1_1000 N M) fun r1 M1 =>
    if r1 = 0 then
      none
    else
      am_bi (f_mJ1_charAt_2000 N p1 M1) fun r12 M12 =>
        if (r12.toUInt32 % 65536).toInt32 = r12 then some (.ok (some (.int r12)), M12) else none
set_option maxRecDepth 100000 in
theorem t_mJ0_charAt_1000 (z : Value) (N : Nat) (p1 : Int32) (M : am_M) {r : Except Nat (Option Value)} {M' : am_M} (h : f_mJ0_charAt_1000 N p1 M = some (r, M')) : mR z me_J0_charAt_5068e (0, [some (.ref 1000), some (.int p1)], [], M) r M' := by
  unfold f_mJ0_charAt_1000 at h
  refine am_R.go 1 (q' := (1, [some (.ref 1000), some (.int p1)], [.ref 1000], M)) rfl trivial ?_
  obtain ⟨r1, M1, hz, h⟩ := am_bi_s h
  refine am_R.call (e' := me_J0_isLatin1_aae02) (as := [.ref 1000]) (rest := []) rfl rfl (Nat.le_of_ble_eq_true rfl) (t_mJ0_isLatin1_1000 z N _ hz) ?_
  rcases am_it h with ⟨hc, h⟩ | ⟨hc, h⟩
  · refine am_R.ct rfl rfl hc ?_
    cases h
  · refine am_R.cn rfl rfl hc ?_
    refine am_R.go 3 (q' := (12, [some (.ref 1000), some (.int p1)], [.int p1, .ref 2000], M1)) rfl ⟨(by decide), trivial⟩ ?_
    obtain ⟨r12, M12, hz, h⟩ := am_bi_s h
    refine am_R.call (e' := me_J1_charAt_3b067) (as := [.ref 2000, .int p1]) (rest := []) rfl rfl (Nat.le_of_ble_eq_true rfl) (t_mJ1_charAt_2000 z N p1 _ hz) ?_
    obtain ⟨hC, h⟩ := am_gd h
    cases h
    exact am_R.ret rfl rfl hC
def f_X10_of_1000_4B (N : Nat) (k4 : Int32 → Int32 → am_M → Option (Except Nat (Option Value) × am_M)) (v1 : Int32) (v2 : Int32) (M : am_M) : Option (Except Nat (Option Value) × am_M) :=
  am_bi (f_mJ0_length_1000 N M) fun r6 M6 =>
    if r6 ≤ v2 then
      some (.ok (some (.int v1)), M6)
    else
      am_bi (f_mJ0_charAt_1000 N v2 M6) fun r17 M17 =>
        k4 ((v1 <<< (5 &&& 31)) ||| (r17 - 96)) (v2 + 1) M17
def f_X10_of_1000_4 (N : Nat) : Nat → Int32 → Int32 → am_M → Option (Except Nat (Option Value) × am_M)
  | 0 => fun _ _ _ => none
  | n + 1 => f_X10_of_1000_4B N (f_X10_of_1000_4 N n)
set_option maxRecDepth 100000 in
theorem t_X10_of_1000_4B (z : Value) (N : Nat) {r : Except Nat (Option Value)} {M' : am_M} (k4 : Int32 → Int32 → am_M → Option (Except Nat (Option Value) × am_M)) (hk4 : ∀ (v1 : Int32) (v2 : Int32) (M : am_M), k4 v1 v2 M = some (r, M') → mR z me_X10_of (4, [some (.ref 1000), some (.int v1), some (.int v2)], [], M) r M') (v1 : Int32) (v2 : Int32) (M : am_M) (h : f_X10_of_1000_4B N k4 v1 v2 M = some (r, M')) : mR z me_X10_of (4, [some (.ref 1000), some (.int v1), some (.int v2)], [], M) r M' := by
  unfold f_X10_of_1000_4B at h
  refine am_R.go 2 (q' := (6, [some (.ref 1000), some (.int v1), some (.int v2)], [.ref 1000, .int v2], M)) rfl trivial ?_
  obtain ⟨r6, M6, hz, h⟩ := am_bi_s h
  refine am_R.call (e' := me_J0_length_8abf5) (as := [.ref 1000]) (rest := [.int v2]) rfl rfl (Nat.le_of_ble_eq_true rfl) (t_mJ0_length_1000 z N _ hz) ?_
  rcases am_it h with ⟨hc, h⟩ | ⟨hc, h⟩
  · refine am_R.bt rfl rfl hc ?_
    refine am_R.go 1 (q' := (32, [some (.ref 1000), some (.int v1), some (.int v2)], [.int v1], M6)) rfl trivial ?_
    cases h
    exact am_R.ret rfl rfl trivial
  · refine am_R.bn rfl rfl hc ?_
    refine am_R.go 5 (q' := (17, [some (.ref 1000), some (.int v1), some (.int v2)], [.int v2, .ref 1000, .int (v1 <<< (5 &&& 31))], M6)) rfl trivial ?_
    obtain ⟨r17, M17, hz, h⟩ := am_bi_s h
    refine am_R.call (e' := me_J0_charAt_5068e) (as := [.ref 1000, .int v2]) (rest := [.int (v1 <<< (5 &&& 31))]) rfl rfl (Nat.le_of_ble_eq_true rfl) (t_mJ0_charAt_1000 z N v2 _ hz) ?_
    refine am_R.go 6 (q' := (4, [some (.ref 1000), some (.int ((v1 <<< (5 &&& 31)) ||| (r17 - 96))), some (.int (v2 + 1))], [], M17)) rfl trivial ?_
    exact hk4 ((v1 <<< (5 &&& 31)) ||| (r17 - 96)) (v2 + 1) _ h
set_option maxRecDepth 100000 in
theorem t_X10_of_1000_4 (z : Value) (N : Nat) {r : Except Nat (Option Value)} {M' : am_M} : ∀ (n : Nat) (v1 : Int32) (v2 : Int32) (M : am_M), f_X10_of_1000_4 N n v1 v2 M = some (r, M') → mR z me_X10_of (4, [some (.ref 1000), some (.int v1), some (.int v2)], [], M) r M' := by
  intro n
  induction n with
  | zero => intro v1 v2 M h; cases h
  | succ n ih => intro v1 v2 M h; exact t_X10_of_1000_4B z N _ ih v1 v2 M h
def f_X10_of_1000 (N : Nat) (M : am_M) : Option (Except Nat (Option Value) × am_M) :=
  f_X10_of_1000_4 N N 0 0 M
set_option maxRecDepth 100000 in
theorem t_X10_of_1000 (z : Value) (N : Nat) (M : am_M) {r : Except Nat (Option Value)} {M' : am_M} (h : f_X10_of_1000 N M = some (r, M')) : mR z me_X10_of (0, [some (.ref 1000), none, none], [], M) r M' := by
  unfold f_X10_of_1000 at h
  refine am_R.go 4 (q' := (4, [some (.ref 1000), some (.int 0), some (.int 0)], [], M)) rfl trivial ?_
  exact t_X10_of_1000_4 z N N 0 0 _ h
