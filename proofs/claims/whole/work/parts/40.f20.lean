def f_X10_rests_251B (N : Nat) (v1 : Int32) (v2 : Int32) (v3 : Int32) (v4 : Int32) (v5 : Int32) (v6 : Int32) (v9 : Int32) (k147 : Int32 → Int32 → Int32 → am_M → Option (Except Nat (Option Value) × am_M)) (k251 : Int32 → Int32 → am_M → Option (Except Nat (Option Value) × am_M)) (v8 : Int32) (v10 : Int32) (M : am_M) : Option (Except Nat (Option Value) × am_M) :=
  if (M 0 36) ≤ v10 then
    if v9 = 0 then
      k147 v4 v5 (v6 + 1) M
    else
      am_bi (f_X10_isRest N v2 M) fun r288 M288 =>
        if r288 = 0 then
          k147 v4 v5 (v6 + 1) M288
        else
          if v5 = (-1) then
            k147 (v4 + 1) v8 (v6 + 1) M288
          else
            k147 (v4 + 1) v5 (v6 + 1) M288
  else
    if am_in v10 5 then
      k251 ((10 * v8) + (M 23 (v10.toNatClampNeg))) (v10 + 1) M
    else none
def f_X10_rests_251 (N : Nat) (v1 : Int32) (v2 : Int32) (v3 : Int32) (v4 : Int32) (v5 : Int32) (v6 : Int32) (v9 : Int32) (k147 : Int32 → Int32 → Int32 → am_M → Option (Except Nat (Option Value) × am_M)) : Nat → Int32 → Int32 → am_M → Option (Except Nat (Option Value) × am_M)
  | 0 => fun _ _ _ => none
  | n + 1 => f_X10_rests_251B N v1 v2 v3 v4 v5 v6 v9 k147 (f_X10_rests_251 N v1 v2 v3 v4 v5 v6 v9 k147 n)
set_option maxRecDepth 100000 in
theorem t_X10_rests_251B (z : Value) (N : Nat) (v1 : Int32) (v2 : Int32) (v3 : Int32) (v4 : Int32) (v5 : Int32) (v6 : Int32) (v9 : Int32) (k147 : Int32 → Int32 → Int32 → am_M → Option (Except Nat (Option Value) × am_M)) {r : Except Nat (Option Value)} {M' : am_M} (hk147 : ∀ (v4 : Int32) (v5 : Int32) (v6 : Int32) (d7 : Option Value) (d8 : Option Value) (d9 : Option Value) (d10 : Option Value) (M : am_M), k147 v4 v5 v6 M = some (r, M') → mR z me_X10_rests (147, [some (.ref 0), some (.int v1), some (.int v2), some (.int v3), some (.int v4), some (.int v5), some (.int v6), d7, d8, d9, d10], [], M) r M') (k251 : Int32 → Int32 → am_M → Option (Except Nat (Option Value) × am_M)) (hk251 : ∀ (v8 : Int32) (v10 : Int32) (d7 : Option Value) (M : am_M), k251 v8 v10 M = some (r, M') → mR z me_X10_rests (251, [some (.ref 0), some (.int v1), some (.int v2), some (.int v3), some (.int v4), some (.int v5), some (.int v6), d7, some (.int v8), some (.int v9), some (.int v10)], [], M) r M') (v8 : Int32) (v10 : Int32) (d7 : Option Value) (M : am_M) (h : f_X10_rests_251B N v1 v2 v3 v4 v5 v6 v9 k147 k251 v8 v10 M = some (r, M')) : mR z me_X10_rests (251, [some (.ref 0), some (.int v1), some (.int v2), some (.int v3), some (.int v4), some (.int v5), some (.int v6), d7, some (.int v8), some (.int v9), some (.int v10)], [], M) r M' := by
  unfold f_X10_rests_251B at h
  refine am_R.go 3 (q' := (257, [some (.ref 0), some (.int v1), some (.int v2), some (.int v3), some (.int v4), some (.int v5), some (.int v6), d7, some (.int v8), some (.int v9), some (.int v10)], [.int (M 0 36), .int v10], M)) rfl trivial ?_
  rcases am_it h with ⟨hc, h⟩ | ⟨hc, h⟩
  · refine am_R.bt rfl rfl hc ?_
    refine am_R.go 1 (q' := (283, [some (.ref 0), some (.int v1), some (.int v2), some (.int v3), some (.int v4), some (.int v5), some (.int v6), d7, some (.int v8), some (.int v9), some (.int v10)], [.int v9], M)) rfl trivial ?_
    rcases am_it h with ⟨hc, h⟩ | ⟨hc, h⟩
    · refine am_R.ct rfl rfl hc ?_
      refine am_R.go 2 (q' := (147, [some (.ref 0), some (.int v1), some (.int v2), some (.int v3), some (.int v4), some (.int v5), some (.int (v6 + 1)), d7, some (.int v8), some (.int v9), some (.int v10)], [], M)) rfl trivial ?_
      exact hk147 v4 v5 (v6 + 1) _ _ _ _ _ h
    · refine am_R.cn rfl rfl hc ?_
      refine am_R.go 2 (q' := (288, [some (.ref 0), some (.int v1), some (.int v2), some (.int v3), some (.int v4), some (.int v5), some (.int v6), d7, some (.int v8), some (.int v9), some (.int v10)], [.int v2, .ref 0], M)) rfl trivial ?_
      obtain ⟨r288, M288, hz, h⟩ := am_bi_s h
      refine am_R.call (e' := me_X10_isRest) (as := [.ref 0, .int v2]) (rest := []) rfl rfl (Nat.le_of_ble_eq_true rfl) (t_X10_isRest z N v2 _ hz) ?_
      rcases am_it h with ⟨hc, h⟩ | ⟨hc, h⟩
      · refine am_R.cn rfl rfl (fun q => q hc) ?_
        refine am_R.go 3 (q' := (147, [some (.ref 0), some (.int v1), some (.int v2), some (.int v3), some (.int v4), some (.int v5), some (.int (v6 + 1)), d7, some (.int v8), some (.int v9), some (.int v10)], [], M288)) rfl trivial ?_
        exact hk147 v4 v5 (v6 + 1) _ _ _ _ _ h
      · refine am_R.ct rfl rfl hc ?_
        refine am_R.go 3 (q' := (303, [some (.ref 0), some (.int v1), some (.int v2), some (.int v3), some (.int (v4 + 1)), some (.int v5), some (.int v6), d7, some (.int v8), some (.int v9), some (.int v10)], [.int (-1), .int v5], M288)) rfl trivial ?_
        rcases am_it h with ⟨hc, h⟩ | ⟨hc, h⟩
        · refine am_R.bn rfl rfl (fun q => q hc) ?_
          refine am_R.go 4 (q' := (147, [some (.ref 0), some (.int v1), some (.int v2), some (.int v3), some (.int (v4 + 1)), some (.int v8), some (.int (v6 + 1)), d7, some (.int v8), some (.int v9), some (.int v10)], [], M288)) rfl trivial ?_
          exact hk147 (v4 + 1) v8 (v6 + 1) _ _ _ _ _ h
        · refine am_R.bt rfl rfl hc ?_
          refine am_R.go 2 (q' := (147, [some (.ref 0), some (.int v1), some (.int v2), some (.int v3), some (.int (v4 + 1)), some (.int v5), some (.int (v6 + 1)), d7, some (.int v8), some (.int v9), some (.int v10)], [], M288)) rfl trivial ?_
          exact hk147 (v4 + 1) v5 (v6 + 1) _ _ _ _ _ h
  · refine am_R.bn rfl rfl hc ?_
    obtain ⟨hC, h⟩ := am_gd h
    refine am_R.go 11 (q' := (251, [some (.ref 0), some (.int v1), some (.int v2), some (.int v3), some (.int v4), some (.int v5), some (.int v6), d7, some (.int ((10 * v8) + (M 23 (v10.toNatClampNeg)))), some (.int v9), some (.int (v10 + 1))], [], M)) rfl ⟨hC, trivial⟩ ?_
    exact hk251 ((10 * v8) + (M 23 (v10.toNatClampNeg))) (v10 + 1) _ _ h
set_option maxRecDepth 100000 in
theorem t_X10_rests_251 (z : Value) (N : Nat) (v1 : Int32) (v2 : Int32) (v3 : Int32) (v4 : Int32) (v5 : Int32) (v6 : Int32) (v9 : Int32) (k147 : Int32 → Int32 → Int32 → am_M → Option (Except Nat (Option Value) × am_M)) {r : Except Nat (Option Value)} {M' : am_M} (hk147 : ∀ (v4 : Int32) (v5 : Int32) (v6 : Int32) (d7 : Option Value) (d8 : Option Value) (d9 : Option Value) (d10 : Option Value) (M : am_M), k147 v4 v5 v6 M = some (r, M') → mR z me_X10_rests (147, [some (.ref 0), some (.int v1), some (.int v2), some (.int v3), some (.int v4), some (.int v5), some (.int v6), d7, d8, d9, d10], [], M) r M') : ∀ (n : Nat) (v8 : Int32) (v10 : Int32) (d7 : Option Value) (M : am_M), f_X10_rests_251 N v1 v2 v3 v4 v5 v6 v9 k147 n v8 v10 M = some (r, M') → mR z me_X10_rests (251, [some (.ref 0), some (.int v1), some (.int v2), some (.int v3), some (.int v4), some (.int v5), some (.int v6), d7, some (.int v8), some (.int v9), some (.int v10)], [], M) r M' := by
  intro n
  induction n with
  | zero => intro v8 v10 d7 M h; cases h
  | succ n ih => intro v8 v10 d7 M h; exact t_X10_rests_251B z N v1 v2 v3 v4 v5 v6 v9 k147 hk147 _ ih v8 v10 d7 M h
def f_X10_rests_171B (N : Nat) (v1 : Int32) (v2 : Int32) (v3 : Int32) (v4 : Int32) (v5 : Int32) (v6 : Int32) (v8 : Int32) (k147 : Int32 → Int32 → Int32 → am_M → Option (Except Nat (Option Value) × am_M)) (k171 : Int32 → Int32 → Int32 → am_M → Option (Except Nat (Option Value) × am_M)) (v7 : Int32) (v9 : Int32) (v10 : Int32) (M : am_M) : Option (Except Nat (Option Value) × am_M) :=
  if v10 < 0 then
    f_X10_rests_251 N v1 v2 v3 v4 v5 v6 v9 k147 N v8 0 M
  else
    if ¬ ((M 0 37) + 1) = 0 ∧ am_in v10 5 then
      if v9 = 0 then
        k171 (v7 / ((M 0 37) + 1)) 0 (v10 + (-1)) (am_up M 23 (v10.toNatClampNeg) (v7 - v7 / ((M 0 37) + 1) * ((M 0 37) + 1)))
      else
        if am_in v10 5 then
          if ((am_up M 23 (v10.toNatClampNeg) (v7 - v7 / ((M 0 37) + 1) * ((M 0 37) + 1))) 23 (v10.toNatClampNeg)) = 0 then
            k171 (v7 / ((M 0 37) + 1)) 1 (v10 + (-1)) (am_up M 23 (v10.toNatClampNeg) (v7 - v7 / ((M 0 37) + 1) * ((M 0 37) + 1)))
          else
            if am_in v10 5 then
              if ((v2 >>> ((((am_up M 23 (v10.toNatClampNeg) (v7 - v7 / ((M 0 37) + 1) * ((M 0 37) + 1))) 23 (v10.toNatClampNeg)) - 1) &&& 31)) &&& 1) = 1 then
                k171 (v7 / ((M 0 37) + 1)) 1 (v10 + (-1)) (am_up M 23 (v10.toNatClampNeg) (v7 - v7 / ((M 0 37) + 1) * ((M 0 37) + 1)))
              else
                k171 (v7 / ((M 0 37) + 1)) 0 (v10 + (-1)) (am_up M 23 (v10.toNatClampNeg) (v7 - v7 / ((M 0 37) + 1) * ((M 0 37) + 1)))
            else none
        else none
    else none
def f_X10_rests_171 (N : Nat) (v1 : Int32) (v2 : Int32) (v3 : Int32) (v4 : Int32) (v5 : Int32) (v6 : Int32) (v8 : Int32) (k147 : Int32 → Int32 → Int32 → am_M → Option (Except Nat (Option Value) × am_M)) : Nat → Int32 → Int32 → Int32 → am_M → Option (Except Nat (Option Value) × am_M)
  | 0 => fun _ _ _ _ => none
  | n + 1 => f_X10_rests_171B N v1 v2 v3 v4 v5 v6 v8 k147 (f_X10_rests_171 N v1 v2 v3 v4 v5 v6 v8 k147 n)
set_option maxRecDepth 100000 in
theorem t_X10_rests_171B (z : Value) (N : Nat) (v1 : Int32) (v2 : Int32) (v3 : Int32) (v4 : Int32) (v5 : Int32) (v6 : Int32) (v8 : Int32) (k147 : Int32 → Int32 → Int32 → am_M → Option (Except Nat (Option Value) × am_M)) {r : Except Nat (Option Value)} {M' : am_M} (hk147 : ∀ (v4 : Int32) (v5 : Int32) (v6 : Int32) (d7 : Option Value) (d8 : Option Value) (d9 : Option Value) (d10 : Option Value) (M : am_M), k147 v4 v5 v6 M = some (r, M') → mR z me_X10_rests (147, [some (.ref 0), some (.int v1), some (.int v2), some (.int v3), some (.int v4), some (.int v5), some (.int v6), d7, d8, d9, d10], [], M) r M') (k171 : Int32 → Int32 → Int32 → am_M → Option (Except Nat (Option Value) × am_M)) (hk171 : ∀ (v7 : Int32) (v9 : Int32) (v10 : Int32) (M : am_M), k171 v7 v9 v10 M = some (r, M') → mR z me_X10_rests (171, [some (.ref 0), some (.int v1), some (.int v2), some (.int v3), some (.int v4), some (.int v5), some (.int v6), some (.int v7), some (.int v8), some (.int v9), some (.int v10)], [], M) r M') (v7 : Int32) (v9 : Int32) (v10 : Int32) (M : am_M) (h : f_X10_rests_171B N v1 v2 v3 v4 v5 v6 v8 k147 k171 v7 v9 v10 M = some (r, M')) : mR z me_X10_rests (171, [some (.ref 0), some (.int v1), some (.int v2), some (.int v3), some (.int v4), some (.int v5), some (.int v6), some (.int v7), some (.int v8), some (.int v9), some (.int v10)], [], M) r M' := by
  unfold f_X10_rests_171B at h
  refine am_R.go 1 (q' := (173, [some (.ref 0), some (.int v1), some (.int v2), some (.int v3), some (.int v4), some (.int v5), some (.int v6), some (.int v7), some (.int v8), some (.int v9), some (.int v10)], [.int v10], M)) rfl trivial ?_
  rcases am_it h with ⟨hc, h⟩ | ⟨hc, h⟩
  · refine am_R.ct rfl rfl hc ?_
    refine am_R.go 2 (q' := (251, [some (.ref 0), some (.int v1), some (.int v2), some (.int v3), some (.int v4), some (.int v5), some (.int v6), some (.int v7), some (.int v8), some (.int v9), some (.int 0)], [], M)) rfl trivial ?_
    exact t_X10_rests_251 z N v1 v2 v3 v4 v5 v6 v9 k147 hk147 N v8 0 _ _ h
  · refine am_R.cn rfl rfl hc ?_
    obtain ⟨hC, h⟩ := am_gd h
    refine am_R.go 18 (q' := (205, [some (.ref 0), some (.int v1), some (.int v2), some (.int v3), some (.int v4), some (.int v5), some (.int v6), some (.int (v7 / ((M 0 37) + 1))), some (.int v8), some (.int v9), some (.int v10)], [.int v9], am_up M 23 (v10.toNatClampNeg) (v7 - v7 / ((M 0 37) + 1) * ((M 0 37) + 1)))) rfl ⟨hC.1, hC.2, hC.1, trivial⟩ ?_
    rcases am_it h with ⟨hc, h⟩ | ⟨hc, h⟩
    · refine am_R.ct rfl rfl hc ?_
      refine am_R.go 4 (q' := (171, [some (.ref 0), some (.int v1), some (.int v2), some (.int v3), some (.int v4), some (.int v5), some (.int v6), some (.int (v7 / ((M 0 37) + 1))), some (.int v8), some (.int 0), some (.int (v10 + (-1)))], [], am_up M 23 (v10.toNatClampNeg) (v7 - v7 / ((M 0 37) + 1) * ((M 0 37) + 1)))) rfl trivial ?_
      exact hk171 (v7 / ((M 0 37) + 1)) 0 (v10 + (-1)) _ h
    · refine am_R.cn rfl rfl hc ?_
      obtain ⟨hC, h⟩ := am_gd h
      refine am_R.go 4 (q' := (215, [some (.ref 0), some (.int v1), some (.int v2), some (.int v3), some (.int v4), some (.int v5), some (.int v6), some (.int (v7 / ((M 0 37) + 1))), some (.int v8), some (.int v9), some (.int v10)], [.int ((am_up M 23 (v10.toNatClampNeg) (v7 - v7 / ((M 0 37) + 1) * ((M 0 37) + 1))) 23 (v10.toNatClampNeg))], am_up M 23 (v10.toNatClampNeg) (v7 - v7 / ((M 0 37) + 1) * ((M 0 37) + 1)))) rfl ⟨hC, trivial⟩ ?_
      rcases am_it h with ⟨hc, h⟩ | ⟨hc, h⟩
      · refine am_R.ct rfl rfl hc ?_
        refine am_R.go 5 (q' := (171, [some (.ref 0), some (.int v1), some (.int v2), some (.int v3), some (.int v4), some (.int v5), some (.int v6), some (.int (v7 / ((M 0 37) + 1))), some (.int v8), some (.int 1), some (.int (v10 + (-1)))], [], am_up M 23 (v10.toNatClampNeg) (v7 - v7 / ((M 0 37) + 1) * ((M 0 37) + 1)))) rfl trivial ?_
        exact hk171 (v7 / ((M 0 37) + 1)) 1 (v10 + (-1)) _ h
      · refine am_R.cn rfl rfl hc ?_
        obtain ⟨hC, h⟩ := am_gd h
        refine am_R.go 11 (q' := (232, [some (.ref 0), some (.int v1), some (.int v2), some (.int v3), some (.int v4), some (.int v5), some (.int v6), some (.int (v7 / ((M 0 37) + 1))), some (.int v8), some (.int v9), some (.int v10)], [.int 1, .int ((v2 >>> ((((am_up M 23 (v10.toNatClampNeg) (v7 - v7 / ((M 0 37) + 1) * ((M 0 37) + 1))) 23 (v10.toNatClampNeg)) - 1) &&& 31)) &&& 1)], am_up M 23 (v10.toNatClampNeg) (v7 - v7 / ((M 0 37) + 1) * ((M 0 37) + 1)))) rfl ⟨hC, trivial⟩ ?_
        rcases am_it h with ⟨hc, h⟩ | ⟨hc, h⟩
        · refine am_R.bn rfl rfl (fun q => q hc) ?_
          refine am_R.go 5 (q' := (171, [some (.ref 0), some (.int v1), some (.int v2), some (.int v3), some (.int v4), some (.int v5), some (.int v6), some (.int (v7 / ((M 0 37) + 1))), some (.int v8), some (.int 1), some (.int (v10 + (-1)))], [], am_up M 23 (v10.toNatClampNeg) (v7 - v7 / ((M 0 37) + 1) * ((M 0 37) + 1)))) rfl trivial ?_
          exact hk171 (v7 / ((M 0 37) + 1)) 1 (v10 + (-1)) _ h
        · refine am_R.bt rfl rfl hc ?_
          refine am_R.go 4 (q' := (171, [some (.ref 0), some (.int v1), some (.int v2), some (.int v3), some (.int v4), some (.int v5), some (.int v6), some (.int (v7 / ((M 0 37) + 1))), some (.int v8), some (.int 0), some (.int (v10 + (-1)))], [], am_up M 23 (v10.toNatClampNeg) (v7 - v7 / ((M 0 37) + 1) * ((M 0 37) + 1)))) rfl trivial ?_
          exact hk171 (v7 / ((M 0 37) + 1)) 0 (v10 + (-1)) _ h
set_option maxRecDepth 100000 in
theorem t_X10_rests_171 (z : Value) (N : Nat) (v1 : Int32) (v2 : Int32) (v3 : Int32) (v4 : Int32) (v5 : Int32) (v6 : Int32) (v8 : Int32) (k147 : Int32 → Int32 → Int32 → am_M → Option (Except Nat (Option Value) × am_M)) {r : Except Nat (Option Value)} {M' : am_M} (hk147 : ∀ (v4 : Int32) (v5 : Int32) (v6 : Int32) (d7 : Option Value) (d8 : Option Value) (d9 : Option Value) (d10 : Option Value) (M : am_M), k147 v4 v5 v6 M = some (r, M') → mR z me_X10_rests (147, [some (.ref 0), some (.int v1), some (.int v2), some (.int v3), some (.int v4), some (.int v5), some (.int v6), d7, d8, d9, d10], [], M) r M') : ∀ (n : Nat) (v7 : Int32) (v9 : Int32) (v10 : Int32) (M : am_M), f_X10_rests_171 N v1 v2 v3 v4 v5 v6 v8 k147 n v7 v9 v10 M = some (r, M') → mR z me_X10_rests (171, [some (.ref 0), some (.int v1), some (.int v2), some (.int v3), some (.int v4), some (.int v5), some (.int v6), some (.int v7), some (.int v8), some (.int v9), some (.int v10)], [], M) r M' := by
  intro n
  induction n with
  | zero => intro v7 v9 v10 M h; cases h
  | succ n ih => intro v7 v9 v10 M h; exact t_X10_rests_171B z N v1 v2 v3 v4 v5 v6 v8 k147 hk147 _ ih v7 v9 v10 M h
def f_X10_rests_147B (N : Nat) (v1 : Int32) (v2 : Int32) (v3 : Int32) (k147 : Int32 → Int32 → Int32 → am_M → Option (Except Nat (Option Value) × am_M)) (v4 : Int32) (v5 : Int32) (v6 : Int32) (M : am_M) : Option (Except Nat (Option Value) × am_M) :=
  if v3 ≤ v6 then
    if v1 = 0 then
      some (.ok (some (.int v4)), M)
    else
      some (.ok (some (.int v5)), M)
  else
    f_X10_rests_171 N v1 v2 v3 v4 v5 v6 0 k147 N v6 1 ((M 0 36) - 1) M
def f_X10_rests_147 (N : Nat) (v1 : Int32) (v2 : Int32) (v3 : Int32) : Nat → Int32 → Int32 → Int32 → am_M → Option (Except Nat (Option Value) × am_M)
  | 0 => fun _ _ _ _ => none
  | n + 1 => f_X10_rests_147B N v1 v2 v3 (f_X10_rests_147 N v1 v2 v3 n)
set_option maxRecDepth 100000 in
theorem t_X10_rests_147B (z : Value) (N : Nat) (v1 : Int32) (v2 : Int32) (v3 : Int32) {r : Except Nat (Option Value)} {M' : am_M} (k147 : Int32 → Int32 → Int32 → am_M → Option (Except Nat (Option Value) × am_M)) (hk147 : ∀ (v4 : Int32) (v5 : Int32) (v6 : Int32) (d7 : Option Value) (d8 : Option Value) (d9 : Option Value) (d10 : Option Value) (M : am_M), k147 v4 v5 v6 M = some (r, M') → mR z me_X10_rests (147, [some (.ref 0), some (.int v1), some (.int v2), some (.int v3), some (.int v4), some (.int v5), some (.int v6), d7, d8, d9, d10], [], M) r M') (v4 : Int32) (v5 : Int32) (v6 : Int32) (d7 : Option Value) (d8 : Option Value) (d9 : Option Value) (d10 : Option Value) (M : am_M) (h : f_X10_rests_147B N v1 v2 v3 k147 v4 v5 v6 M = some (r, M')) : mR z me_X10_rests (147, [some (.ref 0), some (.int v1), some (.int v2), some (.int v3), some (.int v4), some (.int v5), some (.int v6), d7, d8, d9, d10], [], M) r M' := by
  unfold f_X10_rests_147B at h
  refine am_R.go 2 (q' := (150, [some (.ref 0), some (.int v1), some (.int v2), some (.int v3), some (.int v4), some (.int v5), some (.int v6), d7, d8, d9, d10], [.int v3, .int v6], M)) rfl trivial ?_
  rcases am_it h with ⟨hc, h⟩ | ⟨hc, h⟩
  · refine am_R.bt rfl rfl hc ?_
    refine am_R.go 1 (q' := (317, [some (.ref 0), some (.int v1), some (.int v2), some (.int v3), some (.int v4), some (.int v5), some (.int v6), d7, d8, d9, d10], [.int v1], M)) rfl trivial ?_
    rcases am_it h with ⟨hc, h⟩ | ⟨hc, h⟩
    · refine am_R.cn rfl rfl (fun q => q hc) ?_
      refine am_R.go 2 (q' := (327, [some (.ref 0), some (.int v1), some (.int v2), some (.int v3), some (.int v4), some (.int v5), some (.int v6), d7, d8, d9, d10], [.int v4], M)) rfl trivial ?_
      cases h
      exact am_R.ret rfl rfl trivial
    · refine am_R.ct rfl rfl hc ?_
      refine am_R.go 1 (q' := (327, [some (.ref 0), some (.int v1), some (.int v2), some (.int v3), some (.int v4), some (.int v5), some (.int v6), d7, d8, d9, d10], [.int v5], M)) rfl trivial ?_
      cases h
      exact am_R.ret rfl rfl trivial
  · refine am_R.bn rfl rfl hc ?_
    refine am_R.go 11 (q' := (171, [some (.ref 0), some (.int v1), some (.int v2), some (.int v3), some (.int v4), some (.int v5), some (.int v6), some (.int v6), some (.int 0), some (.int 1), some (.int ((M 0 36) - 1))], [], M)) rfl trivial ?_
    exact t_X10_rests_171 z N v1 v2 v3 v4 v5 v6 0 k147 hk147 N v6 1 ((M 0 36) - 1) _ h
set_option maxRecDepth 100000 in
theorem t_X10_rests_147 (z : Value) (N : Nat) (v1 : Int32) (v2 : Int32) (v3 : Int32) {r : Except Nat (Option Value)} {M' : am_M} : ∀ (n : Nat) (v4 : Int32) (v5 : Int32) (v6 : Int32) (d7 : Option Value) (d8 : Option Value) (d9 : Option Value) (d10 : Option Value) (M : am_M), f_X10_rests_147 N v1 v2 v3 n v4 v5 v6 M = some (r, M') → mR z me_X10_rests (147, [some (.ref 0), some (.int v1), some (.int v2), some (.int v3), some (.int v4), some (.int v5), some (.int v6), d7, d8, d9, d10], [], M) r M' := by
  intro n
  induction n with
  | zero => intro v4 v5 v6 d7 d8 d9 d10 M h; cases h
  | succ n ih => intro v4 v5 v6 d7 d8 d9 d10 M h; exact t_X10_rests_147B z N v1 v2 v3 _ ih v4 v5 v6 d7 d8 d9 d10 M h
def f_X10_rests_114B (N : Nat) (v1 : Int32) (v2 : Int32) (k114 : Int32 → Int32 → am_M → Option (Except Nat (Option Value) × am_M)) (v3 : Int32) (v4 : Int32) (M : am_M) : Option (Except Nat (Option Value) × am_M) :=
  if (M 0 36) ≤ v4 then
    f_X10_rests_147 N v1 v2 v3 N 0 (-1) 0 M
  else
    k114 (v3 * ((M 0 37) + 1)) (v4 + 1) M
def f_X10_rests_114 (N : Nat) (v1 : Int32) (v2 : Int32) : Nat → Int32 → Int32 → am_M → Option (Except Nat (Option Value) × am_M)
  | 0 => fun _ _ _ => none
  | n + 1 => f_X10_rests_114B N v1 v2 (f_X10_rests_114 N v1 v2 n)
set_option maxRecDepth 100000 in
theorem t_X10_rests_114B (z : Value) (N : Nat) (v1 : Int32) (v2 : Int32) {r : Except Nat (Option Value)} {M' : am_M} (k114 : Int32 → Int32 → am_M → Option (Except Nat (Option Value) × am_M)) (hk114 : ∀ (v3 : Int32) (v4 : Int32) (d5 : Option Value) (d6 : Option Value) (d7 : Option Value) (d8 : Option Value) (d9 : Option Value) (d10 : Option Value) (M : am_M), k114 v3 v4 M = some (r, M') → mR z me_X10_rests (114, [some (.ref 0), some (.int v1), some (.int v2), some (.int v3), some (.int v4), d5, d6, d7, d8, d9, d10], [], M) r M') (v3 : Int32) (v4 : Int32) (d5 : Option Value) (d6 : Option Value) (d7 : Option Value) (d8 : Option Value) (d9 : Option Value) (d10 : Option Value) (M : am_M) (h : f_X10_rests_114B N v1 v2 k114 v3 v4 M = some (r, M')) : mR z me_X10_rests (114, [some (.ref 0), some (.int v1), some (.int v2), some (.int v3), some (.int v4), d5, d6, d7, d8, d9, d10], [], M) r M' := by
  unfold f_X10_rests_114B at h
  refine am_R.go 3 (q' := (120, [some (.ref 0), some (.int v1), some (.int v2), some (.int v3), some (.int v4), d5, d6, d7, d8, d9, d10], [.int (M 0 36), .int v4], M)) rfl trivial ?_
  rcases am_it h with ⟨hc, h⟩ | ⟨hc, h⟩
  · refine am_R.bt rfl rfl hc ?_
    refine am_R.go 6 (q' := (147, [some (.ref 0), some (.int v1), some (.int v2), some (.int v3), some (.int 0), some (.int (-1)), some (.int 0), d7, d8, d9, d10], [], M)) rfl trivial ?_
    exact t_X10_rests_147 z N v1 v2 v3 N 0 (-1) 0 _ _ _ _ _ h
  · refine am_R.bn rfl rfl hc ?_
    refine am_R.go 9 (q' := (114, [some (.ref 0), some (.int v1), some (.int v2), some (.int (v3 * ((M 0 37) + 1))), some (.int (v4 + 1)), d5, d6, d7, d8, d9, d10], [], M)) rfl trivial ?_
    exact hk114 (v3 * ((M 0 37) + 1)) (v4 + 1) _ _ _ _ _ _ _ h
set_option maxRecDepth 100000 in
theorem t_X10_rests_114 (z : Value) (N : Nat) (v1 : Int32) (v2 : Int32) {r : Except Nat (Option Value)} {M' : am_M} : ∀ (n : Nat) (v3 : Int32) (v4 : Int32) (d5 : Option Value) (d6 : Option Value) (d7 : Option Value) (d8 : Option Value) (d9 : Option Value) (d10 : Option Value) (M : am_M), f_X10_rests_114 N v1 v2 n v3 v4 M = some (r, M') → mR z me_X10_rests (114, [some (.ref 0), some (.int v1), some (.int v2), some (.int v3), some (.int v4), d5, d6, d7, d8, d9, d10], [], M) r M' := by
  intro n
  induction n with
  | zero => intro v3 v4 d5 d6 d7 d8 d9 d10 M h; cases h
  | succ n ih => intro v3 v4 d5 d6 d7 d8 d9 d10 M h; exact t_X10_rests_114B z N v1 v2 _ ih v3 v4 d5 d6 d7 d8 d9 d10 M h
def f_X10_rests_59B (N : Nat) (v1 : Int32) (v2 : Int32) (v3 : Int32) (k29 : Int32 → am_M → Option (Except Nat (Option Value) × am_M)) (k59 : Int32 → am_M → Option (Except Nat (Option Value) × am_M)) (v4 : Int32) (M : am_M) : Option (Except Nat (Option Value) × am_M) :=
  if (M 0 36) ≤ v4 then
    am_bv (f_X10_stands N v3 0 M) fun M100 =>
      k29 (v3 + 1) M100
  else
    am_bi (f_X10_worthBy N v4 0 (M 0 41) M) fun r87 M87 =>
      if am_in ((16 * v4) + v3) 80 then
        k59 (v4 + 1) (am_up M87 22 (((16 * v4) + v3).toNatClampNeg) r87)
      else none
def f_X10_rests_59 (N : Nat) (v1 : Int32) (v2 : Int32) (v3 : Int32) (k29 : Int32 → am_M → Option (Except Nat (Option Value) × am_M)) : Nat → Int32 → am_M → Option (Except Nat (Option Value) × am_M)
  | 0 => fun _ _ => none
  | n + 1 => f_X10_rests_59B N v1 v2 v3 k29 (f_X10_rests_59 N v1 v2 v3 k29 n)
set_option maxRecDepth 100000 in
theorem t_X10_rests_59B (z : Value) (N : Nat) (v1 : Int32) (v2 : Int32) (v3 : Int32) (k29 : Int32 → am_M → Option (Except Nat (Option Value) × am_M)) {r : Except Nat (Option Value)} {M' : am_M} (hk29 : ∀ (v3 : Int32) (d4 : Option Value) (d5 : Option Value) (d6 : Option Value) (d7 : Option Value) (d8 : Option Value) (d9 : Option Value) (d10 : Option Value) (M : am_M), k29 v3 M = some (r, M') → mR z me_X10_rests (29, [some (.ref 0), some (.int v1), some (.int v2), some (.int v3), d4, d5, d6, d7, d8, d9, d10], [], M) r M') (k59 : Int32 → am_M → Option (Except Nat (Option Value) × am_M)) (hk59 : ∀ (v4 : Int32) (d5 : Option Value) (d6 : Option Value) (d7 : Option Value) (d8 : Option Value) (d9 : Option Value) (d10 : Option Value) (M : am_M), k59 v4 M = some (r, M') → mR z me_X10_rests (59, [some (.ref 0), some (.int v1), some (.int v2), some (.int v3), some (.int v4), d5, d6, d7, d8, d9, d10], [], M) r M') (v4 : Int32) (d5 : Option Value) (d6 : Option Value) (d7 : Option Value) (d8 : Option Value) (d9 : Option Value) (d10 : Option Value) (M : am_M) (h : f_X10_rests_59B N v1 v2 v3 k29 k59 v4 M = some (r, M')) : mR z me_X10_rests (59, [some (.ref 0), some (.int v1), some (.int v2), some (.int v3), some (.int v4), d5, d6, d7, d8, d9, d10], [], M) r M' := by
  unfold f_X10_rests_59B at h
  refine am_R.go 3 (q' := (65, [some (.ref 0), some (.int v1), some (.int v2), some (.int v3), some (.int v4), d5, d6, d7, d8, d9, d10], [.int (M 0 36), .int v4], M)) rfl trivial ?_
  rcases am_it h with ⟨hc, h⟩ | ⟨hc, h⟩
  · refine am_R.bt rfl rfl hc ?_
    refine am_R.go 3 (q' := (100, [some (.ref 0), some (.int v1), some (.int v2), some (.int v3), some (.int v4), d5, d6, d7, d8, d9, d10], [.int 0, .int v3, .ref 0], M)) rfl trivial ?_
    obtain ⟨M100, hz, h⟩ := am_bv_s h
    refine am_R.call (e' := me_X10_stands) (as := [.ref 0, .int v3, .int 0]) (rest := []) rfl rfl (Nat.le_of_ble_eq_true rfl) (t_X10_stands z N v3 0 _ hz) ?_
    refine am_R.go 2 (q' := (29, [some (.ref 0), some (.int v1), some (.int v2), some (.int (v3 + 1)), some (.int v4), d5, d6, d7, d8, d9, d10], [], M100)) rfl trivial ?_
    exact hk29 (v3 + 1) _ _ _ _ _ _ _ _ h
  · refine am_R.bn rfl rfl hc ?_
    refine am_R.go 12 (q' := (87, [some (.ref 0), some (.int v1), some (.int v2), some (.int v3), some (.int v4), d5, d6, d7, d8, d9, d10], [.int (M 0 41), .int 0, .int v4, .ref 0, .int ((16 * v4) + v3), .ref 22], M)) rfl trivial ?_
    obtain ⟨r87, M87, hz, h⟩ := am_bi_s h
    refine am_R.call (e' := me_X10_worthBy) (as := [.ref 0, .int v4, .int 0, .int (M 0 41)]) (rest := [.int ((16 * v4) + v3), .ref 22]) rfl rfl (Nat.le_of_ble_eq_true rfl) (t_X10_worthBy z N v4 0 (M 0 41) _ hz) ?_
    obtain ⟨hC, h⟩ := am_gd h
    refine am_R.go 3 (q' := (59, [some (.ref 0), some (.int v1), some (.int v2), some (.int v3), some (.int (v4 + 1)), d5, d6, d7, d8, d9, d10], [], am_up M87 22 (((16 * v4) + v3).toNatClampNeg) r87)) rfl ⟨hC, trivial⟩ ?_
    exact hk59 (v4 + 1) _ _ _ _ _ _ _ h
set_option maxRecDepth 100000 in
theorem t_X10_rests_59 (z : Value) (N : Nat) (v1 : Int32) (v2 : Int32) (v3 : Int32) (k29 : Int32 → am_M → Option (Except Nat (Option Value) × am_M)) {r : Except Nat (Option Value)} {M' : am_M} (hk29 : ∀ (v3 : Int32) (d4 : Option Value) (d5 : Option Value) (d6 : Option Value) (d7 : Option Value) (d8 : Option Value) (d9 : Option Value) (d10 : Option Value) (M : am_M), k29 v3 M = some (r, M') → mR z me_X10_rests (29, [some (.ref 0), some (.int v1), some (.int v2), some (.int v3), d4, d5, d6, d7, d8, d9, d10], [], M) r M') : ∀ (n : Nat) (v4 : Int32) (d5 : Option Value) (d6 : Option Value) (d7 : Option Value) (d8 : Option Value) (d9 : Option Value) (d10 : Option Value) (M : am_M), f_X10_rests_59 N v1 v2 v3 k29 n v4 M = some (r, M') → mR z me_X10_rests (59, [some (.ref 0), some (.int v1), some (.int v2), some (.int v3), some (.int v4), d5, d6, d7, d8, d9, d10], [], M) r M' := by
  intro n
  induction n with
  | zero => intro v4 d5 d6 d7 d8 d9 d10 M h; cases h
  | succ n ih => intro v4 d5 d6 d7 d8 d9 d10 M h; exact t_X10_rests_59B z N v1 v2 v3 k29 hk29 _ ih v4 d5 d6 d7 d8 d9 d10 M h
def f_X10_rests_29B (N : Nat) (v1 : Int32) (v2 : Int32) (k29 : Int32 → am_M → Option (Except Nat (Option Value) × am_M)) (v3 : Int32) (M : am_M) : Option (Except Nat (Option Value) × am_M) :=
  if (1 <<< ((M 0 37) &&& 31)) ≤ v3 then
    f_X10_rests_114 N v1 v2 N 1 0 M
  else
    if (v3 &&& (v2 ^^^ (-1))) = 0 then
      am_bv (f_X10_stands N v3 1 M) fun M53 =>
        f_X10_rests_59 N v1 v2 v3 k29 N 0 M53
    else
      k29 (v3 + 1) M
def f_X10_rests_29 (N : Nat) (v1 : Int32) (v2 : Int32) : Nat → Int32 → am_M → Option (Except Nat (Option Value) × am_M)
  | 0 => fun _ _ => none
  | n + 1 => f_X10_rests_29B N v1 v2 (f_X10_rests_29 N v1 v2 n)
set_option maxRecDepth 100000 in
theorem t_X10_rests_29B (z : Value) (N : Nat) (v1 : Int32) (v2 : Int32) {r : Except Nat (Option Value)} {M' : am_M} (k29 : Int32 → am_M → Option (Except Nat (Option Value) × am_M)) (hk29 : ∀ (v3 : Int32) (d4 : Option Value) (d5 : Option Value) (d6 : Option Value) (d7 : Option Value) (d8 : Option Value) (d9 : Option Value) (d10 : Option Value) (M : am_M), k29 v3 M = some (r, M') → mR z me_X10_rests (29, [some (.ref 0), some (.int v1), some (.int v2), some (.int v3), d4, d5, d6, d7, d8, d9, d10], [], M) r M') (v3 : Int32) (d4 : Option Value) (d5 : Option Value) (d6 : Option Value) (d7 : Option Value) (d8 : Option Value) (d9 : Option Value) (d10 : Option Value) (M : am_M) (h : f_X10_rests_29B N v1 v2 k29 v3 M = some (r, M')) : mR z me_X10_rests (29, [some (.ref 0), some (.int v1), some (.int v2), some (.int v3), d4, d5, d6, d7, d8, d9, d10], [], M) r M' := by
  unfold f_X10_rests_29B at h
  refine am_R.go 5 (q' := (36, [some (.ref 0), some (.int v1), some (.int v2), some (.int v3), d4, d5, d6, d7, d8, d9, d10], [.int (1 <<< ((M 0 37) &&& 31)), .int v3], M)) rfl trivial ?_
  rcases am_it h with ⟨hc, h⟩ | ⟨hc, h⟩
  · refine am_R.bt rfl rfl hc ?_
    refine am_R.go 4 (q' := (114, [some (.ref 0), some (.int v1), some (.int v2), some (.int 1), some (.int 0), d5, d6, d7, d8, d9, d10], [], M)) rfl trivial ?_
    exact t_X10_rests_114 z N v1 v2 N 1 0 _ _ _ _ _ _ _ h
  · refine am_R.bn rfl rfl hc ?_
    refine am_R.go 5 (q' := (44, [some (.ref 0), some (.int v1), some (.int v2), some (.int v3), d4, d5, d6, d7, d8, d9, d10], [.int (v3 &&& (v2 ^^^ (-1)))], M)) rfl trivial ?_
    rcases am_it h with ⟨hc, h⟩ | ⟨hc, h⟩
    · refine am_R.ct rfl rfl hc ?_
      refine am_R.go 3 (q' := (53, [some (.ref 0), some (.int v1), some (.int v2), some (.int v3), d4, d5, d6, d7, d8, d9, d10], [.int 1, .int v3, .ref 0], M)) rfl trivial ?_
      obtain ⟨M53, hz, h⟩ := am_bv_s h
      refine am_R.call (e' := me_X10_stands) (as := [.ref 0, .int v3, .int 1]) (rest := []) rfl rfl (Nat.le_of_ble_eq_true rfl) (t_X10_stands z N v3 1 _ hz) ?_
      refine am_R.go 2 (q' := (59, [some (.ref 0), some (.int v1), some (.int v2), some (.int v3), some (.int 0), d5, d6, d7, d8, d9, d10], [], M53)) rfl trivial ?_
      exact t_X10_rests_59 z N v1 v2 v3 k29 hk29 N 0 _ _ _ _ _ _ _ h
    · refine am_R.cn rfl rfl hc ?_
      refine am_R.go 3 (q' := (29, [some (.ref 0), some (.int v1), some (.int v2), some (.int (v3 + 1)), d4, d5, d6, d7, d8, d9, d10], [], M)) rfl trivial ?_
      exact hk29 (v3 + 1) _ _ _ _ _ _ _ _ h
set_option maxRecDepth 100000 in
theorem t_X10_rests_29 (z : Value) (N : Nat) (v1 : Int32) (v2 : Int32) {r : Except Nat (Option Value)} {M' : am_M} : ∀ (n : Nat) (v3 : Int32) (d4 : Option Value) (d5 : Option Value) (d6 : Option Value) (d7 : Option Value) (d8 : Option Value) (d9 : Option Value) (d10 : Option Value) (M : am_M), f_X10_rests_29 N v1 v2 n v3 M = some (r, M') → mR z me_X10_rests (29, [some (.ref 0), some (.int v1), some (.int v2), some (.int v3), d4, d5, d6, d7, d8, d9, d10], [], M) r M' := by
  intro n
  induction n with
  | zero => intro v3 d4 d5 d6 d7 d8 d9 d10 M h; cases h
  | succ n ih => intro v3 d4 d5 d6 d7 d8 d9 d10 M h; exact t_X10_rests_29B z N v1 v2 _ ih v3 d4 d5 d6 d7 d8 d9 d10 M h
def f_X10_rests (N : Nat) (p1 : Int32) (M : am_M) : Option (Except Nat (Option Value) × am_M) :=
  am_bi (f_X10_within N p1 0 1 (am_up M 0 0 0)) fun r9 M9 =>
    am_bi (f_X10_may N r9 1 2 M9) fun r14 M14 =>
      if r14 = 0 then
        some (.ok (some (.int 0)), M14)
      else
        am_bi (f_X10_openSites N M14) fun r23 M23 =>
          f_X10_rests_29 N p1 r23 N 0 M23
set_option maxRecDepth 100000 in
theorem t_X10_rests (z : Value) (N : Nat) (p1 : Int32) (M : am_M) {r : Except Nat (Option Value)} {M' : am_M} (h : f_X10_rests N p1 M = some (r, M')) : mR z me_X10_rests (0, [some (.ref 0), some (.int p1), none, none, none, none, none, none, none, none, none], [], M) r M' := by
  unfold f_X10_rests at h
  refine am_R.go 7 (q' := (9, [some (.ref 0), some (.int p1), none, none, none, none, none, none, none, none, none], [.int 1, .int 0, .int p1, .ref 0], am_up M 0 0 0)) rfl trivial ?_
  obtain ⟨r9, M9, hz, h⟩ := am_bi_s h
  refine am_R.call (e' := me_X10_within) (as := [.int p1, .int 0, .int 1]) (rest := [.ref 0]) rfl rfl (Nat.le_of_ble_eq_true rfl) (t_X10_within z N p1 0 1 _ hz) ?_
  refine am_R.go 2 (q' := (14, [some (.ref 0), some (.int p1), none, none, none, none, none, none, none, none, none], [.int 2, .int 1, .int r9, .ref 0], M9)) rfl trivial ?_
  obtain ⟨r14, M14, hz, h⟩ := am_bi_s h
  refine am_R.call (e' := me_X10_may) (as := [.ref 0, .int r9, .int 1, .int 2]) (rest := []) rfl rfl (Nat.le_of_ble_eq_true rfl) (t_X10_may z N r9 1 2 _ hz) ?_
  rcases am_it h with ⟨hc, h⟩ | ⟨hc, h⟩
  · refine am_R.cn rfl rfl (fun q => q hc) ?_
    refine am_R.go 1 (q' := (21, [some (.ref 0), some (.int p1), none, none, none, none, none, none, none, none, none], [.int 0], M14)) rfl trivial ?_
    cases h
    exact am_R.ret rfl rfl trivial
  · refine am_R.ct rfl rfl hc ?_
    refine am_R.go 1 (q' := (23, [some (.ref 0), some (.int p1), none, none, none, none, none, none, none, none, none], [.ref 0], M14)) rfl trivial ?_
    obtain ⟨r23, M23, hz, h⟩ := am_bi_s h
    refine am_R.call (e' := me_X10_openSites) (as := [.ref 0]) (rest := []) rfl rfl (Nat.le_of_ble_eq_true rfl) (t_X10_openSites z N _ hz) ?_
    refine am_R.go 3 (q' := (29, [some (.ref 0), some (.int p1), some (.int r23), some (.int 0), none, none, none, none, none, none, none], [], M23)) rfl trivial ?_
    exact t_X10_rests_29 z N p1 r23 N 0 _ _ _ _ _ _ _ _ h
def f_X10_fair_39B (N : Nat) (v1 : Int32) (v2 : Int32) (k39 : Int32 → Int32 → Int32 → am_M → Option (Except Nat (Option Value) × am_M)) (v3 : Int32) (v4 : Int32) (v5 : Int32) (M : am_M) : Option (Except Nat (Option Value) × am_M) :=
  if (M 0 38) ≤ v5 then
    if (M 0 38) = 0 then
      am_bi (f_X10_worthBy N v1 0 (M 0 41) M) fun r117 M117 =>
        am_bi (f_X10_fraction N r117 1 v2 M117) fun r122 M122 =>
          some (.ok (some (.int r122)), M122)
    else
      am_bi (f_X10_fraction N v3 v4 v2 M) fun r132 M132 =>
        some (.ok (some (.int r132)), M132)
  else
    if am_in ((2 * v5) + 1) 8 ∧ am_in (2 * v5) 8 then
      am_bi (f_X10_worthBy N v1 (M 15 ((2 * v5).toNatClampNeg)) (M 0 41) M) fun r75 M75 =>
        if am_in ((2 * v5) + 1) 8 then
          k39 (v3 + ((M 15 (((2 * v5) + 1).toNatClampNeg)) * r75)) (v4 + (M75 15 (((2 * v5) + 1).toNatClampNeg))) (v5 + 1) M75
        else none
    else none
def f_X10_fair_39 (N : Nat) (v1 : Int32) (v2 : Int32) : Nat → Int32 → Int32 → Int32 → am_M → Option (Except Nat (Option Value) × am_M)
  | 0 => fun _ _ _ _ => none
  | n + 1 => f_X10_fair_39B N v1 v2 (f_X10_fair_39 N v1 v2 n)
set_option maxRecDepth 100000 in
theorem t_X10_fair_39B (z : Value) (N : Nat) (v1 : Int32) (v2 : Int32) {r : Except Nat (Option Value)} {M' : am_M} (k39 : Int32 → Int32 → Int32 → am_M → Option (Except Nat (Option Value) × am_M)) (hk39 : ∀ (v3 : Int32) (v4 : Int32) (v5 : Int32) (M : am_M), k39 v3 v4 v5 M = some (r, M') → mR z me_X10_fair (39, [some (.ref 0), some (.int v1), some (.int v2), some (.int v3), some (.int v4), some (.int v5)], [], M) r M') (v3 : Int32) (v4 : Int32) (v5 : Int32) (M : am_M) (h : f_X10_fair_39B N v1 v2 k39 v3 v4 v5 M = some (r, M')) : mR z me_X10_fair (39, [some (.ref 0), some (.int v1), some (.int v2), some (.int v3), some (.int v4), some (.int v5)], [], M) r M' := by
  unfold f_X10_fair_39B at h
  refine am_R.go 3 (q' := (45, [some (.ref 0), some (.int v1), some (.int v2), some (.int v3), some (.int v4), some (.int v5)], [.int (M 0 38), .int v5], M)) rfl trivial ?_
  rcases am_it h with ⟨hc, h⟩ | ⟨hc, h⟩
  · refine am_R.bt rfl rfl hc ?_
    refine am_R.go 2 (q' := (107, [some (.ref 0), some (.int v1), some (.int v2), some (.int v3), some (.int v4), some (.int v5)], [.int (M 0 38)], M)) rfl trivial ?_
    rcases am_it h with ⟨hc, h⟩ | ⟨hc, h⟩
    · refine am_R.cn rfl rfl (fun q => q hc) ?_
      refine am_R.go 5 (q' := (117, [some (.ref 0), some (.int v1), some (.int v2), some (.int v3), some (.int v4), some (.int v5)], [.int (M 0 41), .int 0, .int v1, .ref 0], M)) rfl trivial ?_
      obtain ⟨r117, M117, hz, h⟩ := am_bi_s h
      refine am_R.call (e' := me_X10_worthBy) (as := [.ref 0, .int v1, .int 0, .int (M 0 41)]) (rest := []) rfl rfl (Nat.le_of_ble_eq_true rfl) (t_X10_worthBy z N v1 0 (M 0 41) _ hz) ?_
      refine am_R.go 2 (q' := (122, [some (.ref 0), some (.int v1), some (.int v2), some (.int v3), some (.int v4), some (.int v5)], [.int v2, .int 1, .int r117], M117)) rfl trivial ?_
      obtain ⟨r122, M122, hz, h⟩ := am_bi_s h
      refine am_R.call (e' := me_X10_fraction) (as := [.int r117, .int 1, .int v2]) (rest := []) rfl rfl (Nat.le_of_ble_eq_true rfl) (t_X10_fraction z N r117 1 v2 _ hz) ?_
      refine am_R.go 1 (q' := (135, [some (.ref 0), some (.int v1), some (.int v2), some (.int v3), some (.int v4), some (.int v5)], [.int r122], M122)) rfl trivial ?_
      cases h
      exact am_R.ret rfl rfl trivial
    · refine am_R.ct rfl rfl hc ?_
      refine am_R.go 3 (q' := (132, [some (.ref 0), some (.int v1), some (.int v2), some (.int v3), some (.int v4), some (.int v5)], [.int v2, .int v4, .int v3], M)) rfl trivial ?_
      obtain ⟨r132, M132, hz, h⟩ := am_bi_s h
      refine am_R.call (e' := me_X10_fraction) (as := [.int v3, .int v4, .int v2]) (rest := []) rfl rfl (Nat.le_of_ble_eq_true rfl) (t_X10_fraction z N v3 v4 v2 _ hz) ?_
      cases h
      exact am_R.ret rfl rfl trivial
  · refine am_R.bn rfl rfl hc ?_
    obtain ⟨hC, h⟩ := am_gd h
    refine am_R.go 19 (q' := (75, [some (.ref 0), some (.int v1), some (.int v2), some (.int v3), some (.int v4), some (.int v5)], [.int (M 0 41), .int (M 15 ((2 * v5).toNatClampNeg)), .int v1, .ref 0, .int (M 15 (((2 * v5) + 1).toNatClampNeg)), .int v3], M)) rfl ⟨hC.1, hC.2, trivial⟩ ?_
    obtain ⟨r75, M75, hz, h⟩ := am_bi_s h
    refine am_R.call (e' := me_X10_worthBy) (as := [.ref 0, .int v1, .int (M 15 ((2 * v5).toNatClampNeg)), .int (M 0 41)]) (rest := [.int (M 15 (((2 * v5) + 1).toNatClampNeg)), .int v3]) rfl rfl (Nat.le_of_ble_eq_true rfl) (t_X10_worthBy z N v1 (M 15 ((2 * v5).toNatClampNeg)) (M 0 41) _ hz) ?_
    obtain ⟨hC, h⟩ := am_gd h
    refine am_R.go 16 (q' := (39, [some (.ref 0), some (.int v1), some (.int v2), some (.int (v3 + ((M 15 (((2 * v5) + 1).toNatClampNeg)) * r75))), some (.int (v4 + (M75 15 (((2 * v5) + 1).toNatClampNeg)))), some (.int (v5 + 1))], [], M75)) rfl ⟨hC, trivial⟩ ?_
    exact hk39 (v3 + ((M 15 (((2 * v5) + 1).toNatClampNeg)) * r75)) (v4 + (M75 15 (((2 * v5) + 1).toNatClampNeg))) (v5 + 1) _ h
set_option maxRecDepth 100000 in
theorem t_X10_fair_39 (z : Value) (N : Nat) (v1 : Int32) (v2 : Int32) {r : Except Nat (Option Value)} {M' : am_M} : ∀ (n : Nat) (v3 : Int32) (v4 : Int32) (v5 : Int32) (M : am_M), f_X10_fair_39 N v1 v2 n v3 v4 v5 M = some (r, M') → mR z me_X10_fair (39, [some (.ref 0), some (.int v1), some (.int v2), some (.int v3), some (.int v4), some (.int v5)], [], M) r M' := by
  intro n
  induction n with
  | zero => intro v3 v4 v5 M h; cases h
  | succ n ih => intro v3 v4 v5 M h; exact t_X10_fair_39B z N v1 v2 _ ih v3 v4 v5 M h
def f_X10_fair (N : Nat) (p1 : Int32) (p2 : Int32) (M : am_M) : Option (Except Nat (Option Value) × am_M) :=
  am_bi (f_X10_isField N p1 1 (am_up M 0 0 0)) fun r8 M8 =>
    if r8 = 0 then
      some (.ok (some (.int 0)), M8)
    else
      am_bi (f_X10_within N p2 0 1 M8) fun r18 M18 =>
        am_bi (f_X10_may N r18 2 2 M18) fun r23 M23 =>
          if r23 = 0 then
            some (.ok (some (.int 0)), M23)
          else
            f_X10_fair_39 N p1 p2 N 0 0 0 M23
set_option maxRecDepth 100000 in
theorem t_X10_fair (z : Value) (N : Nat) (p1 : Int32) (p2 : Int32) (M : am_M) {r : Except Nat (Option Value)} {M' : am_M} (h : f_X10_fair N p1 p2 M = some (r, M')) : mR z me_X10_fair (0, [some (.ref 0), some (.int p1), some (.int p2), none, none, none], [], M) r M' := by
  unfold f_X10_fair at h
  refine am_R.go 6 (q' := (8, [some (.ref 0), some (.int p1), some (.int p2), none, none, none], [.int 1, .int p1, .ref 0], am_up M 0 0 0)) rfl trivial ?_
  obtain ⟨r8, M8, hz, h⟩ := am_bi_s h
  refine am_R.call (e' := me_X10_isField) (as := [.ref 0, .int p1, .int 1]) (rest := []) rfl rfl (Nat.le_of_ble_eq_true rfl) (t_X10_isField z N p1 1 _ hz) ?_
  rcases am_it h with ⟨hc, h⟩ | ⟨hc, h⟩
  · refine am_R.ct rfl rfl hc ?_
    refine am_R.go 1 (q' := (30, [some (.ref 0), some (.int p1), some (.int p2), none, none, none], [.int 0], M8)) rfl trivial ?_
    cases h
    exact am_R.ret rfl rfl trivial
  · refine am_R.cn rfl rfl hc ?_
    refine am_R.go 4 (q' := (18, [some (.ref 0), some (.int p1), some (.int p2), none, none, none], [.int 1, .int 0, .int p2, .ref 0], M8)) rfl trivial ?_
    obtain ⟨r18, M18, hz, h⟩ := am_bi_s h
    refine am_R.call (e' := me_X10_within) (as := [.int p2, .int 0, .int 1]) (rest := [.ref 0]) rfl rfl (Nat.le_of_ble_eq_true rfl) (t_X10_within z N p2 0 1 _ hz) ?_
    refine am_R.go 2 (q' := (23, [some (.ref 0), some (.int p1), some (.int p2), none, none, none], [.int 2, .int 2, .int r18, .ref 0], M18)) rfl trivial ?_
    obtain ⟨r23, M23, hz, h⟩ := am_bi_s h
    refine am_R.call (e' := me_X10_may) (as := [.ref 0, .int r18, .int 2, .int 2]) (rest := []) rfl rfl (Nat.le_of_ble_eq_true rfl) (t_X10_may z N r18 2 2 _ hz) ?_
    rcases am_it h with ⟨hc, h⟩ | ⟨hc, h⟩
    · refine am_R.cn rfl rfl (fun q => q hc) ?_
      refine am_R.go 1 (q' := (30, [some (.ref 0), some (.int p1), some (.int p2), none, none, none], [.int 0], M23)) rfl trivial ?_
      cases h
      exact am_R.ret rfl rfl trivial
    · refine am_R.ct rfl rfl hc ?_
      refine am_R.go 6 (q' := (39, [some (.ref 0), some (.int p1), some (.int p2), some (.int 0), some (.int 0), some (.int 0)], [], M23)) rfl trivial ?_
      exact t_X10_fair_39 z N p1 p2 N 0 0 0 _ h
def f_X10_trade_71B (N : Nat) (v1 : Int32) (v2 : Int32) (v5 : Int32) (v6 : Int32) (k39 : Int32 → Int32 → Int32 → am_M → Option (Except Nat (Option Value) × am_M)) (k71 : Int32 → Int32 → Int32 → am_M → Option (Except Nat (Option Value) × am_M)) (v3 : Int32) (v4 : Int32) (v7 : Int32) (M : am_M) : Option (Except Nat (Option Value) × am_M) :=
  if (M 0 38) ≤ v7 then
    k39 v3 v4 (v5 + 1) M
  else
    if am_in (2 * v7) 8 then
      am_bi (f_X10_worthBy N v1 (M 15 ((2 * v7).toNatClampNeg)) (M 0 41) M) fun r95 M95 =>
        if v4 < (r95 - v6) then
          k71 ((10 * v5) + v7) (r95 - v6) (v7 + 1) M95
        else
          k71 v3 v4 (v7 + 1) M95
    else none
def f_X10_trade_71 (N : Nat) (v1 : Int32) (v2 : Int32) (v5 : Int32) (v6 : Int32) (k39 : Int32 → Int32 → Int32 → am_M → Option (Except Nat (Option Value) × am_M)) : Nat → Int32 → Int32 → Int32 → am_M → Option (Except Nat (Option Value) × am_M)
  | 0 => fun _ _ _ _ => none
  | n + 1 => f_X10_trade_71B N v1 v2 v5 v6 k39 (f_X10_trade_71 N v1 v2 v5 v6 k39 n)
set_option maxRecDepth 100000 in
theorem t_X10_trade_71B (z : Value) (N : Nat) (v1 : Int32) (v2 : Int32) (v5 : Int32) (v6 : Int32) (k39 : Int32 → Int32 → Int32 → am_M → Option (Except Nat (Option Value) × am_M)) {r : Except Nat (Option Value)} {M' : am_M} (hk39 : ∀ (v3 : Int32) (v4 : Int32) (v5 : Int32) (d6 : Option Value) (d7 : Option Value) (d8 : Option Value) (M : am_M), k39 v3 v4 v5 M = some (r, M') → mR z me_X10_trade (39, [some (.ref 0), some (.int v1), some (.int v2), some (.int v3), some (.int v4), some (.int v5), d6, d7, d8], [], M) r M') (k71 : Int32 → Int32 → Int32 → am_M → Option (Except Nat (Option Value) × am_M)) (hk71 : ∀ (v3 : Int32) (v4 : Int32) (v7 : Int32) (d8 : Option Value) (M : am_M), k71 v3 v4 v7 M = some (r, M') → mR z me_X10_trade (71, [some (.ref 0), some (.int v1), some (.int v2), some (.int v3), some (.int v4), some (.int v5), some (.int v6), some (.int v7), d8], [], M) r M') (v3 : Int32) (v4 : Int32) (v7 : Int32) (d8 : Option Value) (M : am_M) (h : f_X10_trade_71B N v1 v2 v5 v6 k39 k71 v3 v4 v7 M = some (r, M')) : mR z me_X10_trade (71, [some (.ref 0), some (.int v1), some (.int v2), some (.int v3), some (.int v4), some (.int v5), some (.int v6), some (.int v7), d8], [], M) r M' := by
  unfold f_X10_trade_71B at h
  refine am_R.go 3 (q' := (77, [some (.ref 0), some (.int v1), some (.int v2), some (.int v3), some (.int v4), some (.int v5), some (.int v6), some (.int v7), d8], [.int (M 0 38), .int v7], M)) rfl trivial ?_
  rcases am_it h with ⟨hc, h⟩ | ⟨hc, h⟩
  · refine am_R.bt rfl rfl hc ?_
    refine am_R.go 2 (q' := (39, [some (.ref 0), some (.int v1), some (.int v2), some (.int v3), some (.int v4), some (.int (v5 + 1)), some (.int v6), some (.int v7), d8], [], M)) rfl trivial ?_
    exact hk39 v3 v4 (v5 + 1) _ _ _ _ h
  · refine am_R.bn rfl rfl hc ?_
    obtain ⟨hC, h⟩ := am_gd h
    refine am_R.go 10 (q' := (95, [some (.ref 0), some (.int v1), some (.int v2), some (.int v3), some (.int v4), some (.int v5), some (.int v6), some (.int v7), d8], [.int (M 0 41), .int (M 15 ((2 * v7).toNatClampNeg)), .int v1, .ref 0], M)) rfl ⟨hC, trivial⟩ ?_
    obtain ⟨r95, M95, hz, h⟩ := am_bi_s h
    refine am_R.call (e' := me_X10_worthBy) (as := [.ref 0, .int v1, .int (M 15 ((2 * v7).toNatClampNeg)), .int (M 0 41)]) (rest := []) rfl rfl (Nat.le_of_ble_eq_true rfl) (t_X10_worthBy z N v1 (M 15 ((2 * v7).toNatClampNeg)) (M 0 41) _ hz) ?_
    refine am_R.go 5 (q' := (107, [some (.ref 0), some (.int v1), some (.int v2), some (.int v3), some (.int v4), some (.int v5), some (.int v6), some (.int v7), some (.int (r95 - v6))], [.int v4, .int (r95 - v6)], M95)) rfl trivial ?_
    rcases am_it h with ⟨hc, h⟩ | ⟨hc, h⟩
    · refine am_R.bt rfl rfl hc ?_
      refine am_R.go 10 (q' := (71, [some (.ref 0), some (.int v1), some (.int v2), some (.int ((10 * v5) + v7)), some (.int (r95 - v6)), some (.int v5), some (.int v6), some (.int (v7 + 1)), some (.int (r95 - v6))], [], M95)) rfl trivial ?_
      exact hk71 ((10 * v5) + v7) (r95 - v6) (v7 + 1) _ _ h
    · refine am_R.bn rfl rfl hc ?_
      refine am_R.go 3 (q' := (71, [some (.ref 0), some (.int v1), some (.int v2), some (.int v3), some (.int v4), some (.int v5), some (.int v6), some (.int (v7 + 1)), some (.int (r95 - v6))], [], M95)) rfl trivial ?_
      exact hk71 v3 v4 (v7 + 1) _ _ h
set_option maxRecDepth 100000 in
theorem t_X10_trade_71 (z : Value) (N : Nat) (v1 : Int32) (v2 : Int32) (v5 : Int32) (v6 : Int32) (k39 : Int32 → Int32 → Int32 → am_M → Option (Except Nat (Option Value) × am_M)) {r : Except Nat (Option Value)} {M' : am_M} (hk39 : ∀ (v3 : Int32) (v4 : Int32) (v5 : Int32) (d6 : Option Value) (d7 : Option Value) (d8 : Option Value) (M : am_M), k39 v3 v4 v5 M = some (r, M') → mR z me_X10_trade (39, [some (.ref 0), some (.int v1), some (.int v2), some (.int v3), some (.int v4), some (.int v5), d6, d7, d8], [], M) r M') : ∀ (n : Nat) (v3 : Int32) (v4 : Int32) (v7 : Int32) (d8 : Option Value) (M : am_M), f_X10_trade_71 N v1 v2 v5 v6 k39 n v3 v4 v7 M = some (r, M') → mR z me_X10_trade (71, [some (.ref 0), some (.int v1), some (.int v2), some (.int v3), some (.int v4), some (.int v5), some (.int v6), some (.int v7), d8], [], M) r M' := by
  intro n
  induction n with
  | zero => intro v3 v4 v7 d8 M h; cases h
  | succ n ih => intro v3 v4 v7 d8 M h; exact t_X10_trade_71B z N v1 v2 v5 v6 k39 hk39 _ ih v3 v4 v7 d8 M h
def f_X10_trade_39B (N : Nat) (v1 : Int32) (v2 : Int32) (k39 : Int32 → Int32 → Int32 → am_M → Option (Except Nat (Option Value) × am_M)) (v3 : Int32) (v4 : Int32) (v5 : Int32) (M : am_M) : Option (Except Nat (Option Value) × am_M) :=
  if (M 0 38) ≤ v5 then
    if v2 = 0 then
      some (.ok (some (.int v4)), M)
    else
      some (.ok (some (.int v3)), M)
  else
    if am_in (2 * v5) 8 then
      am_bi (f_X10_worthBy N v1 (M 15 ((2 * v5).toNatClampNeg)) (M 0 41) M) fun r63 M63 =>
        f_X10_trade_71 N v1 v2 v5 r63 k39 N v3 v4 0 M63
    else none
def f_X10_trade_39 (N : Nat) (v1 : Int32) (v2 : Int32) : Nat → Int32 → Int32 → Int32 → am_M → Option (Except Nat (Option Value) × am_M)
  | 0 => fun _ _ _ _ => none
  | n + 1 => f_X10_trade_39B N v1 v2 (f_X10_trade_39 N v1 v2 n)
set_option maxRecDepth 100000 in
theorem t_X10_trade_39B (z : Value) (N : Nat) (v1 : Int32) (v2 : Int32) {r : Except Nat (Option Value)} {M' : am_M} (k39 : Int32 → Int32 → Int32 → am_M → Option (Except Nat (Option Value) × am_M)) (hk39 : ∀ (v3 : Int32) (v4 : Int32) (v5 : Int32) (d6 : Option Value) (d7 : Option Value) (d8 : Option Value) (M : am_M), k39 v3 v4 v5 M = some (r, M') → mR z me_X10_trade (39, [some (.ref 0), some (.int v1), some (.int v2), some (.int v3), some (.int v4), some (.int v5), d6, d7, d8], [], M) r M') (v3 : Int32) (v4 : Int32) (v5 : Int32) (d6 : Option Value) (d7 : Option Value) (d8 : Option Value) (M : am_M) (h : f_X10_trade_39B N v1 v2 k39 v3 v4 v5 M = some (r, M')) : mR z me_X10_trade (39, [some (.ref 0), some (.int v1), some (.int v2), some (.int v3), some (.int v4), some (.int v5), d6, d7, d8], [], M) r M' := by
  unfold f_X10_trade_39B at h
  refine am_R.go 3 (q' := (45, [some (.ref 0), some (.int v1), some (.int v2), some (.int v3), some (.int v4), some (.int v5), d6, d7, d8], [.int (M 0 38), .int v5], M)) rfl trivial ?_
  rcases am_it h with ⟨hc, h⟩ | ⟨hc, h⟩
  · refine am_R.bt rfl rfl hc ?_
    refine am_R.go 1 (q' := (139, [some (.ref 0), some (.int v1), some (.int v2), some (.int v3), some (.int v4), some (.int v5), d6, d7, d8], [.int v2], M)) rfl trivial ?_
    rcases am_it h with ⟨hc, h⟩ | ⟨hc, h⟩
    · refine am_R.cn rfl rfl (fun q => q hc) ?_
      refine am_R.go 2 (q' := (148, [some (.ref 0), some (.int v1), some (.int v2), some (.int v3), some (.int v4), some (.int v5), d6, d7, d8], [.int v4], M)) rfl trivial ?_
      cases h
      exact am_R.ret rfl rfl trivial
    · refine am_R.ct rfl rfl hc ?_
      refine am_R.go 1 (q' := (148, [some (.ref 0), some (.int v1), some (.int v2), some (.int v3), some (.int v4), some (.int v5), d6, d7, d8], [.int v3], M)) rfl trivial ?_
      cases h
      exact am_R.ret rfl rfl trivial
  · refine am_R.bn rfl rfl hc ?_
    obtain ⟨hC, h⟩ := am_gd h
    refine am_R.go 10 (q' := (63, [some (.ref 0), some (.int v1), some (.int v2), some (.int v3), some (.int v4), some (.int v5), d6, d7, d8], [.int (M 0 41), .int (M 15 ((2 * v5).toNatClampNeg)), .int v1, .ref 0], M)) rfl ⟨hC, trivial⟩ ?_
    obtain ⟨r63, M63, hz, h⟩ := am_bi_s h
    refine am_R.call (e' := me_X10_worthBy) (as := [.ref 0, .int v1, .int (M 15 ((2 * v5).toNatClampNeg)), .int (M 0 41)]) (rest := []) rfl rfl (Nat.le_of_ble_eq_true rfl) (t_X10_worthBy z N v1 (M 15 ((2 * v5).toNatClampNeg)) (M 0 41) _ hz) ?_
    refine am_R.go 3 (q' := (71, [some (.ref 0), some (.int v1), some (.int v2), some (.int v3), some (.int v4), some (.int v5), some (.int r63), some (.int 0), d8], [], M63)) rfl trivial ?_
    exact t_X10_trade_71 z N v1 v2 v5 r63 k39 hk39 N v3 v4 0 _ _ h
set_option maxRecDepth 100000 in
theorem t_X10_trade_39 (z : Value) (N : Nat) (v1 : Int32) (v2 : Int32) {r : Except Nat (Option Value)} {M' : am_M} : ∀ (n : Nat) (v3 : Int32) (v4 : Int32) (v5 : Int32) (d6 : Option Value) (d7 : Option Value) (d8 : Option Value) (M : am_M), f_X10_trade_39 N v1 v2 n v3 v4 v5 M = some (r, M') → mR z me_X10_trade (39, [some (.ref 0), some (.int v1), some (.int v2), some (.int v3), some (.int v4), some (.int v5), d6, d7, d8], [], M) r M' := by
  intro n
  induction n with
  | zero => intro v3 v4 v5 d6 d7 d8 M h; cases h
  | succ n ih => intro v3 v4 v5 d6 d7 d8 M h; exact t_X10_trade_39B z N v1 v2 _ ih v3 v4 v5 d6 d7 d8 M h
def f_X10_trade (N : Nat) (p1 : Int32) (p2 : Int32) (M : am_M) : Option (Except Nat (Option Value) × am_M) :=
  am_bi (f_X10_isField N p1 1 (am_up M 0 0 0)) fun r8 M8 =>
    if r8 = 0 then
      some (.ok (some (.int 0)), M8)
    else
      am_bi (f_X10_within N p2 0 1 M8) fun r18 M18 =>
        am_bi (f_X10_may N r18 2 2 M18) fun r23 M23 =>
          if r23 = 0 then
            some (.ok (some (.int 0)), M23)
          else
            f_X10_trade_39 N p1 p2 N (-1) 0 0 M23
set_option maxRecDepth 100000 in
theorem t_X10_trade (z : Value) (N : Nat) (p1 : Int32) (p2 : Int32) (M : am_M) {r : Except Nat (Option Value)} {M' : am_M} (h : f_X10_trade N p1 p2 M = some (r, M')) : mR z me_X10_trade (0, [some (.ref 0), some (.int p1), some (.int p2), none, none, none, none, none, none], [], M) r M' := by
  unfold f_X10_trade at h
  refine am_R.go 6 (q' := (8, [some (.ref 0), some (.int p1), some (.int p2), none, none, none, none, none, none], [.int 1, .int p1, .ref 0], am_up M 0 0 0)) rfl trivial ?_
  obtain ⟨r8, M8, hz, h⟩ := am_bi_s h
  refine am_R.call (e' := me_X10_isField) (as := [.ref 0, .int p1, .int 1]) (rest := []) rfl rfl (Nat.le_of_ble_eq_true rfl) (t_X10_isField z N p1 1 _ hz) ?_
  rcases am_it h with ⟨hc, h⟩ | ⟨hc, h⟩
  · refine am_R.ct rfl rfl hc ?_
    refine am_R.go 1 (q' := (30, [some (.ref 0), some (.int p1), some (.int p2), none, none, none, none, none, none], [.int 0], M8)) rfl trivial ?_
    cases h
    exact am_R.ret rfl rfl trivial
  · refine am_R.cn rfl rfl hc ?_
    refine am_R.go 4 (q' := (18, [some (.ref 0), some (.int p1), some (.int p2), none, none, none, none, none, none], [.int 1, .int 0, .int p2, .ref 0], M8)) rfl trivial ?_
    obtain ⟨r18, M18, hz, h⟩ := am_bi_s h
    refine am_R.call (e' := me_X10_within) (as := [.int p2, .int 0, .int 1]) (rest := [.ref 0]) rfl rfl (Nat.le_of_ble_eq_true rfl) (t_X10_within z N p2 0 1 _ hz) ?_
    refine am_R.go 2 (q' := (23, [some (.ref 0), some (.int p1), some (.int p2), none, none, none, none, none, none], [.int 2, .int 2, .int r18, .ref 0], M18)) rfl trivial ?_
    obtain ⟨r23, M23, hz, h⟩ := am_bi_s h
    refine am_R.call (e' := me_X10_may) (as := [.ref 0, .int r18, .int 2, .int 2]) (rest := []) rfl rfl (Nat.le_of_ble_eq_true rfl) (t_X10_may z N r18 2 2 _ hz) ?_
    rcases am_it h with ⟨hc, h⟩ | ⟨hc, h⟩
    · refine am_R.cn rfl rfl (fun q => q hc) ?_
      refine am_R.go 1 (q' := (30, [some (.ref 0), some (.int p1), some (.int p2), none, none, none, none, none, none], [.int 0], M23)) rfl trivial ?_
      cases h
      exact am_R.ret rfl rfl trivial
    · refine am_R.ct rfl rfl hc ?_
      refine am_R.go 6 (q' := (39, [some (.ref 0), some (.int p1), some (.int p2), some (.int (-1)), some (.int 0), some (.int 0), none, none, none], [], M23)) rfl trivial ?_
      exact t_X10_trade_39 z N p1 p2 N (-1) 0 0 _ _ _ _ h
def f_X10_sideOf (N : Nat) (p0 : Int32) (p1 : Int32) (M : am_M) : Option (Except Nat (Option Value) × am_M) :=
  if p0 ≤ p1 then
    if p0 = p1 then
      some (.ok (some (.int 0)), M)
    else
      some (.ok (some (.int (-1))), M)
  else
    some (.ok (some (.int 1)), M)
set_option maxRecDepth 100000 in
theorem t_X10_sideOf (z : Value) (N : Nat) (p0 : Int32) (p1 : Int32) (M : am_M) {r : Except Nat (Option Value)} {M' : am_M} (h : f_X10_sideOf N p0 p1 M = some (r, M')) : mR z me_X10_sideOf (0, [some (.int p0), some (.int p1)], [], M) r M' := by
  unfold f_X10_sideOf at h
  refine am_R.go 2 (q' := (2, [some (.int p0), some (.int p1)], [.int p1, .int p0], M)) rfl trivial ?_
  rcases am_it h with ⟨hc, h⟩ | ⟨hc, h⟩
  · refine am_R.bt rfl rfl hc ?_
    refine am_R.go 2 (q' := (11, [some (.int p0), some (.int p1)], [.int p1, .int p0], M)) rfl trivial ?_
    rcases am_it h with ⟨hc, h⟩ | ⟨hc, h⟩
    · refine am_R.bn rfl rfl (fun q => q hc) ?_
      refine am_R.go 2 (q' := (19, [some (.int p0), some (.int p1)], [.int 0], M)) rfl trivial ?_
      cases h
      exact am_R.ret rfl rfl trivial
    · refine am_R.bt rfl rfl hc ?_
      refine am_R.go 1 (q' := (19, [some (.int p0), some (.int p1)], [.int (-1)], M)) rfl trivial ?_
      cases h
      exact am_R.ret rfl rfl trivial
  · refine am_R.bn rfl rfl hc ?_
    refine am_R.go 2 (q' := (19, [some (.int p0), some (.int p1)], [.int 1], M)) rfl trivial ?_
    cases h
    exact am_R.ret rfl rfl trivial
