def f_X10_wonders_2B (N : Nat) (v1 : Int32) (v2 : Int32) (k2 : Int32 → am_M → Option (Except Nat (Option Value) × am_M)) (v3 : Int32) (M : am_M) : Option (Except Nat (Option Value) × am_M) :=
  if (M 0 39) ≤ v3 then
    some (.ok none, M)
  else
    if ((v1 >>> (v3 &&& 31)) &&& 1) = 1 then
      if am_in v3 8 then
        if v2 = 0 then
          if am_in (M 16 (v3.toNatClampNeg)) 100 then
            k2 (v3 + 1) (am_up M 21 ((M 16 (v3.toNatClampNeg)).toNatClampNeg) 0)
          else none
        else
          if am_in (M 16 (v3.toNatClampNeg)) 100 then
            k2 (v3 + 1) (am_up M 21 ((M 16 (v3.toNatClampNeg)).toNatClampNeg) 5)
          else none
      else none
    else
      k2 (v3 + 1) M
def f_X10_wonders_2 (N : Nat) (v1 : Int32) (v2 : Int32) : Nat → Int32 → am_M → Option (Except Nat (Option Value) × am_M)
  | 0 => fun _ _ => none
  | n + 1 => f_X10_wonders_2B N v1 v2 (f_X10_wonders_2 N v1 v2 n)
set_option maxRecDepth 100000 in
theorem t_X10_wonders_2B (z : Value) (N : Nat) (v1 : Int32) (v2 : Int32) {r : Except Nat (Option Value)} {M' : am_M} (k2 : Int32 → am_M → Option (Except Nat (Option Value) × am_M)) (hk2 : ∀ (v3 : Int32) (M : am_M), k2 v3 M = some (r, M') → mR z me_X10_wonders (2, [some (.ref 0), some (.int v1), some (.int v2), some (.int v3)], [], M) r M') (v3 : Int32) (M : am_M) (h : f_X10_wonders_2B N v1 v2 k2 v3 M = some (r, M')) : mR z me_X10_wonders (2, [some (.ref 0), some (.int v1), some (.int v2), some (.int v3)], [], M) r M' := by
  unfold f_X10_wonders_2B at h
  refine am_R.go 3 (q' := (7, [some (.ref 0), some (.int v1), some (.int v2), some (.int v3)], [.int (M 0 39), .int v3], M)) rfl trivial ?_
  rcases am_it h with ⟨hc, h⟩ | ⟨hc, h⟩
  · refine am_R.bt rfl rfl hc ?_
    cases h
    exact am_R.ret rfl rfl trivial
  · refine am_R.bn rfl rfl hc ?_
    refine am_R.go 6 (q' := (16, [some (.ref 0), some (.int v1), some (.int v2), some (.int v3)], [.int 1, .int ((v1 >>> (v3 &&& 31)) &&& 1)], M)) rfl trivial ?_
    rcases am_it h with ⟨hc, h⟩ | ⟨hc, h⟩
    · refine am_R.bn rfl rfl (fun q => q hc) ?_
      obtain ⟨hC, h⟩ := am_gd h
      refine am_R.go 7 (q' := (30, [some (.ref 0), some (.int v1), some (.int v2), some (.int v3)], [.int v2, .int (M 16 (v3.toNatClampNeg)), .ref 21], M)) rfl ⟨hC, trivial⟩ ?_
      rcases am_it h with ⟨hc, h⟩ | ⟨hc, h⟩
      · refine am_R.ct rfl rfl hc ?_
        obtain ⟨hC, h⟩ := am_gd h
        refine am_R.go 4 (q' := (2, [some (.ref 0), some (.int v1), some (.int v2), some (.int (v3 + 1))], [], am_up M 21 ((M 16 (v3.toNatClampNeg)).toNatClampNeg) 0)) rfl ⟨hC, trivial⟩ ?_
        exact hk2 (v3 + 1) _ h
      · refine am_R.cn rfl rfl hc ?_
        obtain ⟨hC, h⟩ := am_gd h
        refine am_R.go 5 (q' := (2, [some (.ref 0), some (.int v1), some (.int v2), some (.int (v3 + 1))], [], am_up M 21 ((M 16 (v3.toNatClampNeg)).toNatClampNeg) 5)) rfl ⟨hC, trivial⟩ ?_
        exact hk2 (v3 + 1) _ h
    · refine am_R.bt rfl rfl hc ?_
      refine am_R.go 2 (q' := (2, [some (.ref 0), some (.int v1), some (.int v2), some (.int (v3 + 1))], [], M)) rfl trivial ?_
      exact hk2 (v3 + 1) _ h
set_option maxRecDepth 100000 in
theorem t_X10_wonders_2 (z : Value) (N : Nat) (v1 : Int32) (v2 : Int32) {r : Except Nat (Option Value)} {M' : am_M} : ∀ (n : Nat) (v3 : Int32) (M : am_M), f_X10_wonders_2 N v1 v2 n v3 M = some (r, M') → mR z me_X10_wonders (2, [some (.ref 0), some (.int v1), some (.int v2), some (.int v3)], [], M) r M' := by
  intro n
  induction n with
  | zero => intro v3 M h; cases h
  | succ n ih => intro v3 M h; exact t_X10_wonders_2B z N v1 v2 _ ih v3 M h
def f_X10_wonders (N : Nat) (p1 : Int32) (p2 : Int32) (M : am_M) : Option (Except Nat (Option Value) × am_M) :=
  f_X10_wonders_2 N p1 p2 N 0 M
set_option maxRecDepth 100000 in
theorem t_X10_wonders (z : Value) (N : Nat) (p1 : Int32) (p2 : Int32) (M : am_M) {r : Except Nat (Option Value)} {M' : am_M} (h : f_X10_wonders N p1 p2 M = some (r, M')) : mR z me_X10_wonders (0, [some (.ref 0), some (.int p1), some (.int p2), none], [], M) r M' := by
  unfold f_X10_wonders at h
  refine am_R.go 2 (q' := (2, [some (.ref 0), some (.int p1), some (.int p2), some (.int 0)], [], M)) rfl trivial ?_
  exact t_X10_wonders_2 z N p1 p2 N 0 _ h
def f_X10_explains_117 (N : Nat) (v1 : Int32) (v2 : Int32) (M : am_M) : Option (Except Nat (Option Value) × am_M) :=
  am_bv (f_X10_wonders N v1 0 M) fun M120 =>
    if am_z v2 then some (.ok (some (.int v2)), M120) else none
set_option maxRecDepth 100000 in
theorem t_X10_explains_117 (z : Value) (N : Nat) {r : Except Nat (Option Value)} {M' : am_M} (v1 : Int32) (v2 : Int32) (d3 : Option Value) (d4 : Option Value) (d5 : Option Value) (M : am_M) (h : f_X10_explains_117 N v1 v2 M = some (r, M')) : mR z me_X10_explains (117, [some (.ref 0), some (.int v1), some (.int v2), d3, d4, d5], [], M) r M' := by
  unfold f_X10_explains_117 at h
  refine am_R.go 3 (q' := (120, [some (.ref 0), some (.int v1), some (.int v2), d3, d4, d5], [.int 0, .int v1, .ref 0], M)) rfl trivial ?_
  obtain ⟨M120, hz, h⟩ := am_bv_s h
  refine am_R.call (e' := me_X10_wonders) (as := [.ref 0, .int v1, .int 0]) (rest := []) rfl rfl (Nat.le_of_ble_eq_true rfl) (t_X10_wonders z N v1 0 _ hz) ?_
  refine am_R.go 1 (q' := (124, [some (.ref 0), some (.int v1), some (.int v2), d3, d4, d5], [.int v2], M120)) rfl trivial ?_
  obtain ⟨hC, h⟩ := am_gd h
  cases h
  exact am_R.ret rfl rfl hC
def f_X10_explains_45B (N : Nat) (v1 : Int32) (v3 : Int32) (k10 : Int32 → Int32 → am_M → Option (Except Nat (Option Value) × am_M)) (k45 : Int32 → Int32 → am_M → Option (Except Nat (Option Value) × am_M)) (v4 : Int32) (v5 : Int32) (M : am_M) : Option (Except Nat (Option Value) × am_M) :=
  if (M 0 48) ≤ v5 then
    if am_in ((3 * v3) + 2) 27 then
      if v4 = (M 25 (((3 * v3) + 2).toNatClampNeg)) then
        k10 1 (v3 + 1) M
      else
        k10 0 (v3 + 1) M
    else none
  else
    if am_in v5 24 ∧ am_in ((3 * v3) + 1) 27 then
      if (M 17 (v5.toNatClampNeg)) = (M 25 (((3 * v3) + 1).toNatClampNeg)) then
        k45 (v4 + 1) (v5 + 1) M
      else
        k45 (v4 + 0) (v5 + 1) M
    else none
def f_X10_explains_45 (N : Nat) (v1 : Int32) (v3 : Int32) (k10 : Int32 → Int32 → am_M → Option (Except Nat (Option Value) × am_M)) : Nat → Int32 → Int32 → am_M → Option (Except Nat (Option Value) × am_M)
  | 0 => fun _ _ _ => none
  | n + 1 => f_X10_explains_45B N v1 v3 k10 (f_X10_explains_45 N v1 v3 k10 n)
set_option maxRecDepth 100000 in
theorem t_X10_explains_45B (z : Value) (N : Nat) (v1 : Int32) (v3 : Int32) (k10 : Int32 → Int32 → am_M → Option (Except Nat (Option Value) × am_M)) {r : Except Nat (Option Value)} {M' : am_M} (hk10 : ∀ (v2 : Int32) (v3 : Int32) (d4 : Option Value) (d5 : Option Value) (M : am_M), k10 v2 v3 M = some (r, M') → mR z me_X10_explains (10, [some (.ref 0), some (.int v1), some (.int v2), some (.int v3), d4, d5], [], M) r M') (k45 : Int32 → Int32 → am_M → Option (Except Nat (Option Value) × am_M)) (hk45 : ∀ (v4 : Int32) (v5 : Int32) (d2 : Option Value) (M : am_M), k45 v4 v5 M = some (r, M') → mR z me_X10_explains (45, [some (.ref 0), some (.int v1), d2, some (.int v3), some (.int v4), some (.int v5)], [], M) r M') (v4 : Int32) (v5 : Int32) (d2 : Option Value) (M : am_M) (h : f_X10_explains_45B N v1 v3 k10 k45 v4 v5 M = some (r, M')) : mR z me_X10_explains (45, [some (.ref 0), some (.int v1), d2, some (.int v3), some (.int v4), some (.int v5)], [], M) r M' := by
  unfold f_X10_explains_45B at h
  refine am_R.go 3 (q' := (51, [some (.ref 0), some (.int v1), d2, some (.int v3), some (.int v4), some (.int v5)], [.int (M 0 48), .int v5], M)) rfl trivial ?_
  rcases am_it h with ⟨hc, h⟩ | ⟨hc, h⟩
  · refine am_R.bt rfl rfl hc ?_
    obtain ⟨hC, h⟩ := am_gd h
    refine am_R.go 9 (q' := (102, [some (.ref 0), some (.int v1), d2, some (.int v3), some (.int v4), some (.int v5)], [.int (M 25 (((3 * v3) + 2).toNatClampNeg)), .int v4], M)) rfl ⟨hC, trivial⟩ ?_
    rcases am_it h with ⟨hc, h⟩ | ⟨hc, h⟩
    · refine am_R.bn rfl rfl (fun q => q hc) ?_
      refine am_R.go 5 (q' := (10, [some (.ref 0), some (.int v1), some (.int 1), some (.int (v3 + 1)), some (.int v4), some (.int v5)], [], M)) rfl trivial ?_
      exact hk10 1 (v3 + 1) _ _ _ h
    · refine am_R.bt rfl rfl hc ?_
      refine am_R.go 4 (q' := (10, [some (.ref 0), some (.int v1), some (.int 0), some (.int (v3 + 1)), some (.int v4), some (.int v5)], [], M)) rfl trivial ?_
      exact hk10 0 (v3 + 1) _ _ _ h
  · refine am_R.bn rfl rfl hc ?_
    obtain ⟨hC, h⟩ := am_gd h
    refine am_R.go 13 (q' := (73, [some (.ref 0), some (.int v1), d2, some (.int v3), some (.int v4), some (.int v5)], [.int (M 25 (((3 * v3) + 1).toNatClampNeg)), .int (M 17 (v5.toNatClampNeg)), .int v4], M)) rfl ⟨hC.1, hC.2, trivial⟩ ?_
    rcases am_it h with ⟨hc, h⟩ | ⟨hc, h⟩
    · refine am_R.bn rfl rfl (fun q => q hc) ?_
      refine am_R.go 6 (q' := (45, [some (.ref 0), some (.int v1), d2, some (.int v3), some (.int (v4 + 1)), some (.int (v5 + 1))], [], M)) rfl trivial ?_
      exact hk45 (v4 + 1) (v5 + 1) _ _ h
    · refine am_R.bt rfl rfl hc ?_
      refine am_R.go 5 (q' := (45, [some (.ref 0), some (.int v1), d2, some (.int v3), some (.int (v4 + 0)), some (.int (v5 + 1))], [], M)) rfl trivial ?_
      exact hk45 (v4 + 0) (v5 + 1) _ _ h
set_option maxRecDepth 100000 in
theorem t_X10_explains_45 (z : Value) (N : Nat) (v1 : Int32) (v3 : Int32) (k10 : Int32 → Int32 → am_M → Option (Except Nat (Option Value) × am_M)) {r : Except Nat (Option Value)} {M' : am_M} (hk10 : ∀ (v2 : Int32) (v3 : Int32) (d4 : Option Value) (d5 : Option Value) (M : am_M), k10 v2 v3 M = some (r, M') → mR z me_X10_explains (10, [some (.ref 0), some (.int v1), some (.int v2), some (.int v3), d4, d5], [], M) r M') : ∀ (n : Nat) (v4 : Int32) (v5 : Int32) (d2 : Option Value) (M : am_M), f_X10_explains_45 N v1 v3 k10 n v4 v5 M = some (r, M') → mR z me_X10_explains (45, [some (.ref 0), some (.int v1), d2, some (.int v3), some (.int v4), some (.int v5)], [], M) r M' := by
  intro n
  induction n with
  | zero => intro v4 v5 d2 M h; cases h
  | succ n ih => intro v4 v5 d2 M h; exact t_X10_explains_45B z N v1 v3 k10 hk10 _ ih v4 v5 d2 M h
def f_X10_explains_10B (N : Nat) (v1 : Int32) (k10 : Int32 → Int32 → am_M → Option (Except Nat (Option Value) × am_M)) (v2 : Int32) (v3 : Int32) (M : am_M) : Option (Except Nat (Option Value) × am_M) :=
  if (M 0 60) ≤ v3 then
    f_X10_explains_117 N v1 v2 M
  else
    if v2 = 0 then
      f_X10_explains_117 N v1 v2 M
    else
      if am_in (3 * v3) 27 then
        am_bv (f_X10_shouts N (M 25 ((3 * v3).toNatClampNeg)) 0 (M 0 40) M) fun M36 =>
          f_X10_explains_45 N v1 v3 k10 N 0 0 M36
      else none
def f_X10_explains_10 (N : Nat) (v1 : Int32) : Nat → Int32 → Int32 → am_M → Option (Except Nat (Option Value) × am_M)
  | 0 => fun _ _ _ => none
  | n + 1 => f_X10_explains_10B N v1 (f_X10_explains_10 N v1 n)
set_option maxRecDepth 100000 in
theorem t_X10_explains_10B (z : Value) (N : Nat) (v1 : Int32) {r : Except Nat (Option Value)} {M' : am_M} (k10 : Int32 → Int32 → am_M → Option (Except Nat (Option Value) × am_M)) (hk10 : ∀ (v2 : Int32) (v3 : Int32) (d4 : Option Value) (d5 : Option Value) (M : am_M), k10 v2 v3 M = some (r, M') → mR z me_X10_explains (10, [some (.ref 0), some (.int v1), some (.int v2), some (.int v3), d4, d5], [], M) r M') (v2 : Int32) (v3 : Int32) (d4 : Option Value) (d5 : Option Value) (M : am_M) (h : f_X10_explains_10B N v1 k10 v2 v3 M = some (r, M')) : mR z me_X10_explains (10, [some (.ref 0), some (.int v1), some (.int v2), some (.int v3), d4, d5], [], M) r M' := by
  unfold f_X10_explains_10B at h
  refine am_R.go 3 (q' := (15, [some (.ref 0), some (.int v1), some (.int v2), some (.int v3), d4, d5], [.int (M 0 60), .int v3], M)) rfl trivial ?_
  rcases am_it h with ⟨hc, h⟩ | ⟨hc, h⟩
  · refine am_R.bt rfl rfl hc ?_
    exact t_X10_explains_117 z N v1 v2 _ _ _ _ h
  · refine am_R.bn rfl rfl hc ?_
    refine am_R.go 1 (q' := (19, [some (.ref 0), some (.int v1), some (.int v2), some (.int v3), d4, d5], [.int v2], M)) rfl trivial ?_
    rcases am_it h with ⟨hc, h⟩ | ⟨hc, h⟩
    · refine am_R.ct rfl rfl hc ?_
      exact t_X10_explains_117 z N v1 v2 _ _ _ _ h
    · refine am_R.cn rfl rfl hc ?_
      obtain ⟨hC, h⟩ := am_gd h
      refine am_R.go 10 (q' := (36, [some (.ref 0), some (.int v1), some (.int v2), some (.int v3), d4, d5], [.int (M 0 40), .int 0, .int (M 25 ((3 * v3).toNatClampNeg)), .ref 0], M)) rfl ⟨hC, trivial⟩ ?_
      obtain ⟨M36, hz, h⟩ := am_bv_s h
      refine am_R.call (e' := me_X10_shouts) (as := [.ref 0, .int (M 25 ((3 * v3).toNatClampNeg)), .int 0, .int (M 0 40)]) (rest := []) rfl rfl (Nat.le_of_ble_eq_true rfl) (t_X10_shouts z N (M 25 ((3 * v3).toNatClampNeg)) 0 (M 0 40) _ hz) ?_
      refine am_R.go 4 (q' := (45, [some (.ref 0), some (.int v1), some (.int v2), some (.int v3), some (.int 0), some (.int 0)], [], M36)) rfl trivial ?_
      exact t_X10_explains_45 z N v1 v3 k10 hk10 N 0 0 _ _ h
set_option maxRecDepth 100000 in
theorem t_X10_explains_10 (z : Value) (N : Nat) (v1 : Int32) {r : Except Nat (Option Value)} {M' : am_M} : ∀ (n : Nat) (v2 : Int32) (v3 : Int32) (d4 : Option Value) (d5 : Option Value) (M : am_M), f_X10_explains_10 N v1 n v2 v3 M = some (r, M') → mR z me_X10_explains (10, [some (.ref 0), some (.int v1), some (.int v2), some (.int v3), d4, d5], [], M) r M' := by
  intro n
  induction n with
  | zero => intro v2 v3 d4 d5 M h; cases h
  | succ n ih => intro v2 v3 d4 d5 M h; exact t_X10_explains_10B z N v1 _ ih v2 v3 d4 d5 M h
def f_X10_explains (N : Nat) (p1 : Int32) (M : am_M) : Option (Except Nat (Option Value) × am_M) :=
  am_bv (f_X10_wonders N p1 1 M) fun M3 =>
    f_X10_explains_10 N p1 N 1 0 M3
set_option maxRecDepth 100000 in
theorem t_X10_explains (z : Value) (N : Nat) (p1 : Int32) (M : am_M) {r : Except Nat (Option Value)} {M' : am_M} (h : f_X10_explains N p1 M = some (r, M')) : mR z me_X10_explains (0, [some (.ref 0), some (.int p1), none, none, none, none], [], M) r M' := by
  unfold f_X10_explains at h
  refine am_R.go 3 (q' := (3, [some (.ref 0), some (.int p1), none, none, none, none], [.int 1, .int p1, .ref 0], M)) rfl trivial ?_
  obtain ⟨M3, hz, h⟩ := am_bv_s h
  refine am_R.call (e' := me_X10_wonders) (as := [.ref 0, .int p1, .int 1]) (rest := []) rfl rfl (Nat.le_of_ble_eq_true rfl) (t_X10_wonders z N p1 1 _ hz) ?_
  refine am_R.go 4 (q' := (10, [some (.ref 0), some (.int p1), some (.int 1), some (.int 0), none, none], [], M3)) rfl trivial ?_
  exact t_X10_explains_10 z N p1 N 1 0 _ _ _ h
def f_X10_findSo_7B (N : Nat) (k7 : Int32 → am_M → Option (Except Nat (Option Value) × am_M)) (v1 : Int32) (M : am_M) : Option (Except Nat (Option Value) × am_M) :=
  if (1 <<< ((M 0 39) &&& 31)) ≤ v1 then
    some (.ok none, M)
  else
    am_bi (f_X10_explains N v1 M) fun r24 M24 =>
      if (am_in v1 256 ∧ am_z r24) ∧ am_in v1 256 then
        if ((am_up M24 26 (v1.toNatClampNeg) r24) 26 (v1.toNatClampNeg)) = 0 then
          k7 (v1 + 1) (am_up (am_up M24 26 (v1.toNatClampNeg) r24) 0 62 ((M24 0 62) + 0))
        else
          k7 (v1 + 1) (am_up (am_up M24 26 (v1.toNatClampNeg) r24) 0 62 ((M24 0 62) + 1))
      else none
def f_X10_findSo_7 (N : Nat) : Nat → Int32 → am_M → Option (Except Nat (Option Value) × am_M)
  | 0 => fun _ _ => none
  | n + 1 => f_X10_findSo_7B N (f_X10_findSo_7 N n)
set_option maxRecDepth 100000 in
theorem t_X10_findSo_7B (z : Value) (N : Nat) {r : Except Nat (Option Value)} {M' : am_M} (k7 : Int32 → am_M → Option (Except Nat (Option Value) × am_M)) (hk7 : ∀ (v1 : Int32) (M : am_M), k7 v1 M = some (r, M') → mR z me_X10_findSo (7, [some (.ref 0), some (.int v1)], [], M) r M') (v1 : Int32) (M : am_M) (h : f_X10_findSo_7B N k7 v1 M = some (r, M')) : mR z me_X10_findSo (7, [some (.ref 0), some (.int v1)], [], M) r M' := by
  unfold f_X10_findSo_7B at h
  refine am_R.go 5 (q' := (14, [some (.ref 0), some (.int v1)], [.int (1 <<< ((M 0 39) &&& 31)), .int v1], M)) rfl trivial ?_
  rcases am_it h with ⟨hc, h⟩ | ⟨hc, h⟩
  · refine am_R.bt rfl rfl hc ?_
    cases h
    exact am_R.ret rfl rfl trivial
  · refine am_R.bn rfl rfl hc ?_
    refine am_R.go 5 (q' := (24, [some (.ref 0), some (.int v1)], [.int v1, .ref 0, .int v1, .ref 26], M)) rfl trivial ?_
    obtain ⟨r24, M24, hz, h⟩ := am_bi_s h
    refine am_R.call (e' := me_X10_explains) (as := [.ref 0, .int v1]) (rest := [.int v1, .ref 26]) rfl rfl (Nat.le_of_ble_eq_true rfl) (t_X10_explains z N v1 _ hz) ?_
    obtain ⟨hC, h⟩ := am_gd h
    refine am_R.go 8 (q' := (39, [some (.ref 0), some (.int v1)], [.int ((am_up M24 26 (v1.toNatClampNeg) r24) 26 (v1.toNatClampNeg)), .int (M24 0 62), .ref 0], am_up M24 26 (v1.toNatClampNeg) r24)) rfl ⟨hC.1, hC.2, trivial⟩ ?_
    rcases am_it h with ⟨hc, h⟩ | ⟨hc, h⟩
    · refine am_R.ct rfl rfl hc ?_
      refine am_R.go 5 (q' := (7, [some (.ref 0), some (.int (v1 + 1))], [], am_up (am_up M24 26 (v1.toNatClampNeg) r24) 0 62 ((M24 0 62) + 0))) rfl trivial ?_
      exact hk7 (v1 + 1) _ h
    · refine am_R.cn rfl rfl hc ?_
      refine am_R.go 6 (q' := (7, [some (.ref 0), some (.int (v1 + 1))], [], am_up (am_up M24 26 (v1.toNatClampNeg) r24) 0 62 ((M24 0 62) + 1))) rfl trivial ?_
      exact hk7 (v1 + 1) _ h
set_option maxRecDepth 100000 in
theorem t_X10_findSo_7 (z : Value) (N : Nat) {r : Except Nat (Option Value)} {M' : am_M} : ∀ (n : Nat) (v1 : Int32) (M : am_M), f_X10_findSo_7 N n v1 M = some (r, M') → mR z me_X10_findSo (7, [some (.ref 0), some (.int v1)], [], M) r M' := by
  intro n
  induction n with
  | zero => intro v1 M h; cases h
  | succ n ih => intro v1 M h; exact t_X10_findSo_7B z N _ ih v1 M h
def f_X10_findSo (N : Nat) (M : am_M) : Option (Except Nat (Option Value) × am_M) :=
  f_X10_findSo_7 N N 0 (am_up M 0 62 0)
set_option maxRecDepth 100000 in
theorem t_X10_findSo (z : Value) (N : Nat) (M : am_M) {r : Except Nat (Option Value)} {M' : am_M} (h : f_X10_findSo N M = some (r, M')) : mR z me_X10_findSo (0, [some (.ref 0), none], [], M) r M' := by
  unfold f_X10_findSo at h
  refine am_R.go 5 (q' := (7, [some (.ref 0), some (.int 0)], [], am_up M 0 62 0)) rfl trivial ?_
  exact t_X10_findSo_7 z N N 0 _ h
def f_X10_explain_75 (N : Nat) (k43 : Int32 → Int32 → Int32 → Int32 → am_M → Option (Except Nat (Option Value) × am_M)) (v1 : Int32) (v2 : Int32) (v3 : Int32) (v4 : Int32) (v5 : Int32) (M : am_M) : Option (Except Nat (Option Value) × am_M) :=
  k43 v2 (v3 &&& v5) (v4 ||| v5) (v5 + 1) M
set_option maxRecDepth 100000 in
theorem t_X10_explain_75 (z : Value) (N : Nat) (k43 : Int32 → Int32 → Int32 → Int32 → am_M → Option (Except Nat (Option Value) × am_M)) {r : Except Nat (Option Value)} {M' : am_M} (v1 : Int32) (v2 : Int32) (v3 : Int32) (v4 : Int32) (v5 : Int32) (M : am_M) (hk43 : ∀ (v2 : Int32) (v3 : Int32) (v4 : Int32) (v5 : Int32) (M : am_M), k43 v2 v3 v4 v5 M = some (r, M') → mR z me_X10_explain (43, [some (.ref 0), some (.int v1), some (.int v2), some (.int v3), some (.int v4), some (.int v5)], [], M) r M') (h : f_X10_explain_75 N k43 v1 v2 v3 v4 v5 M = some (r, M')) : mR z me_X10_explain (75, [some (.ref 0), some (.int v1), some (.int v2), some (.int v3), some (.int v4), some (.int v5)], [], M) r M' := by
  unfold f_X10_explain_75 at h
  refine am_R.go 10 (q' := (43, [some (.ref 0), some (.int v1), some (.int v2), some (.int (v3 &&& v5)), some (.int (v4 ||| v5)), some (.int (v5 + 1))], [], M)) rfl trivial ?_
  exact hk43 v2 (v3 &&& v5) (v4 ||| v5) (v5 + 1) _ h
def f_X10_explain_43B (N : Nat) (v1 : Int32) (k43 : Int32 → Int32 → Int32 → Int32 → am_M → Option (Except Nat (Option Value) × am_M)) (v2 : Int32) (v3 : Int32) (v4 : Int32) (v5 : Int32) (M : am_M) : Option (Except Nat (Option Value) × am_M) :=
  if (1 <<< ((M 0 39) &&& 31)) ≤ v5 then
    if 2 ≤ v1 then
      if (M 0 62) = 0 then
        some (.ok (some (.int 0)), M)
      else
        if v1 = 2 then
          some (.ok (some (.int v3)), M)
        else
          some (.ok (some (.int (((1 <<< ((M 0 39) &&& 31)) - 1) &&& (v4 ^^^ (-1))))), M)
    else
      if v1 = 0 then
        some (.ok (some (.int (M 0 62))), M)
      else
        some (.ok (some (.int v2)), M)
  else
    if am_in v5 256 then
      if (M 26 (v5.toNatClampNeg)) = 0 then
        k43 v2 v3 v4 (v5 + 1) M
      else
        if v2 = (-1) then
          f_X10_explain_75 N k43 v1 v5 v3 v4 v5 M
        else
          f_X10_explain_75 N k43 v1 v2 v3 v4 v5 M
    else none
def f_X10_explain_43 (N : Nat) (v1 : Int32) : Nat → Int32 → Int32 → Int32 → Int32 → am_M → Option (Except Nat (Option Value) × am_M)
  | 0 => fun _ _ _ _ _ => none
  | n + 1 => f_X10_explain_43B N v1 (f_X10_explain_43 N v1 n)
set_option maxRecDepth 100000 in
theorem t_X10_explain_43B (z : Value) (N : Nat) (v1 : Int32) {r : Except Nat (Option Value)} {M' : am_M} (k43 : Int32 → Int32 → Int32 → Int32 → am_M → Option (Except Nat (Option Value) × am_M)) (hk43 : ∀ (v2 : Int32) (v3 : Int32) (v4 : Int32) (v5 : Int32) (M : am_M), k43 v2 v3 v4 v5 M = some (r, M') → mR z me_X10_explain (43, [some (.ref 0), some (.int v1), some (.int v2), some (.int v3), some (.int v4), some (.int v5)], [], M) r M') (v2 : Int32) (v3 : Int32) (v4 : Int32) (v5 : Int32) (M : am_M) (h : f_X10_explain_43B N v1 k43 v2 v3 v4 v5 M = some (r, M')) : mR z me_X10_explain (43, [some (.ref 0), some (.int v1), some (.int v2), some (.int v3), some (.int v4), some (.int v5)], [], M) r M' := by
  unfold f_X10_explain_43B at h
  refine am_R.go 5 (q' := (51, [some (.ref 0), some (.int v1), some (.int v2), some (.int v3), some (.int v4), some (.int v5)], [.int (1 <<< ((M 0 39) &&& 31)), .int v5], M)) rfl trivial ?_
  rcases am_it h with ⟨hc, h⟩ | ⟨hc, h⟩
  · refine am_R.bt rfl rfl hc ?_
    refine am_R.go 2 (q' := (95, [some (.ref 0), some (.int v1), some (.int v2), some (.int v3), some (.int v4), some (.int v5)], [.int 2, .int v1], M)) rfl trivial ?_
    rcases am_it h with ⟨hc, h⟩ | ⟨hc, h⟩
    · refine am_R.bt rfl rfl hc ?_
      refine am_R.go 2 (q' := (115, [some (.ref 0), some (.int v1), some (.int v2), some (.int v3), some (.int v4), some (.int v5)], [.int (M 0 62)], M)) rfl trivial ?_
      rcases am_it h with ⟨hc, h⟩ | ⟨hc, h⟩
      · refine am_R.cn rfl rfl (fun q => q hc) ?_
        refine am_R.go 2 (q' := (144, [some (.ref 0), some (.int v1), some (.int v2), some (.int v3), some (.int v4), some (.int v5)], [.int 0], M)) rfl trivial ?_
        cases h
        exact am_R.ret rfl rfl trivial
      · refine am_R.ct rfl rfl hc ?_
        refine am_R.go 2 (q' := (124, [some (.ref 0), some (.int v1), some (.int v2), some (.int v3), some (.int v4), some (.int v5)], [.int 2, .int v1], M)) rfl trivial ?_
        rcases am_it h with ⟨hc, h⟩ | ⟨hc, h⟩
        · refine am_R.bn rfl rfl (fun q => q hc) ?_
          refine am_R.go 2 (q' := (144, [some (.ref 0), some (.int v1), some (.int v2), some (.int v3), some (.int v4), some (.int v5)], [.int v3], M)) rfl trivial ?_
          cases h
          exact am_R.ret rfl rfl trivial
        · refine am_R.bt rfl rfl hc ?_
          refine am_R.go 10 (q' := (144, [some (.ref 0), some (.int v1), some (.int v2), some (.int v3), some (.int v4), some (.int v5)], [.int (((1 <<< ((M 0 39) &&& 31)) - 1) &&& (v4 ^^^ (-1)))], M)) rfl trivial ?_
          cases h
          exact am_R.ret rfl rfl trivial
    · refine am_R.bn rfl rfl hc ?_
      refine am_R.go 1 (q' := (99, [some (.ref 0), some (.int v1), some (.int v2), some (.int v3), some (.int v4), some (.int v5)], [.int v1], M)) rfl trivial ?_
      rcases am_it h with ⟨hc, h⟩ | ⟨hc, h⟩
      · refine am_R.cn rfl rfl (fun q => q hc) ?_
        refine am_R.go 3 (q' := (110, [some (.ref 0), some (.int v1), some (.int v2), some (.int v3), some (.int v4), some (.int v5)], [.int (M 0 62)], M)) rfl trivial ?_
        cases h
        exact am_R.ret rfl rfl trivial
      · refine am_R.ct rfl rfl hc ?_
        refine am_R.go 1 (q' := (110, [some (.ref 0), some (.int v1), some (.int v2), some (.int v3), some (.int v4), some (.int v5)], [.int v2], M)) rfl trivial ?_
        cases h
        exact am_R.ret rfl rfl trivial
  · refine am_R.bn rfl rfl hc ?_
    obtain ⟨hC, h⟩ := am_gd h
    refine am_R.go 4 (q' := (61, [some (.ref 0), some (.int v1), some (.int v2), some (.int v3), some (.int v4), some (.int v5)], [.int (M 26 (v5.toNatClampNeg))], M)) rfl ⟨hC, trivial⟩ ?_
    rcases am_it h with ⟨hc, h⟩ | ⟨hc, h⟩
    · refine am_R.cn rfl rfl (fun q => q hc) ?_
      refine am_R.go 3 (q' := (43, [some (.ref 0), some (.int v1), some (.int v2), some (.int v3), some (.int v4), some (.int (v5 + 1))], [], M)) rfl trivial ?_
      exact hk43 v2 v3 v4 (v5 + 1) _ h
    · refine am_R.ct rfl rfl hc ?_
      refine am_R.go 2 (q' := (69, [some (.ref 0), some (.int v1), some (.int v2), some (.int v3), some (.int v4), some (.int v5)], [.int (-1), .int v2], M)) rfl trivial ?_
      rcases am_it h with ⟨hc, h⟩ | ⟨hc, h⟩
      · refine am_R.bn rfl rfl (fun q => q hc) ?_
        refine am_R.go 2 (q' := (75, [some (.ref 0), some (.int v1), some (.int v5), some (.int v3), some (.int v4), some (.int v5)], [], M)) rfl trivial ?_
        exact t_X10_explain_75 z N k43 v1 v5 v3 v4 v5 _ hk43 h
      · refine am_R.bt rfl rfl hc ?_
        exact t_X10_explain_75 z N k43 v1 v2 v3 v4 v5 _ hk43 h
set_option maxRecDepth 100000 in
theorem t_X10_explain_43 (z : Value) (N : Nat) (v1 : Int32) {r : Except Nat (Option Value)} {M' : am_M} : ∀ (n : Nat) (v2 : Int32) (v3 : Int32) (v4 : Int32) (v5 : Int32) (M : am_M), f_X10_explain_43 N v1 n v2 v3 v4 v5 M = some (r, M') → mR z me_X10_explain (43, [some (.ref 0), some (.int v1), some (.int v2), some (.int v3), some (.int v4), some (.int v5)], [], M) r M' := by
  intro n
  induction n with
  | zero => intro v2 v3 v4 v5 M h; cases h
  | succ n ih => intro v2 v3 v4 v5 M h; exact t_X10_explain_43B z N v1 _ ih v2 v3 v4 v5 M h
def f_X10_explain (N : Nat) (p1 : Int32) (M : am_M) : Option (Except Nat (Option Value) × am_M) :=
  am_bi (f_X10_within N p1 0 3 (am_up M 0 0 0)) fun r9 M9 =>
    am_bi (f_X10_may N r9 1 2 M9) fun r14 M14 =>
      if r14 = 0 then
        some (.ok (some (.int 0)), M14)
      else
        am_bv (f_X10_findSo N M14) fun M23 =>
          f_X10_explain_43 N p1 N (-1) ((1 <<< ((M23 0 39) &&& 31)) - 1) 0 0 M23
set_option maxRecDepth 100000 in
theorem t_X10_explain (z : Value) (N : Nat) (p1 : Int32) (M : am_M) {r : Except Nat (Option Value)} {M' : am_M} (h : f_X10_explain N p1 M = some (r, M')) : mR z me_X10_explain (0, [some (.ref 0), some (.int p1), none, none, none, none], [], M) r M' := by
  unfold f_X10_explain at h
  refine am_R.go 7 (q' := (9, [some (.ref 0), some (.int p1), none, none, none, none], [.int 3, .int 0, .int p1, .ref 0], am_up M 0 0 0)) rfl trivial ?_
  obtain ⟨r9, M9, hz, h⟩ := am_bi_s h
  refine am_R.call (e' := me_X10_within) (as := [.int p1, .int 0, .int 3]) (rest := [.ref 0]) rfl rfl (Nat.le_of_ble_eq_true rfl) (t_X10_within z N p1 0 3 _ hz) ?_
  refine am_R.go 2 (q' := (14, [some (.ref 0), some (.int p1), none, none, none, none], [.int 2, .int 1, .int r9, .ref 0], M9)) rfl trivial ?_
  obtain ⟨r14, M14, hz, h⟩ := am_bi_s h
  refine am_R.call (e' := me_X10_may) (as := [.ref 0, .int r9, .int 1, .int 2]) (rest := []) rfl rfl (Nat.le_of_ble_eq_true rfl) (t_X10_may z N r9 1 2 _ hz) ?_
  rcases am_it h with ⟨hc, h⟩ | ⟨hc, h⟩
  · refine am_R.cn rfl rfl (fun q => q hc) ?_
    refine am_R.go 1 (q' := (21, [some (.ref 0), some (.int p1), none, none, none, none], [.int 0], M14)) rfl trivial ?_
    cases h
    exact am_R.ret rfl rfl trivial
  · refine am_R.ct rfl rfl hc ?_
    refine am_R.go 1 (q' := (23, [some (.ref 0), some (.int p1), none, none, none, none], [.ref 0], M14)) rfl trivial ?_
    obtain ⟨M23, hz, h⟩ := am_bv_s h
    refine am_R.call (e' := me_X10_findSo) (as := [.ref 0]) (rest := []) rfl rfl (Nat.le_of_ble_eq_true rfl) (t_X10_findSo z N _ hz) ?_
    refine am_R.go 13 (q' := (43, [some (.ref 0), some (.int p1), some (.int (-1)), some (.int ((1 <<< ((M23 0 39) &&& 31)) - 1)), some (.int 0), some (.int 0)], [], M23)) rfl trivial ?_
    exact t_X10_explain_43 z N p1 N (-1) ((1 <<< ((M23 0 39) &&& 31)) - 1) 0 0 _ h
def f_X10_ask_218 (N : Nat) (k42 : Int32 → Int32 → Int32 → am_M → Option (Except Nat (Option Value) × am_M)) (v1 : Int32) (v4 : Int32) (v5 : Int32) (v6 : Int32) (M : am_M) : Option (Except Nat (Option Value) × am_M) :=
  k42 v5 v6 (v4 + 1) M
set_option maxRecDepth 100000 in
theorem t_X10_ask_218 (z : Value) (N : Nat) (k42 : Int32 → Int32 → Int32 → am_M → Option (Except Nat (Option Value) × am_M)) {r : Except Nat (Option Value)} {M' : am_M} (v1 : Int32) (v4 : Int32) (v5 : Int32) (v6 : Int32) (d2 : Option Value) (d3 : Option Value) (d7 : Option Value) (M : am_M) (hk42 : ∀ (v2 : Int32) (v3 : Int32) (v4 : Int32) (d5 : Option Value) (d6 : Option Value) (d7 : Option Value) (M : am_M), k42 v2 v3 v4 M = some (r, M') → mR z me_X10_ask (42, [some (.ref 0), some (.int v1), some (.int v2), some (.int v3), some (.int v4), d5, d6, d7], [], M) r M') (h : f_X10_ask_218 N k42 v1 v4 v5 v6 M = some (r, M')) : mR z me_X10_ask (218, [some (.ref 0), some (.int v1), d2, d3, some (.int v4), some (.int v5), some (.int v6), d7], [], M) r M' := by
  unfold f_X10_ask_218 at h
  refine am_R.go 6 (q' := (42, [some (.ref 0), some (.int v1), some (.int v5), some (.int v6), some (.int (v4 + 1)), some (.int v5), some (.int v6), d7], [], M)) rfl trivial ?_
  exact hk42 v5 v6 (v4 + 1) _ _ _ _ h
def f_X10_ask_106B (N : Nat) (v1 : Int32) (v2 : Int32) (v3 : Int32) (v4 : Int32) (v5 : Int32) (k42 : Int32 → Int32 → Int32 → am_M → Option (Except Nat (Option Value) × am_M)) (k106 : Int32 → Int32 → am_M → Option (Except Nat (Option Value) × am_M)) (v6 : Int32) (v7 : Int32) (M : am_M) : Option (Except Nat (Option Value) × am_M) :=
  if (1 <<< ((M 0 39) &&& 31)) ≤ v7 then
    if v2 = (-1) then
      f_X10_ask_218 N k42 v1 v4 v5 v6 M
    else
      if v6 < v3 then
        f_X10_ask_218 N k42 v1 v4 v5 v6 M
      else
        k42 v2 v3 (v4 + 1) M
  else
    if am_in v7 256 then
      if (M 26 (v7.toNatClampNeg)) = 0 then
        k106 v6 (v7 + 1) M
      else
        am_bv (f_X10_wonders N v7 1 M) fun M134 =>
          am_bv (f_X10_shouts N v5 0 (M134 0 40) M134) fun M145 =>
            am_bv (f_X10_wonders N v7 0 M145) fun M152 =>
              if am_in (M152 0 48) 25 then
                if ((am_up M152 27 ((M152 0 48).toNatClampNeg) ((M152 27 ((M152 0 48).toNatClampNeg)) + 1)) 27 ((M152 0 48).toNatClampNeg)) ≤ v6 then
                  k106 v6 (v7 + 1) (am_up M152 27 ((M152 0 48).toNatClampNeg) ((M152 27 ((M152 0 48).toNatClampNeg)) + 1))
                else
                  if am_in (M152 0 48) 25 then
                    k106 ((am_up M152 27 ((M152 0 48).toNatClampNeg) ((M152 27 ((M152 0 48).toNatClampNeg)) + 1)) 27 ((M152 0 48).toNatClampNeg)) (v7 + 1) (am_up M152 27 ((M152 0 48).toNatClampNeg) ((M152 27 ((M152 0 48).toNatClampNeg)) + 1))
                  else none
              else none
    else none
def f_X10_ask_106 (N : Nat) (v1 : Int32) (v2 : Int32) (v3 : Int32) (v4 : Int32) (v5 : Int32) (k42 : Int32 → Int32 → Int32 → am_M → Option (Except Nat (Option Value) × am_M)) : Nat → Int32 → Int32 → am_M → Option (Except Nat (Option Value) × am_M)
  | 0 => fun _ _ _ => none
  | n + 1 => f_X10_ask_106B N v1 v2 v3 v4 v5 k42 (f_X10_ask_106 N v1 v2 v3 v4 v5 k42 n)
set_option maxRecDepth 100000 in
theorem t_X10_ask_106B (z : Value) (N : Nat) (v1 : Int32) (v2 : Int32) (v3 : Int32) (v4 : Int32) (v5 : Int32) (k42 : Int32 → Int32 → Int32 → am_M → Option (Except Nat (Option Value) × am_M)) {r : Except Nat (Option Value)} {M' : am_M} (hk42 : ∀ (v2 : Int32) (v3 : Int32) (v4 : Int32) (d5 : Option Value) (d6 : Option Value) (d7 : Option Value) (M : am_M), k42 v2 v3 v4 M = some (r, M') → mR z me_X10_ask (42, [some (.ref 0), some (.int v1), some (.int v2), some (.int v3), some (.int v4), d5, d6, d7], [], M) r M') (k106 : Int32 → Int32 → am_M → Option (Except Nat (Option Value) × am_M)) (hk106 : ∀ (v6 : Int32) (v7 : Int32) (M : am_M), k106 v6 v7 M = some (r, M') → mR z me_X10_ask (106, [some (.ref 0), some (.int v1), some (.int v2), some (.int v3), some (.int v4), some (.int v5), some (.int v6), some (.int v7)], [], M) r M') (v6 : Int32) (v7 : Int32) (M : am_M) (h : f_X10_ask_106B N v1 v2 v3 v4 v5 k42 k106 v6 v7 M = some (r, M')) : mR z me_X10_ask (106, [some (.ref 0), some (.int v1), some (.int v2), some (.int v3), some (.int v4), some (.int v5), some (.int v6), some (.int v7)], [], M) r M' := by
  unfold f_X10_ask_106B at h
  refine am_R.go 5 (q' := (114, [some (.ref 0), some (.int v1), some (.int v2), some (.int v3), some (.int v4), some (.int v5), some (.int v6), some (.int v7)], [.int (1 <<< ((M 0 39) &&& 31)), .int v7], M)) rfl trivial ?_
  rcases am_it h with ⟨hc, h⟩ | ⟨hc, h⟩
  · refine am_R.bt rfl rfl hc ?_
    refine am_R.go 2 (q' := (206, [some (.ref 0), some (.int v1), some (.int v2), some (.int v3), some (.int v4), some (.int v5), some (.int v6), some (.int v7)], [.int (-1), .int v2], M)) rfl trivial ?_
    rcases am_it h with ⟨hc, h⟩ | ⟨hc, h⟩
    · refine am_R.bt rfl rfl hc ?_
      exact t_X10_ask_218 z N k42 v1 v4 v5 v6 _ _ _ _ hk42 h
    · refine am_R.bn rfl rfl hc ?_
      refine am_R.go 2 (q' := (212, [some (.ref 0), some (.int v1), some (.int v2), some (.int v3), some (.int v4), some (.int v5), some (.int v6), some (.int v7)], [.int v3, .int v6], M)) rfl trivial ?_
      rcases am_it h with ⟨hc, h⟩ | ⟨hc, h⟩
      · refine am_R.bt rfl rfl hc ?_
        exact t_X10_ask_218 z N k42 v1 v4 v5 v6 _ _ _ _ hk42 h
      · refine am_R.bn rfl rfl hc ?_
        refine am_R.go 3 (q' := (42, [some (.ref 0), some (.int v1), some (.int v2), some (.int v3), some (.int (v4 + 1)), some (.int v5), some (.int v6), some (.int v7)], [], M)) rfl trivial ?_
        exact hk42 v2 v3 (v4 + 1) _ _ _ _ h
  · refine am_R.bn rfl rfl hc ?_
    obtain ⟨hC, h⟩ := am_gd h
    refine am_R.go 4 (q' := (124, [some (.ref 0), some (.int v1), some (.int v2), some (.int v3), some (.int v4), some (.int v5), some (.int v6), some (.int v7)], [.int (M 26 (v7.toNatClampNeg))], M)) rfl ⟨hC, trivial⟩ ?_
    rcases am_it h with ⟨hc, h⟩ | ⟨hc, h⟩
    · refine am_R.cn rfl rfl (fun q => q hc) ?_
      refine am_R.go 3 (q' := (106, [some (.ref 0), some (.int v1), some (.int v2), some (.int v3), some (.int v4), some (.int v5), some (.int v6), some (.int (v7 + 1))], [], M)) rfl trivial ?_
      exact hk106 v6 (v7 + 1) _ h
    · refine am_R.ct rfl rfl hc ?_
      refine am_R.go 3 (q' := (134, [some (.ref 0), some (.int v1), some (.int v2), some (.int v3), some (.int v4), some (.int v5), some (.int v6), some (.int v7)], [.int 1, .int v7, .ref 0], M)) rfl trivial ?_
      obtain ⟨M134, hz, h⟩ := am_bv_s h
      refine am_R.call (e' := me_X10_wonders) (as := [.ref 0, .int v7, .int 1]) (rest := []) rfl rfl (Nat.le_of_ble_eq_true rfl) (t_X10_wonders z N v7 1 _ hz) ?_
      refine am_R.go 5 (q' := (145, [some (.ref 0), some (.int v1), some (.int v2), some (.int v3), some (.int v4), some (.int v5), some (.int v6), some (.int v7)], [.int (M134 0 40), .int 0, .int v5, .ref 0], M134)) rfl trivial ?_
      obtain ⟨M145, hz, h⟩ := am_bv_s h
      refine am_R.call (e' := me_X10_shouts) (as := [.ref 0, .int v5, .int 0, .int (M134 0 40)]) (rest := []) rfl rfl (Nat.le_of_ble_eq_true rfl) (t_X10_shouts z N v5 0 (M134 0 40) _ hz) ?_
      refine am_R.go 3 (q' := (152, [some (.ref 0), some (.int v1), some (.int v2), some (.int v3), some (.int v4), some (.int v5), some (.int v6), some (.int v7)], [.int 0, .int v7, .ref 0], M145)) rfl trivial ?_
      obtain ⟨M152, hz, h⟩ := am_bv_s h
      refine am_R.call (e' := me_X10_wonders) (as := [.ref 0, .int v7, .int 0]) (rest := []) rfl rfl (Nat.le_of_ble_eq_true rfl) (t_X10_wonders z N v7 0 _ hz) ?_
      obtain ⟨hC, h⟩ := am_gd h
      refine am_R.go 15 (q' := (179, [some (.ref 0), some (.int v1), some (.int v2), some (.int v3), some (.int v4), some (.int v5), some (.int v6), some (.int v7)], [.int v6, .int ((am_up M152 27 ((M152 0 48).toNatClampNeg) ((M152 27 ((M152 0 48).toNatClampNeg)) + 1)) 27 ((M152 0 48).toNatClampNeg))], am_up M152 27 ((M152 0 48).toNatClampNeg) ((M152 27 ((M152 0 48).toNatClampNeg)) + 1))) rfl ⟨hC, hC, hC, trivial⟩ ?_
      rcases am_it h with ⟨hc, h⟩ | ⟨hc, h⟩
      · refine am_R.bt rfl rfl hc ?_
        refine am_R.go 4 (q' := (106, [some (.ref 0), some (.int v1), some (.int v2), some (.int v3), some (.int v4), some (.int v5), some (.int v6), some (.int (v7 + 1))], [], am_up M152 27 ((M152 0 48).toNatClampNeg) ((M152 27 ((M152 0 48).toNatClampNeg)) + 1))) rfl trivial ?_
        exact hk106 v6 (v7 + 1) _ h
      · refine am_R.bn rfl rfl hc ?_
        obtain ⟨hC, h⟩ := am_gd h
        refine am_R.go 9 (q' := (106, [some (.ref 0), some (.int v1), some (.int v2), some (.int v3), some (.int v4), some (.int v5), some (.int ((am_up M152 27 ((M152 0 48).toNatClampNeg) ((M152 27 ((M152 0 48).toNatClampNeg)) + 1)) 27 ((M152 0 48).toNatClampNeg))), some (.int (v7 + 1))], [], am_up M152 27 ((M152 0 48).toNatClampNeg) ((M152 27 ((M152 0 48).toNatClampNeg)) + 1))) rfl ⟨hC, trivial⟩ ?_
        exact hk106 ((am_up M152 27 ((M152 0 48).toNatClampNeg) ((M152 27 ((M152 0 48).toNatClampNeg)) + 1)) 27 ((M152 0 48).toNatClampNeg)) (v7 + 1) _ h
set_option maxRecDepth 100000 in
theorem t_X10_ask_106 (z : Value) (N : Nat) (v1 : Int32) (v2 : Int32) (v3 : Int32) (v4 : Int32) (v5 : Int32) (k42 : Int32 → Int32 → Int32 → am_M → Option (Except Nat (Option Value) × am_M)) {r : Except Nat (Option Value)} {M' : am_M} (hk42 : ∀ (v2 : Int32) (v3 : Int32) (v4 : Int32) (d5 : Option Value) (d6 : Option Value) (d7 : Option Value) (M : am_M), k42 v2 v3 v4 M = some (r, M') → mR z me_X10_ask (42, [some (.ref 0), some (.int v1), some (.int v2), some (.int v3), some (.int v4), d5, d6, d7], [], M) r M') : ∀ (n : Nat) (v6 : Int32) (v7 : Int32) (M : am_M), f_X10_ask_106 N v1 v2 v3 v4 v5 k42 n v6 v7 M = some (r, M') → mR z me_X10_ask (106, [some (.ref 0), some (.int v1), some (.int v2), some (.int v3), some (.int v4), some (.int v5), some (.int v6), some (.int v7)], [], M) r M' := by
  intro n
  induction n with
  | zero => intro v6 v7 M h; cases h
  | succ n ih => intro v6 v7 M h; exact t_X10_ask_106B z N v1 v2 v3 v4 v5 k42 hk42 _ ih v6 v7 M h
def f_X10_ask_79B (N : Nat) (v1 : Int32) (v2 : Int32) (v3 : Int32) (v4 : Int32) (v5 : Int32) (k42 : Int32 → Int32 → Int32 → am_M → Option (Except Nat (Option Value) × am_M)) (k79 : Int32 → am_M → Option (Except Nat (Option Value) × am_M)) (v6 : Int32) (M : am_M) : Option (Except Nat (Option Value) × am_M) :=
  if 25 ≤ v6 then
    f_X10_ask_106 N v1 v2 v3 v4 v5 k42 N 0 0 M
  else
    if am_in v6 25 then
      k79 (v6 + 1) (am_up M 27 (v6.toNatClampNeg) 0)
    else none
def f_X10_ask_79 (N : Nat) (v1 : Int32) (v2 : Int32) (v3 : Int32) (v4 : Int32) (v5 : Int32) (k42 : Int32 → Int32 → Int32 → am_M → Option (Except Nat (Option Value) × am_M)) : Nat → Int32 → am_M → Option (Except Nat (Option Value) × am_M)
  | 0 => fun _ _ => none
  | n + 1 => f_X10_ask_79B N v1 v2 v3 v4 v5 k42 (f_X10_ask_79 N v1 v2 v3 v4 v5 k42 n)
set_option maxRecDepth 100000 in
theorem t_X10_ask_79B (z : Value) (N : Nat) (v1 : Int32) (v2 : Int32) (v3 : Int32) (v4 : Int32) (v5 : Int32) (k42 : Int32 → Int32 → Int32 → am_M → Option (Except Nat (Option Value) × am_M)) {r : Except Nat (Option Value)} {M' : am_M} (hk42 : ∀ (v2 : Int32) (v3 : Int32) (v4 : Int32) (d5 : Option Value) (d6 : Option Value) (d7 : Option Value) (M : am_M), k42 v2 v3 v4 M = some (r, M') → mR z me_X10_ask (42, [some (.ref 0), some (.int v1), some (.int v2), some (.int v3), some (.int v4), d5, d6, d7], [], M) r M') (k79 : Int32 → am_M → Option (Except Nat (Option Value) × am_M)) (hk79 : ∀ (v6 : Int32) (d7 : Option Value) (M : am_M), k79 v6 M = some (r, M') → mR z me_X10_ask (79, [some (.ref 0), some (.int v1), some (.int v2), some (.int v3), some (.int v4), some (.int v5), some (.int v6), d7], [], M) r M') (v6 : Int32) (d7 : Option Value) (M : am_M) (h : f_X10_ask_79B N v1 v2 v3 v4 v5 k42 k79 v6 M = some (r, M')) : mR z me_X10_ask (79, [some (.ref 0), some (.int v1), some (.int v2), some (.int v3), some (.int v4), some (.int v5), some (.int v6), d7], [], M) r M' := by
  unfold f_X10_ask_79B at h
  refine am_R.go 2 (q' := (83, [some (.ref 0), some (.int v1), some (.int v2), some (.int v3), some (.int v4), some (.int v5), some (.int v6), d7], [.int 25, .int v6], M)) rfl trivial ?_
  rcases am_it h with ⟨hc, h⟩ | ⟨hc, h⟩
  · refine am_R.bt rfl rfl hc ?_
    refine am_R.go 4 (q' := (106, [some (.ref 0), some (.int v1), some (.int v2), some (.int v3), some (.int v4), some (.int v5), some (.int 0), some (.int 0)], [], M)) rfl trivial ?_
    exact t_X10_ask_106 z N v1 v2 v3 v4 v5 k42 hk42 N 0 0 _ h
  · refine am_R.bn rfl rfl hc ?_
    obtain ⟨hC, h⟩ := am_gd h
    refine am_R.go 7 (q' := (79, [some (.ref 0), some (.int v1), some (.int v2), some (.int v3), some (.int v4), some (.int v5), some (.int (v6 + 1)), d7], [], am_up M 27 (v6.toNatClampNeg) 0)) rfl ⟨hC, trivial⟩ ?_
    exact hk79 (v6 + 1) _ _ h
set_option maxRecDepth 100000 in
theorem t_X10_ask_79 (z : Value) (N : Nat) (v1 : Int32) (v2 : Int32) (v3 : Int32) (v4 : Int32) (v5 : Int32) (k42 : Int32 → Int32 → Int32 → am_M → Option (Except Nat (Option Value) × am_M)) {r : Except Nat (Option Value)} {M' : am_M} (hk42 : ∀ (v2 : Int32) (v3 : Int32) (v4 : Int32) (d5 : Option Value) (d6 : Option Value) (d7 : Option Value) (M : am_M), k42 v2 v3 v4 M = some (r, M') → mR z me_X10_ask (42, [some (.ref 0), some (.int v1), some (.int v2), some (.int v3), some (.int v4), d5, d6, d7], [], M) r M') : ∀ (n : Nat) (v6 : Int32) (d7 : Option Value) (M : am_M), f_X10_ask_79 N v1 v2 v3 v4 v5 k42 n v6 M = some (r, M') → mR z me_X10_ask (79, [some (.ref 0), some (.int v1), some (.int v2), some (.int v3), some (.int v4), some (.int v5), some (.int v6), d7], [], M) r M' := by
  intro n
  induction n with
  | zero => intro v6 d7 M h; cases h
  | succ n ih => intro v6 d7 M h; exact t_X10_ask_79B z N v1 v2 v3 v4 v5 k42 hk42 _ ih v6 d7 M h
def f_X10_ask_42B (N : Nat) (v1 : Int32) (k42 : Int32 → Int32 → Int32 → am_M → Option (Except Nat (Option Value) × am_M)) (v2 : Int32) (v3 : Int32) (v4 : Int32) (M : am_M) : Option (Except Nat (Option Value) × am_M) :=
  if ((M 0 33) * (M 0 34)) ≤ v4 then
    if v2 = (-1) then
      some (.ok (some (.int (-1))), M)
    else
      if v1 = 0 then
        some (.ok (some (.int (v2 - v2 / 10 * 10))), M)
      else
        if v1 = 1 then
          some (.ok (some (.int (v2 / 10))), M)
        else
          some (.ok (some (.int v3)), M)
  else
    if ¬ (M 0 33) = 0 then
      f_X10_ask_79 N v1 v2 v3 v4 ((10 * (v4 / (M 0 33))) + (v4 - v4 / (M 0 33) * (M 0 33))) k42 N 0 M
    else none
def f_X10_ask_42 (N : Nat) (v1 : Int32) : Nat → Int32 → Int32 → Int32 → am_M → Option (Except Nat (Option Value) × am_M)
  | 0 => fun _ _ _ _ => none
  | n + 1 => f_X10_ask_42B N v1 (f_X10_ask_42 N v1 n)
set_option maxRecDepth 100000 in
theorem t_X10_ask_42B (z : Value) (N : Nat) (v1 : Int32) {r : Except Nat (Option Value)} {M' : am_M} (k42 : Int32 → Int32 → Int32 → am_M → Option (Except Nat (Option Value) × am_M)) (hk42 : ∀ (v2 : Int32) (v3 : Int32) (v4 : Int32) (d5 : Option Value) (d6 : Option Value) (d7 : Option Value) (M : am_M), k42 v2 v3 v4 M = some (r, M') → mR z me_X10_ask (42, [some (.ref 0), some (.int v1), some (.int v2), some (.int v3), some (.int v4), d5, d6, d7], [], M) r M') (v2 : Int32) (v3 : Int32) (v4 : Int32) (d5 : Option Value) (d6 : Option Value) (d7 : Option Value) (M : am_M) (h : f_X10_ask_42B N v1 k42 v2 v3 v4 M = some (r, M')) : mR z me_X10_ask (42, [some (.ref 0), some (.int v1), some (.int v2), some (.int v3), some (.int v4), d5, d6, d7], [], M) r M' := by
  unfold f_X10_ask_42B at h
  refine am_R.go 6 (q' := (53, [some (.ref 0), some (.int v1), some (.int v2), some (.int v3), some (.int v4), d5, d6, d7], [.int ((M 0 33) * (M 0 34)), .int v4], M)) rfl trivial ?_
  rcases am_it h with ⟨hc, h⟩ | ⟨hc, h⟩
  · refine am_R.bt rfl rfl hc ?_
    refine am_R.go 2 (q' := (232, [some (.ref 0), some (.int v1), some (.int v2), some (.int v3), some (.int v4), d5, d6, d7], [.int (-1), .int v2], M)) rfl trivial ?_
    rcases am_it h with ⟨hc, h⟩ | ⟨hc, h⟩
    · refine am_R.bn rfl rfl (fun q => q hc) ?_
      refine am_R.go 2 (q' := (263, [some (.ref 0), some (.int v1), some (.int v2), some (.int v3), some (.int v4), d5, d6, d7], [.int (-1)], M)) rfl trivial ?_
      cases h
      exact am_R.ret rfl rfl trivial
    · refine am_R.bt rfl rfl hc ?_
      refine am_R.go 1 (q' := (240, [some (.ref 0), some (.int v1), some (.int v2), some (.int v3), some (.int v4), d5, d6, d7], [.int v1], M)) rfl trivial ?_
      rcases am_it h with ⟨hc, h⟩ | ⟨hc, h⟩
      · refine am_R.cn rfl rfl (fun q => q hc) ?_
        refine am_R.go 4 (q' := (263, [some (.ref 0), some (.int v1), some (.int v2), some (.int v3), some (.int v4), d5, d6, d7], [.int (v2 - v2 / 10 * 10)], M)) rfl ⟨(by decide), trivial⟩ ?_
        cases h
        exact am_R.ret rfl rfl trivial
      · refine am_R.ct rfl rfl hc ?_
        refine am_R.go 2 (q' := (252, [some (.ref 0), some (.int v1), some (.int v2), some (.int v3), some (.int v4), d5, d6, d7], [.int 1, .int v1], M)) rfl trivial ?_
        rcases am_it h with ⟨hc, h⟩ | ⟨hc, h⟩
        · refine am_R.bn rfl rfl (fun q => q hc) ?_
          refine am_R.go 4 (q' := (263, [some (.ref 0), some (.int v1), some (.int v2), some (.int v3), some (.int v4), d5, d6, d7], [.int (v2 / 10)], M)) rfl ⟨(by decide), trivial⟩ ?_
          cases h
          exact am_R.ret rfl rfl trivial
        · refine am_R.bt rfl rfl hc ?_
          refine am_R.go 1 (q' := (263, [some (.ref 0), some (.int v1), some (.int v2), some (.int v3), some (.int v4), d5, d6, d7], [.int v3], M)) rfl trivial ?_
          cases h
          exact am_R.ret rfl rfl trivial
  · refine am_R.bn rfl rfl hc ?_
    obtain ⟨hC, h⟩ := am_gd h
    refine am_R.go 14 (q' := (79, [some (.ref 0), some (.int v1), some (.int v2), some (.int v3), some (.int v4), some (.int ((10 * (v4 / (M 0 33))) + (v4 - v4 / (M 0 33) * (M 0 33)))), some (.int 0), d7], [], M)) rfl ⟨hC, hC, trivial⟩ ?_
    exact t_X10_ask_79 z N v1 v2 v3 v4 ((10 * (v4 / (M 0 33))) + (v4 - v4 / (M 0 33) * (M 0 33))) k42 hk42 N 0 _ _ h
set_option maxRecDepth 100000 in
theorem t_X10_ask_42 (z : Value) (N : Nat) (v1 : Int32) {r : Except Nat (Option Value)} {M' : am_M} : ∀ (n : Nat) (v2 : Int32) (v3 : Int32) (v4 : Int32) (d5 : Option Value) (d6 : Option Value) (d7 : Option Value) (M : am_M), f_X10_ask_42 N v1 n v2 v3 v4 M = some (r, M') → mR z me_X10_ask (42, [some (.ref 0), some (.int v1), some (.int v2), some (.int v3), some (.int v4), d5, d6, d7], [], M) r M' := by
  intro n
  induction n with
  | zero => intro v2 v3 v4 d5 d6 d7 M h; cases h
  | succ n ih => intro v2 v3 v4 d5 d6 d7 M h; exact t_X10_ask_42B z N v1 _ ih v2 v3 v4 d5 d6 d7 M h
def f_X10_ask (N : Nat) (p1 : Int32) (M : am_M) : Option (Except Nat (Option Value) × am_M) :=
  am_bi (f_X10_within N p1 0 2 (am_up M 0 0 0)) fun r9 M9 =>
    am_bi (f_X10_may N r9 1 2 M9) fun r14 M14 =>
      if r14 = 0 then
        some (.ok (some (.int 0)), M14)
      else
        am_bv (f_X10_findSo N M14) fun M23 =>
          if (M23 0 62) = 0 then
            some (.ok (some (.int (-1))), M23)
          else
            f_X10_ask_42 N p1 N (-1) 0 0 M23
set_option maxRecDepth 100000 in
theorem t_X10_ask (z : Value) (N : Nat) (p1 : Int32) (M : am_M) {r : Except Nat (Option Value)} {M' : am_M} (h : f_X10_ask N p1 M = some (r, M')) : mR z me_X10_ask (0, [some (.ref 0), some (.int p1), none, none, none, none, none, none], [], M) r M' := by
  unfold f_X10_ask at h
  refine am_R.go 7 (q' := (9, [some (.ref 0), some (.int p1), none, none, none, none, none, none], [.int 2, .int 0, .int p1, .ref 0], am_up M 0 0 0)) rfl trivial ?_
  obtain ⟨r9, M9, hz, h⟩ := am_bi_s h
  refine am_R.call (e' := me_X10_within) (as := [.int p1, .int 0, .int 2]) (rest := [.ref 0]) rfl rfl (Nat.le_of_ble_eq_true rfl) (t_X10_within z N p1 0 2 _ hz) ?_
  refine am_R.go 2 (q' := (14, [some (.ref 0), some (.int p1), none, none, none, none, none, none], [.int 2, .int 1, .int r9, .ref 0], M9)) rfl trivial ?_
  obtain ⟨r14, M14, hz, h⟩ := am_bi_s h
  refine am_R.call (e' := me_X10_may) (as := [.ref 0, .int r9, .int 1, .int 2]) (rest := []) rfl rfl (Nat.le_of_ble_eq_true rfl) (t_X10_may z N r9 1 2 _ hz) ?_
  rcases am_it h with ⟨hc, h⟩ | ⟨hc, h⟩
  · refine am_R.cn rfl rfl (fun q => q hc) ?_
    refine am_R.go 1 (q' := (21, [some (.ref 0), some (.int p1), none, none, none, none, none, none], [.int 0], M14)) rfl trivial ?_
    cases h
    exact am_R.ret rfl rfl trivial
  · refine am_R.ct rfl rfl hc ?_
    refine am_R.go 1 (q' := (23, [some (.ref 0), some (.int p1), none, none, none, none, none, none], [.ref 0], M14)) rfl trivial ?_
    obtain ⟨M23, hz, h⟩ := am_bv_s h
    refine am_R.call (e' := me_X10_findSo) (as := [.ref 0]) (rest := []) rfl rfl (Nat.le_of_ble_eq_true rfl) (t_X10_findSo z N _ hz) ?_
    refine am_R.go 2 (q' := (30, [some (.ref 0), some (.int p1), none, none, none, none, none, none], [.int (M23 0 62)], M23)) rfl trivial ?_
    rcases am_it h with ⟨hc, h⟩ | ⟨hc, h⟩
    · refine am_R.cn rfl rfl (fun q => q hc) ?_
      refine am_R.go 1 (q' := (34, [some (.ref 0), some (.int p1), none, none, none, none, none, none], [.int (-1)], M23)) rfl trivial ?_
      cases h
      exact am_R.ret rfl rfl trivial
    · refine am_R.ct rfl rfl hc ?_
      refine am_R.go 6 (q' := (42, [some (.ref 0), some (.int p1), some (.int (-1)), some (.int 0), some (.int 0), none, none, none], [], M23)) rfl trivial ?_
      exact t_X10_ask_42 z N p1 N (-1) 0 0 _ _ _ _ h
def f_X10_snows (N : Nat) (p1 : Int32) (p2 : Int32) (M : am_M) : Option (Except Nat (Option Value) × am_M) :=
  am_bi (f_X10_isCell N p1 p2 1 (am_up M 0 0 0)) fun r9 M9 =>
    if r9 = 0 then
      some (.ok (some (.int 0)), M9)
    else
      am_bv (f_X10_shouts N ((10 * p2) + p1) 0 (M9 0 40) M9) fun M29 =>
        some (.ok (some (.int (M29 0 49))), M29)
set_option maxRecDepth 100000 in
theorem t_X10_snows (z : Value) (N : Nat) (p1 : Int32) (p2 : Int32) (M : am_M) {r : Except Nat (Option Value)} {M' : am_M} (h : f_X10_snows N p1 p2 M = some (r, M')) : mR z me_X10_snows (0, [some (.ref 0), some (.int p1), some (.int p2)], [], M) r M' := by
  unfold f_X10_snows at h
  refine am_R.go 7 (q' := (9, [some (.ref 0), some (.int p1), some (.int p2)], [.int 1, .int p2, .int p1, .ref 0], am_up M 0 0 0)) rfl trivial ?_
  obtain ⟨r9, M9, hz, h⟩ := am_bi_s h
  refine am_R.call (e' := me_X10_isCell) (as := [.ref 0, .int p1, .int p2, .int 1]) (rest := []) rfl rfl (Nat.le_of_ble_eq_true rfl) (t_X10_isCell z N p1 p2 1 _ hz) ?_
  rcases am_it h with ⟨hc, h⟩ | ⟨hc, h⟩
  · refine am_R.cn rfl rfl (fun q => q hc) ?_
    refine am_R.go 1 (q' := (16, [some (.ref 0), some (.int p1), some (.int p2)], [.int 0], M9)) rfl trivial ?_
    cases h
    exact am_R.ret rfl rfl trivial
  · refine am_R.ct rfl rfl hc ?_
    refine am_R.go 9 (q' := (29, [some (.ref 0), some (.int p1), some (.int p2)], [.int (M9 0 40), .int 0, .int ((10 * p2) + p1), .ref 0], M9)) rfl trivial ?_
    obtain ⟨M29, hz, h⟩ := am_bv_s h
    refine am_R.call (e' := me_X10_shouts) (as := [.ref 0, .int ((10 * p2) + p1), .int 0, .int (M9 0 40)]) (rest := []) rfl rfl (Nat.le_of_ble_eq_true rfl) (t_X10_shouts z N ((10 * p2) + p1) 0 (M9 0 40) _ hz) ?_
    refine am_R.go 2 (q' := (36, [some (.ref 0), some (.int p1), some (.int p2)], [.int (M29 0 49)], M29)) rfl trivial ?_
    cases h
    exact am_R.ret rfl rfl trivial
def f_X10_safe_9B (N : Nat) (k9 : Int32 → Int32 → am_M → Option (Except Nat (Option Value) × am_M)) (v1 : Int32) (v2 : Int32) (M : am_M) : Option (Except Nat (Option Value) × am_M) :=
  if ((M 0 33) * (M 0 34)) ≤ v2 then
    some (.ok (some (.int v1)), M)
  else
    if ¬ (M 0 33) = 0 then
      am_bv (f_X10_shouts N ((10 * (v2 / (M 0 33))) + (v2 - v2 / (M 0 33) * (M 0 33))) 0 (M 0 40) M) fun M44 =>
        if (M44 0 49) = 0 then
          k9 (v1 + 1) (v2 + 1) M44
        else
          k9 (v1 + 0) (v2 + 1) M44
    else none
def f_X10_safe_9 (N : Nat) : Nat → Int32 → Int32 → am_M → Option (Except Nat (Option Value) × am_M)
  | 0 => fun _ _ _ => none
  | n + 1 => f_X10_safe_9B N (f_X10_safe_9 N n)
set_option maxRecDepth 100000 in
theorem t_X10_safe_9B (z : Value) (N : Nat) {r : Except Nat (Option Value)} {M' : am_M} (k9 : Int32 → Int32 → am_M → Option (Except Nat (Option Value) × am_M)) (hk9 : ∀ (v1 : Int32) (v2 : Int32) (M : am_M), k9 v1 v2 M = some (r, M') → mR z me_X10_safe (9, [some (.ref 0), some (.int v1), some (.int v2)], [], M) r M') (v1 : Int32) (v2 : Int32) (M : am_M) (h : f_X10_safe_9B N k9 v1 v2 M = some (r, M')) : mR z me_X10_safe (9, [some (.ref 0), some (.int v1), some (.int v2)], [], M) r M' := by
  unfold f_X10_safe_9B at h
  refine am_R.go 6 (q' := (19, [some (.ref 0), some (.int v1), some (.int v2)], [.int ((M 0 33) * (M 0 34)), .int v2], M)) rfl trivial ?_
  rcases am_it h with ⟨hc, h⟩ | ⟨hc, h⟩
  · refine am_R.bt rfl rfl hc ?_
    refine am_R.go 1 (q' := (69, [some (.ref 0), some (.int v1), some (.int v2)], [.int v1], M)) rfl trivial ?_
    cases h
    exact am_R.ret rfl rfl trivial
  · refine am_R.bn rfl rfl hc ?_
    obtain ⟨hC, h⟩ := am_gd h
    refine am_R.go 15 (q' := (44, [some (.ref 0), some (.int v1), some (.int v2)], [.int (M 0 40), .int 0, .int ((10 * (v2 / (M 0 33))) + (v2 - v2 / (M 0 33) * (M 0 33))), .ref 0], M)) rfl ⟨hC, hC, trivial⟩ ?_
    obtain ⟨M44, hz, h⟩ := am_bv_s h
    refine am_R.call (e' := me_X10_shouts) (as := [.ref 0, .int ((10 * (v2 / (M 0 33))) + (v2 - v2 / (M 0 33) * (M 0 33))), .int 0, .int (M 0 40)]) (rest := []) rfl rfl (Nat.le_of_ble_eq_true rfl) (t_X10_shouts z N ((10 * (v2 / (M 0 33))) + (v2 - v2 / (M 0 33) * (M 0 33))) 0 (M 0 40) _ hz) ?_
    refine am_R.go 3 (q' := (52, [some (.ref 0), some (.int v1), some (.int v2)], [.int (M44 0 49), .int v1], M44)) rfl trivial ?_
    rcases am_it h with ⟨hc, h⟩ | ⟨hc, h⟩
    · refine am_R.cn rfl rfl (fun q => q hc) ?_
      refine am_R.go 6 (q' := (9, [some (.ref 0), some (.int (v1 + 1)), some (.int (v2 + 1))], [], M44)) rfl trivial ?_
      exact hk9 (v1 + 1) (v2 + 1) _ h
    · refine am_R.ct rfl rfl hc ?_
      refine am_R.go 5 (q' := (9, [some (.ref 0), some (.int (v1 + 0)), some (.int (v2 + 1))], [], M44)) rfl trivial ?_
      exact hk9 (v1 + 0) (v2 + 1) _ h
set_option maxRecDepth 100000 in
theorem t_X10_safe_9 (z : Value) (N : Nat) {r : Except Nat (Option Value)} {M' : am_M} : ∀ (n : Nat) (v1 : Int32) (v2 : Int32) (M : am_M), f_X10_safe_9 N n v1 v2 M = some (r, M') → mR z me_X10_safe (9, [some (.ref 0), some (.int v1), some (.int v2)], [], M) r M' := by
  intro n
  induction n with
  | zero => intro v1 v2 M h; cases h
  | succ n ih => intro v1 v2 M h; exact t_X10_safe_9B z N _ ih v1 v2 M h
def f_X10_safe (N : Nat) (M : am_M) : Option (Except Nat (Option Value) × am_M) :=
  f_X10_safe_9 N N 0 0 (am_up M 0 0 0)
set_option maxRecDepth 100000 in
theorem t_X10_safe (z : Value) (N : Nat) (M : am_M) {r : Except Nat (Option Value)} {M' : am_M} (h : f_X10_safe N M = some (r, M')) : mR z me_X10_safe (0, [some (.ref 0), none, none], [], M) r M' := by
  unfold f_X10_safe at h
  refine am_R.go 7 (q' := (9, [some (.ref 0), some (.int 0), some (.int 0)], [], am_up M 0 0 0)) rfl trivial ?_
  exact t_X10_safe_9 z N N 0 0 _ h
def f_X10_hush_20B (N : Nat) (v1 : Int32) (v2 : Int32) (k20 : Int32 → am_M → Option (Except Nat (Option Value) × am_M)) (v3 : Int32) (M : am_M) : Option (Except Nat (Option Value) × am_M) :=
  if v3 ≤ 0 then
    some (.ok (some (.int v3)), M)
  else
    am_bv (f_X10_shouts N ((10 * v2) + v1) 0 v3 M) fun M33 =>
      if (M33 0 49) = 0 then
        some (.ok (some (.int v3)), M33)
      else
        k20 (v3 + (-1)) M33
def f_X10_hush_20 (N : Nat) (v1 : Int32) (v2 : Int32) : Nat → Int32 → am_M → Option (Except Nat (Option Value) × am_M)
  | 0 => fun _ _ => none
  | n + 1 => f_X10_hush_20B N v1 v2 (f_X10_hush_20 N v1 v2 n)
set_option maxRecDepth 100000 in
theorem t_X10_hush_20B (z : Value) (N : Nat) (v1 : Int32) (v2 : Int32) {r : Except Nat (Option Value)} {M' : am_M} (k20 : Int32 → am_M → Option (Except Nat (Option Value) × am_M)) (hk20 : ∀ (v3 : Int32) (M : am_M), k20 v3 M = some (r, M') → mR z me_X10_hush (20, [some (.ref 0), some (.int v1), some (.int v2), some (.int v3)], [], M) r M') (v3 : Int32) (M : am_M) (h : f_X10_hush_20B N v1 v2 k20 v3 M = some (r, M')) : mR z me_X10_hush (20, [some (.ref 0), some (.int v1), some (.int v2), some (.int v3)], [], M) r M' := by
  unfold f_X10_hush_20B at h
  refine am_R.go 1 (q' := (21, [some (.ref 0), some (.int v1), some (.int v2), some (.int v3)], [.int v3], M)) rfl trivial ?_
  rcases am_it h with ⟨hc, h⟩ | ⟨hc, h⟩
  · refine am_R.ct rfl rfl hc ?_
    refine am_R.go 1 (q' := (53, [some (.ref 0), some (.int v1), some (.int v2), some (.int v3)], [.int v3], M)) rfl trivial ?_
    cases h
    exact am_R.ret rfl rfl trivial
  · refine am_R.cn rfl rfl hc ?_
    refine am_R.go 8 (q' := (33, [some (.ref 0), some (.int v1), some (.int v2), some (.int v3)], [.int v3, .int 0, .int ((10 * v2) + v1), .ref 0], M)) rfl trivial ?_
    obtain ⟨M33, hz, h⟩ := am_bv_s h
    refine am_R.call (e' := me_X10_shouts) (as := [.ref 0, .int ((10 * v2) + v1), .int 0, .int v3]) (rest := []) rfl rfl (Nat.le_of_ble_eq_true rfl) (t_X10_shouts z N ((10 * v2) + v1) 0 v3 _ hz) ?_
    refine am_R.go 2 (q' := (40, [some (.ref 0), some (.int v1), some (.int v2), some (.int v3)], [.int (M33 0 49)], M33)) rfl trivial ?_
    rcases am_it h with ⟨hc, h⟩ | ⟨hc, h⟩
    · refine am_R.cn rfl rfl (fun q => q hc) ?_
      refine am_R.go 2 (q' := (53, [some (.ref 0), some (.int v1), some (.int v2), some (.int v3)], [.int v3], M33)) rfl trivial ?_
      cases h
      exact am_R.ret rfl rfl trivial
    · refine am_R.ct rfl rfl hc ?_
      refine am_R.go 2 (q' := (20, [some (.ref 0), some (.int v1), some (.int v2), some (.int (v3 + (-1)))], [], M33)) rfl trivial ?_
      exact hk20 (v3 + (-1)) _ h
set_option maxRecDepth 100000 in
theorem t_X10_hush_20 (z : Value) (N : Nat) (v1 : Int32) (v2 : Int32) {r : Except Nat (Option Value)} {M' : am_M} : ∀ (n : Nat) (v3 : Int32) (M : am_M), f_X10_hush_20 N v1 v2 n v3 M = some (r, M') → mR z me_X10_hush (20, [some (.ref 0), some (.int v1), some (.int v2), some (.int v3)], [], M) r M' := by
  intro n
  induction n with
  | zero => intro v3 M h; cases h
  | succ n ih => intro v3 M h; exact t_X10_hush_20B z N v1 v2 _ ih v3 M h
def f_X10_hush (N : Nat) (p1 : Int32) (p2 : Int32) (M : am_M) : Option (Except Nat (Option Value) × am_M) :=
  am_bi (f_X10_isCell N p1 p2 1 (am_up M 0 0 0)) fun r9 M9 =>
    if r9 = 0 then
      some (.ok (some (.int 0)), M9)
    else
      f_X10_hush_20 N p1 p2 N 99 M9
set_option maxRecDepth 100000 in
theorem t_X10_hush (z : Value) (N : Nat) (p1 : Int32) (p2 : Int32) (M : am_M) {r : Except Nat (Option Value)} {M' : am_M} (h : f_X10_hush N p1 p2 M = some (r, M')) : mR z me_X10_hush (0, [some (.ref 0), some (.int p1), some (.int p2), none], [], M) r M' := by
  unfold f_X10_hush at h
  refine am_R.go 7 (q' := (9, [some (.ref 0), some (.int p1), some (.int p2), none], [.int 1, .int p2, .int p1, .ref 0], am_up M 0 0 0)) rfl trivial ?_
  obtain ⟨r9, M9, hz, h⟩ := am_bi_s h
  refine am_R.call (e' := me_X10_isCell) (as := [.ref 0, .int p1, .int p2, .int 1]) (rest := []) rfl rfl (Nat.le_of_ble_eq_true rfl) (t_X10_isCell z N p1 p2 1 _ hz) ?_
  rcases am_it h with ⟨hc, h⟩ | ⟨hc, h⟩
  · refine am_R.cn rfl rfl (fun q => q hc) ?_
    refine am_R.go 1 (q' := (16, [some (.ref 0), some (.int p1), some (.int p2), none], [.int 0], M9)) rfl trivial ?_
    cases h
    exact am_R.ret rfl rfl trivial
  · refine am_R.ct rfl rfl hc ?_
    refine am_R.go 2 (q' := (20, [some (.ref 0), some (.int p1), some (.int p2), some (.int 99)], [], M9)) rfl trivial ?_
    exact t_X10_hush_20 z N p1 p2 N 99 _ h
