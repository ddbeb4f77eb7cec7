def f_X9_status (N : Nat) (p1 : Int32) (M : am_M) : Option (Except Nat (Option Value) × am_M) :=
  if p1.toInt = 0 then
    some (.ok (some (.int (M 0 3))), M)
  else
  if p1.toInt = 1 then
    some (.ok (some (.int (M 0 4))), M)
  else
  if p1.toInt = 2 then
    some (.ok (some (.int (M 0 5))), M)
  else
    some (.ok (some (.int (-1))), M)
set_option maxRecDepth 100000 in
theorem t_X9_status (z : Value) (N : Nat) (p1 : Int32) (M : am_M) {r : Except Nat (Option Value)} {M' : am_M} (h : f_X9_status N p1 M = some (r, M')) : cR z me_X9_status (0, [some (.ref 0), some (.int p1)], [], M) r M' := by
  unfold f_X9_status at h
  refine am_R.go 1 (q' := (1, [some (.ref 0), some (.int p1)], [.int p1], M)) rfl trivial ?_
  rcases am_it h with ⟨hc, h⟩ | ⟨hc0, h⟩
  · refine am_R.one (c := some (p1.toInt = 0 + ((0 : Nat) : Int))) (q' := (28, [some (.ref 0), some (.int p1)], [], M)) rfl (List.mem_of_getElem? (i := 1) rfl) (by show p1.toInt = _; omega) ?_
    refine am_R.go 2 (q' := (32, [some (.ref 0), some (.int p1)], [.int (M 0 3)], M)) rfl trivial ?_
    cases h
    exact am_R.ret rfl rfl trivial
  rcases am_it h with ⟨hc, h⟩ | ⟨hc1, h⟩
  · refine am_R.one (c := some (p1.toInt = 0 + ((1 : Nat) : Int))) (q' := (33, [some (.ref 0), some (.int p1)], [], M)) rfl (List.mem_of_getElem? (i := 2) rfl) (by show p1.toInt = _; omega) ?_
    refine am_R.go 2 (q' := (37, [some (.ref 0), some (.int p1)], [.int (M 0 4)], M)) rfl trivial ?_
    cases h
    exact am_R.ret rfl rfl trivial
  rcases am_it h with ⟨hc, h⟩ | ⟨hc2, h⟩
  · refine am_R.one (c := some (p1.toInt = 0 + ((2 : Nat) : Int))) (q' := (38, [some (.ref 0), some (.int p1)], [], M)) rfl (List.mem_of_getElem? (i := 3) rfl) (by show p1.toInt = _; omega) ?_
    refine am_R.go 2 (q' := (42, [some (.ref 0), some (.int p1)], [.int (M 0 5)], M)) rfl trivial ?_
    cases h
    exact am_R.ret rfl rfl trivial
  refine am_R.one (c := some (p1.toInt < 0 ∨ 2 < p1.toInt)) (q' := (43, [some (.ref 0), some (.int p1)], [], M)) rfl (List.mem_of_getElem? (i := 0) rfl) (by show _ ∨ _; omega) ?_
  refine am_R.go 1 (q' := (44, [some (.ref 0), some (.int p1)], [.int (-1)], M)) rfl trivial ?_
  cases h
  exact am_R.ret rfl rfl trivial
def f_X9_sums (N : Nat) (p1 : Int32) (M : am_M) : Option (Except Nat (Option Value) × am_M) :=
  if p1.toInt = 0 then
    some (.ok (some (.int (M 0 10))), M)
  else
  if p1.toInt = 1 then
    some (.ok (some (.int (M 0 1))), M)
  else
    some (.ok (some (.int (-1))), M)
set_option maxRecDepth 100000 in
theorem t_X9_sums (z : Value) (N : Nat) (p1 : Int32) (M : am_M) {r : Except Nat (Option Value)} {M' : am_M} (h : f_X9_sums N p1 M = some (r, M')) : cR z me_X9_sums (0, [some (.ref 0), some (.int p1)], [], M) r M' := by
  unfold f_X9_sums at h
  refine am_R.go 1 (q' := (1, [some (.ref 0), some (.int p1)], [.int p1], M)) rfl trivial ?_
  rcases am_it h with ⟨hc, h⟩ | ⟨hc0, h⟩
  · refine am_R.one (c := some (p1.toInt = 0)) (q' := (28, [some (.ref 0), some (.int p1)], [], M)) rfl (List.mem_of_getElem? (i := 1) rfl) hc ?_
    refine am_R.go 2 (q' := (32, [some (.ref 0), some (.int p1)], [.int (M 0 10)], M)) rfl trivial ?_
    cases h
    exact am_R.ret rfl rfl trivial
  rcases am_it h with ⟨hc, h⟩ | ⟨hc1, h⟩
  · refine am_R.one (c := some (p1.toInt = 1)) (q' := (33, [some (.ref 0), some (.int p1)], [], M)) rfl (List.mem_of_getElem? (i := 2) rfl) hc ?_
    refine am_R.go 2 (q' := (37, [some (.ref 0), some (.int p1)], [.int (M 0 1)], M)) rfl trivial ?_
    cases h
    exact am_R.ret rfl rfl trivial
  refine am_R.one (c := some (am_lkn p1 [(0, 0), (1, 0)])) (q' := (38, [some (.ref 0), some (.int p1)], [], M)) rfl (List.mem_of_getElem? (i := 0) rfl) ⟨hc0, hc1, trivial⟩ ?_
  refine am_R.go 1 (q' := (39, [some (.ref 0), some (.int p1)], [.int (-1)], M)) rfl trivial ?_
  cases h
  exact am_R.ret rfl rfl trivial
def f_X10_thrown (N : Nat) (M : am_M) : Option (Except Nat (Option Value) × am_M) :=
  some (.ok (some (.int (M 0 0))), M)
set_option maxRecDepth 100000 in
theorem t_X10_thrown (z : Value) (N : Nat) (M : am_M) {r : Except Nat (Option Value)} {M' : am_M} (h : f_X10_thrown N M = some (r, M')) : mR z me_X10_thrown (0, [some (.ref 0)], [], M) r M' := by
  unfold f_X10_thrown at h
  refine am_R.go 2 (q' := (4, [some (.ref 0)], [.int (M 0 0)], M)) rfl trivial ?_
  cases h
  exact am_R.ret rfl rfl trivial
def f_X10_clears_48B (N : Nat) (k48 : Int32 → am_M → Option (Except Nat (Option Value) × am_M)) (v1 : Int32) (M : am_M) : Option (Except Nat (Option Value) × am_M) :=
  if 100 ≤ v1 then
    some (.ok none, M)
  else
    if am_in v1 100 then
      k48 (v1 + 1) (am_up (am_up M 3 (v1.toNatClampNeg) 0) 4 (v1.toNatClampNeg) 0)
    else none
def f_X10_clears_48 (N : Nat) : Nat → Int32 → am_M → Option (Except Nat (Option Value) × am_M)
  | 0 => fun _ _ => none
  | n + 1 => f_X10_clears_48B N (f_X10_clears_48 N n)
set_option maxRecDepth 100000 in
theorem t_X10_clears_48B (z : Value) (N : Nat) {r : Except Nat (Option Value)} {M' : am_M} (k48 : Int32 → am_M → Option (Except Nat (Option Value) × am_M)) (hk48 : ∀ (v1 : Int32) (M : am_M), k48 v1 M = some (r, M') → mR z me_X10_clears (48, [some (.ref 0), some (.int v1)], [], M) r M') (v1 : Int32) (M : am_M) (h : f_X10_clears_48B N k48 v1 M = some (r, M')) : mR z me_X10_clears (48, [some (.ref 0), some (.int v1)], [], M) r M' := by
  unfold f_X10_clears_48B at h
  refine am_R.go 2 (q' := (51, [some (.ref 0), some (.int v1)], [.int 100, .int v1], M)) rfl trivial ?_
  rcases am_it h with ⟨hc, h⟩ | ⟨hc, h⟩
  · refine am_R.bt rfl rfl hc ?_
    cases h
    exact am_R.ret rfl rfl trivial
  · refine am_R.bn rfl rfl hc ?_
    obtain ⟨hC, h⟩ := am_gd h
    refine am_R.go 12 (q' := (48, [some (.ref 0), some (.int (v1 + 1))], [], am_up (am_up M 3 (v1.toNatClampNeg) 0) 4 (v1.toNatClampNeg) 0)) rfl ⟨hC, hC, trivial⟩ ?_
    exact hk48 (v1 + 1) _ h
set_option maxRecDepth 100000 in
theorem t_X10_clears_48 (z : Value) (N : Nat) {r : Except Nat (Option Value)} {M' : am_M} : ∀ (n : Nat) (v1 : Int32) (M : am_M), f_X10_clears_48 N n v1 M = some (r, M') → mR z me_X10_clears (48, [some (.ref 0), some (.int v1)], [], M) r M' := by
  intro n
  induction n with
  | zero => intro v1 M h; cases h
  | succ n ih => intro v1 M h; exact t_X10_clears_48B z N _ ih v1 M h
def f_X10_clears (N : Nat) (M : am_M) : Option (Except Nat (Option Value) × am_M) :=
  f_X10_clears_48 N N 0 (am_up (am_up (am_up (am_up (am_up (am_up (am_up (am_up (am_up M 0 24 0) 0 25 0) 0 26 0) 0 27 0) 0 28 0) 0 29 0) 0 30 0) 0 31 20) 0 32 0)
set_option maxRecDepth 100000 in
theorem t_X10_clears (z : Value) (N : Nat) (M : am_M) {r : Except Nat (Option Value)} {M' : am_M} (h : f_X10_clears N M = some (r, M')) : mR z me_X10_clears (0, [some (.ref 0), none], [], M) r M' := by
  unfold f_X10_clears at h
  refine am_R.go 29 (q' := (48, [some (.ref 0), some (.int 0)], [], am_up (am_up (am_up (am_up (am_up (am_up (am_up (am_up (am_up M 0 24 0) 0 25 0) 0 26 0) 0 27 0) 0 28 0) 0 29 0) 0 30 0) 0 31 20) 0 32 0)) rfl trivial ?_
  exact t_X10_clears_48 z N N 0 _ h
def f_X10_copies_3_10_2B (N : Nat) (v2 : Int32) (k2 : Int32 → am_M → Option (Except Nat (Option Value) × am_M)) (v3 : Int32) (M : am_M) : Option (Except Nat (Option Value) × am_M) :=
  if v2 ≤ v3 then
    some (.ok none, M)
  else
    if am_in v3 100 then
      k2 (v3 + 1) (am_up M 10 (v3.toNatClampNeg) (M 3 (v3.toNatClampNeg)))
    else none
def f_X10_copies_3_10_2 (N : Nat) (v2 : Int32) : Nat → Int32 → am_M → Option (Except Nat (Option Value) × am_M)
  | 0 => fun _ _ => none
  | n + 1 => f_X10_copies_3_10_2B N v2 (f_X10_copies_3_10_2 N v2 n)
set_option maxRecDepth 100000 in
theorem t_X10_copies_3_10_2B (z : Value) (N : Nat) (v2 : Int32) {r : Except Nat (Option Value)} {M' : am_M} (k2 : Int32 → am_M → Option (Except Nat (Option Value) × am_M)) (hk2 : ∀ (v3 : Int32) (M : am_M), k2 v3 M = some (r, M') → mR z me_X10_copies (2, [some (.ref 3), some (.ref 10), some (.int v2), some (.int v3)], [], M) r M') (v3 : Int32) (M : am_M) (h : f_X10_copies_3_10_2B N v2 k2 v3 M = some (r, M')) : mR z me_X10_copies (2, [some (.ref 3), some (.ref 10), some (.int v2), some (.int v3)], [], M) r M' := by
  unfold f_X10_copies_3_10_2B at h
  refine am_R.go 2 (q' := (4, [some (.ref 3), some (.ref 10), some (.int v2), some (.int v3)], [.int v2, .int v3], M)) rfl trivial ?_
  rcases am_it h with ⟨hc, h⟩ | ⟨hc, h⟩
  · refine am_R.bt rfl rfl hc ?_
    cases h
    exact am_R.ret rfl rfl trivial
  · refine am_R.bn rfl rfl hc ?_
    obtain ⟨hC, h⟩ := am_gd h
    refine am_R.go 8 (q' := (2, [some (.ref 3), some (.ref 10), some (.int v2), some (.int (v3 + 1))], [], am_up M 10 (v3.toNatClampNeg) (M 3 (v3.toNatClampNeg)))) rfl ⟨hC, hC, trivial⟩ ?_
    exact hk2 (v3 + 1) _ h
set_option maxRecDepth 100000 in
theorem t_X10_copies_3_10_2 (z : Value) (N : Nat) (v2 : Int32) {r : Except Nat (Option Value)} {M' : am_M} : ∀ (n : Nat) (v3 : Int32) (M : am_M), f_X10_copies_3_10_2 N v2 n v3 M = some (r, M') → mR z me_X10_copies (2, [some (.ref 3), some (.ref 10), some (.int v2), some (.int v3)], [], M) r M' := by
  intro n
  induction n with
  | zero => intro v3 M h; cases h
  | succ n ih => intro v3 M h; exact t_X10_copies_3_10_2B z N v2 _ ih v3 M h
def f_X10_copies_3_10 (N : Nat) (p2 : Int32) (M : am_M) : Option (Except Nat (Option Value) × am_M) :=
  f_X10_copies_3_10_2 N p2 N 0 M
set_option maxRecDepth 100000 in
theorem t_X10_copies_3_10 (z : Value) (N : Nat) (p2 : Int32) (M : am_M) {r : Except Nat (Option Value)} {M' : am_M} (h : f_X10_copies_3_10 N p2 M = some (r, M')) : mR z me_X10_copies (0, [some (.ref 3), some (.ref 10), some (.int p2), none], [], M) r M' := by
  unfold f_X10_copies_3_10 at h
  refine am_R.go 2 (q' := (2, [some (.ref 3), some (.ref 10), some (.int p2), some (.int 0)], [], M)) rfl trivial ?_
  exact t_X10_copies_3_10_2 z N p2 N 0 _ h
def f_X10_copies_4_11_2B (N : Nat) (v2 : Int32) (k2 : Int32 → am_M → Option (Except Nat (Option Value) × am_M)) (v3 : Int32) (M : am_M) : Option (Except Nat (Option Value) × am_M) :=
  if v2 ≤ v3 then
    some (.ok none, M)
  else
    if am_in v3 100 then
      k2 (v3 + 1) (am_up M 11 (v3.toNatClampNeg) (M 4 (v3.toNatClampNeg)))
    else none
def f_X10_copies_4_11_2 (N : Nat) (v2 : Int32) : Nat → Int32 → am_M → Option (Except Nat (Option Value) × am_M)
  | 0 => fun _ _ => none
  | n + 1 => f_X10_copies_4_11_2B N v2 (f_X10_copies_4_11_2 N v2 n)
set_option maxRecDepth 100000 in
theorem t_X10_copies_4_11_2B (z : Value) (N : Nat) (v2 : Int32) {r : Except Nat (Option Value)} {M' : am_M} (k2 : Int32 → am_M → Option (Except Nat (Option Value) × am_M)) (hk2 : ∀ (v3 : Int32) (M : am_M), k2 v3 M = some (r, M') → mR z me_X10_copies (2, [some (.ref 4), some (.ref 11), some (.int v2), some (.int v3)], [], M) r M') (v3 : Int32) (M : am_M) (h : f_X10_copies_4_11_2B N v2 k2 v3 M = some (r, M')) : mR z me_X10_copies (2, [some (.ref 4), some (.ref 11), some (.int v2), some (.int v3)], [], M) r M' := by
  unfold f_X10_copies_4_11_2B at h
  refine am_R.go 2 (q' := (4, [some (.ref 4), some (.ref 11), some (.int v2), some (.int v3)], [.int v2, .int v3], M)) rfl trivial ?_
  rcases am_it h with ⟨hc, h⟩ | ⟨hc, h⟩
  · refine am_R.bt rfl rfl hc ?_
    cases h
    exact am_R.ret rfl rfl trivial
  · refine am_R.bn rfl rfl hc ?_
    obtain ⟨hC, h⟩ := am_gd h
    refine am_R.go 8 (q' := (2, [some (.ref 4), some (.ref 11), some (.int v2), some (.int (v3 + 1))], [], am_up M 11 (v3.toNatClampNeg) (M 4 (v3.toNatClampNeg)))) rfl ⟨hC, hC, trivial⟩ ?_
    exact hk2 (v3 + 1) _ h
set_option maxRecDepth 100000 in
theorem t_X10_copies_4_11_2 (z : Value) (N : Nat) (v2 : Int32) {r : Except Nat (Option Value)} {M' : am_M} : ∀ (n : Nat) (v3 : Int32) (M : am_M), f_X10_copies_4_11_2 N v2 n v3 M = some (r, M') → mR z me_X10_copies (2, [some (.ref 4), some (.ref 11), some (.int v2), some (.int v3)], [], M) r M' := by
  intro n
  induction n with
  | zero => intro v3 M h; cases h
  | succ n ih => intro v3 M h; exact t_X10_copies_4_11_2B z N v2 _ ih v3 M h
def f_X10_copies_4_11 (N : Nat) (p2 : Int32) (M : am_M) : Option (Except Nat (Option Value) × am_M) :=
  f_X10_copies_4_11_2 N p2 N 0 M
set_option maxRecDepth 100000 in
theorem t_X10_copies_4_11 (z : Value) (N : Nat) (p2 : Int32) (M : am_M) {r : Except Nat (Option Value)} {M' : am_M} (h : f_X10_copies_4_11 N p2 M = some (r, M')) : mR z me_X10_copies (0, [some (.ref 4), some (.ref 11), some (.int p2), none], [], M) r M' := by
  unfold f_X10_copies_4_11 at h
  refine am_R.go 2 (q' := (2, [some (.ref 4), some (.ref 11), some (.int p2), some (.int 0)], [], M)) rfl trivial ?_
  exact t_X10_copies_4_11_2 z N p2 N 0 _ h
def f_X10_copies_5_12_2B (N : Nat) (v2 : Int32) (k2 : Int32 → am_M → Option (Except Nat (Option Value) × am_M)) (v3 : Int32) (M : am_M) : Option (Except Nat (Option Value) × am_M) :=
  if v2 ≤ v3 then
    some (.ok none, M)
  else
    if am_in v3 16 then
      k2 (v3 + 1) (am_up M 12 (v3.toNatClampNeg) (M 5 (v3.toNatClampNeg)))
    else none
def f_X10_copies_5_12_2 (N : Nat) (v2 : Int32) : Nat → Int32 → am_M → Option (Except Nat (Option Value) × am_M)
  | 0 => fun _ _ => none
  | n + 1 => f_X10_copies_5_12_2B N v2 (f_X10_copies_5_12_2 N v2 n)
set_option maxRecDepth 100000 in
theorem t_X10_copies_5_12_2B (z : Value) (N : Nat) (v2 : Int32) {r : Except Nat (Option Value)} {M' : am_M} (k2 : Int32 → am_M → Option (Except Nat (Option Value) × am_M)) (hk2 : ∀ (v3 : Int32) (M : am_M), k2 v3 M = some (r, M') → mR z me_X10_copies (2, [some (.ref 5), some (.ref 12), some (.int v2), some (.int v3)], [], M) r M') (v3 : Int32) (M : am_M) (h : f_X10_copies_5_12_2B N v2 k2 v3 M = some (r, M')) : mR z me_X10_copies (2, [some (.ref 5), some (.ref 12), some (.int v2), some (.int v3)], [], M) r M' := by
  unfold f_X10_copies_5_12_2B at h
  refine am_R.go 2 (q' := (4, [some (.ref 5), some (.ref 12), some (.int v2), some (.int v3)], [.int v2, .int v3], M)) rfl trivial ?_
  rcases am_it h with ⟨hc, h⟩ | ⟨hc, h⟩
  · refine am_R.bt rfl rfl hc ?_
    cases h
    exact am_R.ret rfl rfl trivial
  · refine am_R.bn rfl rfl hc ?_
    obtain ⟨hC, h⟩ := am_gd h
    refine am_R.go 8 (q' := (2, [some (.ref 5), some (.ref 12), some (.int v2), some (.int (v3 + 1))], [], am_up M 12 (v3.toNatClampNeg) (M 5 (v3.toNatClampNeg)))) rfl ⟨hC, hC, trivial⟩ ?_
    exact hk2 (v3 + 1) _ h
set_option maxRecDepth 100000 in
theorem t_X10_copies_5_12_2 (z : Value) (N : Nat) (v2 : Int32) {r : Except Nat (Option Value)} {M' : am_M} : ∀ (n : Nat) (v3 : Int32) (M : am_M), f_X10_copies_5_12_2 N v2 n v3 M = some (r, M') → mR z me_X10_copies (2, [some (.ref 5), some (.ref 12), some (.int v2), some (.int v3)], [], M) r M' := by
  intro n
  induction n with
  | zero => intro v3 M h; cases h
  | succ n ih => intro v3 M h; exact t_X10_copies_5_12_2B z N v2 _ ih v3 M h
def f_X10_copies_5_12 (N : Nat) (p2 : Int32) (M : am_M) : Option (Except Nat (Option Value) × am_M) :=
  f_X10_copies_5_12_2 N p2 N 0 M
set_option maxRecDepth 100000 in
theorem t_X10_copies_5_12 (z : Value) (N : Nat) (p2 : Int32) (M : am_M) {r : Except Nat (Option Value)} {M' : am_M} (h : f_X10_copies_5_12 N p2 M = some (r, M')) : mR z me_X10_copies (0, [some (.ref 5), some (.ref 12), some (.int p2), none], [], M) r M' := by
  unfold f_X10_copies_5_12 at h
  refine am_R.go 2 (q' := (2, [some (.ref 5), some (.ref 12), some (.int p2), some (.int 0)], [], M)) rfl trivial ?_
  exact t_X10_copies_5_12_2 z N p2 N 0 _ h
def f_X10_copies_6_13_2B (N : Nat) (v2 : Int32) (k2 : Int32 → am_M → Option (Except Nat (Option Value) × am_M)) (v3 : Int32) (M : am_M) : Option (Except Nat (Option Value) × am_M) :=
  if v2 ≤ v3 then
    some (.ok none, M)
  else
    if am_in v3 25 then
      k2 (v3 + 1) (am_up M 13 (v3.toNatClampNeg) (M 6 (v3.toNatClampNeg)))
    else none
def f_X10_copies_6_13_2 (N : Nat) (v2 : Int32) : Nat → Int32 → am_M → Option (Except Nat (Option Value) × am_M)
  | 0 => fun _ _ => none
  | n + 1 => f_X10_copies_6_13_2B N v2 (f_X10_copies_6_13_2 N v2 n)
set_option maxRecDepth 100000 in
theorem t_X10_copies_6_13_2B (z : Value) (N : Nat) (v2 : Int32) {r : Except Nat (Option Value)} {M' : am_M} (k2 : Int32 → am_M → Option (Except Nat (Option Value) × am_M)) (hk2 : ∀ (v3 : Int32) (M : am_M), k2 v3 M = some (r, M') → mR z me_X10_copies (2, [some (.ref 6), some (.ref 13), some (.int v2), some (.int v3)], [], M) r M') (v3 : Int32) (M : am_M) (h : f_X10_copies_6_13_2B N v2 k2 v3 M = some (r, M')) : mR z me_X10_copies (2, [some (.ref 6), some (.ref 13), some (.int v2), some (.int v3)], [], M) r M' := by
  unfold f_X10_copies_6_13_2B at h
  refine am_R.go 2 (q' := (4, [some (.ref 6), some (.ref 13), some (.int v2), some (.int v3)], [.int v2, .int v3], M)) rfl trivial ?_
  rcases am_it h with ⟨hc, h⟩ | ⟨hc, h⟩
  · refine am_R.bt rfl rfl hc ?_
    cases h
    exact am_R.ret rfl rfl trivial
  · refine am_R.bn rfl rfl hc ?_
    obtain ⟨hC, h⟩ := am_gd h
    refine am_R.go 8 (q' := (2, [some (.ref 6), some (.ref 13), some (.int v2), some (.int (v3 + 1))], [], am_up M 13 (v3.toNatClampNeg) (M 6 (v3.toNatClampNeg)))) rfl ⟨hC, hC, trivial⟩ ?_
    exact hk2 (v3 + 1) _ h
set_option maxRecDepth 100000 in
theorem t_X10_copies_6_13_2 (z : Value) (N : Nat) (v2 : Int32) {r : Except Nat (Option Value)} {M' : am_M} : ∀ (n : Nat) (v3 : Int32) (M : am_M), f_X10_copies_6_13_2 N v2 n v3 M = some (r, M') → mR z me_X10_copies (2, [some (.ref 6), some (.ref 13), some (.int v2), some (.int v3)], [], M) r M' := by
  intro n
  induction n with
  | zero => intro v3 M h; cases h
  | succ n ih => intro v3 M h; exact t_X10_copies_6_13_2B z N v2 _ ih v3 M h
def f_X10_copies_6_13 (N : Nat) (p2 : Int32) (M : am_M) : Option (Except Nat (Option Value) × am_M) :=
  f_X10_copies_6_13_2 N p2 N 0 M
set_option maxRecDepth 100000 in
theorem t_X10_copies_6_13 (z : Value) (N : Nat) (p2 : Int32) (M : am_M) {r : Except Nat (Option Value)} {M' : am_M} (h : f_X10_copies_6_13 N p2 M = some (r, M')) : mR z me_X10_copies (0, [some (.ref 6), some (.ref 13), some (.int p2), none], [], M) r M' := by
  unfold f_X10_copies_6_13 at h
  refine am_R.go 2 (q' := (2, [some (.ref 6), some (.ref 13), some (.int p2), some (.int 0)], [], M)) rfl trivial ?_
  exact t_X10_copies_6_13_2 z N p2 N 0 _ h
def f_X10_copies_7_14_2B (N : Nat) (v2 : Int32) (k2 : Int32 → am_M → Option (Except Nat (Option Value) × am_M)) (v3 : Int32) (M : am_M) : Option (Except Nat (Option Value) × am_M) :=
  if v2 ≤ v3 then
    some (.ok none, M)
  else
    if am_in v3 8 then
      k2 (v3 + 1) (am_up M 14 (v3.toNatClampNeg) (M 7 (v3.toNatClampNeg)))
    else none
def f_X10_copies_7_14_2 (N : Nat) (v2 : Int32) : Nat → Int32 → am_M → Option (Except Nat (Option Value) × am_M)
  | 0 => fun _ _ => none
  | n + 1 => f_X10_copies_7_14_2B N v2 (f_X10_copies_7_14_2 N v2 n)
set_option maxRecDepth 100000 in
theorem t_X10_copies_7_14_2B (z : Value) (N : Nat) (v2 : Int32) {r : Except Nat (Option Value)} {M' : am_M} (k2 : Int32 → am_M → Option (Except Nat (Option Value) × am_M)) (hk2 : ∀ (v3 : Int32) (M : am_M), k2 v3 M = some (r, M') → mR z me_X10_copies (2, [some (.ref 7), some (.ref 14), some (.int v2), some (.int v3)], [], M) r M') (v3 : Int32) (M : am_M) (h : f_X10_copies_7_14_2B N v2 k2 v3 M = some (r, M')) : mR z me_X10_copies (2, [some (.ref 7), some (.ref 14), some (.int v2), some (.int v3)], [], M) r M' := by
  unfold f_X10_copies_7_14_2B at h
  refine am_R.go 2 (q' := (4, [some (.ref 7), some (.ref 14), some (.int v2), some (.int v3)], [.int v2, .int v3], M)) rfl trivial ?_
  rcases am_it h with ⟨hc, h⟩ | ⟨hc, h⟩
  · refine am_R.bt rfl rfl hc ?_
    cases h
    exact am_R.ret rfl rfl trivial
  · refine am_R.bn rfl rfl hc ?_
    obtain ⟨hC, h⟩ := am_gd h
    refine am_R.go 8 (q' := (2, [some (.ref 7), some (.ref 14), some (.int v2), some (.int (v3 + 1))], [], am_up M 14 (v3.toNatClampNeg) (M 7 (v3.toNatClampNeg)))) rfl ⟨hC, hC, trivial⟩ ?_
    exact hk2 (v3 + 1) _ h
set_option maxRecDepth 100000 in
theorem t_X10_copies_7_14_2 (z : Value) (N : Nat) (v2 : Int32) {r : Except Nat (Option Value)} {M' : am_M} : ∀ (n : Nat) (v3 : Int32) (M : am_M), f_X10_copies_7_14_2 N v2 n v3 M = some (r, M') → mR z me_X10_copies (2, [some (.ref 7), some (.ref 14), some (.int v2), some (.int v3)], [], M) r M' := by
  intro n
  induction n with
  | zero => intro v3 M h; cases h
  | succ n ih => intro v3 M h; exact t_X10_copies_7_14_2B z N v2 _ ih v3 M h
def f_X10_copies_7_14 (N : Nat) (p2 : Int32) (M : am_M) : Option (Except Nat (Option Value) × am_M) :=
  f_X10_copies_7_14_2 N p2 N 0 M
set_option maxRecDepth 100000 in
theorem t_X10_copies_7_14 (z : Value) (N : Nat) (p2 : Int32) (M : am_M) {r : Except Nat (Option Value)} {M' : am_M} (h : f_X10_copies_7_14 N p2 M = some (r, M')) : mR z me_X10_copies (0, [some (.ref 7), some (.ref 14), some (.int p2), none], [], M) r M' := by
  unfold f_X10_copies_7_14 at h
  refine am_R.go 2 (q' := (2, [some (.ref 7), some (.ref 14), some (.int p2), some (.int 0)], [], M)) rfl trivial ?_
  exact t_X10_copies_7_14_2 z N p2 N 0 _ h
def f_X10_copies_8_15_2B (N : Nat) (v2 : Int32) (k2 : Int32 → am_M → Option (Except Nat (Option Value) × am_M)) (v3 : Int32) (M : am_M) : Option (Except Nat (Option Value) × am_M) :=
  if v2 ≤ v3 then
    some (.ok none, M)
  else
    if am_in v3 8 then
      k2 (v3 + 1) (am_up M 15 (v3.toNatClampNeg) (M 8 (v3.toNatClampNeg)))
    else none
def f_X10_copies_8_15_2 (N : Nat) (v2 : Int32) : Nat → Int32 → am_M → Option (Except Nat (Option Value) × am_M)
  | 0 => fun _ _ => none
  | n + 1 => f_X10_copies_8_15_2B N v2 (f_X10_copies_8_15_2 N v2 n)
set_option maxRecDepth 100000 in
theorem t_X10_copies_8_15_2B (z : Value) (N : Nat) (v2 : Int32) {r : Except Nat (Option Value)} {M' : am_M} (k2 : Int32 → am_M → Option (Except Nat (Option Value) × am_M)) (hk2 : ∀ (v3 : Int32) (M : am_M), k2 v3 M = some (r, M') → mR z me_X10_copies (2, [some (.ref 8), some (.ref 15), some (.int v2), some (.int v3)], [], M) r M') (v3 : Int32) (M : am_M) (h : f_X10_copies_8_15_2B N v2 k2 v3 M = some (r, M')) : mR z me_X10_copies (2, [some (.ref 8), some (.ref 15), some (.int v2), some (.int v3)], [], M) r M' := by
  unfold f_X10_copies_8_15_2B at h
  refine am_R.go 2 (q' := (4, [some (.ref 8), some (.ref 15), some (.int v2), some (.int v3)], [.int v2, .int v3], M)) rfl trivial ?_
  rcases am_it h with ⟨hc, h⟩ | ⟨hc, h⟩
  · refine am_R.bt rfl rfl hc ?_
    cases h
    exact am_R.ret rfl rfl trivial
  · refine am_R.bn rfl rfl hc ?_
    obtain ⟨hC, h⟩ := am_gd h
    refine am_R.go 8 (q' := (2, [some (.ref 8), some (.ref 15), some (.int v2), some (.int (v3 + 1))], [], am_up M 15 (v3.toNatClampNeg) (M 8 (v3.toNatClampNeg)))) rfl ⟨hC, hC, trivial⟩ ?_
    exact hk2 (v3 + 1) _ h
set_option maxRecDepth 100000 in
theorem t_X10_copies_8_15_2 (z : Value) (N : Nat) (v2 : Int32) {r : Except Nat (Option Value)} {M' : am_M} : ∀ (n : Nat) (v3 : Int32) (M : am_M), f_X10_copies_8_15_2 N v2 n v3 M = some (r, M') → mR z me_X10_copies (2, [some (.ref 8), some (.ref 15), some (.int v2), some (.int v3)], [], M) r M' := by
  intro n
  induction n with
  | zero => intro v3 M h; cases h
  | succ n ih => intro v3 M h; exact t_X10_copies_8_15_2B z N v2 _ ih v3 M h
def f_X10_copies_8_15 (N : Nat) (p2 : Int32) (M : am_M) : Option (Except Nat (Option Value) × am_M) :=
  f_X10_copies_8_15_2 N p2 N 0 M
set_option maxRecDepth 100000 in
theorem t_X10_copies_8_15 (z : Value) (N : Nat) (p2 : Int32) (M : am_M) {r : Except Nat (Option Value)} {M' : am_M} (h : f_X10_copies_8_15 N p2 M = some (r, M')) : mR z me_X10_copies (0, [some (.ref 8), some (.ref 15), some (.int p2), none], [], M) r M' := by
  unfold f_X10_copies_8_15 at h
  refine am_R.go 2 (q' := (2, [some (.ref 8), some (.ref 15), some (.int p2), some (.int 0)], [], M)) rfl trivial ?_
  exact t_X10_copies_8_15_2 z N p2 N 0 _ h
def f_X10_copies_9_16_2B (N : Nat) (v2 : Int32) (k2 : Int32 → am_M → Option (Except Nat (Option Value) × am_M)) (v3 : Int32) (M : am_M) : Option (Except Nat (Option Value) × am_M) :=
  if v2 ≤ v3 then
    some (.ok none, M)
  else
    if am_in v3 8 then
      k2 (v3 + 1) (am_up M 16 (v3.toNatClampNeg) (M 9 (v3.toNatClampNeg)))
    else none
def f_X10_copies_9_16_2 (N : Nat) (v2 : Int32) : Nat → Int32 → am_M → Option (Except Nat (Option Value) × am_M)
  | 0 => fun _ _ => none
  | n + 1 => f_X10_copies_9_16_2B N v2 (f_X10_copies_9_16_2 N v2 n)
set_option maxRecDepth 100000 in
theorem t_X10_copies_9_16_2B (z : Value) (N : Nat) (v2 : Int32) {r : Except Nat (Option Value)} {M' : am_M} (k2 : Int32 → am_M → Option (Except Nat (Option Value) × am_M)) (hk2 : ∀ (v3 : Int32) (M : am_M), k2 v3 M = some (r, M') → mR z me_X10_copies (2, [some (.ref 9), some (.ref 16), some (.int v2), some (.int v3)], [], M) r M') (v3 : Int32) (M : am_M) (h : f_X10_copies_9_16_2B N v2 k2 v3 M = some (r, M')) : mR z me_X10_copies (2, [some (.ref 9), some (.ref 16), some (.int v2), some (.int v3)], [], M) r M' := by
  unfold f_X10_copies_9_16_2B at h
  refine am_R.go 2 (q' := (4, [some (.ref 9), some (.ref 16), some (.int v2), some (.int v3)], [.int v2, .int v3], M)) rfl trivial ?_
  rcases am_it h with ⟨hc, h⟩ | ⟨hc, h⟩
  · refine am_R.bt rfl rfl hc ?_
    cases h
    exact am_R.ret rfl rfl trivial
  · refine am_R.bn rfl rfl hc ?_
    obtain ⟨hC, h⟩ := am_gd h
    refine am_R.go 8 (q' := (2, [some (.ref 9), some (.ref 16), some (.int v2), some (.int (v3 + 1))], [], am_up M 16 (v3.toNatClampNeg) (M 9 (v3.toNatClampNeg)))) rfl ⟨hC, hC, trivial⟩ ?_
    exact hk2 (v3 + 1) _ h
set_option maxRecDepth 100000 in
theorem t_X10_copies_9_16_2 (z : Value) (N : Nat) (v2 : Int32) {r : Except Nat (Option Value)} {M' : am_M} : ∀ (n : Nat) (v3 : Int32) (M : am_M), f_X10_copies_9_16_2 N v2 n v3 M = some (r, M') → mR z me_X10_copies (2, [some (.ref 9), some (.ref 16), some (.int v2), some (.int v3)], [], M) r M' := by
  intro n
  induction n with
  | zero => intro v3 M h; cases h
  | succ n ih => intro v3 M h; exact t_X10_copies_9_16_2B z N v2 _ ih v3 M h
def f_X10_copies_9_16 (N : Nat) (p2 : Int32) (M : am_M) : Option (Except Nat (Option Value) × am_M) :=
  f_X10_copies_9_16_2 N p2 N 0 M
set_option maxRecDepth 100000 in
theorem t_X10_copies_9_16 (z : Value) (N : Nat) (p2 : Int32) (M : am_M) {r : Except Nat (Option Value)} {M' : am_M} (h : f_X10_copies_9_16 N p2 M = some (r, M')) : mR z me_X10_copies (0, [some (.ref 9), some (.ref 16), some (.int p2), none], [], M) r M' := by
  unfold f_X10_copies_9_16 at h
  refine am_R.go 2 (q' := (2, [some (.ref 9), some (.ref 16), some (.int p2), some (.int 0)], [], M)) rfl trivial ?_
  exact t_X10_copies_9_16_2 z N p2 N 0 _ h
def f_X10_sets (N : Nat) (M : am_M) : Option (Except Nat (Option Value) × am_M) :=
  am_bv (f_X10_copies_3_10 N 100 (am_up (am_up (am_up (am_up (am_up (am_up (am_up (am_up (am_up (am_up (am_up (am_up M 0 33 (M 0 24)) 0 34 (M 0 25)) 0 35 (M 0 26)) 0 36 (M 0 27)) 0 37 (M 0 28)) 0 38 (M 0 29)) 0 39 (M 0 30)) 0 40 (M 0 31)) 0 41 (M 0 32)) 0 42 0) 0 60 0) 0 65 0)) fun M97 =>
    am_bv (f_X10_copies_4_11 N 100 M97) fun M110 =>
      am_bv (f_X10_copies_5_12 N 16 M110) fun M123 =>
        am_bv (f_X10_copies_6_13 N 25 M123) fun M136 =>
          am_bv (f_X10_copies_7_14 N 8 M136) fun M149 =>
            am_bv (f_X10_copies_8_15 N 8 M149) fun M162 =>
              am_bv (f_X10_copies_9_16 N 8 M162) fun M175 =>
                some (.ok none, M175)
set_option maxRecDepth 100000 in
theorem t_X10_sets (z : Value) (N : Nat) (M : am_M) {r : Except Nat (Option Value)} {M' : am_M} (h : f_X10_sets N M = some (r, M')) : mR z me_X10_sets (0, [some (.ref 0)], [], M) r M' := by
  unfold f_X10_sets at h
  refine am_R.go 50 (q' := (97, [some (.ref 0)], [.int 100, .ref 10, .ref 3], am_up (am_up (am_up (am_up (am_up (am_up (am_up (am_up (am_up (am_up (am_up (am_up M 0 33 (M 0 24)) 0 34 (M 0 25)) 0 35 (M 0 26)) 0 36 (M 0 27)) 0 37 (M 0 28)) 0 38 (M 0 29)) 0 39 (M 0 30)) 0 40 (M 0 31)) 0 41 (M 0 32)) 0 42 0) 0 60 0) 0 65 0)) rfl trivial ?_
  obtain ⟨M97, hz, h⟩ := am_bv_s h
  refine am_R.call (e' := me_X10_copies) (as := [.ref 3, .ref 10, .int 100]) (rest := []) rfl rfl (Nat.le_of_ble_eq_true rfl) (t_X10_copies_3_10 z N 100 _ hz) ?_
  refine am_R.go 5 (q' := (110, [some (.ref 0)], [.int 100, .ref 11, .ref 4], M97)) rfl trivial ?_
  obtain ⟨M110, hz, h⟩ := am_bv_s h
  refine am_R.call (e' := me_X10_copies) (as := [.ref 4, .ref 11, .int 100]) (rest := []) rfl rfl (Nat.le_of_ble_eq_true rfl) (t_X10_copies_4_11 z N 100 _ hz) ?_
  refine am_R.go 5 (q' := (123, [some (.ref 0)], [.int 16, .ref 12, .ref 5], M110)) rfl trivial ?_
  obtain ⟨M123, hz, h⟩ := am_bv_s h
  refine am_R.call (e' := me_X10_copies) (as := [.ref 5, .ref 12, .int 16]) (rest := []) rfl rfl (Nat.le_of_ble_eq_true rfl) (t_X10_copies_5_12 z N 16 _ hz) ?_
  refine am_R.go 5 (q' := (136, [some (.ref 0)], [.int 25, .ref 13, .ref 6], M123)) rfl trivial ?_
  obtain ⟨M136, hz, h⟩ := am_bv_s h
  refine am_R.call (e' := me_X10_copies) (as := [.ref 6, .ref 13, .int 25]) (rest := []) rfl rfl (Nat.le_of_ble_eq_true rfl) (t_X10_copies_6_13 z N 25 _ hz) ?_
  refine am_R.go 5 (q' := (149, [some (.ref 0)], [.int 8, .ref 14, .ref 7], M136)) rfl trivial ?_
  obtain ⟨M149, hz, h⟩ := am_bv_s h
  refine am_R.call (e' := me_X10_copies) (as := [.ref 7, .ref 14, .int 8]) (rest := []) rfl rfl (Nat.le_of_ble_eq_true rfl) (t_X10_copies_7_14 z N 8 _ hz) ?_
  refine am_R.go 5 (q' := (162, [some (.ref 0)], [.int 8, .ref 15, .ref 8], M149)) rfl trivial ?_
  obtain ⟨M162, hz, h⟩ := am_bv_s h
  refine am_R.call (e' := me_X10_copies) (as := [.ref 8, .ref 15, .int 8]) (rest := []) rfl rfl (Nat.le_of_ble_eq_true rfl) (t_X10_copies_8_15 z N 8 _ hz) ?_
  refine am_R.go 5 (q' := (175, [some (.ref 0)], [.int 8, .ref 16, .ref 9], M162)) rfl trivial ?_
  obtain ⟨M175, hz, h⟩ := am_bv_s h
  refine am_R.call (e' := me_X10_copies) (as := [.ref 9, .ref 16, .int 8]) (rest := []) rfl rfl (Nat.le_of_ble_eq_true rfl) (t_X10_copies_9_16 z N 8 _ hz) ?_
  cases h
  exact am_R.ret rfl rfl trivial
def f_X10_feed_76 (N : Nat) (k23 : Int32 → am_M → Option (Except Nat (Option Value) × am_M)) (v1 : Int32) (v2 : Int32) (v3 : Int32) (v4 : Int32) (v5 : Int32) (v6 : Int32) (s0 : Int32) (M : am_M) : Option (Except Nat (Option Value) × am_M) :=
  if am_in (M 0 2) 600 then
    k23 (v6 + 1) (am_up (am_up M 2 ((M 0 2).toNatClampNeg) ((s0 >>> ((24 - (8 * (v6 - v6 / 4 * 4))) &&& 31)) &&& 255)) 0 2 ((M 0 2) + 1))
  else none
set_option maxRecDepth 100000 in
theorem t_X10_feed_76 (z : Value) (N : Nat) (k23 : Int32 → am_M → Option (Except Nat (Option Value) × am_M)) {r : Except Nat (Option Value)} {M' : am_M} (v1 : Int32) (v2 : Int32) (v3 : Int32) (v4 : Int32) (v5 : Int32) (v6 : Int32) (s0 : Int32) (d7 : Option Value) (M : am_M) (hk23 : ∀ (v6 : Int32) (d7 : Option Value) (M : am_M), k23 v6 M = some (r, M') → mR z me_X10_feed (23, [some (.ref 0), some (.int v1), some (.int v2), some (.int v3), some (.int v4), some (.int v5), some (.int v6), d7], [], M) r M') (h : f_X10_feed_76 N k23 v1 v2 v3 v4 v5 v6 s0 M = some (r, M')) : mR z me_X10_feed (76, [some (.ref 0), some (.int v1), some (.int v2), some (.int v3), some (.int v4), some (.int v5), some (.int v6), d7], [.int s0], M) r M' := by
  unfold f_X10_feed_76 at h
  obtain ⟨hC, h⟩ := am_gd h
  refine am_R.go 25 (q' := (23, [some (.ref 0), some (.int v1), some (.int v2), some (.int v3), some (.int v4), some (.int v5), some (.int (v6 + 1)), some (.int s0)], [], am_up (am_up M 2 ((M 0 2).toNatClampNeg) ((s0 >>> ((24 - (8 * (v6 - v6 / 4 * 4))) &&& 31)) &&& 255)) 0 2 ((M 0 2) + 1))) rfl ⟨(by decide), hC, trivial⟩ ?_
  exact hk23 (v6 + 1) _ _ h
def f_X10_feed_23B (N : Nat) (v1 : Int32) (v2 : Int32) (v3 : Int32) (v4 : Int32) (v5 : Int32) (k23 : Int32 → am_M → Option (Except Nat (Option Value) × am_M)) (v6 : Int32) (M : am_M) : Option (Except Nat (Option Value) × am_M) :=
  if 20 ≤ v6 then
    some (.ok (some (.int (M 0 2))), M)
  else
    if 4 ≤ v6 then
      if 8 ≤ v6 then
        if 12 ≤ v6 then
          if 16 ≤ v6 then
            f_X10_feed_76 N k23 v1 v2 v3 v4 v5 v6 v5 M
          else
            f_X10_feed_76 N k23 v1 v2 v3 v4 v5 v6 v4 M
        else
          f_X10_feed_76 N k23 v1 v2 v3 v4 v5 v6 v3 M
      else
        f_X10_feed_76 N k23 v1 v2 v3 v4 v5 v6 v2 M
    else
      f_X10_feed_76 N k23 v1 v2 v3 v4 v5 v6 v1 M
def f_X10_feed_23 (N : Nat) (v1 : Int32) (v2 : Int32) (v3 : Int32) (v4 : Int32) (v5 : Int32) : Nat → Int32 → am_M → Option (Except Nat (Option Value) × am_M)
  | 0 => fun _ _ => none
  | n + 1 => f_X10_feed_23B N v1 v2 v3 v4 v5 (f_X10_feed_23 N v1 v2 v3 v4 v5 n)
set_option maxRecDepth 100000 in
theorem t_X10_feed_23B (z : Value) (N : Nat) (v1 : Int32) (v2 : Int32) (v3 : Int32) (v4 : Int32) (v5 : Int32) {r : Except Nat (Option Value)} {M' : am_M} (k23 : Int32 → am_M → Option (Except Nat (Option Value) × am_M)) (hk23 : ∀ (v6 : Int32) (d7 : Option Value) (M : am_M), k23 v6 M = some (r, M') → mR z me_X10_feed (23, [some (.ref 0), some (.int v1), some (.int v2), some (.int v3), some (.int v4), some (.int v5), some (.int v6), d7], [], M) r M') (v6 : Int32) (d7 : Option Value) (M : am_M) (h : f_X10_feed_23B N v1 v2 v3 v4 v5 k23 v6 M = some (r, M')) : mR z me_X10_feed (23, [some (.ref 0), some (.int v1), some (.int v2), some (.int v3), some (.int v4), some (.int v5), some (.int v6), d7], [], M) r M' := by
  unfold f_X10_feed_23B at h
  refine am_R.go 2 (q' := (27, [some (.ref 0), some (.int v1), some (.int v2), some (.int v3), some (.int v4), some (.int v5), some (.int v6), d7], [.int 20, .int v6], M)) rfl trivial ?_
  rcases am_it h with ⟨hc, h⟩ | ⟨hc, h⟩
  · refine am_R.bt rfl rfl hc ?_
    refine am_R.go 2 (q' := (124, [some (.ref 0), some (.int v1), some (.int v2), some (.int v3), some (.int v4), some (.int v5), some (.int v6), d7], [.int (M 0 2)], M)) rfl trivial ?_
    cases h
    exact am_R.ret rfl rfl trivial
  · refine am_R.bn rfl rfl hc ?_
    refine am_R.go 2 (q' := (33, [some (.ref 0), some (.int v1), some (.int v2), some (.int v3), some (.int v4), some (.int v5), some (.int v6), d7], [.int 4, .int v6], M)) rfl trivial ?_
    rcases am_it h with ⟨hc, h⟩ | ⟨hc, h⟩
    · refine am_R.bt rfl rfl hc ?_
      refine am_R.go 2 (q' := (44, [some (.ref 0), some (.int v1), some (.int v2), some (.int v3), some (.int v4), some (.int v5), some (.int v6), d7], [.int 8, .int v6], M)) rfl trivial ?_
      rcases am_it h with ⟨hc, h⟩ | ⟨hc, h⟩
      · refine am_R.bt rfl rfl hc ?_
        refine am_R.go 2 (q' := (55, [some (.ref 0), some (.int v1), some (.int v2), some (.int v3), some (.int v4), some (.int v5), some (.int v6), d7], [.int 12, .int v6], M)) rfl trivial ?_
        rcases am_it h with ⟨hc, h⟩ | ⟨hc, h⟩
        · refine am_R.bt rfl rfl hc ?_
          refine am_R.go 2 (q' := (66, [some (.ref 0), some (.int v1), some (.int v2), some (.int v3), some (.int v4), some (.int v5), some (.int v6), d7], [.int 16, .int v6], M)) rfl trivial ?_
          rcases am_it h with ⟨hc, h⟩ | ⟨hc, h⟩
          · refine am_R.bt rfl rfl hc ?_
            refine am_R.go 1 (q' := (76, [some (.ref 0), some (.int v1), some (.int v2), some (.int v3), some (.int v4), some (.int v5), some (.int v6), d7], [.int v5], M)) rfl trivial ?_
            exact t_X10_feed_76 z N k23 v1 v2 v3 v4 v5 v6 v5 _ _ hk23 h
          · refine am_R.bn rfl rfl hc ?_
            refine am_R.go 2 (q' := (76, [some (.ref 0), some (.int v1), some (.int v2), some (.int v3), some (.int v4), some (.int v5), some (.int v6), d7], [.int v4], M)) rfl trivial ?_
            exact t_X10_feed_76 z N k23 v1 v2 v3 v4 v5 v6 v4 _ _ hk23 h
        · refine am_R.bn rfl rfl hc ?_
          refine am_R.go 2 (q' := (76, [some (.ref 0), some (.int v1), some (.int v2), some (.int v3), some (.int v4), some (.int v5), some (.int v6), d7], [.int v3], M)) rfl trivial ?_
          exact t_X10_feed_76 z N k23 v1 v2 v3 v4 v5 v6 v3 _ _ hk23 h
      · refine am_R.bn rfl rfl hc ?_
        refine am_R.go 2 (q' := (76, [some (.ref 0), some (.int v1), some (.int v2), some (.int v3), some (.int v4), some (.int v5), some (.int v6), d7], [.int v2], M)) rfl trivial ?_
        exact t_X10_feed_76 z N k23 v1 v2 v3 v4 v5 v6 v2 _ _ hk23 h
    · refine am_R.bn rfl rfl hc ?_
      refine am_R.go 2 (q' := (76, [some (.ref 0), some (.int v1), some (.int v2), some (.int v3), some (.int v4), some (.int v5), some (.int v6), d7], [.int v1], M)) rfl trivial ?_
      exact t_X10_feed_76 z N k23 v1 v2 v3 v4 v5 v6 v1 _ _ hk23 h
set_option maxRecDepth 100000 in
theorem t_X10_feed_23 (z : Value) (N : Nat) (v1 : Int32) (v2 : Int32) (v3 : Int32) (v4 : Int32) (v5 : Int32) {r : Except Nat (Option Value)} {M' : am_M} : ∀ (n : Nat) (v6 : Int32) (d7 : Option Value) (M : am_M), f_X10_feed_23 N v1 v2 v3 v4 v5 n v6 M = some (r, M') → mR z me_X10_feed (23, [some (.ref 0), some (.int v1), some (.int v2), some (.int v3), some (.int v4), some (.int v5), some (.int v6), d7], [], M) r M' := by
  intro n
  induction n with
  | zero => intro v6 d7 M h; cases h
  | succ n ih => intro v6 d7 M h; exact t_X10_feed_23B z N v1 v2 v3 v4 v5 _ ih v6 d7 M h
def f_X10_feed (N : Nat) (p1 : Int32) (p2 : Int32) (p3 : Int32) (p4 : Int32) (p5 : Int32) (M : am_M) : Option (Except Nat (Option Value) × am_M) :=
  if ((M 0 2) + 20) ≤ 600 then
    f_X10_feed_23 N p1 p2 p3 p4 p5 N 0 (am_up M 0 0 0)
  else
    some (.ok (some (.int (-1))), am_up M 0 0 0)
set_option maxRecDepth 100000 in
theorem t_X10_feed (z : Value) (N : Nat) (p1 : Int32) (p2 : Int32) (p3 : Int32) (p4 : Int32) (p5 : Int32) (M : am_M) {r : Except Nat (Option Value)} {M' : am_M} (h : f_X10_feed N p1 p2 p3 p4 p5 M = some (r, M')) : mR z me_X10_feed (0, [some (.ref 0), some (.int p1), some (.int p2), some (.int p3), some (.int p4), some (.int p5), none, none], [], M) r M' := by
  unfold f_X10_feed at h
  refine am_R.go 8 (q' := (15, [some (.ref 0), some (.int p1), some (.int p2), some (.int p3), some (.int p4), some (.int p5), none, none], [.int 600, .int ((M 0 2) + 20)], am_up M 0 0 0)) rfl trivial ?_
  rcases am_it h with ⟨hc, h⟩ | ⟨hc, h⟩
  · refine am_R.bt rfl rfl hc ?_
    refine am_R.go 2 (q' := (23, [some (.ref 0), some (.int p1), some (.int p2), some (.int p3), some (.int p4), some (.int p5), some (.int 0), none], [], am_up M 0 0 0)) rfl trivial ?_
    exact t_X10_feed_23 z N p1 p2 p3 p4 p5 N 0 _ _ h
  · refine am_R.bn rfl rfl hc ?_
    refine am_R.go 1 (q' := (19, [some (.ref 0), some (.int p1), some (.int p2), some (.int p3), some (.int p4), some (.int p5), none, none], [.int (-1)], am_up M 0 0 0)) rfl trivial ?_
    cases h
    exact am_R.ret rfl rfl trivial
def f_X10_may_26 (N : Nat) (M : am_M) : Option (Except Nat (Option Value) × am_M) :=
  if (M 0 0) = 0 then
    some (.ok (some (.int 1)), M)
  else
    some (.ok (some (.int 0)), M)
set_option maxRecDepth 100000 in
theorem t_X10_may_26 (z : Value) (N : Nat) {r : Except Nat (Option Value)} {M' : am_M} (d1 : Option Value) (d2 : Option Value) (d3 : Option Value) (M : am_M) (h : f_X10_may_26 N M = some (r, M')) : mR z me_X10_may (26, [some (.ref 0), d1, d2, d3], [], M) r M' := by
  unfold f_X10_may_26 at h
  refine am_R.go 2 (q' := (30, [some (.ref 0), d1, d2, d3], [.int (M 0 0)], M)) rfl trivial ?_
  rcases am_it h with ⟨hc, h⟩ | ⟨hc, h⟩
  · refine am_R.cn rfl rfl (fun q => q hc) ?_
    refine am_R.go 2 (q' := (38, [some (.ref 0), d1, d2, d3], [.int 1], M)) rfl trivial ?_
    cases h
    exact am_R.ret rfl rfl (Or.inr rfl)
  · refine am_R.ct rfl rfl hc ?_
    refine am_R.go 1 (q' := (38, [some (.ref 0), d1, d2, d3], [.int 0], M)) rfl trivial ?_
    cases h
    exact am_R.ret rfl rfl (Or.inl rfl)
def f_X10_may (N : Nat) (p1 : Int32) (p2 : Int32) (p3 : Int32) (M : am_M) : Option (Except Nat (Option Value) × am_M) :=
  if p1 = 0 then
    if (M 0 0) = 0 then
      if am_in p3 3 then
        f_X10_may_26 N (am_up (am_up M 0 0 p2) 1 (p3.toNatClampNeg) ((M 1 (p3.toNatClampNeg)) + 1))
      else none
    else
      f_X10_may_26 N M
  else
    f_X10_may_26 N M
set_option maxRecDepth 100000 in
theorem t_X10_may (z : Value) (N : Nat) (p1 : Int32) (p2 : Int32) (p3 : Int32) (M : am_M) {r : Except Nat (Option Value)} {M' : am_M} (h : f_X10_may N p1 p2 p3 M = some (r, M')) : mR z me_X10_may (0, [some (.ref 0), some (.int p1), some (.int p2), some (.int p3)], [], M) r M' := by
  unfold f_X10_may at h
  refine am_R.go 1 (q' := (1, [some (.ref 0), some (.int p1), some (.int p2), some (.int p3)], [.int p1], M)) rfl trivial ?_
  rcases am_it h with ⟨hc, h⟩ | ⟨hc, h⟩
  · refine am_R.cn rfl rfl (fun q => q hc) ?_
    refine am_R.go 2 (q' := (8, [some (.ref 0), some (.int p1), some (.int p2), some (.int p3)], [.int (M 0 0)], M)) rfl trivial ?_
    rcases am_it h with ⟨hc, h⟩ | ⟨hc, h⟩
    · refine am_R.cn rfl rfl (fun q => q hc) ?_
      obtain ⟨hC, h⟩ := am_gd h
      refine am_R.go 11 (q' := (26, [some (.ref 0), some (.int p1), some (.int p2), some (.int p3)], [], am_up (am_up M 0 0 p2) 1 (p3.toNatClampNeg) ((M 1 (p3.toNatClampNeg)) + 1))) rfl ⟨hC, hC, trivial⟩ ?_
      exact t_X10_may_26 z N _ _ _ _ h
    · refine am_R.ct rfl rfl hc ?_
      exact t_X10_may_26 z N _ _ _ _ h
  · refine am_R.ct rfl rfl hc ?_
    exact t_X10_may_26 z N _ _ _ _ h
def f_X10_begins (N : Nat) (p1 : Int32) (M : am_M) : Option (Except Nat (Option Value) × am_M) :=
  some (.ok none, am_up (am_up (am_up (am_up (am_up (am_up M 0 2 0) 0 8 (-1)) 0 3 p1) 0 4 0) 0 5 (-1)) 0 7 0)
set_option maxRecDepth 100000 in
theorem t_X10_begins (z : Value) (N : Nat) (p1 : Int32) (M : am_M) {r : Except Nat (Option Value)} {M' : am_M} (h : f_X10_begins N p1 M = some (r, M')) : mR z me_X10_begins (0, [some (.ref 0), some (.int p1)], [], M) r M' := by
  unfold f_X10_begins at h
  refine am_R.go 18 (q' := (30, [some (.ref 0), some (.int p1)], [], am_up (am_up (am_up (am_up (am_up (am_up M 0 2 0) 0 8 (-1)) 0 3 p1) 0 4 0) 0 5 (-1)) 0 7 0)) rfl trivial ?_
  cases h
  exact am_R.ret rfl rfl trivial
def f_X10_fine (N : Nat) (M : am_M) : Option (Except Nat (Option Value) × am_M) :=
  if (M 0 5) = (-1) then
    some (.ok (some (.int 1)), M)
  else
    some (.ok (some (.int 0)), M)
set_option maxRecDepth 100000 in
theorem t_X10_fine (z : Value) (N : Nat) (M : am_M) {r : Except Nat (Option Value)} {M' : am_M} (h : f_X10_fine N M = some (r, M')) : mR z me_X10_fine (0, [some (.ref 0)], [], M) r M' := by
  unfold f_X10_fine at h
  refine am_R.go 3 (q' := (5, [some (.ref 0)], [.int (-1), .int (M 0 5)], M)) rfl trivial ?_
  rcases am_it h with ⟨hc, h⟩ | ⟨hc, h⟩
  · refine am_R.bn rfl rfl (fun q => q hc) ?_
    refine am_R.go 2 (q' := (13, [some (.ref 0)], [.int 1], M)) rfl trivial ?_
    cases h
    exact am_R.ret rfl rfl (Or.inr rfl)
  · refine am_R.bt rfl rfl hc ?_
    refine am_R.go 1 (q' := (13, [some (.ref 0)], [.int 0], M)) rfl trivial ?_
    cases h
    exact am_R.ret rfl rfl (Or.inl rfl)
def f_X10_result (N : Nat) (p1 : Int32) (M : am_M) : Option (Except Nat (Option Value) × am_M) :=
  am_bi (f_X10_fine N (am_up M 0 8 (M 0 5))) fun r9 M9 =>
    if r9 = 0 then
      some (.ok (some (.int ((M9 0 6) - 10))), M9)
    else
      some (.ok (some (.int p1)), M9)
set_option maxRecDepth 100000 in
theorem t_X10_result (z : Value) (N : Nat) (p1 : Int32) (M : am_M) {r : Except Nat (Option Value)} {M' : am_M} (h : f_X10_result N p1 M = some (r, M')) : mR z me_X10_result (0, [some (.ref 0), some (.int p1)], [], M) r M' := by
  unfold f_X10_result at h
  refine am_R.go 5 (q' := (9, [some (.ref 0), some (.int p1)], [.ref 0], am_up M 0 8 (M 0 5))) rfl trivial ?_
  obtain ⟨r9, M9, hz, h⟩ := am_bi_s h
  refine am_R.call (e' := me_X10_fine) (as := [.ref 0]) (rest := []) rfl rfl (Nat.le_of_ble_eq_true rfl) (t_X10_fine z N _ hz) ?_
  rcases am_it h with ⟨hc, h⟩ | ⟨hc, h⟩
  · refine am_R.ct rfl rfl hc ?_
    refine am_R.go 4 (q' := (26, [some (.ref 0), some (.int p1)], [.int ((M9 0 6) - 10)], M9)) rfl trivial ?_
    cases h
    exact am_R.ret rfl rfl trivial
  · refine am_R.cn rfl rfl hc ?_
    refine am_R.go 2 (q' := (26, [some (.ref 0), some (.int p1)], [.int p1], M9)) rfl trivial ?_
    cases h
    exact am_R.ret rfl rfl trivial
def f_X10_here_38 (N : Nat) (M : am_M) : Option (Except Nat (Option Value) × am_M) :=
  if (M 0 3) ≤ (M 0 4) then
    some (.ok (some (.int 0)), M)
  else
    if am_in (M 0 4) 600 then
      some (.ok (some (.int (M 2 ((M 0 4).toNatClampNeg)))), M)
    else none
set_option maxRecDepth 100000 in
theorem t_X10_here_38 (z : Value) (N : Nat) {r : Except Nat (Option Value)} {M' : am_M} (M : am_M) (h : f_X10_here_38 N M = some (r, M')) : mR z me_X10_here (38, [some (.ref 0)], [], M) r M' := by
  unfold f_X10_here_38 at h
  refine am_R.go 4 (q' := (46, [some (.ref 0)], [.int (M 0 3), .int (M 0 4)], M)) rfl trivial ?_
  rcases am_it h with ⟨hc, h⟩ | ⟨hc, h⟩
  · refine am_R.bt rfl rfl hc ?_
    refine am_R.go 1 (q' := (62, [some (.ref 0)], [.int 0], M)) rfl trivial ?_
    cases h
    exact am_R.ret rfl rfl trivial
  · refine am_R.bn rfl rfl hc ?_
    obtain ⟨hC, h⟩ := am_gd h
    refine am_R.go 6 (q' := (62, [some (.ref 0)], [.int (M 2 ((M 0 4).toNatClampNeg))], M)) rfl ⟨hC, trivial⟩ ?_
    cases h
    exact am_R.ret rfl rfl trivial
def f_X10_here_0B (N : Nat) (k0 : am_M → Option (Except Nat (Option Value) × am_M)) (M : am_M) : Option (Except Nat (Option Value) × am_M) :=
  if (M 0 3) ≤ (M 0 4) then
    f_X10_here_38 N M
  else
    if am_in (M 0 4) 600 then
      if (M 2 ((M 0 4).toNatClampNeg)) = 32 then
        k0 (am_up M 0 4 ((M 0 4) + 1))
      else
        f_X10_here_38 N M
    else none
def f_X10_here_0 (N : Nat) : Nat → am_M → Option (Except Nat (Option Value) × am_M)
  | 0 => fun _ => none
  | n + 1 => f_X10_here_0B N (f_X10_here_0 N n)
set_option maxRecDepth 100000 in
theorem t_X10_here_0B (z : Value) (N : Nat) {r : Except Nat (Option Value)} {M' : am_M} (k0 : am_M → Option (Except Nat (Option Value) × am_M)) (hk0 : ∀ (M : am_M), k0 M = some (r, M') → mR z me_X10_here (0, [some (.ref 0)], [], M) r M') (M : am_M) (h : f_X10_here_0B N k0 M = some (r, M')) : mR z me_X10_here (0, [some (.ref 0)], [], M) r M' := by
  unfold f_X10_here_0B at h
  refine am_R.go 4 (q' := (8, [some (.ref 0)], [.int (M 0 3), .int (M 0 4)], M)) rfl trivial ?_
  rcases am_it h with ⟨hc, h⟩ | ⟨hc, h⟩
  · refine am_R.bt rfl rfl hc ?_
    exact t_X10_here_38 z N  _ h
  · refine am_R.bn rfl rfl hc ?_
    obtain ⟨hC, h⟩ := am_gd h
    refine am_R.go 6 (q' := (22, [some (.ref 0)], [.int 32, .int (M 2 ((M 0 4).toNatClampNeg))], M)) rfl ⟨hC, trivial⟩ ?_
    rcases am_it h with ⟨hc, h⟩ | ⟨hc, h⟩
    · refine am_R.bn rfl rfl (fun q => q hc) ?_
      refine am_R.go 7 (q' := (0, [some (.ref 0)], [], am_up M 0 4 ((M 0 4) + 1))) rfl trivial ?_
      exact hk0  _ h
    · refine am_R.bt rfl rfl hc ?_
      exact t_X10_here_38 z N  _ h
set_option maxRecDepth 100000 in
theorem t_X10_here_0 (z : Value) (N : Nat) {r : Except Nat (Option Value)} {M' : am_M} : ∀ (n : Nat) (M : am_M), f_X10_here_0 N n M = some (r, M') → mR z me_X10_here (0, [some (.ref 0)], [], M) r M' := by
  intro n
  induction n with
  | zero => intro M h; cases h
  | succ n ih => intro M h; exact t_X10_here_0B z N _ ih M h
def f_X10_here (N : Nat) (M : am_M) : Option (Except Nat (Option Value) × am_M) :=
  f_X10_here_0 N N M
set_option maxRecDepth 100000 in
theorem t_X10_here (z : Value) (N : Nat) (M : am_M) {r : Except Nat (Option Value)} {M' : am_M} (h : f_X10_here N M = some (r, M')) : mR z me_X10_here (0, [some (.ref 0)], [], M) r M' := by
  unfold f_X10_here at h
  exact t_X10_here_0 z N N  _ h
def f_X10_isMore (N : Nat) (M : am_M) : Option (Except Nat (Option Value) × am_M) :=
  am_bi (f_X10_here N M) fun r1 M1 =>
    if (M1 0 3) ≤ (M1 0 4) then
      some (.ok (some (.int 0)), M1)
    else
      some (.ok (some (.int 1)), M1)
set_option maxRecDepth 100000 in
theorem t_X10_isMore (z : Value) (N : Nat) (M : am_M) {r : Except Nat (Option Value)} {M' : am_M} (h : f_X10_isMore N M = some (r, M')) : mR z me_X10_isMore (0, [some (.ref 0)], [], M) r M' := by
  unfold f_X10_isMore at h
  refine am_R.go 1 (q' := (1, [some (.ref 0)], [.ref 0], M)) rfl trivial ?_
  obtain ⟨r1, M1, hz, h⟩ := am_bi_s h
  refine am_R.call (e' := me_X10_here) (as := [.ref 0]) (rest := []) rfl rfl (Nat.le_of_ble_eq_true rfl) (t_X10_here z N _ hz) ?_
  refine am_R.go 5 (q' := (13, [some (.ref 0)], [.int (M1 0 3), .int (M1 0 4)], M1)) rfl trivial ?_
  rcases am_it h with ⟨hc, h⟩ | ⟨hc, h⟩
  · refine am_R.bt rfl rfl hc ?_
    refine am_R.go 1 (q' := (21, [some (.ref 0)], [.int 0], M1)) rfl trivial ?_
    cases h
    exact am_R.ret rfl rfl (Or.inl rfl)
  · refine am_R.bn rfl rfl hc ?_
    refine am_R.go 2 (q' := (21, [some (.ref 0)], [.int 1], M1)) rfl trivial ?_
    cases h
    exact am_R.ret rfl rfl (Or.inr rfl)
def f_X10_isSmall (N : Nat) (p0 : Int32) (M : am_M) : Option (Except Nat (Option Value) × am_M) :=
  if p0 < 97 then
    some (.ok (some (.int 0)), M)
  else
    if 122 < p0 then
      some (.ok (some (.int 0)), M)
    else
      some (.ok (some (.int 1)), M)
set_option maxRecDepth 100000 in
theorem t_X10_isSmall (z : Value) (N : Nat) (p0 : Int32) (M : am_M) {r : Except Nat (Option Value)} {M' : am_M} (h : f_X10_isSmall N p0 M = some (r, M')) : mR z me_X10_isSmall (0, [some (.int p0)], [], M) r M' := by
  unfold f_X10_isSmall at h
  refine am_R.go 2 (q' := (3, [some (.int p0)], [.int 97, .int p0], M)) rfl trivial ?_
  rcases am_it h with ⟨hc, h⟩ | ⟨hc, h⟩
  · refine am_R.bt rfl rfl hc ?_
    refine am_R.go 1 (q' := (17, [some (.int p0)], [.int 0], M)) rfl trivial ?_
    cases h
    exact am_R.ret rfl rfl (Or.inl rfl)
  · refine am_R.bn rfl rfl hc ?_
    refine am_R.go 2 (q' := (9, [some (.int p0)], [.int 122, .int p0], M)) rfl trivial ?_
    rcases am_it h with ⟨hc, h⟩ | ⟨hc, h⟩
    · refine am_R.bt rfl rfl hc ?_
      refine am_R.go 1 (q' := (17, [some (.int p0)], [.int 0], M)) rfl trivial ?_
      cases h
      exact am_R.ret rfl rfl (Or.inl rfl)
    · refine am_R.bn rfl rfl hc ?_
      refine am_R.go 2 (q' := (17, [some (.int p0)], [.int 1], M)) rfl trivial ?_
      cases h
      exact am_R.ret rfl rfl (Or.inr rfl)
def f_X10_word_67 (N : Nat) (v1 : Int32) (v2 : Int32) (M : am_M) : Option (Except Nat (Option Value) × am_M) :=
  if v2 ≤ 6 then
    some (.ok (some (.int v1)), M)
  else
    some (.ok (some (.int 0)), M)
set_option maxRecDepth 100000 in
theorem t_X10_word_67 (z : Value) (N : Nat) {r : Except Nat (Option Value)} {M' : am_M} (v1 : Int32) (v2 : Int32) (d0 : Option Value) (d3 : Option Value) (M : am_M) (h : f_X10_word_67 N v1 v2 M = some (r, M')) : mR z me_X10_word (67, [d0, some (.int v1), some (.int v2), d3], [], M) r M' := by
  unfold f_X10_word_67 at h
  refine am_R.go 2 (q' := (70, [d0, some (.int v1), some (.int v2), d3], [.int 6, .int v2], M)) rfl trivial ?_
  rcases am_it h with ⟨hc, h⟩ | ⟨hc, h⟩
  · refine am_R.bt rfl rfl hc ?_
    refine am_R.go 1 (q' := (78, [d0, some (.int v1), some (.int v2), d3], [.int v1], M)) rfl trivial ?_
    cases h
    exact am_R.ret rfl rfl trivial
  · refine am_R.bn rfl rfl hc ?_
    refine am_R.go 2 (q' := (78, [d0, some (.int v1), some (.int v2), d3], [.int 0], M)) rfl trivial ?_
    cases h
    exact am_R.ret rfl rfl trivial
def f_X10_word_14B (N : Nat) (k14 : Int32 → Int32 → Int32 → am_M → Option (Except Nat (Option Value) × am_M)) (v1 : Int32) (v2 : Int32) (v3 : Int32) (M : am_M) : Option (Except Nat (Option Value) × am_M) :=
  if (M 0 3) ≤ v3 then
    f_X10_word_67 N v1 v2 M
  else
    if am_in v3 600 then
      am_bi (f_X10_isSmall N (M 2 (v3.toNatClampNeg)) M) fun r28 M28 =>
        if r28 = 0 then
          f_X10_word_67 N v1 v2 M28
        else
          if 6 ≤ v2 then
            k14 0 (v2 + 1) (v3 + 1) M28
          else
            if am_in v3 600 then
              k14 ((v1 <<< (5 &&& 31)) ||| ((M28 2 (v3.toNatClampNeg)) - 96)) (v2 + 1) (v3 + 1) M28
            else none
    else none
def f_X10_word_14 (N : Nat) : Nat → Int32 → Int32 → Int32 → am_M → Option (Except Nat (Option Value) × am_M)
  | 0 => fun _ _ _ _ => none
  | n + 1 => f_X10_word_14B N (f_X10_word_14 N n)
set_option maxRecDepth 100000 in
theorem t_X10_word_14B (z : Value) (N : Nat) {r : Except Nat (Option Value)} {M' : am_M} (k14 : Int32 → Int32 → Int32 → am_M → Option (Except Nat (Option Value) × am_M)) (hk14 : ∀ (v1 : Int32) (v2 : Int32) (v3 : Int32) (M : am_M), k14 v1 v2 v3 M = some (r, M') → mR z me_X10_word (14, [some (.ref 0), some (.int v1), some (.int v2), some (.int v3)], [], M) r M') (v1 : Int32) (v2 : Int32) (v3 : Int32) (M : am_M) (h : f_X10_word_14B N k14 v1 v2 v3 M = some (r, M')) : mR z me_X10_word (14, [some (.ref 0), some (.int v1), some (.int v2), some (.int v3)], [], M) r M' := by
  unfold f_X10_word_14B at h
  refine am_R.go 3 (q' := (19, [some (.ref 0), some (.int v1), some (.int v2), some (.int v3)], [.int (M 0 3), .int v3], M)) rfl trivial ?_
  rcases am_it h with ⟨hc, h⟩ | ⟨hc, h⟩
  · refine am_R.bt rfl rfl hc ?_
    exact t_X10_word_67 z N v1 v2 _ _ _ h
  · refine am_R.bn rfl rfl hc ?_
    obtain ⟨hC, h⟩ := am_gd h
    refine am_R.go 4 (q' := (28, [some (.ref 0), some (.int v1), some (.int v2), some (.int v3)], [.int (M 2 (v3.toNatClampNeg))], M)) rfl ⟨hC, trivial⟩ ?_
    obtain ⟨r28, M28, hz, h⟩ := am_bi_s h
    refine am_R.call (e' := me_X10_isSmall) (as := [.int (M 2 (v3.toNatClampNeg))]) (rest := []) rfl rfl (Nat.le_of_ble_eq_true rfl) (t_X10_isSmall z N (M 2 (v3.toNatClampNeg)) _ hz) ?_
    rcases am_it h with ⟨hc, h⟩ | ⟨hc, h⟩
    · refine am_R.ct rfl rfl hc ?_
      exact t_X10_word_67 z N v1 v2 _ _ _ h
    · refine am_R.cn rfl rfl hc ?_
      refine am_R.go 2 (q' := (37, [some (.ref 0), some (.int v1), some (.int v2), some (.int v3)], [.int 6, .int v2], M28)) rfl trivial ?_
      rcases am_it h with ⟨hc, h⟩ | ⟨hc, h⟩
      · refine am_R.bt rfl rfl hc ?_
        refine am_R.go 5 (q' := (14, [some (.ref 0), some (.int 0), some (.int (v2 + 1)), some (.int (v3 + 1))], [], M28)) rfl trivial ?_
        exact hk14 0 (v2 + 1) (v3 + 1) _ h
      · refine am_R.bn rfl rfl hc ?_
        obtain ⟨hC, h⟩ := am_gd h
        refine am_R.go 15 (q' := (14, [some (.ref 0), some (.int ((v1 <<< (5 &&& 31)) ||| ((M28 2 (v3.toNatClampNeg)) - 96))), some (.int (v2 + 1)), some (.int (v3 + 1))], [], M28)) rfl ⟨hC, trivial⟩ ?_
        exact hk14 ((v1 <<< (5 &&& 31)) ||| ((M28 2 (v3.toNatClampNeg)) - 96)) (v2 + 1) (v3 + 1) _ h
set_option maxRecDepth 100000 in
theorem t_X10_word_14 (z : Value) (N : Nat) {r : Except Nat (Option Value)} {M' : am_M} : ∀ (n : Nat) (v1 : Int32) (v2 : Int32) (v3 : Int32) (M : am_M), f_X10_word_14 N n v1 v2 v3 M = some (r, M') → mR z me_X10_word (14, [some (.ref 0), some (.int v1), some (.int v2), some (.int v3)], [], M) r M' := by
  intro n
  induction n with
  | zero => intro v1 v2 v3 M h; cases h
  | succ n ih => intro v1 v2 v3 M h; exact t_X10_word_14B z N _ ih v1 v2 v3 M h
def f_X10_word (N : Nat) (M : am_M) : Option (Except Nat (Option Value) × am_M) :=
  am_bi (f_X10_here N M) fun r1 M1 =>
    f_X10_word_14 N N 0 0 (M1 0 4) M1
set_option maxRecDepth 100000 in
theorem t_X10_word (z : Value) (N : Nat) (M : am_M) {r : Except Nat (Option Value)} {M' : am_M} (h : f_X10_word N M = some (r, M')) : mR z me_X10_word (0, [some (.ref 0), none, none, none], [], M) r M' := by
  unfold f_X10_word at h
  refine am_R.go 1 (q' := (1, [some (.ref 0), none, none, none], [.ref 0], M)) rfl trivial ?_
  obtain ⟨r1, M1, hz, h⟩ := am_bi_s h
  refine am_R.call (e' := me_X10_here) (as := [.ref 0]) (rest := []) rfl rfl (Nat.le_of_ble_eq_true rfl) (t_X10_here z N _ hz) ?_
  refine am_R.go 8 (q' := (14, [some (.ref 0), some (.int 0), some (.int 0), some (.int (M1 0 4))], [], M1)) rfl trivial ?_
  exact t_X10_word_14 z N N 0 0 (M1 0 4) _ h
def f_mJ0_coder_1001 (N : Nat) (M : am_M) : Option (Except Nat (Option Value) × am_M) :=
  if (0 : Int32).toInt8.toInt32 = 0 then some (.ok (some (.int 0)), M) else none
set_option maxRecDepth 100000 in
theorem t_mJ0_coder_1001 (z : Value) (N : Nat) (M : am_M) {r : Except Nat (Option Value)} {M' : am_M} (h : f_mJ0_coder_1001 N M = some (r, M')) : mR z me_J0_coder_7d493 (0, [some (.ref 1001)], [], M) r M' := by
  unfold f_mJ0_coder_1001 at h
  refine am_R.go 1 (q' := (3, [some (.ref 1001)], [.int 1], M)) rfl trivial ?_
  refine am_R.cn rfl rfl (by unfold am_c; decide) ?_
  refine am_R.go 3 (q' := (14, [some (.ref 1001)], [.int 0], M)) rfl ⟨(by decide), trivial⟩ ?_
  obtain ⟨hC, h⟩ := am_gd h
  cases h
  exact am_R.ret rfl rfl hC
def f_mJ0_length_1001 (N : Nat) (M : am_M) : Option (Except Nat (Option Value) × am_M) :=
  am_bi (f_mJ0_coder_1001 N M) fun r6 M6 =>
    some (.ok (some (.int (4 >>> (r6 &&& 31)))), M6)
set_option maxRecDepth 100000 in
theorem t_mJ0_length_1001 (z : Value) (N : Nat) (M : am_M) {r : Except Nat (Option Value)} {M' : am_M} (h : f_mJ0_length_1001 N M = some (r, M')) : mR z me_J0_length_8abf5 (0, [some (.ref 1001)], [], M) r M' := by
  unfold f_mJ0_length_1001 at h
  refine am_R.go 4 (q' := (6, [some (.ref 1001)], [.ref 1001, .int 4], M)) rfl ⟨(by decide), trivial⟩ ?_
  obtain ⟨r6, M6, hz, h⟩ := am_bi_s h
  refine am_R.call (e' := me_J0_coder_7d493) (as := [.ref 1001]) (rest := [.int 4]) rfl rfl (Nat.le_of_ble_eq_true rfl) (t_mJ0_coder_1001 z N _ hz) ?_
  refine am_R.go 1 (q' := (10, [some (.ref 1001)], [.int (4 >>> (r6 &&& 31))], M6)) rfl trivial ?_
  cases h
  exact am_R.ret rfl rfl trivial
def f_mJ0_isLatin1_1001 (N : Nat) (M : am_M) : Option (Except Nat (Option Value) × am_M) :=
  some (.ok (some (.int 1)), M)
set_option maxRecDepth 100000 in
theorem t_mJ0_isLatin1_1001 (z : Value) (N : Nat) (M : am_M) {r : Except Nat (Option Value)} {M' : am_M} (h : f_mJ0_isLatin1_1001 N M = some (r, M')) : mR z me_J0_isLatin1_aae02 (0, [some (.ref 1001)], [], M) r M' := by
  unfold f_mJ0_isLatin1_1001 at h
  refine am_R.go 1 (q' := (3, [some (.ref 1001)], [.int 1], M)) rfl trivial ?_
  refine am_R.cn rfl rfl (by unfold am_c; decide) ?_
  refine am_R.go 2 (q' := (10, [some (.ref 1001)], [.int 0], M)) rfl ⟨(by decide), trivial⟩ ?_
  refine am_R.cn rfl rfl (by unfold am_c; decide) ?_
  refine am_R.go 2 (q' := (18, [some (.ref 1001)], [.int 1], M)) rfl trivial ?_
  cases h
  exact am_R.ret rfl rfl (Or.inr rfl)
def f_mJ3_checkIndex_z_9 (N : Nat) (v0 : Int32) (v1 : Int32) (M : am_M) : Option (Except Nat (Option Value) × am_M) :=
  none
set_option maxRecDepth 100000 in
theorem t_mJ3_checkIndex_z_9 (z : Value) (N : Nat) {r : Except Nat (Option Value)} {M' : am_M} (v0 : Int32) (v1 : Int32) (M : am_M) (h : f_mJ3_checkIndex_z_9 N v0 v1 M = some (r, M')) : mR z me_J3_checkIndex_8e157 (9, [some (.int v0), some (.int v1), some z], [], M) r M' := by
  unfold f_mJ3_checkIndex_z_9 at h
  cases h
def f_mJ3_checkIndex_z (N : Nat) (p0 : Int32) (p1 : Int32) (M : am_M) : Option (Except Nat (Option Value) × am_M) :=
  if p0 < 0 then
    f_mJ3_checkIndex_z_9 N p0 p1 M
  else
    if p0 < p1 then
      some (.ok (some (.int p0)), M)
    else
      f_mJ3_checkIndex_z_9 N p0 p1 M
set_option maxRecDepth 100000 in
theorem t_mJ3_checkIndex_z (z : Value) (N : Nat) (p0 : Int32) (p1 : Int32) (M : am_M) {r : Except Nat (Option Value)} {M' : am_M} (h : f_mJ3_checkIndex_z N p0 p1 M = some (r, M')) : mR z me_J3_checkIndex_8e157 (0, [some (.int p0), some (.int p1), some z], [], M) r M' := by
  unfold f_mJ3_checkIndex_z at h
  refine am_R.go 1 (q' := (1, [some (.int p0), some (.int p1), some z], [.int p0], M)) rfl trivial ?_
  rcases am_it h with ⟨hc, h⟩ | ⟨hc, h⟩
  · refine am_R.ct rfl rfl hc ?_
    exact t_mJ3_checkIndex_z_9 z N p0 p1 _ h
  · refine am_R.cn rfl rfl hc ?_
    refine am_R.go 2 (q' := (6, [some (.int p0), some (.int p1), some z], [.int p1, .int p0], M)) rfl trivial ?_
    rcases am_it h with ⟨hc, h⟩ | ⟨hc, h⟩
    · refine am_R.bt rfl rfl hc ?_
      refine am_R.go 1 (q' := (17, [some (.int p0), some (.int p1), some z], [.int p0], M)) rfl trivial ?_
      cases h
      exact am_R.ret rfl rfl trivial
    · refine am_R.bn rfl rfl hc ?_
      exact t_mJ3_checkIndex_z_9 z N p0 p1 _ h
