/-! THE MACHINE OF CONSTRUCTORS: a world that grows, its cells by their order of birth -/
abbrev km_C : Type := (Nat × Nat) ⊕ ((Nat × List Value) ⊕ List (Option Nat))
/-- a program: place, instruction, its length, a number (a field, a class, a constructor) -/
abbrev km_Pg : Type := List (Nat × Instr × Nat × Nat)
abbrev km_St : Type := Nat × am_Ls × List Value × List km_C
/-- a constructor: name, class's place, code, locals, parameters, frames, locals' words, where it stops, program -/
abbrev km_Me : Type := MethodName × Nat × ByteArray × Nat × Nat × Nat × Nat × Nat × km_Pg
abbrev km_y (e : km_Me) : MethodName := e.1
abbrev km_ci (e : km_Me) : Nat := e.2.1
abbrev km_code (e : km_Me) : ByteArray := e.2.2.1
abbrev km_mL (e : km_Me) : Nat := e.2.2.2.1
abbrev km_np (e : km_Me) : Nat := e.2.2.2.2.1
abbrev km_fr (e : km_Me) : Nat := e.2.2.2.2.2.1
abbrev km_lc (e : km_Me) : Nat := e.2.2.2.2.2.2.1
abbrev km_end (e : km_Me) : Nat := e.2.2.2.2.2.2.2.1
abbrev km_pg (e : km_Me) : km_Pg := e.2.2.2.2.2.2.2.2
def km_at : km_Pg → Nat → Option (Instr × Nat × Nat)
  | [], _ => none
  | e :: t, pc => bif Nat.beq e.1 pc then some e.2 else km_at t pc
def km_ty (ci : Nat) : Nat → FieldType := match ci with
  | 0 => tyX0
  | 1 => tyX1
  | 2 => tyX2
  | 3 => tyX3
  | 4 => tyX4
  | 5 => tyX5
  | 6 => tyX6
  | 7 => tyX7
  | 8 => tyX8
  | 9 => tyX9
  | _ => tyX10
def km_def (ci : Nat) : Option (List Value) := match vwCl[ci]? with
  | some (_, _, N) => some ((List.range N).map (fun j => defaultValue (km_ty ci j)))
  | none => none
def km_sz (c : km_C) : Nat := match c with
  | .inl (_, n) => n
  | .inr (.inl (_, fs)) => fs.length
  | .inr (.inr l) => l.length
def km_sl : List km_C → Nat
  | [] => 0
  | c :: t => km_sz c + km_sl t
def km_fit (ty : FieldType) (v : Value) : Bool := match ty, v with
  | .int, .int _ => true
  | .object _, .ref _ => true
  | .array _, .ref _ => true
  | _, _ => false
def km_pf (w : List km_C) (a ci j : Nat) (v : Value) : Option (List km_C) := match w[a]? with
  | some (.inr (.inl (c, fs))) => bif Nat.beq c ci && (Nat.blt j fs.length && km_fit (km_ty ci j) v) then some (w.set a (.inr (.inl (c, fs.set j v)))) else none
  | _ => none
/-- one instruction, no call and no end -/
def km_s (i : Instr) (len a ci pc : Nat) (L : am_Ls) (st : List Value) (w : List km_C) : Option km_St := match i, len, st with
  | .iconst n, 1, st => some (pc + 1, L, .int (Int32.ofInt n) :: st, w)
  | .bipush n, 2, st => some (pc + 2, L, .int (Int8.ofInt n).toInt32 :: st, w)
  | .sipush n, 3, st => some (pc + 3, L, .int (Int16.ofInt n).toInt32 :: st, w)
  | .aload_n k, 1, st => match L[(k : Nat)]? with
    | some (some (.ref x)) => some (pc + 1, L, .ref x :: st, w)
    | _ => none
  | .iload_n k, 1, st => match L[(k : Nat)]? with
    | some (some (.int x)) => some (pc + 1, L, .int x :: st, w)
    | _ => none
  | .istore_n k, 1, .int x :: st => bif Nat.blt k L.length then some (pc + 1, L.set k (some (.int x)), st, w) else none
  | .new _, 3, st => match km_def a with
    | some fs => some (pc + 3, L, .ref w.length :: st, w ++ [.inr (.inl (a, fs))])
    | none => none
  | .dup, 1, .ref x :: st => some (pc + 1, L, .ref x :: .ref x :: st, w)
  | .invokespecial _, 3, .ref _ :: st => bif Nat.beq a 100 && Nat.ble st.length 8 then some (pc + 3, L, st, w) else none
  | .putfield _, 3, .int v :: .ref r :: st => match km_pf w r ci a (.int v) with
    | some w1 => some (pc + 3, L, st, w1)
    | none => none
  | .putfield _, 3, .ref v :: .ref r :: st => match km_pf w r ci a (.ref v) with
    | some w1 => some (pc + 3, L, st, w1)
    | none => none
  | .getfield _, 3, .ref r :: st => match w[r]? with
    | some (.inr (.inl (c, fs))) => bif Nat.beq c ci then (match fs[a]? with
      | some (.ref x) => some (pc + 3, L, .ref x :: st, w)
      | _ => none) else none
    | _ => none
  | .newarray _, 2, .int n :: st => bif decide (¬ n < 0) && Nat.ble (n.toNatClampNeg * 8) 536870912 then some (pc + 2, L, .ref w.length :: st, w ++ [.inl (a, n.toNatClampNeg)]) else none
  | .anewarray _, 3, .int n :: st => bif decide (¬ n < 0) && Nat.ble (n.toNatClampNeg * 8) 536870912 then some (pc + 3, L, .ref w.length :: st, w ++ [.inr (.inr (List.replicate n.toNatClampNeg none))]) else none
  | .aastore, 1, .ref v :: .int i :: .ref r :: st => match w[r]?, w[v]? with
    | some (.inr (.inr l)), some (.inr (.inl (2, _))) => bif decide (0 ≤ i.toInt) && decide (i.toInt < l.length) then some (pc + 1, L, st, w.set r (.inr (.inr (l.set i.toNatClampNeg (some v))))) else none
    | _, _ => none
  | .imul, 1, .int y :: .int x :: st => some (pc + 1, L, .int (x * y) :: st, w)
  | .if_icmp .ge off, 3, .int y :: .int x :: st => match am_tg pc off with
    | some t => bif decide (y ≤ x) then some (t, L, st, w) else some (pc + 3, L, st, w)
    | none => none
  | .goto off, 3, st => match am_tg pc off with
    | some t => some (t, L, st, w)
    | none => none
  | .iinc k d, 3, st => match L[k]? with
    | some (some (.int x)) => some (pc + 3, L.set k (some (.int (x + Int32.ofInt d))), st, w)
    | _ => none
  | .invokestatic _, 3, .int y :: .int x :: st => bif Nat.ble st.length 8 then some (pc + 3, L, .int (if x < y then y else x) :: st, w) else none
  | _, _, _ => none
def km_l0 (e : km_Me) (as : List Value) : am_Ls := as.map some ++ List.replicate (km_mL e - as.length) none
/-- the stack before a call: arguments, the object, the rest -/
def km_sp (n : Nat) (st : List Value) : Option (Nat × List Value × List Value) := match st.drop n with
  | .ref r :: rest => bif Nat.beq (st.take n).length n && Nat.ble rest.length 8 then some (r, (st.take n).reverse, rest) else none
  | _ => none
def kp_X8_init : km_Pg := [(0, .aload_n 0, 1, 0), (1, .invokespecial 3, 3, 100), (4, .aload_n 0, 1, 0), (5, .iload_n 1, 1, 0), (6, .putfield 9, 3, 2), (9, .aload_n 0, 1, 0), (10, .iload_n 2, 1, 0), (11, .putfield 15, 3, 1), (14, .aload_n 0, 1, 0), (15, .iload_n 1, 1, 0), (16, .iload_n 2, 1, 0), (17, .imul, 1, 0), (18, .newarray .int, 2, 0), (20, .putfield 18, 3, 0), (23, .return_, 1, 0)]
def kh_X8_init : List (List (Nat × Nat)) := [[], [(1, 44), (1, 31), (1, 32)], [], [], [(1, 47)], [], [], [(1, 46)], [], [], [], [], [(1, 66)], [(1, 45)], []]
def ke_X8_init : km_Me := (yX8_init, 8, cX8_init, 3, 2, 1, 24, 23, kp_X8_init)
def kp_X4_init : km_Pg := [(0, .aload_n 0, 1, 0), (1, .invokespecial 3, 3, 100), (4, .aload_n 0, 1, 0), (5, .bipush 20, 2, 0), (7, .putfield 9, 3, 2), (10, .aload_n 0, 1, 0), (11, .new 15, 3, 8), (14, .dup, 1, 0), (15, .iconst 5, 1, 0), (16, .iconst 5, 1, 0), (17, .invokespecial 17, 3, 0), (20, .putfield 20, 3, 4), (23, .aload_n 0, 1, 0), (24, .new 15, 3, 8), (27, .dup, 1, 0), (28, .iconst 4, 1, 0), (29, .iconst 3, 1, 0), (30, .invokespecial 17, 3, 0), (33, .putfield 24, 3, 5), (36, .aload_n 0, 1, 0), (37, .new 15, 3, 8), (40, .dup, 1, 0), (41, .iconst 4, 1, 0), (42, .iconst 2, 1, 0), (43, .invokespecial 17, 3, 0), (46, .putfield 27, 3, 6), (49, .aload_n 0, 1, 0), (50, .new 15, 3, 8), (53, .dup, 1, 0), (54, .bipush 8, 2, 0), (56, .iconst 3, 1, 0), (57, .invokespecial 17, 3, 0), (60, .putfield 30, 3, 7), (63, .aload_n 0, 1, 0), (64, .new 15, 3, 8), (67, .dup, 1, 0), (68, .bipush 8, 2, 0), (70, .iconst 2, 1, 0), (71, .invokespecial 17, 3, 0), (74, .putfield 33, 3, 8), (77, .return_, 1, 0)]
def kh_X4_init : List (List (Nat × Nat)) := [[], [(1, 38), (1, 31), (1, 32)], [], [], [(1, 77)], [], [(1, 39), (1, 40), (1, 3)], [], [], [], [(1, 41), (1, 42), (1, 3)], [(1, 89)], [], [(1, 39), (1, 40), (1, 3)], [], [], [], [(1, 41), (1, 42), (1, 3)], [(1, 94)], [], [(1, 39), (1, 40), (1, 3)], [], [], [], [(1, 41), (1, 42), (1, 3)], [(1, 98)], [], [(1, 39), (1, 40), (1, 3)], [], [], [], [(1, 41), (1, 42), (1, 3)], [(1, 102)], [], [(1, 39), (1, 40), (1, 3)], [], [], [], [(1, 41), (1, 42), (1, 3)], [(1, 106)], []]
def ke_X4_init : km_Me := (yX4_init, 4, cX4_init, 1, 0, 2, 46, 77, kp_X4_init)
def kp_X2_init : km_Pg := [(0, .aload_n 0, 1, 0), (1, .invokespecial 3, 3, 100), (4, .aload_n 0, 1, 0), (5, .bipush 100, 2, 0), (7, .newarray .int, 2, 0), (9, .putfield 9, 3, 0), (12, .aload_n 0, 1, 0), (13, .bipush 100, 2, 0), (15, .newarray .int, 2, 0), (17, .putfield 15, 3, 1), (20, .aload_n 0, 1, 0), (21, .new 18, 3, 8), (24, .dup, 1, 0), (25, .bipush 9, 2, 0), (27, .iconst 4, 1, 0), (28, .invokespecial 20, 3, 0), (31, .putfield 23, 3, 3), (34, .return_, 1, 0)]
def kh_X2_init : List (List (Nat × Nat)) := [[], [(1, 134), (1, 31), (1, 32)], [], [], [(1, 66)], [(1, 137)], [], [], [(1, 66)], [(1, 142)], [], [(1, 135), (1, 40), (1, 3)], [], [], [], [(1, 136), (1, 42), (1, 3)], [(1, 149)], []]
def ke_X2_init : km_Me := (yX2_init, 2, cX2_init, 1, 0, 2, 46, 34, kp_X2_init)
def kp_X5_init : km_Pg := [(0, .aload_n 0, 1, 0), (1, .invokespecial 3, 3, 100), (4, .aload_n 0, 1, 0), (5, .aload_n 1, 1, 0), (6, .putfield 9, 3, 4), (9, .aload_n 0, 1, 0), (10, .new 15, 3, 4), (13, .dup, 1, 0), (14, .invokespecial 17, 3, 1), (17, .putfield 18, 3, 0), (20, .aload_n 0, 1, 0), (21, .new 22, 3, 2), (24, .dup, 1, 0), (25, .invokespecial 24, 3, 2), (28, .putfield 25, 3, 1), (31, .aload_n 0, 1, 0), (32, .iconst (-1), 1, 0), (33, .putfield 29, 3, 3), (36, .return_, 1, 0)]
def kh_X5_init : List (List (Nat × Nat)) := [[], [(1, 166), (1, 31), (1, 32)], [], [], [(1, 179)], [], [(1, 167), (1, 34), (1, 2)], [], [(1, 168), (1, 36), (1, 2)], [(1, 171)], [], [(1, 169), (1, 130), (1, 4)], [], [(1, 170), (1, 132), (1, 4)], [(1, 173)], [], [], [(1, 177)], []]
def ke_X5_init : km_Me := (yX5_init, 5, cX5_init, 2, 1, 3, 66, 36, kp_X5_init)
def kp_X6_init : km_Pg := [(0, .aload_n 0, 1, 0), (1, .invokespecial 3, 3, 100), (4, .aload_n 0, 1, 0), (5, .aload_n 1, 1, 0), (6, .putfield 9, 3, 7), (9, .aload_n 0, 1, 0), (10, .aload_n 2, 1, 0), (11, .putfield 15, 3, 8), (14, .aload_n 0, 1, 0), (15, .bipush 24, 2, 0), (17, .newarray .int, 2, 0), (19, .putfield 19, 3, 1), (22, .aload_n 0, 1, 0), (23, .bipush 24, 2, 0), (25, .newarray .int, 2, 0), (27, .putfield 23, 3, 2), (30, .aload_n 0, 1, 0), (31, .bipush 24, 2, 0), (33, .newarray .int, 2, 0), (35, .putfield 26, 3, 3), (38, .aload_n 0, 1, 0), (39, .bipush 24, 2, 0), (41, .newarray .int, 2, 0), (43, .putfield 29, 3, 4), (46, .aload_n 0, 1, 0), (47, .bipush 100, 2, 0), (49, .newarray .int, 2, 0), (51, .putfield 32, 3, 5), (54, .return_, 1, 0)]
def kh_X6_init : List (List (Nat × Nat)) := [[], [(1, 203), (1, 31), (1, 32)], [], [], [(1, 214)], [], [], [(1, 215)], [], [], [(1, 66)], [(1, 208)], [], [], [(1, 66)], [(1, 209)], [], [], [(1, 66)], [(1, 210)], [], [], [(1, 66)], [(1, 211)], [], [], [(1, 66)], [(1, 212)], []]
def ke_X6_init : km_Me := (yX6_init, 6, cX6_init, 3, 2, 1, 24, 54, kp_X6_init)
def kp_X3_init : km_Pg := [(0, .aload_n 0, 1, 0), (1, .invokespecial 3, 3, 100), (4, .aload_n 0, 1, 0), (5, .aload_n 1, 1, 0), (6, .putfield 9, 3, 10), (9, .aload_n 0, 1, 0), (10, .aload_n 2, 1, 0), (11, .putfield 15, 3, 11), (14, .aload_n 0, 1, 0), (15, .iconst 5, 1, 0), (16, .iconst 4, 1, 0), (17, .invokestatic 19, 3, 0), (20, .newarray .int, 2, 0), (22, .putfield 25, 3, 8), (25, .aload_n 0, 1, 0), (26, .iconst 5, 1, 0), (27, .newarray .int, 2, 0), (29, .putfield 29, 3, 9), (32, .return_, 1, 0)]
def kh_X3_init : List (List (Nat × Nat)) := [[], [(2, 0), (1, 31), (1, 32)], [], [], [(2, 23)], [], [], [(2, 24)], [], [], [], [(2, 1), (2, 2), (1, 8), (2, 3)], [(1, 66)], [(2, 21)], [], [], [(1, 66)], [(2, 22)], []]
def ke_X3_init : km_Me := (yX3_init, 3, cX3_init, 3, 2, 1, 24, 32, kp_X3_init)
def kp_X1_init : km_Pg := [(0, .aload_n 0, 1, 0), (1, .invokespecial 3, 3, 100), (4, .aload_n 0, 1, 0), (5, .aload_n 1, 1, 0), (6, .putfield 9, 3, 7), (9, .aload_n 0, 1, 0), (10, .aload_n 2, 1, 0), (11, .putfield 15, 3, 8), (14, .aload_n 0, 1, 0), (15, .aload_n 3, 1, 0), (16, .putfield 19, 3, 9), (19, .aload_n 0, 1, 0), (20, .bipush 80, 2, 0), (22, .newarray .int, 2, 0), (24, .putfield 23, 3, 4), (27, .aload_n 0, 1, 0), (28, .iconst 5, 1, 0), (29, .newarray .int, 2, 0), (31, .putfield 27, 3, 5), (34, .return_, 1, 0)]
def kh_X1_init : List (List (Nat × Nat)) := [[], [(2, 55), (1, 31), (1, 32)], [], [], [(2, 67)], [], [], [(2, 68)], [], [], [(2, 69)], [], [], [(1, 66)], [(2, 64)], [], [], [(1, 66)], [(2, 65)], []]
def ke_X1_init : km_Me := (yX1_init, 1, cX1_init, 4, 3, 1, 24, 34, kp_X1_init)
def kp_X7_init : km_Pg := [(0, .aload_n 0, 1, 0), (1, .invokespecial 3, 3, 100), (4, .aload_n 0, 1, 0), (5, .aload_n 1, 1, 0), (6, .putfield 9, 3, 4), (9, .aload_n 0, 1, 0), (10, .aload_n 2, 1, 0), (11, .putfield 15, 3, 5), (14, .aload_n 0, 1, 0), (15, .bipush 100, 2, 0), (17, .newarray .int, 2, 0), (19, .putfield 19, 3, 2), (22, .return_, 1, 0)]
def kh_X7_init : List (List (Nat × Nat)) := [[], [(2, 96), (1, 31), (1, 32)], [], [], [(2, 103)], [], [], [(2, 104)], [], [], [(1, 66)], [(2, 101)], []]
def ke_X7_init : km_Me := (yX7_init, 7, cX7_init, 3, 2, 1, 24, 22, kp_X7_init)
def kp_X0_init : km_Pg := [(0, .aload_n 0, 1, 0), (1, .invokespecial 3, 3, 100), (4, .aload_n 0, 1, 0), (5, .aload_n 1, 1, 0), (6, .putfield 9, 3, 10), (9, .aload_n 0, 1, 0), (10, .aload_n 2, 1, 0), (11, .putfield 15, 3, 11), (14, .aload_n 0, 1, 0), (15, .aload_n 3, 1, 0), (16, .putfield 19, 3, 12), (19, .aload_n 0, 1, 0), (20, .sipush 256, 3, 0), (23, .newarray .boolean, 2, 2), (25, .putfield 23, 3, 7), (28, .aload_n 0, 1, 0), (29, .sipush 256, 3, 0), (32, .newarray .int, 2, 0), (34, .putfield 27, 3, 8), (37, .aload_n 0, 1, 0), (38, .bipush 25, 2, 0), (40, .newarray .int, 2, 0), (42, .putfield 31, 3, 9), (45, .return_, 1, 0)]
def kh_X0_init : List (List (Nat × Nat)) := [[], [(2, 123), (1, 31), (1, 32)], [], [], [(2, 141)], [], [], [(2, 142)], [], [], [(2, 143)], [], [], [(2, 171)], [(2, 138)], [], [], [(1, 66)], [(2, 139)], [], [], [(1, 66)], [(2, 140)], []]
def ke_X0_init : km_Me := (yX0_init, 0, cX0_init, 4, 3, 1, 24, 45, kp_X0_init)
def kp_X9_init : km_Pg := [(0, .aload_n 0, 1, 0), (1, .invokespecial 1, 3, 100), (4, .aload_n 0, 1, 0), (5, .sipush 600, 3, 0), (8, .newarray .byte, 2, 1), (10, .putfield 9, 3, 0), (13, .aload_n 0, 1, 0), (14, .iconst (-1), 1, 0), (15, .putfield 13, 3, 2), (18, .aload_n 0, 1, 0), (19, .new 17, 3, 4), (22, .dup, 1, 0), (23, .invokespecial 19, 3, 1), (26, .putfield 20, 3, 6), (29, .aload_n 0, 1, 0), (30, .new 24, 3, 2), (33, .dup, 1, 0), (34, .invokespecial 26, 3, 2), (37, .putfield 27, 3, 7), (40, .aload_n 0, 1, 0), (41, .new 31, 3, 5), (44, .dup, 1, 0), (45, .aload_n 0, 1, 0), (46, .getfield 9, 3, 0), (49, .invokespecial 33, 3, 3), (52, .putfield 36, 3, 8), (55, .aload_n 0, 1, 0), (56, .iconst 3, 1, 0), (57, .anewarray 24, 3, 0), (60, .putfield 40, 3, 9), (63, .iconst 0, 1, 0), (64, .istore_n 1, 1, 0), (65, .iload_n 1, 1, 0), (66, .iconst 3, 1, 0), (67, .if_icmp .ge 22, 3, 0), (70, .aload_n 0, 1, 0), (71, .getfield 40, 3, 9), (74, .iload_n 1, 1, 0), (75, .new 24, 3, 2), (78, .dup, 1, 0), (79, .invokespecial 26, 3, 2), (82, .aastore, 1, 0), (83, .iinc 1 1, 3, 0), (86, .goto (-21), 3, 0), (89, .aload_n 0, 1, 0), (90, .new 44, 3, 6), (93, .dup, 1, 0), (94, .aload_n 0, 1, 0), (95, .getfield 20, 3, 6), (98, .aload_n 0, 1, 0), (99, .getfield 27, 3, 7), (102, .invokespecial 46, 3, 4), (105, .putfield 49, 3, 11), (108, .aload_n 0, 1, 0), (109, .new 53, 3, 3), (112, .dup, 1, 0), (113, .aload_n 0, 1, 0), (114, .getfield 20, 3, 6), (117, .aload_n 0, 1, 0), (118, .getfield 49, 3, 11), (121, .invokespecial 55, 3, 5), (124, .putfield 58, 3, 12), (127, .aload_n 0, 1, 0), (128, .new 62, 3, 1), (131, .dup, 1, 0), (132, .aload_n 0, 1, 0), (133, .getfield 20, 3, 6), (136, .aload_n 0, 1, 0), (137, .getfield 27, 3, 7), (140, .aload_n 0, 1, 0), (141, .getfield 58, 3, 12), (144, .invokespecial 64, 3, 6), (147, .putfield 67, 3, 13), (150, .aload_n 0, 1, 0), (151, .new 71, 3, 7), (154, .dup, 1, 0), (155, .aload_n 0, 1, 0), (156, .getfield 20, 3, 6), (159, .aload_n 0, 1, 0), (160, .getfield 49, 3, 11), (163, .invokespecial 73, 3, 7), (166, .putfield 74, 3, 14), (169, .aload_n 0, 1, 0), (170, .new 78, 3, 0), (173, .dup, 1, 0), (174, .aload_n 0, 1, 0), (175, .getfield 20, 3, 6), (178, .aload_n 0, 1, 0), (179, .getfield 27, 3, 7), (182, .aload_n 0, 1, 0), (183, .getfield 49, 3, 11), (186, .invokespecial 80, 3, 8), (189, .putfield 83, 3, 15), (192, .return_, 1, 0)]
def kh_X9_init : List (List (Nat × Nat)) := [[], [(1, 30), (1, 31), (1, 32)], [], [], [(1, 65)], [(2, 172)], [], [], [(2, 174)], [], [(1, 33), (1, 34), (1, 2)], [], [(1, 35), (1, 36), (1, 2)], [(2, 178)], [], [(1, 129), (1, 130), (1, 4)], [], [(1, 131), (1, 132), (1, 4)], [(2, 179)], [], [(1, 161), (1, 162), (1, 5)], [], [], [(2, 172)], [(1, 163), (1, 164), (1, 5)], [(2, 180)], [], [], [(1, 129)], [(2, 181)], [], [], [], [], [], [], [(2, 181)], [], [(1, 129), (1, 130), (1, 4)], [], [(1, 131), (1, 132), (1, 4)], [], [], [], [], [(1, 198), (1, 199), (1, 6)], [], [], [(2, 178)], [], [(2, 179)], [(1, 200), (1, 201), (1, 6)], [(2, 183)], [], [(1, 235), (1, 236), (1, 7)], [], [], [(2, 178)], [], [(2, 183)], [(1, 237), (1, 238), (1, 7)], [(2, 184)], [], [(2, 50), (2, 51), (1, 9)], [], [], [(2, 178)], [], [(2, 179)], [], [(2, 184)], [(2, 52), (2, 53), (1, 9)], [(2, 185)], [], [(2, 91), (2, 92), (1, 10)], [], [], [(2, 178)], [], [(2, 183)], [(2, 93), (2, 94), (1, 10)], [(2, 186)], [], [(2, 118), (2, 119), (1, 11)], [], [], [(2, 178)], [], [(2, 179)], [], [(2, 183)], [(2, 120), (2, 121), (1, 11)], [(2, 187)], []]
def ke_X9_init : km_Me := (yX9_init, 9, cX9_init, 2, 0, 4, 87, 192, kp_X9_init)
def kp_X10_init : km_Pg := [(0, .aload_n 0, 1, 0), (1, .invokespecial 11, 3, 100), (4, .aload_n 0, 1, 0), (5, .iconst 3, 1, 0), (6, .newarray .int, 2, 0), (8, .putfield 7, 3, 1), (11, .aload_n 0, 1, 0), (12, .iconst (-1), 1, 0), (13, .putfield 17, 3, 8), (16, .aload_n 0, 1, 0), (17, .sipush 600, 3, 0), (20, .newarray .int, 2, 0), (22, .putfield 20, 3, 9), (25, .aload_n 0, 1, 0), (26, .bipush 100, 2, 0), (28, .newarray .int, 2, 0), (30, .putfield 23, 3, 10), (33, .aload_n 0, 1, 0), (34, .bipush 100, 2, 0), (36, .newarray .int, 2, 0), (38, .putfield 26, 3, 11), (41, .aload_n 0, 1, 0), (42, .bipush 16, 2, 0), (44, .newarray .int, 2, 0), (46, .putfield 29, 3, 12), (49, .aload_n 0, 1, 0), (50, .bipush 25, 2, 0), (52, .newarray .int, 2, 0), (54, .putfield 32, 3, 13), (57, .aload_n 0, 1, 0), (58, .bipush 8, 2, 0), (60, .newarray .int, 2, 0), (62, .putfield 35, 3, 14), (65, .aload_n 0, 1, 0), (66, .bipush 8, 2, 0), (68, .newarray .int, 2, 0), (70, .putfield 38, 3, 15), (73, .aload_n 0, 1, 0), (74, .bipush 8, 2, 0), (76, .newarray .int, 2, 0), (78, .putfield 41, 3, 16), (81, .aload_n 0, 1, 0), (82, .bipush 100, 2, 0), (84, .newarray .int, 2, 0), (86, .putfield 44, 3, 17), (89, .aload_n 0, 1, 0), (90, .bipush 100, 2, 0), (92, .newarray .int, 2, 0), (94, .putfield 47, 3, 18), (97, .aload_n 0, 1, 0), (98, .bipush 16, 2, 0), (100, .newarray .int, 2, 0), (102, .putfield 50, 3, 19), (105, .aload_n 0, 1, 0), (106, .bipush 25, 2, 0), (108, .newarray .int, 2, 0), (110, .putfield 53, 3, 20), (113, .aload_n 0, 1, 0), (114, .bipush 8, 2, 0), (116, .newarray .int, 2, 0), (118, .putfield 56, 3, 21), (121, .aload_n 0, 1, 0), (122, .bipush 8, 2, 0), (124, .newarray .int, 2, 0), (126, .putfield 59, 3, 22), (129, .aload_n 0, 1, 0), (130, .bipush 8, 2, 0), (132, .newarray .int, 2, 0), (134, .putfield 62, 3, 23), (137, .aload_n 0, 1, 0), (138, .bipush 24, 2, 0), (140, .newarray .int, 2, 0), (142, .putfield 65, 3, 43), (145, .aload_n 0, 1, 0), (146, .bipush 24, 2, 0), (148, .newarray .int, 2, 0), (150, .putfield 68, 3, 44), (153, .aload_n 0, 1, 0), (154, .bipush 24, 2, 0), (156, .newarray .int, 2, 0), (158, .putfield 71, 3, 45), (161, .aload_n 0, 1, 0), (162, .bipush 24, 2, 0), (164, .newarray .int, 2, 0), (166, .putfield 74, 3, 46), (169, .aload_n 0, 1, 0), (170, .bipush 100, 2, 0), (172, .newarray .int, 2, 0), (174, .putfield 77, 3, 47), (177, .aload_n 0, 1, 0), (178, .bipush 80, 2, 0), (180, .newarray .int, 2, 0), (182, .putfield 80, 3, 54), (185, .aload_n 0, 1, 0), (186, .iconst 5, 1, 0), (187, .newarray .int, 2, 0), (189, .putfield 83, 3, 55), (192, .aload_n 0, 1, 0), (193, .bipush 100, 2, 0), (195, .newarray .int, 2, 0), (197, .putfield 86, 3, 56), (200, .aload_n 0, 1, 0), (201, .bipush 27, 2, 0), (203, .newarray .int, 2, 0), (205, .putfield 89, 3, 59), (208, .aload_n 0, 1, 0), (209, .sipush 256, 3, 0), (212, .newarray .boolean, 2, 2), (214, .putfield 92, 3, 61), (217, .aload_n 0, 1, 0), (218, .bipush 25, 2, 0), (220, .newarray .int, 2, 0), (222, .putfield 96, 3, 63), (225, .aload_n 0, 1, 0), (226, .sipush 687, 3, 0), (229, .newarray .int, 2, 0), (231, .putfield 99, 3, 64)]
def kh_X10_init : List (List (Nat × Nat)) := [[], [(6, 48), (1, 31), (1, 32)], [], [], [(1, 66)], [(6, 61)], [], [], [(6, 68)], [], [], [(1, 66)], [(6, 69)], [], [], [(1, 66)], [(6, 70)], [], [], [(1, 66)], [(6, 71)], [], [], [(1, 66)], [(6, 72)], [], [], [(1, 66)], [(6, 73)], [], [], [(1, 66)], [(6, 74)], [], [], [(1, 66)], [(6, 75)], [], [], [(1, 66)], [(6, 76)], [], [], [(1, 66)], [(6, 77)], [], [], [(1, 66)], [(6, 78)], [], [], [(1, 66)], [(6, 79)], [], [], [(1, 66)], [(6, 80)], [], [], [(1, 66)], [(6, 81)], [], [], [(1, 66)], [(6, 82)], [], [], [(1, 66)], [(6, 83)], [], [], [(1, 66)], [(6, 103)], [], [], [(1, 66)], [(6, 104)], [], [], [(1, 66)], [(6, 105)], [], [], [(1, 66)], [(6, 106)], [], [], [(1, 66)], [(6, 107)], [], [], [(1, 66)], [(6, 114)], [], [], [(1, 66)], [(6, 115)], [], [], [(1, 66)], [(6, 116)], [], [], [(1, 66)], [(6, 119)], [], [], [(2, 171)], [(6, 121)], [], [], [(1, 66)], [(6, 123)], [], [], [(1, 66)], [(6, 124)]]
def ke_X10_init : km_Me := (yX10_init, 10, cX10_init, 1, 0, 1, 24, 234, kp_X10_init)
def km_ms : List km_Me := [ke_X8_init, ke_X4_init, ke_X2_init, ke_X5_init, ke_X6_init, ke_X3_init, ke_X1_init, ke_X7_init, ke_X0_init, ke_X9_init]
def km_mt (n : Nat) : Option km_Me := am_nth km_ms n
/-- a call: the constructor, the object, its arguments, the rest of the stack -/
def km_cl (i : Instr) (len a : Nat) (st : List Value) : Option (km_Me × Nat × List Value × List Value) := match i, len, km_mt a with
  | .invokespecial _, 3, some e' => (match km_sp (km_np e') st with
    | some (r, as, rest) => some (e', r, as, rest)
    | none => none)
  | _, _, _ => none
/-- a constructor's run to where it stops: locals, stack, world -/
def km_run : Nat → km_Me → km_St → Option (am_Ls × List Value × List km_C)
  | 0, _, _ => none
  | n + 1, e, (pc, L, st, w) => bif Nat.beq pc (km_end e) then some (L, st, w) else match km_at (km_pg e) pc with
    | none => none
    | some (i, len, a) => match km_s i len a (km_ci e) pc L st w with
      | some q => bif Nat.ble w.length q.2.2.2.length && Nat.ble (km_sl w) (km_sl q.2.2.2) then km_run n e q else none
      | none => match km_cl i len a st with
        | some (e', r, as, rest) => (match km_run n e' (0, km_l0 e' (.ref r :: as), [], w) with
          | some (_, [], w1) => km_run n e (pc + 3, L, rest, w1)
          | _ => none)
        | none => none
def km_at1 (t : Nat) : FieldType := match t with
  | 0 => .int
  | 1 => .byte
  | _ => .boolean
/-- the words that an instruction needs -/
def km_ws (e : km_Me) (i : Instr) (a : Nat) : List Cond := match i with
  | .new b => (match vwCl[a]? with
    | some (C, _, N) => [.classLink (km_y e).cls b C, .instantiable C N, .initialized C]
    | none => [])
  | .invokespecial b => bif Nat.beq a 100 then [.methodLink (km_y e).cls b objectInit, .instanceMethod objectInit, .code objectInit ⟨#[0xb1]⟩ 1 none] else (match km_mt a with
    | some e' => [.methodLink (km_y e).cls b (km_y e'), .instanceMethod (km_y e'), .initialized (km_y e').cls]
    | none => [])
  | .putfield b | .getfield b => (match vwCl[km_ci e]? with
    | some (_, T, _) => [.fieldLink (km_y e).cls b (T a).1 (T a).2.1 (T a).2.2.1]
    | none => [])
  | .newarray _ => [.arrayClass (km_at1 a)]
  | .anewarray b => [.classLink (km_y e).cls b "SoldEchoes$Land"]
  | .invokestatic b => [.methodLink (km_y e).cls b Lib.Math.max.name, .static Lib.Math.max.name, .initialized "java/lang/Math", .code Lib.Math.max.name Lib.Math.max.code 2 (some .int)]
  | _ => []
/-- what else an instruction needs -/
def km_ob (e : km_Me) (i : Instr) (a : Nat) : Bool := match i with
  | .invokespecial _ => bif Nat.beq a 100 then true else (match km_mt a with
    | some e' => Nat.ble (km_fr e' + 1) (km_fr e) && (Nat.ble (8 + (km_mL e' + 11) + km_lc e') (km_lc e) && Nat.ble (km_np e' + 1) (km_mL e'))
    | none => false)
  | .putfield _ => (match vwCl[km_ci e]? with
    | some (C, T, N) => decide (C = (km_y e).cls) && (decide ((T a).1 = C) && Nat.blt a N)
    | none => false)
  | .getfield _ => (match vwCl[km_ci e]? with
    | some (C, T, N) => decide (C = (km_y e).cls) && (decide ((T a).1 = C) && Nat.blt a N)
    | none => false)
  | .newarray ty => Nat.blt a 3 && decide (newarray.typeOf ty = km_at1 a)
  | _ => true
def km_db (c : ByteArray) (q : Nat × Instr × Nat × Nat) : Bool := match decode c q.1 with
  | .ok (i, len) => Nat.beq len q.2.2.1 && decide (i = q.2.1)
  | .error _ => false
def km_wb (e : km_Me) (q : (Nat × Instr × Nat × Nat) × List (Nat × Nat)) : Bool := km_db (km_code e) q.1 && (km_ob e q.1.2.1 q.1.2.2.2 && (Nat.beq (km_ws e q.1.2.1 q.1.2.2.2).length q.2.length && ((km_ws e q.1.2.1 q.1.2.2.2).zip q.2).all (fun z => am_hb z.1 z.2)))

set_option maxRecDepth 100000 in
theorem kw_X8_init : (kp_X8_init.zip kh_X8_init).all (km_wb ke_X8_init) = true ∧ kp_X8_init.length = kh_X8_init.length := by decide +kernel
theorem kc_X8_init : Cond.code yX8_init cX8_init 3 none ∈ am_gw := am_cw_of (e := (yX8_init, 0, cX8_init, 3, none, false, 0, 0, 0, [])) 1 43 rfl
set_option maxRecDepth 100000 in
theorem kw_X4_init : (kp_X4_init.zip kh_X4_init).all (km_wb ke_X4_init) = true ∧ kp_X4_init.length = kh_X4_init.length := by decide +kernel
theorem kc_X4_init : Cond.code yX4_init cX4_init 1 none ∈ am_gw := am_cw_of (e := (yX4_init, 0, cX4_init, 1, none, false, 0, 0, 0, [])) 1 37 rfl
set_option maxRecDepth 100000 in
theorem kw_X2_init : (kp_X2_init.zip kh_X2_init).all (km_wb ke_X2_init) = true ∧ kp_X2_init.length = kh_X2_init.length := by decide +kernel
theorem kc_X2_init : Cond.code yX2_init cX2_init 1 none ∈ am_gw := am_cw_of (e := (yX2_init, 0, cX2_init, 1, none, false, 0, 0, 0, [])) 1 133 rfl
set_option maxRecDepth 100000 in
theorem kw_X5_init : (kp_X5_init.zip kh_X5_init).all (km_wb ke_X5_init) = true ∧ kp_X5_init.length = kh_X5_init.length := by decide +kernel
theorem kc_X5_init : Cond.code yX5_init cX5_init 2 none ∈ am_gw := am_cw_of (e := (yX5_init, 0, cX5_init, 2, none, false, 0, 0, 0, [])) 1 165 rfl
set_option maxRecDepth 100000 in
theorem kw_X6_init : (kp_X6_init.zip kh_X6_init).all (km_wb ke_X6_init) = true ∧ kp_X6_init.length = kh_X6_init.length := by decide +kernel
theorem kc_X6_init : Cond.code yX6_init cX6_init 3 none ∈ am_gw := am_cw_of (e := (yX6_init, 0, cX6_init, 3, none, false, 0, 0, 0, [])) 1 202 rfl
set_option maxRecDepth 100000 in
theorem kw_X3_init : (kp_X3_init.zip kh_X3_init).all (km_wb ke_X3_init) = true ∧ kp_X3_init.length = kh_X3_init.length := by decide +kernel
theorem kc_X3_init : Cond.code yX3_init cX3_init 3 none ∈ am_gw := am_cw_of (e := (yX3_init, 0, cX3_init, 3, none, false, 0, 0, 0, [])) 1 239 rfl
set_option maxRecDepth 100000 in
theorem kw_X1_init : (kp_X1_init.zip kh_X1_init).all (km_wb ke_X1_init) = true ∧ kp_X1_init.length = kh_X1_init.length := by decide +kernel
theorem kc_X1_init : Cond.code yX1_init cX1_init 4 none ∈ am_gw := am_cw_of (e := (yX1_init, 0, cX1_init, 4, none, false, 0, 0, 0, [])) 2 54 rfl
set_option maxRecDepth 100000 in
theorem kw_X7_init : (kp_X7_init.zip kh_X7_init).all (km_wb ke_X7_init) = true ∧ kp_X7_init.length = kh_X7_init.length := by decide +kernel
theorem kc_X7_init : Cond.code yX7_init cX7_init 3 none ∈ am_gw := am_cw_of (e := (yX7_init, 0, cX7_init, 3, none, false, 0, 0, 0, [])) 2 95 rfl
set_option maxRecDepth 100000 in
theorem kw_X0_init : (kp_X0_init.zip kh_X0_init).all (km_wb ke_X0_init) = true ∧ kp_X0_init.length = kh_X0_init.length := by decide +kernel
theorem kc_X0_init : Cond.code yX0_init cX0_init 4 none ∈ am_gw := am_cw_of (e := (yX0_init, 0, cX0_init, 4, none, false, 0, 0, 0, [])) 2 122 rfl
set_option maxRecDepth 100000 in
theorem kw_X9_init : (kp_X9_init.zip kh_X9_init).all (km_wb ke_X9_init) = true ∧ kp_X9_init.length = kh_X9_init.length := by decide +kernel
theorem kc_X9_init : Cond.code yX9_init cX9_init 2 none ∈ am_gw := am_cw_of (e := (yX9_init, 0, cX9_init, 2, none, false, 0, 0, 0, [])) 1 29 rfl
set_option maxRecDepth 100000 in
theorem kw_X10_init : (kp_X10_init.zip kh_X10_init).all (km_wb ke_X10_init) = true ∧ kp_X10_init.length = kh_X10_init.length := by decide +kernel
theorem kc_X10_init : Cond.code yX10_init cX10_init 1 none ∈ am_gw := am_cw_of (e := (yX10_init, 0, cX10_init, 1, none, false, 0, 0, 0, [])) 6 47 rfl
