/-! THE ABSTRACT MACHINE: a heap of fixed shape (objects and arrays by number, only their ints change), and the steps of a method over it -/
abbrev am_M : Type := Nat → Nat → Int32
/-- a cell of the shape: an array (kind, length), an object (its place among the classes' tables, its fields: a cell's number, or an int), an array of references -/
abbrev am_Sc : Type := (Nat × Nat) ⊕ ((Nat × List (Option Nat)) ⊕ List Nat)
abbrev am_Op : Type := Instr ⊕ Int32
abbrev am_Pg : Type := List (Nat × am_Op × Nat)
abbrev am_Cp : Type := Nat × Nat × Nat
abbrev am_Ls : Type := List (Option Value)
abbrev am_St : Type := Nat × am_Ls × List Value × am_M
/-- a method: name, number of its pool, code, locals, returned type, static, parameters, frames and locals' words of room, program -/
abbrev am_Me : Type := MethodName × Nat × ByteArray × Nat × Option FieldType × Bool × Nat × Nat × Nat × am_Pg
abbrev am_y (e : am_Me) : MethodName := e.1
abbrev am_cn (e : am_Me) : Nat := e.2.1
abbrev am_code (e : am_Me) : ByteArray := e.2.2.1
abbrev am_mL (e : am_Me) : Nat := e.2.2.2.1
abbrev am_rt (e : am_Me) : Option FieldType := e.2.2.2.2.1
abbrev am_stc (e : am_Me) : Bool := e.2.2.2.2.2.1
abbrev am_np (e : am_Me) : Nat := e.2.2.2.2.2.2.1
abbrev am_fr (e : am_Me) : Nat := e.2.2.2.2.2.2.2.1
abbrev am_lc (e : am_Me) : Nat := e.2.2.2.2.2.2.2.2.1
abbrev am_pg (e : am_Me) : am_Pg := e.2.2.2.2.2.2.2.2.2
def am_at : am_Pg → Nat → Option (am_Op × Nat)
  | [], _ => none
  | e :: t, pc => bif Nat.beq e.1 pc then some e.2 else am_at t pc
def am_up (M : am_M) (k j : Nat) (v : Int32) : am_M := fun a b => if a = k ∧ b = j then v else M a b
def am_upA (M : am_M) (k : Nat) (f : Nat → Int32) : am_M := fun a => if a = k then f else M a
abbrev am_in (i : Int32) (n : Nat) : Prop := 0 ≤ i.toInt ∧ i.toInt < n
abbrev am_z (v : Int32) : Prop := v = 0 ∨ v = 1
/-- the JVM's comparison -/
def am_c (op : ClassFile.Cond) (x y : Int32) : Prop := match op with
  | .eq => x = y
  | .ne => ¬ x = y
  | .lt => x < y
  | .ge => y ≤ x
  | .gt => y < x
  | .le => x ≤ y
def am_tg (pc : Nat) (off : Int) : Option Nat := match (pc : Int) + off with
  | .ofNat n => some n
  | .negSucc _ => none
def am_ho : Option Prop → Prop
  | none => True
  | some c => c
/-- strings: number i is 1000 + i, its bytes 2000 + i; static rows 3000 and on -/
abbrev am_Sa : Type := Nat → Option (Nat × List Int32)
def am_sw (pc : Nat) (L : am_Ls) (st : List Value) (M : am_M) (x : Int32) (lo : Int) : Nat → List Int → List (Option Prop × am_St)
  | _, [] => []
  | j, o :: t => match am_tg pc o with
    | some g => (some (x.toInt = lo + j), g, L, st, M) :: am_sw pc L st M x lo (j + 1) t
    | none => []
def am_lk (pc : Nat) (L : am_Ls) (st : List Value) (M : am_M) (x : Int32) : List (Int × Int) → List (Option Prop × am_St)
  | [] => []
  | q :: t => match am_tg pc q.2 with
    | some g => (some (x.toInt = q.1), g, L, st, M) :: am_lk pc L st M x t
    | none => []
def am_lkn (x : Int32) : List (Int × Int) → Prop
  | [] => True
  | q :: t => ¬ x.toInt = q.1 ∧ am_lkn x t
/-- one instruction that is no call and no end: where it may go, and under what -/
def am_i (cp : Nat → Option am_Cp) (sh : List am_Sc) (sv : Nat → Value) (sa : am_Sa) (i : am_Op) (len pc : Nat) (L : am_Ls) (st : List Value) (M : am_M) : List (Option Prop × am_St) :=
  match i, len, st with
  | .inr v, n, st => [(none, pc + n, L, .int v :: st, M)]
  | .inl (.iload_n k), 1, st => match L[(k : Nat)]? with
    | some (some (.int x)) => [(none, pc + 1, L, .int x :: st, M)]
    | _ => []
  | .inl (.iload k), 2, st => match L[k]? with
    | some (some (.int x)) => [(none, pc + 2, L, .int x :: st, M)]
    | _ => []
  | .inl (.aload_n k), 1, st => match L[(k : Nat)]? with
    | some (some (.ref x)) => [(none, pc + 1, L, .ref x :: st, M)]
    | _ => []
  | .inl (.aload k), 2, st => match L[k]? with
    | some (some (.ref x)) => [(none, pc + 2, L, .ref x :: st, M)]
    | _ => []
  | .inl (.istore_n k), 1, .int x :: st => bif Nat.blt k L.length then [(none, pc + 1, L.set k (some (.int x)), st, M)] else []
  | .inl (.istore k), 2, .int x :: st => bif Nat.blt k L.length then [(none, pc + 2, L.set k (some (.int x)), st, M)] else []
  | .inl (.astore_n k), 1, .ref x :: st => bif Nat.blt k L.length then [(none, pc + 1, L.set k (some (.ref x)), st, M)] else []
  | .inl (.astore k), 2, .ref x :: st => bif Nat.blt k L.length then [(none, pc + 2, L.set k (some (.ref x)), st, M)] else []
  | .inl (.iinc k d), 3, st => match L[k]? with
    | some (some (.int x)) => [(none, pc + 3, L.set k (some (.int (x + Int32.ofInt d))), st, M)]
    | _ => []
  | .inl .iadd, 1, .int y :: .int x :: st => [(none, pc + 1, L, .int (x + y) :: st, M)]
  | .inl .isub, 1, .int y :: .int x :: st => [(none, pc + 1, L, .int (x - y) :: st, M)]
  | .inl .imul, 1, .int y :: .int x :: st => [(none, pc + 1, L, .int (x * y) :: st, M)]
  | .inl .idiv, 1, .int y :: .int x :: st => [(some (¬ y = 0), pc + 1, L, .int (x / y) :: st, M)]
  | .inl .irem, 1, .int y :: .int x :: st => [(some (¬ y = 0), pc + 1, L, .int (x - x / y * y) :: st, M)]
  | .inl .ineg, 1, .int x :: st => [(none, pc + 1, L, .int (-x) :: st, M)]
  | .inl .iand, 1, .int y :: .int x :: st => [(none, pc + 1, L, .int (x &&& y) :: st, M)]
  | .inl .ior, 1, .int y :: .int x :: st => [(none, pc + 1, L, .int (x ||| y) :: st, M)]
  | .inl .ixor, 1, .int y :: .int x :: st => [(none, pc + 1, L, .int (x ^^^ y) :: st, M)]
  | .inl .ishl, 1, .int y :: .int x :: st => [(none, pc + 1, L, .int (x <<< (y &&& 31)) :: st, M)]
  | .inl .ishr, 1, .int y :: .int x :: st => [(none, pc + 1, L, .int (x >>> (y &&& 31)) :: st, M)]
  | .inl .iushr, 1, .int y :: .int x :: st => [(none, pc + 1, L, .int (x.toUInt32 >>> (y.toUInt32 &&& Int32.toUInt32 31)).toInt32 :: st, M)]
  | .inl .i2b, 1, .int x :: st => [(none, pc + 1, L, .int x.toInt8.toInt32 :: st, M)]
  | .inl .i2c, 1, .int x :: st => [(none, pc + 1, L, .int (x.toUInt32 % 65536).toInt32 :: st, M)]
  | .inl .dup, 1, .int x :: st => [(none, pc + 1, L, .int x :: .int x :: st, M)]
  | .inl .dup, 1, .ref x :: st => [(none, pc + 1, L, .ref x :: .ref x :: st, M)]
  | .inl .dup2, 1, .int x :: .ref y :: st => [(none, pc + 1, L, .int x :: .ref y :: .int x :: .ref y :: st, M)]
  | .inl .pop, 1, .int _ :: st => [(none, pc + 1, L, st, M)]
  | .inl (.goto off), 3, st => match am_tg pc off with
    | some t => [(none, t, L, st, M)]
    | none => []
  | .inl (.if_icmp op off), 3, .int y :: .int x :: st => match am_tg pc off with
    | some t => [(some (am_c op x y), t, L, st, M), (some (¬ am_c op x y), pc + 3, L, st, M)]
    | none => []
  | .inl (.ifCond op off), 3, .int x :: st => match am_tg pc off with
    | some t => [(some (am_c op x 0), t, L, st, M), (some (¬ am_c op x 0), pc + 3, L, st, M)]
    | none => []
  | .inl (.getfield k), 3, .ref a :: st => match cp k with
    | some (0, ci, j) => match sh[a]? with
      | some (.inr (.inl (c2, fs))) => bif Nat.beq ci c2 then (match fs[j]? with
          | some (some r) => [(none, pc + 3, L, .ref r :: st, M)]
          | some none => [(none, pc + 3, L, .int (M a j) :: st, M)]
          | none => []) else []
      | _ => []
    | some (9, ci, j) => match sh[a]? with
      | some (.inr (.inl (c2, fs))) => bif Nat.beq ci c2 then (match fs[j]? with
          | some none => [(none, pc + 3, L, .int (M a j) :: st, M)]
          | _ => []) else []
      | _ => []
    | some (7, _, _) => [(some (1000 ≤ a ∧ a < 1013), pc + 3, L, .ref (a + 1000) :: st, M)]
    | some (8, _, _) => [(some (1000 ≤ a ∧ a < 1013), pc + 3, L, .int 0 :: st, M)]
    | _ => []
  | .inl (.putfield k), 3, .int v :: .ref a :: st => match cp k with
    | some (0, ci, j) => match sh[a]? with
      | some (.inr (.inl (c2, fs))) => bif Nat.beq ci c2 then (match fs[j]? with
          | some none => [(none, pc + 3, L, st, am_up M a j v)]
          | _ => []) else []
      | _ => []
    | some (9, ci, j) => match sh[a]? with
      | some (.inr (.inl (c2, fs))) => bif Nat.beq ci c2 then (match fs[j]? with
          | some none => [(some (am_z v), pc + 3, L, st, am_up M a j v)]
          | _ => []) else []
      | _ => []
    | _ => []
  | .inl (.getstatic k), 3, st => match cp k with
    | some (2, n, _) => [(none, pc + 3, L, sv n :: st, M)]
    | _ => []
  | .inl (.ldc k), 2, st => match cp k with
    | some (1, n, _) => [(none, pc + 2, L, .ref (1000 + n) :: st, M)]
    | _ => []
  | .inl .arraylength, 1, .ref a :: st => match sh[a]? with
    | some (.inl (_, n)) => [(none, pc + 1, L, .int (Int32.ofNat n) :: st, M)]
    | _ => match sa a with
      | some (_, l) => [(none, pc + 1, L, .int (Int32.ofNat l.length) :: st, M)]
      | none => []
  | .inl .iaload, 1, .int i :: .ref a :: st => match sh[a]? with
    | some (.inl (0, n)) => [(some (am_in i n), pc + 1, L, .int (M a i.toNatClampNeg) :: st, M)]
    | _ => match sa a with
      | some (0, l) => [(some (am_in i l.length), pc + 1, L, .int (l.getD i.toNatClampNeg 0) :: st, M)]
      | _ => []
  | .inl .baload, 1, .int i :: .ref a :: st => match sh[a]? with
    | some (.inl (1, n)) => [(some (am_in i n), pc + 1, L, .int (M a i.toNatClampNeg) :: st, M)]
    | some (.inl (2, n)) => [(some (am_in i n), pc + 1, L, .int (M a i.toNatClampNeg) :: st, M)]
    | _ => match sa a with
      | some (1, l) => [(some (am_in i l.length), pc + 1, L, .int (l.getD i.toNatClampNeg 0) :: st, M)]
      | _ => []
  | .inl .iastore, 1, .int v :: .int i :: .ref a :: st => match sh[a]? with
    | some (.inl (0, n)) => [(some (am_in i n), pc + 1, L, st, am_up M a i.toNatClampNeg v)]
    | _ => []
  | .inl .bastore, 1, .int v :: .int i :: .ref a :: st => match sh[a]? with
    | some (.inl (1, n)) => [(some (am_in i n ∧ v.toInt8.toInt32 = v), pc + 1, L, st, am_up M a i.toNatClampNeg v)]
    | some (.inl (2, n)) => [(some (am_in i n ∧ am_z v), pc + 1, L, st, am_up M a i.toNatClampNeg v)]
    | _ => []
  | .inl .aaload, 1, .int i :: .ref a :: st => match sh[a]? with
    | some (.inr (.inr rs)) => [(some (am_in i rs.length), pc + 1, L, .ref (rs.getD i.toNatClampNeg 0) :: st, M)]
    | _ => []
  | .inl (.tableswitch d lo hi offs), _, .int x :: st => match am_tg pc d with
    | some t => (some (x.toInt < lo ∨ hi < x.toInt), t, L, st, M) :: am_sw pc L st M x lo 0 offs.toList
    | none => []
  | .inl (.lookupswitch d ps), _, .int x :: st => match am_tg pc d with
    | some t => (some (am_lkn x ps.toList), t, L, st, M) :: am_lk pc L st M x ps.toList
    | none => []
  | .inl (.invokestatic k), 3, st => match cp k with
    | some (6, _, _) => (match st with
      | .int n :: .int dp :: .ref b :: .int sp :: .ref a :: st => (match sh[a]?, sh[b]? with
        | some (.inl (0, na)), some (.inl (0, nb)) => bif Nat.ble st.length 8 then [(some ((0 ≤ sp.toInt ∧ 0 ≤ dp.toInt ∧ 0 ≤ n.toInt) ∧ (sp.toNatClampNeg + n.toNatClampNeg ≤ na ∧ dp.toNatClampNeg + n.toNatClampNeg ≤ nb)), pc + 3, L, st, am_upA M b (va_cpy (M a) (M b) sp.toNatClampNeg dp.toNatClampNeg n.toNatClampNeg))] else []
        | _, _ => [])
      | _ => [])
    | some (11, _, _) => (match st with
      | .int y :: .int x :: st => bif Nat.ble st.length 8 then [(none, pc + 3, L, .int (if x < y then y else x) :: st, M)] else []
      | _ => [])
    | some (12, _, _) => (match st with
      | .int y :: .int x :: st => bif Nat.ble st.length 8 then [(none, pc + 3, L, .int (if y < x then y else x) :: st, M)] else []
      | _ => [])
    | some (13, _, _) => (match st with
      | .int x :: st => bif Nat.ble st.length 8 then [(none, pc + 3, L, .int (if 0 ≤ x then x else 0 - x) :: st, M)] else []
      | _ => [])
    | _ => []
  | _, _, _ => []
/-- the value with which a method ends -/
def am_e (rt : Option FieldType) (i : am_Op) (len : Nat) (st : List Value) : Option (Prop × Option Value) :=
  match i, len, st, rt with
  | .inl .return_, 1, [], none => some (True, none)
  | .inl .ireturn, 1, [.int v], some .int => some (True, some (.int v))
  | .inl .ireturn, 1, [.int v], some .boolean => some (am_z v, some (.int v))
  | .inl .ireturn, 1, [.int v], some .byte => some (v.toInt8.toInt32 = v, some (.int v))
  | .inl .ireturn, 1, [.int v], some .char => some ((v.toUInt32 % 65536).toInt32 = v, some (.int v))
  | .inl .areturn, 1, [.ref v], some (.object _) => some (True, some (.ref v))
  | _, _, _, _ => none
/-- a throw: new, dup, ldc, invokespecial, athrow -/
def am_t (cp : Nat → Option am_Cp) (pg : am_Pg) (pc : Nat) (i : am_Op) (len : Nat) : Option (Nat × Nat × Nat × Nat) :=
  match i, len, am_at pg (pc + 3), am_at pg (pc + 4), am_at pg (pc + 7), am_at pg (pc + 10) with
  | .inl (.new k), 3, some (.inl .dup, 1), some (.inl (.ldc_w a), 3), some (.inl (.invokespecial b), 3), some (.inl .athrow, 1) => match cp k with
    | some (4, x, _) => some (x, k, a, b)
    | _ => none
  | _, _, _, _, _, _ => none
/-- the operands of a call: n ints and references from the top, in the order of the parameters, and the rest -/
def am_pop : Nat → List Value → List Value → Option (List Value × List Value)
  | 0, acc, st => some (acc, st)
  | n + 1, acc, v :: st => am_pop n (v :: acc) st
  | _ + 1, _, [] => none
def am_cl (mt : Nat → Option am_Me) (cp : Nat → Option am_Cp) (sh : List am_Sc) (i : am_Op) (len : Nat) (st : List Value) : Option (am_Me × List Value × List Value) :=
  match i, len with
  | .inl (.invokestatic k), 3 => match cp k with
    | some (3, n, _) => match mt n with
      | some e => bif am_stc e then (match am_pop (am_np e) [] st with
          | some (as, rest) => some (e, as, rest)
          | none => none) else none
      | none => none
    | _ => none
  | .inl (.invokevirtual k), 3 => match cp k with
    | some (3, n, ci) => match mt n with
      | some e => bif am_stc e then none else (match am_pop (am_np e + 1) [] st with
          | some (.ref a :: as, rest) => (match sh[a]? with
            | some (.inr (.inl (c2, _))) => bif Nat.beq ci c2 then some (e, .ref a :: as, rest) else none
            | _ => none)
          | _ => none)
      | none => none
    | some (10, n, _) => match mt n with
      | some e => bif am_stc e then none else (match am_pop (am_np e + 1) [] st with
          | some (.ref a :: as, rest) => bif Nat.ble 1000 a && Nat.blt a 1013 then some (e, .ref a :: as, rest) else none
          | _ => none)
      | none => none
    | _ => none
  | _, _ => none
def am_l0 (e : am_Me) (as : List Value) : am_Ls := as.map some ++ List.replicate (am_mL e - as.length) none
/-- the method goes from here to its end within n steps -/
def am_N (mt : Nat → Option am_Me) (cp : Nat → Nat → Option am_Cp) (sh : List am_Sc) (sv : Nat → Value) (sa : am_Sa) : Nat → am_Me → am_St → Except Nat (Option Value) → am_M → Prop
  | 0, _, _, _, _ => False
  | n + 1, e, q, r, M' => ∃ i len, am_at (am_pg e) q.1 = some (i, len) ∧
      ((∃ z ∈ am_i (cp (am_cn e)) sh sv sa i len q.1 q.2.1 q.2.2.1 q.2.2.2, am_ho z.1 ∧ am_N mt cp sh sv sa n e z.2 r M') ∨
       (∃ z, am_e (am_rt e) i len q.2.2.1 = some z ∧ z.1 ∧ r = .ok z.2 ∧ M' = q.2.2.2) ∨
       (∃ x k a b, am_t (cp (am_cn e)) (am_pg e) q.1 i len = some (x, k, a, b) ∧ q.2.2.1 = [] ∧ r = .error x ∧ M' = q.2.2.2) ∨
       (∃ e' as rest, am_cl mt (cp (am_cn e)) sh i len q.2.2.1 = some (e', as, rest) ∧ rest.length ≤ 8 ∧
         ((∃ v M1, am_N mt cp sh sv sa n e' (0, am_l0 e' as, [], q.2.2.2) (.ok v) M1 ∧ am_N mt cp sh sv sa n e (q.1 + 3, q.2.1, v.toList ++ rest, M1) r M') ∨
          (∃ x, am_N mt cp sh sv sa n e' (0, am_l0 e' as, [], q.2.2.2) (.error x) M' ∧ r = .error x ∧ am_stc e' = false))))

/-- steps that branch nowhere, and what they ask -/
def am_go (cp : Nat → Nat → Option am_Cp) (sh : List am_Sc) (sv : Nat → Value) (sa : am_Sa) (e : am_Me) : Nat → am_St → Option (Prop × am_St)
  | 0, q => some (True, q)
  | n + 1, q => match am_at (am_pg e) q.1 with
    | some (i, len) => match am_i (cp (am_cn e)) sh sv sa i len q.1 q.2.1 q.2.2.1 q.2.2.2 with
      | [(none, q')] => am_go cp sh sv sa e n q'
      | [(some c, q')] => match am_go cp sh sv sa e n q' with
        | some (C, q'') => some (c ∧ C, q'')
        | none => none
      | _ => none
    | none => none
section AMR
variable {mt : Nat → Option am_Me} {cp : Nat → Nat → Option am_Cp} {sh : List am_Sc} {sv : Nat → Value} {sa : am_Sa}
def am_R (mt : Nat → Option am_Me) (cp : Nat → Nat → Option am_Cp) (sh : List am_Sc) (sv : Nat → Value) (sa : am_Sa) (e : am_Me) (q : am_St) (r : Except Nat (Option Value)) (M' : am_M) : Prop := ∃ n, am_N mt cp sh sv sa n e q r M'
theorem am_N.up : ∀ (n : Nat) {e : am_Me} {q : am_St} {r : Except Nat (Option Value)} {M' : am_M}, am_N mt cp sh sv sa n e q r M' → am_N mt cp sh sv sa (n + 1) e q r M' := by
  intro n
  induction n with
  | zero => intro e q r M' h; exact h.elim
  | succ n ih =>
    intro e q r M' h
    obtain ⟨i, len, h1, h2⟩ := h
    refine ⟨i, len, h1, ?_⟩
    rcases h2 with ⟨z, hz, hc, hn⟩ | h2 | h2 | ⟨e', as, rest, hcl, hrw, h3⟩
    · exact Or.inl ⟨z, hz, hc, ih hn⟩
    · exact Or.inr (Or.inl h2)
    · exact Or.inr (Or.inr (Or.inl h2))
    · refine Or.inr (Or.inr (Or.inr ⟨e', as, rest, hcl, hrw, ?_⟩))
      rcases h3 with ⟨v, M1, ha, hb⟩ | ⟨x, ha, hb⟩
      · exact Or.inl ⟨v, M1, ih ha, ih hb⟩
      · exact Or.inr ⟨x, ih ha, hb⟩
theorem am_N.ups {n m : Nat} (h : n ≤ m) {e : am_Me} {q : am_St} {r : Except Nat (Option Value)} {M' : am_M} (k : am_N mt cp sh sv sa n e q r M') : am_N mt cp sh sv sa m e q r M' := by
  induction h with
  | refl => exact k
  | step _ ih => exact am_N.up _ ih
theorem am_R.go (k : Nat) {e : am_Me} {q q' : am_St} {C : Prop} {r : Except Nat (Option Value)} {M' : am_M} (h : am_go cp sh sv sa e k q = some (C, q')) (hC : C) (hr : am_R mt cp sh sv sa e q' r M') : am_R mt cp sh sv sa e q r M' := by
  induction k generalizing q C with
  | zero => cases h; exact hr
  | succ n ih =>
    unfold am_go at h
    split at h
    · rename_i i len h1
      split at h
      · rename_i q2 h2
        obtain ⟨m, hm⟩ := ih h hC
        exact ⟨m + 1, i, len, h1, Or.inl ⟨(none, q2), by rw [h2]; exact List.mem_cons_self, trivial, hm⟩⟩
      · rename_i c q2 h2
        split at h
        · rename_i C2 q3 h3
          cases h
          obtain ⟨m, hm⟩ := ih h3 hC.2
          exact ⟨m + 1, i, len, h1, Or.inl ⟨(some c, q2), by rw [h2]; exact List.mem_cons_self, hC.1, hm⟩⟩
        · cases h
      · cases h
    · cases h
theorem am_R.icmp {e : am_Me} {pc : Nat} {L : am_Ls} {st : List Value} {M M' : am_M} {x y : Int32} {op : ClassFile.Cond} {off : Int} {tgt : Nat} {r : Except Nat (Option Value)} (h : am_at (am_pg e) pc = some (.inl (.if_icmp op off), 3)) (ht : am_tg pc off = some tgt)
    (a : am_c op x y → am_R mt cp sh sv sa e (tgt, L, st, M) r M') (b : ¬ am_c op x y → am_R mt cp sh sv sa e (pc + 3, L, st, M) r M') : am_R mt cp sh sv sa e (pc, L, .int y :: .int x :: st, M) r M' := by
  rcases Classical.em (am_c op x y) with hc | hc
  · obtain ⟨n, hn⟩ := a hc
    exact ⟨n + 1, _, _, h, Or.inl ⟨(some (am_c op x y), tgt, L, st, M), by simp [am_i, ht], hc, hn⟩⟩
  · obtain ⟨n, hn⟩ := b hc
    exact ⟨n + 1, _, _, h, Or.inl ⟨(some (¬ am_c op x y), pc + 3, L, st, M), by simp [am_i, ht], hc, hn⟩⟩
theorem am_R.ifc {e : am_Me} {pc : Nat} {L : am_Ls} {st : List Value} {M M' : am_M} {x : Int32} {op : ClassFile.Cond} {off : Int} {tgt : Nat} {r : Except Nat (Option Value)} (h : am_at (am_pg e) pc = some (.inl (.ifCond op off), 3)) (ht : am_tg pc off = some tgt)
    (a : am_c op x 0 → am_R mt cp sh sv sa e (tgt, L, st, M) r M') (b : ¬ am_c op x 0 → am_R mt cp sh sv sa e (pc + 3, L, st, M) r M') : am_R mt cp sh sv sa e (pc, L, .int x :: st, M) r M' := by
  rcases Classical.em (am_c op x 0) with hc | hc
  · obtain ⟨n, hn⟩ := a hc
    exact ⟨n + 1, _, _, h, Or.inl ⟨(some (am_c op x 0), tgt, L, st, M), by simp [am_i, ht], hc, hn⟩⟩
  · obtain ⟨n, hn⟩ := b hc
    exact ⟨n + 1, _, _, h, Or.inl ⟨(some (¬ am_c op x 0), pc + 3, L, st, M), by simp [am_i, ht], hc, hn⟩⟩
theorem am_R.one {e : am_Me} {q q' : am_St} {M' : am_M} {i : am_Op} {len : Nat} {c : Option Prop} {r : Except Nat (Option Value)} (h : am_at (am_pg e) q.1 = some (i, len)) (hm : (c, q') ∈ am_i (cp (am_cn e)) sh sv sa i len q.1 q.2.1 q.2.2.1 q.2.2.2) (hc : am_ho c) (hr : am_R mt cp sh sv sa e q' r M') : am_R mt cp sh sv sa e q r M' := by
  obtain ⟨n, hn⟩ := hr
  exact ⟨n + 1, i, len, h, Or.inl ⟨(c, q'), hm, hc, hn⟩⟩
theorem am_R.ret {e : am_Me} {q : am_St} {i : am_Op} {len : Nat} {c : Prop} {v : Option Value} (h : am_at (am_pg e) q.1 = some (i, len)) (he : am_e (am_rt e) i len q.2.2.1 = some (c, v)) (hc : c) : am_R mt cp sh sv sa e q (.ok v) q.2.2.2 :=
  ⟨1, i, len, h, Or.inr (Or.inl ⟨(c, v), he, hc, rfl, rfl⟩)⟩
theorem am_R.thr {e : am_Me} {pc : Nat} {L : am_Ls} {M : am_M} {i : am_Op} {len x k a b : Nat} (h : am_at (am_pg e) pc = some (i, len)) (ht : am_t (cp (am_cn e)) (am_pg e) pc i len = some (x, k, a, b)) : am_R mt cp sh sv sa e (pc, L, [], M) (.error x) M :=
  ⟨1, i, len, h, Or.inr (Or.inr (Or.inl ⟨x, k, a, b, ht, rfl, rfl, rfl⟩))⟩
theorem am_R.call {e e' : am_Me} {pc : Nat} {L : am_Ls} {st as rest : List Value} {M M1 M' : am_M} {i : am_Op} {len : Nat} {v : Option Value} {r : Except Nat (Option Value)} (h : am_at (am_pg e) pc = some (i, len)) (hc : am_cl mt (cp (am_cn e)) sh i len st = some (e', as, rest)) (hw : rest.length ≤ 8)
    (ha : am_R mt cp sh sv sa e' (0, am_l0 e' as, [], M) (.ok v) M1) (hb : am_R mt cp sh sv sa e (pc + 3, L, v.toList ++ rest, M1) r M') : am_R mt cp sh sv sa e (pc, L, st, M) r M' := by
  obtain ⟨n, hn⟩ := ha
  obtain ⟨m, hm⟩ := hb
  exact ⟨n + m + 1, i, len, h, Or.inr (Or.inr (Or.inr ⟨e', as, rest, hc, hw, Or.inl ⟨v, M1, am_N.ups (by omega) hn, am_N.ups (by omega) hm⟩⟩))⟩
theorem am_R.callx {e e' : am_Me} {pc : Nat} {L : am_Ls} {st as rest : List Value} {M M' : am_M} {i : am_Op} {len x : Nat} (h : am_at (am_pg e) pc = some (i, len)) (hc : am_cl mt (cp (am_cn e)) sh i len st = some (e', as, rest)) (hw : rest.length ≤ 8)
    (hv : am_stc e' = false) (ha : am_R mt cp sh sv sa e' (0, am_l0 e' as, [], M) (.error x) M') : am_R mt cp sh sv sa e (pc, L, st, M) (.error x) M' := by
  obtain ⟨n, hn⟩ := ha
  exact ⟨n + 1, i, len, h, Or.inr (Or.inr (Or.inr ⟨e', as, rest, hc, hw, Or.inr ⟨x, hn, rfl, hv⟩⟩))⟩
end AMR
