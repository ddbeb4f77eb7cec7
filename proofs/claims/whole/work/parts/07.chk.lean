/-! THE TABLES' WORDS OF THE POOLS AND OF THE METHODS -/
def am_gw : List Cond := lw_tbl.filter goodWord
theorem am_gw_good : ∀ w ∈ am_gw, (w.onTables && w.keeps) = true ∨ ∃ ty, w = .arrayClass ty := fun w h => good_of_word (List.mem_filter.mp h).2
theorem am_gw_tbl : ∀ w ∈ am_gw, w ∈ lw_tbl := fun w h => (List.mem_filter.mp h).1
def am_tb (t : Nat) : List Cond := match t with
  | 0 => k2_sels lw_privs
  | 1 => tables_1_1
  | 2 => tables_1_2
  | 3 => tables_1_3
  | 4 => tables_1_4
  | 5 => tables_1_5
  | 6 => tables_1_6
  | 7 => tables_1_7
  | _ => tables_1_8
theorem am_tb_in : ∀ (t : Nat) (w : Cond), w ∈ am_tb t → w ∈ lw_tbl := by
  intro t w h
  show w ∈ k2_sels lw_privs ++ (tables_1_1 ++ (tables_1_2 ++ (tables_1_3 ++ (tables_1_4 ++ (tables_1_5 ++ (tables_1_6 ++ (tables_1_7 ++ tables_1_8)))))))
  simp only [List.mem_append]
  match t, h with
  | 0, h => exact Or.inl h
  | 1, h => exact Or.inr (Or.inl h)
  | 2, h => exact Or.inr (Or.inr (Or.inl h))
  | 3, h => exact Or.inr (Or.inr (Or.inr (Or.inl h)))
  | 4, h => exact Or.inr (Or.inr (Or.inr (Or.inr (Or.inl h))))
  | 5, h => exact Or.inr (Or.inr (Or.inr (Or.inr (Or.inr (Or.inl h)))))
  | 6, h => exact Or.inr (Or.inr (Or.inr (Or.inr (Or.inr (Or.inr (Or.inl h))))))
  | 7, h => exact Or.inr (Or.inr (Or.inr (Or.inr (Or.inr (Or.inr (Or.inr (Or.inl h)))))))
  | n + 8, h => exact Or.inr (Or.inr (Or.inr (Or.inr (Or.inr (Or.inr (Or.inr (Or.inr h)))))))
theorem am_nth_in {α : Type} : ∀ (l : List α) (n : Nat) (a : α), am_nth l n = some a → a ∈ l := by
  intro l
  induction l with
  | nil => intro n a h; cases h
  | cons b t ih =>
    intro n a h
    cases n with
    | zero => cases h; exact List.mem_cons_self
    | succ n => exact List.mem_cons_of_mem _ (ih n a h)
/-- the word stands at that place, and is a good one -/
def am_hb (w : Cond) (i : Nat × Nat) : Bool := goodWord w && (match am_nth (am_tb i.1) i.2 with
  | some v => decide (v = w)
  | none => false)
theorem am_hb_in {w : Cond} {i : Nat × Nat} (h : am_hb w i = true) : w ∈ am_gw := by
  unfold am_hb at h
  rw [Bool.and_eq_true] at h
  obtain ⟨h1, h2⟩ := h
  split at h2
  · rename_i v hv
    have e : v = w := of_decide_eq_true h2
    subst e
    exact List.mem_filter.mpr ⟨am_tb_in _ _ (am_nth_in _ _ _ hv), h1⟩
  · cases h2
/-- the places of String constants: the owner, the number in its pool, the text -/
def am_srs : List (String × Nat × Nat) := [("SoldEchoes", 360, 12), ("SoldEchoes$Reader", 170, 0), ("SoldEchoes$Reader", 172, 1), ("SoldEchoes$Reader", 174, 2), ("SoldEchoes$Reader", 175, 3), ("SoldEchoes$Reader", 177, 4), ("SoldEchoes$Reader", 179, 5), ("SoldEchoes$Reader", 181, 6), ("SoldEchoes$Reader", 183, 7), ("SoldEchoes$Reader", 185, 8), ("SoldEchoes$Reader", 186, 9), ("SoldEchoes", 348, 10), ("SoldEchoes", 355, 11), ("SoldEchoesModel", 255, 0), ("SoldEchoesModel", 225, 1), ("SoldEchoesModel", 233, 2), ("SoldEchoesModel", 234, 3), ("SoldEchoesModel", 235, 4), ("SoldEchoesModel", 236, 5), ("SoldEchoesModel", 237, 6), ("SoldEchoesModel", 238, 7), ("SoldEchoesModel", 239, 8), ("SoldEchoesModel", 240, 9)]
/-- words that the tables alone decide, carried by themselves -/
def am_nst : List Cond := [.methodLinkNest "SoldEchoes$Shouter" 106 ⟨"SoldEchoes", "cellOf", "(II)I"⟩ "SoldEchoes", .methodLinkNest "SoldEchoes$Table" 37 ⟨"SoldEchoes", "cellOf", "(II)I"⟩ "SoldEchoes", .methodLinkNest "SoldEchoes$Reader" 142 ⟨"SoldEchoes", "cellOf", "(II)I"⟩ "SoldEchoes", .methodLinkNest "SoldEchoes$Market" 104 ⟨"SoldEchoes", "partOfFraction", "(III)I"⟩ "SoldEchoes", .castable "java/lang/IndexOutOfBoundsException" "java/lang/IndexOutOfBoundsException", .castable "java/util/NoSuchElementException" "java/util/NoSuchElementException", .castable "java/lang/IllegalArgumentException" "java/lang/IllegalArgumentException", .declares ⟨"java/lang/RuntimeException", "<init>", "()V"⟩, .declares ⟨"java/lang/RuntimeException", "<init>", "(Ljava/lang/String;)V"⟩, .declares ⟨"java/lang/Exception", "<init>", "()V"⟩, .declares ⟨"java/lang/Exception", "<init>", "(Ljava/lang/String;)V"⟩, .declares ⟨"java/lang/Throwable", "<init>", "()V"⟩, .declares ⟨"java/lang/Throwable", "<init>", "(Ljava/lang/String;)V"⟩]
def am_exc (x : Nat) : String := match x with
  | 0 => "java/lang/IndexOutOfBoundsException"
  | 1 => "java/util/NoSuchElementException"
  | _ => "java/lang/IllegalArgumentException"
def am_sn (n : Nat) : String × String × String := match n with
  | 0 => ("SoldEchoes$Shouter", "RIGHT", "[I")
  | 1 => ("SoldEchoes$Shouter", "DOWN", "[I")
  | 2 => ("java/lang/String", "COMPACT_STRINGS", "Z")
  | _ => ("jdk/internal/util/Preconditions", "SIOOBE_FORMATTER", "Ljava/util/function/BiFunction;")
def am_h (hs : List (Nat × Nat)) (n : Nat) : Nat × Nat := match am_nth hs n with
  | some i => i
  | none => (0, 0)
/-- a row of a pool, with the places of its words -/
def am_cb (own : String) (q : (Nat × am_Cp) × List (Nat × Nat)) : Bool := match q.1.2 with
  | (0, ci, j) => (match vwCl[ci]? with
    | some (_, T, N) => Nat.blt j N && (am_hb (.fieldLink own q.1.1 (T j).1 (T j).2.1 (T j).2.2.1) (am_h q.2 0) && ((T j).2.2.2 || decide ((T j).2.2.1 = "I")))
    | none => false)
  | (9, ci, j) => (match vwCl[ci]? with
    | some (_, T, N) => Nat.blt j N && (am_hb (.fieldLink own q.1.1 (T j).1 (T j).2.1 (T j).2.2.1) (am_h q.2 0) && (!(T j).2.2.2 && decide ((T j).2.2.1 = "Z")))
    | none => false)
  | (1, n, _) => Nat.blt n 13 && decide ((own, q.1.1, n) ∈ am_srs)
  | (2, n, _) => Nat.blt n 4 && am_hb (.fieldLink own q.1.1 (am_sn n).1 (am_sn n).2.1 (am_sn n).2.2) (am_h q.2 0)
  | (3, n, b) => (match am_mt n with
    | some e => (bif am_stc e then (bif Nat.beq b 0 then am_hb (.methodLink own q.1.1 (am_y e)) (am_h q.2 0) else decide (Cond.methodLinkNest own q.1.1 (am_y e) "SoldEchoes" ∈ am_nst))
        else am_hb (.methodLink own q.1.1 (am_y e)) (am_h q.2 0) && (match vwCl[b]? with
          | some (C, _, _) => decide ((am_y e).cls = C)
          | none => false))
    | none => false)
  | (10, n, _) => (match am_mt n with
    | some e => am_hb (.methodLink own q.1.1 (am_y e)) (am_h q.2 0) && decide ((am_y e).cls = "java/lang/String")
    | none => false)
  | (4, x, _) => am_hb (.classLink own q.1.1 (am_exc x)) (am_h q.2 0) && am_hb (.initialized (am_exc x)) (am_h q.2 1)
  | (5, _, _) => true
  | (6, _, _) => am_hb (.methodLink own q.1.1 arraycopyName) (am_h q.2 0) && (am_hb (.native arraycopyName) (am_h q.2 1) && (am_hb (.static arraycopyName) (am_h q.2 2) && am_hb (.initialized "java/lang/System") (am_h q.2 3)))
  | (7, _, _) => am_hb (.fieldLink own q.1.1 "java/lang/String" "value" "[B") (am_h q.2 0)
  | (8, _, _) => am_hb (.fieldLink own q.1.1 "java/lang/String" "coder" "B") (am_h q.2 0)
  | (11, _, _) => am_hb (.methodLink own q.1.1 Lib.Math.max.name) (am_h q.2 0) && (am_hb (.static Lib.Math.max.name) (am_h q.2 1) && (am_hb (.initialized "java/lang/Math") (am_h q.2 2) && am_hb (.code Lib.Math.max.name Lib.Math.max.code 2 (some .int)) (am_h q.2 3)))
  | (12, _, _) => am_hb (.methodLink own q.1.1 Lib.Math.min.name) (am_h q.2 0) && (am_hb (.static Lib.Math.min.name) (am_h q.2 1) && (am_hb (.initialized "java/lang/Math") (am_h q.2 2) && am_hb (.code Lib.Math.min.name Lib.Math.min.code 2 (some .int)) (am_h q.2 3)))
  | (13, _, _) => am_hb (.methodLink own q.1.1 Lib.Math.abs.name) (am_h q.2 0) && (am_hb (.static Lib.Math.abs.name) (am_h q.2 1) && (am_hb (.initialized "java/lang/Math") (am_h q.2 2) && am_hb (.code Lib.Math.abs.name Lib.Math.abs.code 1 (some .int)) (am_h q.2 3)))
  | _ => false
/-- a method, with the places of its words -/
def am_mb (q : am_Me × List (Nat × Nat)) : Bool := plainName (am_y q.1).cls && (decide ((parseMethodDescriptor (am_y q.1).desc).map (fun d => d.parameters.length) = some (am_np q.1)) && ((am_hb (.initialized (am_y q.1).cls) (am_h q.2 1) && (decide (am_nth am_pn (am_cn q.1) = some (am_y q.1).cls) &&
  (bif am_stc q.1 then am_hb (.static (am_y q.1)) (am_h q.2 2) else am_hb (.instanceMethod (am_y q.1)) (am_h q.2 2) && am_hb (.selects (am_y q.1).cls (am_y q.1) (am_y q.1)) (am_h q.2 3))))))
/-- a method's room holds its callees' -/
def am_ib (e : am_Me) (q : Nat × am_Op × Nat) : Bool := match q.2.1 with
  | .inl (.invokestatic k) | .inl (.invokevirtual k) => (match am_cp (am_cn e) k with
    | some (3, n, _) | some (10, n, _) => (match am_mt n with
      | some e' => Nat.ble (am_fr e' + 1) (am_fr e) && (Nat.ble (8 + (am_mL e' + 11) + am_lc e') (am_lc e) && Nat.ble (am_np e' + 1) (am_mL e' + 1))
      | none => false)
    | some (6, _, _) | some (11, _, _) | some (12, _, _) | some (13, _, _) => Nat.ble 1 (am_fr e) && Nat.ble 60 (am_lc e)
    | _ => true)
  | .inl (.new _) => Nat.ble 6 (am_fr e) && Nat.ble 90 (am_lc e)
  | _ => true
def ch_0 : List (List (Nat × Nat)) := [[(2, 141)], [(2, 142)], [(2, 143)], [(2, 138)], [(2, 139)], [(2, 140)], [(1, 107)], [(1, 49)], [(2, 124)], [(2, 126)], [(2, 128)], [(5, 205)], [(5, 206)], [(5, 216)], [(2, 130)], [(1, 150)], [(5, 210)], [(1, 80)], [(5, 211)], [(5, 212)], [(2, 132)], [(2, 134)], [(2, 136)], [(5, 228)], [(1, 74)], [(1, 69)], [(5, 229)], [(5, 233)], [(6, 0)], [(6, 4), (2, 2), (1, 8), (2, 3)], [(5, 237), (5, 238), (1, 8), (5, 239)], [(1, 206)]]
set_option maxRecDepth 100000 in
theorem cb_0 : (cp_0.zip ch_0).all (am_cb RX0) = true := by decide +kernel
theorem cl_0 : cp_0.length = ch_0.length := by decide +kernel
def ch_1 : List (List (Nat × Nat)) := [[(2, 67)], [(2, 68)], [(2, 69)], [(2, 64)], [(2, 65)], [(1, 138)], [(1, 85)], [(5, 20)], [(2, 56)], [(2, 58)], [(1, 95)], [(5, 32)], [(1, 52)], [(5, 37)], [(5, 42)], [(5, 41)], [(5, 46)], [(5, 50)], [(5, 51)], [(2, 5)], [(2, 60)], [(2, 62)], [(2, 66)], [(5, 66)], [(5, 70)], [(5, 86)], [(5, 90)], [(1, 93)], [(5, 74)], [(5, 78)], [(5, 82)]]
set_option maxRecDepth 100000 in
theorem cb_1 : (cp_1.zip ch_1).all (am_cb RX1) = true := by decide +kernel
theorem cl_1 : cp_1.length = ch_1.length := by decide +kernel
def ch_2 : List (List (Nat × Nat)) := [[(1, 137)], [(1, 142)], [(1, 149)], [(1, 146)], [(1, 51)], [(3, 50), (3, 52), (3, 51), (1, 21)], [(3, 53)], [(5, 36)]]
set_option maxRecDepth 100000 in
theorem cb_2 : (cp_2.zip ch_2).all (am_cb RX2) = true := by decide +kernel
theorem cl_2 : cp_2.length = ch_2.length := by decide +kernel
def ch_3 : List (List (Nat × Nat)) := [[(2, 23)], [(2, 24)], [(2, 1), (2, 2), (1, 8), (2, 3)], [(2, 21)], [(2, 22)], [(1, 90)], [(4, 210)], [(2, 17)], [(2, 19)], [(1, 79)], [(4, 211)], [(4, 212)], [(4, 213)], [(2, 4)], [(2, 7)], [(2, 9)], [(2, 11)], [(2, 13)], [(2, 15)], [(5, 8)], [(6, 35)], [(1, 101)], [(1, 54)], [(1, 88)], [(5, 105)], [], [(5, 129)]]
set_option maxRecDepth 100000 in
theorem cb_3 : (cp_3.zip ch_3).all (am_cb RX3) = true := by decide +kernel
theorem cl_3 : cp_3.length = ch_3.length := by decide +kernel
def ch_4 : List (List (Nat × Nat)) := [[(1, 77)], [(1, 89)], [(1, 94)], [(1, 98)], [(1, 102)], [(1, 106)], [(1, 67)], [(1, 72)], [(1, 84)], [(1, 50)], [(4, 65)]]
set_option maxRecDepth 100000 in
theorem cb_4 : (cp_4.zip ch_4).all (am_cb RX4) = true := by decide +kernel
theorem cl_4 : cp_4.length = ch_4.length := by decide +kernel
def ch_5 : List (List (Nat × Nat)) := [[(1, 179)], [(1, 171)], [(1, 173)], [(1, 177)], [(3, 156)], [(3, 160)], [(1, 175)], [(1, 181)], [(3, 164), (3, 58), (1, 8), (3, 59)], [(1, 180)], [(3, 165)], [(3, 169)], [(4, 14)], [(4, 57)], [(3, 173)], [(4, 2)], [(4, 6)], [(4, 18)], [(1, 140)], [(4, 26)], [(1, 144)], [(1, 103)], [(4, 31)], [(4, 48)], [(1, 96)], [(4, 53)], [(1, 108)], [(4, 35)], [(4, 22)], [(1, 81)], [(1, 86)], [(4, 10)], [(1, 92)], [(1, 99)], [(1, 71)], [(1, 76)], [], [(4, 39)], [(4, 44)], [(4, 52)], [(3, 177)], [(3, 190)], [(3, 194)], [(3, 204)], [], [], [], [], [], [], [], [], [], []]
set_option maxRecDepth 100000 in
theorem cb_5 : (cp_5.zip ch_5).all (am_cb RX5) = true := by decide +kernel
theorem cl_5 : cp_5.length = ch_5.length := by decide +kernel
def ch_6 : List (List (Nat × Nat)) := [[(1, 214)], [(1, 215)], [(1, 208)], [(1, 209)], [(1, 210)], [(1, 211)], [(1, 212)], [(1, 204)], [(3, 16)], [(3, 20)], [(3, 22)], [(1, 68)], [(1, 73)], [(1, 143)], [(1, 147)], [(1, 213)], [(3, 24)], [(1, 139)], [(4, 162)], [(1, 83)], [(3, 5)], [(1, 105)], [(1, 55)], [(3, 28)], [(3, 41)], [(6, 23), (3, 58), (1, 8), (3, 59)], [], [(3, 12)]]
set_option maxRecDepth 100000 in
theorem cb_6 : (cp_6.zip ch_6).all (am_cb RX6) = true := by decide +kernel
theorem cl_6 : cp_6.length = ch_6.length := by decide +kernel
def ch_7 : List (List (Nat × Nat)) := [[(2, 103)], [(2, 104)], [(2, 101)], [(1, 78)], [(5, 147)], [(2, 102)], [(1, 205)], [(5, 148)], [(2, 97)], [(2, 99)], [(5, 164), (3, 58), (1, 8), (3, 59)], [(5, 165)], [(5, 177)], [(5, 183)]]
set_option maxRecDepth 100000 in
theorem cb_7 : (cp_7.zip ch_7).all (am_cb RX7) = true := by decide +kernel
theorem cl_7 : cp_7.length = ch_7.length := by decide +kernel
def ch_8 : List (List (Nat × Nat)) := [[(1, 47)], [(1, 46)], [(1, 45)], [(1, 48)], [(4, 43)], [(3, 36)], [(3, 32)], [], [(3, 57), (3, 58), (1, 8), (3, 59)], [(3, 60), (3, 52), (3, 51), (1, 21)]]
set_option maxRecDepth 100000 in
theorem cb_8 : (cp_8.zip ch_8).all (am_cb RX8) = true := by decide +kernel
theorem cl_8 : cp_8.length = ch_8.length := by decide +kernel
def ch_9 : List (List (Nat × Nat)) := [[(2, 172)], [(2, 174)], [(2, 178)], [(2, 179)], [(2, 180)], [(2, 181)], [(2, 183)], [(2, 184)], [(2, 185)], [(2, 186)], [(2, 187)], [(2, 173)], [(2, 225)], [(3, 81)], [(3, 152)], [(1, 178)], [(1, 176)], [(1, 172)], [(4, 61)], [(1, 174)], [(3, 46)], [(2, 182)], [(1, 91)], [(1, 53)], [(1, 70)], [(1, 75)], [(1, 97)], [(1, 100)], [(1, 104)], [(1, 109)], [(1, 82)], [(1, 87)], [(1, 148)], [(1, 151)], [(4, 81)], [(1, 141)], [(4, 101)], [(1, 145)], [(4, 123), (3, 58), (1, 8), (3, 59)], [(4, 131)], [(4, 135)], [(1, 207)], [(4, 143)], [(4, 154)], [(4, 158)], [(4, 174)], [(4, 194)], [(4, 202)], [(4, 206)], [(2, 6)], [(2, 8)], [(2, 10)], [(2, 12)], [(2, 14)], [(2, 16)], [(2, 18)], [(2, 20)], [(4, 231)], [(5, 4)], [(5, 16)], [(5, 28)], [(2, 57)], [(2, 59)], [(5, 62)], [(2, 61)], [(2, 63)], [(5, 101)], [(5, 114)], [(5, 125)], [(5, 139)], [(5, 143)], [(5, 149)], [(5, 160)], [(2, 98)], [(2, 100)], [(5, 173)], [(5, 191)], [(5, 192)], [(5, 193)], [(5, 201)], [(2, 125)], [(2, 127)], [(2, 129)], [(2, 131)], [(5, 224)], [(2, 133)], [(2, 135)], [(2, 137)], [(3, 1)], [(6, 19)], [(6, 31)], [(2, 175)], [(2, 176)], [(2, 177)], [(4, 85), (1, 22)], [], [(4, 178), (1, 23)], [], [(3, 85), (1, 16)], [], [(4, 234)]]
set_option maxRecDepth 100000 in
theorem cb_9 : (cp_9.zip ch_9).all (am_cb RX9) = true := by decide +kernel
theorem cl_9 : cp_9.length = ch_9.length := by decide +kernel
def ch_10 : List (List (Nat × Nat)) := [[(6, 60)], [(6, 61)], [(6, 68)], [(6, 69)], [(6, 70)], [(6, 71)], [(6, 72)], [(6, 73)], [(6, 74)], [(6, 75)], [(6, 76)], [(6, 77)], [(6, 78)], [(6, 79)], [(6, 80)], [(6, 81)], [(6, 82)], [(6, 83)], [(6, 103)], [(6, 104)], [(6, 105)], [(6, 106)], [(6, 107)], [(6, 114)], [(6, 115)], [(6, 116)], [(6, 119)], [(6, 121)], [(6, 123)], [(6, 124)], [(6, 49)], [(6, 53)], [(6, 62)], [(6, 65)], [(6, 66)], [(6, 64)], [(6, 63)], [(7, 47)], [(7, 55)], [(7, 62)], [(7, 63)], [(7, 39)], [(7, 92)], [(7, 76)], [(6, 67)], [(6, 84)], [(6, 85)], [(6, 86)], [(6, 87)], [(6, 88)], [(6, 89)], [(6, 90)], [(6, 91)], [(6, 92)], [(6, 93)], [(6, 94)], [(6, 95)], [(6, 96)], [(6, 97)], [(6, 98)], [(6, 99)], [(6, 100)], [(6, 101)], [(6, 102)], [(6, 120)], [(6, 125)], [(6, 57)], [(7, 88)], [], [(7, 59)], [(7, 99)], [], [], [], [], [], [], [], [], [(7, 31)], [(7, 35)], [(7, 43)], [(7, 51)], [], [(7, 64)], [(7, 80)], [(7, 84)], [(7, 95)], [(7, 103)], [(7, 107)], [(7, 115)], [(7, 122)], [(6, 109)], [(6, 108)], [(7, 158)], [(7, 161)], [(7, 150)], [(7, 164)], [(7, 168)], [(7, 154)], [(7, 142)], [(7, 146)], [(7, 180)], [(6, 110)], [(6, 112)], [(6, 113)], [(6, 111)], [(7, 188)], [(7, 200)], [(7, 196)], [(7, 215)], [(7, 212)], [(7, 222)], [(7, 234)], [(7, 238)], [(8, 14)], [(8, 10)], [(8, 6)], [(8, 30)], [(6, 117)], [(6, 118)], [(8, 44)], [(8, 37)], [(8, 40)], [(8, 52)], [(8, 60)], [(8, 83)], [(6, 122)], [(8, 79)], [(8, 75)], [(8, 115)], [(8, 111)]]
set_option maxRecDepth 100000 in
theorem cb_10 : (cp_10.zip ch_10).all (am_cb RX10) = true := by decide +kernel
theorem cl_10 : cp_10.length = ch_10.length := by decide +kernel
def ch_11 : List (List (Nat × Nat)) := [[(8, 149)], [(8, 150)], [(3, 202)], [(3, 198)], [(3, 208)], [(3, 212)], [(3, 218)], [(3, 220)]]
set_option maxRecDepth 100000 in
theorem cb_11 : (cp_11.zip ch_11).all (am_cb RJ0) = true := by decide +kernel
theorem cl_11 : cp_11.length = ch_11.length := by decide +kernel
def ch_12 : List (List (Nat × Nat)) := [[(3, 215)]]
set_option maxRecDepth 100000 in
theorem cb_12 : (cp_12.zip ch_12).all (am_cb RJ1) = true := by decide +kernel
theorem cl_12 : cp_12.length = ch_12.length := by decide +kernel
def ch_13 : List (List (Nat × Nat)) := []
set_option maxRecDepth 100000 in
theorem cb_13 : (cp_13.zip ch_13).all (am_cb RJ3) = true := by decide +kernel
theorem cl_13 : cp_13.length = ch_13.length := by decide +kernel
def ch_14 : List (List (Nat × Nat)) := [[], [], []]
set_option maxRecDepth 100000 in
theorem cb_14 : (cp_14.zip ch_14).all (am_cb RJ6) = true := by decide +kernel
theorem cl_14 : cp_14.length = ch_14.length := by decide +kernel
def mh_a : List (List (Nat × Nat)) := [[(5, 204), (1, 11), (5, 202), (5, 203)], [(5, 209), (1, 11), (5, 208), (0, 39)], [(5, 227), (1, 11), (5, 225), (5, 226)], [(5, 232), (1, 11), (5, 231), (0, 40)], [(5, 236), (1, 11), (5, 235), (0, 41)], [(6, 3), (1, 11), (6, 2), (0, 42)], [(5, 19), (1, 9), (5, 17), (5, 18)], [(5, 31), (1, 9), (5, 29), (5, 30)], [(5, 40), (1, 9), (5, 39), (0, 29)], [(5, 45), (1, 9), (5, 44), (0, 30)], [(5, 65), (1, 9), (5, 63), (5, 64)], [(5, 69), (1, 9), (5, 68), (0, 31)], [(5, 77), (1, 9), (5, 76), (0, 33)], [(5, 73), (1, 9), (5, 72), (0, 32)], [(5, 81), (1, 9), (5, 80), (0, 34)], [(5, 85), (1, 9), (5, 84), (0, 35)], [(5, 89), (1, 9), (5, 88), (0, 36)], [(5, 93), (1, 9), (5, 92), (0, 37)], [(3, 163), (1, 4), (3, 161), (3, 162)], [(3, 49), (1, 4), (3, 47), (3, 48)], [(5, 35), (1, 4), (5, 33), (5, 34)], [(5, 49), (1, 4), (5, 47), (5, 48)], [(5, 54), (1, 4), (5, 52), (5, 53)], [(4, 209), (1, 7), (4, 207), (4, 208)], [(4, 216), (1, 7), (4, 215), (0, 28)], [(5, 7), (1, 7), (5, 5), (5, 6)], [(6, 34), (1, 7), (6, 32), (6, 33)], [(5, 104), (1, 7), (5, 102), (5, 103)], [(5, 117), (1, 7), (5, 115), (5, 116)], [(5, 128), (1, 7), (5, 126), (5, 127)], [(3, 159), (1, 2), (3, 157), (3, 158)], [(4, 64), (1, 2), (4, 62), (4, 63)], [(3, 155), (1, 5), (3, 153), (3, 154)], [(3, 172), (1, 5), (3, 171), (0, 8)], [(4, 17), (1, 5), (4, 16), (0, 13)], [(4, 9), (1, 5), (4, 8), (0, 12)], [(4, 21), (1, 5), (4, 20), (0, 14)], [(4, 29), (1, 5), (4, 28), (0, 16)], [(4, 38), (1, 5), (4, 37), (0, 18)], [(4, 34), (1, 5), (4, 33), (0, 17)], [(4, 51), (1, 5), (4, 50), (0, 19)], [(4, 56), (1, 5), (4, 55), (0, 20)], [(4, 60), (1, 5), (4, 59), (0, 21)], [(4, 25), (1, 5), (4, 24), (0, 15)], [(3, 176), (1, 5), (3, 175), (0, 9)], [(3, 193), (1, 5), (3, 192), (0, 10)], [(3, 179), (1, 5), (3, 178)], [(3, 168), (1, 5), (3, 167), (0, 7)], [(4, 5), (1, 5), (4, 4), (0, 11)], [(3, 15), (1, 6), (3, 13), (3, 14)], [(3, 19), (1, 6), (3, 18), (0, 2)], [(3, 27), (1, 6), (3, 26), (0, 3)], [(4, 146), (1, 6), (4, 144), (4, 145)], [(4, 161), (1, 6), (4, 159), (4, 160)], [(4, 165), (1, 6), (4, 164), (0, 25)], [(6, 38), (1, 6), (6, 36), (6, 37)], [(5, 215), (1, 6), (5, 213), (5, 214)], [(3, 4), (1, 6), (3, 2), (3, 3)], [(6, 22), (1, 6), (6, 20), (6, 21)], [(3, 8), (1, 6), (3, 7), (0, 1)], [(5, 146), (1, 10), (5, 144), (5, 145)], [(5, 152), (1, 10), (5, 150), (5, 151)], [(5, 163), (1, 10), (5, 161), (5, 162)], [(5, 176), (1, 10), (5, 174), (5, 175)], [(4, 13), (1, 3), (4, 11), (4, 12)], [(4, 42), (1, 3), (4, 40), (4, 41)], [(3, 39), (1, 3), (3, 38), (0, 4)], [(3, 35), (1, 3), (3, 33), (3, 34)], [(4, 47), (1, 3), (4, 45), (4, 46)], [(3, 31), (1, 3), (3, 29), (3, 30)], [(3, 56), (1, 3), (3, 54), (3, 55)], [(2, 224), (1, 1), (2, 222), (2, 223)], [(3, 80), (1, 1), (3, 78), (3, 79)], [(2, 232), (1, 1), (2, 230), (2, 231)], [(4, 72), (1, 1), (4, 70), (4, 71)], [(4, 80), (1, 1), (4, 78), (4, 79)], [(4, 108), (1, 1), (4, 106), (4, 107)], [(4, 115), (1, 1), (4, 113), (4, 114)], [(4, 122), (1, 1), (4, 120), (4, 121)], [(4, 130), (1, 1), (4, 128), (4, 129)], [(4, 142), (1, 1), (4, 140), (4, 141)], [(4, 153), (1, 1), (4, 151), (4, 152)], [(4, 173), (1, 1), (4, 171), (4, 172)], [(4, 201), (1, 1), (4, 199), (4, 200)], [(4, 223), (1, 1), (4, 221), (4, 222)], [(4, 230), (1, 1), (4, 228), (4, 229)], [(5, 3), (1, 1), (5, 1), (5, 2)], [(5, 15), (1, 1), (5, 13), (5, 14)], [(5, 27), (1, 1), (5, 25), (5, 26)], [(5, 61), (1, 1), (5, 59), (5, 60)], [(5, 100), (1, 1), (5, 98), (5, 99)], [(5, 113), (1, 1), (5, 111), (5, 112)], [(5, 124), (1, 1), (5, 122), (5, 123)], [(5, 138), (1, 1), (5, 136), (5, 137)], [(5, 159), (1, 1), (5, 157), (5, 158)], [(5, 172), (1, 1), (5, 170), (5, 171)], [(5, 190), (1, 1), (5, 188), (5, 189)], [(2, 236), (1, 1), (2, 234), (2, 235)], [(5, 200), (1, 1), (5, 198), (5, 199)], [(5, 223), (1, 1), (5, 221), (5, 222)], [(6, 11), (1, 1), (6, 9), (6, 10)], [(3, 0), (1, 1), (2, 238), (2, 239)], [(6, 18), (1, 1), (6, 16), (6, 17)], [(6, 30), (1, 1), (6, 28), (6, 29)], [(3, 45), (1, 1), (3, 43), (3, 44)], [(3, 64), (1, 1), (3, 62), (3, 63)], [(3, 68), (1, 1), (3, 66), (3, 67)], [(3, 72), (1, 1), (3, 70), (3, 71)], [(2, 228), (1, 1), (2, 227), (0, 0)], [(4, 84), (1, 1), (4, 83), (0, 22)], [(4, 177), (1, 1), (4, 176), (0, 26)], [(3, 84), (1, 1), (3, 83), (0, 5)], [(4, 134), (1, 1), (4, 133), (0, 23)], [(4, 157), (1, 1), (4, 156), (0, 24)], [(5, 142), (1, 1), (5, 141), (0, 38)], [(4, 205), (1, 1), (4, 204), (0, 27)], [(3, 11), (1, 1), (3, 10)], [(4, 233), (1, 1), (4, 232)], [(4, 236), (1, 1), (4, 235)], [(6, 42), (1, 12), (6, 40), (6, 41)], [(7, 34), (1, 12), (7, 33), (0, 45)], [(7, 117), (1, 12), (7, 116)], [(7, 22), (1, 12), (7, 20), (7, 21)], [(7, 42), (1, 12), (7, 41), (0, 47)], [(7, 79), (1, 12), (7, 78), (0, 51)], [(7, 50), (1, 12), (7, 49), (0, 49)], [(7, 57), (1, 12), (7, 56)], [(7, 94), (1, 12), (7, 93)], [(7, 54), (1, 12), (7, 53), (0, 50)], [(7, 61), (1, 12), (7, 60)], [(7, 87), (1, 12), (7, 86), (0, 53)], [(7, 91), (1, 12), (7, 90), (0, 54)], [(7, 106), (1, 12), (7, 105), (0, 57)], [(7, 46), (1, 12), (7, 45), (0, 48)], [(7, 38), (1, 12), (7, 37), (0, 46)], [(7, 110), (1, 12), (7, 109), (0, 58)], [(7, 26), (1, 12), (7, 24), (7, 25)], [(6, 52), (1, 12), (6, 51), (0, 43)], [(6, 59), (1, 12), (6, 58)], [(6, 56), (1, 12), (6, 55), (0, 44)], [(7, 102), (1, 12), (7, 101), (0, 56)], [(7, 98), (1, 12), (7, 97), (0, 55)], [(7, 66), (1, 12), (7, 65)], [(7, 83), (1, 12), (7, 82), (0, 52)], [(7, 30), (1, 12), (7, 28), (7, 29)], [(7, 114), (1, 12), (7, 112), (7, 113)], [(7, 125), (1, 12), (7, 124), (0, 59)], [(7, 191), (1, 12), (7, 190), (0, 67)], [(7, 121), (1, 12), (7, 119), (7, 120)], [(7, 129), (1, 12), (7, 127), (7, 128)], [(7, 133), (1, 12), (7, 131), (7, 132)], [(7, 137), (1, 12), (7, 135), (7, 136)], [(7, 160), (1, 12), (7, 159)], [(7, 163), (1, 12), (7, 162)], [(7, 171), (1, 12), (7, 170), (0, 65)], [(7, 153), (1, 12), (7, 152), (0, 62)], [(7, 167), (1, 12), (7, 166), (0, 64)], [(7, 157), (1, 12), (7, 156), (0, 63)], [(7, 149), (1, 12), (7, 148), (0, 61)], [(7, 145), (1, 12), (7, 144), (0, 60)], [(7, 141), (1, 12), (7, 139), (7, 140)], [(7, 175), (1, 12), (7, 173), (7, 174)], [(7, 183), (1, 12), (7, 182), (0, 66)], [(7, 179), (1, 12), (7, 177), (7, 178)], [(7, 203), (1, 12), (7, 202), (0, 69)], [(7, 187), (1, 12), (7, 185), (7, 186)], [(7, 199), (1, 12), (7, 198), (0, 68)], [(7, 195), (1, 12), (7, 193), (7, 194)], [(7, 207), (1, 12), (7, 205), (7, 206)], [(7, 217), (1, 12), (7, 216)], [(7, 214), (1, 12), (7, 213)], [(7, 211), (1, 12), (7, 209), (7, 210)], [(7, 225), (1, 12), (7, 224), (0, 70)], [(7, 221), (1, 12), (7, 219), (7, 220)], [(7, 229), (1, 12), (7, 227), (7, 228)], [(7, 237), (1, 12), (7, 236), (0, 71)], [(8, 1), (1, 12), (8, 0), (0, 72)], [(7, 233), (1, 12), (7, 231), (7, 232)], [(8, 17), (1, 12), (8, 16), (0, 75)], [(8, 13), (1, 12), (8, 12), (0, 74)], [(8, 9), (1, 12), (8, 8), (0, 73)], [(8, 5), (1, 12), (8, 3), (8, 4)], [(8, 21), (1, 12), (8, 19), (8, 20)], [(8, 25), (1, 12), (8, 23), (8, 24)], [(8, 32), (1, 12), (8, 31)], [(8, 29), (1, 12), (8, 27), (8, 28)], [(8, 43), (1, 12), (8, 42), (0, 76)], [(8, 47), (1, 12), (8, 46), (0, 77)], [(8, 55), (1, 12), (8, 54), (0, 78)], [(8, 39), (1, 12), (8, 38)], [(8, 36), (1, 12), (8, 34), (8, 35)], [(8, 51), (1, 12), (8, 49), (8, 50)], [(8, 62), (1, 12), (8, 61)], [(8, 59), (1, 12), (8, 57), (8, 58)], [(8, 66), (1, 12), (8, 64), (8, 65)], [(8, 70), (1, 12), (8, 68), (8, 69)], [(8, 86), (1, 12), (8, 85), (0, 81)], [(8, 82), (1, 12), (8, 81), (0, 80)], [(8, 78), (1, 12), (8, 77), (0, 79)], [(8, 74), (1, 12), (8, 72), (8, 73)], [(8, 90), (1, 12), (8, 88), (8, 89)], [(8, 94), (1, 12), (8, 92), (8, 93)], [(8, 98), (1, 12), (8, 96), (8, 97)], [(8, 102), (1, 12), (8, 100), (8, 101)], [(8, 106), (1, 12), (8, 104), (8, 105)], [(8, 118), (1, 12), (8, 117), (0, 83)], [(8, 114), (1, 12), (8, 113), (0, 82)], [(8, 110), (1, 12), (8, 108), (8, 109)], [(8, 122), (1, 12), (8, 120), (8, 121)], [(8, 126), (1, 12), (8, 124), (8, 125)], [(8, 130), (1, 12), (8, 128), (8, 129)], [(3, 197), (1, 17), (3, 195), (3, 196)], [(3, 207), (1, 17), (3, 205), (3, 206)], [(3, 201), (1, 17), (3, 199), (3, 200)], [(3, 211), (1, 17), (3, 209), (3, 210)], [(3, 217), (1, 17), (3, 216)], [(3, 214), (1, 18), (3, 213)], [(3, 222), (1, 19), (3, 221)], [(5, 131), (1, 24), (5, 130)], [(5, 179), (1, 24), (5, 178)]]
set_option maxRecDepth 100000 in
theorem mb_a : (am_ms.zip mh_a).all am_mb = true := by decide +kernel
def am_cw (e : am_Me) : Prop := Cond.code (am_y e) (am_code e) (am_mL e) (am_rt e) ∈ am_gw
theorem am_cw_of {e : am_Me} (t i : Nat) (h : am_nth (am_tb t) i = some (.code (am_y e) (am_code e) (am_mL e) (am_rt e))) : am_cw e := List.mem_filter.mpr ⟨am_tb_in _ _ (am_nth_in _ _ _ h), rfl⟩
theorem mc_X0_findSets : am_cw me_X0_findSets := am_cw_of 5 204 rfl
theorem mc_X0_bookIsSo : am_cw me_X0_bookIsSo := am_cw_of 5 209 rfl
theorem mc_X0_findQuestion : am_cw me_X0_findQuestion := am_cw_of 5 227 rfl
theorem mc_X0_leftAtWorst : am_cw me_X0_leftAtWorst := am_cw_of 5 232 rfl
theorem mc_X0_maybesReached : am_cw me_X0_maybesReached := am_cw_of 5 236 rfl
theorem mc_X0_countWith : am_cw me_X0_countWith := am_cw_of 6 3 rfl
theorem mc_X1_gainBy : am_cw me_X1_gainBy := am_cw_of 5 19 rfl
theorem mc_X1_findLeastBuilding : am_cw me_X1_findLeastBuilding := am_cw_of 5 31 rfl
theorem mc_X1_costOf : am_cw me_X1_costOf := am_cw_of 5 40 rfl
theorem mc_X1_mostWith : am_cw me_X1_mostWith := am_cw_of 5 45 rfl
theorem mc_X1_findRests : am_cw me_X1_findRests := am_cw_of 5 65 rfl
theorem mc_X1_fillWorths : am_cw me_X1_fillWorths := am_cw_of 5 69 rfl
theorem mc_X1_isOpen : am_cw me_X1_isOpen := am_cw_of 5 77 rfl
theorem mc_X1_isRest : am_cw me_X1_isRest := am_cw_of 5 73 rfl
theorem mc_X1_hasBetter : am_cw me_X1_hasBetter := am_cw_of 5 81 rfl
theorem mc_X1_outcome : am_cw me_X1_outcome := am_cw_of 5 85 rfl
theorem mc_X1_digitsOfChoices : am_cw me_X1_digitsOfChoices := am_cw_of 5 89 rfl
theorem mc_X1_nextRow : am_cw me_X1_nextRow := am_cw_of 5 93 rfl
theorem mc_X2_clear : am_cw me_X2_clear := am_cw_of 3 163 rfl
theorem mc_X2_take : am_cw me_X2_take := am_cw_of 3 49 rfl
theorem mc_X2_bare : am_cw me_X2_bare := am_cw_of 5 35 rfl
theorem mc_X2_raise : am_cw me_X2_raise := am_cw_of 5 49 rfl
theorem mc_X2_lower : am_cw me_X2_lower := am_cw_of 5 54 rfl
theorem mc_X3_survey : am_cw me_X3_survey := am_cw_of 4 209 rfl
theorem mc_X3_noteCount : am_cw me_X3_noteCount := am_cw_of 4 216 rfl
theorem mc_X3_worthBy : am_cw me_X3_worthBy := am_cw_of 5 7 rfl
theorem mc_X3_mostForDeaf : am_cw me_X3_mostForDeaf := am_cw_of 6 34 rfl
theorem mc_X3_fairPart : am_cw me_X3_fairPart := am_cw_of 5 104 rfl
theorem mc_X3_bestTrade : am_cw me_X3_bestTrade := am_cw_of 5 117 rfl
theorem mc_X3_unlikePairs : am_cw me_X3_unlikePairs := am_cw_of 5 128 rfl
theorem mc_X4_clear : am_cw me_X4_clear := am_cw_of 3 159 rfl
theorem mc_X4_take : am_cw me_X4_take := am_cw_of 4 64 rfl
theorem mc_X5_readAll : am_cw me_X5_readAll := am_cw_of 3 155 rfl
theorem mc_X5_readKind : am_cw me_X5_readKind := am_cw_of 3 172 rfl
theorem mc_X5_readNumbers : am_cw me_X5_readNumbers := am_cw_of 4 17 rfl
theorem mc_X5_isFull : am_cw me_X5_isFull := am_cw_of 4 9 rfl
theorem mc_X5_readSize : am_cw me_X5_readSize := am_cw_of 4 21 rfl
theorem mc_X5_readThing : am_cw me_X5_readThing := am_cw_of 4 29 rfl
theorem mc_X5_readPlace : am_cw me_X5_readPlace := am_cw_of 4 38 rfl
theorem mc_X5_readPlaceWith : am_cw me_X5_readPlaceWith := am_cw_of 4 34 rfl
theorem mc_X5_readField : am_cw me_X5_readField := am_cw_of 4 51 rfl
theorem mc_X5_readSeason : am_cw me_X5_readSeason := am_cw_of 4 56 rfl
theorem mc_X5_readEnd : am_cw me_X5_readEnd := am_cw_of 4 60 rfl
theorem mc_X5_readNumber : am_cw me_X5_readNumber := am_cw_of 4 25 rfl
theorem mc_X5_readWord : am_cw me_X5_readWord := am_cw_of 3 176 rfl
theorem mc_X5_isWord : am_cw me_X5_isWord := am_cw_of 3 193 rfl
theorem mc_X5_wordOf : am_cw me_X5_wordOf := am_cw_of 3 179 rfl
theorem mc_X5_skipBlanks : am_cw me_X5_skipBlanks := am_cw_of 3 168 rfl
theorem mc_X5_refuse : am_cw me_X5_refuse := am_cw_of 4 5 rfl
theorem mc_X6_shout : am_cw me_X6_shout := am_cw_of 3 15 rfl
theorem mc_X6_follow : am_cw me_X6_follow := am_cw_of 3 19 rfl
theorem mc_X6_addEcho : am_cw me_X6_addEcho := am_cw_of 3 27 rfl
theorem mc_X6_tellEcho : am_cw me_X6_tellEcho := am_cw_of 4 146 rfl
theorem mc_X6_countBy : am_cw me_X6_countBy := am_cw_of 4 161 rfl
theorem mc_X6_countTimes : am_cw me_X6_countTimes := am_cw_of 4 165 rfl
theorem mc_X6_countStrong : am_cw me_X6_countStrong := am_cw_of 6 38 rfl
theorem mc_X6_countAt : am_cw me_X6_countAt := am_cw_of 5 215 rfl
theorem mc_X6_snowsFalling : am_cw me_X6_snowsFalling := am_cw_of 3 4 rfl
theorem mc_X6_greatestHush : am_cw me_X6_greatestHush := am_cw_of 6 22 rfl
theorem mc_X6_shoutForPeaks : am_cw me_X6_shoutForPeaks := am_cw_of 3 8 rfl
theorem mc_X7_listen : am_cw me_X7_listen := am_cw_of 5 146 rfl
theorem mc_X7_strengthOfSong : am_cw me_X7_strengthOfSong := am_cw_of 5 152 rfl
theorem mc_X7_findPeak : am_cw me_X7_findPeak := am_cw_of 5 163 rfl
theorem mc_X7_bestSong : am_cw me_X7_bestSong := am_cw_of 5 176 rfl
theorem mc_X8_isFull : am_cw me_X8_isFull := am_cw_of 4 13 rfl
theorem mc_X8_open : am_cw me_X8_open := am_cw_of 4 42 rfl
theorem mc_X8_has : am_cw me_X8_has := am_cw_of 3 39 rfl
theorem mc_X8_at : am_cw me_X8_at := am_cw_of 3 35 rfl
theorem mc_X8_put : am_cw me_X8_put := am_cw_of 4 47 rfl
theorem mc_X8_cellAt : am_cw me_X8_cellAt := am_cw_of 3 31 rfl
theorem mc_X8_take : am_cw me_X8_take := am_cw_of 3 56 rfl
theorem mc_X9_feed : am_cw me_X9_feed := am_cw_of 2 224 rfl
theorem mc_X9_valley : am_cw me_X9_valley := am_cw_of 3 80 rfl
theorem mc_X9_fault : am_cw me_X9_fault := am_cw_of 2 232 rfl
theorem mc_X9_told : am_cw me_X9_told := am_cw_of 4 72 rfl
theorem mc_X9_cell : am_cw me_X9_cell := am_cw_of 4 80 rfl
theorem mc_X9_build : am_cw me_X9_build := am_cw_of 4 108 rfl
theorem mc_X9_fell : am_cw me_X9_fell := am_cw_of 4 115 rfl
theorem mc_X9_years : am_cw me_X9_years := am_cw_of 4 122 rfl
theorem mc_X9_echoes : am_cw me_X9_echoes := am_cw_of 4 130 rfl
theorem mc_X9_echo : am_cw me_X9_echo := am_cw_of 4 142 rfl
theorem mc_X9_count : am_cw me_X9_count := am_cw_of 4 153 rfl
theorem mc_X9_field : am_cw me_X9_field := am_cw_of 4 173 rfl
theorem mc_X9_most : am_cw me_X9_most := am_cw_of 4 201 rfl
theorem mc_X9_least : am_cw me_X9_least := am_cw_of 4 223 rfl
theorem mc_X9_mean : am_cw me_X9_mean := am_cw_of 4 230 rfl
theorem mc_X9_worth : am_cw me_X9_worth := am_cw_of 5 3 rfl
theorem mc_X9_gain : am_cw me_X9_gain := am_cw_of 5 15 rfl
theorem mc_X9_building : am_cw me_X9_building := am_cw_of 5 27 rfl
theorem mc_X9_rests : am_cw me_X9_rests := am_cw_of 5 61 rfl
theorem mc_X9_fair : am_cw me_X9_fair := am_cw_of 5 100 rfl
theorem mc_X9_trade : am_cw me_X9_trade := am_cw_of 5 113 rfl
theorem mc_X9_unlike : am_cw me_X9_unlike := am_cw_of 5 124 rfl
theorem mc_X9_heard : am_cw me_X9_heard := am_cw_of 5 138 rfl
theorem mc_X9_loudest : am_cw me_X9_loudest := am_cw_of 5 159 rfl
theorem mc_X9_compose : am_cw me_X9_compose := am_cw_of 5 172 rfl
theorem mc_X9_book : am_cw me_X9_book := am_cw_of 5 190 rfl
theorem mc_X9_forget : am_cw me_X9_forget := am_cw_of 2 236 rfl
theorem mc_X9_explain : am_cw me_X9_explain := am_cw_of 5 200 rfl
theorem mc_X9_ask : am_cw me_X9_ask := am_cw_of 5 223 rfl
theorem mc_X9_snows : am_cw me_X9_snows := am_cw_of 6 11 rfl
theorem mc_X9_safe : am_cw me_X9_safe := am_cw_of 3 0 rfl
theorem mc_X9_hush : am_cw me_X9_hush := am_cw_of 6 18 rfl
theorem mc_X9_deaf : am_cw me_X9_deaf := am_cw_of 6 30 rfl
theorem mc_X9_image : am_cw me_X9_image := am_cw_of 3 45 rfl
theorem mc_X9_restore : am_cw me_X9_restore := am_cw_of 3 64 rfl
theorem mc_X9_status : am_cw me_X9_status := am_cw_of 3 68 rfl
theorem mc_X9_sums : am_cw me_X9_sums := am_cw_of 3 72 rfl
theorem mc_X9_putOnTape : am_cw me_X9_putOnTape := am_cw_of 2 228 rfl
theorem mc_X9_needCell : am_cw me_X9_needCell := am_cw_of 4 84 rfl
theorem mc_X9_needField : am_cw me_X9_needField := am_cw_of 4 177 rfl
theorem mc_X9_needBetween : am_cw me_X9_needBetween := am_cw_of 3 84 rfl
theorem mc_X9_needFog : am_cw me_X9_needFog := am_cw_of 4 134 rfl
theorem mc_X9_needLaw : am_cw me_X9_needLaw := am_cw_of 4 157 rfl
theorem mc_X9_needNotes : am_cw me_X9_needNotes := am_cw_of 5 142 rfl
theorem mc_X9_needSurvey : am_cw me_X9_needSurvey := am_cw_of 4 205 rfl
theorem mc_X9_cellOf : am_cw me_X9_cellOf := am_cw_of 3 11 rfl
theorem mc_X9_partOfFraction : am_cw me_X9_partOfFraction := am_cw_of 4 233 rfl
theorem mc_X9_commonDivisor : am_cw me_X9_commonDivisor := am_cw_of 4 236 rfl
theorem mc_X10_thrown : am_cw me_X10_thrown := am_cw_of 6 42 rfl
theorem mc_X10_may : am_cw me_X10_may := am_cw_of 7 34 rfl
theorem mc_X10_within : am_cw me_X10_within := am_cw_of 7 117 rfl
theorem mc_X10_feed : am_cw me_X10_feed := am_cw_of 7 22 rfl
theorem mc_X10_fine : am_cw me_X10_fine := am_cw_of 7 42 rfl
theorem mc_X10_wrong : am_cw me_X10_wrong := am_cw_of 7 79 rfl
theorem mc_X10_here : am_cw me_X10_here := am_cw_of 7 50 rfl
theorem mc_X10_isSmall : am_cw me_X10_isSmall := am_cw_of 7 57 rfl
theorem mc_X10_isDigit : am_cw me_X10_isDigit := am_cw_of 7 94 rfl
theorem mc_X10_word : am_cw me_X10_word := am_cw_of 7 54 rfl
theorem mc_X10_of : am_cw me_X10_of := am_cw_of 7 61 rfl
theorem mc_X10_pass : am_cw me_X10_pass := am_cw_of 7 87 rfl
theorem mc_X10_readNumber : am_cw me_X10_readNumber := am_cw_of 7 91 rfl
theorem mc_X10_sign : am_cw me_X10_sign := am_cw_of 7 106 rfl
theorem mc_X10_isMore : am_cw me_X10_isMore := am_cw_of 7 46 rfl
theorem mc_X10_begins : am_cw me_X10_begins := am_cw_of 7 38 rfl
theorem mc_X10_result : am_cw me_X10_result := am_cw_of 7 110 rfl
theorem mc_X10_fault : am_cw me_X10_fault := am_cw_of 7 26 rfl
theorem mc_X10_clears : am_cw me_X10_clears := am_cw_of 6 52 rfl
theorem mc_X10_copies : am_cw me_X10_copies := am_cw_of 6 59 rfl
theorem mc_X10_sets : am_cw me_X10_sets := am_cw_of 6 56 rfl
theorem mc_X10_readCell : am_cw me_X10_readCell := am_cw_of 7 102 rfl
theorem mc_X10_readOther : am_cw me_X10_readOther := am_cw_of 7 98 rfl
theorem mc_X10_isOther : am_cw me_X10_isOther := am_cw_of 7 66 rfl
theorem mc_X10_isFull : am_cw me_X10_isFull := am_cw_of 7 83 rfl
theorem mc_X10_valley : am_cw me_X10_valley := am_cw_of 7 30 rfl
theorem mc_X10_told : am_cw me_X10_told := am_cw_of 7 114 rfl
theorem mc_X10_isCell : am_cw me_X10_isCell := am_cw_of 7 125 rfl
theorem mc_X10_isField : am_cw me_X10_isField := am_cw_of 7 191 rfl
theorem mc_X10_cell : am_cw me_X10_cell := am_cw_of 7 121 rfl
theorem mc_X10_build : am_cw me_X10_build := am_cw_of 7 129 rfl
theorem mc_X10_fell : am_cw me_X10_fell := am_cw_of 7 133 rfl
theorem mc_X10_years : am_cw me_X10_years := am_cw_of 7 137 rfl
theorem mc_X10_across : am_cw me_X10_across := am_cw_of 7 160 rfl
theorem mc_X10_down : am_cw me_X10_down := am_cw_of 7 163 rfl
theorem mc_X10_hard : am_cw me_X10_hard := am_cw_of 7 171 rfl
theorem mc_X10_falls : am_cw me_X10_falls := am_cw_of 7 153 rfl
theorem mc_X10_puts : am_cw me_X10_puts := am_cw_of 7 167 rfl
theorem mc_X10_goes : am_cw me_X10_goes := am_cw_of 7 157 rfl
theorem mc_X10_shouts : am_cw me_X10_shouts := am_cw_of 7 149 rfl
theorem mc_X10_isFog : am_cw me_X10_isFog := am_cw_of 7 145 rfl
theorem mc_X10_echoes : am_cw me_X10_echoes := am_cw_of 7 141 rfl
theorem mc_X10_echo : am_cw me_X10_echo := am_cw_of 7 175 rfl
theorem mc_X10_countOf : am_cw me_X10_countOf := am_cw_of 7 183 rfl
theorem mc_X10_count : am_cw me_X10_count := am_cw_of 7 179 rfl
theorem mc_X10_findField : am_cw me_X10_findField := am_cw_of 7 203 rfl
theorem mc_X10_field : am_cw me_X10_field := am_cw_of 7 187 rfl
theorem mc_X10_foundOf : am_cw me_X10_foundOf := am_cw_of 7 199 rfl
theorem mc_X10_most : am_cw me_X10_most := am_cw_of 7 195 rfl
theorem mc_X10_least : am_cw me_X10_least := am_cw_of 7 207 rfl
theorem mc_X10_divisor : am_cw me_X10_divisor := am_cw_of 7 217 rfl
theorem mc_X10_fraction : am_cw me_X10_fraction := am_cw_of 7 214 rfl
theorem mc_X10_mean : am_cw me_X10_mean := am_cw_of 7 211 rfl
theorem mc_X10_worthBy : am_cw me_X10_worthBy := am_cw_of 7 225 rfl
theorem mc_X10_worth : am_cw me_X10_worth := am_cw_of 7 221 rfl
theorem mc_X10_gain : am_cw me_X10_gain := am_cw_of 7 229 rfl
theorem mc_X10_openSites : am_cw me_X10_openSites := am_cw_of 7 237 rfl
theorem mc_X10_stands : am_cw me_X10_stands := am_cw_of 8 1 rfl
theorem mc_X10_building : am_cw me_X10_building := am_cw_of 7 233 rfl
theorem mc_X10_barns : am_cw me_X10_barns := am_cw_of 8 17 rfl
theorem mc_X10_gets : am_cw me_X10_gets := am_cw_of 8 13 rfl
theorem mc_X10_isRest : am_cw me_X10_isRest := am_cw_of 8 9 rfl
theorem mc_X10_rests : am_cw me_X10_rests := am_cw_of 8 5 rfl
theorem mc_X10_fair : am_cw me_X10_fair := am_cw_of 8 21 rfl
theorem mc_X10_trade : am_cw me_X10_trade := am_cw_of 8 25 rfl
theorem mc_X10_sideOf : am_cw me_X10_sideOf := am_cw_of 8 32 rfl
theorem mc_X10_unlike : am_cw me_X10_unlike := am_cw_of 8 29 rfl
theorem mc_X10_listens : am_cw me_X10_listens := am_cw_of 8 43 rfl
theorem mc_X10_heardAt : am_cw me_X10_heardAt := am_cw_of 8 47 rfl
theorem mc_X10_findLoudest : am_cw me_X10_findLoudest := am_cw_of 8 55 rfl
theorem mc_X10_areNotes : am_cw me_X10_areNotes := am_cw_of 8 39 rfl
theorem mc_X10_heard : am_cw me_X10_heard := am_cw_of 8 36 rfl
theorem mc_X10_loudest : am_cw me_X10_loudest := am_cw_of 8 51 rfl
theorem mc_X10_ones : am_cw me_X10_ones := am_cw_of 8 62 rfl
theorem mc_X10_compose : am_cw me_X10_compose := am_cw_of 8 59 rfl
theorem mc_X10_book : am_cw me_X10_book := am_cw_of 8 66 rfl
theorem mc_X10_forget : am_cw me_X10_forget := am_cw_of 8 70 rfl
theorem mc_X10_wonders : am_cw me_X10_wonders := am_cw_of 8 86 rfl
theorem mc_X10_explains : am_cw me_X10_explains := am_cw_of 8 82 rfl
theorem mc_X10_findSo : am_cw me_X10_findSo := am_cw_of 8 78 rfl
theorem mc_X10_explain : am_cw me_X10_explain := am_cw_of 8 74 rfl
theorem mc_X10_ask : am_cw me_X10_ask := am_cw_of 8 90 rfl
theorem mc_X10_snows : am_cw me_X10_snows := am_cw_of 8 94 rfl
theorem mc_X10_safe : am_cw me_X10_safe := am_cw_of 8 98 rfl
theorem mc_X10_hush : am_cw me_X10_hush := am_cw_of 8 102 rfl
theorem mc_X10_deaf : am_cw me_X10_deaf := am_cw_of 8 106 rfl
theorem mc_X10_keeps : am_cw me_X10_keeps := am_cw_of 8 118 rfl
theorem mc_X10_keepsAll : am_cw me_X10_keepsAll := am_cw_of 8 114 rfl
theorem mc_X10_image : am_cw me_X10_image := am_cw_of 8 110 rfl
theorem mc_X10_restore : am_cw me_X10_restore := am_cw_of 8 122 rfl
theorem mc_X10_status : am_cw me_X10_status := am_cw_of 8 126 rfl
theorem mc_X10_sums : am_cw me_X10_sums := am_cw_of 8 130 rfl
theorem mc_J0_length_8abf5 : am_cw me_J0_length_8abf5 := am_cw_of 3 197 rfl
theorem mc_J0_charAt_5068e : am_cw me_J0_charAt_5068e := am_cw_of 3 207 rfl
theorem mc_J0_coder_7d493 : am_cw me_J0_coder_7d493 := am_cw_of 3 201 rfl
theorem mc_J0_isLatin1_aae02 : am_cw me_J0_isLatin1_aae02 := am_cw_of 3 211 rfl
theorem mc_J0_checkIndex_df160 : am_cw me_J0_checkIndex_df160 := am_cw_of 3 217 rfl
theorem mc_J1_charAt_3b067 : am_cw me_J1_charAt_3b067 := am_cw_of 3 214 rfl
theorem mc_J3_checkIndex_8e157 : am_cw me_J3_checkIndex_8e157 := am_cw_of 3 222 rfl
theorem mc_J6_compare_7cf53 : am_cw me_J6_compare_7cf53 := am_cw_of 5 131 rfl
theorem mc_J6_bitCount_0f7a4 : am_cw me_J6_bitCount_0f7a4 := am_cw_of 5 179 rfl
set_option maxRecDepth 100000 in
theorem mc_a : ∀ e ∈ am_ms, am_cw e := List.forall_mem_cons.mpr ⟨mc_X0_findSets, List.forall_mem_cons.mpr ⟨mc_X0_bookIsSo, List.forall_mem_cons.mpr ⟨mc_X0_findQuestion, List.forall_mem_cons.mpr ⟨mc_X0_leftAtWorst, List.forall_mem_cons.mpr ⟨mc_X0_maybesReached, List.forall_mem_cons.mpr ⟨mc_X0_countWith, List.forall_mem_cons.mpr ⟨mc_X1_gainBy, List.forall_mem_cons.mpr ⟨mc_X1_findLeastBuilding, List.forall_mem_cons.mpr ⟨mc_X1_costOf, List.forall_mem_cons.mpr ⟨mc_X1_mostWith, List.forall_mem_cons.mpr ⟨mc_X1_findRests, List.forall_mem_cons.mpr ⟨mc_X1_fillWorths, List.forall_mem_cons.mpr ⟨mc_X1_isOpen, List.forall_mem_cons.mpr ⟨mc_X1_isRest, List.forall_mem_cons.mpr ⟨mc_X1_hasBetter, List.forall_mem_cons.mpr ⟨mc_X1_outcome, List.forall_mem_cons.mpr ⟨mc_X1_digitsOfChoices, List.forall_mem_cons.mpr ⟨mc_X1_nextRow, List.forall_mem_cons.mpr ⟨mc_X2_clear, List.forall_mem_cons.mpr ⟨mc_X2_take, List.forall_mem_cons.mpr ⟨mc_X2_bare, List.forall_mem_cons.mpr ⟨mc_X2_raise, List.forall_mem_cons.mpr ⟨mc_X2_lower, List.forall_mem_cons.mpr ⟨mc_X3_survey, List.forall_mem_cons.mpr ⟨mc_X3_noteCount, List.forall_mem_cons.mpr ⟨mc_X3_worthBy, List.forall_mem_cons.mpr ⟨mc_X3_mostForDeaf, List.forall_mem_cons.mpr ⟨mc_X3_fairPart, List.forall_mem_cons.mpr ⟨mc_X3_bestTrade, List.forall_mem_cons.mpr ⟨mc_X3_unlikePairs, List.forall_mem_cons.mpr ⟨mc_X4_clear, List.forall_mem_cons.mpr ⟨mc_X4_take, List.forall_mem_cons.mpr ⟨mc_X5_readAll, List.forall_mem_cons.mpr ⟨mc_X5_readKind, List.forall_mem_cons.mpr ⟨mc_X5_readNumbers, List.forall_mem_cons.mpr ⟨mc_X5_isFull, List.forall_mem_cons.mpr ⟨mc_X5_readSize, List.forall_mem_cons.mpr ⟨mc_X5_readThing, List.forall_mem_cons.mpr ⟨mc_X5_readPlace, List.forall_mem_cons.mpr ⟨mc_X5_readPlaceWith, List.forall_mem_cons.mpr ⟨mc_X5_readField, List.forall_mem_cons.mpr ⟨mc_X5_readSeason, List.forall_mem_cons.mpr ⟨mc_X5_readEnd, List.forall_mem_cons.mpr ⟨mc_X5_readNumber, List.forall_mem_cons.mpr ⟨mc_X5_readWord, List.forall_mem_cons.mpr ⟨mc_X5_isWord, List.forall_mem_cons.mpr ⟨mc_X5_wordOf, List.forall_mem_cons.mpr ⟨mc_X5_skipBlanks, List.forall_mem_cons.mpr ⟨mc_X5_refuse, List.forall_mem_cons.mpr ⟨mc_X6_shout, List.forall_mem_cons.mpr ⟨mc_X6_follow, List.forall_mem_cons.mpr ⟨mc_X6_addEcho, List.forall_mem_cons.mpr ⟨mc_X6_tellEcho, List.forall_mem_cons.mpr ⟨mc_X6_countBy, List.forall_mem_cons.mpr ⟨mc_X6_countTimes, List.forall_mem_cons.mpr ⟨mc_X6_countStrong, List.forall_mem_cons.mpr ⟨mc_X6_countAt, List.forall_mem_cons.mpr ⟨mc_X6_snowsFalling, List.forall_mem_cons.mpr ⟨mc_X6_greatestHush, List.forall_mem_cons.mpr ⟨mc_X6_shoutForPeaks, List.forall_mem_cons.mpr ⟨mc_X7_listen, List.forall_mem_cons.mpr ⟨mc_X7_strengthOfSong, List.forall_mem_cons.mpr ⟨mc_X7_findPeak, List.forall_mem_cons.mpr ⟨mc_X7_bestSong, List.forall_mem_cons.mpr ⟨mc_X8_isFull, List.forall_mem_cons.mpr ⟨mc_X8_open, List.forall_mem_cons.mpr ⟨mc_X8_has, List.forall_mem_cons.mpr ⟨mc_X8_at, List.forall_mem_cons.mpr ⟨mc_X8_put, List.forall_mem_cons.mpr ⟨mc_X8_cellAt, List.forall_mem_cons.mpr ⟨mc_X8_take, List.forall_mem_cons.mpr ⟨mc_X9_feed, List.forall_mem_cons.mpr ⟨mc_X9_valley, List.forall_mem_cons.mpr ⟨mc_X9_fault, List.forall_mem_cons.mpr ⟨mc_X9_told, List.forall_mem_cons.mpr ⟨mc_X9_cell, List.forall_mem_cons.mpr ⟨mc_X9_build, List.forall_mem_cons.mpr ⟨mc_X9_fell, List.forall_mem_cons.mpr ⟨mc_X9_years, List.forall_mem_cons.mpr ⟨mc_X9_echoes, List.forall_mem_cons.mpr ⟨mc_X9_echo, List.forall_mem_cons.mpr ⟨mc_X9_count, List.forall_mem_cons.mpr ⟨mc_X9_field, List.forall_mem_cons.mpr ⟨mc_X9_most, List.forall_mem_cons.mpr ⟨mc_X9_least, List.forall_mem_cons.mpr ⟨mc_X9_mean, List.forall_mem_cons.mpr ⟨mc_X9_worth, List.forall_mem_cons.mpr ⟨mc_X9_gain, List.forall_mem_cons.mpr ⟨mc_X9_building, List.forall_mem_cons.mpr ⟨mc_X9_rests, List.forall_mem_cons.mpr ⟨mc_X9_fair, List.forall_mem_cons.mpr ⟨mc_X9_trade, List.forall_mem_cons.mpr ⟨mc_X9_unlike, List.forall_mem_cons.mpr ⟨mc_X9_heard, List.forall_mem_cons.mpr ⟨mc_X9_loudest, List.forall_mem_cons.mpr ⟨mc_X9_compose, List.forall_mem_cons.mpr ⟨mc_X9_book, List.forall_mem_cons.mpr ⟨mc_X9_forget, List.forall_mem_cons.mpr ⟨mc_X9_explain, List.forall_mem_cons.mpr ⟨mc_X9_ask, List.forall_mem_cons.mpr ⟨mc_X9_snows, List.forall_mem_cons.mpr ⟨mc_X9_safe, List.forall_mem_cons.mpr ⟨mc_X9_hush, List.forall_mem_cons.mpr ⟨mc_X9_deaf, List.forall_mem_cons.mpr ⟨mc_X9_image, List.forall_mem_cons.mpr ⟨mc_X9_restore, List.forall_mem_cons.mpr ⟨mc_X9_status, List.forall_mem_cons.mpr ⟨mc_X9_sums, List.forall_mem_cons.mpr ⟨mc_X9_putOnTape, List.forall_mem_cons.mpr ⟨mc_X9_needCell, List.forall_mem_cons.mpr ⟨mc_X9_needField, List.forall_mem_cons.mpr ⟨mc_X9_needBetween, List.forall_mem_cons.mpr ⟨mc_X9_needFog, List.forall_mem_cons.mpr ⟨mc_X9_needLaw, List.forall_mem_cons.mpr ⟨mc_X9_needNotes, List.forall_mem_cons.mpr ⟨mc_X9_needSurvey, List.forall_mem_cons.mpr ⟨mc_X9_cellOf, List.forall_mem_cons.mpr ⟨mc_X9_partOfFraction, List.forall_mem_cons.mpr ⟨mc_X9_commonDivisor, List.forall_mem_cons.mpr ⟨mc_X10_thrown, List.forall_mem_cons.mpr ⟨mc_X10_may, List.forall_mem_cons.mpr ⟨mc_X10_within, List.forall_mem_cons.mpr ⟨mc_X10_feed, List.forall_mem_cons.mpr ⟨mc_X10_fine, List.forall_mem_cons.mpr ⟨mc_X10_wrong, List.forall_mem_cons.mpr ⟨mc_X10_here, List.forall_mem_cons.mpr ⟨mc_X10_isSmall, List.forall_mem_cons.mpr ⟨mc_X10_isDigit, List.forall_mem_cons.mpr ⟨mc_X10_word, List.forall_mem_cons.mpr ⟨mc_X10_of, List.forall_mem_cons.mpr ⟨mc_X10_pass, List.forall_mem_cons.mpr ⟨mc_X10_readNumber, List.forall_mem_cons.mpr ⟨mc_X10_sign, List.forall_mem_cons.mpr ⟨mc_X10_isMore, List.forall_mem_cons.mpr ⟨mc_X10_begins, List.forall_mem_cons.mpr ⟨mc_X10_result, List.forall_mem_cons.mpr ⟨mc_X10_fault, List.forall_mem_cons.mpr ⟨mc_X10_clears, List.forall_mem_cons.mpr ⟨mc_X10_copies, List.forall_mem_cons.mpr ⟨mc_X10_sets, List.forall_mem_cons.mpr ⟨mc_X10_readCell, List.forall_mem_cons.mpr ⟨mc_X10_readOther, List.forall_mem_cons.mpr ⟨mc_X10_isOther, List.forall_mem_cons.mpr ⟨mc_X10_isFull, List.forall_mem_cons.mpr ⟨mc_X10_valley, List.forall_mem_cons.mpr ⟨mc_X10_told, List.forall_mem_cons.mpr ⟨mc_X10_isCell, List.forall_mem_cons.mpr ⟨mc_X10_isField, List.forall_mem_cons.mpr ⟨mc_X10_cell, List.forall_mem_cons.mpr ⟨mc_X10_build, List.forall_mem_cons.mpr ⟨mc_X10_fell, List.forall_mem_cons.mpr ⟨mc_X10_years, List.forall_mem_cons.mpr ⟨mc_X10_across, List.forall_mem_cons.mpr ⟨mc_X10_down, List.forall_mem_cons.mpr ⟨mc_X10_hard, List.forall_mem_cons.mpr ⟨mc_X10_falls, List.forall_mem_cons.mpr ⟨mc_X10_puts, List.forall_mem_cons.mpr ⟨mc_X10_goes, List.forall_mem_cons.mpr ⟨mc_X10_shouts, List.forall_mem_cons.mpr ⟨mc_X10_isFog, List.forall_mem_cons.mpr ⟨mc_X10_echoes, List.forall_mem_cons.mpr ⟨mc_X10_echo, List.forall_mem_cons.mpr ⟨mc_X10_countOf, List.forall_mem_cons.mpr ⟨mc_X10_count, List.forall_mem_cons.mpr ⟨mc_X10_findField, List.forall_mem_cons.mpr ⟨mc_X10_field, List.forall_mem_cons.mpr ⟨mc_X10_foundOf, List.forall_mem_cons.mpr ⟨mc_X10_most, List.forall_mem_cons.mpr ⟨mc_X10_least, List.forall_mem_cons.mpr ⟨mc_X10_divisor, List.forall_mem_cons.mpr ⟨mc_X10_fraction, List.forall_mem_cons.mpr ⟨mc_X10_mean, List.forall_mem_cons.mpr ⟨mc_X10_worthBy, List.forall_mem_cons.mpr ⟨mc_X10_worth, List.forall_mem_cons.mpr ⟨mc_X10_gain, List.forall_mem_cons.mpr ⟨mc_X10_openSites, List.forall_mem_cons.mpr ⟨mc_X10_stands, List.forall_mem_cons.mpr ⟨mc_X10_building, List.forall_mem_cons.mpr ⟨mc_X10_barns, List.forall_mem_cons.mpr ⟨mc_X10_gets, List.forall_mem_cons.mpr ⟨mc_X10_isRest, List.forall_mem_cons.mpr ⟨mc_X10_rests, List.forall_mem_cons.mpr ⟨mc_X10_fair, List.forall_mem_cons.mpr ⟨mc_X10_trade, List.forall_mem_cons.mpr ⟨mc_X10_sideOf, List.forall_mem_cons.mpr ⟨mc_X10_unlike, List.forall_mem_cons.mpr ⟨mc_X10_listens, List.forall_mem_cons.mpr ⟨mc_X10_heardAt, List.forall_mem_cons.mpr ⟨mc_X10_findLoudest, List.forall_mem_cons.mpr ⟨mc_X10_areNotes, List.forall_mem_cons.mpr ⟨mc_X10_heard, List.forall_mem_cons.mpr ⟨mc_X10_loudest, List.forall_mem_cons.mpr ⟨mc_X10_ones, List.forall_mem_cons.mpr ⟨mc_X10_compose, List.forall_mem_cons.mpr ⟨mc_X10_book, List.forall_mem_cons.mpr ⟨mc_X10_forget, List.forall_mem_cons.mpr ⟨mc_X10_wonders, List.forall_mem_cons.mpr ⟨mc_X10_explains, List.forall_mem_cons.mpr ⟨mc_X10_findSo, List.forall_mem_cons.mpr ⟨mc_X10_explain, List.forall_mem_cons.mpr ⟨mc_X10_ask, List.forall_mem_cons.mpr ⟨mc_X10_snows, List.forall_mem_cons.mpr ⟨mc_X10_safe, List.forall_mem_cons.mpr ⟨mc_X10_hush, List.forall_mem_cons.mpr ⟨mc_X10_deaf, List.forall_mem_cons.mpr ⟨mc_X10_keeps, List.forall_mem_cons.mpr ⟨mc_X10_keepsAll, List.forall_mem_cons.mpr ⟨mc_X10_image, List.forall_mem_cons.mpr ⟨mc_X10_restore, List.forall_mem_cons.mpr ⟨mc_X10_status, List.forall_mem_cons.mpr ⟨mc_X10_sums, List.forall_mem_cons.mpr ⟨mc_J0_length_8abf5, List.forall_mem_cons.mpr ⟨mc_J0_charAt_5068e, List.forall_mem_cons.mpr ⟨mc_J0_coder_7d493, List.forall_mem_cons.mpr ⟨mc_J0_isLatin1_aae02, List.forall_mem_cons.mpr ⟨mc_J0_checkIndex_df160, List.forall_mem_cons.mpr ⟨mc_J1_charAt_3b067, List.forall_mem_cons.mpr ⟨mc_J3_checkIndex_8e157, List.forall_mem_cons.mpr ⟨mc_J6_compare_7cf53, List.forall_mem_cons.mpr ⟨mc_J6_bitCount_0f7a4, fun _ h => absurd h List.not_mem_nil⟩⟩⟩⟩⟩⟩⟩⟩⟩⟩⟩⟩⟩⟩⟩⟩⟩⟩⟩⟩⟩⟩⟩⟩⟩⟩⟩⟩⟩⟩⟩⟩⟩⟩⟩⟩⟩⟩⟩⟩⟩⟩⟩⟩⟩⟩⟩⟩⟩⟩⟩⟩⟩⟩⟩⟩⟩⟩⟩⟩⟩⟩⟩⟩⟩⟩⟩⟩⟩⟩⟩⟩⟩⟩⟩⟩⟩⟩⟩⟩⟩⟩⟩⟩⟩⟩⟩⟩⟩⟩⟩⟩⟩⟩⟩⟩⟩⟩⟩⟩⟩⟩⟩⟩⟩⟩⟩⟩⟩⟩⟩⟩⟩⟩⟩⟩⟩⟩⟩⟩⟩⟩⟩⟩⟩⟩⟩⟩⟩⟩⟩⟩⟩⟩⟩⟩⟩⟩⟩⟩⟩⟩⟩⟩⟩⟩⟩⟩⟩⟩⟩⟩⟩⟩⟩⟩⟩⟩⟩⟩⟩⟩⟩⟩⟩⟩⟩⟩⟩⟩⟩⟩⟩⟩⟩⟩⟩⟩⟩⟩⟩⟩⟩⟩⟩⟩⟩⟩⟩⟩⟩⟩⟩⟩⟩⟩⟩⟩⟩⟩⟩⟩⟩⟩⟩⟩⟩⟩⟩⟩⟩⟩⟩⟩⟩⟩⟩⟩⟩⟩
set_option maxRecDepth 100000 in
theorem db_a : ∀ e ∈ am_ms, (am_pg e).all (am_db (am_code e) (am_y e).cls) = true := List.forall_mem_cons.mpr ⟨db_X0_findSets, List.forall_mem_cons.mpr ⟨db_X0_bookIsSo, List.forall_mem_cons.mpr ⟨db_X0_findQuestion, List.forall_mem_cons.mpr ⟨db_X0_leftAtWorst, List.forall_mem_cons.mpr ⟨db_X0_maybesReached, List.forall_mem_cons.mpr ⟨db_X0_countWith, List.forall_mem_cons.mpr ⟨db_X1_gainBy, List.forall_mem_cons.mpr ⟨db_X1_findLeastBuilding, List.forall_mem_cons.mpr ⟨db_X1_costOf, List.forall_mem_cons.mpr ⟨db_X1_mostWith, List.forall_mem_cons.mpr ⟨db_X1_findRests, List.forall_mem_cons.mpr ⟨db_X1_fillWorths, List.forall_mem_cons.mpr ⟨db_X1_isOpen, List.forall_mem_cons.mpr ⟨db_X1_isRest, List.forall_mem_cons.mpr ⟨db_X1_hasBetter, List.forall_mem_cons.mpr ⟨db_X1_outcome, List.forall_mem_cons.mpr ⟨db_X1_digitsOfChoices, List.forall_mem_cons.mpr ⟨db_X1_nextRow, List.forall_mem_cons.mpr ⟨db_X2_clear, List.forall_mem_cons.mpr ⟨db_X2_take, List.forall_mem_cons.mpr ⟨db_X2_bare, List.forall_mem_cons.mpr ⟨db_X2_raise, List.forall_mem_cons.mpr ⟨db_X2_lower, List.forall_mem_cons.mpr ⟨db_X3_survey, List.forall_mem_cons.mpr ⟨db_X3_noteCount, List.forall_mem_cons.mpr ⟨db_X3_worthBy, List.forall_mem_cons.mpr ⟨db_X3_mostForDeaf, List.forall_mem_cons.mpr ⟨db_X3_fairPart, List.forall_mem_cons.mpr ⟨db_X3_bestTrade, List.forall_mem_cons.mpr ⟨db_X3_unlikePairs, List.forall_mem_cons.mpr ⟨db_X4_clear, List.forall_mem_cons.mpr ⟨db_X4_take, List.forall_mem_cons.mpr ⟨db_X5_readAll, List.forall_mem_cons.mpr ⟨db_X5_readKind, List.forall_mem_cons.mpr ⟨db_X5_readNumbers, List.forall_mem_cons.mpr ⟨db_X5_isFull, List.forall_mem_cons.mpr ⟨db_X5_readSize, List.forall_mem_cons.mpr ⟨db_X5_readThing, List.forall_mem_cons.mpr ⟨db_X5_readPlace, List.forall_mem_cons.mpr ⟨db_X5_readPlaceWith, List.forall_mem_cons.mpr ⟨db_X5_readField, List.forall_mem_cons.mpr ⟨db_X5_readSeason, List.forall_mem_cons.mpr ⟨db_X5_readEnd, List.forall_mem_cons.mpr ⟨db_X5_readNumber, List.forall_mem_cons.mpr ⟨db_X5_readWord, List.forall_mem_cons.mpr ⟨db_X5_isWord, List.forall_mem_cons.mpr ⟨db_X5_wordOf, List.forall_mem_cons.mpr ⟨db_X5_skipBlanks, List.forall_mem_cons.mpr ⟨db_X5_refuse, List.forall_mem_cons.mpr ⟨db_X6_shout, List.forall_mem_cons.mpr ⟨db_X6_follow, List.forall_mem_cons.mpr ⟨db_X6_addEcho, List.forall_mem_cons.mpr ⟨db_X6_tellEcho, List.forall_mem_cons.mpr ⟨db_X6_countBy, List.forall_mem_cons.mpr ⟨db_X6_countTimes, List.forall_mem_cons.mpr ⟨db_X6_countStrong, List.forall_mem_cons.mpr ⟨db_X6_countAt, List.forall_mem_cons.mpr ⟨db_X6_snowsFalling, List.forall_mem_cons.mpr ⟨db_X6_greatestHush, List.forall_mem_cons.mpr ⟨db_X6_shoutForPeaks, List.forall_mem_cons.mpr ⟨db_X7_listen, List.forall_mem_cons.mpr ⟨db_X7_strengthOfSong, List.forall_mem_cons.mpr ⟨db_X7_findPeak, List.forall_mem_cons.mpr ⟨db_X7_bestSong, List.forall_mem_cons.mpr ⟨db_X8_isFull, List.forall_mem_cons.mpr ⟨db_X8_open, List.forall_mem_cons.mpr ⟨db_X8_has, List.forall_mem_cons.mpr ⟨db_X8_at, List.forall_mem_cons.mpr ⟨db_X8_put, List.forall_mem_cons.mpr ⟨db_X8_cellAt, List.forall_mem_cons.mpr ⟨db_X8_take, List.forall_mem_cons.mpr ⟨db_X9_feed, List.forall_mem_cons.mpr ⟨db_X9_valley, List.forall_mem_cons.mpr ⟨db_X9_fault, List.forall_mem_cons.mpr ⟨db_X9_told, List.forall_mem_cons.mpr ⟨db_X9_cell, List.forall_mem_cons.mpr ⟨db_X9_build, List.forall_mem_cons.mpr ⟨db_X9_fell, List.forall_mem_cons.mpr ⟨db_X9_years, List.forall_mem_cons.mpr ⟨db_X9_echoes, List.forall_mem_cons.mpr ⟨db_X9_echo, List.forall_mem_cons.mpr ⟨db_X9_count, List.forall_mem_cons.mpr ⟨db_X9_field, List.forall_mem_cons.mpr ⟨db_X9_most, List.forall_mem_cons.mpr ⟨db_X9_least, List.forall_mem_cons.mpr ⟨db_X9_mean, List.forall_mem_cons.mpr ⟨db_X9_worth, List.forall_mem_cons.mpr ⟨db_X9_gain, List.forall_mem_cons.mpr ⟨db_X9_building, List.forall_mem_cons.mpr ⟨db_X9_rests, List.forall_mem_cons.mpr ⟨db_X9_fair, List.forall_mem_cons.mpr ⟨db_X9_trade, List.forall_mem_cons.mpr ⟨db_X9_unlike, List.forall_mem_cons.mpr ⟨db_X9_heard, List.forall_mem_cons.mpr ⟨db_X9_loudest, List.forall_mem_cons.mpr ⟨db_X9_compose, List.forall_mem_cons.mpr ⟨db_X9_book, List.forall_mem_cons.mpr ⟨db_X9_forget, List.forall_mem_cons.mpr ⟨db_X9_explain, List.forall_mem_cons.mpr ⟨db_X9_ask, List.forall_mem_cons.mpr ⟨db_X9_snows, List.forall_mem_cons.mpr ⟨db_X9_safe, List.forall_mem_cons.mpr ⟨db_X9_hush, List.forall_mem_cons.mpr ⟨db_X9_deaf, List.forall_mem_cons.mpr ⟨db_X9_image, List.forall_mem_cons.mpr ⟨db_X9_restore, List.forall_mem_cons.mpr ⟨db_X9_status, List.forall_mem_cons.mpr ⟨db_X9_sums, List.forall_mem_cons.mpr ⟨db_X9_putOnTape, List.forall_mem_cons.mpr ⟨db_X9_needCell, List.forall_mem_cons.mpr ⟨db_X9_needField, List.forall_mem_cons.mpr ⟨db_X9_needBetween, List.forall_mem_cons.mpr ⟨db_X9_needFog, List.forall_mem_cons.mpr ⟨db_X9_needLaw, List.forall_mem_cons.mpr ⟨db_X9_needNotes, List.forall_mem_cons.mpr ⟨db_X9_needSurvey, List.forall_mem_cons.mpr ⟨db_X9_cellOf, List.forall_mem_cons.mpr ⟨db_X9_partOfFraction, List.forall_mem_cons.mpr ⟨db_X9_commonDivisor, List.forall_mem_cons.mpr ⟨db_X10_thrown, List.forall_mem_cons.mpr ⟨db_X10_may, List.forall_mem_cons.mpr ⟨db_X10_within, List.forall_mem_cons.mpr ⟨db_X10_feed, List.forall_mem_cons.mpr ⟨db_X10_fine, List.forall_mem_cons.mpr ⟨db_X10_wrong, List.forall_mem_cons.mpr ⟨db_X10_here, List.forall_mem_cons.mpr ⟨db_X10_isSmall, List.forall_mem_cons.mpr ⟨db_X10_isDigit, List.forall_mem_cons.mpr ⟨db_X10_word, List.forall_mem_cons.mpr ⟨db_X10_of, List.forall_mem_cons.mpr ⟨db_X10_pass, List.forall_mem_cons.mpr ⟨db_X10_readNumber, List.forall_mem_cons.mpr ⟨db_X10_sign, List.forall_mem_cons.mpr ⟨db_X10_isMore, List.forall_mem_cons.mpr ⟨db_X10_begins, List.forall_mem_cons.mpr ⟨db_X10_result, List.forall_mem_cons.mpr ⟨db_X10_fault, List.forall_mem_cons.mpr ⟨db_X10_clears, List.forall_mem_cons.mpr ⟨db_X10_copies, List.forall_mem_cons.mpr ⟨db_X10_sets, List.forall_mem_cons.mpr ⟨db_X10_readCell, List.forall_mem_cons.mpr ⟨db_X10_readOther, List.forall_mem_cons.mpr ⟨db_X10_isOther, List.forall_mem_cons.mpr ⟨db_X10_isFull, List.forall_mem_cons.mpr ⟨db_X10_valley, List.forall_mem_cons.mpr ⟨db_X10_told, List.forall_mem_cons.mpr ⟨db_X10_isCell, List.forall_mem_cons.mpr ⟨db_X10_isField, List.forall_mem_cons.mpr ⟨db_X10_cell, List.forall_mem_cons.mpr ⟨db_X10_build, List.forall_mem_cons.mpr ⟨db_X10_fell, List.forall_mem_cons.mpr ⟨db_X10_years, List.forall_mem_cons.mpr ⟨db_X10_across, List.forall_mem_cons.mpr ⟨db_X10_down, List.forall_mem_cons.mpr ⟨db_X10_hard, List.forall_mem_cons.mpr ⟨db_X10_falls, List.forall_mem_cons.mpr ⟨db_X10_puts, List.forall_mem_cons.mpr ⟨db_X10_goes, List.forall_mem_cons.mpr ⟨db_X10_shouts, List.forall_mem_cons.mpr ⟨db_X10_isFog, List.forall_mem_cons.mpr ⟨db_X10_echoes, List.forall_mem_cons.mpr ⟨db_X10_echo, List.forall_mem_cons.mpr ⟨db_X10_countOf, List.forall_mem_cons.mpr ⟨db_X10_count, List.forall_mem_cons.mpr ⟨db_X10_findField, List.forall_mem_cons.mpr ⟨db_X10_field, List.forall_mem_cons.mpr ⟨db_X10_foundOf, List.forall_mem_cons.mpr ⟨db_X10_most, List.forall_mem_cons.mpr ⟨db_X10_least, List.forall_mem_cons.mpr ⟨db_X10_divisor, List.forall_mem_cons.mpr ⟨db_X10_fraction, List.forall_mem_cons.mpr ⟨db_X10_mean, List.forall_mem_cons.mpr ⟨db_X10_worthBy, List.forall_mem_cons.mpr ⟨db_X10_worth, List.forall_mem_cons.mpr ⟨db_X10_gain, List.forall_mem_cons.mpr ⟨db_X10_openSites, List.forall_mem_cons.mpr ⟨db_X10_stands, List.forall_mem_cons.mpr ⟨db_X10_building, List.forall_mem_cons.mpr ⟨db_X10_barns, List.forall_mem_cons.mpr ⟨db_X10_gets, List.forall_mem_cons.mpr ⟨db_X10_isRest, List.forall_mem_cons.mpr ⟨db_X10_rests, List.forall_mem_cons.mpr ⟨db_X10_fair, List.forall_mem_cons.mpr ⟨db_X10_trade, List.forall_mem_cons.mpr ⟨db_X10_sideOf, List.forall_mem_cons.mpr ⟨db_X10_unlike, List.forall_mem_cons.mpr ⟨db_X10_listens, List.forall_mem_cons.mpr ⟨db_X10_heardAt, List.forall_mem_cons.mpr ⟨db_X10_findLoudest, List.forall_mem_cons.mpr ⟨db_X10_areNotes, List.forall_mem_cons.mpr ⟨db_X10_heard, List.forall_mem_cons.mpr ⟨db_X10_loudest, List.forall_mem_cons.mpr ⟨db_X10_ones, List.forall_mem_cons.mpr ⟨db_X10_compose, List.forall_mem_cons.mpr ⟨db_X10_book, List.forall_mem_cons.mpr ⟨db_X10_forget, List.forall_mem_cons.mpr ⟨db_X10_wonders, List.forall_mem_cons.mpr ⟨db_X10_explains, List.forall_mem_cons.mpr ⟨db_X10_findSo, List.forall_mem_cons.mpr ⟨db_X10_explain, List.forall_mem_cons.mpr ⟨db_X10_ask, List.forall_mem_cons.mpr ⟨db_X10_snows, List.forall_mem_cons.mpr ⟨db_X10_safe, List.forall_mem_cons.mpr ⟨db_X10_hush, List.forall_mem_cons.mpr ⟨db_X10_deaf, List.forall_mem_cons.mpr ⟨db_X10_keeps, List.forall_mem_cons.mpr ⟨db_X10_keepsAll, List.forall_mem_cons.mpr ⟨db_X10_image, List.forall_mem_cons.mpr ⟨db_X10_restore, List.forall_mem_cons.mpr ⟨db_X10_status, List.forall_mem_cons.mpr ⟨db_X10_sums, List.forall_mem_cons.mpr ⟨db_J0_length_8abf5, List.forall_mem_cons.mpr ⟨db_J0_charAt_5068e, List.forall_mem_cons.mpr ⟨db_J0_coder_7d493, List.forall_mem_cons.mpr ⟨db_J0_isLatin1_aae02, List.forall_mem_cons.mpr ⟨db_J0_checkIndex_df160, List.forall_mem_cons.mpr ⟨db_J1_charAt_3b067, List.forall_mem_cons.mpr ⟨db_J3_checkIndex_8e157, List.forall_mem_cons.mpr ⟨db_J6_compare_7cf53, List.forall_mem_cons.mpr ⟨db_J6_bitCount_0f7a4, fun _ h => absurd h List.not_mem_nil⟩⟩⟩⟩⟩⟩⟩⟩⟩⟩⟩⟩⟩⟩⟩⟩⟩⟩⟩⟩⟩⟩⟩⟩⟩⟩⟩⟩⟩⟩⟩⟩⟩⟩⟩⟩⟩⟩⟩⟩⟩⟩⟩⟩⟩⟩⟩⟩⟩⟩⟩⟩⟩⟩⟩⟩⟩⟩⟩⟩⟩⟩⟩⟩⟩⟩⟩⟩⟩⟩⟩⟩⟩⟩⟩⟩⟩⟩⟩⟩⟩⟩⟩⟩⟩⟩⟩⟩⟩⟩⟩⟩⟩⟩⟩⟩⟩⟩⟩⟩⟩⟩⟩⟩⟩⟩⟩⟩⟩⟩⟩⟩⟩⟩⟩⟩⟩⟩⟩⟩⟩⟩⟩⟩⟩⟩⟩⟩⟩⟩⟩⟩⟩⟩⟩⟩⟩⟩⟩⟩⟩⟩⟩⟩⟩⟩⟩⟩⟩⟩⟩⟩⟩⟩⟩⟩⟩⟩⟩⟩⟩⟩⟩⟩⟩⟩⟩⟩⟩⟩⟩⟩⟩⟩⟩⟩⟩⟩⟩⟩⟩⟩⟩⟩⟩⟩⟩⟩⟩⟩⟩⟩⟩⟩⟩⟩⟩⟩⟩⟩⟩⟩⟩⟩⟩⟩⟩⟩⟩⟩⟩⟩⟩⟩⟩⟩⟩⟩⟩⟩
set_option maxRecDepth 100000 in
theorem ml_a : am_ms.length = mh_a.length := by decide +kernel
set_option maxRecDepth 100000 in
theorem ib_a : am_ms.all (fun e => (am_pg e).all (am_ib e)) = true := by decide +kernel
def wh_0 : List (Nat × Nat) := [(2, 144), (2, 146), (2, 148), (2, 150), (2, 152), (2, 154), (2, 156), (2, 158), (2, 160), (2, 162), (2, 164), (2, 166), (2, 168)]
set_option maxRecDepth 100000 in
theorem wc_0 : ((u_ws RX0 TX0 13).zip wh_0).all (fun q => am_hb q.1 q.2) = true := by decide +kernel
theorem wl_0 : (u_ws RX0 TX0 13).length = wh_0.length := by decide +kernel
def wh_1 : List (Nat × Nat) := [(2, 70), (2, 72), (2, 74), (2, 76), (2, 78), (2, 80), (2, 82), (2, 84), (2, 86), (2, 88)]
set_option maxRecDepth 100000 in
theorem wc_1 : ((u_ws RX1 TX1 10).zip wh_1).all (fun q => am_hb q.1 q.2) = true := by decide +kernel
theorem wl_1 : (u_ws RX1 TX1 10).length = wh_1.length := by decide +kernel
def wh_2 : List (Nat × Nat) := [(1, 152), (1, 154), (1, 156), (1, 158)]
set_option maxRecDepth 100000 in
theorem wc_2 : ((u_ws RX2 TX2 4).zip wh_2).all (fun q => am_hb q.1 q.2) = true := by decide +kernel
theorem wl_2 : (u_ws RX2 TX2 4).length = wh_2.length := by decide +kernel
def wh_3 : List (Nat × Nat) := [(2, 25), (2, 27), (2, 29), (2, 31), (2, 33), (2, 35), (2, 37), (2, 39), (2, 41), (2, 43), (2, 45), (2, 47)]
set_option maxRecDepth 100000 in
theorem wc_3 : ((u_ws RX3 TX3 12).zip wh_3).all (fun q => am_hb q.1 q.2) = true := by decide +kernel
theorem wl_3 : (u_ws RX3 TX3 12).length = wh_3.length := by decide +kernel
def wh_4 : List (Nat × Nat) := [(1, 110), (1, 112), (1, 114), (1, 116), (1, 118), (1, 120), (1, 122), (1, 124), (1, 126)]
set_option maxRecDepth 100000 in
theorem wc_4 : ((u_ws RX4 TX4 9).zip wh_4).all (fun q => am_hb q.1 q.2) = true := by decide +kernel
theorem wl_4 : (u_ws RX4 TX4 9).length = wh_4.length := by decide +kernel
def wh_5 : List (Nat × Nat) := [(1, 182), (1, 184), (1, 186), (1, 188), (1, 190), (1, 192), (1, 194)]
set_option maxRecDepth 100000 in
theorem wc_5 : ((u_ws RX5 TX5 7).zip wh_5).all (fun q => am_hb q.1 q.2) = true := by decide +kernel
theorem wl_5 : (u_ws RX5 TX5 7).length = wh_5.length := by decide +kernel
def wh_6 : List (Nat × Nat) := [(1, 216), (1, 218), (1, 220), (1, 222), (1, 224), (1, 226), (1, 228), (1, 230), (1, 232)]
set_option maxRecDepth 100000 in
theorem wc_6 : ((u_ws RX6 TX6 9).zip wh_6).all (fun q => am_hb q.1 q.2) = true := by decide +kernel
theorem wl_6 : (u_ws RX6 TX6 9).length = wh_6.length := by decide +kernel
def wh_7 : List (Nat × Nat) := [(2, 105), (2, 107), (2, 109), (2, 111), (2, 113), (2, 115)]
set_option maxRecDepth 100000 in
theorem wc_7 : ((u_ws RX7 TX7 6).zip wh_7).all (fun q => am_hb q.1 q.2) = true := by decide +kernel
theorem wl_7 : (u_ws RX7 TX7 6).length = wh_7.length := by decide +kernel
def wh_8 : List (Nat × Nat) := [(1, 56), (1, 58), (1, 60), (1, 62)]
set_option maxRecDepth 100000 in
theorem wc_8 : ((u_ws RX8 TX8 4).zip wh_8).all (fun q => am_hb q.1 q.2) = true := by decide +kernel
theorem wl_8 : (u_ws RX8 TX8 4).length = wh_8.length := by decide +kernel
def wh_9 : List (Nat × Nat) := [(2, 188), (2, 190), (2, 192), (2, 194), (2, 196), (2, 198), (2, 200), (2, 202), (2, 204), (2, 206), (2, 208), (2, 210), (2, 212), (2, 214), (2, 216), (2, 218)]
set_option maxRecDepth 100000 in
theorem wc_9 : ((u_ws RX9 TX9 16).zip wh_9).all (fun q => am_hb q.1 q.2) = true := by decide +kernel
theorem wl_9 : (u_ws RX9 TX9 16).length = wh_9.length := by decide +kernel
def wh_10 : List (Nat × Nat) := [(6, 126), (6, 128), (6, 130), (6, 132), (6, 134), (6, 136), (6, 138), (6, 140), (6, 142), (6, 144), (6, 146), (6, 148), (6, 150), (6, 152), (6, 154), (6, 156), (6, 158), (6, 160), (6, 162), (6, 164), (6, 166), (6, 168), (6, 170), (6, 172), (6, 174), (6, 176), (6, 178), (6, 180), (6, 182), (6, 184), (6, 186), (6, 188), (6, 190), (6, 192), (6, 194), (6, 196), (6, 198), (6, 200), (6, 202), (6, 204), (6, 206), (6, 208), (6, 210), (6, 212), (6, 214), (6, 216), (6, 218), (6, 220), (6, 222), (6, 224), (6, 226), (6, 228), (6, 230), (6, 232), (6, 234), (6, 236), (6, 238), (7, 0), (7, 2), (7, 4), (7, 6), (7, 8), (7, 10), (7, 12), (7, 14), (7, 16)]
set_option maxRecDepth 100000 in
theorem wc_10 : ((u_ws RX10 TX10 66).zip wh_10).all (fun q => am_hb q.1 q.2) = true := by decide +kernel
theorem wl_10 : (u_ws RX10 TX10 66).length = wh_10.length := by decide +kernel
