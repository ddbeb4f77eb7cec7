/-! THE TABLES' WORDS OF THE POOLS AND OF THE METHODS -/
def am_gw : List Cond := lw_tbl.filter goodWord
theorem am_gw_good : ∀ w ∈ am_gw, (w.onTables && w.keeps) = true ∨ ∃ ty, w = .arrayClass ty := fun w h => good_of_word (List.mem_filter.mp h).2
theorem am_gw_tbl : ∀ w ∈ am_gw, w ∈ lw_tbl := fun w h => (List.mem_filter.mp h).1
def am_tb (t : Nat) : List Cond := match t with
  | 0 => k2_sels lw_privs
  | 1 => tables_1_1
  | 2 => tables_1_2
  | 3 => tables_1_3
  | 4 => tables_1_4
  | 5 => tables_1_5
  | 6 => tables_1_6
  | 7 => tables_1_7
  | _ => tables_1_8
theorem am_tb_in : ∀ (t : Nat) (w : Cond), w ∈ am_tb t → w ∈ lw_tbl := by
  intro t w h
  show w ∈ k2_sels lw_privs ++ (tables_1_1 ++ (tables_1_2 ++ (tables_1_3 ++ (tables_1_4 ++ (tables_1_5 ++ (tables_1_6 ++ (tables_1_7 ++ tables_1_8)))))))
  simp only [List.mem_append]
  match t, h with
  | 0, h => exact Or.inl h
  | 1, h => exact Or.inr (Or.inl h)
  | 2, h => exact Or.inr (Or.inr (Or.inl h))
  | 3, h => exact Or.inr (Or.inr (Or.inr (Or.inl h)))
  | 4, h => exact Or.inr (Or.inr (Or.inr (Or.inr (Or.inl h))))
  | 5, h => exact Or.inr (Or.inr (Or.inr (Or.inr (Or.inr (Or.inl h)))))
  | 6, h => exact Or.inr (Or.inr (Or.inr (Or.inr (Or.inr (Or.inr (Or.inl h))))))
  | 7, h => exact Or.inr (Or.inr (Or.inr (Or.inr (Or.inr (Or.inr (Or.inr (Or.inl h)))))))
  | n + 8, h => exact Or.inr (Or.inr (Or.inr (Or.inr (Or.inr (Or.inr (Or.inr (Or.inr h)))))))
theorem am_nth_in {α : Type} : ∀ (l : List α) (n : Nat) (a : α), am_nth l n = some a → a ∈ l := by
  intro l
  induction l with
  | nil => intro n a h; cases h
  | cons b t ih =>
    intro n a h
    cases n with
    | zero => cases h; exact List.mem_cons_self
    | succ n => exact List.mem_cons_of_mem _ (ih n a h)
/-- the word stands at that place, and is a good one -/
def am_hb (w : Cond) (i : Nat × Nat) : Bool := goodWord w && (match am_nth (am_tb i.1) i.2 with
  | some v => decide (v = w)
  | none => false)
theorem am_hb_in {w : Cond} {i : Nat × Nat} (h : am_hb w i = true) : w ∈ am_gw := by
  unfold am_hb at h
  rw [Bool.and_eq_true] at h
  obtain ⟨h1, h2⟩ := h
  split at h2
  · rename_i v hv
    have e : v = w := of_decide_eq_true h2
    subst e
    exact List.mem_filter.mpr ⟨am_tb_in _ _ (am_nth_in _ _ _ hv), h1⟩
  · cases h2
/-- the places of String constants: the owner, the number in its pool, the text -/
def am_srs : List (String × Nat × Nat) := [("SoldEchoes", 360, 12), ("SoldEchoes$Reader", 170, 0), ("SoldEchoes$Reader", 172, 1), ("SoldEchoes$Reader", 174, 2), ("SoldEchoes$Reader", 175, 3), ("SoldEchoes$Reader", 177, 4), ("SoldEchoes$Reader", 179, 5), ("SoldEchoes$Reader", 181, 6), ("SoldEchoes$Reader", 183, 7), ("SoldEchoes$Reader", 185, 8), ("SoldEchoes$Reader", 186, 9), ("SoldEchoes", 348, 10), ("SoldEchoes", 355, 11), ("SoldEchoesModel", 255, 0), ("SoldEchoesModel", 225, 1), ("SoldEchoesModel", 233, 2), ("SoldEchoesModel", 234, 3), ("SoldEchoesModel", 235, 4), ("SoldEchoesModel", 236, 5), ("SoldEchoesModel", 237, 6), ("SoldEchoesModel", 238, 7), ("SoldEchoesModel", 239, 8), ("SoldEchoesModel", 240, 9)]
/-- words that the tables alone decide, carried by themselves -/
def am_nst : List Cond := [.methodLinkNest "SoldEchoes$Shouter" 106 ⟨"SoldEchoes", "cellOf", "(II)I"⟩ "SoldEchoes", .methodLinkNest "SoldEchoes$Table" 37 ⟨"SoldEchoes", "cellOf", "(II)I"⟩ "SoldEchoes", .methodLinkNest "SoldEchoes$Reader" 142 ⟨"SoldEchoes", "cellOf", "(II)I"⟩ "SoldEchoes", .methodLinkNest "SoldEchoes$Market" 104 ⟨"SoldEchoes", "partOfFraction", "(III)I"⟩ "SoldEchoes", .methodLinkNest "SoldEchoes$Bookman" 106 ⟨"SoldEchoes", "cellOf", "(II)I"⟩ "SoldEchoes", .castable "java/lang/IndexOutOfBoundsException" "java/lang/IndexOutOfBoundsException", .castable "java/util/NoSuchElementException" "java/util/NoSuchElementException", .castable "java/lang/IllegalArgumentException" "java/lang/IllegalArgumentException", .declares ⟨"java/lang/RuntimeException", "<init>", "()V"⟩, .declares ⟨"java/lang/RuntimeException", "<init>", "(Ljava/lang/String;)V"⟩, .declares ⟨"java/lang/Exception", "<init>", "()V"⟩, .declares ⟨"java/lang/Exception", "<init>", "(Ljava/lang/String;)V"⟩, .declares ⟨"java/lang/Throwable", "<init>", "()V"⟩, .declares ⟨"java/lang/Throwable", "<init>", "(Ljava/lang/String;)V"⟩]
def am_exc (x : Nat) : String := match x with
  | 0 => "java/lang/IndexOutOfBoundsException"
  | 1 => "java/util/NoSuchElementException"
  | _ => "java/lang/IllegalArgumentException"
def am_sn (n : Nat) : String × String × String := match n with
  | 0 => ("SoldEchoes$Shouter", "RIGHT", "[I")
  | 1 => ("SoldEchoes$Shouter", "DOWN", "[I")
  | 2 => ("java/lang/String", "COMPACT_STRINGS", "Z")
  | _ => ("jdk/internal/util/Preconditions", "SIOOBE_FORMATTER", "Ljava/util/function/BiFunction;")
def am_h (hs : List (Nat × Nat)) (n : Nat) : Nat × Nat := match am_nth hs n with
  | some i => i
  | none => (0, 0)
/-- a row of a pool, with the places of its words -/
def am_cb (own : String) (q : (Nat × am_Cp) × List (Nat × Nat)) : Bool := match q.1.2 with
  | (0, ci, j) => (match vwCl[ci]? with
    | some (_, T, N) => Nat.blt j N && (am_hb (.fieldLink own q.1.1 (T j).1 (T j).2.1 (T j).2.2.1) (am_h q.2 0) && ((T j).2.2.2 || decide ((T j).2.2.1 = "I")))
    | none => false)
  | (9, ci, j) => (match vwCl[ci]? with
    | some (_, T, N) => Nat.blt j N && (am_hb (.fieldLink own q.1.1 (T j).1 (T j).2.1 (T j).2.2.1) (am_h q.2 0) && (!(T j).2.2.2 && decide ((T j).2.2.1 = "Z")))
    | none => false)
  | (1, n, _) => Nat.blt n 13 && decide ((own, q.1.1, n) ∈ am_srs)
  | (2, n, _) => Nat.blt n 4 && am_hb (.fieldLink own q.1.1 (am_sn n).1 (am_sn n).2.1 (am_sn n).2.2) (am_h q.2 0)
  | (3, n, b) => (match am_mt n with
    | some e => (bif am_stc e then (bif Nat.beq b 0 then am_hb (.methodLink own q.1.1 (am_y e)) (am_h q.2 0) else decide (Cond.methodLinkNest own q.1.1 (am_y e) "SoldEchoes" ∈ am_nst))
        else am_hb (.methodLink own q.1.1 (am_y e)) (am_h q.2 0) && (match vwCl[b]? with
          | some (C, _, _) => decide ((am_y e).cls = C)
          | none => false))
    | none => false)
  | (10, n, _) => (match am_mt n with
    | some e => am_hb (.methodLink own q.1.1 (am_y e)) (am_h q.2 0) && decide ((am_y e).cls = "java/lang/String")
    | none => false)
  | (4, x, _) => am_hb (.classLink own q.1.1 (am_exc x)) (am_h q.2 0) && am_hb (.initialized (am_exc x)) (am_h q.2 1)
  | (5, _, _) => true
  | (6, _, _) => am_hb (.methodLink own q.1.1 arraycopyName) (am_h q.2 0) && (am_hb (.native arraycopyName) (am_h q.2 1) && (am_hb (.static arraycopyName) (am_h q.2 2) && am_hb (.initialized "java/lang/System") (am_h q.2 3)))
  | (7, _, _) => am_hb (.fieldLink own q.1.1 "java/lang/String" "value" "[B") (am_h q.2 0)
  | (8, _, _) => am_hb (.fieldLink own q.1.1 "java/lang/String" "coder" "B") (am_h q.2 0)
  | (11, _, _) => am_hb (.methodLink own q.1.1 Lib.Math.max.name) (am_h q.2 0) && (am_hb (.static Lib.Math.max.name) (am_h q.2 1) && (am_hb (.initialized "java/lang/Math") (am_h q.2 2) && am_hb (.code Lib.Math.max.name Lib.Math.max.code 2 (some .int)) (am_h q.2 3)))
  | (12, _, _) => am_hb (.methodLink own q.1.1 Lib.Math.min.name) (am_h q.2 0) && (am_hb (.static Lib.Math.min.name) (am_h q.2 1) && (am_hb (.initialized "java/lang/Math") (am_h q.2 2) && am_hb (.code Lib.Math.min.name Lib.Math.min.code 2 (some .int)) (am_h q.2 3)))
  | _ => false
/-- a method, with the places of its words -/
def am_mb (q : am_Me × List (Nat × Nat)) : Bool := plainName (am_y q.1).cls && (decide ((parseMethodDescriptor (am_y q.1).desc).map (fun d => d.parameters.length) = some (am_np q.1)) && ((am_hb (.initialized (am_y q.1).cls) (am_h q.2 1) && (decide (am_nth am_pn (am_cn q.1) = some (am_y q.1).cls) &&
  (bif am_stc q.1 then am_hb (.static (am_y q.1)) (am_h q.2 2) else am_hb (.instanceMethod (am_y q.1)) (am_h q.2 2) && am_hb (.selects (am_y q.1).cls (am_y q.1) (am_y q.1)) (am_h q.2 3))))))
/-- a method's room holds its callees' -/
def am_ib (e : am_Me) (q : Nat × am_Op × Nat) : Bool := match q.2.1 with
  | .inl (.invokestatic k) | .inl (.invokevirtual k) => (match am_cp (am_cn e) k with
    | some (3, n, _) | some (10, n, _) => (match am_mt n with
      | some e' => Nat.ble (am_fr e' + 1) (am_fr e) && (Nat.ble (8 + (am_mL e' + 11) + am_lc e') (am_lc e) && Nat.ble (am_np e' + 1) (am_mL e' + 1))
      | none => false)
    | some (6, _, _) | some (11, _, _) | some (12, _, _) => Nat.ble 1 (am_fr e) && Nat.ble 60 (am_lc e)
    | _ => true)
  | .inl (.new _) => Nat.ble 6 (am_fr e) && Nat.ble 90 (am_lc e)
  | _ => true
def ch_0 : List (List (Nat × Nat)) := [[(2, 139)], [(2, 140)], [(2, 141)], [(2, 138)], [(1, 107)], [(1, 49)], [(2, 124)], [(2, 126)], [(2, 128)], [(5, 198)], [(5, 199)], [(5, 209)], [(2, 130)], [(1, 150)], [(5, 203)], [(1, 80)], [(5, 204)], [(5, 205)], [(5, 221)], [(2, 132)], [(2, 134)], [(2, 136)], [(5, 226)], [(1, 74)], [(1, 69)], [], [(1, 206)], [(5, 230)], [(5, 234), (2, 2), (1, 8), (2, 3)]]
set_option maxRecDepth 100000 in
theorem cb_0 : (cp_0.zip ch_0).all (am_cb RX0) = true := by decide +kernel
theorem cl_0 : cp_0.length = ch_0.length := by decide +kernel
def ch_1 : List (List (Nat × Nat)) := [[(2, 67)], [(2, 68)], [(2, 69)], [(2, 64)], [(2, 65)], [(1, 138)], [(1, 85)], [(5, 13)], [(2, 56)], [(2, 58)], [(1, 95)], [(5, 25)], [(1, 52)], [(5, 30)], [(5, 35)], [(5, 34)], [(5, 39)], [(5, 43)], [(5, 44)], [(2, 5)], [(2, 60)], [(2, 62)], [(2, 66)], [(5, 59)], [(5, 63)], [(5, 79)], [(5, 83)], [(1, 93)], [(5, 67)], [(5, 71)], [(5, 75)]]
set_option maxRecDepth 100000 in
theorem cb_1 : (cp_1.zip ch_1).all (am_cb RX1) = true := by decide +kernel
theorem cl_1 : cp_1.length = ch_1.length := by decide +kernel
def ch_2 : List (List (Nat × Nat)) := [[(1, 137)], [(1, 142)], [(1, 149)], [(1, 146)], [(1, 51)], [(3, 43), (3, 45), (3, 44), (1, 21)], [(3, 46)], [(5, 29)]]
set_option maxRecDepth 100000 in
theorem cb_2 : (cp_2.zip ch_2).all (am_cb RX2) = true := by decide +kernel
theorem cl_2 : cp_2.length = ch_2.length := by decide +kernel
def ch_3 : List (List (Nat × Nat)) := [[(2, 23)], [(2, 24)], [(2, 1), (2, 2), (1, 8), (2, 3)], [(2, 21)], [(2, 22)], [(1, 90)], [(4, 203)], [(2, 17)], [(2, 19)], [(1, 79)], [(4, 204)], [(4, 205)], [(4, 206)], [(2, 4)], [(2, 7)], [(2, 9)], [(2, 11)], [(2, 13)], [(2, 15)], [(5, 1)], [(6, 25)], [(1, 101)], [(1, 54)], [(1, 88)], [(5, 98)], [], [(5, 122)]]
set_option maxRecDepth 100000 in
theorem cb_3 : (cp_3.zip ch_3).all (am_cb RX3) = true := by decide +kernel
theorem cl_3 : cp_3.length = ch_3.length := by decide +kernel
def ch_4 : List (List (Nat × Nat)) := [[(1, 77)], [(1, 89)], [(1, 94)], [(1, 98)], [(1, 102)], [(1, 106)], [(1, 67)], [(1, 72)], [(1, 84)], [(1, 50)], [(4, 58)]]
set_option maxRecDepth 100000 in
theorem cb_4 : (cp_4.zip ch_4).all (am_cb RX4) = true := by decide +kernel
theorem cl_4 : cp_4.length = ch_4.length := by decide +kernel
def ch_5 : List (List (Nat × Nat)) := [[(1, 179)], [(1, 171)], [(1, 173)], [(1, 177)], [(3, 149)], [(3, 153)], [(1, 175)], [(1, 181)], [(3, 157), (3, 51), (1, 8), (3, 52)], [(1, 180)], [(3, 158)], [(3, 162)], [(4, 7)], [(4, 50)], [(3, 166)], [(3, 235)], [(3, 239)], [(4, 11)], [(1, 140)], [(4, 19)], [(1, 144)], [(1, 103)], [(4, 24)], [(4, 41)], [(1, 96)], [(4, 46)], [(1, 108)], [(4, 28)], [(4, 15)], [(1, 81)], [(1, 86)], [(4, 3)], [(1, 92)], [(1, 99)], [(1, 71)], [(1, 76)], [], [(4, 32)], [(4, 37)], [(4, 45)], [(3, 170)], [(3, 183)], [(3, 187)], [(3, 197)], [], [], [], [], [], [], [], [], [], []]
set_option maxRecDepth 100000 in
theorem cb_5 : (cp_5.zip ch_5).all (am_cb RX5) = true := by decide +kernel
theorem cl_5 : cp_5.length = ch_5.length := by decide +kernel
def ch_6 : List (List (Nat × Nat)) := [[(1, 214)], [(1, 215)], [(1, 208)], [(1, 209)], [(1, 210)], [(1, 211)], [(1, 212)], [(1, 204)], [(3, 9)], [(3, 13)], [(3, 15)], [(1, 68)], [(1, 73)], [(1, 143)], [(1, 147)], [(1, 213)], [(3, 17)], [(1, 139)], [(4, 155)], [(1, 83)], [(2, 238)], [(1, 105)], [(1, 55)], [(3, 21)], [(3, 34)], [(6, 13), (3, 51), (1, 8), (3, 52)], [], [(3, 5)]]
set_option maxRecDepth 100000 in
theorem cb_6 : (cp_6.zip ch_6).all (am_cb RX6) = true := by decide +kernel
theorem cl_6 : cp_6.length = ch_6.length := by decide +kernel
def ch_7 : List (List (Nat × Nat)) := [[(2, 103)], [(2, 104)], [(2, 101)], [(1, 78)], [(5, 140)], [(2, 102)], [(1, 205)], [(5, 141)], [(2, 97)], [(2, 99)], [(5, 157), (3, 51), (1, 8), (3, 52)], [(5, 158)], [(5, 170)], [(5, 176)]]
set_option maxRecDepth 100000 in
theorem cb_7 : (cp_7.zip ch_7).all (am_cb RX7) = true := by decide +kernel
theorem cl_7 : cp_7.length = ch_7.length := by decide +kernel
def ch_8 : List (List (Nat × Nat)) := [[(1, 47)], [(1, 46)], [(1, 45)], [(1, 48)], [(4, 36)], [(3, 29)], [(3, 25)], [], [(3, 50), (3, 51), (1, 8), (3, 52)], [(3, 53), (3, 45), (3, 44), (1, 21)]]
set_option maxRecDepth 100000 in
theorem cb_8 : (cp_8.zip ch_8).all (am_cb RX8) = true := by decide +kernel
theorem cl_8 : cp_8.length = ch_8.length := by decide +kernel
def ch_9 : List (List (Nat × Nat)) := [[(2, 165)], [(2, 167)], [(2, 171)], [(2, 172)], [(2, 173)], [(2, 174)], [(2, 176)], [(2, 177)], [(2, 178)], [(2, 179)], [(2, 180)], [(2, 166)], [(2, 218)], [(3, 74)], [(3, 145)], [(1, 178)], [(1, 176)], [(1, 172)], [(4, 54)], [(1, 174)], [(3, 39)], [(2, 175)], [(1, 91)], [(1, 53)], [(1, 70)], [(1, 75)], [(1, 97)], [(1, 100)], [(1, 104)], [(1, 109)], [(1, 82)], [(1, 87)], [(1, 148)], [(1, 151)], [(4, 74)], [(1, 141)], [(4, 94)], [(1, 145)], [(4, 116), (3, 51), (1, 8), (3, 52)], [(4, 124)], [(4, 128)], [(1, 207)], [(4, 136)], [(4, 147)], [(4, 151)], [(4, 167)], [(4, 187)], [(4, 195)], [(4, 199)], [(2, 6)], [(2, 8)], [(2, 10)], [(2, 12)], [(2, 14)], [(2, 16)], [(2, 18)], [(2, 20)], [(4, 224)], [(4, 237)], [(5, 9)], [(5, 21)], [(2, 57)], [(2, 59)], [(5, 55)], [(2, 61)], [(2, 63)], [(5, 94)], [(5, 107)], [(5, 118)], [(5, 132)], [(5, 136)], [(5, 142)], [(5, 153)], [(2, 98)], [(2, 100)], [(5, 166)], [(5, 184)], [(5, 185)], [(5, 186)], [(5, 194)], [(2, 125)], [(2, 127)], [(2, 129)], [(2, 131)], [(5, 217)], [(2, 133)], [(2, 135)], [(2, 137)], [(2, 234)], [(6, 9)], [(6, 21)], [(2, 168)], [(2, 169)], [(2, 170)], [(4, 78), (1, 22)], [], [(4, 171), (1, 23)], [], [(3, 78), (1, 16)], [], [(4, 227)]]
set_option maxRecDepth 100000 in
theorem cb_9 : (cp_9.zip ch_9).all (am_cb RX9) = true := by decide +kernel
theorem cl_9 : cp_9.length = ch_9.length := by decide +kernel
def ch_10 : List (List (Nat × Nat)) := [[(6, 50)], [(6, 51)], [(6, 58)], [(6, 59)], [(6, 60)], [(6, 61)], [(6, 62)], [(6, 63)], [(6, 64)], [(6, 65)], [(6, 66)], [(6, 67)], [(6, 68)], [(6, 69)], [(6, 70)], [(6, 71)], [(6, 72)], [(6, 73)], [(6, 93)], [(6, 94)], [(6, 95)], [(6, 96)], [(6, 97)], [(6, 104)], [(6, 105)], [(6, 106)], [(6, 109)], [(6, 111)], [(6, 113)], [(6, 114)], [(6, 39)], [(6, 43)], [(6, 52)], [(6, 55)], [(6, 56)], [(6, 54)], [(6, 53)], [(7, 38)], [(7, 46)], [(7, 53)], [(7, 54)], [(7, 30)], [(7, 83)], [(7, 67)], [(6, 57)], [(6, 74)], [(6, 75)], [(6, 76)], [(6, 77)], [(6, 78)], [(6, 79)], [(6, 80)], [(6, 81)], [(6, 82)], [(6, 83)], [(6, 84)], [(6, 85)], [(6, 86)], [(6, 87)], [(6, 88)], [(6, 89)], [(6, 90)], [(6, 91)], [(6, 92)], [(6, 110)], [(6, 115)], [(6, 47)], [(7, 79)], [], [(7, 50)], [(7, 90)], [], [], [], [], [], [], [], [], [(7, 22)], [(7, 26)], [(7, 34)], [(7, 42)], [], [(7, 55)], [(7, 71)], [(7, 75)], [(7, 86)], [(7, 94)], [(7, 98)], [(7, 106)], [(7, 113)], [(6, 99)], [(6, 98)], [(7, 149)], [(7, 152)], [(7, 141)], [(7, 155)], [(7, 159)], [(7, 145)], [(7, 133)], [(7, 137)], [(7, 171)], [(6, 100)], [(6, 102)], [(6, 103)], [(6, 101)], [(7, 179)], [(7, 191)], [(7, 187)], [(7, 206)], [(7, 203)], [(7, 213)], [(7, 225)], [(7, 229)], [(8, 5)], [(8, 1)], [(7, 237)], [(8, 21)], [(6, 107)], [(6, 108)], [(8, 35)], [(8, 28)], [(8, 31)], [(8, 43)], [(8, 51)], [(8, 74)], [(6, 112)], [(8, 70)], [(8, 66)], [(8, 106)], [(8, 102)]]
set_option maxRecDepth 100000 in
theorem cb_10 : (cp_10.zip ch_10).all (am_cb RX10) = true := by decide +kernel
theorem cl_10 : cp_10.length = ch_10.length := by decide +kernel
def ch_11 : List (List (Nat × Nat)) := [[(8, 140)], [(8, 141)], [(3, 195)], [(3, 191)], [(3, 201)], [(3, 205)], [(3, 211)], [(3, 213)]]
set_option maxRecDepth 100000 in
theorem cb_11 : (cp_11.zip ch_11).all (am_cb RJ0) = true := by decide +kernel
theorem cl_11 : cp_11.length = ch_11.length := by decide +kernel
def ch_12 : List (List (Nat × Nat)) := [[(3, 208)]]
set_option maxRecDepth 100000 in
theorem cb_12 : (cp_12.zip ch_12).all (am_cb RJ1) = true := by decide +kernel
theorem cl_12 : cp_12.length = ch_12.length := by decide +kernel
def ch_13 : List (List (Nat × Nat)) := []
set_option maxRecDepth 100000 in
theorem cb_13 : (cp_13.zip ch_13).all (am_cb RJ3) = true := by decide +kernel
theorem cl_13 : cp_13.length = ch_13.length := by decide +kernel
def ch_14 : List (List (Nat × Nat)) := [[], [], []]
set_option maxRecDepth 100000 in
theorem cb_14 : (cp_14.zip ch_14).all (am_cb RJ6) = true := by decide +kernel
theorem cl_14 : cp_14.length = ch_14.length := by decide +kernel
def mh_a : List (List (Nat × Nat)) := [[(5, 197), (1, 11), (5, 195), (5, 196)], [(5, 202), (1, 11), (5, 201), (0, 39)], [(5, 220), (1, 11), (5, 218), (5, 219)], [(5, 224), (1, 11), (5, 223), (0, 40)], [(5, 229), (1, 11), (5, 228), (0, 41)], [(5, 233), (1, 11), (5, 232), (0, 42)], [(5, 12), (1, 9), (5, 10), (5, 11)], [(5, 24), (1, 9), (5, 22), (5, 23)], [(5, 33), (1, 9), (5, 32), (0, 29)], [(5, 38), (1, 9), (5, 37), (0, 30)], [(5, 58), (1, 9), (5, 56), (5, 57)], [(5, 62), (1, 9), (5, 61), (0, 31)], [(5, 70), (1, 9), (5, 69), (0, 33)], [(5, 66), (1, 9), (5, 65), (0, 32)], [(5, 74), (1, 9), (5, 73), (0, 34)], [(5, 78), (1, 9), (5, 77), (0, 35)], [(5, 82), (1, 9), (5, 81), (0, 36)], [(5, 86), (1, 9), (5, 85), (0, 37)], [(3, 156), (1, 4), (3, 154), (3, 155)], [(3, 42), (1, 4), (3, 40), (3, 41)], [(5, 28), (1, 4), (5, 26), (5, 27)], [(5, 42), (1, 4), (5, 40), (5, 41)], [(5, 47), (1, 4), (5, 45), (5, 46)], [(4, 202), (1, 7), (4, 200), (4, 201)], [(4, 209), (1, 7), (4, 208), (0, 28)], [(5, 0), (1, 7), (4, 238), (4, 239)], [(6, 24), (1, 7), (6, 22), (6, 23)], [(5, 97), (1, 7), (5, 95), (5, 96)], [(5, 110), (1, 7), (5, 108), (5, 109)], [(5, 121), (1, 7), (5, 119), (5, 120)], [(3, 152), (1, 2), (3, 150), (3, 151)], [(4, 57), (1, 2), (4, 55), (4, 56)], [(3, 148), (1, 5), (3, 146), (3, 147)], [(3, 165), (1, 5), (3, 164), (0, 8)], [(4, 10), (1, 5), (4, 9), (0, 13)], [(4, 2), (1, 5), (4, 1), (0, 12)], [(4, 14), (1, 5), (4, 13), (0, 14)], [(4, 22), (1, 5), (4, 21), (0, 16)], [(4, 31), (1, 5), (4, 30), (0, 18)], [(4, 27), (1, 5), (4, 26), (0, 17)], [(4, 44), (1, 5), (4, 43), (0, 19)], [(4, 49), (1, 5), (4, 48), (0, 20)], [(4, 53), (1, 5), (4, 52), (0, 21)], [(4, 18), (1, 5), (4, 17), (0, 15)], [(3, 169), (1, 5), (3, 168), (0, 9)], [(3, 186), (1, 5), (3, 185), (0, 10)], [(3, 172), (1, 5), (3, 171)], [(3, 161), (1, 5), (3, 160), (0, 7)], [(3, 238), (1, 5), (3, 237), (0, 11)], [(3, 8), (1, 6), (3, 6), (3, 7)], [(3, 12), (1, 6), (3, 11), (0, 2)], [(3, 20), (1, 6), (3, 19), (0, 3)], [(4, 139), (1, 6), (4, 137), (4, 138)], [(4, 154), (1, 6), (4, 152), (4, 153)], [(4, 158), (1, 6), (4, 157), (0, 25)], [(6, 28), (1, 6), (6, 26), (6, 27)], [(5, 208), (1, 6), (5, 206), (5, 207)], [(2, 237), (1, 6), (2, 235), (2, 236)], [(6, 12), (1, 6), (6, 10), (6, 11)], [(3, 1), (1, 6), (3, 0), (0, 1)], [(5, 139), (1, 10), (5, 137), (5, 138)], [(5, 145), (1, 10), (5, 143), (5, 144)], [(5, 156), (1, 10), (5, 154), (5, 155)], [(5, 169), (1, 10), (5, 167), (5, 168)], [(4, 6), (1, 3), (4, 4), (4, 5)], [(4, 35), (1, 3), (4, 33), (4, 34)], [(3, 32), (1, 3), (3, 31), (0, 4)], [(3, 28), (1, 3), (3, 26), (3, 27)], [(4, 40), (1, 3), (4, 38), (4, 39)], [(3, 24), (1, 3), (3, 22), (3, 23)], [(3, 49), (1, 3), (3, 47), (3, 48)], [(2, 217), (1, 1), (2, 215), (2, 216)], [(3, 73), (1, 1), (3, 71), (3, 72)], [(2, 225), (1, 1), (2, 223), (2, 224)], [(4, 65), (1, 1), (4, 63), (4, 64)], [(4, 73), (1, 1), (4, 71), (4, 72)], [(4, 101), (1, 1), (4, 99), (4, 100)], [(4, 108), (1, 1), (4, 106), (4, 107)], [(4, 115), (1, 1), (4, 113), (4, 114)], [(4, 123), (1, 1), (4, 121), (4, 122)], [(4, 135), (1, 1), (4, 133), (4, 134)], [(4, 146), (1, 1), (4, 144), (4, 145)], [(4, 166), (1, 1), (4, 164), (4, 165)], [(4, 194), (1, 1), (4, 192), (4, 193)], [(4, 216), (1, 1), (4, 214), (4, 215)], [(4, 223), (1, 1), (4, 221), (4, 222)], [(4, 236), (1, 1), (4, 234), (4, 235)], [(5, 8), (1, 1), (5, 6), (5, 7)], [(5, 20), (1, 1), (5, 18), (5, 19)], [(5, 54), (1, 1), (5, 52), (5, 53)], [(5, 93), (1, 1), (5, 91), (5, 92)], [(5, 106), (1, 1), (5, 104), (5, 105)], [(5, 117), (1, 1), (5, 115), (5, 116)], [(5, 131), (1, 1), (5, 129), (5, 130)], [(5, 152), (1, 1), (5, 150), (5, 151)], [(5, 165), (1, 1), (5, 163), (5, 164)], [(5, 183), (1, 1), (5, 181), (5, 182)], [(2, 229), (1, 1), (2, 227), (2, 228)], [(5, 193), (1, 1), (5, 191), (5, 192)], [(5, 216), (1, 1), (5, 214), (5, 215)], [(6, 1), (1, 1), (5, 239), (6, 0)], [(2, 233), (1, 1), (2, 231), (2, 232)], [(6, 8), (1, 1), (6, 6), (6, 7)], [(6, 20), (1, 1), (6, 18), (6, 19)], [(3, 38), (1, 1), (3, 36), (3, 37)], [(3, 57), (1, 1), (3, 55), (3, 56)], [(3, 61), (1, 1), (3, 59), (3, 60)], [(3, 65), (1, 1), (3, 63), (3, 64)], [(2, 221), (1, 1), (2, 220), (0, 0)], [(4, 77), (1, 1), (4, 76), (0, 22)], [(4, 170), (1, 1), (4, 169), (0, 26)], [(3, 77), (1, 1), (3, 76), (0, 5)], [(4, 127), (1, 1), (4, 126), (0, 23)], [(4, 150), (1, 1), (4, 149), (0, 24)], [(5, 135), (1, 1), (5, 134), (0, 38)], [(4, 198), (1, 1), (4, 197), (0, 27)], [(3, 4), (1, 1), (3, 3)], [(4, 226), (1, 1), (4, 225)], [(4, 229), (1, 1), (4, 228)], [(6, 32), (1, 12), (6, 30), (6, 31)], [(7, 25), (1, 12), (7, 24), (0, 45)], [(7, 108), (1, 12), (7, 107)], [(7, 13), (1, 12), (7, 11), (7, 12)], [(7, 33), (1, 12), (7, 32), (0, 47)], [(7, 70), (1, 12), (7, 69), (0, 51)], [(7, 41), (1, 12), (7, 40), (0, 49)], [(7, 48), (1, 12), (7, 47)], [(7, 85), (1, 12), (7, 84)], [(7, 45), (1, 12), (7, 44), (0, 50)], [(7, 52), (1, 12), (7, 51)], [(7, 78), (1, 12), (7, 77), (0, 53)], [(7, 82), (1, 12), (7, 81), (0, 54)], [(7, 97), (1, 12), (7, 96), (0, 57)], [(7, 37), (1, 12), (7, 36), (0, 48)], [(7, 29), (1, 12), (7, 28), (0, 46)], [(7, 101), (1, 12), (7, 100), (0, 58)], [(7, 17), (1, 12), (7, 15), (7, 16)], [(6, 42), (1, 12), (6, 41), (0, 43)], [(6, 49), (1, 12), (6, 48)], [(6, 46), (1, 12), (6, 45), (0, 44)], [(7, 93), (1, 12), (7, 92), (0, 56)], [(7, 89), (1, 12), (7, 88), (0, 55)], [(7, 57), (1, 12), (7, 56)], [(7, 74), (1, 12), (7, 73), (0, 52)], [(7, 21), (1, 12), (7, 19), (7, 20)], [(7, 105), (1, 12), (7, 103), (7, 104)], [(7, 116), (1, 12), (7, 115), (0, 59)], [(7, 182), (1, 12), (7, 181), (0, 67)], [(7, 112), (1, 12), (7, 110), (7, 111)], [(7, 120), (1, 12), (7, 118), (7, 119)], [(7, 124), (1, 12), (7, 122), (7, 123)], [(7, 128), (1, 12), (7, 126), (7, 127)], [(7, 151), (1, 12), (7, 150)], [(7, 154), (1, 12), (7, 153)], [(7, 162), (1, 12), (7, 161), (0, 65)], [(7, 144), (1, 12), (7, 143), (0, 62)], [(7, 158), (1, 12), (7, 157), (0, 64)], [(7, 148), (1, 12), (7, 147), (0, 63)], [(7, 140), (1, 12), (7, 139), (0, 61)], [(7, 136), (1, 12), (7, 135), (0, 60)], [(7, 132), (1, 12), (7, 130), (7, 131)], [(7, 166), (1, 12), (7, 164), (7, 165)], [(7, 174), (1, 12), (7, 173), (0, 66)], [(7, 170), (1, 12), (7, 168), (7, 169)], [(7, 194), (1, 12), (7, 193), (0, 69)], [(7, 178), (1, 12), (7, 176), (7, 177)], [(7, 190), (1, 12), (7, 189), (0, 68)], [(7, 186), (1, 12), (7, 184), (7, 185)], [(7, 198), (1, 12), (7, 196), (7, 197)], [(7, 208), (1, 12), (7, 207)], [(7, 205), (1, 12), (7, 204)], [(7, 202), (1, 12), (7, 200), (7, 201)], [(7, 216), (1, 12), (7, 215), (0, 70)], [(7, 212), (1, 12), (7, 210), (7, 211)], [(7, 220), (1, 12), (7, 218), (7, 219)], [(7, 228), (1, 12), (7, 227), (0, 71)], [(7, 232), (1, 12), (7, 231), (0, 72)], [(7, 224), (1, 12), (7, 222), (7, 223)], [(8, 8), (1, 12), (8, 7), (0, 75)], [(8, 4), (1, 12), (8, 3), (0, 74)], [(8, 0), (1, 12), (7, 239), (0, 73)], [(7, 236), (1, 12), (7, 234), (7, 235)], [(8, 12), (1, 12), (8, 10), (8, 11)], [(8, 16), (1, 12), (8, 14), (8, 15)], [(8, 23), (1, 12), (8, 22)], [(8, 20), (1, 12), (8, 18), (8, 19)], [(8, 34), (1, 12), (8, 33), (0, 76)], [(8, 38), (1, 12), (8, 37), (0, 77)], [(8, 46), (1, 12), (8, 45), (0, 78)], [(8, 30), (1, 12), (8, 29)], [(8, 27), (1, 12), (8, 25), (8, 26)], [(8, 42), (1, 12), (8, 40), (8, 41)], [(8, 53), (1, 12), (8, 52)], [(8, 50), (1, 12), (8, 48), (8, 49)], [(8, 57), (1, 12), (8, 55), (8, 56)], [(8, 61), (1, 12), (8, 59), (8, 60)], [(8, 77), (1, 12), (8, 76), (0, 81)], [(8, 73), (1, 12), (8, 72), (0, 80)], [(8, 69), (1, 12), (8, 68), (0, 79)], [(8, 65), (1, 12), (8, 63), (8, 64)], [(8, 81), (1, 12), (8, 79), (8, 80)], [(8, 85), (1, 12), (8, 83), (8, 84)], [(8, 89), (1, 12), (8, 87), (8, 88)], [(8, 93), (1, 12), (8, 91), (8, 92)], [(8, 97), (1, 12), (8, 95), (8, 96)], [(8, 109), (1, 12), (8, 108), (0, 83)], [(8, 105), (1, 12), (8, 104), (0, 82)], [(8, 101), (1, 12), (8, 99), (8, 100)], [(8, 113), (1, 12), (8, 111), (8, 112)], [(8, 117), (1, 12), (8, 115), (8, 116)], [(8, 121), (1, 12), (8, 119), (8, 120)], [(3, 190), (1, 17), (3, 188), (3, 189)], [(3, 200), (1, 17), (3, 198), (3, 199)], [(3, 194), (1, 17), (3, 192), (3, 193)], [(3, 204), (1, 17), (3, 202), (3, 203)], [(3, 210), (1, 17), (3, 209)], [(3, 207), (1, 18), (3, 206)], [(3, 215), (1, 19), (3, 214)], [(5, 124), (1, 24), (5, 123)], [(5, 172), (1, 24), (5, 171)]]
set_option maxRecDepth 100000 in
theorem mb_a : (am_ms.zip mh_a).all am_mb = true := by decide +kernel
def am_cw (e : am_Me) : Prop := Cond.code (am_y e) (am_code e) (am_mL e) (am_rt e) ∈ am_gw
theorem am_cw_of {e : am_Me} (t i : Nat) (h : am_nth (am_tb t) i = some (.code (am_y e) (am_code e) (am_mL e) (am_rt e))) : am_cw e := List.mem_filter.mpr ⟨am_tb_in _ _ (am_nth_in _ _ _ h), rfl⟩
theorem mc_X0_findSets : am_cw me_X0_findSets := am_cw_of 5 197 rfl
theorem mc_X0_bookIsSo : am_cw me_X0_bookIsSo := am_cw_of 5 202 rfl
theorem mc_X0_findQuestion : am_cw me_X0_findQuestion := am_cw_of 5 220 rfl
theorem mc_X0_tallyCells : am_cw me_X0_tallyCells := am_cw_of 5 224 rfl
theorem mc_X0_chooseQuestion : am_cw me_X0_chooseQuestion := am_cw_of 5 229 rfl
theorem mc_X0_leftAtWorst : am_cw me_X0_leftAtWorst := am_cw_of 5 233 rfl
theorem mc_X1_gainBy : am_cw me_X1_gainBy := am_cw_of 5 12 rfl
theorem mc_X1_findLeastBuilding : am_cw me_X1_findLeastBuilding := am_cw_of 5 24 rfl
theorem mc_X1_costOf : am_cw me_X1_costOf := am_cw_of 5 33 rfl
theorem mc_X1_mostWith : am_cw me_X1_mostWith := am_cw_of 5 38 rfl
theorem mc_X1_findRests : am_cw me_X1_findRests := am_cw_of 5 58 rfl
theorem mc_X1_fillWorths : am_cw me_X1_fillWorths := am_cw_of 5 62 rfl
theorem mc_X1_isOpen : am_cw me_X1_isOpen := am_cw_of 5 70 rfl
theorem mc_X1_isRest : am_cw me_X1_isRest := am_cw_of 5 66 rfl
theorem mc_X1_hasBetter : am_cw me_X1_hasBetter := am_cw_of 5 74 rfl
theorem mc_X1_outcome : am_cw me_X1_outcome := am_cw_of 5 78 rfl
theorem mc_X1_digitsOfChoices : am_cw me_X1_digitsOfChoices := am_cw_of 5 82 rfl
theorem mc_X1_nextRow : am_cw me_X1_nextRow := am_cw_of 5 86 rfl
theorem mc_X2_clear : am_cw me_X2_clear := am_cw_of 3 156 rfl
theorem mc_X2_take : am_cw me_X2_take := am_cw_of 3 42 rfl
theorem mc_X2_bare : am_cw me_X2_bare := am_cw_of 5 28 rfl
theorem mc_X2_raise : am_cw me_X2_raise := am_cw_of 5 42 rfl
theorem mc_X2_lower : am_cw me_X2_lower := am_cw_of 5 47 rfl
theorem mc_X3_survey : am_cw me_X3_survey := am_cw_of 4 202 rfl
theorem mc_X3_noteCount : am_cw me_X3_noteCount := am_cw_of 4 209 rfl
theorem mc_X3_worthBy : am_cw me_X3_worthBy := am_cw_of 5 0 rfl
theorem mc_X3_mostForDeaf : am_cw me_X3_mostForDeaf := am_cw_of 6 24 rfl
theorem mc_X3_fairPart : am_cw me_X3_fairPart := am_cw_of 5 97 rfl
theorem mc_X3_bestTrade : am_cw me_X3_bestTrade := am_cw_of 5 110 rfl
theorem mc_X3_unlikePairs : am_cw me_X3_unlikePairs := am_cw_of 5 121 rfl
theorem mc_X4_clear : am_cw me_X4_clear := am_cw_of 3 152 rfl
theorem mc_X4_take : am_cw me_X4_take := am_cw_of 4 57 rfl
theorem mc_X5_readAll : am_cw me_X5_readAll := am_cw_of 3 148 rfl
theorem mc_X5_readKind : am_cw me_X5_readKind := am_cw_of 3 165 rfl
theorem mc_X5_readNumbers : am_cw me_X5_readNumbers := am_cw_of 4 10 rfl
theorem mc_X5_isFull : am_cw me_X5_isFull := am_cw_of 4 2 rfl
theorem mc_X5_readSize : am_cw me_X5_readSize := am_cw_of 4 14 rfl
theorem mc_X5_readThing : am_cw me_X5_readThing := am_cw_of 4 22 rfl
theorem mc_X5_readPlace : am_cw me_X5_readPlace := am_cw_of 4 31 rfl
theorem mc_X5_readPlaceWith : am_cw me_X5_readPlaceWith := am_cw_of 4 27 rfl
theorem mc_X5_readField : am_cw me_X5_readField := am_cw_of 4 44 rfl
theorem mc_X5_readSeason : am_cw me_X5_readSeason := am_cw_of 4 49 rfl
theorem mc_X5_readEnd : am_cw me_X5_readEnd := am_cw_of 4 53 rfl
theorem mc_X5_readNumber : am_cw me_X5_readNumber := am_cw_of 4 18 rfl
theorem mc_X5_readWord : am_cw me_X5_readWord := am_cw_of 3 169 rfl
theorem mc_X5_isWord : am_cw me_X5_isWord := am_cw_of 3 186 rfl
theorem mc_X5_wordOf : am_cw me_X5_wordOf := am_cw_of 3 172 rfl
theorem mc_X5_skipBlanks : am_cw me_X5_skipBlanks := am_cw_of 3 161 rfl
theorem mc_X5_refuse : am_cw me_X5_refuse := am_cw_of 3 238 rfl
theorem mc_X6_shout : am_cw me_X6_shout := am_cw_of 3 8 rfl
theorem mc_X6_follow : am_cw me_X6_follow := am_cw_of 3 12 rfl
theorem mc_X6_addEcho : am_cw me_X6_addEcho := am_cw_of 3 20 rfl
theorem mc_X6_tellEcho : am_cw me_X6_tellEcho := am_cw_of 4 139 rfl
theorem mc_X6_countBy : am_cw me_X6_countBy := am_cw_of 4 154 rfl
theorem mc_X6_countTimes : am_cw me_X6_countTimes := am_cw_of 4 158 rfl
theorem mc_X6_countStrong : am_cw me_X6_countStrong := am_cw_of 6 28 rfl
theorem mc_X6_countAt : am_cw me_X6_countAt := am_cw_of 5 208 rfl
theorem mc_X6_snowsFalling : am_cw me_X6_snowsFalling := am_cw_of 2 237 rfl
theorem mc_X6_greatestHush : am_cw me_X6_greatestHush := am_cw_of 6 12 rfl
theorem mc_X6_shoutForPeaks : am_cw me_X6_shoutForPeaks := am_cw_of 3 1 rfl
theorem mc_X7_listen : am_cw me_X7_listen := am_cw_of 5 139 rfl
theorem mc_X7_strengthOfSong : am_cw me_X7_strengthOfSong := am_cw_of 5 145 rfl
theorem mc_X7_findPeak : am_cw me_X7_findPeak := am_cw_of 5 156 rfl
theorem mc_X7_bestSong : am_cw me_X7_bestSong := am_cw_of 5 169 rfl
theorem mc_X8_isFull : am_cw me_X8_isFull := am_cw_of 4 6 rfl
theorem mc_X8_open : am_cw me_X8_open := am_cw_of 4 35 rfl
theorem mc_X8_has : am_cw me_X8_has := am_cw_of 3 32 rfl
theorem mc_X8_at : am_cw me_X8_at := am_cw_of 3 28 rfl
theorem mc_X8_put : am_cw me_X8_put := am_cw_of 4 40 rfl
theorem mc_X8_cellAt : am_cw me_X8_cellAt := am_cw_of 3 24 rfl
theorem mc_X8_take : am_cw me_X8_take := am_cw_of 3 49 rfl
theorem mc_X9_feed : am_cw me_X9_feed := am_cw_of 2 217 rfl
theorem mc_X9_valley : am_cw me_X9_valley := am_cw_of 3 73 rfl
theorem mc_X9_fault : am_cw me_X9_fault := am_cw_of 2 225 rfl
theorem mc_X9_told : am_cw me_X9_told := am_cw_of 4 65 rfl
theorem mc_X9_cell : am_cw me_X9_cell := am_cw_of 4 73 rfl
theorem mc_X9_build : am_cw me_X9_build := am_cw_of 4 101 rfl
theorem mc_X9_fell : am_cw me_X9_fell := am_cw_of 4 108 rfl
theorem mc_X9_years : am_cw me_X9_years := am_cw_of 4 115 rfl
theorem mc_X9_echoes : am_cw me_X9_echoes := am_cw_of 4 123 rfl
theorem mc_X9_echo : am_cw me_X9_echo := am_cw_of 4 135 rfl
theorem mc_X9_count : am_cw me_X9_count := am_cw_of 4 146 rfl
theorem mc_X9_field : am_cw me_X9_field := am_cw_of 4 166 rfl
theorem mc_X9_most : am_cw me_X9_most := am_cw_of 4 194 rfl
theorem mc_X9_least : am_cw me_X9_least := am_cw_of 4 216 rfl
theorem mc_X9_mean : am_cw me_X9_mean := am_cw_of 4 223 rfl
theorem mc_X9_worth : am_cw me_X9_worth := am_cw_of 4 236 rfl
theorem mc_X9_gain : am_cw me_X9_gain := am_cw_of 5 8 rfl
theorem mc_X9_building : am_cw me_X9_building := am_cw_of 5 20 rfl
theorem mc_X9_rests : am_cw me_X9_rests := am_cw_of 5 54 rfl
theorem mc_X9_fair : am_cw me_X9_fair := am_cw_of 5 93 rfl
theorem mc_X9_trade : am_cw me_X9_trade := am_cw_of 5 106 rfl
theorem mc_X9_unlike : am_cw me_X9_unlike := am_cw_of 5 117 rfl
theorem mc_X9_heard : am_cw me_X9_heard := am_cw_of 5 131 rfl
theorem mc_X9_loudest : am_cw me_X9_loudest := am_cw_of 5 152 rfl
theorem mc_X9_compose : am_cw me_X9_compose := am_cw_of 5 165 rfl
theorem mc_X9_book : am_cw me_X9_book := am_cw_of 5 183 rfl
theorem mc_X9_forget : am_cw me_X9_forget := am_cw_of 2 229 rfl
theorem mc_X9_explain : am_cw me_X9_explain := am_cw_of 5 193 rfl
theorem mc_X9_ask : am_cw me_X9_ask := am_cw_of 5 216 rfl
theorem mc_X9_snows : am_cw me_X9_snows := am_cw_of 6 1 rfl
theorem mc_X9_safe : am_cw me_X9_safe := am_cw_of 2 233 rfl
theorem mc_X9_hush : am_cw me_X9_hush := am_cw_of 6 8 rfl
theorem mc_X9_deaf : am_cw me_X9_deaf := am_cw_of 6 20 rfl
theorem mc_X9_image : am_cw me_X9_image := am_cw_of 3 38 rfl
theorem mc_X9_restore : am_cw me_X9_restore := am_cw_of 3 57 rfl
theorem mc_X9_status : am_cw me_X9_status := am_cw_of 3 61 rfl
theorem mc_X9_sums : am_cw me_X9_sums := am_cw_of 3 65 rfl
theorem mc_X9_putOnTape : am_cw me_X9_putOnTape := am_cw_of 2 221 rfl
theorem mc_X9_needCell : am_cw me_X9_needCell := am_cw_of 4 77 rfl
theorem mc_X9_needField : am_cw me_X9_needField := am_cw_of 4 170 rfl
theorem mc_X9_needBetween : am_cw me_X9_needBetween := am_cw_of 3 77 rfl
theorem mc_X9_needFog : am_cw me_X9_needFog := am_cw_of 4 127 rfl
theorem mc_X9_needLaw : am_cw me_X9_needLaw := am_cw_of 4 150 rfl
theorem mc_X9_needNotes : am_cw me_X9_needNotes := am_cw_of 5 135 rfl
theorem mc_X9_needSurvey : am_cw me_X9_needSurvey := am_cw_of 4 198 rfl
theorem mc_X9_cellOf : am_cw me_X9_cellOf := am_cw_of 3 4 rfl
theorem mc_X9_partOfFraction : am_cw me_X9_partOfFraction := am_cw_of 4 226 rfl
theorem mc_X9_commonDivisor : am_cw me_X9_commonDivisor := am_cw_of 4 229 rfl
theorem mc_X10_thrown : am_cw me_X10_thrown := am_cw_of 6 32 rfl
theorem mc_X10_may : am_cw me_X10_may := am_cw_of 7 25 rfl
theorem mc_X10_within : am_cw me_X10_within := am_cw_of 7 108 rfl
theorem mc_X10_feed : am_cw me_X10_feed := am_cw_of 7 13 rfl
theorem mc_X10_fine : am_cw me_X10_fine := am_cw_of 7 33 rfl
theorem mc_X10_wrong : am_cw me_X10_wrong := am_cw_of 7 70 rfl
theorem mc_X10_here : am_cw me_X10_here := am_cw_of 7 41 rfl
theorem mc_X10_isSmall : am_cw me_X10_isSmall := am_cw_of 7 48 rfl
theorem mc_X10_isDigit : am_cw me_X10_isDigit := am_cw_of 7 85 rfl
theorem mc_X10_word : am_cw me_X10_word := am_cw_of 7 45 rfl
theorem mc_X10_of : am_cw me_X10_of := am_cw_of 7 52 rfl
theorem mc_X10_pass : am_cw me_X10_pass := am_cw_of 7 78 rfl
theorem mc_X10_readNumber : am_cw me_X10_readNumber := am_cw_of 7 82 rfl
theorem mc_X10_sign : am_cw me_X10_sign := am_cw_of 7 97 rfl
theorem mc_X10_isMore : am_cw me_X10_isMore := am_cw_of 7 37 rfl
theorem mc_X10_begins : am_cw me_X10_begins := am_cw_of 7 29 rfl
theorem mc_X10_result : am_cw me_X10_result := am_cw_of 7 101 rfl
theorem mc_X10_fault : am_cw me_X10_fault := am_cw_of 7 17 rfl
theorem mc_X10_clears : am_cw me_X10_clears := am_cw_of 6 42 rfl
theorem mc_X10_copies : am_cw me_X10_copies := am_cw_of 6 49 rfl
theorem mc_X10_sets : am_cw me_X10_sets := am_cw_of 6 46 rfl
theorem mc_X10_readCell : am_cw me_X10_readCell := am_cw_of 7 93 rfl
theorem mc_X10_readOther : am_cw me_X10_readOther := am_cw_of 7 89 rfl
theorem mc_X10_isOther : am_cw me_X10_isOther := am_cw_of 7 57 rfl
theorem mc_X10_isFull : am_cw me_X10_isFull := am_cw_of 7 74 rfl
theorem mc_X10_valley : am_cw me_X10_valley := am_cw_of 7 21 rfl
theorem mc_X10_told : am_cw me_X10_told := am_cw_of 7 105 rfl
theorem mc_X10_isCell : am_cw me_X10_isCell := am_cw_of 7 116 rfl
theorem mc_X10_isField : am_cw me_X10_isField := am_cw_of 7 182 rfl
theorem mc_X10_cell : am_cw me_X10_cell := am_cw_of 7 112 rfl
theorem mc_X10_build : am_cw me_X10_build := am_cw_of 7 120 rfl
theorem mc_X10_fell : am_cw me_X10_fell := am_cw_of 7 124 rfl
theorem mc_X10_years : am_cw me_X10_years := am_cw_of 7 128 rfl
theorem mc_X10_across : am_cw me_X10_across := am_cw_of 7 151 rfl
theorem mc_X10_down : am_cw me_X10_down := am_cw_of 7 154 rfl
theorem mc_X10_hard : am_cw me_X10_hard := am_cw_of 7 162 rfl
theorem mc_X10_falls : am_cw me_X10_falls := am_cw_of 7 144 rfl
theorem mc_X10_puts : am_cw me_X10_puts := am_cw_of 7 158 rfl
theorem mc_X10_goes : am_cw me_X10_goes := am_cw_of 7 148 rfl
theorem mc_X10_shouts : am_cw me_X10_shouts := am_cw_of 7 140 rfl
theorem mc_X10_isFog : am_cw me_X10_isFog := am_cw_of 7 136 rfl
theorem mc_X10_echoes : am_cw me_X10_echoes := am_cw_of 7 132 rfl
theorem mc_X10_echo : am_cw me_X10_echo := am_cw_of 7 166 rfl
theorem mc_X10_countOf : am_cw me_X10_countOf := am_cw_of 7 174 rfl
theorem mc_X10_count : am_cw me_X10_count := am_cw_of 7 170 rfl
theorem mc_X10_findField : am_cw me_X10_findField := am_cw_of 7 194 rfl
theorem mc_X10_field : am_cw me_X10_field := am_cw_of 7 178 rfl
theorem mc_X10_foundOf : am_cw me_X10_foundOf := am_cw_of 7 190 rfl
theorem mc_X10_most : am_cw me_X10_most := am_cw_of 7 186 rfl
theorem mc_X10_least : am_cw me_X10_least := am_cw_of 7 198 rfl
theorem mc_X10_divisor : am_cw me_X10_divisor := am_cw_of 7 208 rfl
theorem mc_X10_fraction : am_cw me_X10_fraction := am_cw_of 7 205 rfl
theorem mc_X10_mean : am_cw me_X10_mean := am_cw_of 7 202 rfl
theorem mc_X10_worthBy : am_cw me_X10_worthBy := am_cw_of 7 216 rfl
theorem mc_X10_worth : am_cw me_X10_worth := am_cw_of 7 212 rfl
theorem mc_X10_gain : am_cw me_X10_gain := am_cw_of 7 220 rfl
theorem mc_X10_openSites : am_cw me_X10_openSites := am_cw_of 7 228 rfl
theorem mc_X10_stands : am_cw me_X10_stands := am_cw_of 7 232 rfl
theorem mc_X10_building : am_cw me_X10_building := am_cw_of 7 224 rfl
theorem mc_X10_barns : am_cw me_X10_barns := am_cw_of 8 8 rfl
theorem mc_X10_gets : am_cw me_X10_gets := am_cw_of 8 4 rfl
theorem mc_X10_isRest : am_cw me_X10_isRest := am_cw_of 8 0 rfl
theorem mc_X10_rests : am_cw me_X10_rests := am_cw_of 7 236 rfl
theorem mc_X10_fair : am_cw me_X10_fair := am_cw_of 8 12 rfl
theorem mc_X10_trade : am_cw me_X10_trade := am_cw_of 8 16 rfl
theorem mc_X10_sideOf : am_cw me_X10_sideOf := am_cw_of 8 23 rfl
theorem mc_X10_unlike : am_cw me_X10_unlike := am_cw_of 8 20 rfl
theorem mc_X10_listens : am_cw me_X10_listens := am_cw_of 8 34 rfl
theorem mc_X10_heardAt : am_cw me_X10_heardAt := am_cw_of 8 38 rfl
theorem mc_X10_findLoudest : am_cw me_X10_findLoudest := am_cw_of 8 46 rfl
theorem mc_X10_areNotes : am_cw me_X10_areNotes := am_cw_of 8 30 rfl
theorem mc_X10_heard : am_cw me_X10_heard := am_cw_of 8 27 rfl
theorem mc_X10_loudest : am_cw me_X10_loudest := am_cw_of 8 42 rfl
theorem mc_X10_ones : am_cw me_X10_ones := am_cw_of 8 53 rfl
theorem mc_X10_compose : am_cw me_X10_compose := am_cw_of 8 50 rfl
theorem mc_X10_book : am_cw me_X10_book := am_cw_of 8 57 rfl
theorem mc_X10_forget : am_cw me_X10_forget := am_cw_of 8 61 rfl
theorem mc_X10_wonders : am_cw me_X10_wonders := am_cw_of 8 77 rfl
theorem mc_X10_explains : am_cw me_X10_explains := am_cw_of 8 73 rfl
theorem mc_X10_findSo : am_cw me_X10_findSo := am_cw_of 8 69 rfl
theorem mc_X10_explain : am_cw me_X10_explain := am_cw_of 8 65 rfl
theorem mc_X10_ask : am_cw me_X10_ask := am_cw_of 8 81 rfl
theorem mc_X10_snows : am_cw me_X10_snows := am_cw_of 8 85 rfl
theorem mc_X10_safe : am_cw me_X10_safe := am_cw_of 8 89 rfl
theorem mc_X10_hush : am_cw me_X10_hush := am_cw_of 8 93 rfl
theorem mc_X10_deaf : am_cw me_X10_deaf := am_cw_of 8 97 rfl
theorem mc_X10_keeps : am_cw me_X10_keeps := am_cw_of 8 109 rfl
theorem mc_X10_keepsAll : am_cw me_X10_keepsAll := am_cw_of 8 105 rfl
theorem mc_X10_image : am_cw me_X10_image := am_cw_of 8 101 rfl
theorem mc_X10_restore : am_cw me_X10_restore := am_cw_of 8 113 rfl
theorem mc_X10_status : am_cw me_X10_status := am_cw_of 8 117 rfl
theorem mc_X10_sums : am_cw me_X10_sums := am_cw_of 8 121 rfl
theorem mc_J0_length_8abf5 : am_cw me_J0_length_8abf5 := am_cw_of 3 190 rfl
theorem mc_J0_charAt_5068e : am_cw me_J0_charAt_5068e := am_cw_of 3 200 rfl
theorem mc_J0_coder_7d493 : am_cw me_J0_coder_7d493 := am_cw_of 3 194 rfl
theorem mc_J0_isLatin1_aae02 : am_cw me_J0_isLatin1_aae02 := am_cw_of 3 204 rfl
theorem mc_J0_checkIndex_df160 : am_cw me_J0_checkIndex_df160 := am_cw_of 3 210 rfl
theorem mc_J1_charAt_3b067 : am_cw me_J1_charAt_3b067 := am_cw_of 3 207 rfl
theorem mc_J3_checkIndex_8e157 : am_cw me_J3_checkIndex_8e157 := am_cw_of 3 215 rfl
theorem mc_J6_compare_7cf53 : am_cw me_J6_compare_7cf53 := am_cw_of 5 124 rfl
theorem mc_J6_bitCount_0f7a4 : am_cw me_J6_bitCount_0f7a4 := am_cw_of 5 172 rfl
set_option maxRecDepth 100000 in
theorem mc_a : ∀ e ∈ am_ms, am_cw e := List.forall_mem_cons.mpr ⟨mc_X0_findSets, List.forall_mem_cons.mpr ⟨mc_X0_bookIsSo, List.forall_mem_cons.mpr ⟨mc_X0_findQuestion, List.forall_mem_cons.mpr ⟨mc_X0_tallyCells, List.forall_mem_cons.mpr ⟨mc_X0_chooseQuestion, List.forall_mem_cons.mpr ⟨mc_X0_leftAtWorst, List.forall_mem_cons.mpr ⟨mc_X1_gainBy, List.forall_mem_cons.mpr ⟨mc_X1_findLeastBuilding, List.forall_mem_cons.mpr ⟨mc_X1_costOf, List.forall_mem_cons.mpr ⟨mc_X1_mostWith, List.forall_mem_cons.mpr ⟨mc_X1_findRests, List.forall_mem_cons.mpr ⟨mc_X1_fillWorths, List.forall_mem_cons.mpr ⟨mc_X1_isOpen, List.forall_mem_cons.mpr ⟨mc_X1_isRest, List.forall_mem_cons.mpr ⟨mc_X1_hasBetter, List.forall_mem_cons.mpr ⟨mc_X1_outcome, List.forall_mem_cons.mpr ⟨mc_X1_digitsOfChoices, List.forall_mem_cons.mpr ⟨mc_X1_nextRow, List.forall_mem_cons.mpr ⟨mc_X2_clear, List.forall_mem_cons.mpr ⟨mc_X2_take, List.forall_mem_cons.mpr ⟨mc_X2_bare, List.forall_mem_cons.mpr ⟨mc_X2_raise, List.forall_mem_cons.mpr ⟨mc_X2_lower, List.forall_mem_cons.mpr ⟨mc_X3_survey, List.forall_mem_cons.mpr ⟨mc_X3_noteCount, List.forall_mem_cons.mpr ⟨mc_X3_worthBy, List.forall_mem_cons.mpr ⟨mc_X3_mostForDeaf, List.forall_mem_cons.mpr ⟨mc_X3_fairPart, List.forall_mem_cons.mpr ⟨mc_X3_bestTrade, List.forall_mem_cons.mpr ⟨mc_X3_unlikePairs, List.forall_mem_cons.mpr ⟨mc_X4_clear, List.forall_mem_cons.mpr ⟨mc_X4_take, List.forall_mem_cons.mpr ⟨mc_X5_readAll, List.forall_mem_cons.mpr ⟨mc_X5_readKind, List.forall_mem_cons.mpr ⟨mc_X5_readNumbers, List.forall_mem_cons.mpr ⟨mc_X5_isFull, List.forall_mem_cons.mpr ⟨mc_X5_readSize, List.forall_mem_cons.mpr ⟨mc_X5_readThing, List.forall_mem_cons.mpr ⟨mc_X5_readPlace, List.forall_mem_cons.mpr ⟨mc_X5_readPlaceWith, List.forall_mem_cons.mpr ⟨mc_X5_readField, List.forall_mem_cons.mpr ⟨mc_X5_readSeason, List.forall_mem_cons.mpr ⟨mc_X5_readEnd, List.forall_mem_cons.mpr ⟨mc_X5_readNumber, List.forall_mem_cons.mpr ⟨mc_X5_readWord, List.forall_mem_cons.mpr ⟨mc_X5_isWord, List.forall_mem_cons.mpr ⟨mc_X5_wordOf, List.forall_mem_cons.mpr ⟨mc_X5_skipBlanks, List.forall_mem_cons.mpr ⟨mc_X5_refuse, List.forall_mem_cons.mpr ⟨mc_X6_shout, List.forall_mem_cons.mpr ⟨mc_X6_follow, List.forall_mem_cons.mpr ⟨mc_X6_addEcho, List.forall_mem_cons.mpr ⟨mc_X6_tellEcho, List.forall_mem_cons.mpr ⟨mc_X6_countBy, List.forall_mem_cons.mpr ⟨mc_X6_countTimes, List.forall_mem_cons.mpr ⟨mc_X6_countStrong, List.forall_mem_cons.mpr ⟨mc_X6_countAt, List.forall_mem_cons.mpr ⟨mc_X6_snowsFalling, List.forall_mem_cons.mpr ⟨mc_X6_greatestHush, List.forall_mem_cons.mpr ⟨mc_X6_shoutForPeaks, List.forall_mem_cons.mpr ⟨mc_X7_listen, List.forall_mem_cons.mpr ⟨mc_X7_strengthOfSong, List.forall_mem_cons.mpr ⟨mc_X7_findPeak, List.forall_mem_cons.mpr ⟨mc_X7_bestSong, List.forall_mem_cons.mpr ⟨mc_X8_isFull, List.forall_mem_cons.mpr ⟨mc_X8_open, List.forall_mem_cons.mpr ⟨mc_X8_has, List.forall_mem_cons.mpr ⟨mc_X8_at, List.forall_mem_cons.mpr ⟨mc_X8_put, List.forall_mem_cons.mpr ⟨mc_X8_cellAt, List.forall_mem_cons.mpr ⟨mc_X8_take, List.forall_mem_cons.mpr ⟨mc_X9_feed, List.forall_mem_cons.mpr ⟨mc_X9_valley, List.forall_mem_cons.mpr ⟨mc_X9_fault, List.forall_mem_cons.mpr ⟨mc_X9_told, List.forall_mem_cons.mpr ⟨mc_X9_cell, List.forall_mem_cons.mpr ⟨mc_X9_build, List.forall_mem_cons.mpr ⟨mc_X9_fell, List.forall_mem_cons.mpr ⟨mc_X9_years, List.forall_mem_cons.mpr ⟨mc_X9_echoes, List.forall_mem_cons.mpr ⟨mc_X9_echo, List.forall_mem_cons.mpr ⟨mc_X9_count, List.forall_mem_cons.mpr ⟨mc_X9_field, List.forall_mem_cons.mpr ⟨mc_X9_most, List.forall_mem_cons.mpr ⟨mc_X9_least, List.forall_mem_cons.mpr ⟨mc_X9_mean, List.forall_mem_cons.mpr ⟨mc_X9_worth, List.forall_mem_cons.mpr ⟨mc_X9_gain, List.forall_mem_cons.mpr ⟨mc_X9_building, List.forall_mem_cons.mpr ⟨mc_X9_rests, List.forall_mem_cons.mpr ⟨mc_X9_fair, List.forall_mem_cons.mpr ⟨mc_X9_trade, List.forall_mem_cons.mpr ⟨mc_X9_unlike, List.forall_mem_cons.mpr ⟨mc_X9_heard, List.forall_mem_cons.mpr ⟨mc_X9_loudest, List.forall_mem_cons.mpr ⟨mc_X9_compose, List.forall_mem_cons.mpr ⟨mc_X9_book, List.forall_mem_cons.mpr ⟨mc_X9_forget, List.forall_mem_cons.mpr ⟨mc_X9_explain, List.forall_mem_cons.mpr ⟨mc_X9_ask, List.forall_mem_cons.mpr ⟨mc_X9_snows, List.forall_mem_cons.mpr ⟨mc_X9_safe, List.forall_mem_cons.mpr ⟨mc_X9_hush, List.forall_mem_cons.mpr ⟨mc_X9_deaf, List.forall_mem_cons.mpr ⟨mc_X9_image, List.forall_mem_cons.mpr ⟨mc_X9_restore, List.forall_mem_cons.mpr ⟨mc_X9_status, List.forall_mem_cons.mpr ⟨mc_X9_sums, List.forall_mem_cons.mpr ⟨mc_X9_putOnTape, List.forall_mem_cons.mpr ⟨mc_X9_needCell, List.forall_mem_cons.mpr ⟨mc_X9_needField, List.forall_mem_cons.mpr ⟨mc_X9_needBetween, List.forall_mem_cons.mpr ⟨mc_X9_needFog, List.forall_mem_cons.mpr ⟨mc_X9_needLaw, List.forall_mem_cons.mpr ⟨mc_X9_needNotes, List.forall_mem_cons.mpr ⟨mc_X9_needSurvey, List.forall_mem_cons.mpr ⟨mc_X9_cellOf, List.forall_mem_cons.mpr ⟨mc_X9_partOfFraction, List.forall_mem_cons.mpr ⟨mc_X9_commonDivisor, List.forall_mem_cons.mpr ⟨mc_X10_thrown, List.forall_mem_cons.mpr ⟨mc_X10_may, List.forall_mem_cons.mpr ⟨mc_X10_within, List.forall_mem_cons.mpr ⟨mc_X10_feed, List.forall_mem_cons.mpr ⟨mc_X10_fine, List.forall_mem_cons.mpr ⟨mc_X10_wrong, List.forall_mem_cons.mpr ⟨mc_X10_here, List.forall_mem_cons.mpr ⟨mc_X10_isSmall, List.forall_mem_cons.mpr ⟨mc_X10_isDigit, List.forall_mem_cons.mpr ⟨mc_X10_word, List.forall_mem_cons.mpr ⟨mc_X10_of, List.forall_mem_cons.mpr ⟨mc_X10_pass, List.forall_mem_cons.mpr ⟨mc_X10_readNumber, List.forall_mem_cons.mpr ⟨mc_X10_sign, List.forall_mem_cons.mpr ⟨mc_X10_isMore, List.forall_mem_cons.mpr ⟨mc_X10_begins, List.forall_mem_cons.mpr ⟨mc_X10_result, List.forall_mem_cons.mpr ⟨mc_X10_fault, List.forall_mem_cons.mpr ⟨mc_X10_clears, List.forall_mem_cons.mpr ⟨mc_X10_copies, List.forall_mem_cons.mpr ⟨mc_X10_sets, List.forall_mem_cons.mpr ⟨mc_X10_readCell, List.forall_mem_cons.mpr ⟨mc_X10_readOther, List.forall_mem_cons.mpr ⟨mc_X10_isOther, List.forall_mem_cons.mpr ⟨mc_X10_isFull, List.forall_mem_cons.mpr ⟨mc_X10_valley, List.forall_mem_cons.mpr ⟨mc_X10_told, List.forall_mem_cons.mpr ⟨mc_X10_isCell, List.forall_mem_cons.mpr ⟨mc_X10_isField, List.forall_mem_cons.mpr ⟨mc_X10_cell, List.forall_mem_cons.mpr ⟨mc_X10_build, List.forall_mem_cons.mpr ⟨mc_X10_fell, List.forall_mem_cons.mpr ⟨mc_X10_years, List.forall_mem_cons.mpr ⟨mc_X10_across, List.forall_mem_cons.mpr ⟨mc_X10_down, List.forall_mem_cons.mpr ⟨mc_X10_hard, List.forall_mem_cons.mpr ⟨mc_X10_falls, List.forall_mem_cons.mpr ⟨mc_X10_puts, List.forall_mem_cons.mpr ⟨mc_X10_goes, List.forall_mem_cons.mpr ⟨mc_X10_shouts, List.forall_mem_cons.mpr ⟨mc_X10_isFog, List.forall_mem_cons.mpr ⟨mc_X10_echoes, List.forall_mem_cons.mpr ⟨mc_X10_echo, List.forall_mem_cons.mpr ⟨mc_X10_countOf, List.forall_mem_cons.mpr ⟨mc_X10_count, List.forall_mem_cons.mpr ⟨mc_X10_findField, List.forall_mem_cons.mpr ⟨mc_X10_field, List.forall_mem_cons.mpr ⟨mc_X10_foundOf, List.forall_mem_cons.mpr ⟨mc_X10_most, List.forall_mem_cons.mpr ⟨mc_X10_least, List.forall_mem_cons.mpr ⟨mc_X10_divisor, List.forall_mem_cons.mpr ⟨mc_X10_fraction, List.forall_mem_cons.mpr ⟨mc_X10_mean, List.forall_mem_cons.mpr ⟨mc_X10_worthBy, List.forall_mem_cons.mpr ⟨mc_X10_worth, List.forall_mem_cons.mpr ⟨mc_X10_gain, List.forall_mem_cons.mpr ⟨mc_X10_openSites, List.forall_mem_cons.mpr ⟨mc_X10_stands, List.forall_mem_cons.mpr ⟨mc_X10_building, List.forall_mem_cons.mpr ⟨mc_X10_barns, List.forall_mem_cons.mpr ⟨mc_X10_gets, List.forall_mem_cons.mpr ⟨mc_X10_isRest, List.forall_mem_cons.mpr ⟨mc_X10_rests, List.forall_mem_cons.mpr ⟨mc_X10_fair, List.forall_mem_cons.mpr ⟨mc_X10_trade, List.forall_mem_cons.mpr ⟨mc_X10_sideOf, List.forall_mem_cons.mpr ⟨mc_X10_unlike, List.forall_mem_cons.mpr ⟨mc_X10_listens, List.forall_mem_cons.mpr ⟨mc_X10_heardAt, List.forall_mem_cons.mpr ⟨mc_X10_findLoudest, List.forall_mem_cons.mpr ⟨mc_X10_areNotes, List.forall_mem_cons.mpr ⟨mc_X10_heard, List.forall_mem_cons.mpr ⟨mc_X10_loudest, List.forall_mem_cons.mpr ⟨mc_X10_ones, List.forall_mem_cons.mpr ⟨mc_X10_compose, List.forall_mem_cons.mpr ⟨mc_X10_book, List.forall_mem_cons.mpr ⟨mc_X10_forget, List.forall_mem_cons.mpr ⟨mc_X10_wonders, List.forall_mem_cons.mpr ⟨mc_X10_explains, List.forall_mem_cons.mpr ⟨mc_X10_findSo, List.forall_mem_cons.mpr ⟨mc_X10_explain, List.forall_mem_cons.mpr ⟨mc_X10_ask, List.forall_mem_cons.mpr ⟨mc_X10_snows, List.forall_mem_cons.mpr ⟨mc_X10_safe, List.forall_mem_cons.mpr ⟨mc_X10_hush, List.forall_mem_cons.mpr ⟨mc_X10_deaf, List.forall_mem_cons.mpr ⟨mc_X10_keeps, List.forall_mem_cons.mpr ⟨mc_X10_keepsAll, List.forall_mem_cons.mpr ⟨mc_X10_image, List.forall_mem_cons.mpr ⟨mc_X10_restore, List.forall_mem_cons.mpr ⟨mc_X10_status, List.forall_mem_cons.mpr ⟨mc_X10_sums, List.forall_mem_cons.mpr ⟨mc_J0_length_8abf5, List.forall_mem_cons.mpr ⟨mc_J0_charAt_5068e, List.forall_mem_cons.mpr ⟨mc_J0_coder_7d493, List.forall_mem_cons.mpr ⟨mc_J0_isLatin1_aae02, List.forall_mem_cons.mpr ⟨mc_J0_checkIndex_df160, List.forall_mem_cons.mpr ⟨mc_J1_charAt_3b067, List.forall_mem_cons.mpr ⟨mc_J3_checkIndex_8e157, List.forall_mem_cons.mpr ⟨mc_J6_compare_7cf53, List.forall_mem_cons.mpr ⟨mc_J6_bitCount_0f7a4, fun _ h => absurd h List.not_mem_nil⟩⟩⟩⟩⟩⟩⟩⟩⟩⟩⟩⟩⟩⟩⟩⟩⟩⟩⟩⟩⟩⟩⟩⟩⟩⟩⟩⟩⟩⟩⟩⟩⟩⟩⟩⟩⟩⟩⟩⟩⟩⟩⟩⟩⟩⟩⟩⟩⟩⟩⟩⟩⟩⟩⟩⟩⟩⟩⟩⟩⟩⟩⟩⟩⟩⟩⟩⟩⟩⟩⟩⟩⟩⟩⟩⟩⟩⟩⟩⟩⟩⟩⟩⟩⟩⟩⟩⟩⟩⟩⟩⟩⟩⟩⟩⟩⟩⟩⟩⟩⟩⟩⟩⟩⟩⟩⟩⟩⟩⟩⟩⟩⟩⟩⟩⟩⟩⟩⟩⟩⟩⟩⟩⟩⟩⟩⟩⟩⟩⟩⟩⟩⟩⟩⟩⟩⟩⟩⟩⟩⟩⟩⟩⟩⟩⟩⟩⟩⟩⟩⟩⟩⟩⟩⟩⟩⟩⟩⟩⟩⟩⟩⟩⟩⟩⟩⟩⟩⟩⟩⟩⟩⟩⟩⟩⟩⟩⟩⟩⟩⟩⟩⟩⟩⟩⟩⟩⟩⟩⟩⟩⟩⟩⟩⟩⟩⟩⟩⟩⟩⟩⟩⟩⟩⟩⟩⟩⟩⟩⟩⟩⟩⟩⟩⟩⟩⟩⟩⟩⟩
set_option maxRecDepth 100000 in
theorem db_a : ∀ e ∈ am_ms, (am_pg e).all (am_db (am_code e) (am_y e).cls) = true := List.forall_mem_cons.mpr ⟨db_X0_findSets, List.forall_mem_cons.mpr ⟨db_X0_bookIsSo, List.forall_mem_cons.mpr ⟨db_X0_findQuestion, List.forall_mem_cons.mpr ⟨db_X0_tallyCells, List.forall_mem_cons.mpr ⟨db_X0_chooseQuestion, List.forall_mem_cons.mpr ⟨db_X0_leftAtWorst, List.forall_mem_cons.mpr ⟨db_X1_gainBy, List.forall_mem_cons.mpr ⟨db_X1_findLeastBuilding, List.forall_mem_cons.mpr ⟨db_X1_costOf, List.forall_mem_cons.mpr ⟨db_X1_mostWith, List.forall_mem_cons.mpr ⟨db_X1_findRests, List.forall_mem_cons.mpr ⟨db_X1_fillWorths, List.forall_mem_cons.mpr ⟨db_X1_isOpen, List.forall_mem_cons.mpr ⟨db_X1_isRest, List.forall_mem_cons.mpr ⟨db_X1_hasBetter, List.forall_mem_cons.mpr ⟨db_X1_outcome, List.forall_mem_cons.mpr ⟨db_X1_digitsOfChoices, List.forall_mem_cons.mpr ⟨db_X1_nextRow, List.forall_mem_cons.mpr ⟨db_X2_clear, List.forall_mem_cons.mpr ⟨db_X2_take, List.forall_mem_cons.mpr ⟨db_X2_bare, List.forall_mem_cons.mpr ⟨db_X2_raise, List.forall_mem_cons.mpr ⟨db_X2_lower, List.forall_mem_cons.mpr ⟨db_X3_survey, List.forall_mem_cons.mpr ⟨db_X3_noteCount, List.forall_mem_cons.mpr ⟨db_X3_worthBy, List.forall_mem_cons.mpr ⟨db_X3_mostForDeaf, List.forall_mem_cons.mpr ⟨db_X3_fairPart, List.forall_mem_cons.mpr ⟨db_X3_bestTrade, List.forall_mem_cons.mpr ⟨db_X3_unlikePairs, List.forall_mem_cons.mpr ⟨db_X4_clear, List.forall_mem_cons.mpr ⟨db_X4_take, List.forall_mem_cons.mpr ⟨db_X5_readAll, List.forall_mem_cons.mpr ⟨db_X5_readKind, List.forall_mem_cons.mpr ⟨db_X5_readNumbers, List.forall_mem_cons.mpr ⟨db_X5_isFull, List.forall_mem_cons.mpr ⟨db_X5_readSize, List.forall_mem_cons.mpr ⟨db_X5_readThing, List.forall_mem_cons.mpr ⟨db_X5_readPlace, List.forall_mem_cons.mpr ⟨db_X5_readPlaceWith, List.forall_mem_cons.mpr ⟨db_X5_readField, List.forall_mem_cons.mpr ⟨db_X5_readSeason, List.forall_mem_cons.mpr ⟨db_X5_readEnd, List.forall_mem_cons.mpr ⟨db_X5_readNumber, List.forall_mem_cons.mpr ⟨db_X5_readWord, List.forall_mem_cons.mpr ⟨db_X5_isWord, List.forall_mem_cons.mpr ⟨db_X5_wordOf, List.forall_mem_cons.mpr ⟨db_X5_skipBlanks, List.forall_mem_cons.mpr ⟨db_X5_refuse, List.forall_mem_cons.mpr ⟨db_X6_shout, List.forall_mem_cons.mpr ⟨db_X6_follow, List.forall_mem_cons.mpr ⟨db_X6_addEcho, List.forall_mem_cons.mpr ⟨db_X6_tellEcho, List.forall_mem_cons.mpr ⟨db_X6_countBy, List.forall_mem_cons.mpr ⟨db_X6_countTimes, List.forall_mem_cons.mpr ⟨db_X6_countStrong, List.forall_mem_cons.mpr ⟨db_X6_countAt, List.forall_mem_cons.mpr ⟨db_X6_snowsFalling, List.forall_mem_cons.mpr ⟨db_X6_greatestHush, List.forall_mem_cons.mpr ⟨db_X6_shoutForPeaks, List.forall_mem_cons.mpr ⟨db_X7_listen, List.forall_mem_cons.mpr ⟨db_X7_strengthOfSong, List.forall_mem_cons.mpr ⟨db_X7_findPeak, List.forall_mem_cons.mpr ⟨db_X7_bestSong, List.forall_mem_cons.mpr ⟨db_X8_isFull, List.forall_mem_cons.mpr ⟨db_X8_open, List.forall_mem_cons.mpr ⟨db_X8_has, List.forall_mem_cons.mpr ⟨db_X8_at, List.forall_mem_cons.mpr ⟨db_X8_put, List.forall_mem_cons.mpr ⟨db_X8_cellAt, List.forall_mem_cons.mpr ⟨db_X8_take, List.forall_mem_cons.mpr ⟨db_X9_feed, List.forall_mem_cons.mpr ⟨db_X9_valley, List.forall_mem_cons.mpr ⟨db_X9_fault, List.forall_mem_cons.mpr ⟨db_X9_told, List.forall_mem_cons.mpr ⟨db_X9_cell, List.forall_mem_cons.mpr ⟨db_X9_build, List.forall_mem_cons.mpr ⟨db_X9_fell, List.forall_mem_cons.mpr ⟨db_X9_years, List.forall_mem_cons.mpr ⟨db_X9_echoes, List.forall_mem_cons.mpr ⟨db_X9_echo, List.forall_mem_cons.mpr ⟨db_X9_count, List.forall_mem_cons.mpr ⟨db_X9_field, List.forall_mem_cons.mpr ⟨db_X9_most, List.forall_mem_cons.mpr ⟨db_X9_least, List.forall_mem_cons.mpr ⟨db_X9_mean, List.forall_mem_cons.mpr ⟨db_X9_worth, List.forall_mem_cons.mpr ⟨db_X9_gain, List.forall_mem_cons.mpr ⟨db_X9_building, List.forall_mem_cons.mpr ⟨db_X9_rests, List.forall_mem_cons.mpr ⟨db_X9_fair, List.forall_mem_cons.mpr ⟨db_X9_trade, List.forall_mem_cons.mpr ⟨db_X9_unlike, List.forall_mem_cons.mpr ⟨db_X9_heard, List.forall_mem_cons.mpr ⟨db_X9_loudest, List.forall_mem_cons.mpr ⟨db_X9_compose, List.forall_mem_cons.mpr ⟨db_X9_book, List.forall_mem_cons.mpr ⟨db_X9_forget, List.forall_mem_cons.mpr ⟨db_X9_explain, List.forall_mem_cons.mpr ⟨db_X9_ask, List.forall_mem_cons.mpr ⟨db_X9_snows, List.forall_mem_cons.mpr ⟨db_X9_safe, List.forall_mem_cons.mpr ⟨db_X9_hush, List.forall_mem_cons.mpr ⟨db_X9_deaf, List.forall_mem_cons.mpr ⟨db_X9_image, List.forall_mem_cons.mpr ⟨db_X9_restore, List.forall_mem_cons.mpr ⟨db_X9_status, List.forall_mem_cons.mpr ⟨db_X9_sums, List.forall_mem_cons.mpr ⟨db_X9_putOnTape, List.forall_mem_cons.mpr ⟨db_X9_needCell, List.forall_mem_cons.mpr ⟨db_X9_needField, List.forall_mem_cons.mpr ⟨db_X9_needBetween, List.forall_mem_cons.mpr ⟨db_X9_needFog, List.forall_mem_cons.mpr ⟨db_X9_needLaw, List.forall_mem_cons.mpr ⟨db_X9_needNotes, List.forall_mem_cons.mpr ⟨db_X9_needSurvey, List.forall_mem_cons.mpr ⟨db_X9_cellOf, List.forall_mem_cons.mpr ⟨db_X9_partOfFraction, List.forall_mem_cons.mpr ⟨db_X9_commonDivisor, List.forall_mem_cons.mpr ⟨db_X10_thrown, List.forall_mem_cons.mpr ⟨db_X10_may, List.forall_mem_cons.mpr ⟨db_X10_within, List.forall_mem_cons.mpr ⟨db_X10_feed, List.forall_mem_cons.mpr ⟨db_X10_fine, List.forall_mem_cons.mpr ⟨db_X10_wrong, List.forall_mem_cons.mpr ⟨db_X10_here, List.forall_mem_cons.mpr ⟨db_X10_isSmall, List.forall_mem_cons.mpr ⟨db_X10_isDigit, List.forall_mem_cons.mpr ⟨db_X10_word, List.forall_mem_cons.mpr ⟨db_X10_of, List.forall_mem_cons.mpr ⟨db_X10_pass, List.forall_mem_cons.mpr ⟨db_X10_readNumber, List.forall_mem_cons.mpr ⟨db_X10_sign, List.forall_mem_cons.mpr ⟨db_X10_isMore, List.forall_mem_cons.mpr ⟨db_X10_begins, List.forall_mem_cons.mpr ⟨db_X10_result, List.forall_mem_cons.mpr ⟨db_X10_fault, List.forall_mem_cons.mpr ⟨db_X10_clears, List.forall_mem_cons.mpr ⟨db_X10_copies, List.forall_mem_cons.mpr ⟨db_X10_sets, List.forall_mem_cons.mpr ⟨db_X10_readCell, List.forall_mem_cons.mpr ⟨db_X10_readOther, List.forall_mem_cons.mpr ⟨db_X10_isOther, List.forall_mem_cons.mpr ⟨db_X10_isFull, List.forall_mem_cons.mpr ⟨db_X10_valley, List.forall_mem_cons.mpr ⟨db_X10_told, List.forall_mem_cons.mpr ⟨db_X10_isCell, List.forall_mem_cons.mpr ⟨db_X10_isField, List.forall_mem_cons.mpr ⟨db_X10_cell, List.forall_mem_cons.mpr ⟨db_X10_build, List.forall_mem_cons.mpr ⟨db_X10_fell, List.forall_mem_cons.mpr ⟨db_X10_years, List.forall_mem_cons.mpr ⟨db_X10_across, List.forall_mem_cons.mpr ⟨db_X10_down, List.forall_mem_cons.mpr ⟨db_X10_hard, List.forall_mem_cons.mpr ⟨db_X10_falls, List.forall_mem_cons.mpr ⟨db_X10_puts, List.forall_mem_cons.mpr ⟨db_X10_goes, List.forall_mem_cons.mpr ⟨db_X10_shouts, List.forall_mem_cons.mpr ⟨db_X10_isFog, List.forall_mem_cons.mpr ⟨db_X10_echoes, List.forall_mem_cons.mpr ⟨db_X10_echo, List.forall_mem_cons.mpr ⟨db_X10_countOf, List.forall_mem_cons.mpr ⟨db_X10_count, List.forall_mem_cons.mpr ⟨db_X10_findField, List.forall_mem_cons.mpr ⟨db_X10_field, List.forall_mem_cons.mpr ⟨db_X10_foundOf, List.forall_mem_cons.mpr ⟨db_X10_most, List.forall_mem_cons.mpr ⟨db_X10_least, List.forall_mem_cons.mpr ⟨db_X10_divisor, List.forall_mem_cons.mpr ⟨db_X10_fraction, List.forall_mem_cons.mpr ⟨db_X10_mean, List.forall_mem_cons.mpr ⟨db_X10_worthBy, List.forall_mem_cons.mpr ⟨db_X10_worth, List.forall_mem_cons.mpr ⟨db_X10_gain, List.forall_mem_cons.mpr ⟨db_X10_openSites, List.forall_mem_cons.mpr ⟨db_X10_stands, List.forall_mem_cons.mpr ⟨db_X10_building, List.forall_mem_cons.mpr ⟨db_X10_barns, List.forall_mem_cons.mpr ⟨db_X10_gets, List.forall_mem_cons.mpr ⟨db_X10_isRest, List.forall_mem_cons.mpr ⟨db_X10_rests, List.forall_mem_cons.mpr ⟨db_X10_fair, List.forall_mem_cons.mpr ⟨db_X10_trade, List.forall_mem_cons.mpr ⟨db_X10_sideOf, List.forall_mem_cons.mpr ⟨db_X10_unlike, List.forall_mem_cons.mpr ⟨db_X10_listens, List.forall_mem_cons.mpr ⟨db_X10_heardAt, List.forall_mem_cons.mpr ⟨db_X10_findLoudest, List.forall_mem_cons.mpr ⟨db_X10_areNotes, List.forall_mem_cons.mpr ⟨db_X10_heard, List.forall_mem_cons.mpr ⟨db_X10_loudest, List.forall_mem_cons.mpr ⟨db_X10_ones, List.forall_mem_cons.mpr ⟨db_X10_compose, List.forall_mem_cons.mpr ⟨db_X10_book, List.forall_mem_cons.mpr ⟨db_X10_forget, List.forall_mem_cons.mpr ⟨db_X10_wonders, List.forall_mem_cons.mpr ⟨db_X10_explains, List.forall_mem_cons.mpr ⟨db_X10_findSo, List.forall_mem_cons.mpr ⟨db_X10_explain, List.forall_mem_cons.mpr ⟨db_X10_ask, List.forall_mem_cons.mpr ⟨db_X10_snows, List.forall_mem_cons.mpr ⟨db_X10_safe, List.forall_mem_cons.mpr ⟨db_X10_hush, List.forall_mem_cons.mpr ⟨db_X10_deaf, List.forall_mem_cons.mpr ⟨db_X10_keeps, List.forall_mem_cons.mpr ⟨db_X10_keepsAll, List.forall_mem_cons.mpr ⟨db_X10_image, List.forall_mem_cons.mpr ⟨db_X10_restore, List.forall_mem_cons.mpr ⟨db_X10_status, List.forall_mem_cons.mpr ⟨db_X10_sums, List.forall_mem_cons.mpr ⟨db_J0_length_8abf5, List.forall_mem_cons.mpr ⟨db_J0_charAt_5068e, List.forall_mem_cons.mpr ⟨db_J0_coder_7d493, List.forall_mem_cons.mpr ⟨db_J0_isLatin1_aae02, List.forall_mem_cons.mpr ⟨db_J0_checkIndex_df160, List.forall_mem_cons.mpr ⟨db_J1_charAt_3b067, List.forall_mem_cons.mpr ⟨db_J3_checkIndex_8e157, List.forall_mem_cons.mpr ⟨db_J6_compare_7cf53, List.forall_mem_cons.mpr ⟨db_J6_bitCount_0f7a4, fun _ h => absurd h List.not_mem_nil⟩⟩⟩⟩⟩⟩⟩⟩⟩⟩⟩⟩⟩⟩⟩⟩⟩⟩⟩⟩⟩⟩⟩⟩⟩⟩⟩⟩⟩⟩⟩⟩⟩⟩⟩⟩⟩⟩⟩⟩⟩⟩⟩⟩⟩⟩⟩⟩⟩⟩⟩⟩⟩⟩⟩⟩⟩⟩⟩⟩⟩⟩⟩⟩⟩⟩⟩⟩⟩⟩⟩⟩⟩⟩⟩⟩⟩⟩⟩⟩⟩⟩⟩⟩⟩⟩⟩⟩⟩⟩⟩⟩⟩⟩⟩⟩⟩⟩⟩⟩⟩⟩⟩⟩⟩⟩⟩⟩⟩⟩⟩⟩⟩⟩⟩⟩⟩⟩⟩⟩⟩⟩⟩⟩⟩⟩⟩⟩⟩⟩⟩⟩⟩⟩⟩⟩⟩⟩⟩⟩⟩⟩⟩⟩⟩⟩⟩⟩⟩⟩⟩⟩⟩⟩⟩⟩⟩⟩⟩⟩⟩⟩⟩⟩⟩⟩⟩⟩⟩⟩⟩⟩⟩⟩⟩⟩⟩⟩⟩⟩⟩⟩⟩⟩⟩⟩⟩⟩⟩⟩⟩⟩⟩⟩⟩⟩⟩⟩⟩⟩⟩⟩⟩⟩⟩⟩⟩⟩⟩⟩⟩⟩⟩⟩⟩⟩⟩⟩⟩⟩
set_option maxRecDepth 100000 in
theorem ml_a : am_ms.length = mh_a.length := by decide +kernel
set_option maxRecDepth 100000 in
theorem ib_a : am_ms.all (fun e => (am_pg e).all (am_ib e)) = true := by decide +kernel
def wh_0 : List (Nat × Nat) := [(2, 142), (2, 144), (2, 146), (2, 148), (2, 150), (2, 152), (2, 154), (2, 156), (2, 158), (2, 160), (2, 162)]
set_option maxRecDepth 100000 in
theorem wc_0 : ((u_ws RX0 TX0 11).zip wh_0).all (fun q => am_hb q.1 q.2) = true := by decide +kernel
theorem wl_0 : (u_ws RX0 TX0 11).length = wh_0.length := by decide +kernel
def wh_1 : List (Nat × Nat) := [(2, 70), (2, 72), (2, 74), (2, 76), (2, 78), (2, 80), (2, 82), (2, 84), (2, 86), (2, 88)]
set_option maxRecDepth 100000 in
theorem wc_1 : ((u_ws RX1 TX1 10).zip wh_1).all (fun q => am_hb q.1 q.2) = true := by decide +kernel
theorem wl_1 : (u_ws RX1 TX1 10).length = wh_1.length := by decide +kernel
def wh_2 : List (Nat × Nat) := [(1, 152), (1, 154), (1, 156), (1, 158)]
set_option maxRecDepth 100000 in
theorem wc_2 : ((u_ws RX2 TX2 4).zip wh_2).all (fun q => am_hb q.1 q.2) = true := by decide +kernel
theorem wl_2 : (u_ws RX2 TX2 4).length = wh_2.length := by decide +kernel
def wh_3 : List (Nat × Nat) := [(2, 25), (2, 27), (2, 29), (2, 31), (2, 33), (2, 35), (2, 37), (2, 39), (2, 41), (2, 43), (2, 45), (2, 47)]
set_option maxRecDepth 100000 in
theorem wc_3 : ((u_ws RX3 TX3 12).zip wh_3).all (fun q => am_hb q.1 q.2) = true := by decide +kernel
theorem wl_3 : (u_ws RX3 TX3 12).length = wh_3.length := by decide +kernel
def wh_4 : List (Nat × Nat) := [(1, 110), (1, 112), (1, 114), (1, 116), (1, 118), (1, 120), (1, 122), (1, 124), (1, 126)]
set_option maxRecDepth 100000 in
theorem wc_4 : ((u_ws RX4 TX4 9).zip wh_4).all (fun q => am_hb q.1 q.2) = true := by decide +kernel
theorem wl_4 : (u_ws RX4 TX4 9).length = wh_4.length := by decide +kernel
def wh_5 : List (Nat × Nat) := [(1, 182), (1, 184), (1, 186), (1, 188), (1, 190), (1, 192), (1, 194)]
set_option maxRecDepth 100000 in
theorem wc_5 : ((u_ws RX5 TX5 7).zip wh_5).all (fun q => am_hb q.1 q.2) = true := by decide +kernel
theorem wl_5 : (u_ws RX5 TX5 7).length = wh_5.length := by decide +kernel
def wh_6 : List (Nat × Nat) := [(1, 216), (1, 218), (1, 220), (1, 222), (1, 224), (1, 226), (1, 228), (1, 230), (1, 232)]
set_option maxRecDepth 100000 in
theorem wc_6 : ((u_ws RX6 TX6 9).zip wh_6).all (fun q => am_hb q.1 q.2) = true := by decide +kernel
theorem wl_6 : (u_ws RX6 TX6 9).length = wh_6.length := by decide +kernel
def wh_7 : List (Nat × Nat) := [(2, 105), (2, 107), (2, 109), (2, 111), (2, 113), (2, 115)]
set_option maxRecDepth 100000 in
theorem wc_7 : ((u_ws RX7 TX7 6).zip wh_7).all (fun q => am_hb q.1 q.2) = true := by decide +kernel
theorem wl_7 : (u_ws RX7 TX7 6).length = wh_7.length := by decide +kernel
def wh_8 : List (Nat × Nat) := [(1, 56), (1, 58), (1, 60), (1, 62)]
set_option maxRecDepth 100000 in
theorem wc_8 : ((u_ws RX8 TX8 4).zip wh_8).all (fun q => am_hb q.1 q.2) = true := by decide +kernel
theorem wl_8 : (u_ws RX8 TX8 4).length = wh_8.length := by decide +kernel
def wh_9 : List (Nat × Nat) := [(2, 181), (2, 183), (2, 185), (2, 187), (2, 189), (2, 191), (2, 193), (2, 195), (2, 197), (2, 199), (2, 201), (2, 203), (2, 205), (2, 207), (2, 209), (2, 211)]
set_option maxRecDepth 100000 in
theorem wc_9 : ((u_ws RX9 TX9 16).zip wh_9).all (fun q => am_hb q.1 q.2) = true := by decide +kernel
theorem wl_9 : (u_ws RX9 TX9 16).length = wh_9.length := by decide +kernel
def wh_10 : List (Nat × Nat) := [(6, 116), (6, 118), (6, 120), (6, 122), (6, 124), (6, 126), (6, 128), (6, 130), (6, 132), (6, 134), (6, 136), (6, 138), (6, 140), (6, 142), (6, 144), (6, 146), (6, 148), (6, 150), (6, 152), (6, 154), (6, 156), (6, 158), (6, 160), (6, 162), (6, 164), (6, 166), (6, 168), (6, 170), (6, 172), (6, 174), (6, 176), (6, 178), (6, 180), (6, 182), (6, 184), (6, 186), (6, 188), (6, 190), (6, 192), (6, 194), (6, 196), (6, 198), (6, 200), (6, 202), (6, 204), (6, 206), (6, 208), (6, 210), (6, 212), (6, 214), (6, 216), (6, 218), (6, 220), (6, 222), (6, 224), (6, 226), (6, 228), (6, 230), (6, 232), (6, 234), (6, 236), (6, 238), (7, 0), (7, 2), (7, 4), (7, 6)]
set_option maxRecDepth 100000 in
theorem wc_10 : ((u_ws RX10 TX10 66).zip wh_10).all (fun q => am_hb q.1 q.2) = true := by decide +kernel
theorem wl_10 : (u_ws RX10 TX10 66).length = wh_10.length := by decide +kernel
