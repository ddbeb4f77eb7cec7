/-! WHAT THE STATEMENT GIVES AT THE START -/
def R_law : String := "SoldEchoesLaw"
def lw_P (b : Addr) (xs : List Int32) (args : Array Value) (s : State) : Prop := args = #[.ref b] ∧ s.IntsAt b xs ∧ xs.length ≤ 3072 ∧ (Jvm.Cond.and given_1 narrow_1).before args s = true
def lw_Q (_ : Array Value) (s : State) (o : Outcome) (t : State) : Prop := o = .returned (some (.int 1)) ∧ Framed s o t [] 601024 7293034
def lw_Z (below : List Frame) (a : Array Value) (s : State) : State → Prop := fun t => ∃ o, t.status = .running ∧ Ended t below o ∧ lw_Q a s o t
/-- the law's own end, with 1 on the stack, nothing written that was there before, its room as the claim has it -/
theorem lw_ret {p : Program} {l : Launch} {e : Env} {s : State} {m : MethodId} {below : List Frame} {meth : Method} {c : Code} {b : Nat} (hx : p.tables.exec = Jvm.exec) (hb : c.code = code) (hr : meth.sig.returnType = ret) (hlocks : meth.locks = false) {pc : Nat} {H : Heap} {ls : Array Slot} (hdg : decode code pc = .ok (.ireturn, 1)) : W p l e room_1 s m #[Value.ref b] below meth c H [] 601024 7293034 (lw_Z below #[Value.ref b] s) (F0 m pc ls [.int 1]) := by
  intro T hT X
  obtain ⟨fs, hret, hrun, hended, hW, hframe⟩ := X.leave (v := some (.int 1)) (hlocks := hlocks) (fun h => by rw [hr] at h; cases h)
  have hmeth' : T.vm.method? m = some meth := X.method'
  refine ⟨T.setFrames fs, ?_, .returned (some (.int 1)), hrun, hended, rfl, ⟨_, rfl⟩, hW, hframe⟩
  jvm_step X.here [X.here.top, hx, hb, hdg, hmeth', hr, ret, narrow_b1]
  (try refine ⟨rfl, ?_⟩); (try refine ⟨rfl, ?_⟩)
  first | (intro acts; rw [hret _ acts rfl rfl rfl]) | rw [hret _ _ rfl rfl rfl]
  exact Steps.refl _
/-- what holds at the law's entry: the machine, the code, the tables' words (any of lw_tbl by 'hts w (by decide +kernel)'), the script of L ints xs at the cell b, what the Statement gives of the start (any of its parts by flat_of_before) -/
def lw_At (p : Program) (s : State) (m : MethodId) (meth : Method) (c : Code) (b L : Nat) (xs : Nat → Int32) : Prop :=
  p.tables.exec = Jvm.exec ∧ c.code = code ∧ meth.sig.returnType = ret ∧ c.maxLocals = 7 ∧ s.vm.findClass R_law = some m.cls ∧ (∀ w ∈ lw_tbl, w.before #[Value.ref b] s = true) ∧ va_X b L xs s s.heap ∧ b < s.heap.size ∧ meth.locks = false ∧ (Jvm.Cond.and given_1 narrow_1).before #[Value.ref b] s = true
def nw_T : Cond := .and given_1 narrow_1
/-- the part of a condition at a place: the bits of n from below say left or right, the last one ends -/
def nw_at : Nat → Cond → Nat → Option Cond
  | 0, _, _ => none
  | f + 1, c, n => bif Nat.beq n 1 then some c else match c with
    | .and x y => nw_at f (bif Nat.beq (n % 2) 1 then y else x) (n / 2)
    | _ => none
theorem nw_of {args : Array Value} {s : State} : ∀ (f : Nat) (T : Cond) (n : Nat) {w : Cond}, nw_at f T n = some w → T.before args s = true → w.before args s = true := by
  intro f
  induction f with
  | zero => intro T n w h; cases h
  | succ f ih =>
    intro T n w h hT
    unfold nw_at at h
    cases hb : Nat.beq n 1 with
    | true => rw [hb] at h; cases h; exact hT
    | false =>
      rw [hb] at h
      simp only [cond_false] at h
      split at h
      · rename_i x y
        rw [Cond.before_and, Bool.and_eq_true] at hT
        cases hc : Nat.beq (n % 2) 1 with
        | true => rw [hc] at h; exact ih _ _ h hT.2
        | false => rw [hc] at h; exact ih _ _ h hT.1
      · cases h
def nw_tm (i : Nat) : Term := match i with
  | 0 => .string "SoldEchoes$Reader" 170
  | 1 => .string "SoldEchoes$Reader" 172
  | 2 => .string "SoldEchoes$Reader" 174
  | 3 => .string "SoldEchoes$Reader" 175
  | 4 => .string "SoldEchoes$Reader" 177
  | 5 => .string "SoldEchoes$Reader" 179
  | 6 => .string "SoldEchoes$Reader" 181
  | 7 => .string "SoldEchoes$Reader" 183
  | 8 => .string "SoldEchoes$Reader" 185
  | 9 => .string "SoldEchoes$Reader" 186
  | 10 => .string "SoldEchoes" 348
  | 11 => .string "SoldEchoes" 355
  | _ => .string "SoldEchoes" 360
def nh_ex : List Nat := [1769, 1945, 1081, 1401, 1669, 1317, 3045, 3029, 1525, 1485, 1773, 1469, 1545]
def nh_co : List Nat := [1513, 1113, 1593, 1913, 1413, 1829, 4069, 4053, 3061, 3021, 1517, 3005, 1289]
def nh_ar : List Nat := [3049, 1625, 1337, 1273, 1925, 1189, 1045, 1077, 4085, 4045, 3053, 4029, 1801]
def nh_le : List Nat := [4073, 1369, 1849, 1785, 1093, 1701, 1557, 1589, 1037, 1069, 4077, 1149, 1161]
def nh_el : List (List Nat) := [[1049, 1561, 1305, 1817, 1177, 1689], [1881, 1241, 1753, 1497], [1209, 1721, 1465, 3001], [1529, 3065, 4089, 1029], [1605, 1349, 1861, 1221, 1733], [1445, 2981, 4005, 1125], [1301, 1813, 1173, 1685, 1429, 1941], [1333, 1845, 1205, 1717, 1461], [1549, 1293, 1805, 1165], [1581, 1325, 1837], [1053, 1565, 1309, 1821, 1181, 1693, 1437, 1949, 1117, 1629, 1373, 1885], [1661, 1405, 1917, 1277, 1789, 1533, 3069, 4093, 1027, 1539, 1283, 1795, 1155], [1673, 1417, 1929, 1097, 1609, 1353, 1865, 1225, 1737, 1481, 3017, 4041, 1065, 1577, 1321, 1833, 1193, 1705, 1449, 2985, 4009, 1129, 1641, 1385, 1897, 1257]]
def nh_ne : List (List Nat) := [[0, 4057, 1145, 1285, 3013, 1381, 1621, 4021, 1421, 1709, 1757, 1411, 1433], [4057, 0, 1657, 1797, 4037, 1893, 1365, 1141, 1933, 1453, 1501, 1923, 3033], [1145, 1657, 0, 1157, 1061, 1253, 1877, 1653, 1101, 2989, 3037, 1091, 4025], [1285, 1797, 1157, 0, 1573, 1765, 1237, 1397, 1613, 4013, 4061, 1603, 1541], [3013, 4037, 1061, 1573, 0, 1509, 1749, 1909, 1357, 1133, 1085, 1347, 1477], [1381, 1893, 1253, 1765, 1509, 0, 1493, 1269, 1869, 1645, 1597, 1859, 1637], [1621, 1365, 1877, 1237, 1749, 1493, 0, 1781, 1229, 1389, 1341, 1219, 1109], [4021, 1141, 1653, 1397, 1909, 1269, 1781, 0, 1741, 1901, 1853, 1731, 2997], [1421, 1933, 1101, 1613, 1357, 1869, 1229, 1741, 0, 1261, 1213, 1475, 1677], [1709, 1453, 2989, 4013, 1133, 1645, 1389, 1901, 1261, 0, 1725, 3011, 1197], [1757, 1501, 3037, 4061, 1085, 1597, 1341, 1853, 1213, 1725, 0, 4035, 1245], [1411, 1923, 1091, 1603, 1347, 1859, 1219, 1731, 1475, 3011, 4035, 0, 1667], [1433, 3033, 4025, 1541, 1477, 1637, 1109, 2997, 1677, 1197, 1245, 1667, 0]]
def nh_sr : List ((Nat × Nat) × Nat) := [((3, 126), 0), ((3, 180), 0), ((3, 181), 0), ((3, 182), 0), ((3, 183), 0), ((3, 184), 0), ((3, 185), 0), ((3, 186), 0), ((3, 187), 0), ((3, 188), 0), ((3, 189), 0), ((4, 94), 0), ((4, 187), 0), ((7, 58), 1891), ((7, 67), 4051), ((7, 68), 1163), ((7, 69), 1387), ((7, 70), 1339), ((7, 71), 1351), ((7, 72), 1175), ((7, 73), 3063), ((7, 74), 1647), ((7, 75), 1215)]
def nh_ns : List (Nat × Nat) := [(3, 9), (3, 40), (4, 30), (5, 106), (4, 87), (4, 180), (3, 87), (3, 88), (3, 89), (3, 90), (3, 91), (3, 92), (3, 93)]
def nh_re : List Nat := [1665, 1409, 1921, 1089, 1601, 1345, 1857, 1217]
def nh_de : List Nat := [4033, 1057, 1569, 1313, 1825, 1185, 1697, 1441]
set_option maxRecDepth 100000 in
theorem nw_ex : ∀ i, i < 13 → nw_at 64 nw_T (nh_ex.getD i 0) = some (Cond.exactly (nw_tm i) "java/lang/String") := by decide +kernel
set_option maxRecDepth 100000 in
theorem nw_co : ∀ i, i < 13 → nw_at 64 nw_T (nh_co.getD i 0) = some (Cond.eq (.field (nw_tm i) "java/lang/String" "coder" "B") (.int 0)) := by decide +kernel
set_option maxRecDepth 100000 in
theorem nw_ar : ∀ i, i < 13 → nw_at 64 nw_T (nh_ar.getD i 0) = some (Cond.arrayOf (.field (nw_tm i) "java/lang/String" "value" "[B") .byte) := by decide +kernel
set_option maxRecDepth 100000 in
theorem nw_le : ∀ i, i < 13 → nw_at 64 nw_T (nh_le.getD i 0) = some (Cond.eq (.length (.field (nw_tm i) "java/lang/String" "value" "[B")) (.int (Int32.ofNat (am_len.getD i 0)))) := by decide +kernel
set_option maxRecDepth 100000 in
theorem nw_el : ∀ i, i < 13 → ∀ j, j < am_len.getD i 0 → nw_at 64 nw_T ((nh_el.getD i []).getD j 0) = some (Cond.eq (.elem (.field (nw_tm i) "java/lang/String" "value" "[B") (.int (Int32.ofNat j))) (.int ((am_byt.getD i []).getD j 0))) := by decide +kernel
set_option maxRecDepth 100000 in
theorem nw_ne : ∀ i, i < 13 → ∀ j, j < 13 → i ≠ j → nw_at 64 nw_T ((nh_ne.getD i []).getD j 0) = some (Cond.not (Cond.eq (nw_tm i) (nw_tm j))) ∨ nw_at 64 nw_T ((nh_ne.getD i []).getD j 0) = some (Cond.not (Cond.eq (nw_tm j) (nw_tm i))) := by decide +kernel
theorem nw_len : ∀ i, i < 13 → am_len.getD i 0 < 2 ^ 31 := by decide +kernel
set_option maxRecDepth 100000 in
theorem nw_sr : (am_srs.zip nh_sr).all (fun z => decide (am_nth (am_tb z.2.1.1) z.2.1.2 = some (Cond.stringRef z.1.1 z.1.2.1 (am_txt.getD z.1.2.2 ""))) && (Nat.blt z.1.2.2 13 && (decide (Term.string z.1.1 z.1.2.1 = nw_tm z.1.2.2) || decide (nw_at 64 nw_T z.2.2 = some (Cond.eq (nw_tm z.1.2.2) (Term.string z.1.1 z.1.2.1)))))) = true ∧ am_srs.length = nh_sr.length := by decide +kernel
set_option maxRecDepth 100000 in
theorem nw_ns : (am_nst.zip nh_ns).all (fun z => decide (am_nth (am_tb z.2.1) z.2.2 = some z.1)) = true ∧ am_nst.length = nh_ns.length := by decide +kernel
set_option maxRecDepth 100000 in
theorem nw_ra : nw_at 64 nw_T 1793 = some (Cond.arrayOf (.static "SoldEchoes$Shouter" "RIGHT" "[I") .int) ∧ nw_at 64 nw_T 1153 = some (Cond.eq (.length (.static "SoldEchoes$Shouter" "RIGHT" "[I")) (.int (Int32.ofNat 8))) ∧ ∀ j, j < 8 → nw_at 64 nw_T (nh_re.getD j 0) = some (Cond.eq (.elem (.static "SoldEchoes$Shouter" "RIGHT" "[I") (.int (Int32.ofNat j))) (.int (am_right.getD j 0))) := by decide +kernel
set_option maxRecDepth 100000 in
theorem nw_da : nw_at 64 nw_T 1473 = some (Cond.arrayOf (.static "SoldEchoes$Shouter" "DOWN" "[I") .int) ∧ nw_at 64 nw_T 3009 = some (Cond.eq (.length (.static "SoldEchoes$Shouter" "DOWN" "[I")) (.int (Int32.ofNat 8))) ∧ ∀ j, j < 8 → nw_at 64 nw_T (nh_de.getD j 0) = some (Cond.eq (.elem (.static "SoldEchoes$Shouter" "DOWN" "[I") (.int (Int32.ofNat j))) (.int (am_down.getD j 0))) := by decide +kernel
set_option maxRecDepth 100000 in
theorem nw_ot : nw_at 64 nw_T 1633 = some (Cond.eq (.static "java/lang/String" "COMPACT_STRINGS" "Z") (.int 1)) ∧ nw_at 64 nw_T 1377 = some (Cond.isRef (.static "jdk/internal/util/Preconditions" "SIOOBE_FORMATTER" "Ljava/util/function/BiFunction;")) ∧ nw_at 64 nw_T 1953 = some (Cond.isRef (.static Bundle.tN "UNASSIGNED_STACK" Bundle.steD)) ∧ nw_at 64 nw_T 1121 = some (Cond.isRef (.static Bundle.tN "SUPPRESSED_SENTINEL" Bundle.listD)) := by decide +kernel
def nw_wl : List Cond := [.laysStatic "SoldEchoes$Shouter" "RIGHT" "[I", .laysStatic "SoldEchoes$Shouter" "DOWN" "[I", .laysStatic "java/lang/String" "COMPACT_STRINGS" "Z", .laysStatic "jdk/internal/util/Preconditions" "SIOOBE_FORMATTER" "Ljava/util/function/BiFunction;", .laysStatic "java/lang/Throwable" "UNASSIGNED_STACK" "[Ljava/lang/StackTraceElement;", .laysStatic "java/lang/Throwable" "SUPPRESSED_SENTINEL" "Ljava/util/List;", .initialized "SoldEchoes$Shouter", .initialized "java/lang/String", .initialized "jdk/internal/util/Preconditions", .initialized "java/lang/Throwable", .arrayClass .int, .arrayClass .byte, .arrayClass .boolean, .arrayClass .long, .arrayOver (.object "SoldEchoes$Land"), .instantiable RX0 13, .instantiable RX1 10, .instantiable RX2 4, .instantiable RX3 12, .instantiable RX4 9, .instantiable RX5 7, .instantiable RX6 9, .instantiable RX7 6, .instantiable RX8 4, .instantiable RX9 16, .instantiable RX10 66]
def nh_wl : List (Nat × Nat) := [(3, 21), (3, 23), (3, 203), (3, 219), (3, 112), (3, 114), (1, 6), (1, 17), (1, 19), (1, 13), (1, 66), (1, 65), (2, 171), (8, 131), (1, 197), (2, 119), (2, 51), (1, 130), (1, 236), (1, 34), (1, 162), (1, 199), (2, 92), (1, 40), (1, 26), (6, 44)]
set_option maxRecDepth 100000 in
theorem nw_wk : (nw_wl.zip nh_wl).all (fun z => decide (am_nth (am_tb z.2.1) z.2.2 = some z.1)) = true ∧ nw_wl.length = nh_wl.length := by decide +kernel
theorem nw_tb {l : List Cond} {r : List (Nat × Nat)} (h : (l.zip r).all (fun z => decide (am_nth (am_tb z.2.1) z.2.2 = some z.1)) = true ∧ l.length = r.length) : ∀ w ∈ l, w ∈ lw_tbl := by
  intro w hw
  obtain ⟨b, hz⟩ := am_zip_in l r h.2 w hw
  have h1 := of_decide_eq_true (List.all_eq_true.mp h.1 _ hz)
  exact am_tb_in _ _ (am_nth_in _ _ _ h1)
