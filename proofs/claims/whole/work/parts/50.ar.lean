/-! numbers: an Int32 as an integer -/
def i32 (a : Int) : Int32 := Int32.ofInt a
theorem i32_add (a b : Int) : i32 a + i32 b = i32 (a + b) := (Int32.ofInt_add a b).symm
theorem i32_sub (a b : Int) : i32 a - i32 b = i32 (a - b) := (Int32.ofInt_sub a b).symm
theorem i32_mul (a b : Int) : i32 a * i32 b = i32 (a * b) := (Int32.ofInt_mul a b).symm
theorem i32_neg (a : Int) : - i32 a = i32 (-a) := (Int32.ofInt_neg a).symm
theorem i32_of (x : Int32) : i32 x.toInt = x := Int32.ofInt_toInt x
theorem i32_toInt {a : Int} (h1 : -2147483648 ≤ a) (h2 : a < 2147483648) : (i32 a).toInt = a := Int32.toInt_ofInt_of_le h1 h2
theorem i32_lt {a b : Int} (h1 : -2147483648 ≤ a) (h2 : a < 2147483648) (h3 : -2147483648 ≤ b) (h4 : b < 2147483648) : (i32 a < i32 b) ↔ a < b := by
  rw [Int32.lt_iff_toInt_lt, i32_toInt h1 h2, i32_toInt h3 h4]
theorem i32_le {a b : Int} (h1 : -2147483648 ≤ a) (h2 : a < 2147483648) (h3 : -2147483648 ≤ b) (h4 : b < 2147483648) : (i32 a ≤ i32 b) ↔ a ≤ b := by
  rw [Int32.le_iff_toInt_le, i32_toInt h1 h2, i32_toInt h3 h4]
theorem i32_eq {a b : Int} (h1 : -2147483648 ≤ a) (h2 : a < 2147483648) (h3 : -2147483648 ≤ b) (h4 : b < 2147483648) : (i32 a = i32 b) ↔ a = b := by
  rw [← Int32.toInt_inj, i32_toInt h1 h2, i32_toInt h3 h4]
theorem i32_cl {a : Int} (h1 : 0 ≤ a) (h2 : a < 2147483648) : (i32 a).toNatClampNeg = a.toNat := by
  show ((i32 a).toInt).toNat = a.toNat
  rw [i32_toInt (by omega) h2]
theorem i32_in {a : Int} {n : Nat} (h1 : 0 ≤ a) (h2 : a < n) (h3 : n < 2147483648) : am_in (i32 a) n := by
  unfold am_in
  rw [i32_toInt (by omega) (by omega)]
  exact ⟨h1, h2⟩
theorem i32_0 : (0 : Int32) = i32 0 := rfl
theorem i32_lt0 {a : Int} (h1 : -2147483648 ≤ a) (h2 : a < 2147483648) : (i32 a < 0) ↔ a < 0 := by
  rw [i32_0]; exact i32_lt (b := 0) h1 h2 (by omega) (by omega)
theorem i32_le0 {a : Int} (h1 : -2147483648 ≤ a) (h2 : a < 2147483648) : (i32 a ≤ 0) ↔ a ≤ 0 := by
  rw [i32_0]; exact i32_le (b := 0) h1 h2 (by omega) (by omega)
theorem i32_0lt {a : Int} (h1 : -2147483648 ≤ a) (h2 : a < 2147483648) : (0 < i32 a) ↔ 0 < a := by
  rw [i32_0]; exact i32_lt (a := 0) (by omega) (by omega) h1 h2
theorem i32_0le {a : Int} (h1 : -2147483648 ≤ a) (h2 : a < 2147483648) : (0 ≤ i32 a) ↔ 0 ≤ a := by
  rw [i32_0]; exact i32_le (a := 0) (by omega) (by omega) h1 h2
theorem i32_eq0 {a : Int} (h1 : -2147483648 ≤ a) (h2 : a < 2147483648) : (i32 a = 0) ↔ a = 0 := by
  rw [i32_0]; exact i32_eq (b := 0) h1 h2 (by omega) (by omega)
theorem i32_1 : (1 : Int32) = i32 1 := rfl
theorem i32_lt1 {a : Int} (h1 : -2147483648 ≤ a) (h2 : a < 2147483648) : (i32 a < 1) ↔ a < 1 := by
  rw [i32_1]; exact i32_lt (b := 1) h1 h2 (by omega) (by omega)
theorem i32_le1 {a : Int} (h1 : -2147483648 ≤ a) (h2 : a < 2147483648) : (i32 a ≤ 1) ↔ a ≤ 1 := by
  rw [i32_1]; exact i32_le (b := 1) h1 h2 (by omega) (by omega)
theorem i32_1lt {a : Int} (h1 : -2147483648 ≤ a) (h2 : a < 2147483648) : (1 < i32 a) ↔ 1 < a := by
  rw [i32_1]; exact i32_lt (a := 1) (by omega) (by omega) h1 h2
theorem i32_1le {a : Int} (h1 : -2147483648 ≤ a) (h2 : a < 2147483648) : (1 ≤ i32 a) ↔ 1 ≤ a := by
  rw [i32_1]; exact i32_le (a := 1) (by omega) (by omega) h1 h2
theorem i32_eq1 {a : Int} (h1 : -2147483648 ≤ a) (h2 : a < 2147483648) : (i32 a = 1) ↔ a = 1 := by
  rw [i32_1]; exact i32_eq (b := 1) h1 h2 (by omega) (by omega)
theorem i32_2 : (2 : Int32) = i32 2 := rfl
theorem i32_lt2 {a : Int} (h1 : -2147483648 ≤ a) (h2 : a < 2147483648) : (i32 a < 2) ↔ a < 2 := by
  rw [i32_2]; exact i32_lt (b := 2) h1 h2 (by omega) (by omega)
theorem i32_le2 {a : Int} (h1 : -2147483648 ≤ a) (h2 : a < 2147483648) : (i32 a ≤ 2) ↔ a ≤ 2 := by
  rw [i32_2]; exact i32_le (b := 2) h1 h2 (by omega) (by omega)
theorem i32_2lt {a : Int} (h1 : -2147483648 ≤ a) (h2 : a < 2147483648) : (2 < i32 a) ↔ 2 < a := by
  rw [i32_2]; exact i32_lt (a := 2) (by omega) (by omega) h1 h2
theorem i32_2le {a : Int} (h1 : -2147483648 ≤ a) (h2 : a < 2147483648) : (2 ≤ i32 a) ↔ 2 ≤ a := by
  rw [i32_2]; exact i32_le (a := 2) (by omega) (by omega) h1 h2
theorem i32_eq2 {a : Int} (h1 : -2147483648 ≤ a) (h2 : a < 2147483648) : (i32 a = 2) ↔ a = 2 := by
  rw [i32_2]; exact i32_eq (b := 2) h1 h2 (by omega) (by omega)
theorem i32_3 : (3 : Int32) = i32 3 := rfl
theorem i32_lt3 {a : Int} (h1 : -2147483648 ≤ a) (h2 : a < 2147483648) : (i32 a < 3) ↔ a < 3 := by
  rw [i32_3]; exact i32_lt (b := 3) h1 h2 (by omega) (by omega)
theorem i32_le3 {a : Int} (h1 : -2147483648 ≤ a) (h2 : a < 2147483648) : (i32 a ≤ 3) ↔ a ≤ 3 := by
  rw [i32_3]; exact i32_le (b := 3) h1 h2 (by omega) (by omega)
theorem i32_3lt {a : Int} (h1 : -2147483648 ≤ a) (h2 : a < 2147483648) : (3 < i32 a) ↔ 3 < a := by
  rw [i32_3]; exact i32_lt (a := 3) (by omega) (by omega) h1 h2
theorem i32_3le {a : Int} (h1 : -2147483648 ≤ a) (h2 : a < 2147483648) : (3 ≤ i32 a) ↔ 3 ≤ a := by
  rw [i32_3]; exact i32_le (a := 3) (by omega) (by omega) h1 h2
theorem i32_eq3 {a : Int} (h1 : -2147483648 ≤ a) (h2 : a < 2147483648) : (i32 a = 3) ↔ a = 3 := by
  rw [i32_3]; exact i32_eq (b := 3) h1 h2 (by omega) (by omega)
theorem i32_4 : (4 : Int32) = i32 4 := rfl
theorem i32_lt4 {a : Int} (h1 : -2147483648 ≤ a) (h2 : a < 2147483648) : (i32 a < 4) ↔ a < 4 := by
  rw [i32_4]; exact i32_lt (b := 4) h1 h2 (by omega) (by omega)
theorem i32_le4 {a : Int} (h1 : -2147483648 ≤ a) (h2 : a < 2147483648) : (i32 a ≤ 4) ↔ a ≤ 4 := by
  rw [i32_4]; exact i32_le (b := 4) h1 h2 (by omega) (by omega)
theorem i32_4lt {a : Int} (h1 : -2147483648 ≤ a) (h2 : a < 2147483648) : (4 < i32 a) ↔ 4 < a := by
  rw [i32_4]; exact i32_lt (a := 4) (by omega) (by omega) h1 h2
theorem i32_4le {a : Int} (h1 : -2147483648 ≤ a) (h2 : a < 2147483648) : (4 ≤ i32 a) ↔ 4 ≤ a := by
  rw [i32_4]; exact i32_le (a := 4) (by omega) (by omega) h1 h2
theorem i32_eq4 {a : Int} (h1 : -2147483648 ≤ a) (h2 : a < 2147483648) : (i32 a = 4) ↔ a = 4 := by
  rw [i32_4]; exact i32_eq (b := 4) h1 h2 (by omega) (by omega)
theorem i32_5 : (5 : Int32) = i32 5 := rfl
theorem i32_lt5 {a : Int} (h1 : -2147483648 ≤ a) (h2 : a < 2147483648) : (i32 a < 5) ↔ a < 5 := by
  rw [i32_5]; exact i32_lt (b := 5) h1 h2 (by omega) (by omega)
theorem i32_le5 {a : Int} (h1 : -2147483648 ≤ a) (h2 : a < 2147483648) : (i32 a ≤ 5) ↔ a ≤ 5 := by
  rw [i32_5]; exact i32_le (b := 5) h1 h2 (by omega) (by omega)
theorem i32_5lt {a : Int} (h1 : -2147483648 ≤ a) (h2 : a < 2147483648) : (5 < i32 a) ↔ 5 < a := by
  rw [i32_5]; exact i32_lt (a := 5) (by omega) (by omega) h1 h2
theorem i32_5le {a : Int} (h1 : -2147483648 ≤ a) (h2 : a < 2147483648) : (5 ≤ i32 a) ↔ 5 ≤ a := by
  rw [i32_5]; exact i32_le (a := 5) (by omega) (by omega) h1 h2
theorem i32_eq5 {a : Int} (h1 : -2147483648 ≤ a) (h2 : a < 2147483648) : (i32 a = 5) ↔ a = 5 := by
  rw [i32_5]; exact i32_eq (b := 5) h1 h2 (by omega) (by omega)
theorem i32_6 : (6 : Int32) = i32 6 := rfl
theorem i32_lt6 {a : Int} (h1 : -2147483648 ≤ a) (h2 : a < 2147483648) : (i32 a < 6) ↔ a < 6 := by
  rw [i32_6]; exact i32_lt (b := 6) h1 h2 (by omega) (by omega)
theorem i32_le6 {a : Int} (h1 : -2147483648 ≤ a) (h2 : a < 2147483648) : (i32 a ≤ 6) ↔ a ≤ 6 := by
  rw [i32_6]; exact i32_le (b := 6) h1 h2 (by omega) (by omega)
theorem i32_6lt {a : Int} (h1 : -2147483648 ≤ a) (h2 : a < 2147483648) : (6 < i32 a) ↔ 6 < a := by
  rw [i32_6]; exact i32_lt (a := 6) (by omega) (by omega) h1 h2
theorem i32_6le {a : Int} (h1 : -2147483648 ≤ a) (h2 : a < 2147483648) : (6 ≤ i32 a) ↔ 6 ≤ a := by
  rw [i32_6]; exact i32_le (a := 6) (by omega) (by omega) h1 h2
theorem i32_eq6 {a : Int} (h1 : -2147483648 ≤ a) (h2 : a < 2147483648) : (i32 a = 6) ↔ a = 6 := by
  rw [i32_6]; exact i32_eq (b := 6) h1 h2 (by omega) (by omega)
theorem i32_7 : (7 : Int32) = i32 7 := rfl
theorem i32_lt7 {a : Int} (h1 : -2147483648 ≤ a) (h2 : a < 2147483648) : (i32 a < 7) ↔ a < 7 := by
  rw [i32_7]; exact i32_lt (b := 7) h1 h2 (by omega) (by omega)
theorem i32_le7 {a : Int} (h1 : -2147483648 ≤ a) (h2 : a < 2147483648) : (i32 a ≤ 7) ↔ a ≤ 7 := by
  rw [i32_7]; exact i32_le (b := 7) h1 h2 (by omega) (by omega)
theorem i32_7lt {a : Int} (h1 : -2147483648 ≤ a) (h2 : a < 2147483648) : (7 < i32 a) ↔ 7 < a := by
  rw [i32_7]; exact i32_lt (a := 7) (by omega) (by omega) h1 h2
theorem i32_7le {a : Int} (h1 : -2147483648 ≤ a) (h2 : a < 2147483648) : (7 ≤ i32 a) ↔ 7 ≤ a := by
  rw [i32_7]; exact i32_le (a := 7) (by omega) (by omega) h1 h2
theorem i32_eq7 {a : Int} (h1 : -2147483648 ≤ a) (h2 : a < 2147483648) : (i32 a = 7) ↔ a = 7 := by
  rw [i32_7]; exact i32_eq (b := 7) h1 h2 (by omega) (by omega)
theorem i32_8 : (8 : Int32) = i32 8 := rfl
theorem i32_lt8 {a : Int} (h1 : -2147483648 ≤ a) (h2 : a < 2147483648) : (i32 a < 8) ↔ a < 8 := by
  rw [i32_8]; exact i32_lt (b := 8) h1 h2 (by omega) (by omega)
theorem i32_le8 {a : Int} (h1 : -2147483648 ≤ a) (h2 : a < 2147483648) : (i32 a ≤ 8) ↔ a ≤ 8 := by
  rw [i32_8]; exact i32_le (b := 8) h1 h2 (by omega) (by omega)
theorem i32_8lt {a : Int} (h1 : -2147483648 ≤ a) (h2 : a < 2147483648) : (8 < i32 a) ↔ 8 < a := by
  rw [i32_8]; exact i32_lt (a := 8) (by omega) (by omega) h1 h2
theorem i32_8le {a : Int} (h1 : -2147483648 ≤ a) (h2 : a < 2147483648) : (8 ≤ i32 a) ↔ 8 ≤ a := by
  rw [i32_8]; exact i32_le (a := 8) (by omega) (by omega) h1 h2
theorem i32_eq8 {a : Int} (h1 : -2147483648 ≤ a) (h2 : a < 2147483648) : (i32 a = 8) ↔ a = 8 := by
  rw [i32_8]; exact i32_eq (b := 8) h1 h2 (by omega) (by omega)
theorem i32_9 : (9 : Int32) = i32 9 := rfl
theorem i32_lt9 {a : Int} (h1 : -2147483648 ≤ a) (h2 : a < 2147483648) : (i32 a < 9) ↔ a < 9 := by
  rw [i32_9]; exact i32_lt (b := 9) h1 h2 (by omega) (by omega)
theorem i32_le9 {a : Int} (h1 : -2147483648 ≤ a) (h2 : a < 2147483648) : (i32 a ≤ 9) ↔ a ≤ 9 := by
  rw [i32_9]; exact i32_le (b := 9) h1 h2 (by omega) (by omega)
theorem i32_9lt {a : Int} (h1 : -2147483648 ≤ a) (h2 : a < 2147483648) : (9 < i32 a) ↔ 9 < a := by
  rw [i32_9]; exact i32_lt (a := 9) (by omega) (by omega) h1 h2
theorem i32_9le {a : Int} (h1 : -2147483648 ≤ a) (h2 : a < 2147483648) : (9 ≤ i32 a) ↔ 9 ≤ a := by
  rw [i32_9]; exact i32_le (a := 9) (by omega) (by omega) h1 h2
theorem i32_eq9 {a : Int} (h1 : -2147483648 ≤ a) (h2 : a < 2147483648) : (i32 a = 9) ↔ a = 9 := by
  rw [i32_9]; exact i32_eq (b := 9) h1 h2 (by omega) (by omega)
theorem i32_10 : (10 : Int32) = i32 10 := rfl
theorem i32_lt10 {a : Int} (h1 : -2147483648 ≤ a) (h2 : a < 2147483648) : (i32 a < 10) ↔ a < 10 := by
  rw [i32_10]; exact i32_lt (b := 10) h1 h2 (by omega) (by omega)
theorem i32_le10 {a : Int} (h1 : -2147483648 ≤ a) (h2 : a < 2147483648) : (i32 a ≤ 10) ↔ a ≤ 10 := by
  rw [i32_10]; exact i32_le (b := 10) h1 h2 (by omega) (by omega)
theorem i32_10lt {a : Int} (h1 : -2147483648 ≤ a) (h2 : a < 2147483648) : (10 < i32 a) ↔ 10 < a := by
  rw [i32_10]; exact i32_lt (a := 10) (by omega) (by omega) h1 h2
theorem i32_10le {a : Int} (h1 : -2147483648 ≤ a) (h2 : a < 2147483648) : (10 ≤ i32 a) ↔ 10 ≤ a := by
  rw [i32_10]; exact i32_le (a := 10) (by omega) (by omega) h1 h2
theorem i32_eq10 {a : Int} (h1 : -2147483648 ≤ a) (h2 : a < 2147483648) : (i32 a = 10) ↔ a = 10 := by
  rw [i32_10]; exact i32_eq (b := 10) h1 h2 (by omega) (by omega)
theorem i32_12 : (12 : Int32) = i32 12 := rfl
theorem i32_lt12 {a : Int} (h1 : -2147483648 ≤ a) (h2 : a < 2147483648) : (i32 a < 12) ↔ a < 12 := by
  rw [i32_12]; exact i32_lt (b := 12) h1 h2 (by omega) (by omega)
theorem i32_le12 {a : Int} (h1 : -2147483648 ≤ a) (h2 : a < 2147483648) : (i32 a ≤ 12) ↔ a ≤ 12 := by
  rw [i32_12]; exact i32_le (b := 12) h1 h2 (by omega) (by omega)
theorem i32_12lt {a : Int} (h1 : -2147483648 ≤ a) (h2 : a < 2147483648) : (12 < i32 a) ↔ 12 < a := by
  rw [i32_12]; exact i32_lt (a := 12) (by omega) (by omega) h1 h2
theorem i32_12le {a : Int} (h1 : -2147483648 ≤ a) (h2 : a < 2147483648) : (12 ≤ i32 a) ↔ 12 ≤ a := by
  rw [i32_12]; exact i32_le (a := 12) (by omega) (by omega) h1 h2
theorem i32_eq12 {a : Int} (h1 : -2147483648 ≤ a) (h2 : a < 2147483648) : (i32 a = 12) ↔ a = 12 := by
  rw [i32_12]; exact i32_eq (b := 12) h1 h2 (by omega) (by omega)
theorem i32_20 : (20 : Int32) = i32 20 := rfl
theorem i32_lt20 {a : Int} (h1 : -2147483648 ≤ a) (h2 : a < 2147483648) : (i32 a < 20) ↔ a < 20 := by
  rw [i32_20]; exact i32_lt (b := 20) h1 h2 (by omega) (by omega)
theorem i32_le20 {a : Int} (h1 : -2147483648 ≤ a) (h2 : a < 2147483648) : (i32 a ≤ 20) ↔ a ≤ 20 := by
  rw [i32_20]; exact i32_le (b := 20) h1 h2 (by omega) (by omega)
theorem i32_20lt {a : Int} (h1 : -2147483648 ≤ a) (h2 : a < 2147483648) : (20 < i32 a) ↔ 20 < a := by
  rw [i32_20]; exact i32_lt (a := 20) (by omega) (by omega) h1 h2
theorem i32_20le {a : Int} (h1 : -2147483648 ≤ a) (h2 : a < 2147483648) : (20 ≤ i32 a) ↔ 20 ≤ a := by
  rw [i32_20]; exact i32_le (a := 20) (by omega) (by omega) h1 h2
theorem i32_eq20 {a : Int} (h1 : -2147483648 ≤ a) (h2 : a < 2147483648) : (i32 a = 20) ↔ a = 20 := by
  rw [i32_20]; exact i32_eq (b := 20) h1 h2 (by omega) (by omega)
theorem i32_24 : (24 : Int32) = i32 24 := rfl
theorem i32_lt24 {a : Int} (h1 : -2147483648 ≤ a) (h2 : a < 2147483648) : (i32 a < 24) ↔ a < 24 := by
  rw [i32_24]; exact i32_lt (b := 24) h1 h2 (by omega) (by omega)
theorem i32_le24 {a : Int} (h1 : -2147483648 ≤ a) (h2 : a < 2147483648) : (i32 a ≤ 24) ↔ a ≤ 24 := by
  rw [i32_24]; exact i32_le (b := 24) h1 h2 (by omega) (by omega)
theorem i32_24lt {a : Int} (h1 : -2147483648 ≤ a) (h2 : a < 2147483648) : (24 < i32 a) ↔ 24 < a := by
  rw [i32_24]; exact i32_lt (a := 24) (by omega) (by omega) h1 h2
theorem i32_24le {a : Int} (h1 : -2147483648 ≤ a) (h2 : a < 2147483648) : (24 ≤ i32 a) ↔ 24 ≤ a := by
  rw [i32_24]; exact i32_le (a := 24) (by omega) (by omega) h1 h2
theorem i32_eq24 {a : Int} (h1 : -2147483648 ≤ a) (h2 : a < 2147483648) : (i32 a = 24) ↔ a = 24 := by
  rw [i32_24]; exact i32_eq (b := 24) h1 h2 (by omega) (by omega)
theorem i32_60 : (60 : Int32) = i32 60 := rfl
theorem i32_lt60 {a : Int} (h1 : -2147483648 ≤ a) (h2 : a < 2147483648) : (i32 a < 60) ↔ a < 60 := by
  rw [i32_60]; exact i32_lt (b := 60) h1 h2 (by omega) (by omega)
theorem i32_le60 {a : Int} (h1 : -2147483648 ≤ a) (h2 : a < 2147483648) : (i32 a ≤ 60) ↔ a ≤ 60 := by
  rw [i32_60]; exact i32_le (b := 60) h1 h2 (by omega) (by omega)
theorem i32_60lt {a : Int} (h1 : -2147483648 ≤ a) (h2 : a < 2147483648) : (60 < i32 a) ↔ 60 < a := by
  rw [i32_60]; exact i32_lt (a := 60) (by omega) (by omega) h1 h2
theorem i32_60le {a : Int} (h1 : -2147483648 ≤ a) (h2 : a < 2147483648) : (60 ≤ i32 a) ↔ 60 ≤ a := by
  rw [i32_60]; exact i32_le (a := 60) (by omega) (by omega) h1 h2
theorem i32_eq60 {a : Int} (h1 : -2147483648 ≤ a) (h2 : a < 2147483648) : (i32 a = 60) ↔ a = 60 := by
  rw [i32_60]; exact i32_eq (b := 60) h1 h2 (by omega) (by omega)
theorem i32_99 : (99 : Int32) = i32 99 := rfl
theorem i32_lt99 {a : Int} (h1 : -2147483648 ≤ a) (h2 : a < 2147483648) : (i32 a < 99) ↔ a < 99 := by
  rw [i32_99]; exact i32_lt (b := 99) h1 h2 (by omega) (by omega)
theorem i32_le99 {a : Int} (h1 : -2147483648 ≤ a) (h2 : a < 2147483648) : (i32 a ≤ 99) ↔ a ≤ 99 := by
  rw [i32_99]; exact i32_le (b := 99) h1 h2 (by omega) (by omega)
theorem i32_99lt {a : Int} (h1 : -2147483648 ≤ a) (h2 : a < 2147483648) : (99 < i32 a) ↔ 99 < a := by
  rw [i32_99]; exact i32_lt (a := 99) (by omega) (by omega) h1 h2
theorem i32_99le {a : Int} (h1 : -2147483648 ≤ a) (h2 : a < 2147483648) : (99 ≤ i32 a) ↔ 99 ≤ a := by
  rw [i32_99]; exact i32_le (a := 99) (by omega) (by omega) h1 h2
theorem i32_eq99 {a : Int} (h1 : -2147483648 ≤ a) (h2 : a < 2147483648) : (i32 a = 99) ↔ a = 99 := by
  rw [i32_99]; exact i32_eq (b := 99) h1 h2 (by omega) (by omega)
theorem i32_100 : (100 : Int32) = i32 100 := rfl
theorem i32_lt100 {a : Int} (h1 : -2147483648 ≤ a) (h2 : a < 2147483648) : (i32 a < 100) ↔ a < 100 := by
  rw [i32_100]; exact i32_lt (b := 100) h1 h2 (by omega) (by omega)
theorem i32_le100 {a : Int} (h1 : -2147483648 ≤ a) (h2 : a < 2147483648) : (i32 a ≤ 100) ↔ a ≤ 100 := by
  rw [i32_100]; exact i32_le (b := 100) h1 h2 (by omega) (by omega)
theorem i32_100lt {a : Int} (h1 : -2147483648 ≤ a) (h2 : a < 2147483648) : (100 < i32 a) ↔ 100 < a := by
  rw [i32_100]; exact i32_lt (a := 100) (by omega) (by omega) h1 h2
theorem i32_100le {a : Int} (h1 : -2147483648 ≤ a) (h2 : a < 2147483648) : (100 ≤ i32 a) ↔ 100 ≤ a := by
  rw [i32_100]; exact i32_le (a := 100) (by omega) (by omega) h1 h2
theorem i32_eq100 {a : Int} (h1 : -2147483648 ≤ a) (h2 : a < 2147483648) : (i32 a = 100) ↔ a = 100 := by
  rw [i32_100]; exact i32_eq (b := 100) h1 h2 (by omega) (by omega)
theorem i32_4095 : (4095 : Int32) = i32 4095 := rfl
theorem i32_lt4095 {a : Int} (h1 : -2147483648 ≤ a) (h2 : a < 2147483648) : (i32 a < 4095) ↔ a < 4095 := by
  rw [i32_4095]; exact i32_lt (b := 4095) h1 h2 (by omega) (by omega)
theorem i32_le4095 {a : Int} (h1 : -2147483648 ≤ a) (h2 : a < 2147483648) : (i32 a ≤ 4095) ↔ a ≤ 4095 := by
  rw [i32_4095]; exact i32_le (b := 4095) h1 h2 (by omega) (by omega)
theorem i32_4095lt {a : Int} (h1 : -2147483648 ≤ a) (h2 : a < 2147483648) : (4095 < i32 a) ↔ 4095 < a := by
  rw [i32_4095]; exact i32_lt (a := 4095) (by omega) (by omega) h1 h2
theorem i32_4095le {a : Int} (h1 : -2147483648 ≤ a) (h2 : a < 2147483648) : (4095 ≤ i32 a) ↔ 4095 ≤ a := by
  rw [i32_4095]; exact i32_le (a := 4095) (by omega) (by omega) h1 h2
theorem i32_eq4095 {a : Int} (h1 : -2147483648 ≤ a) (h2 : a < 2147483648) : (i32 a = 4095) ↔ a = 4095 := by
  rw [i32_4095]; exact i32_eq (b := 4095) h1 h2 (by omega) (by omega)
theorem i32_m1 : (-1 : Int32) = i32 (-1) := rfl
theorem i32_div {a b : Int} (h1 : 0 ≤ a) (h2 : a < 2147483648) (h3 : 0 < b) (h4 : b < 2147483648) : i32 a / i32 b = i32 (a / b) := by
  obtain ⟨m, rfl⟩ : ∃ m : Nat, a = m := ⟨a.toNat, by omega⟩
  obtain ⟨n, rfl⟩ : ∃ n : Nat, b = n := ⟨b.toNat, by omega⟩
  have := pk_div (a := m) (d := n) (by omega) (by omega) (by omega)
  have e1 : i32 (m : Int) = nI m := rfl
  have e2 : i32 (n : Int) = nI n := rfl
  rw [e1, e2, this]
  rfl
theorem i32_rem {a b : Int} (h1 : 0 ≤ a) (h2 : a < 2147483648) (h3 : 0 < b) (h4 : b < 2147483648) : i32 a - i32 a / i32 b * i32 b = i32 (a % b) := by
  rw [i32_div h1 h2 h3 h4, i32_mul, i32_sub]
  congr 1
  have := Int.emod_add_mul_ediv a b
  have e : a / b * b = b * (a / b) := Int.mul_comm _ _
  omega
/-! memory -/
theorem up_eq (M : am_M) (k j : Nat) (v : Int32) : am_up M k j v k j = v := by
  unfold am_up; rw [if_pos ⟨rfl, rfl⟩]
theorem up_ne {M : am_M} {k j k' j' : Nat} {v : Int32} (h : k' ≠ k ∨ j' ≠ j) : am_up M k j v k' j' = M k' j' := by
  unfold am_up
  rw [if_neg]
  intro q
  rcases h with h | h
  · exact h q.1
  · exact h q.2
theorem up_k {M : am_M} {k j k' : Nat} {v : Int32} (h : k' ≠ k) : am_up M k j v k' = M k' := am_up_same h
