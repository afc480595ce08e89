theorem zz1 (a b : Int32) (h : 0 ≤ a) (h2 : a < 10) : a + 1 ≤ 10 := by grind
theorem zz2 (a b : Int32) (h : 0 ≤ a) (h2 : a < 10) (h3 : 0 ≤ b) (h4 : b < 16) : b * 10 + a < 160 := by grind
theorem zz3 (n : Nat) (h : n < 10) : Int32.ofNat n < 10 := by grind
theorem zz4 (I : MI) (f o : Nat) : mst I (f+2) o 3 (f + 3) 4 = I (f+3) 4 := by grind [mst]
theorem zz5 (x y : Int32) (h : x.toInt + y.toInt < 100) (h1 : 0 ≤ x.toInt) (h2 : 0 ≤ y.toInt): (x + y).toInt = x.toInt + y.toInt := by
  rw [Int32.toInt_add]; omega
