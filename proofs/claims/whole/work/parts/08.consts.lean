abbrev rem (x y : Int32) : Int32 := x - x / y * y
/-- more rounds than any loop takes -/
def FU : Nat := 100000
theorem ib_m10 : (Int8.ofInt (-10)).toInt32 = (-10) := by decide
theorem ib_m5 : (Int8.ofInt (-5)).toInt32 = (-5) := by decide
theorem ib_m4 : (Int8.ofInt (-4)).toInt32 = (-4) := by decide
theorem ib_m3 : (Int8.ofInt (-3)).toInt32 = (-3) := by decide
theorem ib_m2 : (Int8.ofInt (-2)).toInt32 = (-2) := by decide
theorem ib_6 : (Int8.ofInt 6).toInt32 = 6 := by decide
theorem ib_7 : (Int8.ofInt 7).toInt32 = 7 := by decide
theorem ib_8 : (Int8.ofInt 8).toInt32 = 8 := by decide
theorem ib_10 : (Int8.ofInt 10).toInt32 = 10 := by decide
theorem ib_11 : (Int8.ofInt 11).toInt32 = 11 := by decide
theorem ib_12 : (Int8.ofInt 12).toInt32 = 12 := by decide
theorem ib_13 : (Int8.ofInt 13).toInt32 = 13 := by decide
theorem ib_16 : (Int8.ofInt 16).toInt32 = 16 := by decide
theorem ib_32 : (Int8.ofInt 32).toInt32 = 32 := by decide
theorem ib_36 : (Int8.ofInt 36).toInt32 = 36 := by decide
theorem ib_40 : (Int8.ofInt 40).toInt32 = 40 := by decide
theorem ib_41 : (Int8.ofInt 41).toInt32 = 41 := by decide
theorem ib_48 : (Int8.ofInt 48).toInt32 = 48 := by decide
theorem ib_57 : (Int8.ofInt 57).toInt32 = 57 := by decide
theorem ib_59 : (Int8.ofInt 59).toInt32 = 59 := by decide
theorem ib_63 : (Int8.ofInt 63).toInt32 = 63 := by decide
theorem ib_100 : (Int8.ofInt 100).toInt32 = 100 := by decide
theorem ib_103 : (Int8.ofInt 103).toInt32 = 103 := by decide
theorem ib_107 : (Int8.ofInt 107).toInt32 = 107 := by decide
theorem ib_112 : (Int8.ofInt 112).toInt32 = 112 := by decide
theorem ib_117 : (Int8.ofInt 117).toInt32 = 117 := by decide
theorem ib_119 : (Int8.ofInt 119).toInt32 = 119 := by decide
theorem ib_120 : (Int8.ofInt 120).toInt32 = 120 := by decide
theorem ib_127 : (Int8.ofInt 127).toInt32 = 127 := by decide
theorem cl_8 : (8 : Int32).toNatClampNeg = 8 := by decide
theorem cl_12 : (12 : Int32).toNatClampNeg = 12 := by decide
theorem ic_m1 : Int32.ofInt (-1) = (-1) := by decide
theorem ic_0 : Int32.ofInt 0 = 0 := by decide
theorem ic_1 : Int32.ofInt 1 = 1 := by decide
theorem ic_2 : Int32.ofInt 2 = 2 := by decide
theorem ic_3 : Int32.ofInt 3 = 3 := by decide
theorem ic_4 : Int32.ofInt 4 = 4 := by decide
theorem ic_5 : Int32.ofInt 5 = 5 := by decide
theorem ii_m1 (x : Int32) : x + Int32.ofInt (-1) = x + (-1) := rfl
theorem ii_1 (x : Int32) : x + Int32.ofInt 1 = x + 1 := rfl
theorem ii_2 (x : Int32) : x + Int32.ofInt 2 = x + 2 := rfl
theorem nz_2 : ¬ (2 : Int32) = 0 := by decide
theorem nz_3 : ¬ (3 : Int32) = 0 := by decide
theorem nz_4 : ¬ (4 : Int32) = 0 := by decide
theorem nz_6 : ¬ (6 : Int32) = 0 := by decide
theorem nz_16 : ¬ (16 : Int32) = 0 := by decide
theorem is_m1000 : (Int16.ofInt (-1000)).toInt32 = (-1000) := by decide
theorem is_128 : (Int16.ofInt 128).toInt32 = 128 := by decide
theorem is_324 : (Int16.ofInt 324).toInt32 = 324 := by decide
theorem is_336 : (Int16.ofInt 336).toInt32 = 336 := by decide
theorem is_1344 : (Int16.ofInt 1344).toInt32 = 1344 := by decide
theorem inb_ix {i : Int32} {n : Nat} (h : inb i n) : ix i < n := Nat.not_le.mp fun q => inb_in h (Or.inr q)
theorem ts_ne {x v : Int32} {k : Int} (hv : v.toInt = k) (h : ¬ x = v) : x.toInt ≠ k := fun e => h (Int32.toInt_inj.mp (e.trans hv.symm))
theorem ts_out {x : Int32} {lo hi : Int} (h : ∀ k : Int, lo ≤ k → k ≤ hi → x.toInt ≠ k) : x.toInt < lo ∨ hi < x.toInt := by
  rcases Int.lt_or_le x.toInt lo with q | q
  · exact Or.inl q
  rcases Int.lt_or_le hi x.toInt with r | r
  · exact Or.inr r
  · exact absurd rfl (h x.toInt q r)
theorem ft_0_0 {k : Nat} (h : kd k = 0) : kd (rf k 0) = 7 ∧ ln (rf k 0) = 12 := (by decide +kernel : ∀ k, k < 307 → kd k = 0 → kd (rf k 0) = 7 ∧ ln (rf k 0) = 12) k (kd_lt (by omega)) h
theorem ft_0_1 {k : Nat} (h : kd k = 0) : kd (rf k 1) = 7 ∧ ln (rf k 1) = 12 := (by decide +kernel : ∀ k, k < 307 → kd k = 0 → kd (rf k 1) = 7 ∧ ln (rf k 1) = 12) k (kd_lt (by omega)) h
theorem ft_0_2 {k : Nat} (h : kd k = 0) : kd (rf k 2) = 7 ∧ ln (rf k 2) = 12 := (by decide +kernel : ∀ k, k < 307 → kd k = 0 → kd (rf k 2) = 7 ∧ ln (rf k 2) = 12) k (kd_lt (by omega)) h
theorem ft_1_0 {k : Nat} (h : kd k = 1) : kd (rf k 0) = 9 ∧ ln (rf k 0) = 6 := (by decide +kernel : ∀ k, k < 307 → kd k = 1 → kd (rf k 0) = 9 ∧ ln (rf k 0) = 6) k (kd_lt (by omega)) h
theorem ft_2_0 {k : Nat} (h : kd k = 2) : kd (rf k 0) = 10 ∧ ln (rf k 0) = 9 := (by decide +kernel : ∀ k, k < 307 → kd k = 2 → kd (rf k 0) = 10 ∧ ln (rf k 0) = 9) k (kd_lt (by omega)) h
theorem ft_2_1 {k : Nat} (h : kd k = 2) : kd (rf k 1) = 7 ∧ ln (rf k 1) = 8 := (by decide +kernel : ∀ k, k < 307 → kd k = 2 → kd (rf k 1) = 7 ∧ ln (rf k 1) = 8) k (kd_lt (by omega)) h
theorem ft_2_2 {k : Nat} (h : kd k = 2) : kd (rf k 2) = 7 ∧ ln (rf k 2) = 8 := (by decide +kernel : ∀ k, k < 307 → kd k = 2 → kd (rf k 2) = 7 ∧ ln (rf k 2) = 8) k (kd_lt (by omega)) h
theorem ft_2_3 {k : Nat} (h : kd k = 2) : kd (rf k 3) = 10 ∧ ln (rf k 3) = 6 := (by decide +kernel : ∀ k, k < 307 → kd k = 2 → kd (rf k 3) = 10 ∧ ln (rf k 3) = 6) k (kd_lt (by omega)) h
theorem ft_2_4 {k : Nat} (h : kd k = 2) : kd (rf k 4) = 7 ∧ ln (rf k 4) = 6 := (by decide +kernel : ∀ k, k < 307 → kd k = 2 → kd (rf k 4) = 7 ∧ ln (rf k 4) = 6) k (kd_lt (by omega)) h
theorem ft_2_5 {k : Nat} (h : kd k = 2) : kd (rf k 5) = 7 ∧ ln (rf k 5) = 8 := (by decide +kernel : ∀ k, k < 307 → kd k = 2 → kd (rf k 5) = 7 ∧ ln (rf k 5) = 8) k (kd_lt (by omega)) h
theorem ft_2_6 {k : Nat} (h : kd k = 2) : kd (rf k 6) = 7 ∧ ln (rf k 6) = 5 := (by decide +kernel : ∀ k, k < 307 → kd k = 2 → kd (rf k 6) = 7 ∧ ln (rf k 6) = 5) k (kd_lt (by omega)) h
theorem ft_2_7 {k : Nat} (h : kd k = 2) : kd (rf k 7) = 7 ∧ ln (rf k 7) = 8 := (by decide +kernel : ∀ k, k < 307 → kd k = 2 → kd (rf k 7) = 7 ∧ ln (rf k 7) = 8) k (kd_lt (by omega)) h
theorem ft_3_1 {k : Nat} (h : kd k = 3) : kd (rf k 1) = 7 ∧ ln (rf k 1) = 8 := (by decide +kernel : ∀ k, k < 307 → kd k = 3 → kd (rf k 1) = 7 ∧ ln (rf k 1) = 8) k (kd_lt (by omega)) h
theorem ft_3_2 {k : Nat} (h : kd k = 3) : kd (rf k 2) = 7 ∧ ln (rf k 2) = 8 := (by decide +kernel : ∀ k, k < 307 → kd k = 3 → kd (rf k 2) = 7 ∧ ln (rf k 2) = 8) k (kd_lt (by omega)) h
theorem ft_3_4 {k : Nat} (h : kd k = 3) : kd (rf k 4) = 8 ∧ ln (rf k 4) = 8 := (by decide +kernel : ∀ k, k < 307 → kd k = 3 → kd (rf k 4) = 8 ∧ ln (rf k 4) = 8) k (kd_lt (by omega)) h
theorem ft_3_6 {k : Nat} (h : kd k = 3) : kd (rf k 6) = 7 ∧ ln (rf k 6) = 12 := (by decide +kernel : ∀ k, k < 307 → kd k = 3 → kd (rf k 6) = 7 ∧ ln (rf k 6) = 12) k (kd_lt (by omega)) h
theorem ft_3_7 {k : Nat} (h : kd k = 3) : kd (rf k 7) = 7 ∧ ln (rf k 7) = 8 := (by decide +kernel : ∀ k, k < 307 → kd k = 3 → kd (rf k 7) = 7 ∧ ln (rf k 7) = 8) k (kd_lt (by omega)) h
theorem ft_4_0 {k : Nat} (h : kd k = 4) : kd (rf k 0) = 7 ∧ ln (rf k 0) = 120 := (by decide +kernel : ∀ k, k < 307 → kd k = 4 → kd (rf k 0) = 7 ∧ ln (rf k 0) = 120) k (kd_lt (by omega)) h
theorem ft_4_5 {k : Nat} (h : kd k = 4) : kd (rf k 5) = 7 ∧ ln (rf k 5) = 3 := (by decide +kernel : ∀ k, k < 307 → kd k = 4 → kd (rf k 5) = 7 ∧ ln (rf k 5) = 3) k (kd_lt (by omega)) h
theorem ft_4_6 {k : Nat} (h : kd k = 4) : kd (rf k 6) = 7 ∧ ln (rf k 6) = 12 := (by decide +kernel : ∀ k, k < 307 → kd k = 4 → kd (rf k 6) = 7 ∧ ln (rf k 6) = 12) k (kd_lt (by omega)) h
theorem ft_5_0 {k : Nat} (h : kd k = 5) : kd (rf k 0) = 3 := (by decide +kernel : ∀ k, k < 307 → kd k = 5 → kd (rf k 0) = 3) k (kd_lt (by omega)) h
theorem ft_5_1 {k : Nat} (h : kd k = 5) : kd (rf k 1) = 1 := (by decide +kernel : ∀ k, k < 307 → kd k = 5 → kd (rf k 1) = 1) k (kd_lt (by omega)) h
theorem ft_5_2 {k : Nat} (h : kd k = 5) : kd (rf k 2) = 4 := (by decide +kernel : ∀ k, k < 307 → kd k = 5 → kd (rf k 2) = 4) k (kd_lt (by omega)) h
theorem ft_5_3 {k : Nat} (h : kd k = 5) : kd (rf k 3) = 2 := (by decide +kernel : ∀ k, k < 307 → kd k = 5 → kd (rf k 3) = 2) k (kd_lt (by omega)) h
theorem ft_5_4 {k : Nat} (h : kd k = 5) : kd (rf k 4) = 7 ∧ ln (rf k 4) = 3 := (by decide +kernel : ∀ k, k < 307 → kd k = 5 → kd (rf k 4) = 7 ∧ ln (rf k 4) = 3) k (kd_lt (by omega)) h
theorem ft_6_0 {k : Nat} (h : kd k = 6) : kd (rf k 0) = 7 ∧ ln (rf k 0) = 336 := (by decide +kernel : ∀ k, k < 307 → kd k = 6 → kd (rf k 0) = 7 ∧ ln (rf k 0) = 336) k (kd_lt (by omega)) h
theorem ft_6_1 {k : Nat} (h : kd k = 6) : kd (rf k 1) = 7 ∧ ln (rf k 1) = 1680 := (by decide +kernel : ∀ k, k < 307 → kd k = 6 → kd (rf k 1) = 7 ∧ ln (rf k 1) = 1680) k (kd_lt (by omega)) h
theorem ft_6_3 {k : Nat} (h : kd k = 6) : kd (rf k 3) = 7 ∧ ln (rf k 3) = 336 := (by decide +kernel : ∀ k, k < 307 → kd k = 6 → kd (rf k 3) = 7 ∧ ln (rf k 3) = 336) k (kd_lt (by omega)) h
theorem ft_6_4 {k : Nat} (h : kd k = 6) : kd (rf k 4) = 7 ∧ ln (rf k 4) = 3 := (by decide +kernel : ∀ k, k < 307 → kd k = 6 → kd (rf k 4) = 7 ∧ ln (rf k 4) = 3) k (kd_lt (by omega)) h
theorem ft_6_6 {k : Nat} (h : kd k = 6) : kd (rf k 6) = 7 ∧ ln (rf k 6) = 120 := (by decide +kernel : ∀ k, k < 307 → kd k = 6 → kd (rf k 6) = 7 ∧ ln (rf k 6) = 120) k (kd_lt (by omega)) h
theorem ft_6_7 {k : Nat} (h : kd k = 6) : kd (rf k 7) = 7 ∧ ln (rf k 7) = 96 := (by decide +kernel : ∀ k, k < 307 → kd k = 6 → kd (rf k 7) = 7 ∧ ln (rf k 7) = 96) k (kd_lt (by omega)) h
theorem ft_6_8 {k : Nat} (h : kd k = 6) : kd (rf k 8) = 7 ∧ ln (rf k 8) = 6 := (by decide +kernel : ∀ k, k < 307 → kd k = 6 → kd (rf k 8) = 7 ∧ ln (rf k 8) = 6) k (kd_lt (by omega)) h
theorem ft_6_9 {k : Nat} (h : kd k = 6) : kd (rf k 9) = 7 ∧ ln (rf k 9) = 1560 := (by decide +kernel : ∀ k, k < 307 → kd k = 6 → kd (rf k 9) = 7 ∧ ln (rf k 9) = 1560) k (kd_lt (by omega)) h
theorem el_3_4 {k i : Nat} (h : kd k = 3) (hi : i < 8) : kd (rf (rf k 4) i) = 0 := (by decide +kernel : ∀ k, k < 307 → kd k = 3 → ∀ i, i < 8 → kd (rf (rf k 4) i) = 0) k (kd_lt (by omega)) h i hi
theorem el_1_0 {k i : Nat} (h : kd k = 1) (hi : i < 6) : kd (rf (rf k 0) i) = 3 := (by decide +kernel : ∀ k, k < 307 → kd k = 1 → ∀ i, i < 6 → kd (rf (rf k 0) i) = 3) k (kd_lt (by omega)) h i hi
theorem el_2_0 {k i : Nat} (h : kd k = 2) (hi : i < 9) : kd (rf (rf k 0) i) = 7 ∧ ln (rf (rf k 0) i) = 48 := (by decide +kernel : ∀ k, k < 307 → kd k = 2 → ∀ i, i < 9 → kd (rf (rf k 0) i) = 7 ∧ ln (rf (rf k 0) i) = 48) k (kd_lt (by omega)) h i hi
theorem el_2_3 {k i : Nat} (h : kd k = 2) (hi : i < 6) : kd (rf (rf k 3) i) = 7 ∧ ln (rf (rf k 3) i) = 8 := (by decide +kernel : ∀ k, k < 307 → kd k = 2 → ∀ i, i < 6 → kd (rf (rf k 3) i) = 7 ∧ ln (rf (rf k 3) i) = 8) k (kd_lt (by omega)) h i hi
