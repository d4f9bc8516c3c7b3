/-! WHOLE NUMBERS AS INTS AND LONGS -/
def iI (x : Int) : Int32 := Int32.ofInt x
def jI (x : Int) : Int64 := Int64.ofInt x
theorem iI_t {x : Int} (h1 : -1000000000 ≤ x) (h2 : x ≤ 1000000000) : (iI x).toInt = x := by
  exact Int32.toInt_ofInt_of_le (by omega) (by omega)
theorem jI_t {x : Int} (h1 : -1000000000000000 ≤ x) (h2 : x ≤ 1000000000000000) : (jI x).toInt = x := by
  exact Int64.toInt_ofInt_of_le (by omega) (by omega)
theorem j64_eq {a b : Int64} : a = b ↔ a.toInt = b.toInt := Int64.toInt_inj.symm
theorem nI_iI {k : Nat} (h : k < 1000000) : nI k = iI k := by
  rw [i32_eq, nI_t h, iI_t (by omega) (by omega)]
theorem iI_neg {x : Int} (h1 : -1000000000 ≤ x) (h2 : x ≤ 1000000000) : -(iI x) = iI (-x) := by
  rw [i32_eq, Int32.toInt_neg, iI_t h1 h2, iI_t (by omega) (by omega)]
  simp only [Int.bmod]
  omega
theorem jI_neg {x : Int} (h1 : -1000000000 ≤ x) (h2 : x ≤ 1000000000) : -(jI x) = jI (-x) := by
  rw [j64_eq, Int64.toInt_neg, jI_t (by omega) (by omega), jI_t (by omega) (by omega)]
  simp only [Int.bmod]
  omega
theorem iI_64 {x : Int} (h1 : -1000000000 ≤ x) (h2 : x ≤ 1000000000) : (iI x).toInt64 = jI x := by
  rw [j64_eq, Int32.toInt_toInt64, iI_t h1 h2, jI_t (by omega) (by omega)]
theorem jI_32 {x : Int} (h1 : -1000000000 ≤ x) (h2 : x ≤ 1000000000) : (jI x).toInt32 = iI x := by
  rw [i32_eq, Int64.toInt_toInt32, jI_t (by omega) (by omega), iI_t h1 h2]
  simp only [Int.bmod]
  omega
theorem jI_add {x y : Int} (h1 : -1000000000 ≤ x) (h2 : x ≤ 1000000000) (h3 : -1000000000 ≤ y) (h4 : y ≤ 1000000000) : jI x + jI y = jI (x + y) := by
  rw [j64_eq, Int64.toInt_add, jI_t (by omega) (by omega), jI_t (by omega) (by omega), jI_t (by omega) (by omega)]
  simp only [Int.bmod]
  omega
theorem jI_sub {x y : Int} (h1 : -1000000000 ≤ x) (h2 : x ≤ 1000000000) (h3 : -1000000000 ≤ y) (h4 : y ≤ 1000000000) : jI x - jI y = jI (x - y) := by
  rw [j64_eq, Int64.toInt_sub, jI_t (by omega) (by omega), jI_t (by omega) (by omega), jI_t (by omega) (by omega)]
  simp only [Int.bmod]
  omega
/-- as far as the values of a law may go -/
def small (x : Int) : Prop := -2000000 ≤ x ∧ x ≤ 2000000
theorem mul_small {x y : Int} (hx : small x) (hy : small y) : -4000000000000 ≤ x * y ∧ x * y ≤ 4000000000000 := by
  obtain ⟨a1, a2⟩ := hx
  obtain ⟨b1, b2⟩ := hy
  have hn : (x * y).natAbs ≤ 2000000 * 2000000 := by
    rw [Int.natAbs_mul]
    exact Nat.mul_le_mul (by omega) (by omega)
  omega
theorem jI_mul {x y : Int} (hx : small x) (hy : small y) : jI x * jI y = jI (x * y) := by
  obtain ⟨m1, m2⟩ := mul_small hx hy
  have a := hx
  have b := hy
  unfold small at a b
  rw [j64_eq, Int64.toInt_mul, jI_t (by omega) (by omega), jI_t (by omega) (by omega), jI_t (by omega) (by omega)]
  generalize x * y = w at m1 m2 ⊢
  simp only [Int.bmod]
  omega
theorem tdiv_small {x y : Int} (hx : small x) : small (x.tdiv y) := by
  obtain ⟨a1, a2⟩ := hx
  have hn : (x.tdiv y).natAbs ≤ x.natAbs := by
    rw [Int.natAbs_tdiv]
    exact Nat.div_le_self _ _
  unfold small
  omega
theorem jI_div {x y : Int} (hx : small x) (hy : small y) : jI x / jI y = jI (x.tdiv y) := by
  have d := tdiv_small (y := y) hx
  unfold small at hx hy d
  rw [j64_eq, Int64.toInt_div, jI_t (by omega) (by omega), jI_t (by omega) (by omega), jI_t (by omega) (by omega)]
  generalize x.tdiv y = w at d ⊢
  simp only [Int.bmod]
  omega
theorem cmp_le (x y : Int64) : lg_cmp x y ≤ 0 ↔ x.toInt ≤ y.toInt := by
  unfold lg_cmp
  by_cases h1 : x > y
  · have h2 : y.toInt < x.toInt := Int64.lt_iff_toInt_lt.mp h1
    rw [if_pos h1]
    exact ⟨fun h => absurd h (by decide), fun h => by omega⟩
  · have h2 : ¬ y.toInt < x.toInt := fun w => h1 (Int64.lt_iff_toInt_lt.mpr w)
    rw [if_neg h1]
    refine ⟨fun _ => by omega, fun _ => ?_⟩
    split <;> decide
theorem cmp_ge (x y : Int64) : 0 ≤ lg_cmp x y ↔ y.toInt ≤ x.toInt := by
  unfold lg_cmp
  by_cases h1 : x > y
  · have h2 : y.toInt < x.toInt := Int64.lt_iff_toInt_lt.mp h1
    rw [if_pos h1]
    exact ⟨fun _ => by omega, fun _ => by decide⟩
  · have h2 : ¬ y.toInt < x.toInt := fun w => h1 (Int64.lt_iff_toInt_lt.mpr w)
    rw [if_neg h1]
    by_cases h3 : x = y
    · rw [if_pos h3, h3]; exact ⟨fun _ => Int.le_refl _, fun _ => by decide⟩
    · rw [if_neg h3]
      refine ⟨fun h => absurd h (by decide), fun h => ?_⟩
      exact absurd (j64_eq.mpr (by omega)) h3
theorem cmp_lt (x y : Int64) : lg_cmp x y < 0 ↔ x.toInt < y.toInt := by
  have := cmp_ge x y
  have h0 : (0 : Int32).toInt = 0 := rfl
  rw [i32_le, h0] at this
  rw [i32_lt, h0]
  omega
theorem cmp_gt (x y : Int64) : 0 < lg_cmp x y ↔ y.toInt < x.toInt := by
  have := cmp_le x y
  have h0 : (0 : Int32).toInt = 0 := rfl
  rw [i32_le, h0] at this
  rw [i32_lt, h0]
  omega
/-- cut at a million -/
def clp (x : Int) : Int := if 1000000 < x then 1000000 else if x < -1000000 then -1000000 else x
theorem clp_small (x : Int) : small (clp x) := by
  unfold clp small
  split
  · omega
  · split <;> omega
theorem s_cut {n : Nat} {S : MS} {x : Int} (h1 : -100000000000000 ≤ x) (h2 : x ≤ 100000000000000) : f_X5_cut n (jI x) S = some (iI (clp x), S) := by
  unfold f_X5_cut
  have hx := jI_t (x := x) (by omega) (by omega)
  have k1 : (1000000 : Int64) = jI 1000000 := by decide
  have k2 : (-1000000 : Int64) = jI (-1000000) := by decide
  have t1 : (1000000 : Int64).toInt = 1000000 := by decide
  have t2 : (-1000000 : Int64).toInt = -1000000 := by decide
  have e : jmax (-1000000) (jmin 1000000 (jI x)) = jI (clp x) := by
    unfold jmax jmin clp
    by_cases c1 : 1000000 < x
    · rw [if_neg (show ¬ jI x < 1000000 by rw [Int64.lt_iff_toInt_lt, hx, t1]; omega), if_pos c1, if_neg (by decide), k1]
    · by_cases c2 : x = 1000000
      · rw [if_neg (show ¬ jI x < 1000000 by rw [Int64.lt_iff_toInt_lt, hx, t1]; omega), if_neg (show ¬ (1000000 : Int64) < -1000000 by decide), if_neg c1, if_neg (show ¬ x < -1000000 by omega), c2, k1]
      · rw [if_pos (show jI x < 1000000 by rw [Int64.lt_iff_toInt_lt, hx, t1]; omega), if_neg c1]
        by_cases c3 : x < -1000000
        · rw [if_pos (show jI x < -1000000 by rw [Int64.lt_iff_toInt_lt, hx, t2]; omega), if_pos c3, k2]
        · rw [if_neg (show ¬ jI x < -1000000 by rw [Int64.lt_iff_toInt_lt, hx, t2]; omega), if_neg c3]
  have hs := clp_small x
  unfold small at hs
  rw [e, jI_32 (by omega) (by omega)]
theorem s_clip {n : Nat} {S : MS} {x : Int} (h1 : -100000000000000 ≤ x) (h2 : x ≤ 100000000000000) : f_X11_clip n (jI x) S = some (jI (clp x), S) := by
  unfold f_X11_clip clp
  have hx := jI_t (x := x) (by omega) (by omega)
  have t1 : (1000000 : Int64).toInt = 1000000 := by decide
  have t2 : (-1000000 : Int64).toInt = -1000000 := by decide
  by_cases c1 : 1000000 < x
  · rw [if_neg (by rw [cmp_le, hx, t1]; omega), if_pos c1]; rfl
  · rw [if_pos (by rw [cmp_le, hx, t1]; omega), if_neg c1]
    by_cases c3 : x < -1000000
    · rw [if_neg (by rw [cmp_ge, hx, t2]; omega), if_pos c3]; rfl
    · rw [if_pos (by rw [cmp_ge, hx, t2]; omega), if_neg c3]
theorem and63 {w : Nat} (h : w < 1000000) : nI w &&& (63 : Int32) = nI (w % 64) := by
  apply Int32.toBitVec_inj.mp
  apply BitVec.eq_of_toNat_eq
  show (BitVec.ofNat 32 w &&& 63#32).toNat = (BitVec.ofNat 32 (w % 64)).toNat
  rw [BitVec.toNat_and, BitVec.toNat_ofNat, BitVec.toNat_ofNat, BitVec.toNat_ofNat]
  show (w % 2 ^ 32) &&& (2 ^ 6 - 1) = _
  rw [Nat.and_two_pow_sub_one_eq_mod]
  omega
theorem iush6 {w : Nat} (h : w < 1000000) : iush (nI w) (6 : Int32) = nI (w / 64) := by
  apply Int32.toBitVec_inj.mp
  apply BitVec.eq_of_toNat_eq
  show (BitVec.ofNat 32 w >>> 6).toNat = (BitVec.ofNat 32 (w / 64)).toNat
  rw [BitVec.toNat_ushiftRight, BitVec.toNat_ofNat, BitVec.toNat_ofNat, Nat.shiftRight_eq_div_pow]
  omega
