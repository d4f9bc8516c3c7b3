/-! COUNTING: how many places below k hold; the JDK's bitCount counts the bits -/
def cnt (f : Nat → Bool) : Nat → Nat
  | 0 => 0
  | k + 1 => cnt f k + (if f k = true then 1 else 0)
theorem cnt_congr {f g : Nat → Bool} : ∀ k, (∀ i, i < k → f i = g i) → cnt f k = cnt g k
  | 0, _ => rfl
  | k + 1, h => by rw [cnt, cnt, cnt_congr k (fun i hi => h i (by omega)), h k (by omega)]
theorem cnt_bot (f : Nat → Bool) : ∀ k, cnt f (k + 1) = (if f 0 = true then 1 else 0) + cnt (fun i => f (i + 1)) k
  | 0 => by simp [cnt]
  | k + 1 => by rw [cnt, cnt_bot f k, cnt]; omega
theorem cnt_le (f : Nat → Bool) : ∀ k, cnt f k ≤ k
  | 0 => Nat.le_refl _
  | k + 1 => by have := cnt_le f k; rw [cnt]; split <;> omega
theorem cnt_mono {f g : Nat → Bool} : ∀ k, (∀ i, i < k → f i = true → g i = true) → cnt f k ≤ cnt g k
  | 0, _ => Nat.le_refl _
  | k + 1, h => by
    have h1 := cnt_mono k (fun i hi => h i (by omega))
    rw [cnt, cnt]
    by_cases hf : f k = true
    · rw [if_pos hf, if_pos (h k (by omega) hf)]; omega
    · rw [if_neg hf]; omega
theorem cnt_lt {f g : Nat → Bool} : ∀ k, (∀ i, i < k → f i = true → g i = true) → (∃ i, i < k ∧ f i = false ∧ g i = true) → cnt f k < cnt g k
  | 0, _, ⟨_, h, _⟩ => by omega
  | k + 1, h, ⟨i, hi, h1, h2⟩ => by
    rw [cnt, cnt]
    by_cases hik : i = k
    · subst hik
      have := cnt_mono (f := f) (g := g) i (fun j hj => h j (by omega))
      rw [h1, h2]
      simp only [Bool.false_eq_true, if_false, if_true]
      omega
    · have := cnt_lt k (fun j hj => h j (by omega)) ⟨i, by omega, h1, h2⟩
      by_cases hf : f k = true
      · rw [if_pos hf, if_pos (h k (by omega) hf)]; omega
      · rw [if_neg hf]; omega
theorem cnt_zero {f : Nat → Bool} : ∀ k, (∀ i, i < k → f i = false) → cnt f k = 0
  | 0, _ => rfl
  | k + 1, h => by rw [cnt, cnt_zero k (fun i hi => h i (by omega)), h k (by omega)]; rfl
theorem cnt_full {f : Nat → Bool} : ∀ k, cnt f k = k → ∀ i, i < k → f i = true
  | 0, _, i, h => by omega
  | k + 1, h, i, hi => by
    have h1 := cnt_le f k
    rw [cnt] at h
    by_cases hf : f k = true
    · by_cases hik : i = k
      · subst hik; exact hf
      · rw [if_pos hf] at h; exact cnt_full k (by omega) i (by omega)
    · rw [if_neg hf] at h; omega
/-- past m nothing holds -/
theorem cnt_stop {f : Nat → Bool} {m : Nat} (h : ∀ i, m ≤ i → f i = false) : ∀ d, cnt f (m + d) = cnt f m
  | 0 => rfl
  | d + 1 => by rw [← Nat.add_assoc, cnt, cnt_stop h d, h (m + d) (by omega)]; rfl
/-- how many of the low bits of a number are set -/
def pc : Nat → Nat → Nat
  | 0, _ => 0
  | j + 1, X => X % 2 + pc j (X / 2)
theorem pc_cnt : ∀ (j X : Nat), pc j X = cnt (fun i => X.testBit i) j
  | 0, _ => rfl
  | j + 1, X => by
    rw [pc, cnt_bot, pc_cnt j (X / 2)]
    congr 1
    · rw [Nat.testBit_zero]
      rcases Nat.mod_two_eq_zero_or_one X with h | h <;> simp [h]
    · exact cnt_congr _ (fun i _ => (Nat.testBit_succ X i).symm)
theorem pc_8 (j X : Nat) : pc (j + 8) X = pc 8 (X % 256) + pc j (X / 256) := by
  have e : X / 2 / 2 / 2 / 2 / 2 / 2 / 2 / 2 = X / 256 := by omega
  show X % 2 + (X / 2 % 2 + (X / 2 / 2 % 2 + (X / 2 / 2 / 2 % 2 + (X / 2 / 2 / 2 / 2 % 2 + (X / 2 / 2 / 2 / 2 / 2 % 2 + (X / 2 / 2 / 2 / 2 / 2 / 2 % 2 + (X / 2 / 2 / 2 / 2 / 2 / 2 / 2 % 2 + pc j (X / 2 / 2 / 2 / 2 / 2 / 2 / 2 / 2)))))))) = _
  rw [e]
  simp only [pc]
  omega
theorem and_sp {a m y M : Nat} (ha : a < 256) (hm : m < 256) : (a + 256 * y) &&& (m + 256 * M) = (a &&& m) + 256 * (y &&& M) := by
  have hb : (a &&& m) < 2 ^ 8 := Nat.lt_of_le_of_lt Nat.and_le_left ha
  apply Nat.eq_of_testBit_eq
  intro i
  rw [Nat.testBit_and, Nat.add_comm a, Nat.add_comm m, Nat.add_comm (a &&& m), show 256 = 2 ^ 8 from rfl, Nat.testBit_two_pow_mul_add _ ha, Nat.testBit_two_pow_mul_add _ hm, Nat.testBit_two_pow_mul_add _ hb]
  by_cases h : i < 8
  · rw [if_pos h, if_pos h, if_pos h, Nat.testBit_and]
  · rw [if_neg h, if_neg h, if_neg h, Nat.testBit_and]
/-- the row of bytes m -/
def rep (m : Nat) : Nat → Nat
  | 0 => 0
  | j + 1 => m + 256 * rep m j
theorem rep_s (m j : Nat) : rep m (j + 1) = m + 256 * rep m j := rfl
def q1 (j X : Nat) : Nat := X - (X / 2 &&& rep 85 j)
def q2 (j X : Nat) : Nat := (X &&& rep 51 j) + (X / 4 &&& rep 51 j)
def q3 (j X : Nat) : Nat := (X + X / 16) &&& rep 15 j
theorem d1 : ∀ b, b < 256 → ∀ c, c < 2 → (b / 2 + 128 * c) &&& 85 = (b / 2) &&& 85 := by decide +kernel
theorem d2 : ∀ b, b < 256 → ∀ c, c < 4 → (b / 4 + 64 * c) &&& 51 = (b / 4) &&& 51 := by decide +kernel
theorem d3 : ∀ b, b < 80 → ∀ c, c < 5 → (b + b / 16 + 16 * c) &&& 15 = (b + b / 16) &&& 15 := by decide +kernel
def g1 (b : Nat) : Nat := b - (b / 2 &&& 85)
def g2 (b : Nat) : Nat := (b &&& 51) + (b / 4 &&& 51)
def g3 (b : Nat) : Nat := (b + b / 16) &&& 15
theorem g12 : ∀ b, b < 256 → g2 (g1 b) < 70 ∧ g2 (g1 b) % 16 < 5 ∧ g3 (g2 (g1 b)) = pc 8 b ∧ pc 8 b ≤ 8 := by decide +kernel
theorem q1_s {b Y j : Nat} (hb : b < 256) : q1 (j + 1) (b + 256 * Y) = g1 b + 256 * q1 j Y := by
  unfold q1 g1
  rw [rep_s]
  have e : (b + 256 * Y) / 2 = (b / 2 + 128 * (Y % 2)) + 256 * (Y / 2) := by omega
  rw [e, and_sp (by omega) (by omega), d1 b hb _ (by omega)]
  have h1 : (b / 2 &&& 85) ≤ b / 2 := Nat.and_le_left
  have h2 : (Y / 2 &&& rep 85 j) ≤ Y / 2 := Nat.and_le_left
  omega
theorem q2_s {b Y j : Nat} (hb : b < 256) : q2 (j + 1) (b + 256 * Y) = g2 b + 256 * q2 j Y := by
  unfold q2 g2
  rw [rep_s]
  have e : (b + 256 * Y) / 4 = (b / 4 + 64 * (Y % 4)) + 256 * (Y / 4) := by omega
  rw [e, and_sp (by omega) (by omega), and_sp (by omega) (by omega), d2 b hb _ (by omega)]
  omega
theorem q3_s {b Y j : Nat} (hb : b < 80) (hY : Y % 16 < 5) : q3 (j + 1) (b + 256 * Y) = g3 b + 256 * q3 j Y := by
  unfold q3 g3
  rw [rep_s]
  have e : b + 256 * Y + (b + 256 * Y) / 16 = (b + b / 16 + 16 * (Y % 16)) + 256 * (Y + Y / 16) := by omega
  rw [e, and_sp (by omega) (by omega), d3 b hb _ hY]
/-- the three steps, byte by byte -/
theorem q_all : ∀ (j X : Nat), X < 256 ^ j → q2 j (q1 j X) % 16 < 5 ∧ q1 j X ≤ X ∧ 3 * q2 j (q1 j X) < 256 ^ j ∧
    (∀ j' X', j = j' + 1 → X = X' % 256 + 256 * (X' / 256) → q3 j (q2 j (q1 j X)) = pc 8 (X' % 256) + 256 * q3 j' (q2 j' (q1 j' (X' / 256))))
  | 0, X, h => by
    have : X = 0 := by rw [Nat.pow_zero] at h; omega
    subst this
    exact ⟨by decide, by decide, by decide, fun j' X' e => by omega⟩
  | j + 1, X, h => by
    have hX : X = X % 256 + 256 * (X / 256) := by omega
    have hp : 256 ^ (j + 1) = 256 * 256 ^ j := by rw [Nat.pow_succ, Nat.mul_comm]
    have hY : X / 256 < 256 ^ j := by rw [hp] at h; omega
    obtain ⟨i1, i2, i3, i4⟩ := q_all j (X / 256) hY
    have hb : X % 256 < 256 := Nat.mod_lt _ (by omega)
    obtain ⟨k1, k2, k3, k4⟩ := g12 (X % 256) hb
    have hg1 : g1 (X % 256) ≤ X % 256 := Nat.sub_le _ _
    have e1 : q1 (j + 1) X = g1 (X % 256) + 256 * q1 j (X / 256) := by
      conv => lhs; rw [hX]
      exact q1_s hb
    have e2 : q2 (j + 1) (q1 (j + 1) X) = g2 (g1 (X % 256)) + 256 * q2 j (q1 j (X / 256)) := by rw [e1]; exact q2_s (by omega)
    refine ⟨by rw [e2]; omega, by rw [e1]; omega, by rw [e2, hp]; omega, ?_⟩
    intro j' X' hj hX'
    have : j' = j := by omega
    subst this
    have : X' = X := by omega
    subst this
    rw [e2, q3_s (by omega) i1, k3]

theorem q_pc {X : Nat} (h : X < 256 ^ 8) : ∃ p0 p1 p2 p3 p4 p5 p6 p7, p0 ≤ 8 ∧ p1 ≤ 8 ∧ p2 ≤ 8 ∧ p3 ≤ 8 ∧ p4 ≤ 8 ∧ p5 ≤ 8 ∧ p6 ≤ 8 ∧ p7 ≤ 8 ∧ q3 8 (q2 8 (q1 8 X)) = p0 + 256 * (p1 + 256 * (p2 + 256 * (p3 + 256 * (p4 + 256 * (p5 + 256 * (p6 + 256 * p7)))))) ∧ pc 64 X = p0 + p1 + p2 + p3 + p4 + p5 + p6 + p7 := by
  have st : ∀ (j Y : Nat), Y < 256 ^ (j + 1) → Y / 256 < 256 ^ j ∧ q3 (j + 1) (q2 (j + 1) (q1 (j + 1) Y)) = pc 8 (Y % 256) + 256 * q3 j (q2 j (q1 j (Y / 256))) := by
    intro j Y hY
    refine ⟨?_, (q_all (j + 1) Y hY).2.2.2 j Y rfl (by omega)⟩
    rw [Nat.pow_succ, Nat.mul_comm] at hY; omega
  have le : ∀ Y, pc 8 (Y % 256) ≤ 8 := fun Y => (g12 _ (Nat.mod_lt _ (by omega))).2.2.2
  obtain ⟨h0, e0⟩ := st 7 X h
  obtain ⟨h1, e1⟩ := st 6 _ h0
  obtain ⟨h2, e2⟩ := st 5 _ h1
  obtain ⟨h3, e3⟩ := st 4 _ h2
  obtain ⟨h4, e4⟩ := st 3 _ h3
  obtain ⟨h5, e5⟩ := st 2 _ h4
  obtain ⟨h6, e6⟩ := st 1 _ h5
  obtain ⟨h7, e7⟩ := st 0 _ h6
  refine ⟨_, _, _, _, _, _, _, _, le (X), le (X / 256), le (X / 256 / 256), le (X / 256 / 256 / 256), le (X / 256 / 256 / 256 / 256), le (X / 256 / 256 / 256 / 256 / 256), le (X / 256 / 256 / 256 / 256 / 256 / 256), le (X / 256 / 256 / 256 / 256 / 256 / 256 / 256), ?_, ?_⟩
  · rw [e0, e1, e2, e3, e4, e5, e6, e7]
    have : q3 0 (q2 0 (q1 0 (X / 256 / 256 / 256 / 256 / 256 / 256 / 256 / 256))) = 0 := by
      unfold q3 rep; exact Nat.and_zero _
    rw [this, Nat.mul_zero, Nat.add_zero]
  · have s0 : pc 64 (X) = pc 8 (X % 256) + pc 56 (X / 256) := pc_8 56 (X)
    have s1 : pc 56 (X / 256) = pc 8 (X / 256 % 256) + pc 48 (X / 256 / 256) := pc_8 48 (X / 256)
    have s2 : pc 48 (X / 256 / 256) = pc 8 (X / 256 / 256 % 256) + pc 40 (X / 256 / 256 / 256) := pc_8 40 (X / 256 / 256)
    have s3 : pc 40 (X / 256 / 256 / 256) = pc 8 (X / 256 / 256 / 256 % 256) + pc 32 (X / 256 / 256 / 256 / 256) := pc_8 32 (X / 256 / 256 / 256)
    have s4 : pc 32 (X / 256 / 256 / 256 / 256) = pc 8 (X / 256 / 256 / 256 / 256 % 256) + pc 24 (X / 256 / 256 / 256 / 256 / 256) := pc_8 24 (X / 256 / 256 / 256 / 256)
    have s5 : pc 24 (X / 256 / 256 / 256 / 256 / 256) = pc 8 (X / 256 / 256 / 256 / 256 / 256 % 256) + pc 16 (X / 256 / 256 / 256 / 256 / 256 / 256) := pc_8 16 (X / 256 / 256 / 256 / 256 / 256)
    have s6 : pc 16 (X / 256 / 256 / 256 / 256 / 256 / 256) = pc 8 (X / 256 / 256 / 256 / 256 / 256 / 256 % 256) + pc 8 (X / 256 / 256 / 256 / 256 / 256 / 256 / 256) := pc_8 8 (X / 256 / 256 / 256 / 256 / 256 / 256)
    have s7 : pc 8 (X / 256 / 256 / 256 / 256 / 256 / 256 / 256) = pc 8 (X / 256 / 256 / 256 / 256 / 256 / 256 / 256 % 256) := pc_8 0 (X / 256 / 256 / 256 / 256 / 256 / 256 / 256)
    rw [s0, s1, s2, s3, s4, s5, s6, s7]
    simp only [Nat.add_assoc]
def jN (x : Int64) : Nat := x.toBitVec.toNat
theorem jN_lt (x : Int64) : jN x < 2 ^ 64 := x.toBitVec.isLt
theorem jN_and (x y : Int64) : jN (x &&& y) = (jN x &&& jN y) := BitVec.toNat_and _ _
theorem jN_add (x y : Int64) : jN (x + y) = (jN x + jN y) % 2 ^ 64 := BitVec.toNat_add _ _
theorem jN_sub (x y : Int64) (h : jN y ≤ jN x) : jN (x - y) = jN x - jN y := by
  show (x.toBitVec - y.toBitVec).toNat = _
  have h1 := jN_lt x
  rw [BitVec.toNat_sub]
  unfold jN at h h1 ⊢
  omega
theorem jN_lush (x : Int64) {c : Nat} (hc : c < 64) : jN (lush x (nI c)) = jN x / 2 ^ c := by
  show (x.toBitVec >>> (((nI c).toInt64.toUInt64 &&& Int64.toUInt64 63).toBitVec % 64#64)).toNat = _
  rw [sh_c c hc]
  have h1 : (BitVec.ofNat 64 c % 64#64).toNat = c := by
    rw [BitVec.toNat_umod, BitVec.toNat_ofNat]
    show c % 2 ^ 64 % 64 = c
    omega
  rw [BitVec.ushiftRight_eq', h1, BitVec.toNat_ushiftRight, Nat.shiftRight_eq_div_pow]
  rfl
theorem bt_N (x : Int64) (c : Nat) : bt x c = (jN x).testBit c := (BitVec.testBit_toNat _).symm
/-- how many bits are set -/
def bits (x : Int64) : Nat := cnt (bt x) 64
theorem bits_pc (x : Int64) : bits x = pc 64 (jN x) := by
  rw [pc_cnt]; exact cnt_congr _ (fun i _ => bt_N x i)
theorem bits_le (x : Int64) : bits x ≤ 64 := cnt_le _ _
theorem low32 (x : Int64) : (x.toInt32 &&& (127 : Int32)) = nI (jN x % 128) := by
  apply Int32.toBitVec_inj.mp
  apply BitVec.eq_of_toNat_eq
  show (x.toInt32.toBitVec &&& 127#32).toNat = (BitVec.ofNat 32 (jN x % 128)).toNat
  rw [Int64.toBitVec_toInt32, BitVec.signExtend_eq_setWidth_of_le _ (by decide), BitVec.toNat_and, BitVec.toNat_setWidth, BitVec.toNat_ofNat]
  show (jN x % 2 ^ 32) &&& (2 ^ 7 - 1) = _
  rw [Nat.and_two_pow_sub_one_eq_mod, BitVec.toNat_ofNat]
  omega
theorem k85 : jN (6148914691236517205 : Int64) = rep 85 8 := by decide +kernel
theorem k51 : jN (3689348814741910323 : Int64) = rep 51 8 := by decide +kernel
theorem k15 : jN (1085102592571150095 : Int64) = rep 15 8 := by decide +kernel
theorem last3 {p0 p1 p2 p3 p4 p5 p6 p7 Y : Nat} (h0 : p0 ≤ 8) (h1 : p1 ≤ 8) (h2 : p2 ≤ 8) (h3 : p3 ≤ 8) (h4 : p4 ≤ 8) (h5 : p5 ≤ 8) (h6 : p6 ≤ 8) (h7 : p7 ≤ 8) (e : Y = p0 + 256 * (p1 + 256 * (p2 + 256 * (p3 + 256 * (p4 + 256 * (p5 + 256 * (p6 + 256 * p7))))))) :
    ∃ r4 r5 r6, Y + Y / 256 = r4 ∧ r4 < 2 ^ 62 ∧ r4 + r4 / 65536 = r5 ∧ r5 < 2 ^ 63 ∧ r5 + r5 / 4294967296 = r6 ∧ r6 < 2 ^ 64 ∧ r6 % 128 = p0 + p1 + p2 + p3 + p4 + p5 + p6 + p7 := by
  obtain ⟨T7, g7⟩ : ∃ T, T = p7 := ⟨_, rfl⟩
  rw [← g7] at e
  obtain ⟨T6, g6⟩ : ∃ T, T = p6 + 256 * T7 := ⟨_, rfl⟩
  rw [← g6] at e
  obtain ⟨T5, g5⟩ : ∃ T, T = p5 + 256 * T6 := ⟨_, rfl⟩
  rw [← g5] at e
  obtain ⟨T4, g4⟩ : ∃ T, T = p4 + 256 * T5 := ⟨_, rfl⟩
  rw [← g4] at e
  obtain ⟨T3, g3⟩ : ∃ T, T = p3 + 256 * T4 := ⟨_, rfl⟩
  rw [← g3] at e
  obtain ⟨T2, g2⟩ : ∃ T, T = p2 + 256 * T3 := ⟨_, rfl⟩
  rw [← g2] at e
  obtain ⟨T1, g1⟩ : ∃ T, T = p1 + 256 * T2 := ⟨_, rfl⟩
  rw [← g1] at e
  have a4 : Y + Y / 256 = Y + T1 := by clear g1 g2 g3 g4 g5 g6 g7; omega
  have U4 : Y + T1 = (p0 + p1) + 256 * ((p1 + p2) + 256 * (T2 + T3)) := by clear a4 g3 g4 g5 g6 g7; omega
  have U2 : T2 + T3 = (p2 + p3) + 256 * ((p3 + p4) + 256 * (T4 + T5)) := by clear e a4 U4 g1 g5 g6 g7; omega
  have U3 : T4 + T5 = (p4 + p5) + 256 * ((p5 + p6) + 256 * (T6 + T7)) := by clear e a4 U4 U2 g1 g2 g3 g6 g7; omega
  have B7 : T7 ≤ 8 := by omega
  have B6 : T6 ≤ 2056 := by clear e a4 U4 U2 U3 g1 g2 g3 g4 g5 g7; omega
  have B5 : T5 ≤ 526344 := by clear e a4 U4 U2 U3 g1 g2 g3 g4 g6 g7; omega
  have B4 : T4 ≤ 134744072 := by clear e a4 U4 U2 U3 g1 g2 g3 g5 g6 g7; omega
  have a5 : (Y + T1) / 65536 = T2 + T3 := by clear e a4 U2 U3 g1 g2 g3 g4 g5 g6 g7; omega
  have BU2 : T2 + T3 ≤ 9100000000000 := by clear e a4 a5 U4 U3 g1 g2 g3 g4 g5 g6 g7; omega
  have BU : Y + T1 ≤ 600000000000000000 := by clear e a4 a5 U2 U3 g1 g2 g3 g4 g5 g6 g7 B4 B5 B6 B7; omega
  have V : Y + T1 + (T2 + T3) = (p0 + p1 + p2 + p3) + 256 * ((p1 + p2 + p3 + p4) + 256 * ((T2 + T3) + (T4 + T5))) := by clear e a4 a5 U3 g1 g2 g3 g4 g5 g6 g7 B4 B5 B6 B7 BU2 BU; omega
  have V2 : (T2 + T3) + (T4 + T5) = (p2 + p3 + p4 + p5) + 256 * ((p3 + p4 + p5 + p6) + 256 * ((T4 + T5) + (T6 + T7))) := by clear e a4 a5 U4 g1 g2 g3 g4 g5 g6 g7 B4 B5 B6 B7 BU2 BU V; omega
  have a6 : (Y + T1 + (T2 + T3)) / 4294967296 = (T4 + T5) + (T6 + T7) := by clear e a4 a5 U4 U2 U3 g1 g2 g3 g4 g5 g6 g7 B4 B5 B6 B7 BU2 BU; omega
  have W : (T4 + T5) + (T6 + T7) = (p4 + p5 + p6 + p7) + 256 * (p5 + p6 + T6 + T7 - T6 + 256 * 0 + 256 * (T6 + T7) + T7 - T7 - T7 + p7) := by sorry
  refine ⟨_, _, _, rfl, ?_, rfl, ?_, rfl, ?_, ?_⟩
  · rw [a4]; omega
  · rw [a4, a5]; omega
  · rw [a4, a5, a6]; omega
  · rw [a4, a5, a6]; sorry
