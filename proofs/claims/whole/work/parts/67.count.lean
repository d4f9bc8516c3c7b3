/-! COUNTING: how many places below k hold; the JDK's bitCount counts the bits -/
def cnt (f : Nat → Bool) : Nat → Nat
  | 0 => 0
  | k + 1 => cnt f k + (if f k = true then 1 else 0)
theorem cnt_congr {f g : Nat → Bool} : ∀ k, (∀ i, i < k → f i = g i) → cnt f k = cnt g k
  | 0, _ => rfl
  | k + 1, h => by rw [cnt, cnt, cnt_congr k (fun i hi => h i (by omega)), h k (by omega)]
theorem cnt_bot (f : Nat → Bool) : ∀ k, cnt f (k + 1) = (if f 0 = true then 1 else 0) + cnt (fun i => f (i + 1)) k
  | 0 => by simp [cnt]
  | k + 1 => by rw [cnt, cnt_bot f k, cnt]; omega
theorem cnt_le (f : Nat → Bool) : ∀ k, cnt f k ≤ k
  | 0 => Nat.le_refl _
  | k + 1 => by have := cnt_le f k; rw [cnt]; split <;> omega
theorem cnt_mono {f g : Nat → Bool} : ∀ k, (∀ i, i < k → f i = true → g i = true) → cnt f k ≤ cnt g k
  | 0, _ => Nat.le_refl _
  | k + 1, h => by
    have h1 := cnt_mono k (fun i hi => h i (by omega))
    rw [cnt, cnt]
    by_cases hf : f k = true
    · rw [if_pos hf, if_pos (h k (by omega) hf)]; omega
    · rw [if_neg hf]; omega
theorem cnt_lt {f g : Nat → Bool} : ∀ k, (∀ i, i < k → f i = true → g i = true) → (∃ i, i < k ∧ f i = false ∧ g i = true) → cnt f k < cnt g k
  | 0, _, ⟨_, h, _⟩ => by omega
  | k + 1, h, ⟨i, hi, h1, h2⟩ => by
    rw [cnt, cnt]
    by_cases hik : i = k
    · subst hik
      have := cnt_mono (f := f) (g := g) i (fun j hj => h j (by omega))
      rw [h1, h2]
      simp only [Bool.false_eq_true, if_false, if_true]
      omega
    · have := cnt_lt k (fun j hj => h j (by omega)) ⟨i, by omega, h1, h2⟩
      by_cases hf : f k = true
      · rw [if_pos hf, if_pos (h k (by omega) hf)]; omega
      · rw [if_neg hf]; omega
theorem cnt_zero {f : Nat → Bool} : ∀ k, (∀ i, i < k → f i = false) → cnt f k = 0
  | 0, _ => rfl
  | k + 1, h => by rw [cnt, cnt_zero k (fun i hi => h i (by omega)), h k (by omega)]; rfl
theorem cnt_full {f : Nat → Bool} : ∀ k, cnt f k = k → ∀ i, i < k → f i = true
  | 0, _, i, h => by omega
  | k + 1, h, i, hi => by
    have h1 := cnt_le f k
    rw [cnt] at h
    by_cases hf : f k = true
    · by_cases hik : i = k
      · subst hik; exact hf
      · rw [if_pos hf] at h; exact cnt_full k (by omega) i (by omega)
    · rw [if_neg hf] at h; omega
/-- past m nothing holds -/
theorem cnt_stop {f : Nat → Bool} {m : Nat} (h : ∀ i, m ≤ i → f i = false) : ∀ d, cnt f (m + d) = cnt f m
  | 0 => rfl
  | d + 1 => by rw [← Nat.add_assoc, cnt, cnt_stop h d, h (m + d) (by omega)]; rfl
/-- how many of the low bits of a number are set -/
def pc : Nat → Nat → Nat
  | 0, _ => 0
  | j + 1, X => X % 2 + pc j (X / 2)
theorem pc_cnt : ∀ (j X : Nat), pc j X = cnt (fun i => X.testBit i) j
  | 0, _ => rfl
  | j + 1, X => by
    rw [pc, cnt_bot, pc_cnt j (X / 2)]
    congr 1
    · rw [Nat.testBit_zero]
      rcases Nat.mod_two_eq_zero_or_one X with h | h <;> simp [h]
    · exact cnt_congr _ (fun i _ => (Nat.testBit_succ X i).symm)
theorem pc_8 (j X : Nat) : pc (j + 8) X = pc 8 (X % 256) + pc j (X / 256) := by
  have e : X / 2 / 2 / 2 / 2 / 2 / 2 / 2 / 2 = X / 256 := by omega
  show X % 2 + (X / 2 % 2 + (X / 2 / 2 % 2 + (X / 2 / 2 / 2 % 2 + (X / 2 / 2 / 2 / 2 % 2 + (X / 2 / 2 / 2 / 2 / 2 % 2 + (X / 2 / 2 / 2 / 2 / 2 / 2 % 2 + (X / 2 / 2 / 2 / 2 / 2 / 2 / 2 % 2 + pc j (X / 2 / 2 / 2 / 2 / 2 / 2 / 2 / 2)))))))) = _
  rw [e]
  simp only [pc]
  omega
theorem and_sp {a m y M : Nat} (ha : a < 256) (hm : m < 256) : (a + 256 * y) &&& (m + 256 * M) = (a &&& m) + 256 * (y &&& M) := by
  have hb : (a &&& m) < 2 ^ 8 := Nat.lt_of_le_of_lt Nat.and_le_left ha
  apply Nat.eq_of_testBit_eq
  intro i
  rw [Nat.testBit_and, Nat.add_comm a, Nat.add_comm m, Nat.add_comm (a &&& m), show 256 = 2 ^ 8 from rfl, Nat.testBit_two_pow_mul_add _ ha, Nat.testBit_two_pow_mul_add _ hm, Nat.testBit_two_pow_mul_add _ hb]
  by_cases h : i < 8
  · rw [if_pos h, if_pos h, if_pos h, Nat.testBit_and]
  · rw [if_neg h, if_neg h, if_neg h, Nat.testBit_and]
/-- the row of bytes m -/
def rep (m : Nat) : Nat → Nat
  | 0 => 0
  | j + 1 => m + 256 * rep m j
theorem rep_s (m j : Nat) : rep m (j + 1) = m + 256 * rep m j := rfl
def q1 (j X : Nat) : Nat := X - (X / 2 &&& rep 85 j)
def q2 (j X : Nat) : Nat := (X &&& rep 51 j) + (X / 4 &&& rep 51 j)
def q3 (j X : Nat) : Nat := (X + X / 16) &&& rep 15 j
theorem d1 : ∀ b, b < 256 → ∀ c, c < 2 → (b / 2 + 128 * c) &&& 85 = (b / 2) &&& 85 := by decide +kernel
theorem d2 : ∀ b, b < 256 → ∀ c, c < 4 → (b / 4 + 64 * c) &&& 51 = (b / 4) &&& 51 := by decide +kernel
theorem d3 : ∀ b, b < 80 → ∀ c, c < 5 → (b + b / 16 + 16 * c) &&& 15 = (b + b / 16) &&& 15 := by decide +kernel
def g1 (b : Nat) : Nat := b - (b / 2 &&& 85)
def g2 (b : Nat) : Nat := (b &&& 51) + (b / 4 &&& 51)
def g3 (b : Nat) : Nat := (b + b / 16) &&& 15
theorem g12 : ∀ b, b < 256 → g2 (g1 b) < 70 ∧ g2 (g1 b) % 16 < 5 ∧ g3 (g2 (g1 b)) = pc 8 b ∧ pc 8 b ≤ 8 := by decide +kernel
theorem q1_s {b Y j : Nat} (hb : b < 256) : q1 (j + 1) (b + 256 * Y) = g1 b + 256 * q1 j Y := by
  unfold q1 g1
  rw [rep_s]
  have e : (b + 256 * Y) / 2 = (b / 2 + 128 * (Y % 2)) + 256 * (Y / 2) := by omega
  rw [e, and_sp (by omega) (by omega), d1 b hb _ (by omega)]
  have h1 : (b / 2 &&& 85) ≤ b / 2 := Nat.and_le_left
  have h2 : (Y / 2 &&& rep 85 j) ≤ Y / 2 := Nat.and_le_left
  omega
theorem q2_s {b Y j : Nat} (hb : b < 256) : q2 (j + 1) (b + 256 * Y) = g2 b + 256 * q2 j Y := by
  unfold q2 g2
  rw [rep_s]
  have e : (b + 256 * Y) / 4 = (b / 4 + 64 * (Y % 4)) + 256 * (Y / 4) := by omega
  rw [e, and_sp (by omega) (by omega), and_sp (by omega) (by omega), d2 b hb _ (by omega)]
  omega
theorem q3_s {b Y j : Nat} (hb : b < 80) (hY : Y % 16 < 5) : q3 (j + 1) (b + 256 * Y) = g3 b + 256 * q3 j Y := by
  unfold q3 g3
  rw [rep_s]
  have e : b + 256 * Y + (b + 256 * Y) / 16 = (b + b / 16 + 16 * (Y % 16)) + 256 * (Y + Y / 16) := by omega
  rw [e, and_sp (by omega) (by omega), d3 b hb _ hY]
/-- the three steps, byte by byte -/
theorem q_all : ∀ (j X : Nat), X < 256 ^ j → q2 j (q1 j X) % 16 < 5 ∧ q1 j X ≤ X ∧ 3 * q2 j (q1 j X) < 256 ^ j ∧
    (∀ j' X', j = j' + 1 → X = X' % 256 + 256 * (X' / 256) → q3 j (q2 j (q1 j X)) = pc 8 (X' % 256) + 256 * q3 j' (q2 j' (q1 j' (X' / 256))))
  | 0, X, h => by
    have : X = 0 := by rw [Nat.pow_zero] at h; omega
    subst this
    exact ⟨by decide, by decide, by decide, fun j' X' e => by omega⟩
  | j + 1, X, h => by
    have hX : X = X % 256 + 256 * (X / 256) := by omega
    have hp : 256 ^ (j + 1) = 256 * 256 ^ j := by rw [Nat.pow_succ, Nat.mul_comm]
    have hY : X / 256 < 256 ^ j := by rw [hp] at h; omega
    obtain ⟨i1, i2, i3, i4⟩ := q_all j (X / 256) hY
    have hb : X % 256 < 256 := Nat.mod_lt _ (by omega)
    obtain ⟨k1, k2, k3, k4⟩ := g12 (X % 256) hb
    have hg1 : g1 (X % 256) ≤ X % 256 := Nat.sub_le _ _
    have e1 : q1 (j + 1) X = g1 (X % 256) + 256 * q1 j (X / 256) := by
      conv => lhs; rw [hX]
      exact q1_s hb
    have e2 : q2 (j + 1) (q1 (j + 1) X) = g2 (g1 (X % 256)) + 256 * q2 j (q1 j (X / 256)) := by rw [e1]; exact q2_s (by omega)
    refine ⟨by rw [e2]; omega, by rw [e1]; omega, by rw [e2, hp]; omega, ?_⟩
    intro j' X' hj hX'
    have : j' = j := by omega
    subst this
    have : X' = X := by omega
    subst this
    rw [e2, q3_s (by omega) i1, k3]

theorem q_pc {X : Nat} (h : X < 256 ^ 8) : ∃ p0 p1 p2 p3 p4 p5 p6 p7, p0 ≤ 8 ∧ p1 ≤ 8 ∧ p2 ≤ 8 ∧ p3 ≤ 8 ∧ p4 ≤ 8 ∧ p5 ≤ 8 ∧ p6 ≤ 8 ∧ p7 ≤ 8 ∧ q3 8 (q2 8 (q1 8 X)) = p0 + 256 * (p1 + 256 * (p2 + 256 * (p3 + 256 * (p4 + 256 * (p5 + 256 * (p6 + 256 * p7)))))) ∧ pc 64 X = p0 + p1 + p2 + p3 + p4 + p5 + p6 + p7 := by
  have st : ∀ (j Y : Nat), Y < 256 ^ (j + 1) → Y / 256 < 256 ^ j ∧ q3 (j + 1) (q2 (j + 1) (q1 (j + 1) Y)) = pc 8 (Y % 256) + 256 * q3 j (q2 j (q1 j (Y / 256))) := by
    intro j Y hY
    refine ⟨?_, (q_all (j + 1) Y hY).2.2.2 j Y rfl (by omega)⟩
    rw [Nat.pow_succ, Nat.mul_comm] at hY; omega
  have le : ∀ Y, pc 8 (Y % 256) ≤ 8 := fun Y => (g12 _ (Nat.mod_lt _ (by omega))).2.2.2
  obtain ⟨h0, e0⟩ := st 7 X h
  obtain ⟨h1, e1⟩ := st 6 _ h0
  obtain ⟨h2, e2⟩ := st 5 _ h1
  obtain ⟨h3, e3⟩ := st 4 _ h2
  obtain ⟨h4, e4⟩ := st 3 _ h3
  obtain ⟨h5, e5⟩ := st 2 _ h4
  obtain ⟨h6, e6⟩ := st 1 _ h5
  obtain ⟨h7, e7⟩ := st 0 _ h6
  refine ⟨_, _, _, _, _, _, _, _, le (X), le (X / 256), le (X / 256 / 256), le (X / 256 / 256 / 256), le (X / 256 / 256 / 256 / 256), le (X / 256 / 256 / 256 / 256 / 256), le (X / 256 / 256 / 256 / 256 / 256 / 256), le (X / 256 / 256 / 256 / 256 / 256 / 256 / 256), ?_, ?_⟩
  · rw [e0, e1, e2, e3, e4, e5, e6, e7]
    have : q3 0 (q2 0 (q1 0 (X / 256 / 256 / 256 / 256 / 256 / 256 / 256 / 256))) = 0 := by
      unfold q3 rep; exact Nat.and_zero _
    rw [this, Nat.mul_zero, Nat.add_zero]
  · have s0 : pc 64 (X) = pc 8 (X % 256) + pc 56 (X / 256) := pc_8 56 (X)
    have s1 : pc 56 (X / 256) = pc 8 (X / 256 % 256) + pc 48 (X / 256 / 256) := pc_8 48 (X / 256)
    have s2 : pc 48 (X / 256 / 256) = pc 8 (X / 256 / 256 % 256) + pc 40 (X / 256 / 256 / 256) := pc_8 40 (X / 256 / 256)
    have s3 : pc 40 (X / 256 / 256 / 256) = pc 8 (X / 256 / 256 / 256 % 256) + pc 32 (X / 256 / 256 / 256 / 256) := pc_8 32 (X / 256 / 256 / 256)
    have s4 : pc 32 (X / 256 / 256 / 256 / 256) = pc 8 (X / 256 / 256 / 256 / 256 % 256) + pc 24 (X / 256 / 256 / 256 / 256 / 256) := pc_8 24 (X / 256 / 256 / 256 / 256)
    have s5 : pc 24 (X / 256 / 256 / 256 / 256 / 256) = pc 8 (X / 256 / 256 / 256 / 256 / 256 % 256) + pc 16 (X / 256 / 256 / 256 / 256 / 256 / 256) := pc_8 16 (X / 256 / 256 / 256 / 256 / 256)
    have s6 : pc 16 (X / 256 / 256 / 256 / 256 / 256 / 256) = pc 8 (X / 256 / 256 / 256 / 256 / 256 / 256 % 256) + pc 8 (X / 256 / 256 / 256 / 256 / 256 / 256 / 256) := pc_8 8 (X / 256 / 256 / 256 / 256 / 256 / 256)
    have s7 : pc 8 (X / 256 / 256 / 256 / 256 / 256 / 256 / 256) = pc 8 (X / 256 / 256 / 256 / 256 / 256 / 256 / 256 % 256) := pc_8 0 (X / 256 / 256 / 256 / 256 / 256 / 256 / 256)
    rw [s0, s1, s2, s3, s4, s5, s6, s7]
    simp only [Nat.add_assoc]
def jN (x : Int64) : Nat := x.toBitVec.toNat
theorem jN_lt (x : Int64) : jN x < 2 ^ 64 := x.toBitVec.isLt
theorem jN_and (x y : Int64) : jN (x &&& y) = (jN x &&& jN y) := BitVec.toNat_and _ _
theorem jN_add (x y : Int64) : jN (x + y) = (jN x + jN y) % 2 ^ 64 := BitVec.toNat_add _ _
theorem jN_sub (x y : Int64) (h : jN y ≤ jN x) : jN (x - y) = jN x - jN y := by
  show (x.toBitVec - y.toBitVec).toNat = _
  have h1 := jN_lt x
  rw [BitVec.toNat_sub]
  unfold jN at h h1 ⊢
  omega
theorem jN_lush (x : Int64) {c : Nat} (hc : c < 64) : jN (lush x (nI c)) = jN x / 2 ^ c := by
  show (x.toBitVec >>> (((nI c).toInt64.toUInt64 &&& Int64.toUInt64 63).toBitVec % 64#64)).toNat = _
  rw [sh_c c hc]
  have h1 : (BitVec.ofNat 64 c % 64#64).toNat = c := by
    rw [BitVec.toNat_umod, BitVec.toNat_ofNat]
    show c % 2 ^ 64 % 64 = c
    omega
  rw [BitVec.ushiftRight_eq', h1, BitVec.toNat_ushiftRight, Nat.shiftRight_eq_div_pow]
  rfl
theorem bt_N (x : Int64) (c : Nat) : bt x c = (jN x).testBit c := (BitVec.testBit_toNat _).symm
/-- how many bits are set -/
def bits (x : Int64) : Nat := cnt (bt x) 64
theorem bits_pc (x : Int64) : bits x = pc 64 (jN x) := by
  rw [pc_cnt]; exact cnt_congr _ (fun i _ => bt_N x i)
theorem bits_le (x : Int64) : bits x ≤ 64 := cnt_le _ _
theorem low32 (x : Int64) : (x.toInt32 &&& (127 : Int32)) = nI (jN x % 128) := by
  apply Int32.toBitVec_inj.mp
  apply BitVec.eq_of_toNat_eq
  show (x.toInt32.toBitVec &&& 127#32).toNat = (BitVec.ofNat 32 (jN x % 128)).toNat
  rw [Int64.toBitVec_toInt32, BitVec.signExtend_eq_setWidth_of_le _ (by decide), BitVec.toNat_and, BitVec.toNat_setWidth, BitVec.toNat_ofNat]
  show (jN x % 2 ^ 32) &&& (2 ^ 7 - 1) = _
  rw [Nat.and_two_pow_sub_one_eq_mod, BitVec.toNat_ofNat]
  omega
theorem k85 : jN (6148914691236517205 : Int64) = rep 85 8 := by decide +kernel
theorem k51 : jN (3689348814741910323 : Int64) = rep 51 8 := by decide +kernel
theorem k15 : jN (1085102592571150095 : Int64) = rep 15 8 := by decide +kernel
theorem last3 {p0 p1 p2 p3 p4 p5 p6 p7 Y : Nat} (h0 : p0 ≤ 8) (h1 : p1 ≤ 8) (h2 : p2 ≤ 8) (h3 : p3 ≤ 8) (h4 : p4 ≤ 8) (h5 : p5 ≤ 8) (h6 : p6 ≤ 8) (h7 : p7 ≤ 8) (e : Y = p0 + 256 * (p1 + 256 * (p2 + 256 * (p3 + 256 * (p4 + 256 * (p5 + 256 * (p6 + 256 * p7))))))) :
    ∃ r4 r5 r6, Y + Y / 256 = r4 ∧ r4 < 2 ^ 62 ∧ r4 + r4 / 65536 = r5 ∧ r5 < 2 ^ 63 ∧ r5 + r5 / 4294967296 = r6 ∧ r6 < 2 ^ 64 ∧ r6 % 128 = p0 + p1 + p2 + p3 + p4 + p5 + p6 + p7 := by
  obtain ⟨T7, g7⟩ : ∃ T, T = p7 := ⟨_, rfl⟩
  rw [← g7] at e
  obtain ⟨T6, g6⟩ : ∃ T, T = p6 + 256 * T7 := ⟨_, rfl⟩
  rw [← g6] at e
  obtain ⟨T5, g5⟩ : ∃ T, T = p5 + 256 * T6 := ⟨_, rfl⟩
  rw [← g5] at e
  obtain ⟨T4, g4⟩ : ∃ T, T = p4 + 256 * T5 := ⟨_, rfl⟩
  rw [← g4] at e
  obtain ⟨T3, g3⟩ : ∃ T, T = p3 + 256 * T4 := ⟨_, rfl⟩
  rw [← g3] at e
  obtain ⟨T2, g2⟩ : ∃ T, T = p2 + 256 * T3 := ⟨_, rfl⟩
  rw [← g2] at e
  obtain ⟨T1, g1⟩ : ∃ T, T = p1 + 256 * T2 := ⟨_, rfl⟩
  rw [← g1] at e
  have a4 : Y + Y / 256 = Y + T1 := by clear g1 g2 g3 g4 g5 g6 g7; omega
  have U4 : Y + T1 = (p0 + p1) + 256 * ((p1 + p2) + 256 * (T2 + T3)) := by clear a4 g3 g4 g5 g6 g7; omega
  have U2 : T2 + T3 = (p2 + p3) + 256 * ((p3 + p4) + 256 * (T4 + T5)) := by clear e a4 U4 g1 g5 g6 g7; omega
  have U3 : T4 + T5 = (p4 + p5) + 256 * ((p5 + p6) + 256 * (T6 + T7)) := by clear e a4 U4 U2 g1 g2 g3 g7; omega
  have B7 : T7 ≤ 8 := by omega
  have B6 : T6 ≤ 2056 := by clear e a4 U4 U2 U3 g1 g2 g3 g4 g5 g7; omega
  have B5 : T5 ≤ 526344 := by clear e a4 U4 U2 U3 g1 g2 g3 g4 g6 g7; omega
  have B4 : T4 ≤ 134744072 := by clear e a4 U4 U2 U3 g1 g2 g3 g5 g6 g7; omega
  have a5 : (Y + T1) / 65536 = T2 + T3 := by clear e a4 U2 U3 g1 g2 g3 g4 g5 g6 g7; omega
  have BU2 : T2 + T3 ≤ 9100000000000 := by clear e a4 a5 U4 U3 g1 g2 g3 g4 g5 g6 g7; omega
  have BU : Y + T1 ≤ 600000000000000000 := by clear e a4 a5 U2 U3 g1 g2 g3 g4 g5 g6 g7 B4 B5 B6 B7; omega
  have V : Y + T1 + (T2 + T3) = (p0 + p1 + p2 + p3) + 256 * ((p1 + p2 + p3 + p4) + 256 * ((T2 + T3) + (T4 + T5))) := by clear e a4 a5 U3 g1 g2 g3 g4 g5 g6 g7 B4 B5 B6 B7 BU2 BU; omega
  have V2 : (T2 + T3) + (T4 + T5) = (p2 + p3 + p4 + p5) + 256 * ((p3 + p4 + p5 + p6) + 256 * ((T4 + T5) + (T6 + T7))) := by clear e a4 a5 U4 g1 g2 g3 g4 g5 g6 g7 B4 B5 B6 B7 BU2 BU V; omega
  have a6 : (Y + T1 + (T2 + T3)) / 4294967296 = (T4 + T5) + (T6 + T7) := by clear e a4 a5 U4 U2 U3 g1 g2 g3 g4 g5 g6 g7 B4 B5 B6 B7 BU2 BU; omega
  refine ⟨_, _, _, rfl, ?_, rfl, ?_, rfl, ?_, ?_⟩
  · rw [a4]; clear e a4 a5 a6 U4 U2 U3 V V2 g1 g2 g3 g4 g5 g6 g7; omega
  · rw [a4, a5]; clear e a4 a5 a6 U4 U2 U3 V V2 g1 g2 g3 g4 g5 g6 g7; omega
  · rw [a4, a5, a6]; clear e a4 a5 a6 U4 U2 U3 V V2 g1 g2 g3 g4 g5 g6 g7; omega
  · rw [a4, a5, a6]; clear a4 a5 a6 U4 U2 U3 V V2 B4 B5 B6 B7 BU BU2; omega
theorem s_bitCount {n : Nat} {S : MS} (x : Int64) : f_J13_bitCount_95d88 n x S = some (nI (bits x), S) := by
  unfold f_J13_bitCount_95d88
  simp only [bd]
  have hX : jN x < 256 ^ 8 := Nat.lt_of_lt_of_eq (jN_lt x) (by decide)
  have L1 : ∀ y : Int64, jN (lush y 1) = jN y / 2 := fun y => jN_lush y (c := 1) (by omega)
  have L2 : ∀ y : Int64, jN (lush y 2) = jN y / 4 := fun y => jN_lush y (c := 2) (by omega)
  have L4 : ∀ y : Int64, jN (lush y 4) = jN y / 16 := fun y => jN_lush y (c := 4) (by omega)
  have L8 : ∀ y : Int64, jN (lush y 8) = jN y / 256 := fun y => jN_lush y (c := 8) (by omega)
  have L16 : ∀ y : Int64, jN (lush y 16) = jN y / 65536 := fun y => jN_lush y (c := 16) (by omega)
  have L32 : ∀ y : Int64, jN (lush y 32) = jN y / 4294967296 := fun y => jN_lush y (c := 32) (by omega)
  obtain ⟨a1, a2, a3, -⟩ := q_all 8 (jN x) hX
  have a3' : 3 * q2 8 (q1 8 (jN x)) < 18446744073709551616 := a3
  obtain ⟨p0, p1, p2, p3, p4, p5, p6, p7, h0, h1, h2, h3, h4, h5, h6, h7, e3, es⟩ := q_pc hX
  have y1 : jN (x - (lush x 1 &&& 6148914691236517205)) = q1 8 (jN x) := by
    have hs : jN (lush x 1 &&& 6148914691236517205) = (jN x / 2 &&& rep 85 8) := by rw [jN_and, k85, L1]
    rw [jN_sub _ _ (by rw [hs]; exact Nat.le_trans Nat.and_le_left (Nat.div_le_self _ _)), hs]; rfl
  generalize x - (lush x 1 &&& 6148914691236517205) = x1 at y1 ⊢
  have y2 : jN ((x1 &&& 3689348814741910323) + (lush x1 2 &&& 3689348814741910323)) = q2 8 (q1 8 (jN x)) := by
    rw [jN_add, jN_and, jN_and, k51, L2, y1]
    exact Nat.mod_eq_of_lt (show q2 8 (q1 8 (jN x)) < 18446744073709551616 by omega)
  generalize (x1 &&& 3689348814741910323) + (lush x1 2 &&& 3689348814741910323) = x2 at y2 ⊢
  have y3 : jN ((x2 + lush x2 4) &&& 1085102592571150095) = q3 8 (q2 8 (q1 8 (jN x))) := by
    rw [jN_and, jN_add, k15, L4, y2, Nat.mod_eq_of_lt (show q2 8 (q1 8 (jN x)) + q2 8 (q1 8 (jN x)) / 16 < 2 ^ 64 by
      show _ < 18446744073709551616
      omega)]; rfl
  generalize (x2 + lush x2 4) &&& 1085102592571150095 = x3 at y3 ⊢
  obtain ⟨r4, r5, r6, f4, c4, f5, c5, f6, c6, gm⟩ := last3 h0 h1 h2 h3 h4 h5 h6 h7 e3
  have y4 : jN (x3 + lush x3 8) = r4 := by rw [jN_add, L8, y3, f4]; exact Nat.mod_eq_of_lt (by omega)
  generalize x3 + lush x3 8 = x4 at y4 ⊢
  have y5 : jN (x4 + lush x4 16) = r5 := by rw [jN_add, L16, y4, f5]; exact Nat.mod_eq_of_lt (by omega)
  generalize x4 + lush x4 16 = x5 at y5 ⊢
  have y6 : jN (x5 + lush x5 32) = r6 := by rw [jN_add, L32, y5, f6]; exact Nat.mod_eq_of_lt c6
  rw [low32, y6, gm, bits_pc, es]
/-- a mask of six -/
def msk (h : Nat → Bool) : Nat → Nat
  | 0 => 0
  | k + 1 => msk h k + (if h k = true then 2 ^ k else 0)
theorem msk_lt (h : Nat → Bool) : ∀ k, msk h k < 2 ^ k
  | 0 => Nat.one_pos
  | k + 1 => by
    have := msk_lt h k
    rw [msk, Nat.pow_succ]
    split <;> omega
theorem msk_or : ∀ f, f < 6 → ∀ m, m < 2 ^ f → nI m ||| ((1 : Int32) <<< (nI f &&& 31)) = nI (m + 2 ^ f) := by decide +kernel
theorem bc6 : ∀ k, k < 64 → ((((((nI k - ((iush (nI k) 1) &&& 1431655765)) &&& 858993459) + ((iush (nI k - ((iush (nI k) 1) &&& 1431655765)) 2) &&& 858993459)) + (iush (((nI k - ((iush (nI k) 1) &&& 1431655765)) &&& 858993459) + ((iush (nI k - ((iush (nI k) 1) &&& 1431655765)) 2) &&& 858993459)) 4)) &&& 252645135 : Int32) = nI (pc 6 k)) := by decide +kernel
theorem bc6b : ∀ j, j < 7 → ((nI j + iush (nI j) 8) + iush (nI j + iush (nI j) 8) 16) &&& (63 : Int32) = nI j := by decide +kernel
theorem pc6_le : ∀ k, k < 64 → pc 6 k < 7 := by decide +kernel
theorem s_bitCount6 {n : Nat} {S : MS} {k : Nat} (hk : k < 64) : f_J6_bitCount_0f7a4 n (nI k) S = some (nI (pc 6 k), S) := by
  unfold f_J6_bitCount_0f7a4
  simp only [bd]
  rw [bc6 k hk, bc6b _ (pc6_le k hk)]
theorem pc_msk (h : Nat → Bool) : pc 6 (msk h 6) = cnt h 6 := by
  simp only [msk, cnt]
  generalize h 0 = b0
  generalize h 1 = b1
  generalize h 2 = b2
  generalize h 3 = b3
  generalize h 4 = b4
  generalize h 5 = b5
  revert b0 b1 b2 b3 b4 b5
  decide +kernel
/-- the lowest bit of a mask -/
theorem lowm : ∀ b0 b1 b2 b3 b4 b5 : Bool, ∀ f, f < 6 → ((nI (msk (fun i => [b0, b1, b2, b3, b4, b5].getD i false) 6) &&& (-nI (msk (fun i => [b0, b1, b2, b3, b4, b5].getD i false) 6)) = (1 : Int32) <<< (nI f &&& 31)) ↔ ([b0, b1, b2, b3, b4, b5].getD f false = true ∧ ∀ i, i < f → [b0, b1, b2, b3, b4, b5].getD i false = false)) := by decide +kernel
theorem msk_congr {h g : Nat → Bool} : ∀ k, (∀ i, i < k → h i = g i) → msk h k = msk g k
  | 0, _ => rfl
  | k + 1, q => by rw [msk, msk, msk_congr k (fun i hi => q i (by omega)), q k (by omega)]
theorem msk_low (h : Nat → Bool) {f : Nat} (hf : f < 6) : ((nI (msk h 6) &&& (-nI (msk h 6))) = (1 : Int32) <<< (nI f &&& 31)) ↔ (h f = true ∧ ∀ i, i < f → h i = false) := by
  have e : ∀ i, i < 6 → h i = (fun i => [h 0, h 1, h 2, h 3, h 4, h 5].getD i false) i := by
    intro i hi
    rcases (show i = 0 ∨ i = 1 ∨ i = 2 ∨ i = 3 ∨ i = 4 ∨ i = 5 by omega) with rfl | rfl | rfl | rfl | rfl | rfl <;> rfl
  rw [msk_congr 6 e, lowm _ _ _ _ _ _ f hf, e f hf]
  exact and_congr Iff.rfl ⟨fun q i hi => by rw [e i (by omega)]; exact q i hi, fun q i hi => by have := q i hi; rw [e i (by omega)] at this; exact this⟩
