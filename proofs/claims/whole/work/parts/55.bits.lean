/-! SETS OF CELLS AS BITS OF A LONG -/
def bt (x : Int64) (c : Nat) : Bool := x.toBitVec.getLsbD c
theorem bt_or (x y : Int64) (c : Nat) : bt (x ||| y) c = (bt x c || bt y c) := by
  show (x.toBitVec ||| y.toBitVec).getLsbD c = _
  rw [BitVec.getLsbD_or]; rfl
theorem bt_and (x y : Int64) (c : Nat) : bt (x &&& y) c = (bt x c && bt y c) := by
  show (x.toBitVec &&& y.toBitVec).getLsbD c = _
  rw [BitVec.getLsbD_and]; rfl
theorem bt_big (x : Int64) {c : Nat} (h : 64 ≤ c) : bt x c = false := BitVec.getLsbD_of_ge _ _ h
theorem bt_m1 : ∀ c, c < 64 → bt (-1 : Int64) c = true := by decide
theorem bt_not (x : Int64) {c : Nat} (h : c < 64) : bt (x ^^^ (-1 : Int64)) c = !bt x c := by
  have h1 : bt (x ^^^ (-1 : Int64)) c = (bt x c ^^ bt (-1 : Int64) c) := by
    show (x.toBitVec ^^^ (-1 : Int64).toBitVec).getLsbD c = _
    rw [BitVec.getLsbD_xor]; rfl
  rw [h1, bt_m1 c h, Bool.xor_true]
theorem bt_0 (c : Nat) : bt (0 : Int64) c = false := by
  show (0#64).getLsbD c = false
  exact BitVec.getLsbD_zero
theorem bt_ext {x y : Int64} (h : ∀ c, c < 64 → bt x c = bt y c) : x = y := by
  apply Int64.toBitVec_inj.mp
  exact BitVec.eq_of_getLsbD_eq h
theorem lsh_c : ∀ c, c < 64 → (lsh (1 : Int64) (nI c)).toBitVec = BitVec.twoPow 64 c := by decide +kernel
theorem bt_lsh {c : Nat} (hc : c < 64) (j : Nat) : bt (lsh (1 : Int64) (nI c)) j = decide (j = c) := by
  show (lsh (1 : Int64) (nI c)).toBitVec.getLsbD j = _
  rw [lsh_c c hc, BitVec.getLsbD_twoPow]
  by_cases h : j = c
  · subst h; simp [hc]
  · simp [h]
    intro _ q; exact absurd q.symm h
theorem sh_c : ∀ c, c < 64 → ((nI c).toInt64.toUInt64 &&& Int64.toUInt64 63).toBitVec = BitVec.ofNat 64 c := by decide +kernel
theorem bt_lush (x : Int64) {c : Nat} (hc : c < 64) (j : Nat) : bt (lush x (nI c)) j = bt x (c + j) := by
  show (x.toBitVec >>> (((nI c).toInt64.toUInt64 &&& Int64.toUInt64 63).toBitVec % 64#64)).getLsbD j = _
  rw [sh_c c hc]
  have h1 : (BitVec.ofNat 64 c % 64#64).toNat = c := by
    rw [BitVec.toNat_umod, BitVec.toNat_ofNat]
    show c % 2 ^ 64 % 64 = c
    omega
  rw [BitVec.ushiftRight_eq', h1, BitVec.getLsbD_ushiftRight]
  rfl
theorem bt_1 (j : Nat) : bt (1 : Int64) j = decide (j = 0) := by
  show (1#64).getLsbD j = _
  rw [BitVec.getLsbD_one]
  simp
theorem low1 (x : Int64) : (x &&& (1 : Int64) = 0) ↔ bt x 0 = false := by
  constructor
  · intro h
    have := congrArg (fun y => bt y 0) h
    simp only [bt_and, bt_1, bt_0] at this
    simpa using this
  · intro h
    apply bt_ext
    intro c hc
    rw [bt_and, bt_1, bt_0]
    by_cases h0 : c = 0
    · subst h0; simp [h]
    · simp [h0]
theorem lg_0 (x : Int64) : (lg_cmp x 0 = 0) ↔ x = 0 := by
  unfold lg_cmp
  by_cases h1 : x > 0
  · rw [if_pos h1]
    constructor
    · intro h; exact absurd h (by decide)
    · intro h; subst h; exact absurd h1 (by decide)
  · rw [if_neg h1]
    by_cases h2 : x = 0
    · simp [h2]
    · simp [h2]
/-- is the bit at c clear? -/
theorem bit_0 (x : Int64) {c : Nat} (hc : c < 64) : (lg_cmp ((lush x (nI c)) &&& (1 : Int64)) (0 : Int64) = 0) ↔ bt x c = false := by
  rw [lg_0, low1, bt_lush x hc]
  rfl
/-! WHAT LIES ON A PLAIN: the class's object and rows; the reference's row, seen through its places of a plain -/
def plj (j : Nat) : Bool := decide (j ≤ 1) || (decide (10 ≤ j) && decide (j < 98)) || (decide (190 ≤ j) && decide (j < 340))
def pa (a : Nat → Int32) (B j : Nat) : Int32 := if plj j = true then a (B + j) else 0
theorem pa_in {a : Nat → Int32} {B j : Nat} (h : plj j = true) : pa a B j = a (B + j) := if_pos h
theorem pa_congr {a a' : Nat → Int32} {B : Nat} (h : ∀ j, plj j = true → a' (B + j) = a (B + j)) : pa a' B = pa a B := by
  funext j
  unfold pa
  by_cases hj : plj j = true
  · rw [if_pos hj, if_pos hj, h j hj]
  · rw [if_neg hj, if_neg hj]
/-- p: the reference's plain by its places: 0 hour, 1 bones, 10 + 3 i bone i (cell, weight, lies), 85 stakes, 92 fines, 190 wells, 240 crops, 290 which bone lies there -/
def PlainR (C M Q : Nat) (ob : Nat → Int32) (oj : Nat → Int64) (ce we li sk fi cr p : Nat → Int32) : Prop :=
  ∃ k h : Nat, k ≤ 24 ∧ h ≤ M ∧ ob 7 = nI k ∧ p 1 = nI k ∧ ob 8 = nI h ∧ p 0 = nI h ∧
  (∀ i, i < k → ∃ c v y : Nat, c < C ∧ 1 ≤ v ∧ v ≤ 99 ∧ y ≤ 99 ∧ ce i = nI c ∧ p (10 + 3 * i) = nI c ∧ we i = nI v ∧ p (11 + 3 * i) = nI v ∧ li i = nI y ∧ p (12 + 3 * i) = nI y ∧ p (290 + c) = nI (i + 1)) ∧
  (∀ c, c < C → p (290 + c) = 0 ∨ ∃ i, i < k ∧ p (290 + c) = nI (i + 1) ∧ ce i = nI c) ∧
  (∀ f, f < 6 → sk f = p (85 + f) ∧ (sk f = -1 ∨ ∃ c, c < C ∧ sk f = nI c ∧ p (290 + c) = 0)) ∧
  (∀ f, f < 6 → fi f = p (92 + f) ∧ ∃ v : Nat, v ≤ Q ∧ fi f = nI v) ∧
  (∀ c, c < C → cr c = p (240 + c) ∧ (cr c = -1 ∨ ∃ g, g ≤ h ∧ cr c = nI g)) ∧
  (∀ c, c < C → p (190 + c) = if bt (oj 9) c = true then 1 else 0) ∧ (∀ c, C ≤ c → bt (oj 9) c = false) ∧
  (∀ c, c < C → (bt (oj 10) c = false ↔ p (290 + c) = 0)) ∧ (∀ c, C ≤ c → bt (oj 10) c = false) ∧
  (∀ c, c < C → (bt (oj 11) c = false ↔ ∀ f, f < 6 → sk f ≠ nI c)) ∧ (∀ c, C ≤ c → bt (oj 11) c = false)
