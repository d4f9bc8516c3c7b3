/-! BASICS OF THE PURE LAYER: numbers, bounds, truth values, rows; the small methods of both systems -/
def bI (p : Prop) [Decidable p] : Int32 := if p then 1 else 0
theorem bI_0 {p : Prop} [Decidable p] : (bI p = 0) ↔ ¬ p := by
  unfold bI; split <;> simp_all
theorem ite_bI {α : Type} {p : Prop} [Decidable p] (A B : α) : (if bI p = 0 then A else B) = if p then B else A := by
  unfold bI; split <;> simp_all
theorem zb_1 {α : Type} (t : Option α) : zb (1 : Int32) t = t := by simp [zb]
theorem zb_0 {α : Type} (t : Option α) : zb (0 : Int32) t = t := by simp [zb]
theorem zb_bI {α : Type} {p : Prop} [Decidable p] (t : Option α) : zb (bI p) t = t := by
  unfold bI; split
  · exact zb_1 t
  · exact zb_0 t
theorem bI_congr {p q : Prop} [Decidable p] [Decidable q] (h : p ↔ q) : bI p = bI q := by
  unfold bI; simp only [h]
theorem i32_lt {a b : Int32} : a < b ↔ a.toInt < b.toInt := Int32.lt_iff_toInt_lt
theorem i32_le {a b : Int32} : a ≤ b ↔ a.toInt ≤ b.toInt := Int32.le_iff_toInt_le
theorem i32_eq {a b : Int32} : a = b ↔ a.toInt = b.toInt := Int32.toInt_inj.symm
theorem nI_t {k : Nat} (h : k < 1000000) : (nI k).toInt = (k : Int) := nI_toInt (by omega)
theorem nI_inj {a b : Nat} (ha : a < 1000000) (hb : b < 1000000) : nI a = nI b ↔ a = b := by
  rw [i32_eq, nI_t ha, nI_t hb]; omega
/-- a number from 0 on below N has a name -/
theorem nI_nm {a : Int32} (h0 : ¬ a < 0) {N : Nat} (h1 : ¬ nI N ≤ a) (hN : N < 1000000) : ∃ k, k < N ∧ a = nI k := by
  rw [i32_lt] at h0
  rw [i32_le, nI_t hN] at h1
  refine ⟨a.toInt.toNat, ?_, ?_⟩
  · have : (0 : Int32).toInt = 0 := rfl
    omega
  · have : (0 : Int32).toInt = 0 := rfl
    rw [i32_eq, nI_toInt (by omega)]
    omega
theorem inb_nI {k N : Nat} (h : k < N) (hN : N < 1000000) : inb (nI k) N = true := by
  simp only [inb, Bool.and_eq_true, Bool.not_eq_true', decide_eq_false_iff_not, decide_eq_true_eq]
  exact ⟨nI_pos (by omega), by rw [nI_clamp (by omega)]; exact h⟩
theorem cl_nI {k : Nat} (h : k < 1000000) : (nI k).toNatClampNeg = k := nI_clamp (by omega)
theorem nI_lt' {a b : Nat} (ha : a < 1000000) (hb : b < 1000000) : nI a < nI b ↔ a < b := by
  rw [i32_lt, nI_t ha, nI_t hb]; omega
theorem nI_le' {a b : Nat} (ha : a < 1000000) (hb : b < 1000000) : nI a ≤ nI b ↔ a ≤ b := by
  rw [i32_le, nI_t ha, nI_t hb]; omega
/-- nI b - 1, where a is held against it -/
theorem sub1_t {k : Nat} (h : k < 1000000) : (nI k - 1).toInt = (k : Int) - 1 := by
  rw [Int32.toInt_sub, nI_t h, show (1 : Int32).toInt = 1 from rfl]
  simp only [Int.bmod]
  omega
theorem up2_ne {α : Type} {f : Nat → Nat → α} {a b k : Nat} {v : α} (h : b ≠ a) : up2 f a k v b = f b := by
  funext j; simp [up2, h]
theorem up2_at {α : Type} (f : Nat → Nat → α) (a k : Nat) (v : α) (j : Nat) : up2 f a k v a j = if j = k then v else f a j := by simp [up2]
/-- a row with one place changed -/
def ur {α : Type} (f : Nat → α) (k : Nat) (v : α) : Nat → α := fun j => if j = k then v else f j
theorem up2_r {α : Type} (f : Nat → Nat → α) (a k : Nat) (v : α) : up2 f a k v a = ur (f a) k v := by
  funext j; simp [up2, ur]
theorem ur_at {α : Type} (f : Nat → α) (k : Nat) (v : α) : ur f k v k = v := by simp [ur]
theorem ur_ne {α : Type} (f : Nat → α) {k j : Nat} (v : α) (h : j ≠ k) : ur f k v j = f j := by simp [ur, h]
section BS
variable {n z C t : Nat} {I : Nat → Nat → Int32} {J : Nat → Nat → Int64} {u : Option Nat} {S : MS}
theorem s_isIn (a lo hi : Int32) : f_X11_isIn n a lo hi S = some (bI (lo ≤ a ∧ a ≤ hi), S) := by
  unfold f_X11_isIn bI
  by_cases h1 : a < lo
  · rw [if_pos h1, zb_0, if_neg (fun q => by have := q.1; rw [i32_le] at this; rw [i32_lt] at h1; omega)]
  · rw [if_neg h1]
    by_cases h2 : hi < a
    · rw [if_pos h2, zb_0, if_neg (fun q => by have := q.2; rw [i32_le] at this; rw [i32_lt] at h2; omega)]
    · rw [if_neg h2, zb_1, if_pos ⟨by rw [i32_le]; rw [i32_lt] at h1; omega, by rw [i32_le]; rw [i32_lt] at h2; omega⟩]
/-- 'from 0 to b - 1' as 'from 0 on below b' -/
theorem in0 {a : Int32} {k : Nat} (h : k < 1000000) : ((0 : Int32) ≤ a ∧ a ≤ nI k - 1) ↔ (¬ a < 0 ∧ ¬ nI k ≤ a) := by
  rw [i32_le, i32_le, sub1_t h, i32_lt, i32_le, nI_t h]
  have : (0 : Int32).toInt = 0 := rfl
  omega
theorem s_two {a : Int32} {b : Int32} {T : MS} : (if a < 0 then zb (0 : Int32) (some ((0 : Int32), T)) else (if b ≤ a then zb (0 : Int32) (some ((0 : Int32), T)) else zb (1 : Int32) (some ((1 : Int32), T)))) = some (bI (¬ a < 0 ∧ ¬ b ≤ a), T) := by
  unfold bI
  by_cases h1 : a < 0
  · rw [if_pos h1, zb_0, if_neg (fun q => q.1 h1)]
  · rw [if_neg h1]
    by_cases h2 : b ≤ a
    · rw [if_pos h2, zb_0, if_neg (fun q => q.2 h2)]
    · rw [if_neg h2, zb_1, if_pos ⟨h1, h2⟩]
theorem s_isWindC (q : Nat) (a : Int32) : f_X8_isWind n q a S = some (bI (¬ a < 0 ∧ ¬ mI S q 6 ≤ a), S) := s_two
theorem s_isTextC (q : Nat) (a : Int32) : f_X8_isText n q a S = some (bI (¬ a < 0 ∧ ¬ mI S q 7 ≤ a), S) := s_two
theorem s_isBoneC (q : Nat) (a : Int32) : f_X3_isBone n q a S = some (bI (¬ a < 0 ∧ ¬ mI S q 7 ≤ a), S) := s_two
theorem s_holds (q : Nat) (a : Int32) : f_X1_holds n q a S = some (bI (¬ a < 0 ∧ ¬ mI S q 2 ≤ a), S) := s_two
theorem s_isFarmerC (a : Int32) : f_X10_isFarmer n a S = some (bI (¬ a < 0 ∧ ¬ (6 : Int32) ≤ a), S) := s_two
theorem s_isFarmerR (a : Int32) : f_X11_isFarmer n a S = some (bI (¬ a < 0 ∧ ¬ (6 : Int32) ≤ a), S) := by
  unfold f_X11_isFarmer
  rw [s_isIn, cl_some, zb_bI]
  rw [bI_congr (q := ¬ a < 0 ∧ ¬ (6 : Int32) ≤ a)]
  rw [i32_le, i32_le, i32_lt, i32_le]
  have h0 : (0 : Int32).toInt = 0 := rfl
  have h5 : (5 : Int32).toInt = 5 := rfl
  have h6 : (6 : Int32).toInt = 6 := rfl
  omega
theorem s_isCellR (a : Int32) {c : Nat} (hc : I (z + 83) 3 = nI c) (hb : c < 1000000) : f_X11_isCell n (z + 83) a (mk z C I J t u) = some (bI (¬ a < 0 ∧ ¬ nI c ≤ a), mk z C I J t u) := by
  unfold f_X11_isCell
  rw [mI_mk, hc, s_isIn, cl_some, zb_bI, bI_congr (in0 hb)]
theorem s_isWindR (a : Int32) {w : Nat} (hw : I (z + 84) 2 = nI w) (hb : w < 1000000) : f_X11_isWind n (z + 83) a (mk z C I J t u) = some (bI (¬ a < 0 ∧ ¬ nI w ≤ a), mk z C I J t u) := by
  unfold f_X11_isWind
  rw [g83_0, n84, ck_t (by decide), mI_mk, show (2 : Int32).toNatClampNeg = 2 from rfl, hw, s_isIn, cl_some, zb_bI, bI_congr (in0 hb)]
theorem s_isBoneR (a : Int32) {w : Nat} (hw : I (z + 84) 1 = nI w) (hb : w < 1000000) : f_X11_isBone n (z + 83) a (mk z C I J t u) = some (bI (¬ a < 0 ∧ ¬ nI w ≤ a), mk z C I J t u) := by
  unfold f_X11_isBone
  rw [g83_0, n84, ck_t (by decide), mI_mk, show (1 : Int32).toNatClampNeg = 1 from rfl, hw, s_isIn, cl_some, zb_bI, bI_congr (in0 hb)]
end BS
