/-! WHAT IS TOLD: the tape, the fault, winds, plan, map, which text rules: both systems alike, and the calls that touch these alone -/
/-- the tape: lengths and bytes of both -/
def TapeR (lc lr : Int32) (rc rr : Nat → Int32) : Prop := ∃ l : Nat, l ≤ 300 ∧ lc = nI l ∧ lr = nI l ∧ ∀ i, i < l → rc i = rr i ∧ ∃ v : Nat, v < 256 ∧ rr i = nI v
/-- what is told: the object's ints ob, its rows; the reference's row a from B on -/
def ToldR (C : Nat) (ob dx dy st ch pl mp a : Nat → Int32) (B : Nat) : Prop :=
  ∃ w tx : Nat, w ≤ 6 ∧ tx ≤ 4 ∧ ob 6 = nI w ∧ a (B + 2) = nI w ∧ ob 7 = nI tx ∧ a (B + 3) = nI tx ∧ ob 8 = a (B + 4) ∧ (a (B + 4) = -1 ∨ ∃ r, r < tx ∧ a (B + 4) = nI r) ∧
  (∀ i, i < w → dx i = a (B + 100 + 4 * i) ∧ dy i = a (B + 101 + 4 * i) ∧ st i = a (B + 102 + 4 * i) ∧ ch i = a (B + 103 + 4 * i) ∧ (-1 ≤ dx i ∧ dx i ≤ 1) ∧ (-1 ≤ dy i ∧ dy i ≤ 1) ∧ (∃ v, v < 100 ∧ st i = nI v) ∧ (∃ v, v < 10 ∧ ch i = nI v)) ∧
  (∀ k, k < 40 → pl k = a (B + 125 + k) ∧ ∃ v, v < 6 ∧ (v < w ∨ v = 0) ∧ pl k = nI v) ∧ (∀ k, k < 24 → mp k = a (B + 165 + k) ∧ (mp k = -1 ∨ ∃ c, c < C ∧ mp k = nI c))
section TD
variable {n z C t : Nat} {I : Nat → Nat → Int32} {J : Nat → Nat → Int64} {u : Option Nat}
theorem za (a b : Nat) (h : a ≠ b) : z + a ≠ z + b := by omega
/-- end(n) -/
theorem op_end' (h : TapeR (I (z + 15) 1) (I (z + 83) 7) (I (z + 16)) (I (z + 86))) (a : Int32) :
    (f_X10_end n z a (mk z C I J t u) = some (-1, mk z C I J t u) ∧ f_X11_end n (z + 83) a (mk z C I J t u) = some (-1, mk z C I J t u)) ∨
    (TapeR a a (I (z + 16)) (I (z + 86)) ∧ f_X10_end n z a (mk z C I J t u) = some (a, mk z C (up2 I (z + 15) 1 a) J t u) ∧ f_X11_end n (z + 83) a (mk z C (up2 I (z + 15) 1 a) J t u) = some (a, mk z C (up2 (up2 I (z + 15) 1 a) (z + 83) 7 a) J t u)) := by
  obtain ⟨l, hl, h1, h2, h3⟩ := h
  unfold f_X10_end f_X11_end
  simp only [g0z_5, mI_mk, bd, sI_mk, s_isIn, cl_some, ite_bI, h1]
  rw [up2_ne (za 83 15 (by omega)), h2]
  by_cases c1 : a < 0
  · left
    rw [if_pos c1, if_neg (fun q => by have := q.1; rw [i32_le] at this; rw [i32_lt] at c1; omega)]
    exact ⟨rfl, rfl⟩
  · rw [if_neg c1]
    have c0 : (0 : Int32) ≤ a := by rw [i32_le]; rw [i32_lt] at c1; omega
    by_cases c2 : a ≤ nI l
    · right
      rw [if_pos c2, if_pos ⟨c0, c2⟩]
      obtain ⟨k, hk, rfl⟩ := nI_nm (N := l + 1) c1 (by rw [i32_le, nI_t (by omega)]; rw [i32_le, nI_t (by omega)] at c2; omega) (by omega)
      exact ⟨⟨k, by omega, rfl, rfl, fun i hi => h3 i (by omega)⟩, rfl, rfl⟩
    · left
      rw [if_neg c2, if_neg (fun q => c2 q.2)]
      exact ⟨rfl, rfl⟩
/-- fault(what) -/
theorem op_fault' (h1 : I (z + 17) 0 = I (z + 83) 8) (h2 : I (z + 17) 1 = I (z + 83) 9) (a : Int32) :
    ∃ r, f_X10_fault n z a (mk z C I J t u) = some (r, mk z C I J t u) ∧ f_X11_fault n (z + 83) a (mk z C I J t u) = some (r, mk z C I J t u) := by
  unfold f_X10_fault f_X11_fault
  simp only [g0z_6, mI_mk, h1, h2]
  by_cases c1 : a = 0
  · exact ⟨_, by rw [if_pos c1], by rw [if_pos c1]⟩
  · by_cases c2 : a = 1
    · exact ⟨_, by rw [if_neg c1, if_pos c2], by rw [if_neg c1, if_pos c2]⟩
    · exact ⟨_, by rw [if_neg c1, if_neg c2], by rw [if_neg c1, if_neg c2]⟩
/-- by(text) -/
theorem op_by' {tx : Nat} (ht : tx ≤ 4) (h1 : I (z + 1) 7 = nI tx) (h2 : I (z + 84) 3 = nI tx) (a : Int32) :
    (f_X10_by n z a (mk z C I J t u) = some (0, mk z C I J t u) ∧ f_X11_by n (z + 83) a (mk z C I J t u) = some (0, mk z C I J t u)) ∨
    ((a = -1 ∨ ∃ r, r < tx ∧ a = nI r) ∧ f_X10_by n z a (mk z C I J t u) = some (1, mk z C (up2 I (z + 1) 8 a) J t u) ∧ f_X11_by n (z + 83) a (mk z C (up2 I (z + 1) 8 a) J t u) = some (1, mk z C (up2 (up2 I (z + 1) 8 a) (z + 84) 4 a) J t u)) := by
  unfold f_X10_by f_X11_by
  simp only [g0z_3, g83_0, n84, s_isTextC, s_isIn, cl_some, ite_bI, bd, sI_mk, mI_mk, zb_1, zb_0, ck_t (show inb (3 : Int32) 2720 = true by decide), ck_t (show inb (4 : Int32) 2720 = true by decide), show (3 : Int32).toNatClampNeg = 3 from rfl, show (4 : Int32).toNatClampNeg = 4 from rfl, h1, h2]
  rw [up2_ne (za 84 1 (by omega)), h2]
  have h9 : ((-1 : Int32) ≤ a ∧ a ≤ nI tx - 1) ↔ (a = -1 ∨ (¬ a < 0 ∧ ¬ nI tx ≤ a)) := by
    rw [i32_le, i32_le, sub1_t (by omega), i32_eq, i32_lt, i32_le, nI_t (by omega)]
    have : (0 : Int32).toInt = 0 := rfl
    have : (-1 : Int32).toInt = -1 := rfl
    omega
  by_cases c1 : a = -1
  · right
    refine ⟨Or.inl c1, ?_, ?_⟩
    · rw [if_pos c1]
    · rw [if_pos (h9.mpr (Or.inl c1))]
  · by_cases c2 : ¬ a < 0 ∧ ¬ nI tx ≤ a
    · right
      refine ⟨Or.inr ?_, ?_, ?_⟩
      · obtain ⟨k, hk, rfl⟩ := nI_nm c2.1 c2.2 (by omega)
        exact ⟨k, hk, rfl⟩
      · rw [if_neg c1, if_pos c2]
      · rw [if_pos (h9.mpr (Or.inr c2))]
    · left
      have h8 : ¬ ((-1 : Int32) ≤ a ∧ a ≤ nI tx - 1) := fun q => (h9.mp q).elim c1 c2
      exact ⟨by rw [if_neg c1, if_neg c2], by rw [if_neg h8]⟩
/-- plan(k, wind) -/
theorem op_plan' {w : Nat} (hw : w ≤ 6) (h1 : I (z + 1) 6 = nI w) (h2 : I (z + 84) 2 = nI w) (a b : Int32) :
    (f_X10_plan n z a b (mk z C I J t u) = some (0, mk z C I J t u) ∧ f_X11_plan n (z + 83) a b (mk z C I J t u) = some (0, mk z C I J t u)) ∨
    (∃ k v, k < 40 ∧ v < w ∧ a = nI k ∧ b = nI v ∧ f_X10_plan n z a b (mk z C I J t u) = some (1, mk z C (up2 I (z + 6) k b) J t u) ∧ f_X11_plan n (z + 83) a b (mk z C (up2 I (z + 6) k b) J t u) = some (1, mk z C (up2 (up2 I (z + 6) k b) (z + 84) (125 + k) b) J t u)) := by
  by_cases c1 : ¬ a < 0 ∧ ¬ nI 40 ≤ a
  · by_cases c2 : ¬ b < 0 ∧ ¬ nI w ≤ b
    · right
      obtain ⟨k, hk, rfl⟩ := nI_nm c1.1 c1.2 (by omega)
      obtain ⟨v, hv, rfl⟩ := nI_nm c2.1 c2.2 (by omega)
      refine ⟨k, v, hk, hv, rfl, rfl, ?_, ?_⟩
      · unfold f_X10_plan
        simp only [g0z_3, g1_4, s_isWindC, cl_some, ite_bI, bd, sI_mk, mI_mk, zb_1, zb_0, n6, h1]
        rw [if_neg c1.1, if_neg (show ¬ (40 : Int32) ≤ nI k from c1.2), if_pos c2, ck_t (inb_nI hk (by omega)), cl_nI (by omega)]
      · unfold f_X11_plan
        have hx : up2 I (z + 6) k (nI v) (z + 84) 2 = nI w := by rw [up2_ne (za 84 6 (by omega)), h2]
        rw [s_isIn, cl_some, ite_bI, if_pos (show (0 : Int32) ≤ nI k ∧ nI k ≤ 39 by
          rw [i32_le, i32_le, nI_t (by omega)]
          have : (0 : Int32).toInt = 0 := rfl
          have : (39 : Int32).toInt = 39 := rfl
          omega), s_isWindR _ hx (by omega), cl_some, ite_bI, if_pos c2, g83_0, n84]
        have e1 : (125 : Int32) + nI k = nI (125 + k) := nI_pl 125 k
        rw [e1, ck_t (inb_nI (by omega) (by omega)), cl_nI (by omega)]
        simp only [bd, sI_mk, zb_1]
    · left
      constructor
      · unfold f_X10_plan
        simp only [g0z_3, s_isWindC, cl_some, ite_bI, mI_mk, zb_0, h1]
        rw [if_neg c1.1, if_neg (show ¬ (40 : Int32) ≤ a from c1.2), if_neg c2]
      · unfold f_X11_plan
        rw [s_isIn, cl_some, ite_bI, s_isWindR _ h2 (by omega), cl_some, ite_bI, if_neg c2, zb_0]
        split <;> rfl
  · left
    constructor
    · unfold f_X10_plan
      simp only [zb_0]
      by_cases d1 : a < 0
      · rw [if_pos d1]
      · rw [if_neg d1, if_pos (show (40 : Int32) ≤ a from Classical.byContradiction fun q => c1 ⟨d1, q⟩)]
    · unfold f_X11_plan
      rw [s_isIn, cl_some, ite_bI, if_neg (show ¬ ((0 : Int32) ≤ a ∧ a ≤ 39) from fun q => c1 ⟨by have := q.1; rw [i32_le] at this; rw [i32_lt]; omega, by
        have := q.2
        rw [i32_le] at this
        rw [i32_le, nI_t (by omega)]
        have : (39 : Int32).toInt = 39 := rfl
        omega⟩), zb_0]
end TD
