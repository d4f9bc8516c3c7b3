/-! THE GROUND: steps, sides, what hangs together; the class's spread -/
theorem nI_ml (a b : Nat) : nI a * nI b = nI (a * b) := (Int32.ofNat_mul a b).symm
theorem nI_sb {a b : Nat} (h : b ≤ a) : nI a - nI b = nI (a - b) := by
  have e : nI a = nI (a - b) + nI b := by rw [nI_pl]; congr 1; omega
  rw [e]; exact Int32.add_sub_cancel _ _
theorem nI_dv {c w : Nat} (hc : c < 1000000) (h0 : 0 < w) (hw : w < 1000000) : nI c / nI w = nI (c / w) := by
  have hq : c / w ≤ c := Nat.div_le_self _ _
  rw [i32_eq, Int32.toInt_div, nI_t hc, nI_t hw, nI_t (by omega), ← Int.ofNat_tdiv]
  generalize c / w = q at hq ⊢
  simp only [Int.bmod]
  omega
theorem nI_md {c w : Nat} (hc : c < 1000000) (h0 : 0 < w) (hw : w < 1000000) : nI c - nI c / nI w * nI w = nI (c % w) := by
  rw [nI_dv hc h0 hw, nI_ml, nI_sb (Nat.div_mul_le_self c w)]
  congr 1
  have := Nat.div_add_mod c w
  rw [Nat.mul_comm] at this
  omega
theorem nI_md' {c w : Nat} (hc : c < 1000000) (h0 : 0 < w) (hw : w < 1000000) : nI c - nI (c / w) * nI w = nI (c % w) := by
  rw [← nI_dv hc h0 hw]; exact nI_md hc h0 hw
/-- one more, one less, or the same -/
def st1 (x : Int32) : Prop := x = -1 ∨ x = 0 ∨ x = 1
theorem st1_t {x : Int32} (h : st1 x) : -1 ≤ x.toInt ∧ x.toInt ≤ 1 := by
  rcases h with rfl | rfl | rfl <;> decide
theorem add1_t {a : Nat} (ha : a < 1000000) {x : Int32} (h : st1 x) : (nI a + x).toInt = (a : Int) + x.toInt := by
  have := st1_t h
  rw [Int32.toInt_add, nI_t ha]
  generalize x.toInt = y at this ⊢
  simp only [Int.bmod]
  omega
theorem add1_n {a : Nat} (ha : a < 999999) {x : Int32} (h : st1 x) (h0 : 0 ≤ (a : Int) + x.toInt) : nI a + x = nI ((a : Int) + x.toInt).toNat := by
  have := st1_t h
  rw [i32_eq, add1_t (by omega) h, nI_t (by omega)]
  omega
/-- the cell a step on -/
def stp (W H c : Nat) (dx dy : Int) : Option Nat := if (0 ≤ ((c % W : Nat) : Int) + dx ∧ ((c % W : Nat) : Int) + dx < W) ∧ (0 ≤ ((c / W : Nat) : Int) + dy ∧ ((c / W : Nat) : Int) + dy < H) then some ((((c % W : Nat) : Int) + dx).toNat + W * (((c / W : Nat) : Int) + dy).toNat) else none
def oI (o : Option Nat) : Int32 := match o with
  | none => -1
  | some k => nI k
theorem stp_iff {W H c : Nat} {dx dy : Int} {d : Nat} : stp W H c dx dy = some d ↔ ((0 ≤ ((c % W : Nat) : Int) + dx ∧ ((c % W : Nat) : Int) + dx < W) ∧ (0 ≤ ((c / W : Nat) : Int) + dy ∧ ((c / W : Nat) : Int) + dy < H)) ∧ (((c % W : Nat) : Int) + dx).toNat + W * (((c / W : Nat) : Int) + dy).toNat = d := by
  unfold stp
  by_cases h : (0 ≤ ((c % W : Nat) : Int) + dx ∧ ((c % W : Nat) : Int) + dx < W) ∧ (0 ≤ ((c / W : Nat) : Int) + dy ∧ ((c / W : Nat) : Int) + dy < H)
  · rw [if_pos h]
    exact ⟨fun q => ⟨h, Option.some.inj q⟩, fun q => by rw [q.2]⟩
  · rw [if_neg h]
    exact ⟨fun q => (by cases q), fun q => absurd q.1 h⟩
theorem Wc {W : Nat} (h1 : 3 ≤ W) (h2 : W ≤ 8) : W = 3 ∨ W = 4 ∨ W = 5 ∨ W = 6 ∨ W = 7 ∨ W = 8 := by omega
theorem stp_lt {W H c : Nat} {dx dy : Int} {d : Nat} (h1 : 3 ≤ W) (h2 : W ≤ 8) (h : stp W H c dx dy = some d) : d < W * H := by
  rw [stp_iff] at h
  obtain ⟨⟨⟨a1, a2⟩, b1, b2⟩, e⟩ := h
  rcases Wc h1 h2 with rfl | rfl | rfl | rfl | rfl | rfl <;> omega
def sdx (s : Nat) : Int := if s = 1 then 1 else if s = 3 then -1 else 0
def sdy (s : Nat) : Int := if s = 2 then 1 else if s = 0 then -1 else 0
theorem stp_side {W H c : Nat} (h1 : 3 ≤ W) (h2 : W ≤ 8) (hc : c < W * H) (d : Nat) : (∃ s, s < 4 ∧ stp W H c (sdx s) (sdy s) = some d) ↔ d < W * H ∧ adj W c d := by
  constructor
  · rintro ⟨s, hs, h⟩
    refine ⟨stp_lt h1 h2 h, ?_⟩
    rw [stp_iff] at h
    unfold adj
    rcases (show s = 0 ∨ s = 1 ∨ s = 2 ∨ s = 3 by omega) with rfl | rfl | rfl | rfl
    · obtain ⟨⟨⟨a1, a2⟩, b1, b2⟩, e⟩ := h
      simp only [sdx, sdy, show ¬ (0 : Nat) = 1 by omega, show ¬ (0 : Nat) = 2 by omega, show ¬ (0 : Nat) = 3 by omega, if_false, if_true] at a1 a2 b1 b2 e
      rcases Wc h1 h2 with rfl | rfl | rfl | rfl | rfl | rfl <;> omega
    · obtain ⟨⟨⟨a1, a2⟩, b1, b2⟩, e⟩ := h
      simp only [sdx, sdy, show ¬ (1 : Nat) = 0 by omega, show ¬ (1 : Nat) = 2 by omega, if_false, if_true] at a1 a2 b1 b2 e
      rcases Wc h1 h2 with rfl | rfl | rfl | rfl | rfl | rfl <;> omega
    · obtain ⟨⟨⟨a1, a2⟩, b1, b2⟩, e⟩ := h
      simp only [sdx, sdy, show ¬ (2 : Nat) = 1 by omega, show ¬ (2 : Nat) = 3 by omega, if_false, if_true] at a1 a2 b1 b2 e
      rcases Wc h1 h2 with rfl | rfl | rfl | rfl | rfl | rfl <;> omega
    · obtain ⟨⟨⟨a1, a2⟩, b1, b2⟩, e⟩ := h
      simp only [sdx, sdy, show ¬ (3 : Nat) = 1 by omega, show ¬ (3 : Nat) = 2 by omega, show ¬ (3 : Nat) = 0 by omega, if_false, if_true] at a1 a2 b1 b2 e
      rcases Wc h1 h2 with rfl | rfl | rfl | rfl | rfl | rfl <;> omega
  · rintro ⟨hd, h⟩
    rcases h with h | h | h | h
    · refine ⟨1, by omega, ?_⟩
      rw [stp_iff]
      simp only [sdx, sdy, show ¬ (1 : Nat) = 0 by omega, show ¬ (1 : Nat) = 2 by omega, if_false, if_true]
      rcases Wc h1 h2 with rfl | rfl | rfl | rfl | rfl | rfl <;> omega
    · refine ⟨3, by omega, ?_⟩
      rw [stp_iff]
      simp only [sdx, sdy, show ¬ (3 : Nat) = 1 by omega, show ¬ (3 : Nat) = 2 by omega, show ¬ (3 : Nat) = 0 by omega, if_false, if_true]
      rcases Wc h1 h2 with rfl | rfl | rfl | rfl | rfl | rfl <;> omega
    · refine ⟨2, by omega, ?_⟩
      rw [stp_iff]
      simp only [sdx, sdy, show ¬ (2 : Nat) = 1 by omega, show ¬ (2 : Nat) = 3 by omega, if_false, if_true]
      rcases Wc h1 h2 with rfl | rfl | rfl | rfl | rfl | rfl <;> omega
    · refine ⟨0, by omega, ?_⟩
      rw [stp_iff]
      simp only [sdx, sdy, show ¬ (0 : Nat) = 1 by omega, show ¬ (0 : Nat) = 2 by omega, show ¬ (0 : Nat) = 3 by omega, if_false, if_true]
      rcases Wc h1 h2 with rfl | rfl | rfl | rfl | rfl | rfl <;> omega
section GE
variable {n z C t W H : Nat} {I : Nat → Nat → Int32} {J : Nat → Nat → Int64} {u : Option Nat}
theorem dv_n {α : Type} {w : Nat} (h0 : 0 < w) (hw : w < 1000000) {t : Option α} : dv (nI w) t = t := by
  rw [dv, if_neg]
  rw [show (0 : Int32) = nI 0 from rfl, nI_inj hw (by omega)]; omega
theorem cd_lt {c : Nat} (h1 : 3 ≤ W) (hc : c < W * H) : c % W < W ∧ c / W < H := ⟨Nat.mod_lt _ (by omega), (Nat.div_lt_iff_lt_mul (by omega)).mpr (by rw [Nat.mul_comm]; exact hc)⟩
/-- where a step leads: both systems' reckoning -/
theorem stp_val {c : Nat} (h1 : 3 ≤ W) (h2 : W ≤ 8) (h4 : H ≤ 6) (hc : c < W * H) {dx dy : Int32} (hx : st1 dx) (hy : st1 dy) :
    (stp W H c dx.toInt dy.toInt = none ∧ ((nI (c % W) + dx) < 0 ∨ nI W ≤ (nI (c % W) + dx) ∨ (nI (c / W) + dy) < 0 ∨ nI H ≤ (nI (c / W) + dy))) ∨
    (∃ d, stp W H c dx.toInt dy.toInt = some d ∧ ¬ (nI (c % W) + dx) < 0 ∧ ¬ nI W ≤ (nI (c % W) + dx) ∧ ¬ (nI (c / W) + dy) < 0 ∧ ¬ nI H ≤ (nI (c / W) + dy) ∧ (nI (c % W) + dx) + nI W * (nI (c / W) + dy) = nI d) := by
  obtain ⟨m1, m2⟩ := cd_lt h1 hc
  have ex := add1_t (a := c % W) (by omega) hx
  have ey := add1_t (a := c / W) (by omega) hy
  have z0 : (0 : Int32).toInt = 0 := rfl
  by_cases h : (0 ≤ ((c % W : Nat) : Int) + dx.toInt ∧ ((c % W : Nat) : Int) + dx.toInt < W) ∧ (0 ≤ ((c / W : Nat) : Int) + dy.toInt ∧ ((c / W : Nat) : Int) + dy.toInt < H)
  · right
    refine ⟨_, if_pos h, ?_, ?_, ?_, ?_, ?_⟩
    · rw [i32_lt, ex, z0]; omega
    · rw [i32_le, ex, nI_t (by omega)]; omega
    · rw [i32_lt, ey, z0]; omega
    · rw [i32_le, ey, nI_t (by omega)]; omega
    · rw [add1_n (by omega) hx h.1.1, add1_n (by omega) hy h.2.1, nI_ml, nI_pl]
  · left
    refine ⟨if_neg h, ?_⟩
    rw [i32_lt, i32_le, i32_lt, i32_le, ex, ey, z0, nI_t (by omega), nI_t (by omega)]
    omega
theorem s_cellBeside {c : Nat} (h1 : 3 ≤ W) (h2 : W ≤ 8) (h4 : H ≤ 6) (g0 : I (z + 30) 0 = nI W) (g1 : I (z + 30) 1 = nI H) (hc : c < W * H) {dx dy : Int32} (hx : st1 dx) (hy : st1 dy) : f_X1_cellBeside n (z + 30) (nI c) dx dy (mk z C I J t u) = some (oI (stp W H c dx.toInt dy.toInt), mk z C I J t u) := by
  have hC : W * H ≤ 48 := WH h2 h4
  unfold f_X1_cellBeside f_X1_cellAt
  simp only [mI_mk, g0, g1, dv_n (show 0 < W by omega) (show W < 1000000 by omega), nI_md' (show c < 1000000 by omega) (show 0 < W by omega) (show W < 1000000 by omega), nI_dv (show c < 1000000 by omega) (show 0 < W by omega) (show W < 1000000 by omega)]
  rcases stp_val h1 h2 h4 hc hx hy with ⟨e, h⟩ | ⟨d, e, k1, k2, k3, k4, k5⟩
  · rw [e]
    by_cases b1 : nI (c % W) + dx < 0
    · rw [if_pos b1]; rfl
    by_cases b2 : nI W ≤ nI (c % W) + dx
    · rw [if_neg b1, if_pos b2]; rfl
    by_cases b3 : nI (c / W) + dy < 0
    · rw [if_neg b1, if_neg b2, if_pos b3]; rfl
    by_cases b4 : nI H ≤ nI (c / W) + dy
    · rw [if_neg b1, if_neg b2, if_neg b3, if_pos b4]; rfl
    · rcases h with h | h | h | h <;> contradiction
  · rw [e, if_neg k1, if_neg k2, if_neg k3, if_neg k4, cl_some, k5]; rfl
theorem s_stepTo {c : Nat} (h1 : 3 ≤ W) (h2 : W ≤ 8) (h4 : H ≤ 6) (g1 : I (z + 83) 1 = nI W) (g2 : I (z + 83) 2 = nI H) (hc : c < W * H) {dx dy : Int32} (hx : st1 dx) (hy : st1 dy) : f_X11_stepTo n (z + 83) (nI c) dx dy (mk z C I J t u) = some (oI (stp W H c dx.toInt dy.toInt), mk z C I J t u) := by
  have hC : W * H ≤ 48 := WH h2 h4
  unfold f_X11_stepTo
  simp only [bd, mI_mk, g1, g2, dv_n (show 0 < W by omega) (show W < 1000000 by omega), nI_md' (show c < 1000000 by omega) (show 0 < W by omega) (show W < 1000000 by omega), nI_dv (show c < 1000000 by omega) (show 0 < W by omega) (show W < 1000000 by omega), s_isIn, cl_some, ite_bI]
  rcases stp_val h1 h2 h4 hc hx hy with ⟨e, h⟩ | ⟨d, e, k1, k2, k3, k4, k5⟩
  · rw [e]
    by_cases b1 : (0 : Int32) ≤ nI (c % W) + dx ∧ nI (c % W) + dx ≤ nI W - 1
    · rw [if_pos b1]
      by_cases b2 : (0 : Int32) ≤ nI (c / W) + dy ∧ nI (c / W) + dy ≤ nI H - 1
      · rw [in0 (by omega)] at b1 b2
        rcases h with h | h | h | h
        · exact absurd h b1.1
        · exact absurd h b1.2
        · exact absurd h b2.1
        · exact absurd h b2.2
      · rw [if_neg b2]; rfl
    · rw [if_neg b1]; rfl
  · rw [e, if_pos ((in0 (by omega)).mpr ⟨k1, k2⟩), if_pos ((in0 (by omega)).mpr ⟨k3, k4⟩), k5]; rfl
end GE
