/-! WIND; WHAT IS TOLD COPIED; IMAGE AND BACK -/
/-- the reference's places of what is told -/
def tlj (j : Nat) : Bool := (decide (2 ≤ j) && decide (j ≤ 4)) || (decide (100 ≤ j) && decide (j < 189))
def ta (a : Nat → Int32) (B j : Nat) : Int32 := if tlj j = true then a (B + j) else 0
theorem ta_in {a : Nat → Int32} {B j : Nat} (h : tlj j = true) : ta a B j = a (B + j) := if_pos h
theorem ta_ur {a : Nat → Int32} {B m : Nat} {v : Int32} (h : tlj m = true) : ta (ur a (B + m) v) B = ur (ta a B) m v := by
  funext j
  unfold ta ur
  by_cases hj : tlj j = true
  · rw [if_pos hj]
    by_cases hm : j = m
    · rw [if_pos hm, if_pos (by omega)]
    · rw [if_neg hm, if_neg (by omega)]; exact (if_pos hj).symm
  · rw [if_neg hj]
    by_cases hm : j = m
    · subst hm; exact absurd h hj
    · rw [if_neg hm]; exact (if_neg hj).symm
theorem ta_ur0 {a : Nat → Int32} {m : Nat} {v : Int32} (h : tlj m = true) : ta (ur a m v) 0 = ur (ta a 0) m v := by
  have := ta_ur (a := a) (B := 0) (v := v) h
  rw [Nat.zero_add] at this
  exact this
theorem ta_ne {a : Nat → Int32} {B m : Nat} {v : Int32} (h : ∀ j, tlj j = true → B + j ≠ m) : ta (ur a m v) B = ta a B := by
  funext j
  unfold ta
  by_cases hj : tlj j = true
  · rw [if_pos hj, if_pos hj, ur_ne _ _ (h j hj)]
  · rw [if_neg hj, if_neg hj]
theorem pa_ne {a : Nat → Int32} {B m : Nat} {v : Int32} (h : ∀ j, plj j = true → B + j ≠ m) : pa (ur a m v) B = pa a B := by
  funext j
  unfold pa
  by_cases hj : plj j = true
  · rw [if_pos hj, if_pos hj, ur_ne _ _ (h j hj)]
  · rw [if_neg hj, if_neg hj]
theorem tlj_b {j : Nat} (h : tlj j = true) : (2 ≤ j ∧ j ≤ 4) ∨ (100 ≤ j ∧ j < 189) := by
  simpa only [tlj, Bool.or_eq_true, Bool.and_eq_true, decide_eq_true_eq] using h
theorem plj_b {j : Nat} (h : plj j = true) : j ≤ 1 ∨ (10 ≤ j ∧ j < 98) ∨ (190 ≤ j ∧ j < 340) := by
  simp only [plj, Bool.or_eq_true, Bool.and_eq_true, decide_eq_true_eq] at h; omega
theorem tlj_100 {i : Nat} (h : i < 89) : tlj (100 + i) = true := by
  simp only [tlj, Bool.or_eq_true, Bool.and_eq_true, decide_eq_true_eq]; omega
theorem ta_cp {a : Nat → Int32} {f g : Nat} : ta (cpR a f g 340) (340 * g) = ta a (340 * f) := by
  funext j
  unfold ta
  by_cases hj : tlj j = true
  · rw [if_pos hj, if_pos hj]
    exact cpR_in (by have := tlj_b hj; omega)
  · rw [if_neg hj, if_neg hj]
theorem ta_cpo {a : Nat → Int32} {f g w : Nat} (h : w ≠ g) : ta (cpR a f g 340) (340 * w) = ta a (340 * w) := by
  funext j
  unfold ta
  by_cases hj : tlj j = true
  · rw [if_pos hj, if_pos hj]
    exact cpR_out (by have := tlj_b hj; omega) h
  · rw [if_neg hj, if_neg hj]
/-- what is told, the object o beside the reference's places q (as ToldR, over ta) -/
def ToldM (z C o : Nat) (I : Nat → Nat → Int32) (B : Nat) : Prop := ToldR C (I (z + o)) (I (z + (o + 1))) (I (z + (o + 2))) (I (z + (o + 3))) (I (z + (o + 4))) (I (z + (o + 5))) (I (z + (o + 6))) (ta (I (z + 84)) B) 0
theorem ToldR.congr {C : Nat} {ob dx dy st ch pl mp ob' dx' dy' st' ch' pl' mp' a : Nat → Int32} {B : Nat} (h : ToldR C ob dx dy st ch pl mp a B) (h6 : ob' 6 = ob 6) (h7 : ob' 7 = ob 7) (h8 : ob' 8 = ob 8) (g1 : ∀ j, j < 6 → dx' j = dx j) (g2 : ∀ j, j < 6 → dy' j = dy j) (g3 : ∀ j, j < 6 → st' j = st j) (g4 : ∀ j, j < 6 → ch' j = ch j) (g5 : ∀ j, j < 40 → pl' j = pl j) (g6 : ∀ j, j < 24 → mp' j = mp j) : ToldR C ob' dx' dy' st' ch' pl' mp' a B := by
  obtain ⟨w, tx, q1, q2, q3, q4, q5, q6, q7, q8, q9, q10, q11⟩ := h
  refine ⟨w, tx, q1, q2, h6.trans q3, q4, h7.trans q5, q6, h8.trans q7, q8, ?_, ?_, ?_⟩
  · intro i hi
    rw [g1 i (by omega), g2 i (by omega), g3 i (by omega), g4 i (by omega)]; exact q9 i hi
  · intro k hk
    rw [g5 k hk]; exact q10 k hk
  · intro k hk
    rw [g6 k hk]; exact q11 k hk
section WD
variable {n z C t : Nat} {I : Nat → Nat → Int32} {J : Nat → Nat → Int64} {u : Option Nat}
/-- the class's cells, the reference's row behind a wind -/
def cWind (z : Nat) (I : Nat → Nat → Int32) (w : Nat) (a b c d : Int32) : Nat → Nat → Int32 := up2 (up2 (up2 (up2 (up2 I (z + 1) 6 (nI (w + 1))) (z + 2) w a) (z + 3) w b) (z + 4) w c) (z + 5) w d
def rWind (I : Nat → Nat → Int32) (r w : Nat) (a b c d : Int32) : Nat → Nat → Int32 := up2 (up2 (up2 (up2 (up2 I r (100 + 4 * w) a) r (101 + 4 * w) b) r (102 + 4 * w) c) r (103 + 4 * w) d) r 2 (nI (w + 1))
def okW (a b c d : Int32) : Prop := (¬ a < -1 ∧ ¬ 1 < a) ∧ (¬ b < -1 ∧ ¬ 1 < b) ∧ (¬ c < 0 ∧ ¬ 99 < c) ∧ (¬ d < 0 ∧ ¬ 9 < d)
theorem op_wind' {w : Nat} (hw : w ≤ 6) (h1 : I (z + 1) 6 = nI w) (h2 : I (z + 84) 2 = nI w) (a b c d : Int32) :
    (f_X10_wind n z a b c d (mk z C I J t u) = some (-1, mk z C I J t u) ∧ f_X11_wind n (z + 83) a b c d (mk z C I J t u) = some (-1, mk z C I J t u)) ∨
    (w < 6 ∧ okW a b c d ∧ f_X10_wind n z a b c d (mk z C I J t u) = some (nI w, mk z C (cWind z I w a b c d) J t u) ∧ f_X11_wind n (z + 83) a b c d (mk z C (cWind z I w a b c d) J t u) = some (nI w, mk z C (rWind (cWind z I w a b c d) (z + 84) w a b c d) J t u)) := by
  by_cases hy : w < 6 ∧ okW a b c d
  · right
    obtain ⟨hw6, ⟨⟨a1, a2⟩, ⟨b1, b2⟩, ⟨c1, c2⟩, ⟨d1, d2⟩⟩⟩ := hy
    refine ⟨hw6, ⟨⟨a1, a2⟩, ⟨b1, b2⟩, ⟨c1, c2⟩, ⟨d1, d2⟩⟩, ?_, ?_⟩
    · unfold f_X10_wind f_X8_addWind
      rw [g0z_3, if_neg a1, if_neg a2, if_neg b1, if_neg b2, mI_mk, h1, if_pos (show nI w < (6 : Int32) by rw [show (6 : Int32) = nI 6 from rfl, nI_lt' (by omega) (by omega)]; exact hw6), if_neg c1, if_neg c2, if_neg d1, if_pos (show d ≤ 9 by rw [i32_le]; rw [i32_lt] at d2; omega)]
      simp only [bd, sI_mk, g1_0, g1_1, g1_2, g1_3, n2, n3, n4, n5, ck_t (inb_nI (show w < 6 from hw6) (by omega)), cl_nI (show w < 1000000 by omega), show nI w + (1 : Int32) = nI (w + 1) from nI_pl w 1, cl_some]
      rfl
    · unfold f_X11_wind
      have e84 : cWind z I w a b c d (z + 84) = I (z + 84) := by
        unfold cWind
        rw [up2_ne (by omega), up2_ne (by omega), up2_ne (by omega), up2_ne (by omega), up2_ne (by omega)]
      have x1 : (100 : Int32) + (4 : Int32) * nI w = nI (100 + 4 * w) := by
        rw [show (4 : Int32) * nI w = nI (4 * w) from (Int32.ofNat_mul 4 w).symm]; exact nI_pl 100 (4 * w)
      have x2 : nI (100 + 4 * w) + (1 : Int32) = nI (101 + 4 * w) := by rw [show (1 : Int32) = nI 1 from rfl, nI_pl]; congr 1; omega
      have x3 : nI (100 + 4 * w) + (2 : Int32) = nI (102 + 4 * w) := by rw [show (2 : Int32) = nI 2 from rfl, nI_pl]; congr 1; omega
      have x4 : nI (100 + 4 * w) + (3 : Int32) = nI (103 + 4 * w) := by rw [show (3 : Int32) = nI 3 from rfl, nI_pl]; congr 1; omega
      have x6 : nI w + (1 : Int32) = nI (w + 1) := nI_pl w 1
      have x7 : nI (w + 1) - (1 : Int32) = nI w := by rw [← x6]; exact Int32.add_sub_cancel _ _
      have h2' : cWind z I w a b c d (z + 84) 2 = nI w := by rw [e84]; exact h2
      rw [s_isIn, cl_some, ite_bI, if_pos (in_r.mpr ⟨a1, a2⟩), s_isIn, cl_some, ite_bI, if_pos (in_r.mpr ⟨b1, b2⟩), s_isIn, cl_some, ite_bI, if_pos (in_r.mpr ⟨c1, c2⟩), s_isIn, cl_some, ite_bI, if_pos (in_r.mpr ⟨d1, d2⟩), g83_0, n84, ck_t (by decide), if_neg (show ¬ mI (mk z C (cWind z I w a b c d) J t u) (z + 84) (2 : Int32).toNatClampNeg = (6 : Int32) by
        rw [mI_mk, show (2 : Int32).toNatClampNeg = 2 from rfl, h2', show (6 : Int32) = nI 6 from rfl, nI_inj (by omega) (by omega)]; omega)]
      simp only [bd, g83_0, n84, mI_mk, sI_mk, show (2 : Int32).toNatClampNeg = 2 from rfl, ck_t (show inb (2 : Int32) 2720 = true by decide), h2', x1, x2, x3, x4,
        ck_t (inb_nI (show 100 + 4 * w < 2720 by omega) (by omega)), ck_t (inb_nI (show 101 + 4 * w < 2720 by omega) (by omega)), ck_t (inb_nI (show 102 + 4 * w < 2720 by omega) (by omega)), ck_t (inb_nI (show 103 + 4 * w < 2720 by omega) (by omega)),
        cl_nI (show 100 + 4 * w < 1000000 by omega), cl_nI (show 101 + 4 * w < 1000000 by omega), cl_nI (show 102 + 4 * w < 1000000 by omega), cl_nI (show 103 + 4 * w < 1000000 by omega)]
      simp only [up2_at, if_neg (show ¬ 2 = 100 + 4 * w by omega), if_neg (show ¬ 2 = 101 + 4 * w by omega), if_neg (show ¬ 2 = 102 + 4 * w by omega), if_neg (show ¬ 2 = 103 + 4 * w by omega), h2', x6, if_true, x7]
      rfl
  · left
    constructor
    · unfold f_X10_wind f_X8_addWind
      rw [g0z_3, mI_mk, h1]
      by_cases a1 : a < -1
      · rw [if_pos a1, cl_some]
      by_cases a2 : 1 < a
      · rw [if_neg a1, if_pos a2, cl_some]
      by_cases b1 : b < -1
      · rw [if_neg a1, if_neg a2, if_pos b1, cl_some]
      by_cases b2 : 1 < b
      · rw [if_neg a1, if_neg a2, if_neg b1, if_pos b2, cl_some]
      rw [if_neg a1, if_neg a2, if_neg b1, if_neg b2]
      by_cases w1 : nI w < (6 : Int32)
      · rw [if_pos w1]
        have w2 : w < 6 := by rw [show (6 : Int32) = nI 6 from rfl, nI_lt' (by omega) (by omega)] at w1; exact w1
        by_cases c1 : c < 0
        · rw [if_pos c1, cl_some]
        by_cases c2 : 99 < c
        · rw [if_neg c1, if_pos c2, cl_some]
        by_cases d1 : d < 0
        · rw [if_neg c1, if_neg c2, if_pos d1, cl_some]
        by_cases d2 : d ≤ 9
        · exact absurd ⟨w2, ⟨a1, a2⟩, ⟨b1, b2⟩, ⟨c1, c2⟩, ⟨d1, by rw [i32_lt]; rw [i32_le] at d2; omega⟩⟩ hy
        · rw [if_neg c1, if_neg c2, if_neg d1, if_neg d2, cl_some]
      · rw [if_neg w1, cl_some]
    · unfold f_X11_wind
      rw [s_isIn, cl_some, ite_bI]
      by_cases a1 : (-1 : Int32) ≤ a ∧ a ≤ 1
      · rw [if_pos a1, s_isIn, cl_some, ite_bI]
        by_cases b1 : (-1 : Int32) ≤ b ∧ b ≤ 1
        · rw [if_pos b1, s_isIn, cl_some, ite_bI]
          by_cases c1 : (0 : Int32) ≤ c ∧ c ≤ 99
          · rw [if_pos c1, s_isIn, cl_some, ite_bI]
            by_cases d1 : (0 : Int32) ≤ d ∧ d ≤ 9
            · have hw6 : w = 6 := by
                rcases Nat.lt_or_ge w 6 with q | q
                · exact absurd ⟨q, in_r.mp a1, in_r.mp b1, in_r.mp c1, in_r.mp d1⟩ hy
                · omega
              rw [if_pos d1, g83_0, n84, ck_t (by decide), if_pos (show mI (mk z C I J t u) (z + 84) (2 : Int32).toNatClampNeg = (6 : Int32) by rw [mI_mk, show (2 : Int32).toNatClampNeg = 2 from rfl, h2, hw6]; rfl)]
            · rw [if_neg d1]
          · rw [if_neg c1]
        · rw [if_neg b1]
      · rw [if_neg a1]
/-- what is told copied from o' to o (the two are at 1 and at 8) -/
theorem s_copyT {o o' : Nat} (h : (o = 1 ∧ o' = 8) ∨ (o = 8 ∧ o' = 1)) : ∃ I', f_X8_copyFrom n (z + o) (z + o') (mk z C I J t u) = some (mk z C I' J t u) ∧
    (∀ q, q < z + o ∨ z + o + 7 ≤ q → I' q = I q) ∧ I' (z + o) 6 = I (z + o') 6 ∧ I' (z + o) 7 = I (z + o') 7 ∧ I' (z + o) 8 = I (z + o') 8 ∧
    (∀ j, j < 6 → I' (z + (o + 1)) j = I (z + (o' + 1)) j) ∧ (∀ j, j < 6 → I' (z + (o + 2)) j = I (z + (o' + 2)) j) ∧ (∀ j, j < 6 → I' (z + (o + 3)) j = I (z + (o' + 3)) j) ∧ (∀ j, j < 6 → I' (z + (o + 4)) j = I (z + (o' + 4)) j) ∧ (∀ j, j < 40 → I' (z + (o + 5)) j = I (z + (o' + 5)) j) ∧ (∀ j, j < 24 → I' (z + (o + 6)) j = I (z + (o' + 6)) j) := by
  rcases h with ⟨rfl, rfl⟩ | ⟨rfl, rfl⟩
  all_goals
    unfold f_X8_copyFrom
    simp only [bd, g1_0, g1_1, g1_2, g1_3, g1_4, g1_5, g8_0, g8_1, g8_2, g8_3, g8_4, g8_5, n2, n3, n4, n5, n6, n7, n9, n10, n11, n12, n13, n14, rI_mk, sI_mk, mIq_mk, mI_mk, ck_t (show cpk 0 0 6 6 6 = true by decide), ck_t (show cpk 0 0 40 40 40 = true by decide), ck_t (show cpk 0 0 24 24 24 = true by decide), show (0 : Int32).toNatClampNeg = 0 from rfl, show (24 : Int32).toNatClampNeg = 24 from rfl, show (6 : Int32).toNatClampNeg = 6 from rfl, show (40 : Int32).toNatClampNeg = 40 from rfl]
    refine ⟨_, rfl, ?_, ?_, ?_, ?_, ?_, ?_, ?_, ?_, ?_, ?_⟩
    · intro q hq
      rw [up2_ne (by omega), up2_ne (by omega), up2_ne (by omega), upr_ne (by omega), upr_ne (by omega), upr_ne (by omega), upr_ne (by omega), upr_ne (by omega), upr_ne (by omega)]
    · rw [up2_at, if_neg (by omega), up2_at, if_neg (by omega), up2_at, if_pos rfl, upr_ne (by omega), upr_ne (by omega), upr_ne (by omega), upr_ne (by omega), upr_ne (by omega), upr_ne (by omega)]
    · rw [up2_at, if_neg (by omega), up2_at, if_pos rfl, up2_ne (by omega), upr_ne (by omega), upr_ne (by omega), upr_ne (by omega), upr_ne (by omega), upr_ne (by omega), upr_ne (by omega)]
    · rw [up2_at, if_pos rfl, up2_ne (by omega), up2_ne (by omega), upr_ne (by omega), upr_ne (by omega), upr_ne (by omega), upr_ne (by omega), upr_ne (by omega), upr_ne (by omega)]
    · intro j hj
      rw [up2_ne (by omega), up2_ne (by omega), up2_ne (by omega), upr_ne (by omega), upr_ne (by omega), upr_ne (by omega), upr_ne (by omega), upr_ne (by omega), upr_at, cpy0 hj]
    · intro j hj
      rw [up2_ne (by omega), up2_ne (by omega), up2_ne (by omega), upr_ne (by omega), upr_ne (by omega), upr_ne (by omega), upr_ne (by omega), upr_at, cpy0 hj, upr_ne (by omega)]
    · intro j hj
      rw [up2_ne (by omega), up2_ne (by omega), up2_ne (by omega), upr_ne (by omega), upr_ne (by omega), upr_ne (by omega), upr_at, cpy0 hj, upr_ne (by omega), upr_ne (by omega)]
    · intro j hj
      rw [up2_ne (by omega), up2_ne (by omega), up2_ne (by omega), upr_ne (by omega), upr_ne (by omega), upr_at, cpy0 hj, upr_ne (by omega), upr_ne (by omega), upr_ne (by omega)]
    · intro j hj
      rw [up2_ne (by omega), up2_ne (by omega), up2_ne (by omega), upr_ne (by omega), upr_at, cpy0 hj, upr_ne (by omega), upr_ne (by omega), upr_ne (by omega), upr_ne (by omega)]
    · intro j hj
      rw [up2_ne (by omega), up2_ne (by omega), up2_ne (by omega), upr_at, cpy0 hj, upr_ne (by omega), upr_ne (by omega), upr_ne (by omega), upr_ne (by omega), upr_ne (by omega)]
end WD
