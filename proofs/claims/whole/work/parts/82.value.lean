/-! THE CLASS'S VALUE of a clause -/
section VA
variable {n z C t k : Nat} {I : Nat → Nat → Int32} {J : Nat → Nat → Int64} {u : Option Nat}
/-- the loop of value, standing at code i of the text k, with m on the stack st -/
def vL (n z k e : Nat) (K : Int32 → MS → Option (Int32 × MS)) (f m i : Nat) (S : MS) : Option (Int32 × MS) := f_X5_value_L25 n (z + 23) (some (z + (97 + 6 * k))) (nI e) K f (nI m) (nI i) S
theorem nI_e38 {w : Nat} (h : w < 64) (c : Nat) (hc : c < 64) : nI w = nI c ↔ w = c := nI_inj (by omega) (by omega)
theorem v_push {e f m i v : Nat} {K : Int32 → MS → Option (Int32 × MS)} {st : Nat → Int32} (hk : k < t) (hi : i < e) (he : e ≤ 300) (hm : m < 64) (hv : v ≤ 9999) (hc : I (z + (97 + 6 * k + 1 + 4)) i = nI (v * 64 + 38)) (hz : z + (97 + 6 * k + 1 + 4) ≠ z + 25) :
    vL n z k e K (f + 1) m i (mk z C (upr I (z + 25) st) J t u) = vL n z k e K f (m + 1) (i + 1) (mk z C (upr I (z + 25) (ur st m (nI v))) J t u) := by
  unfold vL
  have hcode : mI (mk z C (upr I (z + 25) st) J t u) (z + (97 + 6 * k + 1 + 4)) i = nI (v * 64 + 38) := by rw [mI_mk, upr_ne hz, hc]
  rw [f_X5_value_L25]
  simp only [jn, bd, nn]
  rw [if_neg (show ¬ nI e ≤ nI i by rw [nI_le' (by omega) (by omega)]; omega), gT hk (by omega), gT hk (by omega), nT4 hk, ck_t (inb_nI (by omega) (by omega)), ck_t (inb_nI (by omega) (by omega)), cl_nI (show i < 1000000 by omega), hcode, and63 (by omega), iush6 (by omega), show (v * 64 + 38) % 64 = 38 by omega, show (v * 64 + 38) / 64 = v by omega, if_pos (show nI 38 = 38 from rfl), if_neg (show ¬ (64 : Int32) ≤ nI m by rw [show (64 : Int32) = nI 64 from rfl, nI_le' (by omega) (by omega)]; omega), g23_1, if_pos (show nI 38 = 38 from rfl), n25, ck_t (inb_nI hm (by omega)), cl_nI (by omega), sI_mk, up2_upr, show nI m + (1 : Int32) = nI (m + 1) from nI_pl m 1, show nI i + (1 : Int32) = nI (i + 1) from nI_pl i 1]
theorem v_name {e f m i v : Nat} {K : Int32 → MS → Option (Int32 × MS)} {st : Nat → Int32} (hk : k < t) (hi : i < e) (he : e ≤ 300) (hm : m < 64) (hv : v < 12) (hc : I (z + (97 + 6 * k + 1 + 4)) i = nI (v * 64 + 41)) (hz : z + (97 + 6 * k + 1 + 4) ≠ z + 25) :
    vL n z k e K (f + 1) m i (mk z C (upr I (z + 25) st) J t u) = vL n z k e K f (m + 1) (i + 1) (mk z C (upr I (z + 25) (ur st m (I (z + 24) v))) J t u) := by
  unfold vL
  have hcode : mI (mk z C (upr I (z + 25) st) J t u) (z + (97 + 6 * k + 1 + 4)) i = nI (v * 64 + 41) := by rw [mI_mk, upr_ne hz, hc]
  rw [f_X5_value_L25]
  simp only [jn, bd, nn]
  rw [if_neg (show ¬ nI e ≤ nI i by rw [nI_le' (by omega) (by omega)]; omega), gT hk (by omega), gT hk (by omega), nT4 hk, ck_t (inb_nI (by omega) (by omega)), ck_t (inb_nI (by omega) (by omega)), cl_nI (show i < 1000000 by omega), hcode, and63 (by omega), iush6 (by omega), show (v * 64 + 41) % 64 = 41 by omega, show (v * 64 + 41) / 64 = v by omega, if_neg (show ¬ nI 41 = 38 by decide), if_pos (show nI 41 = 41 from rfl), if_neg (show ¬ (64 : Int32) ≤ nI m by rw [show (64 : Int32) = nI 64 from rfl, nI_le' (by omega) (by omega)]; omega), g23_1, if_neg (show ¬ nI 41 = 38 by decide), if_neg (show ¬ (12 : Int32) ≤ nI v by rw [show (12 : Int32) = nI 12 from rfl, nI_le' (by omega) (by omega)]; omega), g23_0, n24, ck_t (inb_nI hv (by omega)), n25, ck_t (inb_nI hm (by omega)), cl_nI (show m < 1000000 by omega), cl_nI (show v < 1000000 by omega), mI_mk, sI_mk, up2_upr, upr_ne (by omega), show nI m + (1 : Int32) = nI (m + 1) from nI_pl m 1, show nI i + (1 : Int32) = nI (i + 1) from nI_pl i 1]
theorem v_neg {e f m i : Nat} {K : Int32 → MS → Option (Int32 × MS)} {st : Nat → Int32} (hk : k < t) (hi : i < e) (he : e ≤ 300) (h1 : 1 ≤ m) (hm : m ≤ 64) (hc : I (z + (97 + 6 * k + 1 + 4)) i = nI 42) (hz : z + (97 + 6 * k + 1 + 4) ≠ z + 25) :
    vL n z k e K (f + 1) m i (mk z C (upr I (z + 25) st) J t u) = vL n z k e K f m (i + 1) (mk z C (upr I (z + 25) (ur st (m - 1) (-(st (m - 1))))) J t u) := by
  unfold vL
  have hcode : mI (mk z C (upr I (z + 25) st) J t u) (z + (97 + 6 * k + 1 + 4)) i = nI 42 := by rw [mI_mk, upr_ne hz, hc]
  rw [f_X5_value_L25]
  simp only [jn, bd, nn]
  rw [if_neg (show ¬ nI e ≤ nI i by rw [nI_le' (by omega) (by omega)]; omega), gT hk (by omega), gT hk (by omega), nT4 hk, ck_t (inb_nI (by omega) (by omega)), ck_t (inb_nI (by omega) (by omega)), cl_nI (show i < 1000000 by omega), hcode, show nI 42 &&& (63 : Int32) = 42 from by decide, if_neg (show ¬ (42 : Int32) = 38 by decide), if_neg (show ¬ (42 : Int32) = 41 by decide), if_pos (show (42 : Int32) = 42 from rfl), if_neg (show ¬ nI m < (1 : Int32) by rw [show (1 : Int32) = nI 1 from rfl, nI_lt' (by omega) (by omega)]; omega), g23_1, if_pos (show (42 : Int32) = 42 from rfl), g23_1, n25, nI_s1 h1, ck_t (inb_nI (by omega) (by omega)), ck_t (inb_nI (by omega) (by omega)), cl_nI (show m - 1 < 1000000 by omega), mI_mk, upr_at, sI_mk, up2_upr, show nI i + (1 : Int32) = nI (i + 1) from nI_pl i 1]
theorem v_not {e f m i : Nat} {K : Int32 → MS → Option (Int32 × MS)} {st : Nat → Int32} (hk : k < t) (hi : i < e) (he : e ≤ 300) (h1 : 1 ≤ m) (hm : m ≤ 64) (hc : I (z + (97 + 6 * k + 1 + 4)) i = nI 14) (hz : z + (97 + 6 * k + 1 + 4) ≠ z + 25) :
    vL n z k e K (f + 1) m i (mk z C (upr I (z + 25) st) J t u) = vL n z k e K f m (i + 1) (mk z C (upr I (z + 25) (ur st (m - 1) (1 - (st (m - 1))))) J t u) := by
  unfold vL
  have hcode : mI (mk z C (upr I (z + 25) st) J t u) (z + (97 + 6 * k + 1 + 4)) i = nI 14 := by rw [mI_mk, upr_ne hz, hc]
  rw [f_X5_value_L25]
  simp only [jn, bd, nn]
  rw [if_neg (show ¬ nI e ≤ nI i by rw [nI_le' (by omega) (by omega)]; omega), gT hk (by omega), gT hk (by omega), nT4 hk, ck_t (inb_nI (by omega) (by omega)), ck_t (inb_nI (by omega) (by omega)), cl_nI (show i < 1000000 by omega), hcode, show nI 14 &&& (63 : Int32) = 14 from by decide, if_neg (show ¬ (14 : Int32) = 38 by decide), if_neg (show ¬ (14 : Int32) = 41 by decide), if_neg (show ¬ (14 : Int32) = 42 by decide), if_pos (show (14 : Int32) = 14 from rfl), if_neg (show ¬ nI m < (1 : Int32) by rw [show (1 : Int32) = nI 1 from rfl, nI_lt' (by omega) (by omega)]; omega), g23_1, if_neg (show ¬ (14 : Int32) = 42 by decide), g23_1, n25, nI_s1 h1, ck_t (inb_nI (by omega) (by omega)), ck_t (inb_nI (by omega) (by omega)), cl_nI (show m - 1 < 1000000 by omega), mI_mk, upr_at, sI_mk, up2_upr, show nI i + (1 : Int32) = nI (i + 1) from nI_pl i 1]
theorem sg_c : ∀ o, o ≤ 22 → nI (sg o) &&& (63 : Int32) = nI (sg o) := by decide
theorem v_step {e f m i o : Nat} {K : Int32 → MS → Option (Int32 × MS)} {st : Nat → Int32} {x y : Int} (hk : k < t) (hi : i < e) (he : e ≤ 300) (h1 : 2 ≤ m) (hm : m ≤ 64) (ho : 3 ≤ o ∧ o ≤ 6) (hc : I (z + (97 + 6 * k + 1 + 4)) i = nI (sg o)) (hz : z + (97 + 6 * k + 1 + 4) ≠ z + 25) (hx : small x) (hy : small y) (sx : st (m - 2) = iI x) (sy : st (m - 1) = iI y) :
    vL n z k e K (f + 1) m i (mk z C (upr I (z + 25) st) J t u) = vL n z k e K f (m - 1) (i + 1) (mk z C (upr I (z + 25) (ur st (m - 2) (iI (twoA o x y)))) J t u) := by
  unfold vL
  have hcode : mI (mk z C (upr I (z + 25) st) J t u) (z + (97 + 6 * k + 1 + 4)) i = nI (sg o) := by rw [mI_mk, upr_ne hz, hc]
  have d : sg o = 28 ∨ sg o = 29 ∨ sg o = 30 ∨ sg o = 31 := by
    rcases (show o = 3 ∨ o = 4 ∨ o = 5 ∨ o = 6 by omega) with rfl | rfl | rfl | rfl <;> decide
  have hne : ∀ c, c < 64 → ¬ (sg o = c) → ¬ nI (sg o) = nI c := fun c hc h w => h ((nI_inj (by omega) (by omega)).mp w)
  obtain ⟨w, e1, e2, e3, e4⟩ := s_stepped (n := n) (S := mk z C (upr I (z + 25) st) J t u) o ho hx hy
  have hx' := hx
  have hy' := hy
  unfold small at hx' hy'
  have hst : f_X5_isStep n (nI (sg o)) (mk z C (upr I (z + 25) st) J t u) = some (1, mk z C (upr I (z + 25) st) J t u) := by
    unfold f_X5_isStep
    rw [if_neg (show ¬ nI (sg o) < (28 : Int32) by rw [show (28 : Int32) = nI 28 from rfl, nI_lt' (by omega) (by omega)]; omega), if_neg (show ¬ (31 : Int32) < nI (sg o) by rw [show (31 : Int32) = nI 31 from rfl, nI_lt' (by omega) (by omega)]; omega), zb_1]
  rw [f_X5_value_L25]
  simp only [jn, bd, nn]
  rw [if_neg (show ¬ nI e ≤ nI i by rw [nI_le' (by omega) (by omega)]; omega), gT hk (by omega), gT hk (by omega), nT4 hk, ck_t (inb_nI (by omega) (by omega)), ck_t (inb_nI (by omega) (by omega)), cl_nI (show i < 1000000 by omega), hcode, sg_c o (by omega), if_neg (show ¬ nI (sg o) = (38 : Int32) from hne 38 (by omega) (by omega)), if_neg (show ¬ nI (sg o) = (41 : Int32) from hne 41 (by omega) (by omega)), if_neg (show ¬ nI (sg o) = (42 : Int32) from hne 42 (by omega) (by omega)), if_neg (show ¬ nI (sg o) = (14 : Int32) from hne 14 (by omega) (by omega)), if_neg (show ¬ nI m < (2 : Int32) by rw [show (2 : Int32) = nI 2 from rfl, nI_lt' (by omega) (by omega)]; omega), g23_1, hst, cl_some, if_neg (by decide), g23_1, nI_m1 (by omega), nI_s1 (by omega), show m - 1 - 1 = m - 2 by omega, n25, ck_t (inb_nI (by omega) (by omega)), g23_1, n25, ck_t (inb_nI (by omega) (by omega)), cl_nI (show m - 2 < 1000000 by omega), cl_nI (show m - 1 < 1000000 by omega), mI_mk, mI_mk, upr_at, sx, sy, iI_64 (by omega) (by omega), iI_64 (by omega) (by omega), e1, cl_some, s_cut e3 e4, cl_some, n25, ck_t (inb_nI (by omega) (by omega)), e2, sI_mk, up2_upr, show nI i + (1 : Int32) = nI (i + 1) from nI_pl i 1]
theorem v_join {e f m i o : Nat} {K : Int32 → MS → Option (Int32 × MS)} {st : Nat → Int32} (hk : k < t) (hi : i < e) (he : e ≤ 300) (h1 : 2 ≤ m) (hm : m ≤ 64) (ho : o = 7 ∨ o = 8 ∨ (10 ≤ o ∧ o ≤ 15) ∨ o = 21 ∨ o = 22) (hc : I (z + (97 + 6 * k + 1 + 4)) i = nI (sg o)) (hz : z + (97 + 6 * k + 1 + 4) ≠ z + 25) :
    vL n z k e K (f + 1) m i (mk z C (upr I (z + 25) st) J t u) = vL n z k e K f (m - 1) (i + 1) (mk z C (upr I (z + 25) (ur st (m - 2) (joA o (st (m - 2)) (st (m - 1))))) J t u) := by
  unfold vL
  have hcode : mI (mk z C (upr I (z + 25) st) J t u) (z + (97 + 6 * k + 1 + 4)) i = nI (sg o) := by rw [mI_mk, upr_ne hz, hc]
  have d : sg o = 12 ∨ sg o = 13 ∨ sg o = 24 ∨ sg o = 36 ∨ sg o = 25 ∨ sg o = 37 ∨ sg o = 26 ∨ sg o = 27 ∨ sg o = 15 ∨ sg o = 16 := by
    rcases (show o = 7 ∨ o = 8 ∨ o = 10 ∨ o = 11 ∨ o = 12 ∨ o = 13 ∨ o = 14 ∨ o = 15 ∨ o = 21 ∨ o = 22 by omega) with rfl | rfl | rfl | rfl | rfl | rfl | rfl | rfl | rfl | rfl <;> decide
  have hne : ∀ c, c < 64 → ¬ (sg o = c) → ¬ nI (sg o) = nI c := fun c hc h w => h ((nI_inj (by omega) (by omega)).mp w)
  have hst : f_X5_isStep n (nI (sg o)) (mk z C (upr I (z + 25) st) J t u) = some (0, mk z C (upr I (z + 25) st) J t u) := by
    unfold f_X5_isStep
    by_cases hlt : sg o < 28
    · rw [if_pos (show nI (sg o) < (28 : Int32) by rw [show (28 : Int32) = nI 28 from rfl, nI_lt' (by omega) (by omega)]; omega), zb_0]
    · rw [if_neg (show ¬ nI (sg o) < (28 : Int32) by rw [show (28 : Int32) = nI 28 from rfl, nI_lt' (by omega) (by omega)]; omega), if_pos (show (31 : Int32) < nI (sg o) by rw [show (31 : Int32) = nI 31 from rfl, nI_lt' (by omega) (by omega)]; omega), zb_0]
  rw [f_X5_value_L25]
  simp only [jn, bd, nn]
  rw [if_neg (show ¬ nI e ≤ nI i by rw [nI_le' (by omega) (by omega)]; omega), gT hk (by omega), gT hk (by omega), nT4 hk, ck_t (inb_nI (by omega) (by omega)), ck_t (inb_nI (by omega) (by omega)), cl_nI (show i < 1000000 by omega), hcode, sg_c o (by omega), if_neg (show ¬ nI (sg o) = (38 : Int32) from hne 38 (by omega) (by omega)), if_neg (show ¬ nI (sg o) = (41 : Int32) from hne 41 (by omega) (by omega)), if_neg (show ¬ nI (sg o) = (42 : Int32) from hne 42 (by omega) (by omega)), if_neg (show ¬ nI (sg o) = (14 : Int32) from hne 14 (by omega) (by omega)), if_neg (show ¬ nI m < (2 : Int32) by rw [show (2 : Int32) = nI 2 from rfl, nI_lt' (by omega) (by omega)]; omega), g23_1, hst, cl_some, if_pos rfl, g23_1, nI_m1 (by omega), nI_s1 (by omega), show m - 1 - 1 = m - 2 by omega, n25, ck_t (inb_nI (by omega) (by omega)), g23_1, n25, ck_t (inb_nI (by omega) (by omega)), cl_nI (show m - 2 < 1000000 by omega), cl_nI (show m - 1 < 1000000 by omega), s_joined o ho, cl_some, n25, ck_t (inb_nI (by omega) (by omega)), mI_mk, mI_mk, upr_at, sI_mk, up2_upr, show nI i + (1 : Int32) = nI (i + 1) from nI_pl i 1]
theorem bb_not (b : Bool) : (1 : Int32) - (if b = true then 1 else 0) = if (!b) = true then 1 else 0 := by cases b <;> decide
theorem bb_and (a b : Bool) : (if a = true then (1 : Int32) else 0) &&& (if b = true then 1 else 0) = if (a && b) = true then 1 else 0 := by cases a <;> cases b <;> decide
theorem bb_or (a b : Bool) : (if a = true then (1 : Int32) else 0) ||| (if b = true then 1 else 0) = if (a || b) = true then 1 else 0 := by cases a <;> cases b <;> decide
theorem joA_num {o : Nat} (ho : o = 7 ∨ o = 8) {x y : Int} (hx : small x) (hy : small y) : joA o (iI x) (iI y) = iI (twoA o x y) := by
  unfold small at hx hy
  have tx := iI_t (x := x) (by omega) (by omega)
  have ty := iI_t (x := y) (by omega) (by omega)
  unfold joA twoA imin imax
  rcases ho with rfl | rfl
  · simp only [show ¬ (7 : Nat) = 3 by omega, show ¬ (7 : Nat) = 4 by omega, show ¬ (7 : Nat) = 5 by omega, show ¬ (7 : Nat) = 6 by omega, if_false, if_true, i32_lt, tx, ty]
    by_cases h : y < x
    · rw [if_pos h, if_neg (by omega)]
    · rw [if_neg h]
      by_cases h2 : x < y
      · rw [if_pos h2]
      · rw [if_neg h2, show x = y by omega]
  · simp only [show ¬ (8 : Nat) = 3 by omega, show ¬ (8 : Nat) = 4 by omega, show ¬ (8 : Nat) = 5 by omega, show ¬ (8 : Nat) = 6 by omega, show ¬ (8 : Nat) = 7 by omega, if_false, if_true, i32_lt, tx, ty]
    by_cases h : y < x
    · rw [if_pos h, if_neg (by omega)]
    · rw [if_neg h]
      by_cases h2 : x < y
      · rw [if_pos h2]
      · rw [if_neg h2, show x = y by omega]
theorem joA_ask {o : Nat} (ho : 10 ≤ o ∧ o ≤ 15) {x y : Int} (hx : small x) (hy : small y) : joA o (iI x) (iI y) = if askA o x y = true then 1 else 0 := by
  unfold small at hx hy
  have tx := iI_t (x := x) (by omega) (by omega)
  have ty := iI_t (x := y) (by omega) (by omega)
  unfold joA askA
  rcases (show o = 10 ∨ o = 11 ∨ o = 12 ∨ o = 13 ∨ o = 14 ∨ o = 15 by omega) with rfl | rfl | rfl | rfl | rfl | rfl
  · simp only [show ¬ (10 : Nat) = 7 by omega, show ¬ (10 : Nat) = 8 by omega, if_false, if_true, i32_le, tx, ty, decide_eq_true_eq]
    by_cases h : y ≤ x
    · rw [if_pos h, if_neg (by omega)]
    · rw [if_neg h, if_pos (by omega)]
  · simp only [show ¬ (11 : Nat) = 7 by omega, show ¬ (11 : Nat) = 8 by omega, show ¬ (11 : Nat) = 10 by omega, if_false, if_true, i32_lt, tx, ty, decide_eq_true_eq]
    by_cases h : y < x
    · rw [if_pos h, if_neg (by omega)]
    · rw [if_neg h, if_pos (by omega)]
  · simp only [show ¬ (12 : Nat) = 7 by omega, show ¬ (12 : Nat) = 8 by omega, show ¬ (12 : Nat) = 10 by omega, show ¬ (12 : Nat) = 11 by omega, if_false, if_true, i32_le, tx, ty, decide_eq_true_eq]
    by_cases h : x ≤ y
    · rw [if_pos h, if_neg (by omega)]
    · rw [if_neg h, if_pos (by omega)]
  · simp only [show ¬ (13 : Nat) = 7 by omega, show ¬ (13 : Nat) = 8 by omega, show ¬ (13 : Nat) = 10 by omega, show ¬ (13 : Nat) = 11 by omega, show ¬ (13 : Nat) = 12 by omega, if_false, if_true, i32_lt, tx, ty, decide_eq_true_eq]
    by_cases h : x < y
    · rw [if_pos h, if_neg (by omega)]
    · rw [if_neg h, if_pos (by omega)]
  · simp only [show ¬ (14 : Nat) = 7 by omega, show ¬ (14 : Nat) = 8 by omega, show ¬ (14 : Nat) = 10 by omega, show ¬ (14 : Nat) = 11 by omega, show ¬ (14 : Nat) = 12 by omega, show ¬ (14 : Nat) = 13 by omega, if_false, if_true, i32_eq, tx, ty, decide_eq_true_eq]
  · simp only [show ¬ (15 : Nat) = 7 by omega, show ¬ (15 : Nat) = 8 by omega, show ¬ (15 : Nat) = 10 by omega, show ¬ (15 : Nat) = 11 by omega, show ¬ (15 : Nat) = 12 by omega, show ¬ (15 : Nat) = 13 by omega, show ¬ (15 : Nat) = 14 by omega, if_false, if_true, i32_eq, tx, ty]
    by_cases h : x = y
    · simp [h]
    · simp [h]
end VA
