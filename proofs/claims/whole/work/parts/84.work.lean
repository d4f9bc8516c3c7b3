/-! THE REFERENCE'S WORK at a clause -/
theorem s_twoR {n : Nat} {S : MS} (o : Nat) (ho : 3 ≤ o ∧ o ≤ 8) {x y : Int} (hx : small x) (hy : small y) : f_X11_two n (nI o) (jI x) (jI y) S = some (jI (twoA o x y), S) := by
  have hm := mul_small hx hy
  have hd := tdiv_small (y := y) hx
  have hx' := hx
  have hy' := hy
  unfold small at hx' hy' hd
  have tx := jI_t (x := x) (by omega) (by omega)
  have ty := jI_t (x := y) (by omega) (by omega)
  unfold f_X11_two twoA
  simp only [jn]
  rcases (show o = 3 ∨ o = 4 ∨ o = 5 ∨ o = 6 ∨ o = 7 ∨ o = 8 by omega) with rfl | rfl | rfl | rfl | rfl | rfl
  · rw [if_pos (show nI 3 = 3 from rfl), jI_add (by omega) (by omega) (by omega) (by omega), s_clip (by omega) (by omega), cl_some]
    simp only [if_true]
  · rw [if_neg (show ¬ nI 4 = 3 by decide), if_pos (show nI 4 = 4 from rfl), jI_sub (by omega) (by omega) (by omega) (by omega), s_clip (by omega) (by omega), cl_some]
    simp only [show ¬ (4 : Nat) = 3 by omega, if_false, if_true]
  · rw [if_neg (show ¬ nI 5 = 3 by decide), if_neg (show ¬ nI 5 = 4 by decide), if_pos (show nI 5 = 5 from rfl), jI_mul hx hy, s_clip (by omega) (by omega), cl_some]
    simp only [show ¬ (5 : Nat) = 3 by omega, show ¬ (5 : Nat) = 4 by omega, if_false, if_true]
  · rw [if_neg (show ¬ nI 6 = 3 by decide), if_neg (show ¬ nI 6 = 4 by decide), if_neg (show ¬ nI 6 = 5 by decide), if_pos (show nI 6 = 6 from rfl)]
    by_cases h0 : y = 0
    · subst h0
      rw [if_pos (show lg_cmp (jI 0) 0 = 0 from (lg_0 _).mpr (by decide))]
      simp only [show ¬ (6 : Nat) = 3 by omega, show ¬ (6 : Nat) = 4 by omega, show ¬ (6 : Nat) = 5 by omega, if_false, if_true, show jI 0 = (0 : Int64) by decide]
    · have hj : ¬ jI y = 0 := fun w => by rw [w] at ty; exact h0 (ty.symm.trans rfl)
      rw [if_neg (fun w => hj ((lg_0 _).mp w)), dvl, if_neg hj, jI_div hx hy, s_clip (by omega) (by omega), cl_some]
      simp only [show ¬ (6 : Nat) = 3 by omega, show ¬ (6 : Nat) = 4 by omega, show ¬ (6 : Nat) = 5 by omega, if_false, if_true, h0]
  · rw [if_neg (show ¬ nI 7 = 3 by decide), if_neg (show ¬ nI 7 = 4 by decide), if_neg (show ¬ nI 7 = 5 by decide), if_neg (show ¬ nI 7 = 6 by decide), if_pos (show nI 7 = 7 from rfl)]
    simp only [show ¬ (7 : Nat) = 3 by omega, show ¬ (7 : Nat) = 4 by omega, show ¬ (7 : Nat) = 5 by omega, show ¬ (7 : Nat) = 6 by omega, if_false, if_true]
    by_cases h : x < y
    · rw [if_neg (by rw [cmp_ge, tx, ty]; omega), if_pos h]
    · rw [if_pos (by rw [cmp_ge, tx, ty]; omega), if_neg h]
  · rw [if_neg (show ¬ nI 8 = 3 by decide), if_neg (show ¬ nI 8 = 4 by decide), if_neg (show ¬ nI 8 = 5 by decide), if_neg (show ¬ nI 8 = 6 by decide), if_neg (show ¬ nI 8 = 7 by decide), if_pos (show nI 8 = 8 from rfl)]
    simp only [show ¬ (8 : Nat) = 3 by omega, show ¬ (8 : Nat) = 4 by omega, show ¬ (8 : Nat) = 5 by omega, show ¬ (8 : Nat) = 6 by omega, show ¬ (8 : Nat) = 7 by omega, if_false]
    by_cases h : y < x
    · rw [if_neg (by rw [cmp_le, tx, ty]; omega), if_pos h]
    · rw [if_pos (by rw [cmp_le, tx, ty]; omega), if_neg h]
theorem s_isAsked {n : Nat} {S : MS} (o : Nat) (ho : 10 ≤ o ∧ o ≤ 15) {x y : Int} (hx : small x) (hy : small y) : f_X11_isAsked n (nI o) (jI x) (jI y) S = some ((if askA o x y = true then 1 else 0), S) := by
  unfold small at hx hy
  have tx := jI_t (x := x) (by omega) (by omega)
  have ty := jI_t (x := y) (by omega) (by omega)
  have eqv : (lg_cmp (jI x) (jI y) = 0) ↔ x = y := by rw [lg_eq, j64_eq, tx, ty]
  unfold f_X11_isAsked askA
  simp only [zb_0, zb_1]
  rcases (show o = 10 ∨ o = 11 ∨ o = 12 ∨ o = 13 ∨ o = 14 ∨ o = 15 by omega) with rfl | rfl | rfl | rfl | rfl | rfl
  · rw [if_pos (show nI 10 = 10 from rfl)]
    simp only [if_true, decide_eq_true_eq]
    by_cases h : x < y
    · rw [if_neg (by rw [cmp_ge, tx, ty]; omega), if_pos h]
    · rw [if_pos (by rw [cmp_ge, tx, ty]; omega), if_neg h]
  · rw [if_neg (show ¬ nI 11 = 10 by decide), if_pos (show nI 11 = 11 from rfl)]
    simp only [show ¬ (11 : Nat) = 10 by omega, if_false, if_true, decide_eq_true_eq]
    by_cases h : x ≤ y
    · rw [if_neg (by rw [cmp_gt, tx, ty]; omega), if_pos h]
    · rw [if_pos (by rw [cmp_gt, tx, ty]; omega), if_neg h]
  · rw [if_neg (show ¬ nI 12 = 10 by decide), if_neg (show ¬ nI 12 = 11 by decide), if_pos (show nI 12 = 12 from rfl)]
    simp only [show ¬ (12 : Nat) = 10 by omega, show ¬ (12 : Nat) = 11 by omega, if_false, if_true, decide_eq_true_eq]
    by_cases h : y < x
    · rw [if_neg (by rw [cmp_le, tx, ty]; omega), if_pos h]
    · rw [if_pos (by rw [cmp_le, tx, ty]; omega), if_neg h]
  · rw [if_neg (show ¬ nI 13 = 10 by decide), if_neg (show ¬ nI 13 = 11 by decide), if_neg (show ¬ nI 13 = 12 by decide), if_pos (show nI 13 = 13 from rfl)]
    simp only [show ¬ (13 : Nat) = 10 by omega, show ¬ (13 : Nat) = 11 by omega, show ¬ (13 : Nat) = 12 by omega, if_false, if_true, decide_eq_true_eq]
    by_cases h : y ≤ x
    · rw [if_neg (by rw [cmp_lt, tx, ty]; omega), if_pos h]
    · rw [if_pos (by rw [cmp_lt, tx, ty]; omega), if_neg h]
  · rw [if_neg (show ¬ nI 14 = 10 by decide), if_neg (show ¬ nI 14 = 11 by decide), if_neg (show ¬ nI 14 = 12 by decide), if_neg (show ¬ nI 14 = 13 by decide), if_pos (show nI 14 = 14 from rfl)]
    simp only [show ¬ (14 : Nat) = 10 by omega, show ¬ (14 : Nat) = 11 by omega, show ¬ (14 : Nat) = 12 by omega, show ¬ (14 : Nat) = 13 by omega, if_false, if_true, decide_eq_true_eq]
    by_cases h : x = y
    · rw [if_pos (eqv.mpr h), if_pos h]
    · rw [if_neg (fun w => h (eqv.mp w)), if_neg h]
  · rw [if_neg (show ¬ nI 15 = 10 by decide), if_neg (show ¬ nI 15 = 11 by decide), if_neg (show ¬ nI 15 = 12 by decide), if_neg (show ¬ nI 15 = 13 by decide), if_neg (show ¬ nI 15 = 14 by decide)]
    simp only [show ¬ (15 : Nat) = 10 by omega, show ¬ (15 : Nat) = 11 by omega, show ¬ (15 : Nat) = 12 by omega, show ¬ (15 : Nat) = 13 by omega, show ¬ (15 : Nat) = 14 by omega, if_false]
    by_cases h : x = y
    · rw [if_pos (eqv.mpr h)]; simp [h]
    · rw [if_neg (fun w => h (eqv.mp w))]; simp [h]
/-- the reference's rows beside the abstract ones -/
def RRs (tb : Nat → Int32) (vj : Nat → Int64) (s : AS) : Prop := (∀ j, j < s.2.2.1 → tb j = if s.2.2.2 j = true then 1 else 0) ∧ ∀ j, j < s.1 → vj j = jI (s.2.1 j)
section WK
variable {n z C t : Nat} {I : Nat → Nat → Int32} {J : Nat → Nat → Int64} {u : Option Nat}
def wL (n z x4 x8 f a b i : Nat) (S : MS) : Option MS := f_X11_work_L47 n (z + 83) (nI x4) (nI x8) f (nI a) (nI b) (nI i) S
theorem zb_b {α : Type} (b : Bool) (t : Option α) : zb (if b = true then (1 : Int32) else 0) t = t := by
  cases b
  · exact zb_0 t
  · exact zb_1 t
theorem w_one {x4 x8 e f i : Nat} {tb : Nat → Int32} {vj : Nat → Int64} {nm : Nat → Int} {c : Nat × Nat} {s : AS} (hi : i < e) (he : e ≤ 300) (hx4 : x4 ≤ 2190) (hx8 : x8 ≤ 2185) (hend : I (z + 85) (x4 + 2) = nI e) (hok : okA c s.1 s.2.2.1) (hm : s.1 + s.2.2.1 ≤ 60) (hc : I (z + 85) (x8 + 2 * i) = nI c.1) (hc2 : I (z + 85) (x8 + 2 * i + 1) = nI c.2) (hn : c.1 = 1 → small (nm c.2) ∧ I (z + 88) c.2 = iI (nm c.2)) (hb : bdA s) (hs : RRs tb vj s) :
    ∃ tb' vj', wL n z x4 x8 (f + 1) s.1 s.2.2.1 i (mk z C (upr I (z + 90) tb) (upr J (z + 89) vj) t u) = wL n z x4 x8 f (stepA nm c s).1 (stepA nm c s).2.2.1 (i + 1) (mk z C (upr I (z + 90) tb') (upr J (z + 89) vj') t u) ∧ RRs tb' vj' (stepA nm c s) := by
  obtain ⟨a, V, b, B⟩ := s
  obtain ⟨o, v⟩ := c
  obtain ⟨s1, s2⟩ := hs
  have hb' : ∀ j, j < a → small (V j) := hb
  simp only at hok hm hc hc2 hn s1 s2
  have q1 : mI (mk z C (upr I (z + 90) tb) (upr J (z + 89) vj) t u) (z + 85) (x4 + 2) = nI e := by rw [mI_mk, upr_ne (by omega), hend]
  have q2 : mI (mk z C (upr I (z + 90) tb) (upr J (z + 89) vj) t u) (z + 85) (x8 + 2 * i) = nI o := by rw [mI_mk, upr_ne (by omega), hc]
  have q3 : mI (mk z C (upr I (z + 90) tb) (upr J (z + 89) vj) t u) (z + 85) (x8 + 2 * i + 1) = nI v := by rw [mI_mk, upr_ne (by omega), hc2]
  have e1 : nI x4 + (2 : Int32) = nI (x4 + 2) := nI_pl x4 2
  have e2 : nI x8 + (2 : Int32) * nI i = nI (x8 + 2 * i) := by rw [show (2 : Int32) * nI i = nI (2 * i) from nI_ml 2 i, nI_pl]
  have e3 : nI (x8 + 2 * i) + (1 : Int32) = nI (x8 + 2 * i + 1) := nI_pl _ 1
  have e4 : nI i + (1 : Int32) = nI (i + 1) := nI_pl i 1
  have vjm : ∀ j, mJ (mk z C (upr I (z + 90) tb) (upr J (z + 89) vj) t u) (z + 89) j = vj j := fun j => by rw [mJ_mk, upr_at]
  have tbm : ∀ j, mI (mk z C (upr I (z + 90) tb) (upr J (z + 89) vj) t u) (z + 90) j = tb j := fun j => by rw [mI_mk, upr_at]
  show ∃ tb' vj', wL n z x4 x8 (f + 1) a b i (mk z C (upr I (z + 90) tb) (upr J (z + 89) vj) t u) = wL n z x4 x8 f (stepA nm (o, v) (a, V, b, B)).1 (stepA nm (o, v) (a, V, b, B)).2.2.1 (i + 1) (mk z C (upr I (z + 90) tb') (upr J (z + 89) vj') t u) ∧ RRs tb' vj' (stepA nm (o, v) (a, V, b, B))
  unfold wL
  rw [f_X11_work_L47]
  simp only [jn, bd]
  rw [g83_5, n85, e1, ck_t (inb_nI (by omega) (by omega)), cl_nI (show x4 + 2 < 1000000 by omega), if_neg (show ¬ mI (mk z C (upr I (z + 90) tb) (upr J (z + 89) vj) t u) (z + 85) (x4 + 2) ≤ nI i by rw [q1, nI_le' (by omega) (by omega)]; omega), g83_5, n85, e2, ck_t (inb_nI (by omega) (by omega)), cl_nI (show x8 + 2 * i < 1000000 by omega), q2, g83_5, n85, e3, ck_t (inb_nI (by omega) (by omega)), cl_nI (show x8 + 2 * i + 1 < 1000000 by omega), q3]
  unfold okA at hok
  simp only at hok
  rcases hok with ⟨h0, hv, h1⟩ | ⟨h0, hv, h1⟩ | ⟨h0, h1⟩ | ⟨⟨h0, h0'⟩, h1⟩ | ⟨⟨h0, h0'⟩, h1⟩ | ⟨h0, h1, h2⟩ | ⟨h0, h1, h2⟩
  · subst h0
    rw [if_neg (show ¬ (1 : Int32) < nI 0 by decide), g83_26, if_pos (show nI 0 = 0 from rfl), n89, ck_t (inb_nI (by omega) (by omega)), cl_nI (show a < 1000000 by omega), sJ_mk, up2_upr, nI_iI (show v < 1000000 by omega), iI_64 (by omega) (by omega), show nI a + (1 : Int32) = nI (a + 1) from nI_pl a 1, e4]
    refine ⟨tb, ur vj a (jI (v : Int)), rfl, s1, ?_⟩
    intro j hj
    have hj : j < a + 1 := hj
    show ur vj a (jI (v : Int)) j = jI (ur V a (v : Int) j)
    by_cases hja : j = a
    · subst hja; rw [ur_at, ur_at]
    · rw [ur_ne _ _ hja, ur_ne _ _ hja]; exact s2 j (by omega)
  · subst h0
    have hh := hn rfl
    have hs' := hh.1
    unfold small at hs'
    have nmv : mI (mk z C (upr I (z + 90) tb) (upr J (z + 89) vj) t u) (z + 88) v = iI (nm v) := by rw [mI_mk, upr_ne (by omega), hh.2]
    rw [if_neg (show ¬ (1 : Int32) < nI 1 by decide), g83_26, if_neg (show ¬ nI 1 = 0 by decide), g83_25, n88, ck_t (inb_nI hv (by omega)), cl_nI (show v < 1000000 by omega), nmv, n89, ck_t (inb_nI (by omega) (by omega)), cl_nI (show a < 1000000 by omega), sJ_mk, up2_upr, iI_64 (by omega) (by omega), show nI a + (1 : Int32) = nI (a + 1) from nI_pl a 1, e4]
    refine ⟨tb, ur vj a (jI (nm v)), rfl, s1, ?_⟩
    intro j hj
    have hj : j < a + 1 := hj
    show ur vj a (jI (nm v)) j = jI (ur V a (nm v) j)
    by_cases hja : j = a
    · subst hja; rw [ur_at, ur_at]
    · rw [ur_ne _ _ hja, ur_ne _ _ hja]; exact s2 j (by omega)
  · subst h0
    have hsm := hb' (a - 1) (by omega)
    unfold small at hsm
    rw [if_pos (show (1 : Int32) < nI 2 by decide), if_pos (show nI 2 = 2 from rfl), g83_26, g83_26, n89, nI_s1 h1, ck_t (inb_nI (by omega) (by omega)), ck_t (inb_nI (by omega) (by omega)), cl_nI (show a - 1 < 1000000 by omega), vjm, s2 (a - 1) (by omega), jI_neg (by omega) (by omega), sJ_mk, up2_upr, e4]
    refine ⟨tb, ur vj (a - 1) (jI (-(V (a - 1)))), rfl, s1, ?_⟩
    intro j hj
    have hj : j < a := hj
    show ur vj (a - 1) (jI (-(V (a - 1)))) j = jI (ur V (a - 1) (-(V (a - 1))) j)
    by_cases hja : j = a - 1
    · subst hja; rw [ur_at, ur_at]
    · rw [ur_ne _ _ hja, ur_ne _ _ hja]; exact s2 j hj
  · have e : stepA nm (o, v) (a, V, b, B) = (a - 1, ur V (a - 2) (twoA o (V (a - 2)) (V (a - 1))), b, B) := by unfold stepA; simp [show ¬ o = 0 by omega, show ¬ o = 1 by omega, show ¬ o = 2 by omega, show o < 10 by omega]
    rw [e]
    rw [if_pos (show (1 : Int32) < nI o by rw [show (1 : Int32) = nI 1 from rfl, nI_lt' (by omega) (by omega)]; omega), if_neg (show ¬ nI o = 2 by rw [show (2 : Int32) = nI 2 from rfl, nI_inj (by omega) (by omega)]; omega), if_neg (show ¬ (10 : Int32) ≤ nI o by rw [show (10 : Int32) = nI 10 from rfl, nI_le' (by omega) (by omega)]; omega), g83_26, g83_26, nI_m1 (by omega), nI_s1 (by omega), show a - 1 - 1 = a - 2 by omega, n89, ck_t (inb_nI (by omega) (by omega)), g83_26, n89, ck_t (inb_nI (by omega) (by omega)), cl_nI (show a - 2 < 1000000 by omega), cl_nI (show a - 1 < 1000000 by omega), vjm, vjm, s2 (a - 2) (by omega), s2 (a - 1) (by omega), s_twoR o ⟨h0, h0'⟩ (hb' _ (by omega)) (hb' _ (by omega)), cl_some, n89, ck_t (inb_nI (by omega) (by omega)), sJ_mk, up2_upr, e4]
    refine ⟨tb, ur vj (a - 2) (jI (twoA o (V (a - 2)) (V (a - 1)))), rfl, s1, ?_⟩
    intro j hj
    have hj : j < a - 1 := hj
    show ur vj (a - 2) _ j = jI (ur V (a - 2) _ j)
    by_cases hja : j = a - 2
    · subst hja; rw [ur_at, ur_at]
    · rw [ur_ne _ _ hja, ur_ne _ _ hja]; exact s2 j (by omega)
  · subst h1
    have e : stepA nm (o, v) (2, V, b, B) = (0, V, b + 1, ur B b (askA o (V 0) (V 1))) := by unfold stepA; simp [show ¬ o = 0 by omega, show ¬ o = 1 by omega, show ¬ o = 2 by omega, show ¬ o < 10 by omega, show o < 20 by omega]
    rw [e]
    rw [if_pos (show (1 : Int32) < nI o by rw [show (1 : Int32) = nI 1 from rfl, nI_lt' (by omega) (by omega)]; omega), if_neg (show ¬ nI o = 2 by rw [show (2 : Int32) = nI 2 from rfl, nI_inj (by omega) (by omega)]; omega), if_pos (show (10 : Int32) ≤ nI o by rw [show (10 : Int32) = nI 10 from rfl, nI_le' (by omega) (by omega)]; omega), if_neg (show ¬ (20 : Int32) ≤ nI o by rw [show (20 : Int32) = nI 20 from rfl, nI_le' (by omega) (by omega)]; omega), g83_27, g83_26, show nI 2 + (-2 : Int32) = nI 0 from by decide, n89, ck_t (inb_nI (by omega) (by omega)), g83_26, n89, show nI 0 + (1 : Int32) = nI 1 from by decide, ck_t (inb_nI (by omega) (by omega)), show (nI 0).toNatClampNeg = 0 from rfl, show (nI 1).toNatClampNeg = 1 from rfl, vjm, vjm, s2 0 (by omega), s2 1 (by omega), s_isAsked o ⟨h0, h0'⟩ (hb' _ (by omega)) (hb' _ (by omega)), cl_some, n90, ck_t (inb_nI (by omega) (by omega)), zb_b, cl_nI (show b < 1000000 by omega), sI_mk, up2_upr, show nI b + (1 : Int32) = nI (b + 1) from nI_pl b 1, e4]
    refine ⟨ur tb b (if askA o (V 0) (V 1) = true then 1 else 0), vj, rfl, ?_, ?_⟩
    · intro j hj
      have hj : j < b + 1 := hj
      show ur tb b _ j = if ur B b (askA o (V 0) (V 1)) j = true then 1 else 0
      by_cases hjb : j = b
      · subst hjb; rw [ur_at, ur_at]
      · rw [ur_ne _ _ hjb, ur_ne _ _ hjb]; exact s1 j (by omega)
    · intro j hj
      have : j < 0 := hj
      omega
  · subst h0
    subst h1
    have hB : tb (b - 1) = (if B (b - 1) = true then (1 : Int32) else 0) := s1 (b - 1) (by omega)
    have fin : RRs (ur tb (b - 1) (if (!B (b - 1)) = true then 1 else 0)) vj (stepA nm (20, v) (0, V, b, B)) := by
      refine ⟨?_, ?_⟩
      · intro j hj
        have hj : j < b := hj
        show ur tb (b - 1) _ j = if ur B (b - 1) (!B (b - 1)) j = true then 1 else 0
        by_cases hjb : j = b - 1
        · subst hjb; rw [ur_at, ur_at]
        · rw [ur_ne _ _ hjb, ur_ne _ _ hjb]; exact s1 j hj
      · intro j hj
        have : j < 0 := hj
        omega
    rw [if_pos (show (1 : Int32) < nI 20 by decide), if_neg (show ¬ nI 20 = 2 by decide), if_pos (show (10 : Int32) ≤ nI 20 by decide), if_pos (show (20 : Int32) ≤ nI 20 by decide), if_pos (show nI 20 = 20 from rfl), g83_27, g83_27, n90, nI_s1 h2, ck_t (inb_nI (by omega) (by omega)), ck_t (inb_nI (by omega) (by omega)), ck_t (inb_nI (by omega) (by omega)), cl_nI (show b - 1 < 1000000 by omega), zb_0, zb_1, sI_mk, sI_mk, up2_upr, up2_upr, e4]
    refine ⟨_, vj, ?_, fin⟩
    cases hBb : B (b - 1) with
    | true =>
      rw [hBb] at hB
      rw [if_neg (show ¬ mI (mk z C (upr I (z + 90) tb) (upr J (z + 89) vj) t u) (z + 90) (b - 1) = 0 by rw [tbm, hB]; decide)]
      rfl
    | false =>
      rw [hBb] at hB
      rw [if_pos (show mI (mk z C (upr I (z + 90) tb) (upr J (z + 89) vj) t u) (z + 90) (b - 1) = 0 by rw [tbm, hB]; rfl)]
      rfl
  · subst h1
    have hB2 : tb (b - 2) = (if B (b - 2) = true then (1 : Int32) else 0) := s1 (b - 2) (by omega)
    have hB1 : tb (b - 1) = (if B (b - 1) = true then (1 : Int32) else 0) := s1 (b - 1) (by omega)
    have e : stepA nm (o, v) (0, V, b, B) = (0, V, b - 1, ur B (b - 2) (if o = 21 then B (b - 2) && B (b - 1) else B (b - 2) || B (b - 1))) := by
      unfold stepA
      simp [show ¬ o = 0 by omega, show ¬ o = 1 by omega, show ¬ o = 2 by omega, show ¬ o < 10 by omega, show ¬ o < 20 by omega, show ¬ o = 20 by omega]
    rw [e]
    have fin : RRs (ur tb (b - 2) (if (if o = 21 then B (b - 2) && B (b - 1) else B (b - 2) || B (b - 1)) = true then 1 else 0)) vj (0, V, b - 1, ur B (b - 2) (if o = 21 then B (b - 2) && B (b - 1) else B (b - 2) || B (b - 1))) := by
      refine ⟨?_, ?_⟩
      · intro j hj
        have hj : j < b - 1 := hj
        show ur tb (b - 2) _ j = if ur B (b - 2) _ j = true then 1 else 0
        by_cases hjb : j = b - 2
        · subst hjb; rw [ur_at, ur_at]
        · rw [ur_ne _ _ hjb, ur_ne _ _ hjb]; exact s1 j (by omega)
      · intro j hj
        have : j < 0 := hj
        omega
    have t2 : ∀ r : Int32, (mI (mk z C (upr I (z + 90) tb) (upr J (z + 89) vj) t u) (z + 90) (b - 2) = 0) ↔ B (b - 2) = false := fun _ => by
      rw [tbm, hB2]; cases B (b - 2) <;> decide
    have t1 : ∀ r : Int32, (mI (mk z C (upr I (z + 90) tb) (upr J (z + 89) vj) t u) (z + 90) (b - 1) = 0) ↔ B (b - 1) = false := fun _ => by
      rw [tbm, hB1]; cases B (b - 1) <;> decide
    refine ⟨_, vj, ?_, fin⟩
    rw [if_pos (show (1 : Int32) < nI o by rw [show (1 : Int32) = nI 1 from rfl, nI_lt' (by omega) (by omega)]; omega), if_neg (show ¬ nI o = 2 by rw [show (2 : Int32) = nI 2 from rfl, nI_inj (by omega) (by omega)]; omega), if_pos (show (10 : Int32) ≤ nI o by rw [show (10 : Int32) = nI 10 from rfl, nI_le' (by omega) (by omega)]; omega), if_pos (show (20 : Int32) ≤ nI o by rw [show (20 : Int32) = nI 20 from rfl, nI_le' (by omega) (by omega)]; omega), if_neg (show ¬ nI o = 20 by rw [show (20 : Int32) = nI 20 from rfl, nI_inj (by omega) (by omega)]; omega), nI_m1 (by omega), nI_s1 (by omega), show b - 1 - 1 = b - 2 by omega]
    simp only [g83_27, n90, ck_t (inb_nI (show b - 2 < 330 by omega) (show 330 < 1000000 by omega)), ck_t (inb_nI (show b - 1 < 330 by omega) (show 330 < 1000000 by omega)), cl_nI (show b - 2 < 1000000 by omega), cl_nI (show b - 1 < 1000000 by omega), zb_0, zb_1, sI_mk, up2_upr, e4]
    rcases h0 with rfl | rfl
    · rw [if_pos (show nI 21 = 21 from rfl)]
      cases c2 : B (b - 2) with
      | false =>
        rw [if_pos ((t2 0).mpr c2)]; rfl
      | true =>
        rw [if_neg (fun w => by rw [(t2 0).mp w] at c2; cases c2)]
        cases c1 : B (b - 1) with
        | false => rw [if_pos ((t1 0).mpr c1)]; rfl
        | true => rw [if_neg (fun w => by rw [(t1 0).mp w] at c1; cases c1)]; rfl
    · rw [if_neg (show ¬ nI 22 = 21 by decide)]
      cases c2 : B (b - 2) with
      | true =>
        rw [if_neg (fun w => by rw [(t2 0).mp w] at c2; cases c2)]; rfl
      | false =>
        rw [if_pos ((t2 0).mpr c2)]
        cases c1 : B (b - 1) with
        | false => rw [if_pos ((t1 0).mpr c1)]; rfl
        | true => rw [if_neg (fun w => by rw [(t1 0).mp w] at c1; cases c1)]; rfl
end WK
