/-! COPIES: a plain, what is told, a row of the reference -/
theorem upr_ne {α : Type} {f : Nat → Nat → α} {a b : Nat} {g : Nat → α} (h : b ≠ a) : upr f a g b = f b := by
  funext j; simp [upr, h]
theorem upr_at {α : Type} (f : Nat → Nat → α) (a : Nat) (g : Nat → α) : upr f a g a = g := by
  funext j; simp [upr]
theorem cpy0 {α : Type} {f g : Nat → α} {n j : Nat} (h : j < n) : va_cpy f g 0 0 n j = f j := by
  simp [va_cpy, h]
theorem isP_far {o o' : Nat} (h : isP o) (h' : isP o') (hne : o ≠ o') : o + 7 ≤ o' ∨ o' + 7 ≤ o := by
  unfold isP at h h'
  omega
theorem imin_s (x : Int32) : imin x x = x := by simp [imin]
theorem cpk_c {C : Nat} (h : C ≤ 48) : cpk 0 0 (Int32.ofNat C) C C = true := by
  have h1 : (Int32.ofNat C).toNatClampNeg = C := cl_nI (k := C) (by omega)
  have h2 : ¬ Int32.ofNat C < 0 := nI_pos (n := C) (by omega)
  simp only [cpk, h1, show (0 : Int32).toNatClampNeg = 0 from rfl, Nat.zero_add, Nat.le_refl, decide_true, Bool.and_true, show decide ((0 : Int32) < 0) = false from by decide, Bool.not_false, decide_eq_false h2]
section CP
variable {n z C t : Nat} {I : Nat → Nat → Int32} {J : Nat → Nat → Int64} {u : Option Nat}
theorem mIq_mk (a : Nat) : mI (mk z C I J t u) a = I a := rfl
/-- a plain copied from o' to o -/
theorem s_copyP (hC : C ≤ 48) {o o' : Nat} (ho : isP o) (ho' : isP o') (hne : o ≠ o') : ∃ I' J', f_X3_copyFrom n (z + o) (z + o') (mk z C I J t u) = some (mk z C I' J' t u) ∧
    (∀ q, q < z + o ∨ z + o + 7 ≤ q → I' q = I q) ∧ (∀ q, q ≠ z + o → J' q = J q) ∧ I' (z + o) 7 = I (z + o') 7 ∧ I' (z + o) 8 = I (z + o') 8 ∧ (∀ j, j = 9 ∨ j = 10 ∨ j = 11 → J' (z + o) j = J (z + o') j) ∧
    (∀ j, j < 24 → I' (z + (o + 1)) j = I (z + (o' + 1)) j) ∧ (∀ j, j < 24 → I' (z + (o + 2)) j = I (z + (o' + 2)) j) ∧ (∀ j, j < 24 → I' (z + (o + 3)) j = I (z + (o' + 3)) j) ∧ (∀ j, j < 6 → I' (z + (o + 4)) j = I (z + (o' + 4)) j) ∧ (∀ j, j < 6 → I' (z + (o + 5)) j = I (z + (o' + 5)) j) ∧ (∀ j, j < C → I' (z + (o + 6)) j = I (z + (o' + 6)) j) := by
  have hf := isP_far ho ho' hne
  unfold f_X3_copyFrom
  simp only [bd, gP_1 ho, gP_2 ho, gP_3 ho, gP_4 ho, gP_5 ho, gP_6 ho, gP_1 ho', gP_2 ho', gP_3 ho', gP_4 ho', gP_5 ho', gP_6 ho', nP_1 ho, nP_2 ho, nP_3 ho, nP_4 ho, nP_5 ho, nP_6 ho, nP_1 ho', nP_2 ho', nP_3 ho', nP_4 ho', nP_5 ho', nP_6 ho', rI_mk, sI_mk, sJ_mk, mIq_mk, mJ_mk, mI_mk, imin_s, ck_t (cpk_c hC), ck_t (show cpk 0 0 24 24 24 = true by decide), ck_t (show cpk 0 0 6 6 6 = true by decide), show (0 : Int32).toNatClampNeg = 0 from rfl, show (24 : Int32).toNatClampNeg = 24 from rfl, show (6 : Int32).toNatClampNeg = 6 from rfl, show (Int32.ofNat C).toNatClampNeg = C from cl_nI (k := C) (by omega)]
  refine ⟨_, _, rfl, ?_, ?_, ?_, ?_, ?_, ?_, ?_, ?_, ?_, ?_, ?_⟩
  · intro q hq
    rw [up2_ne (by omega), up2_ne (by omega), upr_ne (by omega), upr_ne (by omega), upr_ne (by omega), upr_ne (by omega), upr_ne (by omega), upr_ne (by omega)]
  · intro q hq
    rw [up2_ne hq, up2_ne hq, up2_ne hq]
  · rw [up2_at, if_neg (by omega), up2_at, if_pos rfl, upr_ne (by omega), upr_ne (by omega), upr_ne (by omega), upr_ne (by omega), upr_ne (by omega), upr_ne (by omega)]
  · rw [up2_at, if_pos rfl, up2_ne (by omega), upr_ne (by omega), upr_ne (by omega), upr_ne (by omega), upr_ne (by omega), upr_ne (by omega), upr_ne (by omega)]
  · intro j hj
    rcases hj with rfl | rfl | rfl
    · rw [up2_at, if_neg (by omega), up2_at, if_neg (by omega), up2_at, if_pos rfl]
    · rw [up2_at, if_neg (by omega), up2_at, if_pos rfl, up2_ne (by omega)]
    · rw [up2_at, if_pos rfl, up2_ne (by omega), up2_ne (by omega)]
  · intro j hj
    rw [up2_ne (by omega), up2_ne (by omega), upr_ne (by omega), upr_ne (by omega), upr_ne (by omega), upr_ne (by omega), upr_ne (by omega), upr_at, cpy0 hj]
  · intro j hj
    rw [up2_ne (by omega), up2_ne (by omega), upr_ne (by omega), upr_ne (by omega), upr_ne (by omega), upr_ne (by omega), upr_at, cpy0 hj, upr_ne (by omega)]
  · intro j hj
    rw [up2_ne (by omega), up2_ne (by omega), upr_ne (by omega), upr_ne (by omega), upr_ne (by omega), upr_at, cpy0 hj, upr_ne (by omega), upr_ne (by omega)]
  · intro j hj
    rw [up2_ne (by omega), up2_ne (by omega), upr_ne (by omega), upr_ne (by omega), upr_at, cpy0 hj, upr_ne (by omega), upr_ne (by omega), upr_ne (by omega)]
  · intro j hj
    rw [up2_ne (by omega), up2_ne (by omega), upr_ne (by omega), upr_at, cpy0 hj, upr_ne (by omega), upr_ne (by omega), upr_ne (by omega), upr_ne (by omega)]
  · intro j hj
    rw [up2_ne (by omega), up2_ne (by omega), upr_at, cpy0 hj, upr_ne (by omega), upr_ne (by omega), upr_ne (by omega), upr_ne (by omega), upr_ne (by omega)]
/-- a row of the reference, with i places copied from row f to row g -/
def cpR (a : Nat → Int32) (f g i : Nat) : Nat → Int32 := fun j => if 340 * g ≤ j ∧ j < 340 * g + i then a (340 * f + (j - 340 * g)) else a j
theorem copy_L {f g : Nat} (hf : f ≤ 7) (hg : g ≤ 7) (hfg : f ≠ g) : ∀ (d i k : Nat), i + d = 340 → d < k → f_X11_copy_L2 n (z + 83) (nI f) (nI g) k (nI i) (mk z C (upr I (z + 84) (cpR (I (z + 84)) f g i)) J t u) = some (mk z C (upr I (z + 84) (cpR (I (z + 84)) f g 340)) J t u) := by
  intro d
  induction d with
  | zero =>
    intro i k hi hk
    obtain ⟨k, rfl⟩ : ∃ m, k = m + 1 := ⟨k - 1, by omega⟩
    obtain rfl : i = 340 := by omega
    rw [f_X11_copy_L2]
    simp only [jn]
    rw [if_pos (by decide)]
  | succ d ih =>
    intro i k hi hk
    obtain ⟨k, rfl⟩ : ∃ m, k = m + 1 := ⟨k - 1, by omega⟩
    have x1 : ∀ w, w ≤ 7 → (340 : Int32) * nI w + nI i = nI (340 * w + i) := fun w _ => by
      rw [show (340 : Int32) * nI w = nI (340 * w) from (Int32.ofNat_mul 340 w).symm, nI_pl]
    have x2 : nI i + (1 : Int32) = nI (i + 1) := nI_pl i 1
    rw [f_X11_copy_L2]
    simp only [jn, bd]
    rw [if_neg (show ¬ (340 : Int32) ≤ nI i by rw [show (340 : Int32) = nI 340 from rfl, nI_le' (by omega) (by omega)]; omega), g83_0, g83_0, n84, x1 f hf, x1 g hg, ck_t (inb_nI (by omega) (by omega)), ck_t (inb_nI (by omega) (by omega)), cl_nI (by omega), cl_nI (by omega), mI_mk, sI_mk, x2, upr_at]
    have h9 : up2 (upr I (z + 84) (cpR (I (z + 84)) f g i)) (z + 84) (340 * g + i) (cpR (I (z + 84)) f g i (340 * f + i)) = upr I (z + 84) (cpR (I (z + 84)) f g (i + 1)) := by
      funext b j
      by_cases hb : b = z + 84
      · subst hb
        rw [up2_at, upr_at, upr_at]
        unfold cpR
        have hx : ¬ (340 * g ≤ 340 * f + i ∧ 340 * f + i < 340 * g + i) := by
          rcases Nat.lt_or_gt_of_ne hfg with w | w <;> omega
        rw [if_neg hx]
        by_cases hj : j = 340 * g + i
        · subst hj
          rw [if_pos rfl, if_pos ⟨by omega, by omega⟩]
          congr 1; omega
        · rw [if_neg hj]
          by_cases hr : 340 * g ≤ j ∧ j < 340 * g + i
          · rw [if_pos hr, if_pos ⟨hr.1, by omega⟩]
          · rw [if_neg hr, if_neg (by omega)]
      · rw [up2_ne hb, upr_ne hb, upr_ne hb]
    rw [h9]
    exact ih (i + 1) k (by omega) (by omega)
theorem s_copyR (hn : 100000 ≤ n) {f g : Nat} (hf : f ≤ 7) (hg : g ≤ 7) (hfg : f ≠ g) : f_X11_copy n (z + 83) (nI f) (nI g) (mk z C I J t u) = some (mk z C (upr I (z + 84) (cpR (I (z + 84)) f g 340)) J t u) := by
  have h0 : upr I (z + 84) (cpR (I (z + 84)) f g 0) = I := by
    funext b j
    by_cases hb : b = z + 84
    · subst hb
      rw [upr_at]
      unfold cpR
      rw [if_neg (by omega)]
    · rw [upr_ne hb]
  have := copy_L (n := n) (z := z) (C := C) (I := I) (J := J) (t := t) (u := u) hf hg hfg 340 0 n rfl (by omega)
  rw [h0] at this
  exact this
theorem cpR_in {a : Nat → Int32} {f g j : Nat} (h : j < 340) : cpR a f g 340 (340 * g + j) = a (340 * f + j) := by
  unfold cpR
  rw [if_pos ⟨by omega, by omega⟩]
  congr 1; omega
theorem cpR_out {a : Nat → Int32} {f g w j : Nat} (h : j < 340) (hw : w ≠ g) : cpR a f g 340 (340 * w + j) = a (340 * w + j) := by
  unfold cpR
  rw [if_neg]
  rcases Nat.lt_or_gt_of_ne hw with q | q <;> omega
theorem pa_cp {a : Nat → Int32} {f g : Nat} : pa (cpR a f g 340) (340 * g) = pa a (340 * f) := by
  funext j
  unfold pa
  by_cases hj : plj j = true
  · rw [if_pos hj, if_pos hj]
    refine cpR_in ?_
    simp only [plj, Bool.or_eq_true, Bool.and_eq_true, decide_eq_true_eq] at hj; omega
  · rw [if_neg hj, if_neg hj]
theorem pa_cpo {a : Nat → Int32} {f g w : Nat} (h : w ≠ g) : pa (cpR a f g 340) (340 * w) = pa a (340 * w) := by
  funext j
  unfold pa
  by_cases hj : plj j = true
  · rw [if_pos hj, if_pos hj]
    refine cpR_out ?_ h
    simp only [plj, Bool.or_eq_true, Bool.and_eq_true, decide_eq_true_eq] at hj; omega
  · rw [if_neg hj, if_neg hj]
/-- the relation of plains sees no more than the places that are used -/
theorem PlainR.congr {M Q : Nat} {ob ob' : Nat → Int32} {oj oj' : Nat → Int64} {ce we li sk fi cr ce' we' li' sk' fi' cr' p : Nat → Int32} (h : PlainR C M Q ob oj ce we li sk fi cr p) (h7 : ob' 7 = ob 7) (h8 : ob' 8 = ob 8) (h9 : oj' 9 = oj 9) (h10 : oj' 10 = oj 10) (h11 : oj' 11 = oj 11) (g1 : ∀ j, j < 24 → ce' j = ce j) (g2 : ∀ j, j < 24 → we' j = we j) (g3 : ∀ j, j < 24 → li' j = li j) (g4 : ∀ j, j < 6 → sk' j = sk j) (g5 : ∀ j, j < 6 → fi' j = fi j) (g6 : ∀ j, j < C → cr' j = cr j) : PlainR C M Q ob' oj' ce' we' li' sk' fi' cr' p := by
  obtain ⟨k, hh, q1, q2, q3, q4, q5, q6, q7, q8, q9, q10, q11, q12, q13, q14, q15, q16, q17⟩ := h
  refine ⟨k, hh, q1, q2, h7.trans q3, q4, h8.trans q5, q6, ?_, ?_, ?_, ?_, ?_, by rw [h9]; exact q12, by rw [h9]; exact q13, by rw [h10]; exact q14, by rw [h10]; exact q15, ?_, by rw [h11]; exact q17⟩
  · intro i hi
    obtain ⟨c1, v, y, r1, r2, r3, r4, r5, r6, r7, r8, r9, r10, r11⟩ := q7 i hi
    exact ⟨c1, v, y, r1, r2, r3, r4, (g1 i (by omega)).trans r5, r6, (g2 i (by omega)).trans r7, r8, (g3 i (by omega)).trans r9, r10, r11⟩
  · intro d hd
    exact (q8 d hd).imp id (fun ⟨i, r1, r2, r3⟩ => ⟨i, r1, r2, (g1 i (by omega)).trans r3⟩)
  · intro f hf
    rw [g4 f hf]; exact q9 f hf
  · intro f hf
    rw [g5 f hf]; exact q10 f hf
  · intro d hd
    rw [g6 d hd]; exact q11 d hd
  · intro d hd
    rw [h11, q16 d hd]
    exact ⟨fun w f hf => by rw [g4 f hf]; exact w f hf, fun w f hf => by rw [← g4 f hf]; exact w f hf⟩
end CP
