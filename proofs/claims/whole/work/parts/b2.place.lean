/-! A CLAUSE, abstract; the class reads a place -/
abbrev Cl4 : Type := Nat × Nat × Nat × Nat
abbrev PrC : Type := (Nat × Nat) ⊕ (Nat × Cl4 × Cd)
def pNum (tk : Nat → Nat × Nat) (lo hi : Nat) (x : PrR) : PrR := pB x (fun i c => if (tk i).1 = 38 then (if lo ≤ (tk i).2 ∧ (tk i).2 ≤ hi then Sum.inr (i + 1, c) else Sum.inl (2, i)) else Sum.inl (1, i))
def pExp (tk : Nat → Nat × Nat) (w : Nat) (x : PrR) : PrR := pB x (fun i c => if (tk i).1 = w then Sum.inr (i + 1, c) else Sum.inl (1, i))
def loS (s : Nat) : Nat := if s = 4 then 1 else 0
def hiS (s : Nat) : Nat := if s = 4 then 99 else 5
def pPl (tk : Nat → Nat × Nat) (s : Nat) (x : PrR) : PrR := pNum tk 0 5 (pExp tk 34 (pNum tk 0 7 (pExp tk 17 (pNum tk (loS s) (hiS s) x))))
noncomputable def pBody (tk : Nat → Nat × Nat) (s : Nat) (i : Nat) (c : Cd) : PrR := pExp tk 35 (if s < 4 then pLaw tk s i c else pPl tk s (Sum.inr (i, c)))
/-- what a clause is, once it is read -/
def clOf (tk : Nat → Nat × Nat) (s i : Nat) (c c' : Cd) : Cl4 := if s < 4 then (s, c.length, c'.length, 0) else (s, (tk i).2, (tk (i + 2)).2, (tk (i + 4)).2)
noncomputable def pCl (tk : Nat → Nat × Nat) (K : List Cl4) (i : Nat) (c : Cd) : PrC :=
  if ¬ (18 ≤ (tk i).1 ∧ (tk i).1 ≤ 23) then Sum.inl (1, i)
  else if (tk i).1 - 18 < 3 ∧ (tk i).1 - 18 ∈ K.map (fun k => k.1) then Sum.inl (4, i)
  else if 20 ≤ K.length then Sum.inl (6, i)
  else match pBody tk ((tk i).1 - 18) (i + 1) c with
    | Sum.inl e => Sum.inl e
    | Sum.inr y => Sum.inr (y.1, clOf tk ((tk i).1 - 18) (i + 1) c y.2, y.2)
theorem pNum_r {tk : Nat → Nat × Nat} {lo hi : Nat} {x : PrR} {i' : Nat} {c' : Cd} (h : pNum tk lo hi x = Sum.inr (i', c')) : ∃ i, x = Sum.inr (i, c') ∧ i' = i + 1 ∧ (tk i).1 = 38 ∧ lo ≤ (tk i).2 ∧ (tk i).2 ≤ hi := by
  unfold pNum at h
  cases x with
  | inl e => cases h
  | inr y =>
    obtain ⟨i, c⟩ := y
    rw [pB_r] at h
    by_cases a : (tk i).1 = 38
    · rw [if_pos a] at h
      by_cases b : lo ≤ (tk i).2 ∧ (tk i).2 ≤ hi
      · rw [if_pos b] at h
        have := Sum.inr.inj h
        have e1 := congrArg Prod.fst this
        have e2 := congrArg Prod.snd this
        exact ⟨i, by rw [show c = c' from e2], e1.symm, a, b⟩
      · rw [if_neg b] at h; cases h
    · rw [if_neg a] at h; cases h
theorem pExp_r {tk : Nat → Nat × Nat} {w : Nat} {x : PrR} {i' : Nat} {c' : Cd} (h : pExp tk w x = Sum.inr (i', c')) : ∃ i, x = Sum.inr (i, c') ∧ i' = i + 1 ∧ (tk i).1 = w := by
  unfold pExp at h
  cases x with
  | inl e => cases h
  | inr y =>
    obtain ⟨i, c⟩ := y
    rw [pB_r] at h
    by_cases a : (tk i).1 = w
    · rw [if_pos a] at h
      have := Sum.inr.inj h
      have e1 := congrArg Prod.fst this
      have e2 := congrArg Prod.snd this
      exact ⟨i, by rw [show c = c' from e2], e1.symm, a⟩
    · rw [if_neg a] at h; cases h
theorem pPl_r {tk : Nat → Nat × Nat} {s i i' : Nat} {c c' : Cd} (h : pPl tk s (Sum.inr (i, c)) = Sum.inr (i', c')) : c' = c ∧ i' = i + 5 ∧ loS s ≤ (tk i).2 ∧ (tk i).2 ≤ hiS s ∧ (tk (i + 2)).2 ≤ 7 ∧ (tk (i + 4)).2 ≤ 5 := by
  unfold pPl at h
  obtain ⟨i4, h4, e4, a4, b4, d4⟩ := pNum_r h
  obtain ⟨i3, h3, e3, a3⟩ := pExp_r h4
  obtain ⟨i2, h2, e2, a2, b2, d2⟩ := pNum_r h3
  obtain ⟨i1, h1, e1, a1⟩ := pExp_r h2
  obtain ⟨i0, h0, e0, a0, b0, d0⟩ := pNum_r h1
  have := Sum.inr.inj h0
  have q1 : i = i0 := congrArg Prod.fst this
  have q2 : c = c' := congrArg Prod.snd this
  subst q1
  rw [show i + 2 = i2 by omega, show i + 4 = i4 by omega]
  exact ⟨q2.symm, by omega, b0, d0, d2, d4⟩
section PL
variable {n z C t r N so : Nat} {J : Nat → Nat → Int64} {tk : Nat → Nat × Nat} {pl : Nat → Nat}
def FrW (z r m : Nat) (I I' : Nat → Nat → Int32) : Prop := (∀ q, q ≠ z + 17 → (q < z + (97 + 6 * r) ∨ z + (97 + 6 * r + 5) < q) → I' q = I q) ∧ (∀ j, j ≠ 6 → I' (z + (97 + 6 * r)) j = I (z + (97 + 6 * r)) j) ∧ I' (z + (97 + 6 * r + 1 + 0)) = I (z + (97 + 6 * r + 1 + 0)) ∧ (∀ j k, 1 ≤ j → j ≤ 3 → k ≠ m → I' (z + (97 + 6 * r + 1 + j)) k = I (z + (97 + 6 * r + 1 + j)) k)
theorem FrW.trw {m : Nat} {I I1 I2 : Nat → Nat → Int32} (h : FrW z r m I I1) (h2 : FrW z r m I1 I2) : FrW z r m I I2 := ⟨fun q a b => (h2.1 q a b).trans (h.1 q a b), fun j a => (h2.2.1 j a).trans (h.2.1 j a), h2.2.2.1.trans h.2.2.1, fun j k a b c => (h2.2.2.2 j k a b c).trans (h.2.2.2 j k a b c)⟩
theorem FrP.frw {m : Nat} {I I' : Nat → Nat → Int32} (h : FrP z r I I') : FrW z r m I I' := ⟨fun q a b => h.1 q a (by omega) (by omega), h.2.2, h.1 _ (by omega) (by omega) (by omega), fun j k a b _ => by rw [h.1 _ (by omega) (by omega) (by omega)]⟩
theorem FrW.row {m j : Nat} {v : Int32} (h1 : 1 ≤ j) (h3 : j ≤ 3) (I : Nat → Nat → Int32) : FrW z r m I (up2 I (z + (97 + 6 * r + 1 + j)) m v) := ⟨fun q a b => up2_ne (by omega), fun k _ => by rw [up2_ne (by omega)], up2_ne (by omega), fun i k a b c => up2_x (fun w => c w.2)⟩
theorem st_row {x : PrR} {j m : Nat} {v : Int32} {I : Nat → Nat → Int32} (hj : j ≤ 3) (h : StC z r N so tk pl I x) : StC z r N so tk pl (up2 I (z + (97 + 6 * r + 1 + j)) m v) x := by
  cases x with
  | inl e =>
    obtain ⟨h1, h2, h3, h4, h5, h6, h7, h8, h9⟩ := h
    exact ⟨h1.frp (r := r) (fun q p1 p2 => up2_ne (by omega)), h2, h3, h4, by rw [up2_ne (by omega)]; exact h5, by rw [up2_ne (by omega)]; exact h6, by rw [up2_ne (by omega)]; exact h7, by rw [up2_ne (by omega)]; exact h8, by rw [up2_ne (by omega)]; exact h9⟩
  | inr y =>
    obtain ⟨h1, h2, h3, h4, h5, h6, h7, h8, h9, h10⟩ := h
    exact ⟨h1.frp (r := r) (fun q p1 p2 => up2_ne (by omega)), by rw [up2_ne (by omega)]; exact h2, h3, h4, by rw [up2_ne (by omega)]; exact h5, by rw [up2_ne (by omega)]; exact h6, by rw [up2_ne (by omega)]; exact h7, by rw [up2_ne (by omega)]; exact h8, by rw [up2_ne (by omega)]; exact h9, by rw [up2_ne (by omega)]; exact h10⟩
theorem lv_place (hr : r < t) {m s : Nat} (hm : m < 20) (hs : s = 4 ∨ s = 5) {I : Nat → Nat → Int32} {i : Nat} {c : Cd} (h : StC z r N so tk pl I (Sum.inr (i, c))) : ∃ I', f_X4_readPlace n (z + 17) (nI m) (nI (s + 18)) (mk z C I J t (some (97 + 6 * r))) = some (mk z C I' J t (some (97 + 6 * r))) ∧ StC z r N so tk pl I' (pPl tk s (Sum.inr (i, c))) ∧ FrW z r m I I' ∧ (∀ y, pPl tk s (Sum.inr (i, c)) = Sum.inr y → I' (z + (97 + 6 * r + 1 + 1)) m = nI (tk i).2 ∧ I' (z + (97 + 6 * r + 1 + 2)) m = nI (tk (i + 2)).2 ∧ I' (z + (97 + 6 * r + 1 + 3)) m = nI (tk (i + 4)).2) := by
  unfold f_X4_readPlace
  simp only [jn, bd]
  rw [gU hr, gT hr (by omega)]
  obtain ⟨v1, I1, e1, s1, f1, w1⟩ := lv_num (n := n) (C := C) (t := t) (J := J) (lo := loS s) (hi := hiS s) (by unfold loS; split <;> omega) (by unfold hiS; split <;> omega) h
  have s1' := st_row (j := 1) (m := m) (v := v1) (by omega) s1
  obtain ⟨I2, e2, s2, f2⟩ := lv_exp (n := n) (C := C) (t := t) (J := J) (w := 17) (by omega) s1'
  obtain ⟨v3, I3, e3, s3, f3, w3⟩ := lv_num (n := n) (C := C) (t := t) (J := J) (lo := 0) (hi := 7) (by omega) (by omega) s2
  have s3' := st_row (j := 2) (m := m) (v := v3) (by omega) s3
  obtain ⟨I4, e4, s4, f4⟩ := lv_exp (n := n) (C := C) (t := t) (J := J) (w := 34) (by omega) s3'
  obtain ⟨v5, I5, e5, s5, f5, w5⟩ := lv_num (n := n) (C := C) (t := t) (J := J) (lo := 0) (hi := 5) (by omega) (by omega) s4
  have s5' := st_row (j := 3) (m := m) (v := v5) (by omega) s5
  have tail : (ck (inb (nI m) (mN (mk z C I1 J t (some (97 + 6 * r))) (z + (97 + 6 * r + 1 + 1)))) (cv (f_X4_expect n (z + 17) (17 : Int32) (sI (mk z C I1 J t (some (97 + 6 * r))) (z + (97 + 6 * r + 1 + 1)) (nI m).toNatClampNeg v1)) fun S14 => gR S14 (mR S14 (z + 17) 3) 7 fun q17 => gR S14 (mR S14 q17 2) 12 fun q19 => cl (f_X4_readNumber n (z + 17) (0 : Int32) (7 : Int32) S14) fun x24 S21 => ck (inb (nI m) (mN S21 q19)) (cv (f_X4_expect n (z + 17) (34 : Int32) (sI S21 q19 (nI m).toNatClampNeg x24)) fun S28 => gR S28 (mR S28 (z + 17) 3) 7 fun q31 => gR S28 (mR S28 q31 3) 12 fun q33 => cl (f_X4_readNumber n (z + 17) (0 : Int32) (5 : Int32) S28) fun x38 S35 => ck (inb (nI m) (mN S35 q33)) (some (sI S35 q33 (nI m).toNatClampNeg x38))))) = some (mk z C (up2 I5 (z + (97 + 6 * r + 1 + 3)) m v5) J t (some (97 + 6 * r))) := by
    rw [nT hr (by omega), ck_t (inb_nI (by omega) (by omega)), cl_nI (by omega), sI_mk, show (17 : Int32) = nI 17 from rfl, e2, cv_some, gU hr, gT hr (by omega), show (0 : Int32) = nI 0 from rfl, show (7 : Int32) = nI 7 from rfl, e3, cl_some, nT hr (by omega), ck_t (inb_nI (by omega) (by omega)), sI_mk, show (34 : Int32) = nI 34 from rfl, e4, cv_some, gU hr, gT hr (by omega), show (5 : Int32) = nI 5 from rfl, e5, cl_some, nT hr (by omega), ck_t (inb_nI (by omega) (by omega)), sI_mk]
  have F : FrW z r m I (up2 I5 (z + (97 + 6 * r + 1 + 3)) m v5) := (((((f1.frw.trw (FrW.row (by omega) (by omega) _)).trw f2.frw).trw f3.frw).trw (FrW.row (by omega) (by omega) _)).trw (f4.frw.trw f5.frw)).trw (FrW.row (by omega) (by omega) _)
  refine ⟨up2 I5 (z + (97 + 6 * r + 1 + 3)) m v5, ?_, s5', F, fun y hy => ?_⟩
  · rcases hs with rfl | rfl
    · rw [if_pos (show nI (4 + 18) = (22 : Int32) from rfl)]
      rw [show (1 : Int32) = nI (loS 4) from rfl, show (99 : Int32) = nI (hiS 4) from rfl, e1, cl_some]
      exact tail
    · rw [if_neg (show ¬ nI (5 + 18) = (22 : Int32) by decide)]
      have tl := tail
      rw [show f_X4_readNumber n (z + 17) (0 : Int32) (5 : Int32) (mk z C I J t (some (97 + 6 * r))) = some (v1, mk z C I1 J t (some (97 + 6 * r))) from e1, cl_some]
      exact tl
  · obtain ⟨i', c'⟩ := y
    have hy' := hy
    unfold pPl at hy'
    obtain ⟨i4, h4, q4, -⟩ := pNum_r hy'
    obtain ⟨i3, h3, q3, -⟩ := pExp_r h4
    obtain ⟨i2, h2, q2, -⟩ := pNum_r h3
    obtain ⟨i1, h1, q1, -⟩ := pExp_r h2
    obtain ⟨i0, h0, q0, -⟩ := pNum_r h1
    have p0 : i = i0 := congrArg Prod.fst (Sum.inr.inj h0)
    have a1 := w1 i c rfl
    have a3 := w3 i2 c' h2
    have a5 := w5 i4 c' h4
    have G : ∀ q, q ≠ z + 17 → q ≠ z + (97 + 6 * r) → q ≠ z + (97 + 6 * r + 1 + 4) → I5 q = I4 q ∧ I4 q = (up2 I3 (z + (97 + 6 * r + 1 + 2)) m v3) q ∧ I3 q = I2 q ∧ I2 q = (up2 I1 (z + (97 + 6 * r + 1 + 1)) m v1) q := fun q x1 x2 x3 => ⟨f5.1 q x1 x2 x3, f4.1 q x1 x2 x3, f3.1 q x1 x2 x3, f2.1 q x1 x2 x3⟩
    obtain ⟨b1, b2, b3, b4⟩ := G (z + (97 + 6 * r + 1 + 1)) (by omega) (by omega) (by omega)
    obtain ⟨d1, d2, d3, d4⟩ := G (z + (97 + 6 * r + 1 + 2)) (by omega) (by omega) (by omega)
    refine ⟨?_, ?_, ?_⟩
    · rw [up2_ne (by omega), b1, b2, up2_ne (by omega), b3, b4, up2_v]; exact a1
    · rw [up2_ne (by omega), d1, d2, up2_v, a3, show i + 2 = i2 by omega]
    · rw [up2_v, a5, show i + 4 = i4 by omega]
end PL
