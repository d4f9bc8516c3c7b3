/-! IMAGE AND BACK -/
section IM
variable {n z C Q t : Nat} {I : Nat → Nat → Int32} {J : Nat → Nat → Int64} {u : Option Nat}
/-- image(): both copy what lies and what is told; nothing else changes -/
theorem op_image' (hn : 100000 ≤ n) (hC : C ≤ 48) (hP : PlainM z C Q 32 I J 0) (hT : ToldM z C 1 I 0) : ∃ r I1 I2 J2, f_X10_image n z (mk z C I J t u) = some (r, mk z C I1 J2 t u) ∧ f_X11_image n (z + 83) (mk z C I1 J2 t u) = some (r, mk z C I2 J2 t u) ∧
    PlainM z C Q 32 I2 J2 0 ∧ ToldM z C 1 I2 0 ∧ PlainM z C Q 39 I2 J2 340 ∧ ToldM z C 8 I2 340 ∧ I2 (z + 8) 7 = I (z + 1) 7 ∧ I2 (z + 84) = cpR (I (z + 84)) 0 1 340 ∧ (∀ q, q ≠ z + 84 → (q < z + 8 ∨ z + 15 ≤ q) → (q < z + 39 ∨ z + 46 ≤ q) → I2 q = I q) ∧ (∀ q, q ≠ z + 39 → J2 q = J q) := by
  have ho : isP 39 := Or.inr (Or.inl rfl)
  have ho' : isP 32 := Or.inl rfl
  obtain ⟨Ia, J2, e1, e2, e3, e4, e5, e6, e7, e8, e9, e10, e11, e12⟩ := s_copyP (n := n) (z := z) (I := I) (J := J) (t := t) (u := u) hC ho ho' (by omega)
  obtain ⟨Ib, f1, f2, f3, f4, f5, f6, f7, f8, f9, f10, f11⟩ := s_copyT (n := n) (z := z) (C := C) (I := Ia) (J := J2) (t := t) (u := u) (Or.inr ⟨rfl, rfl⟩)
  have g1 := s_copyR (n := n) (z := z) (C := C) (I := Ib) (J := J2) (t := t) (u := u) hn (f := 0) (g := 1) (by omega) (by omega) (by omega)
  have hI : ∀ q, (q < z + 8 ∨ z + 15 ≤ q) → (q < z + 39 ∨ z + 46 ≤ q) → Ib q = I q := fun q w1 w2 => by rw [f2 q (by omega), e2 q (by omega)]
  have h84 : Ib (z + 84) = I (z + 84) := hI _ (by omega) (by omega)
  rw [h84] at g1
  have hI2 : ∀ q, q ≠ z + 84 → upr Ib (z + 84) (cpR (I (z + 84)) 0 1 340) q = Ib q := fun q w => upr_ne w
  have hP0 : (32 : Nat) < 39 := by omega
  have hr0 : Ib (z + 32) 8 = pa (I (z + 84)) 0 0 := by
    rw [hI _ (by omega) (by omega)]
    obtain ⟨k, hh, q1, q2, q3, q4, q5, q6, -⟩ := hP
    rw [q5, q6]
  refine ⟨Ib (z + 32) 8, Ib, upr Ib (z + 84) (cpR (I (z + 84)) 0 1 340), J2, ?_, ?_, ?_, ?_, ?_, ?_, ?_, upr_at _ _ _, ?_, e3⟩
  · unfold f_X10_image
    rw [g0z_2, g0z_1, e1, cv_some, g0z_4, g0z_3, f1, cv_some, g0z_1, mI_mk]
  · unfold f_X11_image
    rw [show (0 : Int32) = nI 0 from rfl, show (1 : Int32) = nI 1 from rfl, g1, cv_some, g83_0, n84, ck_t (by decide), mI_mk, upr_at, show (nI 0).toNatClampNeg = 0 from rfl]
    have : cpR (I (z + 84)) 0 1 340 0 = I (z + 84) 0 := cpR_out (w := 0) (j := 0) (by omega) (by omega)
    rw [this, hr0, pa0 _ (by decide)]
  · unfold PlainM
    rw [hI2 _ (by omega), hI2 _ (by omega), hI2 _ (by omega), hI2 _ (by omega), hI2 _ (by omega), hI2 _ (by omega), hI2 _ (by omega), upr_at, hI _ (by omega) (by omega), hI _ (by omega) (by omega), hI _ (by omega) (by omega), hI _ (by omega) (by omega), hI _ (by omega) (by omega), hI _ (by omega) (by omega), hI _ (by omega) (by omega), e3 _ (by omega)]
    have := pa_cpo (a := I (z + 84)) (f := 0) (g := 1) (w := 0) (by omega)
    rw [Nat.mul_zero] at this
    rw [this]
    exact hP
  · unfold ToldM
    rw [hI2 _ (by omega), hI2 _ (by omega), hI2 _ (by omega), hI2 _ (by omega), hI2 _ (by omega), hI2 _ (by omega), hI2 _ (by omega), upr_at, hI _ (by omega) (by omega), hI _ (by omega) (by omega), hI _ (by omega) (by omega), hI _ (by omega) (by omega), hI _ (by omega) (by omega), hI _ (by omega) (by omega), hI _ (by omega) (by omega)]
    have := ta_cpo (a := I (z + 84)) (f := 0) (g := 1) (w := 0) (by omega)
    rw [Nat.mul_zero] at this
    rw [this]
    exact hT
  · unfold PlainM
    rw [hI2 _ (by omega), hI2 _ (by omega), hI2 _ (by omega), hI2 _ (by omega), hI2 _ (by omega), hI2 _ (by omega), hI2 _ (by omega), upr_at, f2 _ (by omega), f2 _ (by omega), f2 _ (by omega), f2 _ (by omega), f2 _ (by omega), f2 _ (by omega), f2 _ (by omega)]
    have := pa_cp (a := I (z + 84)) (f := 0) (g := 1)
    rw [Nat.mul_zero, Nat.mul_one] at this
    rw [this]
    exact PlainR.congr hP e4 e5 (e6 9 (Or.inl rfl)) (e6 10 (Or.inr (Or.inl rfl))) (e6 11 (Or.inr (Or.inr rfl))) e7 e8 e9 e10 e11 e12
  · unfold ToldM
    rw [hI2 _ (by omega), hI2 _ (by omega), hI2 _ (by omega), hI2 _ (by omega), hI2 _ (by omega), hI2 _ (by omega), hI2 _ (by omega), upr_at]
    have := ta_cp (a := I (z + 84)) (f := 0) (g := 1)
    rw [Nat.mul_zero, Nat.mul_one] at this
    rw [this]
    have ea : ∀ q, (q < z + 39 ∨ z + 46 ≤ q) → Ia q = I q := fun q w => e2 q (by omega)
    refine ToldR.congr hT ?_ ?_ ?_ ?_ ?_ ?_ ?_ ?_ ?_
    · rw [f3, ea _ (by omega)]
    · rw [f4, ea _ (by omega)]
    · rw [f5, ea _ (by omega)]
    · intro j hj; rw [f6 j hj, ea _ (by omega)]
    · intro j hj; rw [f7 j hj, ea _ (by omega)]
    · intro j hj; rw [f8 j hj, ea _ (by omega)]
    · intro j hj; rw [f9 j hj, ea _ (by omega)]
    · intro j hj; rw [f10 j hj, ea _ (by omega)]
    · intro j hj; rw [f11 j hj, ea _ (by omega)]
  · rw [hI2 _ (by omega), f4, e2 _ (by omega)]
  · intro q w0 w1 w2
    rw [hI2 q w0, hI q w1 w2]
/-- back(): the other way -/
theorem op_back' (hn : 100000 ≤ n) (hC : C ≤ 48) (hP : PlainM z C Q 39 I J 340) (hT : ToldM z C 8 I 340) : ∃ r I1 I2 J2, f_X10_back n z (mk z C I J t u) = some (r, mk z C I1 J2 t u) ∧ f_X11_back n (z + 83) (mk z C I1 J2 t u) = some (r, mk z C I2 J2 t u) ∧
    PlainM z C Q 32 I2 J2 0 ∧ ToldM z C 1 I2 0 ∧ PlainM z C Q 39 I2 J2 340 ∧ ToldM z C 8 I2 340 ∧ I2 (z + 1) 7 = I (z + 8) 7 ∧ I2 (z + 84) = cpR (I (z + 84)) 1 0 340 ∧ (∀ q, q ≠ z + 84 → (q < z + 1 ∨ z + 8 ≤ q) → (q < z + 32 ∨ z + 39 ≤ q) → I2 q = I q) ∧ (∀ q, q ≠ z + 32 → J2 q = J q) := by
  have ho' : isP 39 := Or.inr (Or.inl rfl)
  have ho : isP 32 := Or.inl rfl
  obtain ⟨Ia, J2, e1, e2, e3, e4, e5, e6, e7, e8, e9, e10, e11, e12⟩ := s_copyP (n := n) (z := z) (I := I) (J := J) (t := t) (u := u) hC ho ho' (by omega)
  obtain ⟨Ib, f1, f2, f3, f4, f5, f6, f7, f8, f9, f10, f11⟩ := s_copyT (n := n) (z := z) (C := C) (I := Ia) (J := J2) (t := t) (u := u) (Or.inl ⟨rfl, rfl⟩)
  have g1 := s_copyR (n := n) (z := z) (C := C) (I := Ib) (J := J2) (t := t) (u := u) hn (f := 1) (g := 0) (by omega) (by omega) (by omega)
  have hI : ∀ q, (q < z + 1 ∨ z + 8 ≤ q) → (q < z + 32 ∨ z + 39 ≤ q) → Ib q = I q := fun q w1 w2 => by rw [f2 q (by omega), e2 q (by omega)]
  have h84 : Ib (z + 84) = I (z + 84) := hI _ (by omega) (by omega)
  rw [h84] at g1
  have hI2 : ∀ q, q ≠ z + 84 → upr Ib (z + 84) (cpR (I (z + 84)) 1 0 340) q = Ib q := fun q w => upr_ne w
  have hr0 : Ib (z + 32) 8 = pa (I (z + 84)) 340 0 := by
    rw [f2 _ (by omega), e5]
    obtain ⟨k, hh, q1, q2, q3, q4, q5, q6, -⟩ := hP
    rw [q5, q6]
  refine ⟨Ib (z + 32) 8, Ib, upr Ib (z + 84) (cpR (I (z + 84)) 1 0 340), J2, ?_, ?_, ?_, ?_, ?_, ?_, ?_, upr_at _ _ _, ?_, e3⟩
  · unfold f_X10_back
    rw [g0z_1, g0z_2, e1, cv_some, g0z_3, g0z_4, f1, cv_some, g0z_1, mI_mk]
  · unfold f_X11_back
    rw [show (0 : Int32) = nI 0 from rfl, show (1 : Int32) = nI 1 from rfl, g1, cv_some, g83_0, n84, ck_t (by decide), mI_mk, upr_at, show (nI 0).toNatClampNeg = 0 from rfl]
    have : cpR (I (z + 84)) 1 0 340 0 = I (z + 84) 340 := cpR_in (a := I (z + 84)) (f := 1) (g := 0) (j := 0) (by omega)
    rw [this, hr0, pa_in (by decide)]
  · unfold PlainM
    rw [hI2 _ (by omega), hI2 _ (by omega), hI2 _ (by omega), hI2 _ (by omega), hI2 _ (by omega), hI2 _ (by omega), hI2 _ (by omega), upr_at, f2 _ (by omega), f2 _ (by omega), f2 _ (by omega), f2 _ (by omega), f2 _ (by omega), f2 _ (by omega), f2 _ (by omega)]
    have := pa_cp (a := I (z + 84)) (f := 1) (g := 0)
    rw [Nat.mul_zero, Nat.mul_one] at this
    rw [this]
    exact PlainR.congr hP e4 e5 (e6 9 (Or.inl rfl)) (e6 10 (Or.inr (Or.inl rfl))) (e6 11 (Or.inr (Or.inr rfl))) e7 e8 e9 e10 e11 e12
  · unfold ToldM
    rw [hI2 _ (by omega), hI2 _ (by omega), hI2 _ (by omega), hI2 _ (by omega), hI2 _ (by omega), hI2 _ (by omega), hI2 _ (by omega), upr_at]
    have := ta_cp (a := I (z + 84)) (f := 1) (g := 0)
    rw [Nat.mul_zero, Nat.mul_one] at this
    rw [this]
    have ea : ∀ q, (q < z + 32 ∨ z + 39 ≤ q) → Ia q = I q := fun q w => e2 q (by omega)
    refine ToldR.congr hT ?_ ?_ ?_ ?_ ?_ ?_ ?_ ?_ ?_
    · rw [f3, ea _ (by omega)]
    · rw [f4, ea _ (by omega)]
    · rw [f5, ea _ (by omega)]
    · intro j hj; rw [f6 j hj, ea _ (by omega)]
    · intro j hj; rw [f7 j hj, ea _ (by omega)]
    · intro j hj; rw [f8 j hj, ea _ (by omega)]
    · intro j hj; rw [f9 j hj, ea _ (by omega)]
    · intro j hj; rw [f10 j hj, ea _ (by omega)]
    · intro j hj; rw [f11 j hj, ea _ (by omega)]
  · unfold PlainM
    rw [hI2 _ (by omega), hI2 _ (by omega), hI2 _ (by omega), hI2 _ (by omega), hI2 _ (by omega), hI2 _ (by omega), hI2 _ (by omega), upr_at, hI _ (by omega) (by omega), hI _ (by omega) (by omega), hI _ (by omega) (by omega), hI _ (by omega) (by omega), hI _ (by omega) (by omega), hI _ (by omega) (by omega), hI _ (by omega) (by omega), e3 _ (by omega)]
    have := pa_cpo (a := I (z + 84)) (f := 1) (g := 0) (w := 1) (by omega)
    rw [Nat.mul_one] at this
    rw [this]
    exact hP
  · unfold ToldM
    rw [hI2 _ (by omega), hI2 _ (by omega), hI2 _ (by omega), hI2 _ (by omega), hI2 _ (by omega), hI2 _ (by omega), hI2 _ (by omega), upr_at, hI _ (by omega) (by omega), hI _ (by omega) (by omega), hI _ (by omega) (by omega), hI _ (by omega) (by omega), hI _ (by omega) (by omega), hI _ (by omega) (by omega), hI _ (by omega) (by omega)]
    have := ta_cpo (a := I (z + 84)) (f := 1) (g := 0) (w := 1) (by omega)
    rw [Nat.mul_one] at this
    rw [this]
    exact hT
  · rw [hI2 _ (by omega), f4, e2 _ (by omega)]
  · intro q w0 w1 w2
    rw [hI2 q w0, hI q w1 w2]
end IM
