/-! BONE AND STAKE, both systems, with the relation -/
/-- the plain at z + o of the class beside the reference's row from B on -/
def PlainM (z C Q o : Nat) (I : Nat → Nat → Int32) (J : Nat → Nat → Int64) (B : Nat)   : Prop := PlainR C 999 Q (I (z + o)) (J (z + o)) (I (z + (o + 1))) (I (z + (o + 2))) (I (z + (o + 3))) (I (z + (o + 4))) (I (z + (o + 5))) (I (z + (o + 6))) (pa (I (z + 84)) B)
section SK2
variable {n z C Q t : Nat} {I : Nat → Nat → Int32} {J : Nat → Nat → Int64} {u : Option Nat}
theorem pa0 (a : Nat → Int32) {j : Nat} (h : plj j = true) : pa a 0 j = a j := by rw [pa_in h, Nat.zero_add]
theorem pa_ur0 {a : Nat → Int32} {m : Nat} {v : Int32} (h : plj m = true) : pa (ur a m v) 0 = ur (pa a 0) m v := by
  have := pa_ur (a := a) (B := 0) (v := v) h
  rw [Nat.zero_add] at this
  exact this
theorem cB_ob {o k c v : Nat} : cBone z o I k c v (z + o) = ur (I (z + o)) 7 (nI (k + 1)) := by
  unfold cBone
  rw [up2_ne (by omega), up2_ne (by omega), up2_ne (by omega), up2_ne (by omega), up2_r]
theorem cB_1 {o k c v : Nat} : cBone z o I k c v (z + (o + 1)) = ur (I (z + (o + 1))) k (nI c) := by
  unfold cBone
  rw [up2_ne (by omega), up2_ne (by omega), up2_ne (by omega), up2_r, up2_ne (by omega)]
theorem cB_2 {o k c v : Nat} : cBone z o I k c v (z + (o + 2)) = ur (I (z + (o + 2))) k (nI v) := by
  unfold cBone
  rw [up2_ne (by omega), up2_ne (by omega), up2_r, up2_ne (by omega), up2_ne (by omega)]
theorem cB_3 {o k c v : Nat} : cBone z o I k c v (z + (o + 3)) = ur (I (z + (o + 3))) k 0 := by
  unfold cBone
  rw [up2_ne (by omega), up2_r, up2_ne (by omega), up2_ne (by omega), up2_ne (by omega)]
theorem cB_6 {o k c v : Nat} : cBone z o I k c v (z + (o + 6)) = ur (I (z + (o + 6))) c (-1) := by
  unfold cBone
  rw [up2_r, up2_ne (by omega), up2_ne (by omega), up2_ne (by omega), up2_ne (by omega)]
theorem cB_ne {o k c v q : Nat} (h0 : q ≠ z + o) (h1 : q ≠ z + (o + 1)) (h2 : q ≠ z + (o + 2)) (h3 : q ≠ z + (o + 3)) (h6 : q ≠ z + (o + 6)) : cBone z o I k c v q = I q := by
  unfold cBone
  rw [up2_ne h6, up2_ne h3, up2_ne h2, up2_ne h1, up2_ne h0]
theorem rB_ne {a k c v q : Nat} (h : q ≠ a) : rBone I a k c v q = I q := by
  unfold rBone
  rw [up2_ne h, up2_ne h, up2_ne h, up2_ne h, up2_ne h, up2_ne h]
theorem rB_at {a k c v : Nat} : rBone I a k c v a = ur (ur (ur (ur (ur (ur (I a) (10 + 3 * k) (nI c)) (11 + 3 * k) (nI v)) (12 + 3 * k) 0) 1 (nI (k + 1))) (290 + c) (nI (k + 1))) (240 + c) (-1) := by
  unfold rBone
  rw [up2_r, up2_r, up2_r, up2_r, up2_r, up2_r]
/-- bone(cell, weight) -/
theorem op_bone' (hn : 100000 ≤ n) (hC : C ≤ 48) (hg : I (z + 30) 2 = nI C) (hm : I (z + 83) 3 = nI C) (h4 : I (z + 83) 4 = 0) (hP : PlainM z C Q 32 I J 0) (a b : Int32) :
    (f_X10_bone n z a b (mk z C I J t u) = some (-1, mk z C I J t u) ∧ f_X11_bone n (z + 83) a b (mk z C I J t u) = some (-1, mk z C I J t u)) ∨
    (∃ (k c v : Nat) (I2 : Nat → Nat → Int32) (J2 : Nat → Nat → Int64), k < 24 ∧ c < C ∧ I2 = rBone (cBone z 32 I k c v) (z + 84) k c v ∧ J2 = up2 J (z + 32) 10 (J (z + 32) 10 ||| lsh 1 (nI c)) ∧ PlainM z C Q 32 I2 J2 0 ∧
      f_X10_bone n z a b (mk z C I J t u) = some (nI k, mk z C (cBone z 32 I k c v) J2 t u) ∧ f_X11_bone n (z + 83) a b (mk z C (cBone z 32 I k c v) J2 t u) = some (nI k, mk z C I2 J2 t u)) := by
  have hP' := hP
  obtain ⟨k, hh, q1, q2, q3, q4, q5, q6, q7, q8, q9, q10, q11, q12, q13, q14, q15, q16, q17⟩ := hP'
  have ho : isP 32 := Or.inl rfl
  rw [pa0 _ (by decide)] at q4
  have hfr : ∀ c, c < C → ((bt (J (z + 32) 10) c = false ∧ bt (J (z + 32) 11) c = false) ↔ (I (z + 84) (290 + c) = 0 ∧ ∀ g, g < 6 → I (z + 84) (85 + g) ≠ nI c)) := by
    intro c hc
    rw [q14 c hc, q16 c hc, pa0 _ (show plj (290 + c) = true from by have := plj_190 (i := 100 + c) (by omega); rwa [show 190 + (100 + c) = 290 + c by omega] at this)]
    have : ∀ g, g < 6 → (I (z + (32 + 4)) g = I (z + 84) (85 + g)) := fun g hg => by
      rw [(q9 g hg).1, pa0 _ (show plj (85 + g) = true from by have := plj_10 (i := 75 + g) (by omega); rwa [show 10 + (75 + g) = 85 + g by omega] at this)]
    exact and_congr Iff.rfl ⟨fun h g hg => by rw [← this g hg]; exact h g hg, fun h g hg => by rw [this g hg]; exact h g hg⟩
  by_cases hy : ∃ c v, a = nI c ∧ b = nI v ∧ c < C ∧ 1 ≤ v ∧ v ≤ 99 ∧ k < 24 ∧ bt (J (z + 32) 10) c = false ∧ bt (J (z + 32) 11) c = false
  · right
    obtain ⟨c, v, rfl, rfl, hc, h1, h2, hk, hb, hs⟩ := hy
    have hfr2 := (hfr c hc).mp ⟨hb, hs⟩
    have p290 : plj (290 + c) = true := by have := plj_190 (i := 100 + c) (by omega); rwa [show 190 + (100 + c) = 290 + c by omega] at this
    have p240 : plj (240 + c) = true := by have := plj_190 (i := 50 + c) (by omega); rwa [show 190 + (50 + c) = 240 + c by omega] at this
    refine ⟨k, c, v, _, _, hk, hc, rfl, rfl, ?_, ?_, ?_⟩
    · have hb2 := hP.bone hC hk q3 hc h1 h2 (by rw [pa0 _ p290]; exact hfr2.1) ((q16 c hc).mp hs) (x := J (z + 32) 10 ||| lsh 1 (nI c)) (fun j hj => by
        rw [bt_or, bt_lsh (by omega)]
        by_cases h : j = c <;> simp [h])
      unfold PlainM
      rw [rB_ne (by omega), cB_ob, rB_ne (by omega), cB_1, rB_ne (by omega), cB_2, rB_ne (by omega), cB_3, rB_ne (by omega), cB_ne (by omega) (by omega) (by omega) (by omega) (by omega), rB_ne (by omega), cB_ne (by omega) (by omega) (by omega) (by omega) (by omega), rB_ne (by omega), cB_6, rB_at, cB_ne (by omega) (by omega) (by omega) (by omega) (by omega), up2_r]
      rw [pa_ur0 p240, pa_ur0 p290, pa_ur0 (by decide), pa_ur0 (show plj (12 + 3 * k) = true from by have := plj_10 (i := 2 + 3 * k) (by omega); rwa [show 10 + (2 + 3 * k) = 12 + 3 * k by omega] at this), pa_ur0 (show plj (11 + 3 * k) = true from by have := plj_10 (i := 1 + 3 * k) (by omega); rwa [show 10 + (1 + 3 * k) = 11 + 3 * k by omega] at this), pa_ur0 (plj_10 (by omega))]
      exact hb2
    · unfold f_X10_bone
      rw [g0z_1, s_addBone_yes ho hg hC hk q3 hc h1 h2 hb hs, cl_some]
    · have e83 : ∀ j, cBone z 32 I k c v (z + 83) j = I (z + 83) j := fun j => by rw [cB_ne (by omega) (by omega) (by omega) (by omega) (by omega)]
      have e84 : cBone z 32 I k c v (z + 84) = I (z + 84) := cB_ne (by omega) (by omega) (by omega) (by omega) (by omega)
      exact s_boneR_yes hn (by rw [e83]; exact hm) (by rw [e83]; exact h4) hC hk (by rw [e84]; exact q4) hc h1 h2 (by rw [e84]; exact hfr2.1) (by rw [e84]; exact hfr2.2)
  · left
    constructor
    · unfold f_X10_bone
      rw [g0z_1, s_addBone_no ho hg hC q1 q3 a b hy, cl_some]
    · refine s_boneR_no hn hm h4 hC q1 q4 a b (fun w => hy ?_)
      obtain ⟨c, v, e1, e2, e3, e4, e5, e6, e7, e8⟩ := w
      have := (hfr c e3).mpr ⟨e7, e8⟩
      exact ⟨c, v, e1, e2, e3, e4, e5, e6, this.1, this.2⟩
/-- the class's loop over the stakes: the bits of all stakes from f on come in -/
theorem stk_L {o : Nat} (ho : isP o) (hC : C ≤ 48) (hsk : ∀ f, f < 6 → I (z + (o + 4)) f = -1 ∨ ∃ c, c < C ∧ I (z + (o + 4)) f = nI c) : ∀ (d f k : Nat) (J : Nat → Nat → Int64), f + d = 6 → d < k → ∃ x : Int64, f_X3_setStake_L54 n (z + o) k (nI f) (mk z C I J t u) = some (1, mk z C I (up2 J (z + o) 11 x) t u) ∧ ∀ j, j < 64 → (bt x j = true ↔ bt (J (z + o) 11) j = true ∨ ∃ g, f ≤ g ∧ g < 6 ∧ I (z + (o + 4)) g = nI j) := by
  intro d
  induction d with
  | zero =>
    intro f k J hf hk
    obtain ⟨k, rfl⟩ : ∃ m, k = m + 1 := ⟨k - 1, by omega⟩
    obtain rfl : f = 6 := by omega
    refine ⟨J (z + o) 11, ?_, fun j hj => ⟨Or.inl, fun q => q.elim id (fun ⟨g, g1, g2, _⟩ => by omega)⟩⟩
    rw [f_X3_setStake_L54]
    simp only [jn, zb_1]
    rw [if_pos (by decide)]
    congr 3
    funext b j
    simp only [up2]
    split
    · split
      · next h1 h2 => rw [h1, h2]
      · rfl
    · rfl
  | succ d ih =>
    intro f k J hf hk
    obtain ⟨k, rfl⟩ : ∃ m, k = m + 1 := ⟨k - 1, by omega⟩
    have e2 : nI f + (1 : Int32) = nI (f + 1) := nI_pl f 1
    rw [f_X3_setStake_L54]
    simp only [jn, bd, gP_4 ho, nP_4 ho, mI_mk, mJ_mk, sJ_mk, ck_t (inb_nI (show f < 6 by omega) (by omega)), cl_nI (show f < 1000000 by omega), e2]
    rw [if_neg (show ¬ (6 : Int32) ≤ nI f by rw [show (6 : Int32) = nI 6 from rfl, nI_le' (by omega) (by omega)]; omega)]
    have key : ∀ y : Int64, (∀ j, j < 64 → (bt y j = true ↔ I (z + (o + 4)) f = nI j)) → ∃ x : Int64, f_X3_setStake_L54 n (z + o) k (nI (f + 1)) (mk z C I (up2 J (z + o) 11 (J (z + o) 11 ||| y)) t u) = some (1, mk z C I (up2 J (z + o) 11 x) t u) ∧ ∀ j, j < 64 → (bt x j = true ↔ bt (J (z + o) 11) j = true ∨ ∃ g, f ≤ g ∧ g < 6 ∧ I (z + (o + 4)) g = nI j) := by
      intro y hy
      obtain ⟨x, h1, h2⟩ := ih (f + 1) k (up2 J (z + o) 11 (J (z + o) 11 ||| y)) (by omega) (by omega)
      refine ⟨x, ?_, ?_⟩
      · rw [h1]
        congr 3
        funext b j
        simp only [up2]
        split
        · split <;> rfl
        · rfl
      · intro j hj
        rw [h2 j hj, up2_at, if_pos rfl, bt_or, Bool.or_eq_true, hy j hj]
        constructor
        · rintro ((q | q) | ⟨g, g1, g2, g3⟩)
          · exact Or.inl q
          · exact Or.inr ⟨f, Nat.le_refl _, by omega, q⟩
          · exact Or.inr ⟨g, by omega, g2, g3⟩
        · rintro (q | ⟨g, g1, g2, g3⟩)
          · exact Or.inl (Or.inl q)
          · by_cases hgf : g = f
            · subst hgf; exact Or.inl (Or.inr g3)
            · exact Or.inr ⟨g, by omega, g2, g3⟩
    rcases hsk f (by omega) with h1 | ⟨c, hc, h1⟩
    · rw [if_pos h1]
      exact key 0 (fun j hj => by
        rw [bt_0, h1]
        exact ⟨fun q => (by cases q), fun q => absurd q.symm (nI_nm1 (by omega))⟩)
    · rw [if_neg (by rw [h1]; exact nI_nm1 (by omega))]
      exact key _ (fun j hj => by
        rw [h1, bt_lsh (by omega), decide_eq_true_eq, nI_inj (by omega) (by omega)]
        exact eq_comm)
end SK2
