/-! CALLS THAT CHANGE WHAT LIES ON THE PLAIN: well, bone, stake -/
theorem pa_ur {a : Nat → Int32} {B m : Nat} {v : Int32} (h : plj m = true) : pa (ur a (B + m) v) B = ur (pa a B) m v := by
  funext j
  unfold pa ur
  by_cases hj : plj j = true
  · rw [if_pos hj]
    by_cases hm : j = m
    · rw [if_pos hm, if_pos (by omega)]
    · rw [if_neg hm, if_neg (by omega)]; exact (if_pos hj).symm
  · rw [if_neg hj]
    by_cases hm : j = m
    · subst hm; exact absurd h hj
    · rw [if_neg hm]; exact (if_neg hj).symm
theorem plj_10 {i : Nat} (h : i < 88) : plj (10 + i) = true := by
  simp only [plj, Bool.or_eq_true, Bool.and_eq_true, decide_eq_true_eq]; omega
theorem plj_190 {i : Nat} (h : i < 150) : plj (190 + i) = true := by
  simp only [plj, Bool.or_eq_true, Bool.and_eq_true, decide_eq_true_eq]; omega
theorem nI_ne {a b : Nat} (ha : a < 1000000) (hb : b < 1000000) (h : a ≠ b) : nI a ≠ nI b := fun q => h ((nI_inj ha hb).mp q)
theorem nI_nm1 {a : Nat} (ha : a < 1000000) : nI a ≠ -1 := fun q => by
  have := (i32_eq.mp q)
  rw [nI_t ha] at this
  have h1 : (-1 : Int32).toInt = -1 := rfl
  omega
theorem nI_s0 {a : Nat} (ha : a < 999999) : nI (a + 1) ≠ 0 := by
  rw [show (0 : Int32) = nI 0 from rfl]
  exact nI_ne (by omega) (by omega) (by omega)
section PL
variable {C M Q : Nat} {ob : Nat → Int32} {oj : Nat → Int64} {ce we li sk fi cr p : Nat → Int32}
theorem PlainR.well (h : PlainR C M Q ob oj ce we li sk fi cr p) (hC : C ≤ 48) {c : Nat} (hc : c < C) (b : Bool) {x : Int64} (hx : ∀ j, j < 64 → bt x j = if j = c then b else bt (oj 9) j) : PlainR C M Q ob (ur oj 9 x) ce we li sk fi cr (ur p (190 + c) (if b = true then 1 else 0)) := by
  obtain ⟨k, hh, q1, q2, q3, q4, q5, q6, q7, q8, q9, q10, q11, q12, q13, q14, q15, q16, q17⟩ := h
  refine ⟨k, hh, q1, q2, q3, ?_, q5, ?_, ?_, ?_, ?_, ?_, ?_, ?_, ?_, ?_, ?_, ?_, ?_⟩
  · rw [ur_ne _ _ (by omega)]; exact q4
  · rw [ur_ne _ _ (by omega)]; exact q6
  · intro i hi
    obtain ⟨c1, v, y, r1, r2, r3, r4, r5, r6, r7, r8, r9, r10, r11⟩ := q7 i hi
    exact ⟨c1, v, y, r1, r2, r3, r4, r5, by rw [ur_ne _ _ (by omega)]; exact r6, r7, by rw [ur_ne _ _ (by omega)]; exact r8, r9, by rw [ur_ne _ _ (by omega)]; exact r10, by rw [ur_ne _ _ (by omega)]; exact r11⟩
  · intro d hd
    rw [ur_ne _ _ (by omega)]; exact q8 d hd
  · intro f hf
    rw [ur_ne _ _ (by omega)]
    refine ⟨(q9 f hf).1, (q9 f hf).2.imp id ?_⟩
    rintro ⟨c1, r1, r2, r3⟩
    exact ⟨c1, r1, r2, by rw [ur_ne _ _ (by omega)]; exact r3⟩
  · intro f hf
    rw [ur_ne _ _ (by omega)]; exact q10 f hf
  · intro d hd
    rw [ur_ne _ _ (by omega)]; exact q11 d hd
  · intro d hd
    rw [ur_at, hx d (by omega)]
    by_cases hdc : d = c
    · subst hdc; rw [ur_at, if_pos rfl]
    · rw [ur_ne _ _ (by omega), if_neg hdc]; exact q12 d hd
  · intro d hd
    rw [ur_at]
    by_cases h64 : d < 64
    · rw [hx d h64, if_neg (by omega)]; exact q13 d hd
    · exact bt_big _ (by omega)
  · intro d hd
    rw [ur_ne _ _ (by omega), ur_ne _ _ (by omega)]; exact q14 d hd
  · intro d hd
    rw [ur_ne _ _ (by omega)]; exact q15 d hd
  · intro d hd
    rw [ur_ne _ _ (by omega)]; exact q16 d hd
  · intro d hd
    rw [ur_ne _ _ (by omega)]; exact q17 d hd
theorem PlainR.bone (h : PlainR C M Q ob oj ce we li sk fi cr p) (hC : C ≤ 48) {c v k : Nat} (hk : k < 24) (hob : ob 7 = nI k) (hc : c < C) (hv1 : 1 ≤ v) (hv2 : v ≤ 99) (hfree : p (290 + c) = 0) (hst : ∀ f, f < 6 → sk f ≠ nI c) {x : Int64} (hx : ∀ j, j < 64 → bt x j = if j = c then true else bt (oj 10) j) :
    PlainR C M Q (ur ob 7 (nI (k + 1))) (ur oj 10 x) (ur ce k (nI c)) (ur we k (nI v)) (ur li k 0) sk fi (ur cr c (-1)) (ur (ur (ur (ur (ur (ur p (10 + 3 * k) (nI c)) (11 + 3 * k) (nI v)) (12 + 3 * k) 0) 1 (nI (k + 1))) (290 + c) (nI (k + 1))) (240 + c) (-1)) := by
  obtain ⟨k', hh, q1, q2, q3, q4, q5, q6, q7, q8, q9, q10, q11, q12, q13, q14, q15, q16, q17⟩ := h
  have hkk : k' = k := (nI_inj (by omega) (by omega)).mp (q3.symm.trans hob)
  subst hkk
  refine ⟨k' + 1, hh, by omega, q2, ur_at _ _ _, ?_, ?_, ?_, ?_, ?_, ?_, ?_, ?_, ?_, ?_, ?_, ?_, ?_, ?_⟩
  · rw [ur_ne _ _ (by omega), ur_ne _ _ (by omega), ur_at]
  · rw [ur_ne _ _ (by omega)]; exact q5
  · rw [ur_ne _ _ (by omega), ur_ne _ _ (by omega), ur_ne _ _ (by omega), ur_ne _ _ (by omega), ur_ne _ _ (by omega), ur_ne _ _ (by omega)]; exact q6
  · intro i hi
    by_cases hik : i = k'
    · subst hik
      refine ⟨c, v, 0, hc, hv1, hv2, by omega, ur_at _ _ _, ?_, ur_at _ _ _, ?_, ur_at _ _ _, ?_, ?_⟩
      · rw [ur_ne _ _ (by omega), ur_ne _ _ (by omega), ur_ne _ _ (by omega), ur_ne _ _ (by omega), ur_ne _ _ (by omega), ur_at]
      · rw [ur_ne _ _ (by omega), ur_ne _ _ (by omega), ur_ne _ _ (by omega), ur_ne _ _ (by omega), ur_at]
      · rw [ur_ne _ _ (by omega), ur_ne _ _ (by omega), ur_ne _ _ (by omega), ur_at]; rfl
      · rw [ur_ne _ _ (by omega), ur_at]
    · obtain ⟨c1, v1, y, r1, r2, r3, r4, r5, r6, r7, r8, r9, r10, r11⟩ := q7 i (by omega)
      have hcc : c1 ≠ c := fun e => by
        rw [e, hfree] at r11
        exact nI_s0 (by omega) r11.symm
      refine ⟨c1, v1, y, r1, r2, r3, r4, ?_, ?_, ?_, ?_, ?_, ?_, ?_⟩
      · rw [ur_ne _ _ hik]; exact r5
      · rw [ur_ne _ _ (by omega), ur_ne _ _ (by omega), ur_ne _ _ (by omega), ur_ne _ _ (by omega), ur_ne _ _ (by omega), ur_ne _ _ (by omega)]; exact r6
      · rw [ur_ne _ _ hik]; exact r7
      · rw [ur_ne _ _ (by omega), ur_ne _ _ (by omega), ur_ne _ _ (by omega), ur_ne _ _ (by omega), ur_ne _ _ (by omega), ur_ne _ _ (by omega)]; exact r8
      · rw [ur_ne _ _ hik]; exact r9
      · rw [ur_ne _ _ (by omega), ur_ne _ _ (by omega), ur_ne _ _ (by omega), ur_ne _ _ (by omega), ur_ne _ _ (by omega), ur_ne _ _ (by omega)]; exact r10
      · rw [ur_ne _ _ (by omega), ur_ne _ _ (by omega), ur_ne _ _ (by omega), ur_ne _ _ (by omega), ur_ne _ _ (by omega), ur_ne _ _ (by omega)]; exact r11
  · intro d hd
    by_cases hdc : d = c
    · subst hdc
      exact Or.inr ⟨k', by omega, by rw [ur_ne _ _ (by omega), ur_at], ur_at _ _ _⟩
    · rw [ur_ne _ _ (by omega), ur_ne _ _ (by omega), ur_ne _ _ (by omega), ur_ne _ _ (by omega), ur_ne _ _ (by omega), ur_ne _ _ (by omega)]
      refine (q8 d hd).imp id ?_
      rintro ⟨i, r1, r2, r3⟩
      exact ⟨i, by omega, r2, by rw [ur_ne _ _ (by omega)]; exact r3⟩
  · intro f hf
    rw [ur_ne _ _ (by omega), ur_ne _ _ (by omega), ur_ne _ _ (by omega), ur_ne _ _ (by omega), ur_ne _ _ (by omega), ur_ne _ _ (by omega)]
    refine ⟨(q9 f hf).1, (q9 f hf).2.imp id ?_⟩
    rintro ⟨c1, r1, r2, r3⟩
    have hcc : c1 ≠ c := fun e => hst f hf (by rw [r2, e])
    exact ⟨c1, r1, r2, by rw [ur_ne _ _ (by omega), ur_ne _ _ (by omega), ur_ne _ _ (by omega), ur_ne _ _ (by omega), ur_ne _ _ (by omega), ur_ne _ _ (by omega)]; exact r3⟩
  · intro f hf
    rw [ur_ne _ _ (by omega), ur_ne _ _ (by omega), ur_ne _ _ (by omega), ur_ne _ _ (by omega), ur_ne _ _ (by omega), ur_ne _ _ (by omega)]; exact q10 f hf
  · intro d hd
    by_cases hdc : d = c
    · subst hdc
      rw [ur_at, ur_at]; exact ⟨rfl, Or.inl rfl⟩
    · rw [ur_ne _ _ hdc, ur_ne _ _ (by omega), ur_ne _ _ (by omega), ur_ne _ _ (by omega), ur_ne _ _ (by omega), ur_ne _ _ (by omega), ur_ne _ _ (by omega)]; exact q11 d hd
  · intro d hd
    rw [ur_ne _ _ (by omega), ur_ne _ _ (by omega), ur_ne _ _ (by omega), ur_ne _ _ (by omega), ur_ne _ _ (by omega), ur_ne _ _ (by omega), ur_ne _ _ (by omega)]; exact q12 d hd
  · intro d hd
    rw [ur_ne _ _ (by omega)]; exact q13 d hd
  · intro d hd
    rw [ur_at, hx d (by omega)]
    by_cases hdc : d = c
    · subst hdc
      rw [if_pos rfl, ur_ne _ _ (by omega), ur_at]
      exact ⟨fun q => (by cases q), fun q => absurd q (nI_s0 (by omega))⟩
    · rw [if_neg hdc, ur_ne _ _ (by omega), ur_ne _ _ (by omega), ur_ne _ _ (by omega), ur_ne _ _ (by omega), ur_ne _ _ (by omega), ur_ne _ _ (by omega)]; exact q14 d hd
  · intro d hd
    rw [ur_at]
    by_cases h64 : d < 64
    · rw [hx d h64, if_neg (by omega)]; exact q15 d hd
    · exact bt_big _ (by omega)
  · intro d hd
    rw [ur_ne _ _ (by omega)]; exact q16 d hd
  · intro d hd
    rw [ur_ne _ _ (by omega)]; exact q17 d hd
theorem PlainR.stake (h : PlainR C M Q ob oj ce we li sk fi cr p) {f : Nat} (hf : f < 6) {s : Int32} (hs : s = -1 ∨ ∃ c, c < C ∧ s = nI c ∧ p (290 + c) = 0) {x : Int64} (hx : ∀ c, c < C → (bt x c = false ↔ ∀ g, g < 6 → ur sk f s g ≠ nI c)) (hx2 : ∀ c, C ≤ c → bt x c = false) :
    PlainR C M Q ob (ur oj 11 x) ce we li (ur sk f s) fi cr (ur p (85 + f) s) := by
  obtain ⟨k, hh, q1, q2, q3, q4, q5, q6, q7, q8, q9, q10, q11, q12, q13, q14, q15, q16, q17⟩ := h
  refine ⟨k, hh, q1, q2, q3, ?_, q5, ?_, ?_, ?_, ?_, ?_, ?_, ?_, ?_, ?_, ?_, ?_, ?_⟩
  · rw [ur_ne _ _ (by omega)]; exact q4
  · rw [ur_ne _ _ (by omega)]; exact q6
  · intro i hi
    obtain ⟨c1, v, y, r1, r2, r3, r4, r5, r6, r7, r8, r9, r10, r11⟩ := q7 i hi
    exact ⟨c1, v, y, r1, r2, r3, r4, r5, by rw [ur_ne _ _ (by omega)]; exact r6, r7, by rw [ur_ne _ _ (by omega)]; exact r8, r9, by rw [ur_ne _ _ (by omega)]; exact r10, by rw [ur_ne _ _ (by omega)]; exact r11⟩
  · intro d hd
    rw [ur_ne _ _ (by omega)]; exact q8 d hd
  · intro g hg
    by_cases hgf : g = f
    · subst hgf
      rw [ur_at, ur_at]
      refine ⟨rfl, hs.imp id ?_⟩
      rintro ⟨c1, r1, r2, r3⟩
      exact ⟨c1, r1, r2, by rw [ur_ne _ _ (by omega)]; exact r3⟩
    · rw [ur_ne _ _ hgf, ur_ne _ _ (by omega)]
      refine ⟨(q9 g hg).1, (q9 g hg).2.imp id ?_⟩
      rintro ⟨c1, r1, r2, r3⟩
      exact ⟨c1, r1, r2, by rw [ur_ne _ _ (by omega)]; exact r3⟩
  · intro g hg
    rw [ur_ne _ _ (by omega)]; exact q10 g hg
  · intro d hd
    rw [ur_ne _ _ (by omega)]; exact q11 d hd
  · intro d hd
    rw [ur_ne _ _ (by omega), ur_ne _ _ (by omega)]; exact q12 d hd
  · intro d hd
    rw [ur_ne _ _ (by omega)]; exact q13 d hd
  · intro d hd
    rw [ur_ne _ _ (by omega), ur_ne _ _ (by omega)]; exact q14 d hd
  · intro d hd
    rw [ur_ne _ _ (by omega)]; exact q15 d hd
  · intro d hd
    rw [ur_at]; exact hx d hd
  · intro d hd
    rw [ur_at]; exact hx2 d hd
end PL
