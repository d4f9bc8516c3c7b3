/-! STAKE, MAP, WIND -/
section T2
variable {n z C Q t : Nat} {I : Nat → Nat → Int32} {J : Nat → Nat → Int64} {u : Option Nat}
theorem plj_290 {c : Nat} (h : c < 50) : plj (290 + c) = true := by
  have := plj_190 (i := 100 + c) (by omega); rwa [show 190 + (100 + c) = 290 + c by omega] at this
theorem plj_85 {g : Nat} (h : g < 13) : plj (85 + g) = true := by
  have := plj_10 (i := 75 + g) (by omega); rwa [show 10 + (75 + g) = 85 + g by omega] at this
/-- what a stake may be: none, or a cell without a bone -/
def stOk (C : Nat) (p : Nat → Int32) (s : Int32) : Prop := s = -1 ∨ ∃ c, c < C ∧ s = nI c ∧ p (290 + c) = 0
theorem s_setStake_yes (hn : 100000 ≤ n) (hC : C ≤ 48) (hg : I (z + 30) 2 = nI C) (hP : PlainM z C Q 32 I J 0) {f : Nat} (hf : f < 6) {s : Int32} (hs : stOk C (pa (I (z + 84)) 0) s) :
    ∃ x : Int64, f_X3_setStake n (z + 32) (nI f) s (mk z C I J t u) = some (1, mk z C (up2 I (z + 36) f s) (up2 J (z + 32) 11 x) t u) ∧ (∀ c, c < C → (bt x c = false ↔ ∀ g, g < 6 → ur (I (z + 36)) f s g ≠ nI c)) ∧ ∀ c, C ≤ c → bt x c = false := by
  obtain ⟨k, hh, q1, q2, q3, q4, q5, q6, q7, q8, q9, q10, q11, q12, q13, q14, q15, q16, q17⟩ := hP
  have ho : isP 32 := Or.inl rfl
  have hsk : ∀ g, g < 6 → up2 I (z + 36) f s (z + (32 + 4)) g = -1 ∨ ∃ c, c < C ∧ up2 I (z + 36) f s (z + (32 + 4)) g = nI c := by
    intro g hg2
    rw [up2_r]
    by_cases hgf : g = f
    · subst hgf
      rw [ur_at]
      exact hs.imp id (fun ⟨c, h1, h2, _⟩ => ⟨c, h1, h2⟩)
    · rw [ur_ne _ _ hgf]
      exact (q9 g hg2).2.imp id (fun ⟨c, h1, h2, _⟩ => ⟨c, h1, h2⟩)
  obtain ⟨x, e1, e2⟩ := stk_L (n := n) (z := z) (t := t) (u := u) ho hC hsk 6 0 n (up2 J (z + 32) 11 0) rfl (by omega)
  have hbody : f_X3_setStake n (z + 32) (nI f) s (mk z C I J t u) = some (1, mk z C (up2 I (z + 36) f s) (up2 J (z + 32) 11 x) t u) := by
    unfold f_X3_setStake
    rw [s_isFarmerC, cl_some, ite_bI, if_pos (show ¬ nI f < 0 ∧ ¬ (6 : Int32) ≤ nI f from ⟨nI_pos (by omega), by rw [show (6 : Int32) = nI 6 from rfl, nI_le' (by omega) (by omega)]; omega⟩)]
    simp only [jn, bd, gP_0 ho, gP_4 ho, nP_4 ho, sI_mk, sJ_mk, mJ_mk, ck_t (inb_nI (show f < 6 from hf) (by omega)), cl_nI (show f < 1000000 by omega)]
    have hL : f_X3_setStake_L54 n (z + 32) n (0 : Int32) (mk z C (up2 I (z + (32 + 4)) f s) (up2 J (z + 32) 11 0) t u) = some (1, mk z C (up2 I (z + 36) f s) (up2 J (z + 32) 11 x) t u) := by
      refine e1.trans ?_
      congr 3
      funext b j
      simp only [up2]
      split
      · split <;> rfl
      · rfl
    rcases hs with rfl | ⟨c, h1, rfl, h2⟩
    · rw [if_pos rfl]; exact hL
    · rw [if_neg (nI_nm1 (by omega)), s_holds, cl_some, ite_bI, if_pos (show _ from by
        rw [mI_mk, hg]
        exact ⟨nI_pos (by omega), fun w => by rw [nI_le' (by omega) (by omega)] at w; omega⟩), mJ_mk, if_pos ((bit_0 _ (by omega)).mpr ((q14 c h1).mpr h2))]
      simp only [gP_4 ho, nP_4 ho, sI_mk, sJ_mk, ck_t (inb_nI (show f < 6 from hf) (by omega))]
      exact hL
  refine ⟨x, hbody, ?_, ?_⟩
  · intro c hc
    have := e2 c (by omega)
    rw [up2_at, if_pos rfl, bt_0, up2_r] at this
    constructor
    · intro q g hg2 e
      have : bt x c = true := this.mpr (Or.inr ⟨g, Nat.zero_le _, hg2, e⟩)
      rw [q] at this; cases this
    · intro q
      cases hb : bt x c with
      | false => rfl
      | true =>
        rcases this.mp hb with w | ⟨g, -, g2, g3⟩
        · cases w
        · exact absurd g3 (q g g2)
  · intro c hc
    by_cases h64 : c < 64
    · have := e2 c h64
      rw [up2_at, if_pos rfl, bt_0, up2_r] at this
      cases hb : bt x c with
      | false => rfl
      | true =>
        rcases this.mp hb with w | ⟨g, -, g2, g3⟩
        · cases w
        · rcases hsk g g2 with w | ⟨d, d1, d2⟩
          · rw [up2_r] at w
            rw [w] at g3
            exact absurd g3.symm (nI_nm1 (by omega))
          · rw [up2_r] at d2
            rw [d2] at g3
            have := (nI_inj (by omega) (by omega)).mp g3
            omega
    · exact bt_big _ (by omega)
theorem s_setStake_no (hC : C ≤ 48) (hg : I (z + 30) 2 = nI C) (hP : PlainM z C Q 32 I J 0) (a s : Int32) (hno : ¬ (∃ f, f < 6 ∧ a = nI f ∧ stOk C (pa (I (z + 84)) 0) s)) :
    f_X3_setStake n (z + 32) a s (mk z C I J t u) = some (0, mk z C I J t u) := by
  obtain ⟨k, hh, q1, q2, q3, q4, q5, q6, q7, q8, q9, q10, q11, q12, q13, q14, q15, q16, q17⟩ := hP
  have ho : isP 32 := Or.inl rfl
  unfold f_X3_setStake
  rw [s_isFarmerC, cl_some, ite_bI]
  by_cases c1 : ¬ a < 0 ∧ ¬ (6 : Int32) ≤ a
  · obtain ⟨f, hf, rfl⟩ := nI_nm (N := 6) c1.1 c1.2 (by omega)
    rw [if_pos c1]
    simp only [jn, gP_0 ho]
    by_cases c2 : s = -1
    · exact absurd ⟨f, hf, rfl, Or.inl c2⟩ hno
    · rw [if_neg c2, s_holds, cl_some, ite_bI]
      by_cases c3 : ¬ s < 0 ∧ ¬ nI C ≤ s
      · obtain ⟨c, hc, rfl⟩ := nI_nm c3.1 c3.2 (by omega)
        rw [if_pos (show _ from by rw [mI_mk, hg]; exact c3), mJ_mk, if_neg (fun w => hno ⟨f, hf, rfl, Or.inr ⟨c, hc, rfl, (q14 c hc).mp ((bit_0 _ (by omega)).mp w)⟩⟩), zb_0]
      · rw [if_neg (show ¬ _ from by rw [mI_mk, hg]; exact c3), zb_0]
  · rw [if_neg c1, zb_0]
/-- stake(farmer, cell) -/
theorem op_stake' (hn : 100000 ≤ n) (hC : C ≤ 48) (hg : I (z + 30) 2 = nI C) (hm : I (z + 83) 3 = nI C) (hP : PlainM z C Q 32 I J 0) (a s : Int32) :
    (f_X10_stake n z a s (mk z C I J t u) = some (0, mk z C I J t u) ∧ f_X11_stake n (z + 83) a s (mk z C I J t u) = some (0, mk z C I J t u)) ∨
    (∃ (f : Nat) (x : Int64) (I2 : Nat → Nat → Int32), f < 6 ∧ stOk C (pa (I (z + 84)) 0) s ∧ I2 = up2 (up2 I (z + 36) f s) (z + 84) (85 + f) s ∧ PlainM z C Q 32 I2 (up2 J (z + 32) 11 x) 0 ∧
      f_X10_stake n z a s (mk z C I J t u) = some (1, mk z C (up2 I (z + 36) f s) (up2 J (z + 32) 11 x) t u) ∧ f_X11_stake n (z + 83) a s (mk z C (up2 I (z + 36) f s) (up2 J (z + 32) 11 x) t u) = some (1, mk z C I2 (up2 J (z + 32) 11 x) t u)) := by
  by_cases hy : ∃ f, f < 6 ∧ a = nI f ∧ stOk C (pa (I (z + 84)) 0) s
  · right
    obtain ⟨f, hf, rfl, hs⟩ := hy
    obtain ⟨x, e1, e2, e3⟩ := s_setStake_yes (n := n) (t := t) (u := u) hn hC hg hP hf hs
    refine ⟨f, x, _, hf, hs, rfl, ?_, ?_, ?_⟩
    · have hb2 := hP.stake hf hs e2 e3
      unfold PlainM
      have Rn : ∀ q, q ≠ z + 36 → q ≠ z + 84 → up2 (up2 I (z + 36) f s) (z + 84) (85 + f) s q = I q := fun q w1 w2 => by rw [up2_ne w2, up2_ne w1]
      have R4 : up2 (up2 I (z + 36) f s) (z + 84) (85 + f) s (z + (32 + 4)) = ur (I (z + (32 + 4))) f s := by rw [up2_ne (by omega)]; exact up2_r _ _ _ _
      have Ra : up2 (up2 I (z + 36) f s) (z + 84) (85 + f) s (z + 84) = ur (I (z + 84)) (85 + f) s := by rw [up2_r, up2_ne (by omega)]
      rw [Rn (z + 32) (by omega) (by omega), Rn (z + (32 + 1)) (by omega) (by omega), Rn (z + (32 + 2)) (by omega) (by omega), Rn (z + (32 + 3)) (by omega) (by omega), R4, Rn (z + (32 + 5)) (by omega) (by omega), Rn (z + (32 + 6)) (by omega) (by omega), Ra, pa_ur0 (plj_85 (by omega)), up2_r]
      exact hb2
    · unfold f_X10_stake
      rw [g0z_1, e1, cl_some, zb_1]
    · unfold f_X11_stake
      have x1 : (85 : Int32) + nI f = nI (85 + f) := nI_pl 85 f
      have e83 : up2 I (z + 36) f s (z + 83) 3 = nI C := by rw [up2_ne (by omega)]; exact hm
      rw [s_isFarmerR, cl_some, ite_bI, if_pos (show ¬ nI f < 0 ∧ ¬ (6 : Int32) ≤ nI f from ⟨nI_pos (by omega), by rw [show (6 : Int32) = nI 6 from rfl, nI_le' (by omega) (by omega)]; omega⟩)]
      rcases hs with rfl | ⟨c, h1, rfl, h2⟩
      · rw [if_pos rfl, g83_0, n84, x1, ck_t (inb_nI (by omega) (by omega)), cl_nI (by omega)]
        simp only [bd, sI_mk, zb_1]
      · have x2 : (290 : Int32) + nI c = nI (290 + c) := nI_pl 290 c
        rw [pa0 _ (plj_290 (by omega))] at h2
        rw [if_neg (nI_nm1 (by omega)), s_isCellR _ e83 (by omega), cl_some, ite_bI, if_pos ⟨nI_pos (by omega), fun w => by rw [nI_le' (by omega) (by omega)] at w; omega⟩, g83_0, n84, x2, ck_t (inb_nI (by omega) (by omega)), cl_nI (by omega), if_pos (show mI (mk z C (up2 I (z + 36) f (nI c)) (up2 J (z + 32) 11 x) t u) (z + 84) (290 + c) ≤ 0 by rw [mI_mk, up2_ne (by omega), h2]; decide), g83_0, n84, x1, ck_t (inb_nI (by omega) (by omega)), cl_nI (by omega)]
        simp only [bd, sI_mk, zb_1]
  · left
    constructor
    · unfold f_X10_stake
      rw [g0z_1, s_setStake_no hC hg hP a s hy, cl_some, zb_0]
    · unfold f_X11_stake
      rw [s_isFarmerR, cl_some, ite_bI]
      by_cases c1 : ¬ a < 0 ∧ ¬ (6 : Int32) ≤ a
      · obtain ⟨f, hf, rfl⟩ := nI_nm (N := 6) c1.1 c1.2 (by omega)
        rw [if_pos c1]
        by_cases c2 : s = -1
        · exact absurd ⟨f, hf, rfl, Or.inl c2⟩ hy
        · rw [if_neg c2, s_isCellR _ hm (by omega), cl_some, ite_bI]
          by_cases c3 : ¬ s < 0 ∧ ¬ nI C ≤ s
          · obtain ⟨c, hc, rfl⟩ := nI_nm c3.1 c3.2 (by omega)
            have x2 : (290 : Int32) + nI c = nI (290 + c) := nI_pl 290 c
            have h5 : ¬ I (z + 84) (290 + c) ≤ 0 := fun w => by
              refine hy ⟨f, hf, rfl, Or.inr ⟨c, hc, rfl, ?_⟩⟩
              obtain ⟨k, hh, q1, q2, q3, q4, q5, q6, q7, q8, -⟩ := hP
              rcases q8 c hc with e | ⟨i, hi, e, -⟩
              · exact e
              · rw [pa0 _ (plj_290 (by omega))] at e
                rw [e, show (0 : Int32) = nI 0 from rfl, nI_le' (by omega) (by omega)] at w
                omega
            rw [if_pos c3, g83_0, n84, x2, ck_t (inb_nI (by omega) (by omega)), cl_nI (by omega), if_neg (show ¬ mI (mk z C I J t u) (z + 84) (290 + c) ≤ 0 from h5), zb_0]
          · rw [if_neg c3, zb_0]
      · rw [if_neg c1, zb_0]
/-- map(bone, cell) -/
theorem op_map' (hC : C ≤ 48) (hg : I (z + 30) 2 = nI C) (hm : I (z + 83) 3 = nI C) {k : Nat} (hk : k ≤ 24) (h1 : I (z + 32) 7 = nI k) (h2 : I (z + 84) 1 = nI k) (a b : Int32) :
    (f_X10_map n z a b (mk z C I J t u) = some (0, mk z C I J t u) ∧ f_X11_map n (z + 83) a b (mk z C I J t u) = some (0, mk z C I J t u)) ∨
    (∃ i, i < 24 ∧ (b = -1 ∨ ∃ c, c < C ∧ b = nI c) ∧ f_X10_map n z a b (mk z C I J t u) = some (1, mk z C (up2 I (z + 7) i b) J t u) ∧ f_X11_map n (z + 83) a b (mk z C (up2 I (z + 7) i b) J t u) = some (1, mk z C (up2 (up2 I (z + 7) i b) (z + 84) (165 + i) b) J t u)) := by
  by_cases c1 : ¬ a < 0 ∧ ¬ nI k ≤ a
  · obtain ⟨i, hi, rfl⟩ := nI_nm c1.1 c1.2 (by omega)
    have x1 : (165 : Int32) + nI i = nI (165 + i) := nI_pl 165 i
    have h84 : up2 I (z + 7) i b (z + 84) 1 = nI k := by rw [up2_ne (by omega)]; exact h2
    have h83 : up2 I (z + 7) i b (z + 83) 3 = nI C := by rw [up2_ne (by omega)]; exact hm
    by_cases c2 : b = -1
    · right
      refine ⟨i, by omega, Or.inl c2, ?_, ?_⟩
      · unfold f_X10_map
        rw [g0z_1, s_isBoneC, cl_some, ite_bI, if_pos (show _ from by rw [mI_mk, h1]; exact c1), if_pos c2, g0z_3, g1_5, n7, ck_t (inb_nI (by omega) (by omega)), cl_nI (by omega)]
        simp only [bd, sI_mk, zb_1]
      · unfold f_X11_map
        rw [s_isBoneR _ h84 (by omega), cl_some, ite_bI, if_pos c1, if_pos c2, g83_0, n84, x1, ck_t (inb_nI (by omega) (by omega)), cl_nI (by omega)]
        simp only [bd, sI_mk, zb_1]
    · by_cases c3 : ¬ b < 0 ∧ ¬ nI C ≤ b
      · right
        obtain ⟨c, hc, rfl⟩ := nI_nm c3.1 c3.2 (by omega)
        refine ⟨i, by omega, Or.inr ⟨c, hc, rfl⟩, ?_, ?_⟩
        · unfold f_X10_map
          rw [g0z_1, s_isBoneC, cl_some, ite_bI, if_pos (show _ from by rw [mI_mk, h1]; exact c1), if_neg c2, g0z_0, s_holds, cl_some, ite_bI, if_pos (show _ from by rw [mI_mk, hg]; exact c3), g0z_3, g1_5, n7, ck_t (inb_nI (by omega) (by omega)), cl_nI (by omega)]
          simp only [bd, sI_mk, zb_1]
        · unfold f_X11_map
          rw [s_isBoneR _ h84 (by omega), cl_some, ite_bI, if_pos c1, if_neg c2, s_isCellR _ h83 (by omega), cl_some, ite_bI, if_pos c3, g83_0, n84, x1, ck_t (inb_nI (by omega) (by omega)), cl_nI (by omega)]
          simp only [bd, sI_mk, zb_1]
      · left
        constructor
        · unfold f_X10_map
          rw [g0z_1, s_isBoneC, cl_some, ite_bI, if_pos (show _ from by rw [mI_mk, h1]; exact c1), if_neg c2, g0z_0, s_holds, cl_some, ite_bI, if_neg (show ¬ _ from by rw [mI_mk, hg]; exact c3), zb_0]
        · unfold f_X11_map
          rw [s_isBoneR _ h2 (by omega), cl_some, ite_bI, if_pos c1, if_neg c2, s_isCellR _ hm (by omega), cl_some, ite_bI, if_neg c3, zb_0]
  · left
    constructor
    · unfold f_X10_map
      rw [g0z_1, s_isBoneC, cl_some, ite_bI, if_neg (show ¬ _ from by rw [mI_mk, h1]; exact c1), zb_0]
    · unfold f_X11_map
      rw [s_isBoneR _ h2 (by omega), cl_some, ite_bI, if_neg c1, zb_0]
end T2
