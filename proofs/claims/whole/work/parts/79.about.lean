/-! ABOUT keeps the relation -/
section AO
variable {z Q : Nat} {TX : TXty}
theorem Op_about_ok (hTX : TXok z TX) : Op_about z (Rel z TX Q) := by
  intro n hn S a hR
  obtain ⟨W, H, I, J, t, u, w1, w2, w3, w4, rfl, hRI⟩ := hR
  have hD : dims W H := ⟨w1, w2, w3, w4⟩
  have hC := hD.C
  obtain ⟨hG, hM4, hTa, hF, hT1, hT8, hP1, hP2, -⟩ := id hRI
  have hM := hRI.mod
  have ho : isP 32 := Or.inl rfl
  obtain ⟨T, hW, hTc, hTr⟩ := PlainR.out hP1 hC
  have hTc : ClsT z (W * H) 32 I J T := hTc
  have hTr : RefT z (W * H) 0 I T := hTr
  have h24 := hW.1
  obtain ⟨w, tx, q1, q2, q3, q4, q5, q6, q7, q8, q9, q10, q11⟩ := id hT1
  rw [ta_in (by decide), Nat.zero_add, Nat.zero_add] at q4
  rw [ta_in (by decide), Nat.zero_add, Nat.zero_add] at q6
  rw [ta_in (by decide), Nat.zero_add, Nat.zero_add] at q7
  obtain ⟨l, hl1, hl2, hl3, -⟩ := id hTa
  have m1 : I (z + 84) 1 = nI (tk T) := hTr.cnt
  have m0 : I (z + 84) 0 = nI (th T) := hTr.hor
  obtain ⟨g, eg⟩ := s_fieldsR (n := n) (J := J) (t := t) (u := u) hn hD hM (by omega) hW hTr
  have same : ∀ r, f_X10_about n z a (mk z (W * H) I J t u) = some (r, mk z (W * H) I J t u) → f_X11_about n (z + 83) a (mk z (W * H) I J t u) = some (r, mk z (W * H) I J t u) → ∃ (r : Int32) (S1 S2 : MS), f_X10_about n z a (mk z (W * H) I J t u) = some (r, S1) ∧ f_X11_about n (z + 83) a S1 = some (r, S2) ∧ Rel z TX Q S2 := fun r e1 e2 => ⟨r, _, _, e1, e2, W, H, I, J, t, u, w1, w2, w3, w4, rfl, hRI⟩
  -- the plan
  by_cases cp : ¬ a < 10 ∧ ¬ (50 : Int32) ≤ a
  · obtain ⟨k, hk, rfl⟩ := nI_nm (a := a) (N := 50) (fun w => cp.1 (by rw [i32_lt] at w ⊢; have : (10 : Int32).toInt = 10 := rfl; have : (0 : Int32).toInt = 0 := rfl; omega)) cp.2 (by omega)
    have hk10 : 10 ≤ k := by
      have := cp.1
      rw [show (10 : Int32) = nI 10 from rfl, nI_lt' (by omega) (by omega)] at this; omega
    have e1 : nI k - (10 : Int32) = nI (k - 10) := nI_sb (b := 10) hk10
    have e2 : (125 : Int32) + nI k - (10 : Int32) = nI (115 + k) := by
      rw [show (125 : Int32) = nI 125 from rfl, nI_pl, show (10 : Int32) = nI 10 from rfl, nI_sb (by omega)]; congr 1; omega
    have := (q10 (k - 10) (by omega)).1
    rw [ta_in (by have := tlj_100 (i := 25 + (k - 10)) (by omega); rwa [show 100 + (25 + (k - 10)) = 0 + 125 + (k - 10) by omega] at this)] at this
    refine same (I (z + 6) (k - 10)) ?_ ?_
    · unfold f_X10_about
      simp only [jn]
      rw [if_neg cp.1, if_neg cp.2, g0z_3, g1_4, n6, e1, ck_t (inb_nI (by omega) (by omega)), cl_nI (by omega), mI_mk]
    · unfold f_X11_about
      rw [s_isIn, cl_some, ite_bI, if_pos (show (10 : Int32) ≤ nI k ∧ nI k ≤ 49 by
        rw [show (10 : Int32) = nI 10 from rfl, show (49 : Int32) = nI 49 from rfl, nI_le' (by omega) (by omega), nI_le' (by omega) (by omega)]; omega), g83_0, n84, e2, ck_t (inb_nI (by omega) (by omega)), cl_nI (by omega), mI_mk, show 115 + k = 0 + (0 + 125 + (k - 10)) by omega, ← this]
  have cp' : ¬ ((10 : Int32) ≤ a ∧ a ≤ 49) := fun q => cp ⟨by have := q.1; rw [i32_le] at this; rw [i32_lt]; omega, by
    have := q.2
    rw [i32_le] at this ⊢
    have : (49 : Int32).toInt = 49 := rfl
    have : (50 : Int32).toInt = 50 := rfl
    omega⟩
  have e59 : (59 : Int32) + nI (tk T) = nI (59 + tk T) := nI_pl 59 _
  -- the map
  by_cases cm : (¬ a < 60 ∧ ¬ (84 : Int32) ≤ a) ∧ (60 : Int32) ≤ a ∧ a ≤ nI (59 + tk T)
  · obtain ⟨⟨cm1, cm2⟩, cm3, cm4⟩ := cm
    obtain ⟨k, hk, rfl⟩ := nI_nm (a := a) (N := 84) (fun w => cm1 (by rw [i32_lt] at w ⊢; have : (60 : Int32).toInt = 60 := rfl; have : (0 : Int32).toInt = 0 := rfl; omega)) cm2 (by omega)
    have hk60 : 60 ≤ k := by
      rw [show (60 : Int32) = nI 60 from rfl, nI_lt' (by omega) (by omega)] at cm1; omega
    rw [nI_le' (by omega) (by omega)] at cm4
    have e1 : nI k - (60 : Int32) = nI (k - 60) := nI_sb (b := 60) hk60
    have e2 : (165 : Int32) + nI k - (60 : Int32) = nI (105 + k) := by
      rw [show (165 : Int32) = nI 165 from rfl, nI_pl, show (60 : Int32) = nI 60 from rfl, nI_sb (by omega)]; congr 1; omega
    have := (q11 (k - 60) (by omega)).1
    rw [ta_in (by have := tlj_100 (i := 65 + (k - 60)) (by omega); rwa [show 100 + (65 + (k - 60)) = 0 + 165 + (k - 60) by omega] at this)] at this
    refine same (I (z + 7) (k - 60)) ?_ ?_
    · unfold f_X10_about
      simp only [jn]
      have hj : ∀ X Y : Option (Int32 × MS), Y = some (I (z + 7) (k - 60), mk z (W * H) I J t u) → (if nI k < 10 then Y else if (50 : Int32) ≤ nI k then Y else X) = some (I (z + 7) (k - 60), mk z (W * H) I J t u) := fun X Y e => by
        by_cases h1 : nI k < 10
        · rw [if_pos h1, e]
        · rw [if_neg h1, if_pos (Classical.byContradiction fun w => cp ⟨h1, w⟩), e]
      refine hj _ _ ?_
      rw [if_neg cm1, if_neg cm2, g0z_1, e1, s_isBoneC, cl_some, ite_bI, if_pos (show ¬ nI (k - 60) < 0 ∧ ¬ mI (mk z (W * H) I J t u) (z + 32) 7 ≤ nI (k - 60) from ⟨nI_pos (by omega), by rw [mI_mk, hTc.1, nI_le' (by omega) (by omega)]; omega⟩), g0z_3, g1_5, n7, ck_t (inb_nI (by omega) (by omega)), cl_nI (by omega), mI_mk]
    · unfold f_X11_about
      rw [s_isIn, cl_some, ite_bI, if_neg cp', g83_0, n84, ck_t (by decide), s_isIn, cl_some, ite_bI, mI_mk, show (1 : Int32).toNatClampNeg = 1 from rfl, m1, e59, if_pos ⟨cm3, (nI_le' (by omega) (by omega)).mpr cm4⟩, g83_0, n84, e2, ck_t (inb_nI (by omega) (by omega)), cl_nI (by omega), mI_mk, show 105 + k = 0 + (0 + 165 + (k - 60)) by omega, ← this]
  have cm' : ¬ ((60 : Int32) ≤ a ∧ a ≤ nI (59 + tk T)) := fun q => cm ⟨⟨by have := q.1; rw [i32_le] at this; rw [i32_lt]; omega, by
    have := q.2
    rw [i32_le, nI_t (by omega)] at this
    rw [i32_le]
    have : (84 : Int32).toInt = 84 := rfl
    omega⟩, q⟩
  -- the rest
  have hcls : f_X10_about n z a (mk z (W * H) I J t u) = (if a = (0 : Int32) then some (nI W, mk z (W * H) I J t u) else if a = (1 : Int32) then some (nI H, mk z (W * H) I J t u) else if a = (2 : Int32) then some (nI (th T), mk z (W * H) I J t u) else if a = (3 : Int32) then some (nI (tk T), mk z (W * H) I J t u) else if a = (4 : Int32) then some (nI w, mk z (W * H) I J t u) else if a = (5 : Int32) then some (nI tx, mk z (W * H) I J t u) else if a = (6 : Int32) then some (I (z + 84) 4, mk z (W * H) I J t u) else if a = (7 : Int32) then some (nI (fldT W (W * H) T), mk z (W * H) I J t u) else if a = (8 : Int32) then some (nI l, mk z (W * H) I J t u) else if a = (9 : Int32) then some (nI (cnt (fun c => !decide (I (z + (32 + 6)) c = -1)) (W * H)), mk z (W * H) I J t u) else some (-2, mk z (W * H) I J t u)) := by
    have x0 : mI (mk z (W * H) I J t u) (z + 30) 0 = nI W := hG.1
    have x1 : mI (mk z (W * H) I J t u) (z + 30) 1 = nI H := hG.2.1
    have x2 : mI (mk z (W * H) I J t u) (z + 32) 8 = nI (th T) := hTc.2.1
    have x3 : mI (mk z (W * H) I J t u) (z + 32) 7 = nI (tk T) := hTc.1
    have x4 : mI (mk z (W * H) I J t u) (z + 1) 6 = nI w := q3
    have x5 : mI (mk z (W * H) I J t u) (z + 1) 7 = nI tx := q5
    have x6 : mI (mk z (W * H) I J t u) (z + 1) 8 = I (z + 84) 4 := q7
    have x8 : mI (mk z (W * H) I J t u) (z + 15) 1 = nI l := hl2
    have hb : ¬ a < 60 → ¬ (84 : Int32) ≤ a → ¬ (¬ (a - 60) < 0 ∧ ¬ mI (mk z (W * H) I J t u) (z + 32) 7 ≤ (a - 60)) := fun h1 h2 h3 => by
      obtain ⟨k, hk, rfl⟩ := nI_nm (a := a) (N := 84) (fun w => h1 (by rw [i32_lt] at w ⊢; have : (60 : Int32).toInt = 60 := rfl; have : (0 : Int32).toInt = 0 := rfl; omega)) h2 (by omega)
      have hk60 : 60 ≤ k := by
        rw [show (60 : Int32) = nI 60 from rfl, nI_lt' (by omega) (by omega)] at h1; omega
      have h3 := h3.2
      rw [x3, show nI k - (60 : Int32) = nI (k - 60) from nI_sb (b := 60) hk60, nI_le' (by omega) (by omega)] at h3
      exact cm' ⟨by rw [show (60 : Int32) = nI 60 from rfl, nI_le' (by omega) (by omega)]; exact hk60, by rw [nI_le' (by omega) (by omega)]; omega⟩
    unfold f_X10_about
    simp only [jn, g0z_0, g0z_1, g0z_3, g0z_5, x0, x1, x2, x3, x4, x5, x6, x8, s_fieldsC hn hD hG ho hTc, cl_some, f_X3_sown, show ∀ K, f_X3_sown_L4 n (z + 32) n 0 0 K = f_X3_sown_L4 n (z + 32) n (nI (cnt (fun c => !decide (I (z + (32 + 6)) c = -1)) 0)) (nI 0) K from fun _ => rfl, sown_LC (n := n) (z := z) (I := I) (J := J) (t := t) (u := u) hC ho (W * H) 0 n (Nat.zero_add _) (show W * H < n by omega), s_isBoneC, ite_bI]
    have hj : ∀ X Y Z : Option (Int32 × MS), (if a < 10 then (if a < 60 then Y else if (84 : Int32) ≤ a then Y else if (¬ (a - 60) < 0 ∧ ¬ nI (tk T) ≤ (a - 60)) then Z else Y) else if (50 : Int32) ≤ a then (if a < 60 then Y else if (84 : Int32) ≤ a then Y else if (¬ (a - 60) < 0 ∧ ¬ nI (tk T) ≤ (a - 60)) then Z else Y) else X) = Y := fun X Y Z => by
      have k : (if a < 60 then Y else if (84 : Int32) ≤ a then Y else if (¬ (a - 60) < 0 ∧ ¬ nI (tk T) ≤ (a - 60)) then Z else Y) = Y := by
        by_cases h1 : a < 60
        · rw [if_pos h1]
        · by_cases h2 : (84 : Int32) ≤ a
          · rw [if_neg h1, if_pos h2]
          · rw [if_neg h1, if_neg h2, if_neg (by rw [← x3]; exact hb h1 h2)]
      rw [k]
      by_cases h1 : a < 10
      · rw [if_pos h1]
      · rw [if_neg h1, if_pos (Classical.byContradiction fun w => cp ⟨h1, w⟩)]
    exact hj _ _ _
  have href : f_X11_about n (z + 83) a (mk z (W * H) I J t u) = (if a = (0 : Int32) then some (nI W, mk z (W * H) I J t u) else if a = (1 : Int32) then some (nI H, mk z (W * H) I J t u) else if a = (2 : Int32) then some (nI (th T), mk z (W * H) I J t u) else if a = (3 : Int32) then some (nI (tk T), mk z (W * H) I J t u) else if a = (4 : Int32) then some (nI w, mk z (W * H) I J t u) else if a = (5 : Int32) then some (nI tx, mk z (W * H) I J t u) else if a = (6 : Int32) then some (I (z + 84) 4, mk z (W * H) I J t u) else if a = (7 : Int32) then some (nI (fldT W (W * H) T), mk z (W * H) (upr I (z + 93) g) J t u) else if a = (8 : Int32) then some (nI l, mk z (W * H) I J t u) else if a = (9 : Int32) then some (nI (cnt (fun c => !decide (I (z + 84) (240 + c) < 0)) (W * H)), mk z (W * H) I J t u) else some (-2, mk z (W * H) I J t u)) := by
    have x0 : mI (mk z (W * H) I J t u) (z + 83) 1 = nI W := hM.1
    have x1 : mI (mk z (W * H) I J t u) (z + 83) 2 = nI H := hM.2.1
    have x2 : mI (mk z (W * H) I J t u) (z + 84) 0 = nI (th T) := m0
    have x3 : mI (mk z (W * H) I J t u) (z + 84) 1 = nI (tk T) := m1
    have x4 : mI (mk z (W * H) I J t u) (z + 84) 2 = nI w := q4
    have x5 : mI (mk z (W * H) I J t u) (z + 84) 3 = nI tx := q6
    have x6 : mI (mk z (W * H) I J t u) (z + 84) 4 = I (z + 84) 4 := rfl
    have x8 : mI (mk z (W * H) I J t u) (z + 83) 7 = nI l := hl3
    unfold f_X11_about
    simp only [s_isIn, cl_some, ite_bI, if_neg cp', g83_0, n84, ck_t (show inb (0 : Int32) 2720 = true by decide), ck_t (show inb (1 : Int32) 2720 = true by decide), ck_t (show inb (2 : Int32) 2720 = true by decide), ck_t (show inb (3 : Int32) 2720 = true by decide), ck_t (show inb (4 : Int32) 2720 = true by decide), show (0 : Int32).toNatClampNeg = 0 from rfl, show (1 : Int32).toNatClampNeg = 1 from rfl, show (2 : Int32).toNatClampNeg = 2 from rfl, show (3 : Int32).toNatClampNeg = 3 from rfl, show (4 : Int32).toNatClampNeg = 4 from rfl, x0, x1, x2, x3, x4, x5, x6, x8, eg, f_X11_crops, show ∀ K, f_X11_crops_L4 n (z + 83) n 0 0 K = f_X11_crops_L4 n (z + 83) n (nI (cnt (fun c => !decide (I (z + 84) (240 + c) < 0)) 0)) (nI 0) K from fun _ => rfl, crops_LR (n := n) (J := J) (t := t) (u := u) hC hM (W * H) 0 n (Nat.zero_add _) (show W * H < n by omega)]
    exact if_neg (by
      show ¬ ((60 : Int32) ≤ a ∧ a ≤ 59 + nI (tk T))
      rw [e59]; exact cm')
  have hcr : cnt (fun c => !decide (I (z + (32 + 6)) c = -1)) (W * H) = cnt (fun c => !decide (I (z + 84) (240 + c) < 0)) (W * H) := by
    refine cnt_congr _ (fun c hc => ?_)
    have h1 : I (z + (32 + 6)) c = tr T c := hTc.2.2.2.2.1 c hc
    have h2 : I (z + 84) (240 + c) = tr T c := by have := hTr.crp hC hc; rw [show 0 + 240 + c = 240 + c by omega] at this; exact this
    rw [h1, h2]
    rcases hW.2.2.2.2.2 c hc with e | ⟨v, hv, e⟩
    · rw [e]; rfl
    · have hh := hW.2.1
      rw [e]
      have a1 : ¬ nI v = -1 := nI_nm1 (by omega)
      have a2 : ¬ nI v < 0 := nI_pos (by omega)
      simp [a1, a2]
  by_cases a0 : a = 0
  · exact same _ (hcls.trans (if_pos a0)) (href.trans (if_pos a0))
  rw [if_neg a0] at hcls href
  by_cases a1 : a = 1
  · exact same _ (hcls.trans (if_pos a1)) (href.trans (if_pos a1))
  rw [if_neg a1] at hcls href
  by_cases a2 : a = 2
  · exact same _ (hcls.trans (if_pos a2)) (href.trans (if_pos a2))
  rw [if_neg a2] at hcls href
  by_cases a3 : a = 3
  · exact same _ (hcls.trans (if_pos a3)) (href.trans (if_pos a3))
  rw [if_neg a3] at hcls href
  by_cases a4 : a = 4
  · exact same _ (hcls.trans (if_pos a4)) (href.trans (if_pos a4))
  rw [if_neg a4] at hcls href
  by_cases a5 : a = 5
  · exact same _ (hcls.trans (if_pos a5)) (href.trans (if_pos a5))
  rw [if_neg a5] at hcls href
  by_cases a6 : a = 6
  · exact same _ (hcls.trans (if_pos a6)) (href.trans (if_pos a6))
  rw [if_neg a6] at hcls href
  by_cases a7 : a = 7
  · exact ⟨_, _, _, hcls.trans (if_pos a7), href.trans (if_pos a7), W, H, _, J, t, u, w1, w2, w3, w4, rfl, hRI.row93 hTX g⟩
  rw [if_neg a7] at hcls href
  by_cases a8 : a = 8
  · exact same _ (hcls.trans (if_pos a8)) (href.trans (if_pos a8))
  rw [if_neg a8] at hcls href
  by_cases a9 : a = 9
  · exact same _ (hcls.trans (if_pos a9)) ((href.trans (if_pos a9)).trans (by rw [hcr]))
  rw [if_neg a9] at hcls href
  exact same _ hcls href
end AO
