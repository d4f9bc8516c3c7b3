/-! CELL, FARMER, SOW, ABOUT keep the relation -/
section QO
variable {z Q : Nat} {TX : TXty}
/-- what the relation doesn't see: rows that are used for reckoning alone -/
theorem RelI.scr {W H t : Nat} {I I' : Nat → Nat → Int32} {J J' : Nat → Nat → Int64} (hTX : TXok z TX) (h : RelI z TX Q W H I J t) (hI : ∀ q, (q < z + 24 ∨ (z + 30 ≤ q ∧ q < z + 46) ∨ q = z + 85 ∨ q = z + 86 ∨ z + 97 ≤ q) → I' q = I q) (h83 : ∀ j, j ≤ 9 → I' (z + 83) j = I (z + 83) j) (h84 : ∀ j, j < 680 → I' (z + 84) j = I (z + 84) j) (hJ : ∀ q, (q = z + 30 ∨ q = z + 31 ∨ q = z + 32 ∨ q = z + 39) → J' q = J q) : RelI z TX Q W H I' J' t := by
  obtain ⟨hG, hM, hT, hF, hT1, hT8, hP1, hP2, k, k', x1, x2, x3, x4, x5, x6, x7⟩ := h
  have p0 : pa (I' (z + 84)) 0 = pa (I (z + 84)) 0 := pa_congr (fun j hj => h84 _ (by have := plj_b hj; omega))
  have p1 : pa (I' (z + 84)) 340 = pa (I (z + 84)) 340 := pa_congr (fun j hj => h84 _ (by have := plj_b hj; omega))
  have t0 : ∀ B, B = 0 ∨ B = 340 → ta (I' (z + 84)) B = ta (I (z + 84)) B := fun B hB => by
    funext j
    unfold ta
    by_cases hj : tlj j = true
    · rw [if_pos hj, if_pos hj]; exact h84 _ (by have := tlj_b hj; omega)
    · rw [if_neg hj, if_neg hj]
  refine ⟨?_, ⟨?_, ?_, ?_, ?_⟩, ?_, ⟨?_, ?_⟩, hT1.keep (fun i hi => hI _ (by omega)) (t0 0 (Or.inl rfl)), hT8.keep (fun i hi => hI _ (by omega)) (t0 340 (Or.inr rfl)), hP1.keep (fun i hi => hI _ (by omega)) (hJ _ (by omega)) p0, hP2.keep (fun i hi => hI _ (by omega)) (hJ _ (by omega)) p1, k, k', x1, x2, x3, x4, ?_, ?_, hTX _ _ _ _ (hI _ (by omega)) (fun q hq => hI _ (by omega)) x7⟩
  · rw [hI _ (by omega), hJ _ (by omega), hJ _ (by omega)]; exact hG
  · rw [h83 1 (by omega)]; exact hM.1
  · rw [h83 2 (by omega)]; exact hM.2.1
  · rw [h83 3 (by omega)]; exact hM.2.2.1
  · rw [h83 4 (by omega)]; exact hM.2.2.2
  · rw [hI (z + 15) (by omega), h83 7 (by omega), hI (z + 16) (by omega), hI (z + 86) (by omega)]; exact hT
  · rw [hI (z + 17) (by omega), h83 8 (by omega)]; exact hF.1
  · rw [hI (z + 17) (by omega), h83 9 (by omega)]; exact hF.2
  · rw [hI _ (by omega)]; exact x5
  · rw [hI _ (by omega)]; exact x6
theorem RelI.row93 {W H t : Nat} {I : Nat → Nat → Int32} {J : Nat → Nat → Int64} (hTX : TXok z TX) (h : RelI z TX Q W H I J t) (g : Nat → Int32) : RelI z TX Q W H (upr I (z + 93) g) J t :=
  h.scr hTX (fun q hq => upr_ne (by omega)) (fun j _ => by rw [upr_ne (by omega)]) (fun j _ => by rw [upr_ne (by omega)]) (fun _ _ => rfl)
theorem RelI.mod {W H t : Nat} {I : Nat → Nat → Int32} {J : Nat → Nat → Int64} (h : RelI z TX Q W H I J t) : ModR z W H 0 I := h.2.1
theorem RefT.upr93 {C B : Nat} {I : Nat → Nat → Int32} {T : TP} (h : RefT z C B I T) (g : Nat → Int32) : RefT z C B (upr I (z + 93) g) T := by unfold RefT; rw [upr_ne (by omega)]; exact h
theorem Op_cell_ok (hTX : TXok z TX) : Op_cell z (Rel z TX Q) := by
  intro n hn S a b hR
  obtain ⟨W, H, I, J, t, u, w1, w2, w3, w4, rfl, hRI⟩ := hR
  have hD : dims W H := ⟨w1, w2, w3, w4⟩
  have hC := hD.C
  obtain ⟨hG, hM4, hTa, hF, hT1, hT8, hP1, hP2, -⟩ := id hRI
  have hM := hRI.mod
  have ho : isP 32 := Or.inl rfl
  by_cases c1 : ¬ a < 0 ∧ ¬ nI (W * H) ≤ a
  · obtain ⟨c, hc, rfl⟩ := nI_nm c1.1 c1.2 (by omega)
    obtain ⟨T, hW, hTc, hTr⟩ := PlainR.out hP1 hC
    have hTc : ClsT z (W * H) 32 I J T := hTc
    have hTr : RefT z (W * H) 0 I T := hTr
    obtain ⟨r, er, hr⟩ := s_fieldAt (n := n) (t := t) (u := u) hn hD hG ho hTc hc
    obtain ⟨g, eg, hg⟩ := s_find (n := n) (J := J) (t := t) (u := u) hn hD hM (by omega) hW hTr
    have hM' : ModR z W H 0 (upr I (z + 93) g) := hM.upr (by omega)
    have hTr' := hTr.upr93 g
    have g93 : upr I (z + 93) g (z + 93) = g := upr_at _ _ _
    have bl : bits r < 1000000 := by have := bits_le r; omega
    have hcls : f_X10_cell n z (nI c) b (mk z (W * H) I J t u) = (if b = (0 : Int32) then some (g c, mk z (W * H) I J t u) else if b = (1 : Int32) then some (nI (bits r), mk z (W * H) I J t u) else if b = (2 : Int32) then some (nI (msk (fun f => dec (∃ s, ts T f = some s ∧ bt r s = true)) 6), mk z (W * H) I J t u) else if b = (3 : Int32) then some (tr T c, mk z (W * H) I J t u) else if b = (4 : Int32) then some ((if bt (J (z + 32) 9) c = true then 1 else 0), mk z (W * H) I J t u) else some (-10, mk z (W * H) I J t u)) := by
      have hcc : ¬ nI c < 0 ∧ ¬ mI (mk z (W * H) I J t u) (z + 30) 2 ≤ nI c := by rw [mI_mk, hG.2.2.1]; exact c1
      have hcr : mI (mk z (W * H) I J t u) (z + (32 + 6)) c = tr T c := hTc.2.2.2.2.1 c hc
      unfold f_X10_cell
      simp only [g0z_0, s_holds, cl_some, ite_bI, if_pos hcc, g0z_1, er, low_lab (n := n) hC hg hc hr, s_bitCount, s_holders hn hD ho hW hTc r (fun f _ => dec_t), gP_6 ho, nP_6 ho, ck_t (inb_nI hc (show W * H < 1000000 by omega)), cl_nI (show c < 1000000 by omega), hcr]
      rw [mJ_mk]
      by_cases hb : bt (J (z + 32) 9) c = true
      · rw [if_pos hb, if_neg (show ¬ lg_cmp (lush (J (z + 32) 9) (nI c) &&& 1) 0 = 0 from fun w => by rw [bit_0 _ (by omega), hb] at w; cases w)]
      · rw [if_neg hb, if_pos (show lg_cmp (lush (J (z + 32) 9) (nI c) &&& 1) 0 = 0 from (bit_0 _ (by omega)).mpr (by simpa using hb))]
    have hwel : I (z + 84) (190 + c) = (if bt (J (z + 32) 9) c = true then 1 else 0) := by
      obtain ⟨k, hh, q1, q2, q3, q4, q5, q6, q7, q8, q9, q10, q11, q12, -⟩ := hP1
      have := q12 c hc
      rw [pa0 _ (plj_190 (by omega))] at this
      exact this
    have href : f_X11_cell n (z + 83) (nI c) b (mk z (W * H) I J t u) = (if b = (0 : Int32) then some (g c, mk z (W * H) (upr I (z + 93) g) J t u) else if b = (1 : Int32) then some (nI (bits r), mk z (W * H) (upr I (z + 93) g) J t u) else if b = (2 : Int32) then some (nI (msk (fun f => dec (∃ s, ts T f = some s ∧ bt r s = true)) 6), mk z (W * H) (upr I (z + 93) g) J t u) else if b = (3 : Int32) then some (tr T c, mk z (W * H) (upr I (z + 93) g) J t u) else if b = (4 : Int32) then some ((if bt (J (z + 32) 9) c = true then 1 else 0), mk z (W * H) (upr I (z + 93) g) J t u) else some (-10, mk z (W * H) (upr I (z + 93) g) J t u)) := by
      have x1 : (240 : Int32) + nI c = nI (240 + c) := nI_pl 240 c
      have x2 : (190 : Int32) + nI c = nI (190 + c) := nI_pl 190 c
      have y1 : upr I (z + 93) g (z + 84) (240 + c) = tr T c := by
        have := hTr'.crp hC hc
        rw [show 0 + 240 + c = 240 + c by omega] at this; exact this
      have y2 : upr I (z + 93) g (z + 84) (190 + c) = (if bt (J (z + 32) 9) c = true then 1 else 0) := by rw [upr_ne (by omega)]; exact hwel
      unfold f_X11_cell
      have y1' : mI (mk z (W * H) (upr I (z + 93) g) J t u) (z + 84) (240 + c) = tr T c := y1
      have y2' : mI (mk z (W * H) (upr I (z + 93) g) J t u) (z + 84) (190 + c) = (if bt (J (z + 32) 9) c = true then 1 else 0) := y2
      have y3' : mI (mk z (W * H) (upr I (z + 93) g) J t u) (z + 93) c = g c := by rw [mI_mk, g93]
      rw [s_isCellR _ hM.2.2.1 (by omega), cl_some, ite_bI, if_pos c1, eg, cv_some, g83_30, n93, ck_t (inb_nI (by omega) (by omega)), cl_nI (by omega), y3']
      simp only [jn, g83_30, n93, ck_t (inb_nI (show c < 48 by omega) (show 48 < 1000000 by omega)), cl_nI (show c < 1000000 by omega), g83_0, n84, x1, x2, ck_t (inb_nI (show 240 + c < 2720 by omega) (show 2720 < 1000000 by omega)), ck_t (inb_nI (show 190 + c < 2720 by omega) (show 2720 < 1000000 by omega)), cl_nI (show 240 + c < 1000000 by omega), cl_nI (show 190 + c < 1000000 by omega), y1', y2', y3', s_sizeOf hn hM' hC, cl_some, s_whoHave hn hM' (show 0 ≤ 2380 by omega) hC hW hTr', g93]
      by_cases hF : Ft (W * H) T c
      · have hng : ¬ g c < 0 := fun w => (lab_nn hC FtC hg hc).mp w hF
        rw [if_neg hng, siz_lab hC hg hF, ← bits_siz hC hr]
        have hm : msk (fun f => decide (fo T g f = g c)) 6 = msk (fun f => dec (∃ s, ts T f = some s ∧ bt r s = true)) 6 := msk_congr 6 (fun f hf => by
          rw [hav_lab hC hW hg hF f hf]
          exact eq_dec (hav_iff hr f))
        rw [hm]
        simp only [if_neg (show ¬ (1 : Int32) = 0 by decide)]
      · have hgm := (hg c hc).2 hF
        have hr0 : ∀ q, bt r q = false := fun q => by
          cases h : bt r q with
          | false => rfl
          | true => exact absurd ((hr q).mp h).1 hF
        have hz : bits r = 0 := cnt_zero _ (fun i _ => hr0 i)
        have hm : msk (fun f => dec (∃ s, ts T f = some s ∧ bt r s = true)) 6 = 0 := by
          rw [msk_congr (g := fun _ => false) 6 (fun f _ => dec_f.mpr (fun ⟨s, _, w⟩ => by rw [hr0] at w; cases w))]; rfl
        rw [if_pos (by rw [hgm]; decide), hz, hm]
        simp only [if_true]
        rfl
    rw [hcls]
    have fin : ∀ S2, S2 = mk z (W * H) (upr I (z + 93) g) J t u → Rel z TX Q S2 := fun S2 e => ⟨W, H, _, J, t, u, w1, w2, w3, w4, e, hRI.row93 hTX g⟩
    by_cases b0 : b = 0
    · exact ⟨_, _, _, if_pos b0, by rw [href, if_pos b0], fin _ rfl⟩
    by_cases b1 : b = 1
    · exact ⟨_, _, _, by rw [if_neg b0, if_pos b1], by rw [href, if_neg b0, if_pos b1], fin _ rfl⟩
    by_cases b2 : b = 2
    · exact ⟨_, _, _, by rw [if_neg b0, if_neg b1, if_pos b2], by rw [href, if_neg b0, if_neg b1, if_pos b2], fin _ rfl⟩
    by_cases b3 : b = 3
    · exact ⟨_, _, _, by rw [if_neg b0, if_neg b1, if_neg b2, if_pos b3], by rw [href, if_neg b0, if_neg b1, if_neg b2, if_pos b3], fin _ rfl⟩
    by_cases b4 : b = 4
    · exact ⟨_, _, _, by rw [if_neg b0, if_neg b1, if_neg b2, if_neg b3, if_pos b4], by rw [href, if_neg b0, if_neg b1, if_neg b2, if_neg b3, if_pos b4], fin _ rfl⟩
    exact ⟨_, _, _, by rw [if_neg b0, if_neg b1, if_neg b2, if_neg b3, if_neg b4], by rw [href, if_neg b0, if_neg b1, if_neg b2, if_neg b3, if_neg b4], fin _ rfl⟩
  · refine ⟨-10, mk z (W * H) I J t u, _, ?_, ?_, W, H, I, J, t, u, w1, w2, w3, w4, rfl, hRI⟩
    · unfold f_X10_cell
      rw [g0z_0, s_holds, cl_some, ite_bI, if_neg (show ¬ _ from by rw [mI_mk, hG.2.2.1]; exact c1)]
    · unfold f_X11_cell
      rw [s_isCellR _ hM.2.2.1 (by omega), cl_some, ite_bI, if_neg c1]
end QO
