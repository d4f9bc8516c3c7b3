/-! FARMER, SOW keep the relation -/
section FO
variable {z Q : Nat} {TX : TXty}
/-- a step on the plain now, and on rows for reckoning -/
theorem RelI.plain2 {W H t : Nat} {I I' : Nat → Nat → Int32} {J J' : Nat → Nat → Int64} (hTX : TXok z TX) (h : RelI z TX Q W H I J t) (R : ∀ q, (q < z + 24 ∨ (z + 30 ≤ q ∧ q < z + 32) ∨ (z + 39 ≤ q ∧ q < z + 46) ∨ q = z + 85 ∨ q = z + 86 ∨ q = z + 83 ∨ z + 97 ≤ q) → q ≠ z + 84 → q ≠ z + 93 → I' q = I q) (RJ : ∀ q, (q = z + 30 ∨ q = z + 31 ∨ q = z + 39) → J' q = J q) (ha : ∀ j, (plj j = false ∨ 340 ≤ j) → I' (z + 84) j = I (z + 84) j) (hP : PlainM z (W * H) Q 32 I' J' 0) : RelI z TX Q W H I' J' t := by
  obtain ⟨hG, hM, hT, hF, hT1, hT8, hP1, hP2, k, k', x1, x2, x3, x4, x5, x6, x7⟩ := h
  have tf : ∀ j, tlj j = true → plj j = false := by
    intro j hj
    cases hc : plj j with
    | false => rfl
    | true => have := tlj_b hj; have := plj_b hc; omega
  have t0 : ta (I' (z + 84)) 0 = ta (I (z + 84)) 0 := by
    funext j
    unfold ta
    by_cases hj : tlj j = true
    · rw [if_pos hj, if_pos hj, Nat.zero_add]; exact ha j (Or.inl (tf j hj))
    · rw [if_neg hj, if_neg hj]
  have t1 : ta (I' (z + 84)) 340 = ta (I (z + 84)) 340 := by
    funext j
    unfold ta
    rw [ha _ (Or.inr (by omega))]
  have p1 : pa (I' (z + 84)) 340 = pa (I (z + 84)) 340 := pa_congr (fun j hj => ha _ (Or.inr (by omega)))
  refine ⟨?_, ?_, ?_, ?_, hT1.keep (fun i hi => R _ (by omega) (by omega) (by omega)) t0, hT8.keep (fun i hi => R _ (by omega) (by omega) (by omega)) t1, hP, hP2.keep (fun i hi => R _ (by omega) (by omega) (by omega)) (RJ _ (by omega)) p1, k, k', x1, x2, x3, x4, ?_, ?_, hTX _ _ _ _ (R _ (by omega) (by omega) (by omega)) (fun q hq => R _ (by omega) (by omega) (by omega)) x7⟩
  · rw [R _ (by omega) (by omega) (by omega), RJ _ (by omega), RJ _ (by omega)]; exact hG
  · rw [R _ (by omega) (by omega) (by omega)]; exact hM
  · rw [R (z + 15) (by omega) (by omega) (by omega), R (z + 83) (by omega) (by omega) (by omega), R (z + 16) (by omega) (by omega) (by omega), R (z + 86) (by omega) (by omega) (by omega)]; exact hT
  · rw [R (z + 17) (by omega) (by omega) (by omega), R (z + 83) (by omega) (by omega) (by omega)]; exact hF
  · rw [R _ (by omega) (by omega) (by omega)]; exact x5
  · rw [R _ (by omega) (by omega) (by omega)]; exact x6
theorem fn_ok {f : Nat} (hf : f < 6) : ¬ nI f < 0 ∧ ¬ (6 : Int32) ≤ nI f := ⟨nI_pos (by omega), by rw [show (6 : Int32) = nI 6 from rfl, nI_le' (by omega) (by omega)]; omega⟩
theorem Op_farmer_ok (hTX : TXok z TX) : Op_farmer z (Rel z TX Q) := by
  intro n hn S a b hR
  obtain ⟨W, H, I, J, t, u, w1, w2, w3, w4, rfl, hRI⟩ := hR
  have hD : dims W H := ⟨w1, w2, w3, w4⟩
  have hC := hD.C
  obtain ⟨hG, hM4, hTa, hF, hT1, hT8, hP1, hP2, -⟩ := id hRI
  have hM := hRI.mod
  have ho : isP 32 := Or.inl rfl
  by_cases c1 : ¬ a < 0 ∧ ¬ (6 : Int32) ≤ a
  · obtain ⟨f, hf, rfl⟩ := nI_nm (N := 6) c1.1 c1.2 (by omega)
    obtain ⟨T, hW, hTc, hTr⟩ := PlainR.out hP1 hC
    have hTc : ClsT z (W * H) 32 I J T := hTc
    have hTr : RefT z (W * H) 0 I T := hTr
    obtain ⟨r, er, hr⟩ := s_fieldHad (n := n) (t := t) (u := u) hn hD hG ho hW hTc hf
    obtain ⟨g, eg, hg⟩ := s_find (n := n) (J := J) (t := t) (u := u) hn hD hM (by omega) hW hTr
    have hM' : ModR z W H 0 (upr I (z + 93) g) := hM.upr (by omega)
    have hTr' := hTr.upr93 g
    have g93 : upr I (z + 93) g (z + 93) = g := upr_at _ _ _
    have fin : ∀ S2, S2 = mk z (W * H) (upr I (z + 93) g) J t u → Rel z TX Q S2 := fun S2 e => ⟨W, H, _, J, t, u, w1, w2, w3, w4, e, hRI.row93 hTX g⟩
    have hcls : f_X10_farmer n z (nI f) b (mk z (W * H) I J t u) = (if b = (0 : Int32) then some (nI (areaT W (W * H) T f), mk z (W * H) I J t u) else if b = (1 : Int32) then (if (lg_cmp r (0 : Int64)) = 0 then some ((0 : Int32), mk z (W * H) I J t u) else (if (lg_cmp (r &&& J (z + 30) 4) (0 : Int64)) = 0 then some ((1 : Int32), mk z (W * H) I J t u) else some ((0 : Int32), mk z (W * H) I J t u))) else if b = (2 : Int32) then cl (f_X3_gates n (z + 32) r (mk z (W * H) I J t u)) fun x24 S21 => some (x24, S21) else if b = (3 : Int32) then some (I (z + (32 + 5)) f, mk z (W * H) I J t u) else if b = (4 : Int32) then some (nI (bits (r &&& J (z + 32) 9)), mk z (W * H) I J t u) else if b = (5 : Int32) then some (oI (ts T f), mk z (W * H) I J t u) else some (-10, mk z (W * H) I J t u)) := by
      have h4 : mI (mk z (W * H) I J t u) (z + (32 + 4)) f = oI (ts T f) := hTc.2.2.2.1 f hf
      unfold f_X10_farmer
      simp only [s_isFarmerC, cl_some, ite_bI, if_pos c1, g0z_0, g0z_1, er, s_share hn hD ho hW hTc hf hr, s_bitCount, gP_5 ho, gP_4 ho, nP_5 ho, nP_4 ho, ck_t (inb_nI hf (show 6 < 1000000 by omega)), cl_nI (show f < 1000000 by omega), h4]
      rfl
    have hfi : upr I (z + 93) g (z + 84) (92 + f) = I (z + (32 + 5)) f := by
      obtain ⟨k, hh, q1, q2, q3, q4, q5, q6, q7, q8, q9, q10, -⟩ := hP1
      have := (q10 f hf).1
      rw [pa0 _ (by have := plj_85 (g := 7 + f) (by omega); rwa [show 85 + (7 + f) = 92 + f by omega] at this)] at this
      rw [upr_ne (by omega)]
      exact this.symm
    have hst : upr I (z + 93) g (z + 84) (85 + f) = oI (ts T f) := by
      have := hTr'.stk hf
      rw [show 0 + 85 + f = 85 + f by omega] at this; exact this
    have href : f_X11_farmer n (z + 83) (nI f) b (mk z (W * H) I J t u) = (if b = (0 : Int32) then some (nI (areaT W (W * H) T f), mk z (W * H) (upr I (z + 93) g) J t u) else if b = (1 : Int32) then (if fo T g f < 0 then some ((0 : Int32), mk z (W * H) (upr I (z + 93) g) J t u) else cl (f_X11_isRing n (z + 83) (fo T g f) (mk z (W * H) (upr I (z + 93) g) J t u)) fun x19 S16 => (if x19 = 0 then some ((0 : Int32), S16) else some ((1 : Int32), S16))) else if b = (2 : Int32) then (if 0 ≤ fo T g f then cl (f_X11_gates n (z + 83) (fo T g f) (mk z (W * H) (upr I (z + 93) g) J t u)) fun x23 S20 => some (x23, S20) else some ((0 : Int32), mk z (W * H) (upr I (z + 93) g) J t u)) else if b = (3 : Int32) then some (I (z + (32 + 5)) f, mk z (W * H) (upr I (z + 93) g) J t u) else if b = (4 : Int32) then (if 0 ≤ fo T g f then some (nI (cnt (fun c => decide (g c = fo T g f) && decide (upr I (z + 93) g (z + 84) (0 + 190 + c) = 1)) (W * H)), mk z (W * H) (upr I (z + 93) g) J t u) else some ((0 : Int32), mk z (W * H) (upr I (z + 93) g) J t u)) else if b = (5 : Int32) then some (oI (ts T f), mk z (W * H) (upr I (z + 93) g) J t u) else some (-10, mk z (W * H) (upr I (z + 93) g) J t u)) := by
      have x1 : (92 : Int32) + nI f = nI (92 + f) := nI_pl 92 f
      have x2 : (85 : Int32) + nI f = nI (85 + f) := nI_pl 85 f
      have y1 : mI (mk z (W * H) (upr I (z + 93) g) J t u) (z + 84) (92 + f) = I (z + (32 + 5)) f := hfi
      have y2 : mI (mk z (W * H) (upr I (z + 93) g) J t u) (z + 84) (85 + f) = oI (ts T f) := hst
      unfold f_X11_farmer
      simp only [s_isFarmerR, cl_some, ite_bI, if_pos c1, eg, cv_some, s_fieldOf hM' (show 0 ≤ 2380 by omega) hC hW hTr' hf, g93, s_areaOf hn hM' (show 0 ≤ 2380 by omega) hC hW hTr' (by rw [g93]; exact hg) hf, s_wellsIn hn hM' (show 0 ≤ 2380 by omega) hC, g83_0, n84, x1, x2, ck_t (inb_nI (show 92 + f < 2720 by omega) (show 2720 < 1000000 by omega)), ck_t (inb_nI (show 85 + f < 2720 by omega) (show 2720 < 1000000 by omega)), cl_nI (show 92 + f < 1000000 by omega), cl_nI (show 85 + f < 1000000 by omega), y1, y2]
    rw [hcls]
    have hr0 : ts T f = none → ∀ q, bt r q = false := fun e q => by
      cases h : bt r q with
      | false => rfl
      | true => obtain ⟨s, w, -⟩ := (hr q).mp h; rw [e] at w; cases w
    have hfn : ts T f = none → fo T g f = -1 := fun e => by unfold fo; rw [e]
    have hfs : ∀ s, ts T f = some s → fo T g f = g s := fun s e => by unfold fo; rw [e]
    have hrs : ∀ s, ts T f = some s → ∀ q, bt r q = true ↔ Rch W (Ft (W * H) T) s q := fun s e q => (hr q).trans ⟨fun ⟨s', w, h⟩ => by rw [e] at w; cases w; exact h, fun h => ⟨s, e, h⟩⟩
    have hnn : ∀ s, ts T f = some s → ¬ g s < 0 ∧ 0 ≤ g s := fun s e => by
      have hs := hW.2.2.2.2.1 f hf s e
      have h0 : ¬ g s < 0 := fun w => (lab_nn hC FtC hg hs.1).mp w hs
      exact ⟨h0, by rw [i32_lt] at h0; rw [i32_le]; omega⟩
    by_cases b0 : b = 0
    · exact ⟨_, _, _, if_pos b0, by rw [href, if_pos b0], fin _ rfl⟩
    by_cases b1 : b = 1
    · cases e : ts T f with
      | none =>
        refine ⟨0, mk z (W * H) I J t u, _, ?_, ?_, fin _ rfl⟩
        · rw [if_neg b0, if_pos b1, if_pos ((lg_0 r).mpr (bt_z (hr0 e)))]
        · rw [href, if_neg b0, if_pos b1, if_pos (by rw [hfn e]; decide)]
      | some s =>
        have hs := hW.2.2.2.2.1 f hf s e
        have hrne : ¬ lg_cmp r 0 = 0 := fun w => by
          have := (hrs s e s).mpr (Rch.rf hs)
          rw [(lg_0 r).mp w, bt_0] at this; cases this
        have hring : (lg_cmp (r &&& J (z + 30) 4) 0 = 0) ↔ ∀ c, c < W * H → g c = g s → ¬ (c % W = 0 ∨ c % W = W - 1 ∨ c / W = 0 ∨ c / W = H - 1) := by
          rw [and_n0]
          constructor
          · intro h c hc e1 e2
            exact h c ((hrs s e c).mpr ((lab_eq hC FtC hg hs hc).mp e1)) ((hG.2.2.2.2.1 c).mpr ⟨hc, e2⟩)
          · intro h c h1 h2
            have := (hG.2.2.2.2.1 c).mp h2
            exact h c this.1 ((lab_eq hC FtC hg hs this.1).mpr ((hrs s e c).mp h1)) this.2
        have hri := s_isRing (n := n) (J := J) (t := t) (u := u) hn hD hM' (g s)
        rw [g93] at hri
        by_cases h : ∀ c, c < W * H → g c = g s → ¬ (c % W = 0 ∨ c % W = W - 1 ∨ c / W = 0 ∨ c / W = H - 1)
        · refine ⟨1, mk z (W * H) I J t u, _, ?_, ?_, fin _ rfl⟩
          · rw [if_neg b0, if_pos b1, if_neg hrne, if_pos (hring.mpr h)]
          · rw [href, if_neg b0, if_pos b1, hfs s e, if_neg (hnn s e).1, hri, cl_some, bD_t h, if_neg (by decide)]
        · refine ⟨0, mk z (W * H) I J t u, _, ?_, ?_, fin _ rfl⟩
          · rw [if_neg b0, if_pos b1, if_neg hrne, if_neg (fun w => h (hring.mp w))]
          · rw [href, if_neg b0, if_pos b1, hfs s e, if_neg (hnn s e).1, hri, cl_some, bD_f h, if_pos rfl]
    by_cases b2 : b = 2
    · cases e : ts T f with
      | none =>
        refine ⟨0, mk z (W * H) I J t u, _, ?_, ?_, fin _ rfl⟩
        · rw [if_neg b0, if_neg b1, if_pos b2, s_gatesC hn hD hG ho hW hTc (G := fun _ => False) (fun i _ => ⟨fun w => w.elim, fun ⟨⟨d, _, _, w⟩, _⟩ => by rw [hr0 e] at w; cases w⟩), cl_some, cnt_zero _ (fun _ _ => dec_f.mpr id)]; rfl
        · rw [href, if_neg b0, if_neg b1, if_pos b2, hfn e, if_neg (by decide)]
      | some s =>
        have hs := hW.2.2.2.2.1 f hf s e
        refine ⟨nI (cnt (fun i => dec (gateT W (W * H) T s i)) (tk T)), mk z (W * H) I J t u, _, ?_, ?_, fin _ rfl⟩
        · rw [if_neg b0, if_neg b1, if_pos b2, s_gatesC hn hD hG ho hW hTc (G := gateT W (W * H) T s) (fun i _ => by
            unfold gateT
            simp only [hrs s e]), cl_some]
        · rw [href, if_neg b0, if_neg b1, if_pos b2, hfs s e, if_pos (hnn s e).2]
          have := s_gatesR (n := n) (J := J) (t := t) (u := u) hn hD hM' (by omega) hW hTr' (by rw [g93]; exact hg) hs
          rw [g93] at this
          rw [this, cl_some]
    by_cases b3 : b = 3
    · exact ⟨_, _, _, by rw [if_neg b0, if_neg b1, if_neg b2, if_pos b3], by rw [href, if_neg b0, if_neg b1, if_neg b2, if_pos b3], fin _ rfl⟩
    by_cases b4 : b = 4
    · cases e : ts T f with
      | none =>
        refine ⟨0, mk z (W * H) I J t u, _, ?_, ?_, fin _ rfl⟩
        · rw [if_neg b0, if_neg b1, if_neg b2, if_neg b3, if_pos b4, show bits (r &&& J (z + 32) 9) = 0 from cnt_zero _ (fun c _ => by rw [bt_and, hr0 e]; rfl)]; rfl
        · rw [href, if_neg b0, if_neg b1, if_neg b2, if_neg b3, if_pos b4, hfn e, if_neg (by decide)]
      | some s =>
        have hs := hW.2.2.2.2.1 f hf s e
        refine ⟨nI (bits (r &&& J (z + 32) 9)), mk z (W * H) I J t u, _, ?_, ?_, fin _ rfl⟩
        · rw [if_neg b0, if_neg b1, if_neg b2, if_neg b3, if_pos b4]
        · rw [href, if_neg b0, if_neg b1, if_neg b2, if_neg b3, if_pos b4, hfs s e, if_pos (hnn s e).2, wells_eq hC hg hs (hrs s e) (a := fun c => upr I (z + 93) g (z + 84) (0 + 190 + c)) (fun c hc => by
            obtain ⟨k, hh, q1, q2, q3, q4, q5, q6, q7, q8, q9, q10, q11, q12, -⟩ := hP1
            have := q12 c hc
            rw [pa0 _ (plj_190 (by omega))] at this
            rw [upr_ne (by omega), Nat.zero_add]; exact this)]
    by_cases b5 : b = 5
    · exact ⟨_, _, _, by rw [if_neg b0, if_neg b1, if_neg b2, if_neg b3, if_neg b4, if_pos b5], by rw [href, if_neg b0, if_neg b1, if_neg b2, if_neg b3, if_neg b4, if_pos b5], fin _ rfl⟩
    exact ⟨_, _, _, by rw [if_neg b0, if_neg b1, if_neg b2, if_neg b3, if_neg b4, if_neg b5], by rw [href, if_neg b0, if_neg b1, if_neg b2, if_neg b3, if_neg b4, if_neg b5], fin _ rfl⟩
  · refine ⟨-10, mk z (W * H) I J t u, _, ?_, ?_, W, H, I, J, t, u, w1, w2, w3, w4, rfl, hRI⟩
    · unfold f_X10_farmer
      rw [s_isFarmerC, cl_some, ite_bI, if_neg c1]
    · unfold f_X11_farmer
      rw [s_isFarmerR, cl_some, ite_bI, if_neg c1]
theorem TW.crop {C M : Nat} {T : TP} (h : TW C M T) {c : Nat} (hc : c < C) : TW C M (tk T, th T, tc T, tw T, tl T, ts T, ur (tr T) c (nI (th T))) := by
  obtain ⟨t1, t2, t3, t4, t5, t6⟩ := h
  refine ⟨t1, t2, t3, t4, t5, fun d hd => ?_⟩
  show ur (tr T) c (nI (th T)) d = -1 ∨ ∃ g, g ≤ th T ∧ ur (tr T) c (nI (th T)) d = nI g
  by_cases hdc : d = c
  · subst hdc; rw [ur_at]; exact Or.inr ⟨_, Nat.le_refl _, rfl⟩
  · rw [ur_ne _ _ hdc]; exact t6 d hd
theorem Op_sow_ok (hTX : TXok z TX) : Op_sow z (Rel z TX Q) := by
  intro n hn S a b hR
  obtain ⟨W, H, I, J, t, u, w1, w2, w3, w4, rfl, hRI⟩ := hR
  have hD : dims W H := ⟨w1, w2, w3, w4⟩
  have hC := hD.C
  obtain ⟨hG, hM4, hTa, hF, hT1, hT8, hP1, hP2, -⟩ := id hRI
  have hM := hRI.mod
  have ho : isP 32 := Or.inl rfl
  by_cases c1 : ¬ a < 0 ∧ ¬ (6 : Int32) ≤ a
  · obtain ⟨f, hf, rfl⟩ := nI_nm (N := 6) c1.1 c1.2 (by omega)
    by_cases c2 : ¬ b < 0 ∧ ¬ nI (W * H) ≤ b
    · obtain ⟨c, hc, rfl⟩ := nI_nm c2.1 c2.2 (by omega)
      obtain ⟨T, hW, hTc, hTr⟩ := PlainR.out hP1 hC
      have hTc : ClsT z (W * H) 32 I J T := hTc
      have hTr : RefT z (W * H) 0 I T := hTr
      obtain ⟨r, er, hr⟩ := s_fieldHad (n := n) (t := t) (u := u) hn hD hG ho hW hTc hf
      have hcc : ¬ nI c < 0 ∧ ¬ mI (mk z (W * H) I J t u) (z + 30) 2 ≤ nI c := by rw [mI_mk, hG.2.2.1]; exact c2
      by_cases hh : hasT W (W * H) T f c
      · obtain ⟨g, eg, hg⟩ := s_find (n := n) (z := z) (I := up2 I (z + 38) c (nI (th T))) (J := J) (t := t) (u := u) hn hD (B := 0) (T := T) (by unfold ModR; rw [up2_ne (by omega)]; exact hM) (by omega) hW (by unfold RefT; rw [up2_ne (by omega)]; exact hTr)
        have hM' : ModR z W H 0 (upr (up2 I (z + 38) c (nI (th T))) (z + 93) g) := by unfold ModR; rw [upr_ne (by omega), up2_ne (by omega)]; exact hM
        have hTr' : RefT z (W * H) 0 (upr (up2 I (z + 38) c (nI (th T))) (z + 93) g) T := by unfold RefT; rw [upr_ne (by omega), up2_ne (by omega)]; exact hTr
        have h84 : ∀ h : Nat → Nat → Int32, h = up2 (upr (up2 I (z + 38) c (nI (th T))) (z + 93) g) (z + 84) (240 + c) (nI (th T)) → h (z + 84) = ur (I (z + 84)) (240 + c) (nI (th T)) := fun h e => by rw [e, up2_r, upr_ne (by omega), up2_ne (by omega)]
        have p240 : plj (240 + c) = true := by have := plj_190 (i := 50 + c) (by omega); rwa [show 190 + (50 + c) = 240 + c by omega] at this
        have Rn : ∀ q, q ≠ z + 38 → q ≠ z + 93 → q ≠ z + 84 → up2 (upr (up2 I (z + 38) c (nI (th T))) (z + 93) g) (z + 84) (240 + c) (nI (th T)) q = I q := fun q g1 g2 g3 => by rw [up2_ne g3, upr_ne g2, up2_ne g1]
        refine ⟨1, mk z (W * H) (up2 I (z + 38) c (nI (th T))) J t u, mk z (W * H) (up2 (upr (up2 I (z + 38) c (nI (th T))) (z + 93) g) (z + 84) (240 + c) (nI (th T))) J t u, ?_, ?_, W, H, _, J, t, u, w1, w2, w3, w4, rfl, ?_⟩
        · have hb : ¬ lg_cmp (lush r (nI c) &&& 1) 0 = 0 := fun w => by
            rw [bit_0 r (by omega), (hr c).mpr hh] at w; cases w
          have m8 : mI (mk z (W * H) I J t u) (z + 32) 8 = nI (th T) := hTc.2.1
          unfold f_X10_sow
          simp only [s_isFarmerC, cl_some, ite_bI, if_pos c1, g0z_0, g0z_1, s_holds, if_pos hcc, er, if_neg hb, gP_6 ho, nP_6 ho, ck_t (inb_nI hc (show W * H < 1000000 by omega)), cl_nI (show c < 1000000 by omega), bd, sI_mk, m8, zb_1]
        · have m0 : mI (mk z (W * H) (upr (up2 I (z + 38) c (nI (th T))) (z + 93) g) J t u) (z + 84) 0 = nI (th T) := hTr'.hor
          have x1 : (240 : Int32) + nI c = nI (240 + c) := nI_pl 240 c
          unfold f_X11_sow
          rw [s_isFarmerR, cl_some, ite_bI, if_pos c1, s_isCellR _ (by rw [up2_ne (by omega)]; exact hM.2.2.1) (by omega), cl_some, ite_bI, if_pos c2, eg, cv_some, s_has hM' (by omega) hC hW hTr' (by rw [upr_at]; exact hg) hf hc, cl_some, bD_t hh, if_neg (by decide), g83_0, g83_0, n84, ck_t (by decide), x1, ck_t (inb_nI (by omega) (by omega)), cl_nI (by omega), show (0 : Int32).toNatClampNeg = 0 from rfl, m0]
          simp only [bd, sI_mk, zb_1]
        · refine hRI.plain2 hTX (fun q g1 g2 g3 => Rn q (by omega) g3 g2) (fun q _ => rfl) (fun j hj => by rw [h84 _ rfl, ur_ne _ _ (plj_f hj p240 (by omega))]) ?_
          obtain ⟨k, hq, q1, q2, q3, q4, q5, q6, q7, q8, q9, q10, q11, q12, q13, -⟩ := id hP1
          unfold PlainM
          rw [h84 _ rfl, Rn (z + 32) (by omega) (by omega) (by omega), Rn (z + (32 + 1)) (by omega) (by omega) (by omega), Rn (z + (32 + 2)) (by omega) (by omega) (by omega), Rn (z + (32 + 3)) (by omega) (by omega) (by omega), Rn (z + (32 + 4)) (by omega) (by omega) (by omega), Rn (z + (32 + 5)) (by omega) (by omega) (by omega), pa_ur0 p240, up2_ne (by omega), upr_ne (by omega), show z + (32 + 6) = z + 38 from rfl, up2_r]
          refine PlainR.of hC (hW.crop hc) ?_ ?_ ?_ ?_ ?_
          · obtain ⟨a1, a2, a3, a4, a5, a6, a7⟩ := hTc
            refine ⟨a1, a2, a3, a4, fun d hd => ?_, a6, a7⟩
            show ur (I (z + 38)) c (nI (th T)) d = ur (tr T) c (nI (th T)) d
            by_cases hdc : d = c
            · subst hdc; rw [ur_at, ur_at]
            · rw [ur_ne _ _ hdc, ur_ne _ _ hdc]; exact a5 d hd
          · obtain ⟨b1, b2, b3, b4, b5, b6⟩ := hTr
            refine ⟨?_, ?_, fun i hi => ?_, fun f hf => ?_, fun d hd => ?_, fun d hd hb => ?_⟩
            · rw [ur_ne _ _ (by omega)]; exact b1
            · rw [ur_ne _ _ (by omega)]; exact b2
            · have hi : i < tk T := hi
              have := hW.1
              have hci := (hW.2.2.1 i hi).1
              obtain ⟨e1, e2, e3, e4⟩ := b3 i hi
              refine ⟨?_, ?_, ?_, ?_⟩
              · rw [ur_ne _ _ (by omega)]; exact e1
              · rw [ur_ne _ _ (by omega)]; exact e2
              · rw [ur_ne _ _ (by omega)]; exact e3
              · show ur (pa (I (z + 84)) 0) (240 + c) (nI (th T)) (290 + tc T i) = nI (i + 1)
                rw [ur_ne _ _ (by omega)]; exact e4
            · rw [ur_ne _ _ (by omega)]; exact b4 f hf
            · show ur (pa (I (z + 84)) 0) (240 + c) (nI (th T)) (240 + d) = ur (tr T) c (nI (th T)) d
              by_cases hdc : d = c
              · subst hdc; rw [ur_at, ur_at]
              · rw [ur_ne _ _ (by omega), ur_ne _ _ hdc]; exact b5 d hd
            · rw [ur_ne _ _ (by omega)]; exact b6 d hd hb
          · intro f hf
            rw [ur_ne _ _ (by omega)]; exact q10 f hf
          · intro d hd
            rw [ur_ne _ _ (by omega)]; exact q12 d hd
          · exact q13
      · obtain ⟨g, eg, hg⟩ := s_find (n := n) (J := J) (t := t) (u := u) hn hD hM (by omega) hW hTr
        refine ⟨0, mk z (W * H) I J t u, mk z (W * H) (upr I (z + 93) g) J t u, ?_, ?_, W, H, _, J, t, u, w1, w2, w3, w4, rfl, hRI.row93 hTX g⟩
        · have hb : lg_cmp (lush r (nI c) &&& 1) 0 = 0 := (bit_0 r (by omega)).mpr (by
            cases h : bt r c with
            | false => rfl
            | true => exact absurd ((hr c).mp h) hh)
          unfold f_X10_sow
          simp only [s_isFarmerC, cl_some, ite_bI, if_pos c1, g0z_0, g0z_1, s_holds, if_pos hcc, er, if_pos hb, zb_0]
        · unfold f_X11_sow
          rw [s_isFarmerR, cl_some, ite_bI, if_pos c1, s_isCellR _ hM.2.2.1 (by omega), cl_some, ite_bI, if_pos c2, eg, cv_some, s_has (hM.upr (by omega)) (by omega) hC hW (hTr.upr93 g) (by rw [upr_at]; exact hg) hf hc, cl_some, bD_f hh, if_pos rfl, zb_0]
    · refine ⟨0, mk z (W * H) I J t u, _, ?_, ?_, W, H, I, J, t, u, w1, w2, w3, w4, rfl, hRI⟩
      · unfold f_X10_sow
        rw [s_isFarmerC, cl_some, ite_bI, if_pos c1, g0z_0, s_holds, cl_some, ite_bI, if_neg (show ¬ _ from by rw [mI_mk, hG.2.2.1]; exact c2), zb_0]
      · unfold f_X11_sow
        rw [s_isFarmerR, cl_some, ite_bI, if_pos c1, s_isCellR _ hM.2.2.1 (by omega), cl_some, ite_bI, if_neg c2, zb_0]
  · refine ⟨0, mk z (W * H) I J t u, _, ?_, ?_, W, H, I, J, t, u, w1, w2, w3, w4, rfl, hRI⟩
    · unfold f_X10_sow
      rw [s_isFarmerC, cl_some, ite_bI, if_neg c1, zb_0]
    · unfold f_X11_sow
      rw [s_isFarmerR, cl_some, ite_bI, if_neg c1, zb_0]
end FO
