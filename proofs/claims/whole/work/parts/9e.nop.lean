/-! NIGHT keeps the relation -/
section NO
variable {z : Nat}
theorem Op_night_ok {Q : Nat} (hQ : Q < 900000) : Op_night z (Rel z (TXx z) Q) (Rel z (TXx z) (Q + 1)) := by
  intro n hn S a b s hR
  obtain ⟨W, H, I, J, t, u, V, L, T, rfl, hD, hRI, hXC, hXR, hW, hTc, hTr⟩ := hR.op
  have hC := hD.C
  have h24 := hW.1
  have hRQ : RelI z (TXx z) (Q + 1) W H I J t := hRI.mq (by omega)
  have m7 : mI (mk z (W * H) I J t u) (z + 32) 7 = nI (tk T) := hTc.1
  have k1 : ∀ I' : Nat → Nat → Int32, I' (z + 84) = I (z + 84) → I' (z + 84) 1 = nI (tk T) := fun I' e => by rw [e]; have := hTr.cnt; rwa [Nat.zero_add] at this
  have no : (f_X10_night n z a b s (mk z (W * H) I J t u) = some (-1, mk z (W * H) I J t u)) → (f_X11_night n (z + 83) a b s (mk z (W * H) I J t u) = some (-1, mk z (W * H) I J t u)) → ∃ (x : Int32) (S1 S2 : MS), f_X10_night n z a b s (mk z (W * H) I J t u) = some (x, S1) ∧ f_X11_night n (z + 83) a b s S1 = some (x, S2) ∧ Rel z (TXx z) (Q + 1) S2 := fun e1 e2 => ⟨_, _, _, e1, e2, Rel.cl hD hRQ⟩
  by_cases c1 : ¬ a < 0 ∧ ¬ (6 : Int32) ≤ a
  rotate_left
  · refine no ?_ ?_
    · unfold f_X10_night; rw [s_isFarmerC, cl_some, ite_bI, if_neg c1]
    · unfold f_X11_night; rw [s_isFarmerR, cl_some, ite_bI, if_neg c1]
  obtain ⟨f, hf, rfl⟩ := nI_nm (N := 6) c1.1 c1.2 (by omega)
  have cb : (¬ b < 0 ∧ ¬ mI (mk z (W * H) I J t u) (z + 32) 7 ≤ b) ↔ (¬ b < 0 ∧ ¬ nI (tk T) ≤ b) := by rw [m7]
  by_cases c4 : ¬ b < 0 ∧ ¬ nI (tk T) ≤ b
  rotate_left
  · refine no ?_ ?_
    · unfold f_X10_night f_X3_nightCell; rw [s_isFarmerC, cl_some, ite_bI, if_pos c1, g0z_1, s_isBoneC, cl_some, ite_bI, if_neg (fun w => c4 (cb.mp w)), cl_some, if_pos rfl]
    · unfold f_X11_night; rw [s_isFarmerR, cl_some, ite_bI, if_pos c1, s_isBoneR _ (k1 I rfl) (by omega), cl_some, ite_bI, if_neg c4]
  by_cases c3 : ¬ s < 0 ∧ ¬ (3 : Int32) < s
  rotate_left
  · refine no ?_ ?_
    · unfold f_X10_night f_X3_nightCell
      rw [s_isFarmerC, cl_some, ite_bI, if_pos c1, g0z_1, s_isBoneC, cl_some, ite_bI, if_pos (cb.mpr c4)]
      by_cases d1 : s < 0
      · rw [if_pos d1, cl_some, if_pos rfl]
      · rw [if_neg d1, if_neg (fun w => c3 ⟨d1, fun w2 => by rw [i32_le] at w; rw [i32_lt] at w2; omega⟩), cl_some, if_pos rfl]
    · unfold f_X11_night; rw [s_isFarmerR, cl_some, ite_bI, if_pos c1, s_isBoneR _ (k1 I rfl) (by omega), cl_some, ite_bI, if_pos c4, s_isIn, cl_some, ite_bI, if_neg (fun w => c3 (in_r.mp w))]
  obtain ⟨i, hi, rfl⟩ := nI_nm c4.1 c4.2 (by omega)
  obtain ⟨k, hk, rfl⟩ := nI_nm (a := s) (N := 4) c3.1 (fun w => c3.2 (by rw [i32_le, nI_t (by omega)] at w; rw [i32_lt]; have : (3 : Int32).toInt = 3 := rfl; omega)) (by omega)
  have eC := s_nightC (n := n) (t := t) (u := u) hD hXC.1 hW hTc hi hk
  have eR := s_stepR (n := n) (J := J) (t := t) (u := u) hn hD hXR.1 (by omega) hW hTr hi hk
  cases e : ngT W H T i k with
  | none =>
    rw [e] at eC eR
    refine no ?_ ?_
    · unfold f_X10_night; rw [s_isFarmerC, cl_some, ite_bI, if_pos c1, g0z_1, eC, cl_some, if_pos (show oI none = -1 from rfl)]
    · unfold f_X11_night; rw [s_isFarmerR, cl_some, ite_bI, if_pos c1, s_isBoneR _ (k1 I rfl) (by omega), cl_some, ite_bI, if_pos c4, s_isIn, cl_some, ite_bI, if_pos (in_r.mpr c3), eR, cl_some, if_neg (by decide)]
  | some d =>
    obtain ⟨hst, hop⟩ := ngT_some e
    have hd := stp_lt hD.1 hD.2.1 hst
    obtain ⟨kk, hq, q1, q2, q3, q4, q5, q6, q7, q8, q9, q10, q11, q12, q13, -⟩ := hRI.2.2.2.2.2.2.1
    have p92 : ∀ g, g < 6 → plj (92 + g) = true := fun g hg => by have := plj_85 (g := 7 + g) (by omega); rwa [show 85 + (7 + g) = 92 + g by omega] at this
    obtain ⟨ef, q, hqQ, eq⟩ := q10 f hf
    rw [pa0 _ (p92 f hf)] at ef
    have mf : mI (mk z (W * H) I J t u) (z + (32 + 5)) f = nI q := eq
    have rf : I (z + 84) (92 + f) = nI q := ef.symm.trans eq
    obtain ⟨la, hla, ela, hgn⟩ := s_lawC (n := n) (C := W * H) (J := J) (u := u) hXC.2.1
    obtain ⟨I1, e1, s1⟩ := s_foundC (n := n) (u := u) hn (by omega) hD hXC.1 (Or.inl rfl) hW hTc hla hi (q := q) (by omega)
    have dm : ¬ oI (some d) = -1 := nI_nm1 (by omega)
    have dp : (0 : Int32) ≤ oI (some d) := by
      show (0 : Int32) ≤ nI d
      rw [show (0 : Int32) = nI 0 from rfl, nI_le' (by omega) (by omega)]; omega
    have ref : ∀ (I2 : Nat → Nat → Int32) (J2 : Nat → Nat → Int64), (∀ q, (z + 83 ≤ q ∨ q = z + 1) → I2 q = I q) → ∃ I3 J3, Sr z I2 I3 J2 J3 ∧ ModR z W H 0 I3 ∧ RefT z (W * H) 0 I3 T ∧ f_X11_night n (z + 83) (nI f) (nI i) (nI k) (mk z (W * H) I2 J2 t u) = (if bD (fnL L (nmQ W H T i q)) = 0 then cl (f_X11_stepped n (z + 83) (nI i) (nI k) (mk z (W * H) I3 J3 t u)) fun x24 S21 => cv (f_X11_move n (z + 83) (nI i) x24 S21) fun S25 => some ((1 : Int32), S25) else some ((2 : Int32), mk z (W * H) (up2 I3 (z + 84) (92 + f) (nI (q + 1))) J3 t u)) := by
      intro I2 J2 hI
      have h84 := hI (z + 84) (by omega)
      have hM2 : ModR z W H 0 I2 := by unfold ModR; rw [hI (z + 83) (by omega)]; exact hXR.1
      have hT2 : RefT z (W * H) 0 I2 T := by unfold RefT; rw [h84]; exact hTr
      have hL2 : LawR z t I2 L := hXR.2.1.congr (fun j _ => by rw [hI (z + 1) (by omega)]) (by rw [h84]) (hI _ (by omega)) (fun q hq => hI q (by omega))
      obtain ⟨I3, J3, e3, s3⟩ := s_foundR (n := n) (J := J2) (u := u) hn (by omega) hD hM2 (by omega) hW hT2 hL2 hi hf (q := q) (by omega) (by rw [h84]; exact rf)
      have m84 : I3 (z + 84) = I (z + 84) := (s3.1 _ (by omega) (by omega)).trans h84
      have mf3 : mI (mk z (W * H) I3 J3 t u) (z + 84) (92 + f) = nI q := by rw [mI_mk, m84]; exact rf
      refine ⟨I3, J3, s3, by unfold ModR; rw [s3.1 _ (by omega) (by omega)]; exact hM2, by unfold RefT; rw [m84]; exact hTr, ?_⟩
      have eR2 := s_stepR (n := n) (J := J2) (t := t) (u := u) hn hD hM2 (by omega) hW hT2 hi hk
      rw [e] at eR2
      unfold f_X11_night
      simp only [bd]
      rw [s_isFarmerR, cl_some, ite_bI, if_pos c1, s_isBoneR _ (k1 I2 h84) (by omega), cl_some, ite_bI, if_pos c4, s_isIn, cl_some, ite_bI, if_pos (in_r.mpr c3), eR2, cl_some, if_pos dp, e3, cl_some, g83_0, n84, show (92 : Int32) + nI f = nI (92 + f) from nI_pl 92 f, ck_t (inb_nI (by omega) (by omega)), ck_t (inb_nI (by omega) (by omega)), cl_nI (by omega), mf3, show nI q + (1 : Int32) = nI (q + 1) from nI_pl q 1, sI_mk]
    by_cases hF : fnL L (nmQ W H T i q)
    · have mf1 : mI (mk z (W * H) I1 J t u) (z + (32 + 5)) f = nI q := by rw [mI_mk, s1 _ (by omega) (by omega)]; exact eq
      obtain ⟨I3, J3, s3, hM3, hT3, e3⟩ := ref (up2 I1 (z + (32 + 5)) f (nI (q + 1))) J (fun q hq => by rw [up2_ne (by omega), s1 _ (by omega) (by omega)])
      rw [bD_t hF, if_neg (by decide)] at e3
      have hI3 : ∀ q, q ≠ z + 88 → q ≠ z + 90 → q ≠ z + 37 → q ≠ z + 24 → q ≠ z + 25 → I3 q = I q := fun q a b c d e => by rw [s3.1 q a b, up2_ne (by omega), s1 q d e]
      have h37 : I3 (z + (32 + 5)) = ur (I (z + (32 + 5))) f (nI (q + 1)) := by rw [s3.1 _ (by omega) (by omega), up2_r, s1 _ (by omega) (by omega)]
      have h84 : up2 I3 (z + 84) (92 + f) (nI (q + 1)) (z + 84) = ur (I (z + 84)) (92 + f) (nI (q + 1)) := by rw [up2_r, hI3 _ (by omega) (by omega) (by omega) (by omega) (by omega)]
      have hJ3 : ∀ q, q ≠ z + 89 → J3 q = J q := fun q h => s3.2 q h
      refine ⟨2, mk z (W * H) (up2 I1 (z + (32 + 5)) f (nI (q + 1))) J t u, mk z (W * H) (up2 I3 (z + 84) (92 + f) (nI (q + 1))) J3 t u, ?_, e3, Rel.cl hD (hRQ.plain2 (TXx_ok z) (fun q hq a b => by rw [up2_ne a, hI3 q (by omega) (by omega) (by omega) (by omega) (by omega)]) (fun q hq => hJ3 q (by omega)) (fun j hj => ?_) (PlainR.of hC hW ?_ ?_ (fun g hg => ?_) (fun c hc => ?_) (fun c hc => ?_)))⟩
      · unfold f_X10_night
        simp only [bd]
        rw [s_isFarmerC, cl_some, ite_bI, if_pos c1, g0z_1, eC, e, cl_some, if_neg dm, g0z_8, g0z_1, g0z_1, gP_5 (Or.inl rfl), nP_5 (Or.inl rfl), ck_t (inb_nI (by omega) (by omega)), g0z_9, ela, cl_some, hgn, cl_nI (by omega), mf, e1, cl_some, bD_t hF, if_neg (by decide), g0z_1, gP_5 (Or.inl rfl), nP_5 (Or.inl rfl), ck_t (inb_nI (by omega) (by omega)), ck_t (inb_nI (by omega) (by omega)), mf1, show nI q + (1 : Int32) = nI (q + 1) from nI_pl q 1, sI_mk]
      · rw [h84, ur_ne _ _ (plj_f hj (p92 f hf) (by omega))]
      · show ClsT z (W * H) 32 (up2 I3 (z + 84) (92 + f) (nI (q + 1))) J3 T
        have hh : ∀ y, (z + 32 ≤ y ∧ y ≤ z + 38 ∧ y ≠ z + 37) → up2 I3 (z + 84) (92 + f) (nI (q + 1)) y = I y := fun y hy => by rw [up2_ne (by omega), hI3 y (by omega) (by omega) (by omega) (by omega) (by omega)]
        unfold ClsT
        rw [hh (z + 32) (by omega), hh (z + (32 + 1)) (by omega), hh (z + (32 + 2)) (by omega), hh (z + (32 + 3)) (by omega), hh (z + (32 + 4)) (by omega), hh (z + (32 + 6)) (by omega), hJ3 (z + 32) (by omega)]
        exact hTc
      · rw [h84, pa_ur0 (p92 f hf)]
        obtain ⟨b1, b2, b3, b4, b5, b6⟩ := hTr
        refine ⟨?_, ?_, fun j hj => ?_, fun g hg => ?_, fun c hc => ?_, fun c hc hb => ?_⟩
        · rw [ur_ne _ _ (by omega)]; exact b1
        · rw [ur_ne _ _ (by omega)]; exact b2
        · rw [ur_ne _ _ (by omega), ur_ne _ _ (by omega), ur_ne _ _ (by omega), ur_ne _ _ (by omega)]; exact b3 j hj
        · rw [ur_ne _ _ (by omega)]; exact b4 g hg
        · rw [ur_ne _ _ (by omega)]; exact b5 c hc
        · rw [ur_ne _ _ (by omega)]; exact b6 c hc hb
      · rw [h84, pa_ur0 (p92 f hf), up2_ne (by omega), h37]
        by_cases hgf : g = f
        · subst hgf
          rw [ur_at, ur_at]
          exact ⟨rfl, q + 1, by omega, rfl⟩
        · rw [ur_ne _ _ hgf, ur_ne _ _ (by omega)]
          obtain ⟨x, v, hv, ev⟩ := q10 g hg
          exact ⟨x, v, by omega, ev⟩
      · rw [h84, pa_ur0 (p92 f hf), ur_ne _ _ (by omega), hJ3 (z + 32) (by omega)]
        exact q12 c hc
      · rw [hJ3 (z + 32) (by omega)]
        exact q13 c hc
    · obtain ⟨I2, J2, e2, r2, fI, fJ, j9⟩ := s_shift (n := n) (t := t) (u := u) hD (Or.inl rfl) hW (hTc.sc (Or.inl rfl) s1) hi hd hop
      obtain ⟨I3, J3, s3, hM3, hT3, e3⟩ := ref I2 J2 (fun q hq => by rw [fI q (by omega) (by omega) (by omega), s1 _ (by omega) (by omega)])
      rw [bD_f hF, if_pos rfl] at e3
      have eR3 := s_stepR (n := n) (J := J3) (t := t) (u := u) hn hD hM3 (by omega) hW hT3 hi hk
      rw [e] at eR3
      obtain ⟨g, e4, r4, g4⟩ := s_moveR (n := n) (J := J3) (t := t) (u := u) hD hM3 (by omega) hW hT3 hi hd hop
      rw [eR3, cl_some, show oI (some d) = nI d from rfl, e4, cv_some] at e3
      refine ⟨1, mk z (W * H) I2 J2 t u, mk z (W * H) (upr I3 (z + 84) g) J3 t u, ?_, e3, Rel.cl hD (hRQ.after (TXx_ok z) hC ((hW.lay hi hd hop).lie (by omega)) (r2.keep (fun y _ => (upr_ne (by omega)).trans (s3.1 _ (by omega) (by omega))) (s3.2 _ (by omega))) r4 (fun q hq => ?_) (fun q hq => ?_) ?_ ?_)⟩
      · unfold f_X10_night
        simp only [bd]
        rw [s_isFarmerC, cl_some, ite_bI, if_pos c1, g0z_1, eC, e, cl_some, if_neg dm, g0z_8, g0z_1, g0z_1, gP_5 (Or.inl rfl), nP_5 (Or.inl rfl), ck_t (inb_nI (by omega) (by omega)), g0z_9, ela, cl_some, hgn, cl_nI (by omega), mf, e1, cl_some, bD_f hF, if_pos rfl, g0z_1, show oI (some d) = nI d from rfl, e2, cv_some]
      · rw [upr_ne (by omega), s3.1 q (by omega) (by omega), fI q (by omega) (by omega) (by omega), s1 q (by omega) (by omega)]
      · rw [s3.2 q (by omega), fJ q (by omega)]
      · rw [s3.2 _ (by omega)]; exact j9
      · rw [upr_at]
        rw [s3.1 _ (by omega) (by omega), fI _ (by omega) (by omega) (by omega), s1 _ (by omega) (by omega)] at g4
        exact g4
end NO
