/-! WINDS AND PLAN, abstract; HOUR, OF keep the relation -/
abbrev VT : Type := Nat × (Nat → Int32) × (Nat → Int32) × (Nat → Nat) × (Nat → Nat) × (Nat → Nat)
def vn (V : VT) : Nat := V.1
def vx (V : VT) : Nat → Int32 := V.2.1
def vy (V : VT) : Nat → Int32 := V.2.2.1
def vs (V : VT) : Nat → Nat := V.2.2.2.1
def vc (V : VT) : Nat → Nat := V.2.2.2.2.1
def vp (V : VT) : Nat → Nat := V.2.2.2.2.2
def VC (z : Nat) (I : Nat → Nat → Int32) (V : VT) : Prop := vn V ≤ 6 ∧ I (z + 1) 6 = nI (vn V) ∧ (∀ i, i < vn V → WnC z I i (vx V i) (vy V i) (vs V i) ∧ I (z + 5) i = nI (vc V i) ∧ vc V i < 10) ∧ (∀ k, k < 40 → I (z + 6) k = nI (vp V k) ∧ vp V k < 6 ∧ (vp V k < vn V ∨ vp V k = 0))
def VR (z : Nat) (I : Nat → Nat → Int32) (V : VT) : Prop := vn V ≤ 6 ∧ I (z + 84) 2 = nI (vn V) ∧ (∀ i, i < vn V → WnR (I (z + 84)) i (vx V i) (vy V i) (vs V i) ∧ I (z + 84) (103 + 4 * i) = nI (vc V i) ∧ vc V i < 10) ∧ (∀ k, k < 40 → I (z + 84) (125 + k) = nI (vp V k) ∧ vp V k < 6 ∧ (vp V k < vn V ∨ vp V k = 0))
theorem st1_of {x : Int32} (h : -1 ≤ x ∧ x ≤ 1) : st1 x := by
  rw [i32_le, i32_le] at h
  have a : (-1 : Int32).toInt = -1 := rfl
  have b : (1 : Int32).toInt = 1 := rfl
  have c : (0 : Int32).toInt = 0 := rfl
  unfold st1
  rw [i32_eq, i32_eq, i32_eq]
  omega
theorem VC.congr {z : Nat} {I I' : Nat → Nat → Int32} {V : VT} (h : VC z I V) (hI : ∀ q, z + 1 ≤ q → q ≤ z + 6 → I' q = I q) : VC z I' V := by
  unfold VC WnC at h ⊢
  rw [hI (z + 1) (by omega) (by omega), hI (z + 2) (by omega) (by omega), hI (z + 3) (by omega) (by omega), hI (z + 4) (by omega) (by omega), hI (z + 5) (by omega) (by omega), hI (z + 6) (by omega) (by omega)]
  exact h
theorem VR.congr {z : Nat} {I I' : Nat → Nat → Int32} {V : VT} (h : VR z I V) (hI : ∀ j, (j = 2 ∨ (100 ≤ j ∧ j < 165)) → I' (z + 84) j = I (z + 84) j) : VR z I' V := by
  obtain ⟨a1, a2, a3, a4⟩ := h
  refine ⟨a1, by rw [hI 2 (Or.inl rfl)]; exact a2, fun i hi => ?_, fun k hk => by rw [hI _ (by omega)]; exact a4 k hk⟩
  obtain ⟨⟨b1, b2, b3, b4, b5, b6, b7⟩, b8, b9⟩ := a3 i hi
  exact ⟨⟨b1, b2, b3, b4, by rw [hI _ (by omega)]; exact b5, by rw [hI _ (by omega)]; exact b6, by rw [hI _ (by omega)]; exact b7⟩, by rw [hI _ (by omega)]; exact b8, b9⟩
section HP
variable {z Q W H t : Nat} {TX : TXty} {I : Nat → Nat → Int32} {J : Nat → Nat → Int64}
theorem RelI.winds (h : RelI z TX Q W H I J t) : ∃ V, VC z I V ∧ VR z I V := by
  obtain ⟨w, tx, q1, q2, q3, q4, q5, q6, q7, q8, q9, q10, q11⟩ := h.2.2.2.2.1
  rw [ta_in (by decide), Nat.zero_add, Nat.zero_add] at q4
  let V : VT := (w, I (z + 2), I (z + 3), fun i => (I (z + 4) i).toNatClampNeg, fun i => (I (z + 5) i).toNatClampNeg, fun k => (I (z + 6) k).toNatClampNeg)
  have hw : ∀ i, i < w → st1 (I (z + 2) i) ∧ st1 (I (z + 3) i) ∧ (I (z + 4) i).toNatClampNeg < 100 ∧ I (z + 4) i = nI (I (z + 4) i).toNatClampNeg ∧ (I (z + 5) i).toNatClampNeg < 10 ∧ I (z + 5) i = nI (I (z + 5) i).toNatClampNeg ∧ I (z + 84) (100 + 4 * i) = I (z + 2) i ∧ I (z + 84) (101 + 4 * i) = I (z + 3) i ∧ I (z + 84) (102 + 4 * i) = I (z + 4) i ∧ I (z + 84) (103 + 4 * i) = I (z + 5) i := by
    intro i hi
    obtain ⟨a1, a2, a3, a4, a5, a6, ⟨s, a7, a8⟩, ⟨c, a9, a10⟩⟩ := q9 i hi
    rw [ta_in (by have := tlj_100 (i := 4 * i) (by omega); rwa [show 100 + 4 * i = 0 + 100 + 4 * i by omega] at this)] at a1
    rw [ta_in (by have := tlj_100 (i := 1 + 4 * i) (by omega); rwa [show 100 + (1 + 4 * i) = 0 + 101 + 4 * i by omega] at this)] at a2
    rw [ta_in (by have := tlj_100 (i := 2 + 4 * i) (by omega); rwa [show 100 + (2 + 4 * i) = 0 + 102 + 4 * i by omega] at this)] at a3
    rw [ta_in (by have := tlj_100 (i := 3 + 4 * i) (by omega); rwa [show 100 + (3 + 4 * i) = 0 + 103 + 4 * i by omega] at this)] at a4
    rw [Nat.zero_add, Nat.zero_add] at a1 a2 a3 a4
    have a8' : I (z + 4) i = nI s := a8
    have a10' : I (z + 5) i = nI c := a10
    refine ⟨st1_of a5, st1_of a6, ?_, ?_, ?_, ?_, a1.symm, a2.symm, a3.symm, a4.symm⟩
    · rw [a8', cl_nI (by omega)]; exact a7
    · rw [a8', cl_nI (by omega)]
    · rw [a10', cl_nI (by omega)]; exact a9
    · rw [a10', cl_nI (by omega)]
  have hp : ∀ k, k < 40 → I (z + 6) k = nI (I (z + 6) k).toNatClampNeg ∧ (I (z + 6) k).toNatClampNeg < 6 ∧ ((I (z + 6) k).toNatClampNeg < w ∨ (I (z + 6) k).toNatClampNeg = 0) ∧ I (z + 84) (125 + k) = I (z + 6) k := by
    intro k hk
    obtain ⟨a1, v, a2, a3, a4⟩ := q10 k hk
    rw [ta_in (by have := tlj_100 (i := 25 + k) (by omega); rwa [show 100 + (25 + k) = 0 + 125 + k by omega] at this), Nat.zero_add, Nat.zero_add] at a1
    have a4' : I (z + 6) k = nI v := a4
    refine ⟨?_, ?_, ?_, a1.symm⟩
    · rw [a4', cl_nI (by omega)]
    · rw [a4', cl_nI (by omega)]; exact a2
    · rw [a4', cl_nI (by omega)]; exact a3
  refine ⟨V, ⟨q1, q3, fun i hi => ?_, fun k hk => ?_⟩, ⟨q1, q4, fun i hi => ?_, fun k hk => ?_⟩⟩
  · obtain ⟨a1, a2, a3, a4, a5, a6, a7, a8, a9, a10⟩ := hw i hi
    have hi : i < w := hi
    exact ⟨⟨by omega, a1, a2, a3, rfl, rfl, a4⟩, a6, a5⟩
  · obtain ⟨a1, a2, a3, a4⟩ := hp k hk
    exact ⟨a1, a2, a3⟩
  · obtain ⟨a1, a2, a3, a4, a5, a6, a7, a8, a9, a10⟩ := hw i hi
    have hi : i < w := hi
    exact ⟨⟨by omega, a1, a2, a3, a7, a8, by rw [a9]; exact a4⟩, by rw [a10]; exact a6, a5⟩
  · obtain ⟨a1, a2, a3, a4⟩ := hp k hk
    exact ⟨by rw [a4]; exact a1, a2, a3⟩
/-- behind a change of the plain now -/
theorem RelI.after {I2 : Nat → Nat → Int32} {J2 : Nat → Nat → Int64} {T' : TP} (hTX : TXok z TX) (hC : W * H ≤ 48) (h : RelI z TX Q W H I J t) (hT' : TW (W * H) 999 T') (hc : ClsT z (W * H) 32 I2 J2 T') (hr : RefT z (W * H) 0 I2 T') (R : ∀ q, (q < z + 24 ∨ (z + 30 ≤ q ∧ q < z + 32) ∨ q = z + 37 ∨ (z + 39 ≤ q ∧ q < z + 46) ∨ q = z + 85 ∨ q = z + 86 ∨ q = z + 83 ∨ z + 97 ≤ q) → I2 q = I q) (RJ : ∀ q, (q = z + 30 ∨ q = z + 31 ∨ q = z + 39) → J2 q = J q) (j9 : J2 (z + 32) 9 = J (z + 32) 9) (hQ : Q84 0 (I (z + 84)) (I2 (z + 84))) : RelI z TX Q W H I2 J2 t := by
  obtain ⟨k, hq, q1, q2, q3, q4, q5, q6, q7, q8, q9, q10, q11, q12, q13, -⟩ := h.2.2.2.2.2.2.1
  refine h.plain2 hTX (fun q g1 _ _ => R q (by omega)) RJ (fun j hj => ?_) (PlainR.of hC hT' hc hr (fun f hf => ?_) (fun c hc => ?_) (fun c hc => ?_))
  · rcases hj with hj | hj
    · have := hQ.2.1 j hj; rwa [Nat.zero_add] at this
    · exact hQ.1 j (Or.inr (by omega))
  · have p92 : plj (92 + f) = true := by have := plj_85 (g := 7 + f) (by omega); rwa [show 85 + (7 + f) = 92 + f by omega] at this
    have := hQ.2.2.2 f hf
    rw [R (z + (32 + 5)) (by omega), pa0 _ p92]
    rw [show 0 + 92 + f = 92 + f by omega] at this
    rw [this, ← pa0 (I (z + 84)) p92]
    exact q10 f hf
  · have p190 : plj (190 + c) = true := plj_190 (by omega)
    have := hQ.2.2.1 c (by omega)
    rw [show 0 + 190 + c = 190 + c by omega] at this
    rw [pa0 _ p190, this, ← pa0 (I (z + 84)) p190, j9]
    exact q12 c hc
  · rw [j9]; exact q13 c hc
theorem LawR.sbw {o : Nat} {L : Option XT} {I' : Nat → Nat → Int32} {J' : Nat → Nat → Int64} (ho : isP o) (hL : LawR z t I L) (h : SbW z o I I' J J') : LawR z t I' L :=
  hL.congr (fun j _ => by rw [h.1 (z + 1) (by omega)]) (by rw [h.1 (z + 84) (by have := isP_ge ho; omega)]) (h.1 _ (by have := isP_ge ho; omega)) (fun q hq => h.1 q (by have := isP_ge ho; omega))
theorem ModR.sbw {o B : Nat} {I' : Nat → Nat → Int32} {J' : Nat → Nat → Int64} (ho : isP o) (hM : ModR z W H B I) (h : SbW z o I I' J J') : ModR z W H B I' := by
  unfold ModR; rw [h.1 (z + 83) (by have := isP_ge ho; omega)]; exact hM
theorem RefT.sbw {o B C : Nat} {T : TP} {I' : Nat → Nat → Int32} {J' : Nat → Nat → Int64} (ho : isP o) (hT : RefT z C B I T) (h : SbW z o I I' J J') : RefT z C B I' T := by
  unfold RefT; rw [h.1 (z + 84) (by have := isP_ge ho; omega)]; exact hT
theorem ClsT.sgb {o B C : Nat} {T : TP} {I' : Nat → Nat → Int32} {J' : Nat → Nat → Int64} (ho : isP o) (hT : ClsT z C o I J T) (h : SgB z B I I' J J') : ClsT z C o I' J' T :=
  hT.keep (fun i hi => h.1 _ (by have := isP_ge ho; omega)) (h.2.1 _ (by have := isP_ge ho; omega))
end HP
section HQ
variable {z Q : Nat}
theorem Op_hour_ok : Op_hour z (Rel z (TXx z) Q) := by
  intro n hn S a hR
  obtain ⟨W, H, I, J, t, u, w1, w2, w3, w4, rfl, hRI⟩ := hR
  have hD : dims W H := ⟨w1, w2, w3, w4⟩
  have hC := hD.C
  obtain ⟨hG, hM4, hTa, hF, hT1, hT8, hP1, hP2, -⟩ := id hRI
  have hM := hRI.mod
  have ho : isP 32 := Or.inl rfl
  obtain ⟨V, hVC, hVR⟩ := hRI.winds
  obtain ⟨L, hL⟩ := hRI.law
  obtain ⟨T, hW, hTc, hTr⟩ := PlainR.out hP1 hC
  have hTc : ClsT z (W * H) 32 I J T := hTc
  have hTr : RefT z (W * H) 0 I T := hTr
  have hh := hW.2.1
  have hv6 := hVC.1
  by_cases c1 : ¬ a < 0 ∧ ¬ nI (vn V) ≤ a
  · obtain ⟨v, hv, rfl⟩ := nI_nm c1.1 c1.2 (by omega)
    have cw : ¬ nI v < 0 ∧ ¬ mI (mk z (W * H) I J t u) (z + 1) 6 ≤ nI v := by rw [mI_mk, hVC.2.1]; exact c1
    by_cases c2 : th T < 999
    · obtain ⟨I1, J1, e1, k1, k2⟩ := s_blowC (n := n) (u := u) hn (by omega) hD hG ho hW hTc hL (hVC.2.2.1 v hv).1
      obtain ⟨I2, J2, e2, k3, k4⟩ := s_blowR (n := n) (J := J1) (u := u) hn (by omega) hD (hM.sbw ho k2) (by omega) (Or.inl rfl) hW (hTr.sbw ho k2) (hL.sbw ho k2) (w := v) (str := vs V v) (dx := vx V v) (dy := vy V v) (by rw [k2.1 (z + 84) (by omega)]; exact (hVR.2.2.1 v hv).1)
      refine ⟨nI (blT W H L (vx V v).toInt (vy V v).toInt (vs V v) T).2, mk z (W * H) I1 J1 t u, mk z (W * H) I2 J2 t u, ?_, ?_, W, H, I2, J2, t, u, w1, w2, w3, w4, rfl, hRI.after (TXx_ok z) hC (blT_W hD hW c2) (k1.sgb ho k4) k3 (fun q hq => ?_) (fun q hq => ?_) ?_ ?_⟩
      · unfold f_X10_hour
        rw [g0z_3, s_isWindC, cl_some, ite_bI, if_pos cw, g0z_1, if_pos (show mI (mk z (W * H) I J t u) (z + 32) 8 < 999 by rw [mI_mk, hTc.2.1, show (999 : Int32) = nI 999 from rfl, nI_lt' (by omega) (by omega)]; exact c2), g0z_9, g0z_1, e1, cl_some]
      · unfold f_X11_hour
        rw [s_isWindR _ (by rw [k2.1 (z + 84) (by omega)]; exact hVR.2.1) (by omega), cl_some, ite_bI, if_pos c1, g83_0, n84, ck_t (by decide), show (0 : Int32).toNatClampNeg = 0 from rfl, if_neg (show ¬ (999 : Int32) ≤ mI (mk z (W * H) I1 J1 t u) (z + 84) 0 by
          rw [mI_mk, k2.1 (z + 84) (by omega), hTr.hor, show (999 : Int32) = nI 999 from rfl, nI_le' (by omega) (by omega)]; omega), e2, cl_some]
      · rw [k4.1 q (by omega)]
        by_cases h37 : q = z + 37
        · subst h37; exact k2.2.2.2
        · exact k2.1 q (by omega)
      · rw [k4.2.1 q (by omega), k2.2.1 q (by omega)]
      · rw [k4.2.1 _ (by omega), k2.2.2.1]
      · have := k4.2.2
        rw [k2.1 (z + 84) (by omega)] at this
        exact this
    · refine ⟨-1, mk z (W * H) I J t u, _, ?_, ?_, W, H, I, J, t, u, w1, w2, w3, w4, rfl, hRI⟩
      · unfold f_X10_hour
        rw [g0z_3, s_isWindC, cl_some, ite_bI, if_pos cw, g0z_1, if_neg (show ¬ mI (mk z (W * H) I J t u) (z + 32) 8 < 999 by rw [mI_mk, hTc.2.1, show (999 : Int32) = nI 999 from rfl, nI_lt' (by omega) (by omega)]; exact c2)]
      · unfold f_X11_hour
        rw [s_isWindR _ hVR.2.1 (by omega), cl_some, ite_bI, if_pos c1, g83_0, n84, ck_t (by decide), show (0 : Int32).toNatClampNeg = 0 from rfl, if_pos (show (999 : Int32) ≤ mI (mk z (W * H) I J t u) (z + 84) 0 by
          rw [mI_mk, hTr.hor, show (999 : Int32) = nI 999 from rfl, nI_le' (by omega) (by omega)]; omega)]
  · refine ⟨-1, mk z (W * H) I J t u, _, ?_, ?_, W, H, I, J, t, u, w1, w2, w3, w4, rfl, hRI⟩
    · unfold f_X10_hour
      rw [g0z_3, s_isWindC, cl_some, ite_bI, if_neg (show ¬ _ from by rw [mI_mk, hVC.2.1]; exact c1)]
    · unfold f_X11_hour
      rw [s_isWindR _ hVR.2.1 (by omega), cl_some, ite_bI, if_neg c1]
theorem Op_of_ok : Op_of z (Rel z (TXx z) Q) := by
  intro n hn S a b hR
  obtain ⟨W, H, I, J, t, u, w1, w2, w3, w4, rfl, hRI⟩ := hR
  have hD : dims W H := ⟨w1, w2, w3, w4⟩
  have hC := hD.C
  obtain ⟨hG, hM4, hTa, hF, hT1, hT8, hP1, hP2, -⟩ := id hRI
  have hM := hRI.mod
  have ho : isP 32 := Or.inl rfl
  obtain ⟨L, hL⟩ := hRI.law
  obtain ⟨T, hW, hTc, hTr⟩ := PlainR.out hP1 hC
  have hTc : ClsT z (W * H) 32 I J T := hTc
  have hTr : RefT z (W * H) 0 I T := hTr
  have h24 := hW.1
  have m1 : I (z + 84) 1 = nI (tk T) := hTr.cnt
  by_cases c1 : ¬ a < 0 ∧ ¬ nI (tk T) ≤ a
  · obtain ⟨i, hi, rfl⟩ := nI_nm c1.1 c1.2 (by omega)
    have cb : ¬ nI i < 0 ∧ ¬ mI (mk z (W * H) I J t u) (z + 32) 7 ≤ nI i := by rw [mI_mk, hTc.1]; exact c1
    obtain ⟨a1, a2, a3⟩ := hTc.2.2.1 i hi
    have x1 : mI (mk z (W * H) I J t u) (z + (32 + 1)) i = nI (tc T i) := a1
    have x2 : mI (mk z (W * H) I J t u) (z + (32 + 2)) i = nI (tw T i) := a2
    have x3 : mI (mk z (W * H) I J t u) (z + (32 + 3)) i = nI (tl T i) := a3
    have y1 := hTr.cel hW hi
    have y2 := hTr.wgt hW hi
    have y3 := hTr.lie hW hi
    have e10 : (10 : Int32) + (3 : Int32) * nI i = nI (10 + 3 * i) := by rw [show (3 : Int32) * nI i = nI (3 * i) from nI_ml 3 i]; exact nI_pl 10 _
    have ref3 : ∀ c, c < 3 → f_X11_of n (z + 83) (nI i) (nI c) (mk z (W * H) I J t u) = some (I (z + 84) (10 + c + 3 * i), mk z (W * H) I J t u) := fun c hc => by
      unfold f_X11_of
      rw [s_isBoneR _ m1 (by omega), cl_some, ite_bI, if_pos c1, s_isIn, cl_some, ite_bI, if_pos (show (0 : Int32) ≤ nI c ∧ nI c ≤ 3 by
        rw [show (0 : Int32) = nI 0 from rfl, show (3 : Int32) = nI 3 from rfl, nI_le' (by omega) (by omega), nI_le' (by omega) (by omega)]; omega), if_neg (show ¬ nI c = 3 by rw [show (3 : Int32) = nI 3 from rfl, nI_inj (by omega) (by omega)]; omega), g83_0, n84, e10, nI_pl, ck_t (inb_nI (by omega) (by omega)), cl_nI (by omega), mI_mk, show 10 + 3 * i + c = 10 + c + 3 * i by omega]
    have same : ∀ r, f_X10_of n z (nI i) b (mk z (W * H) I J t u) = some (r, mk z (W * H) I J t u) → f_X11_of n (z + 83) (nI i) b (mk z (W * H) I J t u) = some (r, mk z (W * H) I J t u) → ∃ (r : Int32) (S1 S2 : MS), f_X10_of n z (nI i) b (mk z (W * H) I J t u) = some (r, S1) ∧ f_X11_of n (z + 83) (nI i) b S1 = some (r, S2) ∧ Rel z (TXx z) Q S2 := fun r e1 e2 => ⟨r, _, _, e1, e2, W, H, I, J, t, u, w1, w2, w3, w4, rfl, hRI⟩
    by_cases b0 : b = 0
    · subst b0
      refine same (nI (tc T i)) ?_ ((ref3 0 (by omega)).trans (by rw [show 10 + 0 + 3 * i = 0 + 10 + 3 * i by omega, y1]))
      unfold f_X10_of
      rw [g0z_1, s_isBoneC, cl_some, ite_bI, if_pos cb, if_pos rfl, g0z_1, gP_1 ho, nP_1 ho, ck_t (inb_nI (by omega) (by omega)), cl_nI (by omega), x1]
    by_cases b1 : b = 1
    · subst b1
      refine same (nI (tw T i)) ?_ ((ref3 1 (by omega)).trans (by rw [show 10 + 1 + 3 * i = 0 + 11 + 3 * i by omega, y2]))
      unfold f_X10_of
      rw [g0z_1, s_isBoneC, cl_some, ite_bI, if_pos cb, if_neg (by decide), if_pos rfl, g0z_1, gP_2 ho, nP_2 ho, ck_t (inb_nI (by omega) (by omega)), cl_nI (by omega), x2]
    by_cases b2 : b = 2
    · subst b2
      refine same (nI (tl T i)) ?_ ((ref3 2 (by omega)).trans (by rw [show 10 + 2 + 3 * i = 0 + 12 + 3 * i by omega, y3]))
      unfold f_X10_of
      rw [g0z_1, s_isBoneC, cl_some, ite_bI, if_pos cb, if_neg (by decide), if_neg (by decide), if_pos rfl, g0z_1, gP_3 ho, nP_3 ho, ck_t (inb_nI (by omega) (by omega)), cl_nI (by omega), x3]
    by_cases b3 : b = 3
    · subst b3
      obtain ⟨la, hla, ela, hgn⟩ := s_lawC (n := n) (C := W * H) (J := J) (u := u) hL
      obtain ⟨I1, e1, hS⟩ := s_holdNow (n := n) (u := u) hn (by omega) hD hG ho hW hTc hla hi
      have hL1 : LawR z t I1 L := hL.congr (fun j _ => by rw [hS (z + 1) (by omega) (by omega)]) (by rw [hS _ (by omega) (by omega)]) (hS _ (by omega) (by omega)) (fun q hq => hS q (by omega) (by omega))
      obtain ⟨I2, J2, e2, hS2, -⟩ := s_holdOf (n := n) (J := J) (u := u) hn (by omega) hD (I := I1) (B := 0) (by unfold ModR; rw [hS _ (by omega) (by omega)]; exact hM) (by omega) hW (by unfold RefT; rw [hS _ (by omega) (by omega)]; exact hTr) hL1 hi
      refine ⟨iI (holdT W H T L i), mk z (W * H) I1 J t u, mk z (W * H) I2 J2 t u, ?_, ?_, W, H, I2, J2, t, u, w1, w2, w3, w4, rfl, hRI.scr (TXx_ok z) (fun q hq => ?_) (fun j _ => ?_) (fun j _ => ?_) (fun q hq => ?_)⟩
      · unfold f_X10_of
        rw [g0z_1, s_isBoneC, cl_some, ite_bI, if_pos cb, if_neg (by decide), if_neg (by decide), if_neg (by decide), if_pos rfl, g0z_8, g0z_1, g0z_9, ela, cl_some, hgn, e1, cl_some]
      · unfold f_X11_of
        rw [s_isBoneR _ (by rw [hS _ (by omega) (by omega)]; exact m1) (by omega), cl_some, ite_bI, if_pos c1, s_isIn, cl_some, ite_bI, if_pos (by decide), if_pos rfl, e2, cl_some]
      · rw [hS2.1 q (by omega) (by omega), hS q (by omega) (by omega)]
      · rw [hS2.1 _ (by omega) (by omega), hS _ (by omega) (by omega)]
      · rw [hS2.1 _ (by omega) (by omega), hS _ (by omega) (by omega)]
      · exact hS2.2 q (by omega)
    refine same (-10000000) ?_ ?_
    · unfold f_X10_of
      rw [g0z_1, s_isBoneC, cl_some, ite_bI, if_pos cb, if_neg b0, if_neg b1, if_neg b2, if_neg b3]
    · unfold f_X11_of
      rw [s_isBoneR _ m1 (by omega), cl_some, ite_bI, if_pos c1, s_isIn, cl_some, ite_bI, if_neg]
      rintro ⟨g1, g2⟩
      rw [i32_le] at g1 g2
      have h0 : (0 : Int32).toInt = 0 := rfl
      have h1 : (1 : Int32).toInt = 1 := rfl
      have h2 : (2 : Int32).toInt = 2 := rfl
      have h3 : (3 : Int32).toInt = 3 := rfl
      rw [i32_eq] at b0 b1 b2 b3
      omega
  · refine ⟨-10000000, mk z (W * H) I J t u, _, ?_, ?_, W, H, I, J, t, u, w1, w2, w3, w4, rfl, hRI⟩
    · unfold f_X10_of
      rw [g0z_1, s_isBoneC, cl_some, ite_bI, if_neg (show ¬ _ from by rw [mI_mk, hTc.1]; exact c1)]
    · unfold f_X11_of
      rw [s_isBoneR _ m1 (by omega), cl_some, ite_bI, if_neg c1]
end HQ
