/-! ODDS, MEAN keep the relation -/
section OD
variable {n z t W H M : Nat} {u : Option Nat} {L : Option XT} {V : VT}
/-- goThrough from the row tried -/
theorem s_thr {I : Nat → Nat → Int32} {J : Nat → Nat → Int64} {T : TP} {B : Nat} (hn : 100000 ≤ n) (hD : dims W H) {f m : Nat} {cc : Option Nat} (hf : f < 6) (hcc : ∀ c, cc = some c → c < W * H) (hm : m ≤ 4) (hX : CxR z t W H B L V I) (hW : TW (W * H) 999 T) (hT : RefT z (W * H) 680 I T) :
    ∃ I' J', f_X11_goThrough n (z + 83) (2 : Int32) (nI f) (oI cc) (nI m) (mk z (W * H) I J t u) = some (mk z (W * H) I' J' t u) ∧ FrR z I I' J J' ∧ I' (z + 83) 4 = 0 ∧ J' (z + 83) 33 = nJ (lfS W H L V (fun _ => 1) m T) ∧ J' (z + 83) 34 = nJ (lfS W H L V (ldR W H f cc) m T) := by
  have hC := hD.C
  have hv6 := hX.2.2.1
  have hh := hW.2.1
  have hW2 : TW (W * H) 2000 T := hW.mono (by omega)
  obtain ⟨I1, hI1⟩ : ∃ I1, I1 = up2 I (z + 94) 0 (-1 : Int32) := ⟨_, rfl⟩
  obtain ⟨J1, hJ1⟩ : ∃ J1, J1 = up2 (up2 (up2 J (z + 83) 33 (0 : Int64)) (z + 83) 34 (0 : Int64)) (z + 95) 0 (1 : Int64) := ⟨_, rfl⟩
  have hF1 : FrR z I I1 J J1 := ⟨fun q hq => by rw [hI1, up2_ne (by omega)], fun j _ _ => by rw [hI1, up2_ne (by omega)], fun j _ => by rw [hI1, up2_ne (by omega)], fun q hq => by rw [hJ1, up2_ne (by omega), up2_ne (by omega), up2_ne (by omega)]⟩
  have j33 : J1 (z + 83) 33 = 0 := by rw [hJ1, up2_ne (by omega), up2_r, up2_r, ur_ne _ _ (by omega), ur_at]
  have j34 : J1 (z + 83) 34 = 0 := by rw [hJ1, up2_ne (by omega), up2_r, ur_at]
  have j95 : J1 (z + 95) 0 = nJ 1 := by rw [hJ1, up2_r, ur_at]; rfl
  have hX1 : CxR z t W H B L V I1 := hX.fr hF1 (by rw [hI1, up2_ne (by omega)]; exact hX.1.2.2.2)
  have hT1 : RefT z (W * H) 680 I1 T := by unfold RefT; rw [hI1, up2_ne (by omega)]; exact hT
  -- the end of the loop
  have fin : ∀ (F : Nat) (I2 : Nat → Nat → Int32) (J2 : Nat → Nat → Int64), 1 ≤ F → f_X11_goThrough_L47 n (z + 83) 2 (nI f) (oI cc) (nI m) F (-1) (mk z (W * H) I2 J2 t u) = some (mk z (W * H) (up2 I2 (z + 83) 4 (nI (340 * 0))) J2 t u) := by
    intro F I2 J2 hF
    obtain ⟨F, rfl⟩ : ∃ m, F = m + 1 := ⟨F - 1, by omega⟩
    rw [f_X11_goThrough_L47]
    simp only [jn]
    rw [if_pos (by decide), show (0 : Int32) = nI 0 from rfl, s_tries, cv_some]
  have pre : f_X11_goThrough n (z + 83) (2 : Int32) (nI f) (oI cc) (nI m) (mk z (W * H) I J t u) = (if nI m = 0 then cv (f_X11_tries n (z + 83) (2 : Int32) (mk z (W * H) I1 J1 t u)) fun S88 => cv (f_X11_leaf n (z + 83) (nI f) (oI cc) (1 : Int64) S88) fun S91 => f_X11_goThrough_L47 n (z + 83) 2 (nI f) (oI cc) (nI m) n (-1 : Int32) S91 else f_X11_goThrough_L47 n (z + 83) 2 (nI f) (oI cc) (nI m) n (0 : Int32) (mk z (W * H) I1 J1 t u)) := by
    unfold f_X11_goThrough
    simp only [jn, bd]
    rw [sJ_mk, sJ_mk, g83_32, n95, ck_t (by decide), show (0 : Int32).toNatClampNeg = 0 from rfl, sJ_mk, ← hJ1, g83_31, n94, ck_t (by decide), sI_mk, ← hI1]
  rw [pre]
  by_cases h0 : m = 0
  · subst h0
    have et : f_X11_tries n (z + 83) (2 : Int32) (mk z (W * H) I1 J1 t u) = some (mk z (W * H) (up2 I1 (z + 83) 4 (nI 680)) J1 t u) := s_tries (r := 2)
    have hF2 : FrR z I (up2 I1 (z + 83) 4 (nI 680)) J J1 := hF1.tr FrR.b
    have hX2 : CxR z t W H 680 L V (up2 I1 (z + 83) 4 (nI 680)) := hX.fr hF2 (by rw [up2_r, ur_at])
    obtain ⟨g, J2, e1, a1, a2, a3⟩ := s_leaf (n := n) (I := up2 I1 (z + 83) 4 (nI 680)) (J := J1) (t := t) (u := u) (w := 1) hn hD hX2.1 (by omega) hW (by unfold RefT; rw [up2_ne (by omega)]; exact hT1) hf hcc
    refine ⟨up2 (upr (up2 I1 (z + 83) 4 (nI 680)) (z + 93) g) (z + 83) 4 (nI (340 * 0)), J2, ?_, ?_, by rw [up2_r, ur_at]; rfl, ?_, ?_⟩
    · rw [if_pos (show nI 0 = (0 : Int32) from rfl), et, cv_some, show (1 : Int64) = nJ 1 from rfl, e1, cv_some, fin n _ _ (by omega)]
    · refine hF2.tr (FrR.tr ⟨fun q hq => upr_ne (by omega), fun j _ _ => by rw [upr_ne (by omega)], fun j _ => by rw [upr_ne (by omega)], fun q hq => a1 q (by omega)⟩ FrR.b)
    · rw [a2, j33, Int64.zero_add]; rfl
    · rw [a3, j34, Int64.zero_add, Nat.one_mul]; rfl
  · obtain ⟨m, rfl⟩ : ∃ m', m = m' + 1 := ⟨m - 1, by omega⟩
    have hcs : cst m ≤ 301 := by
      have : m = 0 ∨ m = 1 ∨ m = 2 ∨ m = 3 := by omega
      rcases this with rfl | rfl | rfl | rfl <;> decide
    have hmul : vn V * (1 + cst m) ≤ 6 * 302 := Nat.mul_le_mul hv6 (by omega)
    obtain ⟨F', I2, J2, B2, y1, y2, y3, y4, y5, y6⟩ := thr_R (n := n) (z := z) (t := t) (u := u) (L := L) (V := V) hn hD hf hcc hm m (vn V) 0 0 1 n 1 B I1 J1 T (by omega) (by omega) (by omega) hX1 hW2 (by omega) hT1 (by rw [hI1, up2_r, ur_at]; rfl) j95 (by omega) (by omega)
    refine ⟨up2 I2 (z + 83) 4 (nI (340 * 0)), J2, ?_, hF1.tr (y3.1.tr FrR.b), by rw [up2_r, ur_at]; rfl, ?_, ?_⟩
    · rw [if_neg (by rw [show (0 : Int32) = nI 0 from rfl, nI_inj (by omega) (by omega)]; omega), show (0 : Int32) = nI 0 from rfl, y2, show nI 0 + -1 = (-1 : Int32) from rfl, fin F' _ _ y1]
    · rw [y5, j33, Int64.zero_add, Nat.one_mul]; rfl
    · rw [y6, j34, Int64.zero_add, Nat.one_mul]; rfl
/-- the weight of all rows -/
theorem allW_L {I : Nat → Nat → Int32} {J : Nat → Nat → Int64} (hn : 100000 ≤ n) (hV : VC z I V) {m : Nat} (hm : m ≤ 4) : ∀ (d i k : Nat), i + d = m → d < k → f_X8_allWeight_L5 n (z + 1) (nI m) k (nJ (smC V (vn V) ^ i)) (nI i) (mk z (W * H) I J t u) = some (nJ (smC V (vn V) ^ m), mk z (W * H) I J t u) := by
  have hs := smC_le (V := V) (fun i hi => (hV.2.2.1 i hi).2.2) (vn V) (Nat.le_refl _)
  have hv6 := hV.1
  intro d
  induction d with
  | zero =>
    intro i k hi hk
    obtain ⟨k, rfl⟩ : ∃ m, k = m + 1 := ⟨k - 1, by omega⟩
    obtain rfl : i = m := by omega
    rw [f_X8_allWeight_L5]
    simp only [jn]
    rw [if_pos ((nI_le' (by omega) (by omega)).mpr (Nat.le_refl _))]
  | succ d ih =>
    intro i k hi hk
    obtain ⟨k, rfl⟩ : ∃ m, k = m + 1 := ⟨k - 1, by omega⟩
    have := ih (i + 1) k (by omega) (by omega)
    rw [f_X8_allWeight_L5]
    simp only [jn, bd]
    rw [if_neg (show ¬ nI m ≤ nI i by rw [nI_le' (by omega) (by omega)]; omega), all_C hn hV, cl_some, nI_64 (by omega), nJ_ml, ← Nat.pow_succ, show nI i + (1 : Int32) = nI (i + 1) from nI_pl i 1]
    exact this
theorem s_allW {I : Nat → Nat → Int32} {J : Nat → Nat → Int64} (hn : 100000 ≤ n) (hV : VC z I V) {m : Nat} (hm : m ≤ 4) : f_X8_allWeight n (z + 1) (nI m) (mk z (W * H) I J t u) = some (nJ (smC V (vn V) ^ m), mk z (W * H) I J t u) := allW_L hn hV hm m 0 n (by omega) (by omega)
/-- the mean, abstract -/
noncomputable def mnT (W H : Nat) (L : Option XT) (V : VT) (f m : Nat) (T : TP) : Int32 := if nJ (smC V (vn V) ^ m) = 0 then 0 else (nJ (lfS W H L V (ldA W H f) m T) * (1000 : Int64) / nJ (smC V (vn V) ^ m)).toInt32
/-- gather from the plain tried first -/
theorem s_gath {I : Nat → Nat → Int32} {J : Nat → Nat → Int64} {T : TP} (hn : 100000 ≤ n) (hD : dims W H) {f c m : Nat} (hf : f < 6) (hc : c < W * H) (hm : m ≤ 4) (hX : CxC z t W H L V I J) (hW : TW (W * H) 999 T) (hT : ClsT z (W * H) 48 I J T) :
    ∃ I1 J1 I' J', f_X2_aim n (z + 46) (nI f) (nI c) (mk z (W * H) I J t u) = some (mk z (W * H) I1 J1 t u) ∧ f_X2_gather n (z + 46) (0 : Int32) (nI m) (1 : Int64) (mk z (W * H) I1 J1 t u) = some (mk z (W * H) I' J' t u) ∧ FrC z I I' J J' ∧ (∀ j, j ≤ 2 → I' (z + 46) j = I (z + 46) j) ∧ J' (z + 46) 9 = nJ (lfS W H L V (ldH W H f c) m T) ∧ J' (z + 46) 10 = nJ (lfS W H L V (ldA W H f) m T) := by
  have hh := hW.2.1
  have hW2 : TW (W * H) 2000 T := hW.mono (by omega)
  obtain ⟨I1, hI1⟩ : ∃ I1, I1 = up2 (up2 I (z + 46) 7 (nI f)) (z + 46) 8 (nI c) := ⟨_, rfl⟩
  obtain ⟨J1, hJ1⟩ : ∃ J1, J1 = up2 (up2 J (z + 46) 9 (0 : Int64)) (z + 46) 10 (0 : Int64) := ⟨_, rfl⟩
  have i46 : I1 (z + 46) = ur (ur (I (z + 46)) 7 (nI f)) 8 (nI c) := by rw [hI1, up2_r, up2_r]
  have hF1 : FrC z I I1 J J1 := ⟨fun q hq => by rw [hI1, up2_ne (by omega), up2_ne (by omega)], fun q hq => by rw [hJ1, up2_ne (by omega), up2_ne (by omega)]⟩
  have hT1 : ClsT z (W * H) (48 + 7 * 0) I1 J1 T := hT.keep (fun i hi => by rw [hI1, up2_ne (by omega), up2_ne (by omega)]) (by rw [hJ1, up2_ne (by omega), up2_ne (by omega)])
  obtain ⟨I', J', e, f1, a1, a2⟩ := gath_C (n := n) (z := z) (t := t) (u := u) (L := L) (V := V) hn hD hf hc hm m 0 8 1 I1 J1 T (by omega) (by omega) (hX.fr hF1) hW2 (by omega) hT1 (by rw [i46, ur_ne _ _ (by omega), ur_at]) (by rw [i46, ur_at])
  refine ⟨I1, J1, I', J', ?_, e, hF1.tr f1.frc, fun j hj => ?_, ?_, ?_⟩
  · unfold f_X2_aim
    simp only [bd]
    rw [sI_mk, sI_mk, sJ_mk, sJ_mk, ← hI1, ← hJ1]
  · rw [f1.1 _ (by omega), i46, ur_ne _ _ (by omega), ur_ne _ _ (by omega)]
  · rw [a1, hJ1, up2_r, up2_r, ur_ne _ _ (by omega), ur_at, Int64.zero_add, Nat.one_mul]
  · rw [a2, hJ1, up2_r, ur_at, Int64.zero_add, Nat.one_mul]
theorem dvl_n {α : Type} {x : Int64} (h : x ≠ 0) {o : Option α} : dvl x o = o := by
  unfold dvl
  rw [if_neg h]
/-- the mean: the class -/
theorem s_meanC {I : Nat → Nat → Int32} {J : Nat → Nat → Int64} {T : TP} (hn : 100000 ≤ n) (hD : dims W H) {f m : Nat} (hf : f < 6) (hm : m ≤ 4) (hX : CxC z t W H L V I J) (hW : TW (W * H) 999 T) (hT : ClsT z (W * H) 48 I J T) :
    ∃ I' J', f_X2_meanOfTried n (z + 46) (nI f) (nI m) (mk z (W * H) I J t u) = some (mnT W H L V f m T, mk z (W * H) I' J' t u) ∧ FrC z I I' J J' ∧ (∀ j, j ≤ 2 → I' (z + 46) j = I (z + 46) j) := by
  obtain ⟨d1, d2, d3, d4⟩ := id hD
  have hpos : 0 < W * H := Nat.mul_pos (by omega) (by omega)
  unfold f_X2_meanOfTried
  rw [g46_4, s_allW hn hX.2.2 hm, cl_some]
  by_cases h0 : nJ (smC V (vn V) ^ m) = 0
  · refine ⟨I, J, ?_, FrC.rf z I J, fun _ _ => rfl⟩
    rw [if_pos ((lg_0 _).mpr h0), mnT, if_pos h0]
  · obtain ⟨I1, J1, I', J', e1, e2, f1, a0, a1, a2⟩ := s_gath (n := n) (u := u) hn hD hf hpos hm hX hW hT
    refine ⟨I', J', ?_, f1, a0⟩
    rw [if_neg (fun w => h0 ((lg_0 _).mp w)), show (0 : Int32) = nI 0 from rfl, e1, cv_some, show nI 0 = (0 : Int32) from rfl, e2, cv_some, dvl_n h0, mJ_mk, a2, mnT, if_neg h0]
/-- the mean: the reference -/
theorem s_meanR {I : Nat → Nat → Int32} {J : Nat → Nat → Int64} {T : TP} {B : Nat} (hn : 100000 ≤ n) (hD : dims W H) {f m : Nat} (hf : f < 6) (hm : m ≤ 4) (hX : CxR z t W H B L V I) (hW : TW (W * H) 999 T) (hT : RefT z (W * H) 680 I T) :
    ∃ I' J', f_X11_meanOf n (z + 83) (2 : Int32) (nI f) (nI m) (mk z (W * H) I J t u) = some (mnT W H L V f m T, mk z (W * H) I' J' t u) ∧ FrR z I I' J J' ∧ I' (z + 83) 4 = 0 := by
  obtain ⟨I', J', e, f1, h4, a1, a2⟩ := s_thr (n := n) (J := J) (u := u) (cc := none) hn hD hf (fun c e => by cases e) hm hX hW hT
  rw [lfS_1] at a1
  refine ⟨I', J', ?_, f1, h4⟩
  have a2 : J' (z + 83) 34 = nJ (lfS W H L V (ldA W H f) m T) := a2
  unfold f_X11_meanOf
  rw [show (-1 : Int32) = oI none from rfl, e, cv_some, mJ_mk, a1, mJ_mk, a2]
  by_cases h0 : nJ (smC V (vn V) ^ m) = 0
  · rw [if_pos ((lg_0 _).mpr h0), mnT, if_pos h0]
  · rw [if_neg (fun w => h0 ((lg_0 _).mp w)), dvl_n h0, mnT, if_neg h0, Int64.mul_comm]
theorem in04 {a : Int32} : ((0 : Int32) ≤ a ∧ a ≤ (4 : Int32)) ↔ (¬ a < 0 ∧ a ≤ (4 : Int32)) := by
  rw [i32_le, i32_le, i32_lt]
  have : (0 : Int32).toInt = 0 := rfl
  omega
theorem nm04 {a : Int32} (h : ¬ a < 0 ∧ a ≤ (4 : Int32)) : ∃ m, m ≤ 4 ∧ a = nI m := by
  obtain ⟨m, h1, h2⟩ := nI_nm (a := a) (N := 5) h.1 (fun w => by
    have := h.2
    rw [i32_le, nI_t (by omega)] at w
    rw [i32_le] at this
    have : (4 : Int32).toInt = 4 := rfl
    omega) (by omega)
  exact ⟨m, by omega, h2⟩
theorem Op_mean_ok {Q : Nat} : Op_mean z (Rel z (TXx z) Q) := by
  intro n hn S a b hR
  obtain ⟨W, H, I, J, t, u, V, L, T, rfl, hD, hRI, hXC, hXR, hW, hTc, hTr⟩ := hR.op
  have hC := hD.C
  have no : (f_X10_mean n z a b (mk z (W * H) I J t u) = some (-1, mk z (W * H) I J t u)) → (f_X11_mean n (z + 83) a b (mk z (W * H) I J t u) = some (-1, mk z (W * H) I J t u)) → ∃ (x : Int32) (S1 S2 : MS), f_X10_mean n z a b (mk z (W * H) I J t u) = some (x, S1) ∧ f_X11_mean n (z + 83) a b S1 = some (x, S2) ∧ Rel z (TXx z) Q S2 := fun e1 e2 => ⟨_, _, _, e1, e2, Rel.cl hD hRI⟩
  by_cases c1 : ¬ a < 0 ∧ ¬ (6 : Int32) ≤ a
  rotate_left
  · refine no ?_ ?_
    · unfold f_X10_mean; rw [s_isFarmerC, cl_some, ite_bI, if_neg c1]
    · unfold f_X11_mean; rw [s_isFarmerR, cl_some, ite_bI, if_neg c1]
  obtain ⟨f, hf, rfl⟩ := nI_nm (N := 6) c1.1 c1.2 (by omega)
  by_cases c2 : ¬ b < 0 ∧ b ≤ (4 : Int32)
  rotate_left
  · refine no ?_ ?_
    · unfold f_X10_mean
      rw [s_isFarmerC, cl_some, ite_bI, if_pos c1]
      by_cases d1 : b < 0
      · rw [if_pos d1]
      · rw [if_neg d1, if_neg (fun w => c2 ⟨d1, w⟩)]
    · unfold f_X11_mean; rw [s_isFarmerR, cl_some, ite_bI, if_pos c1, s_isIn, cl_some, ite_bI, if_neg (fun w => c2 (in04.mp w))]
  obtain ⟨m, hm, rfl⟩ := nm04 c2
  obtain ⟨I1, J1, e1, f1, r1, -⟩ := s_copy0 (n := n) (t := t) (u := u) hC isP48 (Or.inl rfl) (by omega) (by omega) hTc hW.1
  obtain ⟨I2, J2, e2, f2, -⟩ := s_meanC (n := n) (u := u) hn hD hf hm (hXC.fr f1) hW r1
  have f12 := f1.tr f2
  obtain ⟨I3, e3, f3, r3, h3, -⟩ := s_copyRT (n := n) (J := J2) (t := t) (u := u) hn (f := 0) (g := 2) (by omega) (by omega) (by omega) (by omega) (T := T) (show RefT z (W * H) (340 * 0) I2 T from hTr.frc f12)
  have hX3 : CxR z t W H 0 L V I3 := (hXR.frc f12).fr f3 (by rw [h3]; exact (hXR.frc f12).1.2.2.2)
  obtain ⟨I4, J4, e4, f4, h4⟩ := s_meanR (n := n) (J := J2) (u := u) hn hD hf hm hX3 hW r3
  refine ⟨mnT W H L V f m T, mk z (W * H) I2 J2 t u, mk z (W * H) I4 J4 t u, ?_, ?_, Rel.cl hD (hRI.back0 f12 (f3.tr f4) h4)⟩
  · unfold f_X10_mean f_X2_meanNow
    rw [s_isFarmerC, cl_some, ite_bI, if_pos c1, if_neg c2.1, if_pos c2.2, g0z_10, g46_6, n47, ck_t (by decide), gT0, g46_3, e1, cv_some, e2, cl_some, cl_some]
  · have e3' : f_X11_copy n (z + 83) (0 : Int32) (2 : Int32) (mk z (W * H) I2 J2 t u) = some (mk z (W * H) I3 J2 t u) := e3
    unfold f_X11_mean
    rw [s_isFarmerR, cl_some, ite_bI, if_pos c1, s_isIn, cl_some, ite_bI, if_pos (in04.mpr c2), e3', cv_some, e4, cl_some]
theorem Op_odds_ok {Q : Nat} : Op_odds z (Rel z (TXx z) Q) := by
  intro n hn S a c b hR
  obtain ⟨W, H, I, J, t, u, V, L, T, rfl, hD, hRI, hXC, hXR, hW, hTc, hTr⟩ := hR.op
  have hC := hD.C
  have no : (f_X10_odds n z a c b (mk z (W * H) I J t u) = some (-1, mk z (W * H) I J t u)) → (f_X11_odds n (z + 83) a c b (mk z (W * H) I J t u) = some (-1, mk z (W * H) I J t u)) → ∃ (x : Int32) (S1 S2 : MS), f_X10_odds n z a c b (mk z (W * H) I J t u) = some (x, S1) ∧ f_X11_odds n (z + 83) a c b S1 = some (x, S2) ∧ Rel z (TXx z) Q S2 := fun e1 e2 => ⟨_, _, _, e1, e2, Rel.cl hD hRI⟩
  by_cases c1 : ¬ a < 0 ∧ ¬ (6 : Int32) ≤ a
  rotate_left
  · refine no ?_ ?_
    · unfold f_X10_odds; rw [s_isFarmerC, cl_some, ite_bI, if_neg c1]
    · unfold f_X11_odds; rw [s_isFarmerR, cl_some, ite_bI, if_neg c1]
  obtain ⟨f, hf, rfl⟩ := nI_nm (N := 6) c1.1 c1.2 (by omega)
  have hcell : (¬ c < 0 ∧ ¬ mI (mk z (W * H) I J t u) (z + 30) 2 ≤ c) ↔ (¬ c < 0 ∧ ¬ nI (W * H) ≤ c) := by rw [mI_mk, hXC.1.2.2.1]
  by_cases c2 : ¬ b < 0 ∧ b ≤ (4 : Int32)
  rotate_left
  · refine no ?_ ?_
    · unfold f_X10_odds
      rw [s_isFarmerC, cl_some, ite_bI, if_pos c1]
      by_cases d1 : b < 0
      · rw [if_pos d1]
      · rw [if_neg d1, if_neg (fun w => c2 ⟨d1, w⟩)]
    · unfold f_X11_odds
      simp only [jn]
      rw [s_isFarmerR, cl_some, ite_bI, if_pos c1, s_isIn, cl_some, ite_bI, if_neg (fun w => c2 (in04.mp w)), s_isCellR _ hXR.1.2.2.1 (by omega), cl_some, ite_bI, s_isIn, cl_some, ite_bI, if_neg (fun w => c2 (in04.mp w)), ite_self, ite_self]
  obtain ⟨m, hm, rfl⟩ := nm04 c2
  -- the reference, from a state that the class left
  have ref : ∀ (cc : Option Nat) (I2 : Nat → Nat → Int32) (J2 : Nat → Nat → Int64), (∀ c, cc = some c → c < W * H) → FrC z I I2 J J2 → ∃ S2, f_X11_odds n (z + 83) (nI f) (oI cc) (nI m) (mk z (W * H) I2 J2 t u) = some ((nJ (match cc with | none => smC V (vn V) ^ m | some c => lfS W H L V (ldH W H f c) m T)).toInt32, S2) ∧ Rel z (TXx z) Q S2 := by
    intro cc I2 J2 hcc f12
    obtain ⟨I3, e3, f3, r3, h3, -⟩ := s_copyRT (n := n) (J := J2) (t := t) (u := u) hn (f := 0) (g := 2) (by omega) (by omega) (by omega) (by omega) (T := T) (show RefT z (W * H) (340 * 0) I2 T from hTr.frc f12)
    have hX3 : CxR z t W H 0 L V I3 := (hXR.frc f12).fr f3 (by rw [h3]; exact (hXR.frc f12).1.2.2.2)
    obtain ⟨I4, J4, e4, f4, h4, a1, a2⟩ := s_thr (n := n) (J := J2) (u := u) (cc := cc) hn hD hf hcc hm hX3 hW r3
    rw [lfS_1] at a1
    have e3' : f_X11_copy n (z + 83) (0 : Int32) (2 : Int32) (mk z (W * H) I2 J2 t u) = some (mk z (W * H) I3 J2 t u) := e3
    refine ⟨mk z (W * H) I4 J4 t u, ?_, Rel.cl hD (hRI.back0 f12 (f3.tr f4) h4)⟩
    unfold f_X11_odds
    simp only [jn]
    rw [s_isFarmerR, cl_some, ite_bI, if_pos c1]
    cases e : cc with
    | none =>
      rw [e] at e4
      rw [if_pos (show oI none = -1 from rfl), s_isIn, cl_some, ite_bI, if_pos (in04.mpr c2), e3', cv_some, e4, cv_some, if_neg (show ¬ (0 : Int32) ≤ oI none by decide), mJ_mk, a1]
    | some d =>
      have hd := hcc d e
      rw [e] at e4 a2
      have a2 : J4 (z + 83) 34 = nJ (lfS W H L V (ldH W H f d) m T) := a2
      rw [if_neg (show ¬ oI (some d) = -1 from nI_nm1 (by omega)), s_isCellR _ (hXR.frc f12).1.2.2.1 (by omega), cl_some, ite_bI, if_pos (show ¬ oI (some d) < 0 ∧ ¬ nI (W * H) ≤ oI (some d) from ⟨nI_pos (by omega), fun w => by
        have w : nI (W * H) ≤ nI d := w
        rw [nI_le' (by omega) (by omega)] at w; omega⟩), s_isIn, cl_some, ite_bI, if_pos (in04.mpr c2), e3', cv_some, e4, cv_some, if_pos (show (0 : Int32) ≤ oI (some d) by show (0 : Int32) ≤ nI d; rw [show (0 : Int32) = nI 0 from rfl, nI_le' (by omega) (by omega)]; omega), mJ_mk, a2]
  by_cases c3 : c = -1
  · obtain ⟨S2, e2, r2⟩ := ref none I J (fun c e => by cases e) (FrC.rf z I J)
    refine ⟨_, mk z (W * H) I J t u, S2, ?_, (by rw [c3]; exact e2), r2⟩
    unfold f_X10_odds
    rw [s_isFarmerC, cl_some, ite_bI, if_pos c1, if_neg c2.1, if_pos c2.2, if_pos c3, g0z_3, s_allW hn hXC.2.2 hm, cl_some]
  by_cases c4 : ¬ c < 0 ∧ ¬ nI (W * H) ≤ c
  · obtain ⟨d, hd, rfl⟩ := nI_nm c4.1 c4.2 (by omega)
    obtain ⟨I1, J1, e1, f1, r1, -⟩ := s_copy0 (n := n) (t := t) (u := u) hC isP48 (Or.inl rfl) (by omega) (by omega) hTc hW.1
    obtain ⟨I2, J2, I3, J3, e2, e3, f3, -, a1, -⟩ := s_gath (n := n) (u := u) hn hD hf hd hm (hXC.fr f1) hW r1
    obtain ⟨S2, e4, r4⟩ := ref (some d) I3 J3 (fun c e => by cases e; exact hd) (f1.tr f3)
    refine ⟨_, mk z (W * H) I3 J3 t u, S2, ?_, e4, r4⟩
    unfold f_X10_odds f_X2_weightHad
    rw [s_isFarmerC, cl_some, ite_bI, if_pos c1, if_neg c2.1, if_pos c2.2, if_neg c3, g0z_0, s_holds, cl_some, ite_bI, if_pos (hcell.mpr c4), g0z_10, g46_6, n47, ck_t (by decide), gT0, g46_3, e1, cv_some, e2, cv_some, e3, cv_some, cl_some, mJ_mk, a1]
  · refine no ?_ ?_
    · unfold f_X10_odds
      rw [s_isFarmerC, cl_some, ite_bI, if_pos c1, if_neg c2.1, if_pos c2.2, if_neg c3, g0z_0, s_holds, cl_some, ite_bI, if_neg (fun w => c4 (hcell.mp w))]
    · unfold f_X11_odds
      simp only [jn]
      rw [s_isFarmerR, cl_some, ite_bI, if_pos c1, if_neg c3, s_isCellR _ hXR.1.2.2.1 (by omega), cl_some, ite_bI, if_neg c4]
end OD
