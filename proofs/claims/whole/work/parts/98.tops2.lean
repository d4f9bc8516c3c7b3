/-! DISPUTES, TIME, KEEPS, MADE keep the relation -/
/-- a related state, opened -/
theorem Rel.op {z Q : Nat} {S : MS} (h : Rel z (TXx z) Q S) : ∃ W H I J t u V L T, S = mk z (W * H) I J t u ∧ dims W H ∧ RelI z (TXx z) Q W H I J t ∧ CxC z t W H L V I J ∧ CxR z t W H 0 L V I ∧ TW (W * H) 999 T ∧ ClsT z (W * H) 32 I J T ∧ RefT z (W * H) 0 I T := by
  obtain ⟨W, H, I, J, t, u, w1, w2, w3, w4, rfl, hRI⟩ := h
  have hD : dims W H := ⟨w1, w2, w3, w4⟩
  obtain ⟨V, hVC, hVR⟩ := hRI.winds
  obtain ⟨L, hL⟩ := hRI.law
  obtain ⟨T, hW, hTc, hTr⟩ := PlainR.out hRI.2.2.2.2.2.2.1 hD.C
  exact ⟨W, H, I, J, t, u, V, L, T, rfl, hD, hRI, ⟨hRI.1, hL, hVC⟩, ⟨hRI.mod, hL, hVR⟩, hW, hTc, hTr⟩
theorem Rel.cl {z Q W H t : Nat} {I : Nat → Nat → Int32} {J : Nat → Nat → Int64} {u : Option Nat} (hD : dims W H) (h : RelI z (TXx z) Q W H I J t) : Rel z (TXx z) Q (mk z (W * H) I J t u) := ⟨W, H, I, J, t, u, hD.1, hD.2.1, hD.2.2.1, hD.2.2.2, rfl, h⟩
section T8
variable {n z t W H M : Nat} {I : Nat → Nat → Int32} {J : Nat → Nat → Int64} {u : Option Nat} {T : TP} {L : Option XT} {V : VT}
theorem CxR.frc {B : Nat} {I' : Nat → Nat → Int32} {J' : Nat → Nat → Int64} (h : CxR z t W H B L V I) (fc : FrC z I I' J J') : CxR z t W H B L V I' := by
  obtain ⟨hM, hL, hV⟩ := h
  exact ⟨by unfold ModR; rw [fc.1 _ (by omega)]; exact hM, hL.congr (fun j _ => by rw [fc.1 _ (by omega)]) (by rw [fc.1 _ (by omega)]) (fc.1 _ (by omega)) (fun q hq => fc.1 q (by omega)), hV.congr (fun j _ => by rw [fc.1 _ (by omega)])⟩
theorem RefT.frc {B C : Nat} {I' : Nat → Nat → Int32} {J' : Nat → Nat → Int64} (h : RefT z C B I T) (fc : FrC z I I' J J') : RefT z C B I' T := by unfold RefT; rw [fc.1 _ (by omega)]; exact h
theorem FrR.u93 {g : Nat → Int32} : FrR z I (upr I (z + 93) g) J J := ⟨fun q hq => upr_ne (by omega), fun j _ _ => by rw [upr_ne (by omega)], fun j _ => by rw [upr_ne (by omega)], fun _ _ => rfl⟩
theorem CxR.u93 {B : Nat} {g : Nat → Int32} (h : CxR z t W H B L V I) : CxR z t W H B L V (upr I (z + 93) g) := h.fr (FrR.u93 (J := fun _ _ => 0)) (by rw [upr_ne (by omega)]; exact h.1.2.2.2)
/-- is the cell had: the class -/
theorem s_isHad (hn : 100000 ≤ n) (hD : dims W H) (hG : GeoR W H (I (z + 30)) (J (z + 30)) (J (z + 31))) {o : Nat} (ho : isP o) (hW : TW (W * H) M T) (hT : ClsT z (W * H) o I J T) {f c : Nat} (hf : f < 6) (hc : c < W * H) : f_X3_isHad n (z + o) (nI f) (nI c) (mk z (W * H) I J t u) = some (bD (hasT W (W * H) T f c), mk z (W * H) I J t u) := by
  have hC := hD.C
  obtain ⟨r, er, hr⟩ := s_fieldHad (n := n) (t := t) (u := u) hn hD hG ho hW hT hf
  unfold f_X3_isHad
  rw [er, cl_some]
  by_cases h : hasT W (W * H) T f c
  · rw [if_neg (fun w => by rw [bit_0 r (by omega), (hr c).mpr h] at w; cases w), zb_1, bD_t h]
  · rw [if_pos ((bit_0 r (by omega)).mpr (by
      cases hb : bt r c with
      | false => rfl
      | true => exact absurd ((hr c).mp hb) h)), zb_0, bD_f h]
/-- findFields and has: the reference -/
theorem s_hasF (hn : 100000 ≤ n) (hD : dims W H) {B : Nat} (hM' : ModR z W H B I) (hB : B ≤ 2380) (hW : TW (W * H) M T) (hT : RefT z (W * H) B I T) {f c : Nat} (hf : f < 6) (hc : c < W * H) : ∃ g, f_X11_findFields n (z + 83) (mk z (W * H) I J t u) = some (mk z (W * H) (upr I (z + 93) g) J t u) ∧ f_X11_has n (z + 83) (nI f) (nI c) (mk z (W * H) (upr I (z + 93) g) J t u) = some (bD (hasT W (W * H) T f c), mk z (W * H) (upr I (z + 93) g) J t u) := by
  obtain ⟨g, eg, hg⟩ := s_find (n := n) (J := J) (t := t) (u := u) hn hD hM' hB hW hT
  exact ⟨g, eg, s_has (hM'.upr (by omega)) hB hD.C hW (hT.upr93 g) (by rw [upr_at]; exact hg) hf hc⟩
noncomputable def dspS (W H : Nat) (L : Option XT) (V : VT) (T : TP) : Nat → Nat
  | 0 => 0
  | k + 1 => dspS W H L V T k + disT W (W * H) (plS W H L V T (k + 1))
theorem dis_le {C : Nat} : disT W C T ≤ 6 := cnt_le _ _
theorem dspS_le : ∀ k, dspS W H L V T k ≤ 6 * k
  | 0 => Nat.le_refl _
  | k + 1 => by
    have := dspS_le k
    have := dis_le (W := W) (C := W * H) (T := plS W H L V T (k + 1))
    rw [dspS]; omega
theorem disp_C (hn : 100000 ≤ n) (hD : dims W H) (hW : TW (W * H) 999 T) (hv : 0 < vn V) {m : Nat} (hm : m ≤ 40) : ∀ (d k f : Nat) (I : Nat → Nat → Int32) (J : Nat → Nat → Int64), k + d = m → d < f → CxC z t W H L V I J → ClsT z (W * H) 48 I J (plS W H L V T k) → ∃ I' J', f_X2_disputedBehind_L17 n (z + 46) (nI m) f (nI (dspS W H L V T k)) (nI k) (mk z (W * H) I J t u) = some (nI (dspS W H L V T m), mk z (W * H) I' J' t u) ∧ FrC z I I' J J' := by
  intro d
  induction d with
  | zero =>
    intro k f I J hk hf hX hT
    obtain ⟨f, rfl⟩ : ∃ m, f = m + 1 := ⟨f - 1, by omega⟩
    obtain rfl : k = m := by omega
    refine ⟨I, J, ?_, FrC.rf z I J⟩
    rw [f_X2_disputedBehind_L17]
    simp only [jn]
    rw [if_pos ((nI_le' (by omega) (by omega)).mpr (Nat.le_refl _))]
  | succ d ih =>
    intro k f I J hk hf hX hT
    obtain ⟨f, rfl⟩ : ∃ m, f = m + 1 := ⟨f - 1, by omega⟩
    have hWk := plS_W (L := L) (V := V) hD hW k (by omega)
    have hWk1 := plS_W (L := L) (V := V) hD hW (k + 1) (by omega)
    obtain ⟨I1, J1, e1, r1, r2⟩ := s_goOn (n := n) (u := u) hn hD hX hWk hT (k := k) (by omega) hv
    have hX1 := hX.fr r2
    obtain ⟨I', J', e2, r3⟩ := ih (k + 1) f I1 J1 (by omega) (by omega) hX1 r1
    refine ⟨I', J', ?_, r2.tr r3⟩
    rw [f_X2_disputedBehind_L17]
    simp only [jn, bd]
    rw [if_neg (show ¬ nI m ≤ nI k by rw [nI_le' (by omega) (by omega)]; omega), e1, cl_some, g46_6, n47, ck_t (by decide), gT0, s_disputedC hn hD hX1.1 isP48 hWk1 r1, cl_some, nI_pl, show nI k + (1 : Int32) = nI (k + 1) from nI_pl k 1]
    exact e2
theorem disp_R (hn : 100000 ≤ n) (hD : dims W H) (hW : TW (W * H) 999 T) (hv : 0 < vn V) {m : Nat} (hm : m ≤ 40) : ∀ (d k f : Nat) (I : Nat → Nat → Int32) (J : Nat → Nat → Int64), k + d = m → d < f → CxR z t W H 680 L V I → RefT z (W * H) 680 I (plS W H L V T k) → ∃ I' J', f_X11_disputes_L49 n (z + 83) (nI m) f (nI (dspS W H L V T k)) (nI k) (mk z (W * H) I J t u) = some (nI (dspS W H L V T m), mk z (W * H) I' J' t u) ∧ FrR z I I' J J' ∧ I' (z + 83) 4 = 0 := by
  intro d
  induction d with
  | zero =>
    intro k f I J hk hf hX hT
    obtain ⟨f, rfl⟩ : ∃ m, f = m + 1 := ⟨f - 1, by omega⟩
    obtain rfl : k = m := by omega
    refine ⟨up2 I (z + 83) 4 (nI 0), J, ?_, FrR.b, by rw [up2_at, if_pos rfl]; rfl⟩
    rw [f_X11_disputes_L49]
    simp only [jn]
    rw [if_pos ((nI_le' (by omega) (by omega)).mpr (Nat.le_refl _)), show (0 : Int32) = nI 0 from rfl, s_tries, cv_some]
  | succ d ih =>
    intro k f I J hk hf hX hT
    obtain ⟨f, rfl⟩ : ∃ m, f = m + 1 := ⟨f - 1, by omega⟩
    have hWk := plS_W (L := L) (V := V) hD hW k (by omega)
    have hWk1 := plS_W (L := L) (V := V) hD hW (k + 1) (by omega)
    obtain ⟨p1, p2, p3⟩ := hX.2.2.2.2.2 k (by omega)
    have hv6 := hX.2.2.1
    obtain ⟨I1, J1, e1, r1, r2, r3⟩ := s_blowT (n := n) (J := J) (u := u) hn hD (by omega) (by omega) hX hWk hT (v := vp V k) (by omega)
    obtain ⟨g, eg⟩ := s_disputedR (n := n) (J := J1) (t := t) (u := u) hn hD r3.1 (by omega) hWk1 r1
    obtain ⟨I', J', e2, r4, r5⟩ := ih (k + 1) f (upr I1 (z + 93) g) J1 (by omega) (by omega) r3.u93 (r1.upr93 g)
    refine ⟨I', J', ?_, (r2.frr (by omega)).tr (FrR.u93.tr r4), r5⟩
    rw [f_X11_disputes_L49]
    simp only [jn, bd]
    rw [if_neg (show ¬ nI m ≤ nI k by rw [nI_le' (by omega) (by omega)]; omega), g83_0, n84, show (125 : Int32) + nI k = nI (125 + k) from nI_pl 125 k, ck_t (inb_nI (by omega) (by omega)), cl_nI (by omega), mI_mk, p1, e1, cl_some, eg, cl_some, nI_pl, show nI k + (1 : Int32) = nI (k + 1) from nI_pl k 1]
    exact e2
theorem Op_disputes_ok {Q : Nat} : Op_disputes z (Rel z (TXx z) Q) := by
  intro n hn S a hR
  obtain ⟨W, H, I, J, t, u, V, L, T, rfl, hD, hRI, hXC, hXR, hW, hTc, hTr⟩ := hR.op
  have hC := hD.C
  have hv6 := hXC.2.2.1
  have m6 : mI (mk z (W * H) I J t u) (z + 1) 6 = nI (vn V) := hXC.2.2.2.1
  by_cases c1 : ¬ a < 0 ∧ ¬ nI 41 ≤ a
  · obtain ⟨m, hm, rfl⟩ := nI_nm c1.1 c1.2 (by omega)
    have c40 : nI m ≤ 40 := by rw [show (40 : Int32) = nI 40 from rfl, nI_le' (by omega) (by omega)]; omega
    by_cases hm0 : m = 0
    · subst hm0
      obtain ⟨g, eg⟩ := s_disputedR (n := n) (J := J) (t := t) (u := u) hn hD hXR.1 (by omega) hW hTr
      refine ⟨nI (disT W (W * H) T), mk z (W * H) I J t u, mk z (W * H) (upr I (z + 93) g) J t u, ?_, ?_, Rel.cl hD (hRI.row93 (TXx_ok z) g)⟩
      · unfold f_X10_disputes
        rw [if_neg c1.1, if_pos c40, if_pos (show nI 0 = 0 from rfl), g0z_1, s_disputedC hn hD hXC.1 (Or.inl rfl) hW hTc, cl_some]
      · unfold f_X11_disputes
        rw [s_isIn, cl_some, ite_bI, if_pos (by decide)]
        simp only [jn]
        rw [if_pos (show nI 0 ≤ 0 by decide), if_pos (show nI 0 = 0 from rfl), eg, cl_some]
    · have hne : ¬ nI m = 0 := by rw [show (0 : Int32) = nI 0 from rfl, nI_inj (by omega) (by omega)]; exact hm0
      have hnl : ¬ nI m ≤ 0 := by rw [show (0 : Int32) = nI 0 from rfl, nI_le' (by omega) (by omega)]; omega
      have hin : (0 : Int32) ≤ nI m ∧ nI m ≤ 40 := ⟨by rw [show (0 : Int32) = nI 0 from rfl, nI_le' (by omega) (by omega)]; omega, c40⟩
      by_cases hv : vn V = 0
      · refine ⟨-1, mk z (W * H) I J t u, mk z (W * H) I J t u, ?_, ?_, Rel.cl hD hRI⟩
        · unfold f_X10_disputes
          rw [if_neg c1.1, if_pos c40, if_neg hne, g0z_3, if_pos (by rw [m6, hv]; rfl)]
        · unfold f_X11_disputes
          rw [s_isIn, cl_some, ite_bI, if_pos hin]
          simp only [jn]
          rw [if_neg hnl, g83_0, n84, ck_t (by decide), if_pos (show mI (mk z (W * H) I J t u) (z + 84) (2 : Int32).toNatClampNeg = 0 by rw [show (2 : Int32).toNatClampNeg = 2 from rfl, mI_mk, hXR.2.2.2.1, hv]; rfl)]
      · obtain ⟨I1, J1, e1, f1, r1, -⟩ := s_copy0 (n := n) (t := t) (u := u) hC isP48 (Or.inl rfl) (by omega) (by omega) hTc hW.1
        obtain ⟨I2, J2, e2, f2⟩ := disp_C (n := n) (u := u) hn hD hW (by omega) (m := m) (by omega) m 0 n I1 J1 (by omega) (by omega) (hXC.fr f1) r1
        have fc := f1.tr f2
        have hX2 := hXR.frc fc
        obtain ⟨I4, I3, e3, e4, f3, r3, -, hX4⟩ := s_tryR (n := n) (J := J2) (u := u) hn hX2 (hTr.frc fc)
        obtain ⟨I5, J5, e5, f5, h4⟩ := disp_R (n := n) (u := u) hn hD hW (by omega) (m := m) (by omega) m 0 n I4 J2 (by omega) (by omega) hX4 r3
        refine ⟨nI (dspS W H L V T m), mk z (W * H) I2 J2 t u, mk z (W * H) I5 J5 t u, ?_, ?_, Rel.cl hD (hRI.back0 fc (f3.tr f5) h4)⟩
        · unfold f_X10_disputes f_X2_disputedBehind
          rw [if_neg c1.1, if_pos c40, if_neg hne, g0z_3, if_neg (by rw [m6, show (0 : Int32) = nI 0 from rfl, nI_inj (by omega) (by omega)]; exact hv), g0z_10, g46_6, n47, ck_t (by decide), gT0, g46_3, e1, cv_some]
          exact (congrArg (fun w => cl w _) e2).trans rfl
        · unfold f_X11_disputes
          rw [s_isIn, cl_some, ite_bI, if_pos hin]
          simp only [jn]
          rw [if_neg hnl, g83_0, n84, ck_t (by decide), if_neg (show ¬ mI (mk z (W * H) I2 J2 t u) (z + 84) (2 : Int32).toNatClampNeg = 0 by rw [show (2 : Int32).toNatClampNeg = 2 from rfl, mI_mk, hX2.2.2.2.1, show (0 : Int32) = nI 0 from rfl, nI_inj (by omega) (by omega)]; exact hv), if_neg hne, e3, cv_some, e4, cv_some]
          exact e5
  · refine ⟨-1, mk z (W * H) I J t u, mk z (W * H) I J t u, ?_, ?_, Rel.cl hD hRI⟩
    · unfold f_X10_disputes
      by_cases d1 : a < 0
      · rw [if_pos d1]
      · rw [if_neg d1, if_neg (fun w => c1 ⟨d1, fun w2 => by
          rw [i32_le, nI_t (by omega)] at w2
          rw [i32_le] at w
          have : (40 : Int32).toInt = 40 := rfl
          omega⟩)]
    · unfold f_X11_disputes
      rw [s_isIn, cl_some, ite_bI, if_neg]
      rintro ⟨g1, g2⟩
      refine c1 ⟨fun w => ?_, fun w => ?_⟩
      · rw [i32_le] at g1; rw [i32_lt] at w; omega
      · rw [i32_le, nI_t (by omega)] at w
        rw [i32_le] at g2
        have : (40 : Int32).toInt = 40 := rfl
        omega
end T8
/-! MADE -/
section MA
variable {n z t W H M : Nat} {u : Option Nat} {T : TP} {L : Option XT} {V : VT} {mp : Nat → Int32}
def mapT (mp : Nat → Int32) (T : TP) (j : Nat) : Prop := mp j = -1 ∨ mp j = nI (tc T j)
theorem mapd_C {I : Nat → Nat → Int32} {J : Nat → Nat → Int64} (hD : dims W H) (hW : TW (W * H) M T) (hT : ClsT z (W * H) 48 I J T) (hmp : ∀ k, k < 24 → I (z + 7) k = mp k) : ∀ (d j f : Nat), j + d = tk T → d < f → f_X2_isMapped_L2 n (z + 46) (z + 48) f (nI j) (mk z (W * H) I J t u) = some (bD (∀ q, j ≤ q → q < tk T → mapT mp T q), mk z (W * H) I J t u) := by
  have h24 := hW.1
  intro d
  induction d with
  | zero =>
    intro j f hj hf
    obtain ⟨f, rfl⟩ : ∃ m, f = m + 1 := ⟨f - 1, by omega⟩
    obtain rfl : j = tk T := by omega
    rw [f_X2_isMapped_L2]
    simp only [jn]
    rw [mI_mk, hT.1, if_pos ((nI_le' (by omega) (by omega)).mpr (Nat.le_refl _)), zb_1, bD_t (fun q h1 h2 => by omega)]
  | succ d ih =>
    intro j f hj hf
    obtain ⟨f, rfl⟩ : ∃ m, f = m + 1 := ⟨f - 1, by omega⟩
    have hi2 := ih (j + 1) f (by omega) (by omega)
    have hce : mI (mk z (W * H) I J t u) (z + (48 + 1)) j = nI (tc T j) := (hT.2.2.1 j (by omega)).1
    have hm : mI (mk z (W * H) I J t u) (z + 7) j = mp j := hmp j (by omega)
    have m7 : mI (mk z (W * H) I J t u) (z + 48) 7 = nI (tk T) := hT.1
    rw [f_X2_isMapped_L2]
    simp only [jn, bd]
    rw [m7, if_neg (show ¬ nI (tk T) ≤ nI j by rw [nI_le' (by omega) (by omega)]; omega), g46_4, g1_5, n7, ck_t (inb_nI (by omega) (by omega)), cl_nI (by omega), g46_4, g1_5, n7, ck_t (inb_nI (by omega) (by omega)), gP_1 isP48, nP_1 isP48, ck_t (inb_nI (by omega) (by omega)), show nI j + (1 : Int32) = nI (j + 1) from nI_pl j 1]
    have yes : mapT mp T j → bD (∀ q, j + 1 ≤ q → q < tk T → mapT mp T q) = bD (∀ q, j ≤ q → q < tk T → mapT mp T q) := fun h => bD_congr ⟨fun w q h1 h2 => by
      by_cases hqj : q = j
      · subst hqj; exact h
      · exact w q (by omega) h2, fun w q h1 h2 => w q (by omega) h2⟩
    by_cases h1 : mp j = -1
    · rw [if_pos (by rw [hm]; exact h1), hi2, yes (Or.inl h1)]
    · rw [if_neg (by rw [hm]; exact h1)]
      by_cases h2 : mp j = nI (tc T j)
      · rw [if_pos (show mI (mk z (W * H) I J t u) (z + 7) j = mI (mk z (W * H) I J t u) (z + (48 + 1)) j by rw [hm, hce]; exact h2), hi2, yes (Or.inr h2)]
      · rw [if_neg (show ¬ mI (mk z (W * H) I J t u) (z + 7) j = mI (mk z (W * H) I J t u) (z + (48 + 1)) j by rw [hm, hce]; exact h2), zb_0, bD_f (fun w => (w j (Nat.le_refl _) (by omega)).elim h1 h2)]
theorem mapd_R {B : Nat} {I : Nat → Nat → Int32} {J : Nat → Nat → Int64} (hM' : ModR z W H B I) (hB : B ≤ 2380) (hW : TW (W * H) M T) (hT : RefT z (W * H) B I T) (hmp : ∀ k, k < 24 → I (z + 84) (165 + k) = mp k) (hmr : ∀ k, k < 24 → mp k = -1 ∨ ¬ mp k < 0) : ∀ (d j f : Nat), j + d = tk T → d < f → f_X11_isMapped_L2 n (z + 83) f (nI j) (mk z (W * H) I J t u) = some (bD (∀ q, j ≤ q → q < tk T → mapT mp T q), mk z (W * H) I J t u) := by
  have h24 := hW.1
  intro d
  induction d with
  | zero =>
    intro j f hj hf
    obtain ⟨f, rfl⟩ : ∃ m, f = m + 1 := ⟨f - 1, by omega⟩
    obtain rfl : j = tk T := by omega
    rw [f_X11_isMapped_L2]
    simp only [jn]
    rw [s_bones hM' hB hT, cl_some, if_pos ((nI_le' (by omega) (by omega)).mpr (Nat.le_refl _)), zb_1, bD_t (fun q h1 h2 => by omega)]
  | succ d ih =>
    intro j f hj hf
    obtain ⟨f, rfl⟩ : ∃ m, f = m + 1 := ⟨f - 1, by omega⟩
    have hi2 := ih (j + 1) f (by omega) (by omega)
    have hm : mI (mk z (W * H) I J t u) (z + 84) (165 + j) = mp j := hmp j (by omega)
    rw [f_X11_isMapped_L2]
    simp only [jn, bd]
    rw [s_bones hM' hB hT, cl_some, if_neg (show ¬ nI (tk T) ≤ nI j by rw [nI_le' (by omega) (by omega)]; omega), g83_0, n84, show (165 : Int32) + nI j = nI (165 + j) from nI_pl 165 j, ck_t (inb_nI (by omega) (by omega)), cl_nI (by omega), g83_0, n84, ck_t (inb_nI (by omega) (by omega)), s_cellOf hM' hB hW hT (by omega), cl_some, show nI j + (1 : Int32) = nI (j + 1) from nI_pl j 1]
    have yes : mapT mp T j → bD (∀ q, j + 1 ≤ q → q < tk T → mapT mp T q) = bD (∀ q, j ≤ q → q < tk T → mapT mp T q) := fun h => bD_congr ⟨fun w q h1 h2 => by
      by_cases hqj : q = j
      · subst hqj; exact h
      · exact w q (by omega) h2, fun w q h1 h2 => w q (by omega) h2⟩
    rcases hmr j (by omega) with h1 | h1
    · rw [if_pos (show mI (mk z (W * H) I J t u) (z + 84) (165 + j) < 0 by rw [hm, h1]; decide), hi2, yes (Or.inl h1)]
    · rw [if_neg (show ¬ mI (mk z (W * H) I J t u) (z + 84) (165 + j) < 0 by rw [hm]; exact h1)]
      by_cases h2 : mp j = nI (tc T j)
      · rw [if_pos (show mI (mk z (W * H) I J t u) (z + 84) (165 + j) = nI (tc T j) by rw [hm]; exact h2), hi2, yes (Or.inr h2)]
      · rw [if_neg (show ¬ mI (mk z (W * H) I J t u) (z + 84) (165 + j) = nI (tc T j) by rw [hm]; exact h2), zb_0, bD_f]
        intro w
        rcases w j (Nat.le_refl _) (by omega) with q | q
        · rw [q] at h1; exact h1 (by decide)
        · exact h2 q
noncomputable def madT (W H : Nat) (L : Option XT) (V : VT) (mp : Nat → Int32) (T : TP) (v : Nat) : Bool := dec (∀ q, 0 ≤ q → q < tk (blV W H L V v T).1 → mapT mp (blV W H L V v T).1 q)
theorem made_C (hn : 100000 ≤ n) (hD : dims W H) (hW : TW (W * H) 999 T) : ∀ (d v f : Nat) (I : Nat → Nat → Int32) (J : Nat → Nat → Int64), v + d = vn V → d < f → CxC z t W H L V I J → ClsT z (W * H) 32 I J T → (∀ k, k < 24 → I (z + 7) k = mp k) → ∃ I' J', f_X2_makers_L4 n (z + 46) f (nI (msk (madT W H L V mp T) v)) (nI v) (mk z (W * H) I J t u) = some (nI (msk (madT W H L V mp T) (vn V)), mk z (W * H) I' J' t u) ∧ FrC z I I' J J' := by
  have hC := hD.C
  intro d
  induction d with
  | zero =>
    intro v f I J hv hf hX hT hmp
    obtain ⟨f, rfl⟩ : ∃ m, f = m + 1 := ⟨f - 1, by omega⟩
    have hv6 := hX.2.2.1
    obtain rfl : v = vn V := by omega
    refine ⟨I, J, ?_, FrC.rf z I J⟩
    rw [f_X2_makers_L4]
    simp only [jn]
    rw [g46_4, mI_mk, hX.2.2.2.1, if_pos ((nI_le' (by omega) (by omega)).mpr (Nat.le_refl _))]
  | succ d ih =>
    intro v f I J hv hf hX hT hmp
    obtain ⟨f, rfl⟩ : ∃ m, f = m + 1 := ⟨f - 1, by omega⟩
    have hv6 := hX.2.2.1
    have hvV : v < vn V := by omega
    obtain ⟨I1, J1, e1, f1, r1, -⟩ := s_copy0 (n := n) (t := t) (u := u) hC isP48 (Or.inl rfl) (by omega) (by omega) hT hW.1
    have hX1 := hX.fr f1
    have hW2 : TW (W * H) 2000 T := hW.mono (by omega)
    have hh := hW.2.1
    obtain ⟨I2, J2, e2, r2, r3⟩ := s_blowC (n := n) (u := u) hn (by omega) hD hX1.1 isP48 hW2 r1 hX1.2.1 (hX1.2.2.2.2.1 v hvV).1
    have f2 := f1.tr (r3.frc isP48 (by omega))
    have hWb : TW (W * H) 2000 (blV W H L V v T).1 := blT_W hD hW2 (by omega)
    have h24 := hWb.1
    have em := mapd_C (n := n) (u := u) (mp := mp) (T := (blV W H L V v T).1) (t := t) hD hWb r2 (fun k hk => by rw [f2.1 _ (by omega)]; exact hmp k hk) (tk (blV W H L V v T).1) 0 n (by omega) (by omega)
    obtain ⟨I', J', e3, r4⟩ := ih (v + 1) f I2 J2 (by omega) (by omega) (hX.fr f2) (hT.keep (fun i _ => f2.1 _ (by omega)) (f2.2 _ (by omega))) (fun k hk => by rw [f2.1 _ (by omega)]; exact hmp k hk)
    refine ⟨I', J', ?_, f2.tr r4⟩
    rw [msk] at e3
    rw [f_X2_makers_L4]
    simp only [jn, bd]
    rw [g46_4, mI_mk, hX.2.2.2.1, if_neg (show ¬ nI (vn V) ≤ nI v by rw [nI_le' (by omega) (by omega)]; omega), g46_6, n47, ck_t (by decide), gT0, g46_3, e1, cv_some, g46_5, g46_6, n47, ck_t (by decide), gT0, e2, cl_some, g46_6, n47, ck_t (by decide), gT0]
    unfold f_X2_isMapped
    rw [show f_X2_isMapped_L2 n (z + 46) (z + 48) n (0 : Int32) (mk z (W * H) I2 J2 t u) = _ from em, cl_some, show nI v + (1 : Int32) = nI (v + 1) from nI_pl v 1]
    by_cases h : ∀ q, 0 ≤ q → q < tk (blV W H L V v T).1 → mapT mp (blV W H L V v T).1 q
    · rw [bD_t h, if_neg (by decide), msk_or v (by omega) _ (msk_lt _ _)]
      rw [if_pos (show madT W H L V mp T v = true from dec_t.mpr h)] at e3
      exact e3
    · rw [bD_f h, if_pos rfl, Int32.or_zero]
      rw [if_neg (show ¬ madT W H L V mp T v = true from fun w => h (dec_t.mp w)), Nat.add_zero] at e3
      exact e3
theorem made_R (hn : 100000 ≤ n) (hD : dims W H) (hW : TW (W * H) 999 T) (hmr : ∀ k, k < 24 → mp k = -1 ∨ ¬ mp k < 0) : ∀ (d v f : Nat) (I : Nat → Nat → Int32) (J : Nat → Nat → Int64) (B : Nat), v + d = vn V → d < f → CxR z t W H B L V I → RefT z (W * H) 0 I T → (∀ k, k < 24 → I (z + 84) (165 + k) = mp k) → ∃ I' J', f_X11_made_L4 n (z + 83) f (nI (msk (madT W H L V mp T) v)) (nI v) (mk z (W * H) I J t u) = some (nI (msk (madT W H L V mp T) (vn V)), mk z (W * H) I' J' t u) ∧ FrR z I I' J J' ∧ I' (z + 83) 4 = 0 := by
  have hC := hD.C
  intro d
  induction d with
  | zero =>
    intro v f I J B hv hf hX hT hmp
    obtain ⟨f, rfl⟩ : ∃ m, f = m + 1 := ⟨f - 1, by omega⟩
    have hv6 := hX.2.2.1
    obtain rfl : v = vn V := by omega
    refine ⟨up2 I (z + 83) 4 (nI 0), J, ?_, FrR.b, by rw [up2_at, if_pos rfl]; rfl⟩
    rw [f_X11_made_L4]
    simp only [jn]
    rw [g83_0, n84, ck_t (by decide), show (2 : Int32).toNatClampNeg = 2 from rfl, mI_mk, hX.2.2.2.1, if_pos ((nI_le' (by omega) (by omega)).mpr (Nat.le_refl _)), show (0 : Int32) = nI 0 from rfl, s_tries, cv_some]
  | succ d ih =>
    intro v f I J B hv hf hX hT hmp
    obtain ⟨f, rfl⟩ : ∃ m, f = m + 1 := ⟨f - 1, by omega⟩
    have hv6 := hX.2.2.1
    have hvV : v < vn V := by omega
    have hW2 : TW (W * H) 2000 T := hW.mono (by omega)
    have hh := hW.2.1
    obtain ⟨I2, I1, e1, e2, f1, r1, r0, hX2⟩ := s_tryR (n := n) (J := J) (u := u) hn hX hT
    obtain ⟨I3, J3, e3, r3, r4, hX3⟩ := s_blowT (n := n) (J := J) (u := u) hn hD (by omega) (by omega) hX2 hW2 r1 hvV
    have f3 := f1.tr (r4.frr (by omega))
    have hWb : TW (W * H) 2000 (blV W H L V v T).1 := blT_W hD hW2 (by omega)
    have h24 := hWb.1
    have em := mapd_R (n := n) (J := J3) (u := u) (mp := mp) (T := (blV W H L V v T).1) (t := t) hX3.1 (by omega) hWb r3 (fun k hk => by rw [f3.2.2.1 _ (by omega)]; exact hmp k hk) hmr (tk (blV W H L V v T).1) 0 n (by omega) (by omega)
    have hT3 : RefT z (W * H) 0 I3 T := by
      unfold RefT at hT ⊢
      rw [show pa (I3 (z + 84)) 0 = pa (I (z + 84)) 0 from pa_congr (fun j hj => f3.2.2.1 _ (by have := plj_b hj; omega))]; exact hT
    obtain ⟨I', J', e4, r5, r6⟩ := ih (v + 1) f I3 J3 680 (by omega) (by omega) hX3 hT3 (fun k hk => by rw [f3.2.2.1 _ (by omega)]; exact hmp k hk)
    refine ⟨I', J', ?_, f3.tr r5, r6⟩
    rw [msk] at e4
    rw [f_X11_made_L4]
    simp only [jn, bd]
    rw [g83_0, n84, ck_t (by decide), show (2 : Int32).toNatClampNeg = 2 from rfl, mI_mk, hX.2.2.2.1, if_neg (show ¬ nI (vn V) ≤ nI v by rw [nI_le' (by omega) (by omega)]; omega), e1, cv_some, e2, cv_some, e3, cl_some]
    unfold f_X11_isMapped
    rw [show f_X11_isMapped_L2 n (z + 83) n (0 : Int32) (mk z (W * H) I3 J3 t u) = _ from em, cl_some, show nI v + (1 : Int32) = nI (v + 1) from nI_pl v 1]
    by_cases h : ∀ q, 0 ≤ q → q < tk (blV W H L V v T).1 → mapT mp (blV W H L V v T).1 q
    · rw [bD_t h, if_neg (by decide), msk_or v (by omega) _ (msk_lt _ _)]
      rw [if_pos (show madT W H L V mp T v = true from dec_t.mpr h)] at e4
      exact e4
    · rw [bD_f h, if_pos rfl, Int32.or_zero]
      rw [if_neg (show ¬ madT W H L V mp T v = true from fun w => h (dec_t.mp w)), Nat.add_zero] at e4
      exact e4
theorem Op_made_ok {Q : Nat} : Op_made z (Rel z (TXx z) Q) := by
  intro n hn S hR
  obtain ⟨W, H, I, J, t, u, V, L, T, rfl, hD, hRI, hXC, hXR, hW, hTc, hTr⟩ := hR.op
  have hC := hD.C
  have hv6 := hXC.2.2.1
  obtain ⟨w, tx, q1, q2, q3, q4, q5, q6, q7, q8, q9, q10, q11⟩ := hRI.2.2.2.2.1
  have hmp : ∀ k, k < 24 → I (z + 84) (165 + k) = I (z + 7) k := fun k hk => by
    have := (q11 k hk).1
    rw [ta_in (by have := tlj_100 (i := 65 + k) (by omega); rwa [show 100 + (65 + k) = 0 + 165 + k by omega] at this), Nat.zero_add, Nat.zero_add] at this
    exact this.symm
  have hmr : ∀ k, k < 24 → I (z + 7) k = -1 ∨ ¬ I (z + 7) k < 0 := fun k hk => by
    rcases (q11 k hk).2 with e | ⟨c, hc, e⟩
    · exact Or.inl e
    · exact Or.inr (by
        have e : I (z + 7) k = nI c := e
        rw [e]; exact nI_pos (by omega))
  obtain ⟨I1, J1, e1, f1⟩ := made_C (n := n) (u := u) (mp := I (z + 7)) hn hD hW (vn V) 0 n I J (by omega) (by omega) hXC hTc (fun _ _ => rfl)
  obtain ⟨I2, J2, e2, f2, h4⟩ := made_R (n := n) (u := u) (mp := I (z + 7)) hn hD hW hmr (vn V) 0 n I1 J1 0 (by omega) (by omega) (hXR.frc f1) (hTr.frc f1) (fun k hk => by rw [f1.1 _ (by omega)]; exact hmp k hk)
  refine ⟨_, _, _, ?_, e2, Rel.cl hD (hRI.back0 f1 f2 h4)⟩
  unfold f_X10_made
  rw [g0z_10]
  exact (congrArg (fun w => cl w _) e1).trans rfl
end MA
