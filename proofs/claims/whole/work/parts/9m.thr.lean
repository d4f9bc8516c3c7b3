/-! ALL ROWS OF WINDS: the reference's goThrough -/
noncomputable def ldR (W H f : Nat) (cc : Option Nat) (T : TP) : Nat := match cc with
  | none => ldA W H f T
  | some c => ldH W H f c T
def cst : Nat → Nat
  | 0 => 0
  | d + 1 => 6 * (1 + cst d) + 1
section TG
variable {n z t W H M : Nat} {u : Option Nat} {L : Option XT} {V : VT}
theorem s_leaf {I : Nat → Nat → Int32} {J : Nat → Nat → Int64} {T : TP} {B : Nat} (hn : 100000 ≤ n) (hD : dims W H) (hM' : ModR z W H B I) (hB : B ≤ 2380) (hW : TW (W * H) M T) (hT : RefT z (W * H) B I T) {f w : Nat} (hf : f < 6) {cc : Option Nat} (hcc : ∀ c, cc = some c → c < W * H) :
    ∃ g J', f_X11_leaf n (z + 83) (nI f) (oI cc) (nJ w) (mk z (W * H) I J t u) = some (mk z (W * H) (upr I (z + 93) g) J' t u) ∧ (∀ q, q ≠ z + 83 → J' q = J q) ∧ J' (z + 83) 33 = J (z + 83) 33 + nJ w ∧ J' (z + 83) 34 = J (z + 83) 34 + nJ (w * ldR W H f cc T) := by
  have hC := hD.C
  have hal : areaT W (W * H) T f ≤ W * H := areaT_le
  obtain ⟨g, eg, hg⟩ := s_find (n := n) (J := J) (t := t) (u := u) hn hD hM' hB hW hT
  have hM2 : ModR z W H B (upr I (z + 93) g) := hM'.upr (by omega)
  have hT2 := hT.upr93 g
  have g93 : upr I (z + 93) g (z + 93) = g := upr_at _ _ _
  refine ⟨g, up2 (up2 J (z + 83) 33 (J (z + 83) 33 + nJ w)) (z + 83) 34 (J (z + 83) 34 + nJ (w * ldR W H f cc T)), ?_, fun q hq => by rw [up2_ne hq, up2_ne hq], by rw [up2_r, up2_r, ur_ne _ _ (by omega), ur_at], by rw [up2_r, ur_at]⟩
  unfold f_X11_leaf
  simp only [bd]
  rw [eg, cv_some, sJ_mk, mJ_mk]
  have m34 : mJ (mk z (W * H) (upr I (z + 93) g) (up2 J (z + 83) 33 (J (z + 83) 33 + nJ w)) t u) (z + 83) 34 = J (z + 83) 34 := by rw [mJ_mk, up2_r, ur_ne _ _ (by omega)]
  cases e : cc with
  | none =>
    rw [if_neg (show ¬ (0 : Int32) ≤ oI none by decide), s_areaOf hn hM2 hB hC hW hT2 (by rw [g93]; exact hg) hf, cl_some, m34, sJ_mk, nI_64 (by omega), nJ_ml]
    rfl
  | some c =>
    have hc := hcc c e
    rw [if_pos (show (0 : Int32) ≤ oI (some c) by show (0 : Int32) ≤ nI c; rw [show (0 : Int32) = nI 0 from rfl, nI_le' (by omega) (by omega)]; omega), show oI (some c) = nI c from rfl, s_has hM2 hB hC hW hT2 (by rw [g93]; exact hg) hf hc, cl_some, m34]
    by_cases hh : hasT W (W * H) T f c
    · rw [bD_t hh, if_neg (by decide), sJ_mk, show ldR W H f (some c) T = ldH W H f c T from rfl, ldH, if_pos (dec_t.mpr hh), Nat.mul_one]
    · rw [bD_f hh, if_pos rfl, sJ_mk, show ldR W H f (some c) T = ldH W H f c T from rfl, ldH, if_neg (fun w => hh (dec_t.mp w)), Nat.mul_zero]
      rfl
/-- what goThrough may change from level k on -/
def GtR (z k : Nat) (I I' : Nat → Nat → Int32) (J J' : Nat → Nat → Int64) : Prop := FrR z I I' J J' ∧ (∀ j, j < 340 * (3 + k) → I' (z + 84) j = I (z + 84) j) ∧ (∀ j, j < k → I' (z + 94) j = I (z + 94) j) ∧ (∀ j, j ≤ k → J' (z + 95) j = J (z + 95) j)
theorem GtR.rfl' (z k : Nat) (I : Nat → Nat → Int32) (J : Nat → Nat → Int64) : GtR z k I I J J := ⟨FrR.rf z I J, fun _ _ => rfl, fun _ _ => rfl, fun _ _ => rfl⟩
theorem GtR.trn {k : Nat} {I I' I2 : Nat → Nat → Int32} {J J' J2 : Nat → Nat → Int64} (h : GtR z k I I' J J') (h2 : GtR z k I' I2 J' J2) : GtR z k I I2 J J2 := ⟨h.1.tr h2.1, fun j hj => (h2.2.1 j hj).trans (h.2.1 j hj), fun j hj => (h2.2.2.1 j hj).trans (h.2.2.1 j hj), fun j hj => (h2.2.2.2 j hj).trans (h.2.2.2 j hj)⟩
theorem GtR.updg {k : Nat} {I I' : Nat → Nat → Int32} {J J' : Nat → Nat → Int64} (h : GtR z (k + 1) I I' J J') : GtR z k I I' J J' := ⟨h.1, fun j hj => h.2.1 j (by omega), fun j hj => h.2.2.1 j (by omega), fun j hj => h.2.2.2 j (by omega)⟩
theorem RefT.gtr {k C : Nat} {T : TP} {I I' : Nat → Nat → Int32} (h : RefT z C (340 * (2 + k)) I T) (hg : ∀ j, j < 340 * (3 + k) → I' (z + 84) j = I (z + 84) j) : RefT z C (340 * (2 + k)) I' T := by
  unfold RefT
  rw [pa_congr (a := I (z + 84)) (fun j hj => hg _ (by have := plj_b hj; omega))]
  exact h
theorem pw9x {k w v : Nat} (hk : k ≤ 3) (hw : w ≤ 9 ^ k) (hv : v < 10) : w * v ≤ 9 ^ (k + 1) ∧ w * v < 1000000 := by
  have h1 : w * v ≤ 9 ^ k * 9 := Nat.mul_le_mul hw (by omega)
  rw [← Nat.pow_succ] at h1
  have hp : 9 ^ (k + 1) ≤ 6561 := by
    have : k = 0 ∨ k = 1 ∨ k = 2 ∨ k = 3 := by omega
    rcases this with rfl | rfl | rfl | rfl <;> decide
  exact ⟨h1, Nat.lt_of_le_of_lt (Nat.le_trans h1 hp) (by decide)⟩
/-- one wind at level k: as far as the row behind it -/
theorem thr_1 {I : Nat → Nat → Int32} {J : Nat → Nat → Int64} {T : TP} {B : Nat} (hn : 100000 ≤ n) (hD : dims W H) {m k v w : Nat} (hm : m ≤ 4) (hk : k < m) (hv : v < vn V) (hX : CxR z t W H B L V I) (hW : TW (W * H) 2000 T) (hth : th T ≤ 1000 + k) (hT : RefT z (W * H) (340 * (2 + k)) I T) (hb : I (z + 94) k + 1 = nI v) (hw : J (z + 95) k = nJ w) (hw9 : w ≤ 9 ^ k) (a2 a3 : Int32) :
    (w * vc V v = 0 ∧ ∃ I' J', (∀ F, f_X11_goThrough_L47 n (z + 83) 2 a2 a3 (nI m) (F + 1) (nI k) (mk z (W * H) I J t u) = f_X11_goThrough_L47 n (z + 83) 2 a2 a3 (nI m) F (nI k) (mk z (W * H) I' J' t u)) ∧ GtR z k I I' J J' ∧ I' (z + 94) k = nI v ∧ J' (z + 83) = J (z + 83) ∧ CxR z t W H B L V I') ∨
    (w * vc V v ≠ 0 ∧ ∃ I' J', (∀ F, f_X11_goThrough_L47 n (z + 83) 2 a2 a3 (nI m) (F + 1) (nI k) (mk z (W * H) I J t u) = (if nI (k + 1) = nI m then cv (f_X11_leaf n (z + 83) a2 a3 (nJ (w * vc V v)) (mk z (W * H) I' J' t u)) fun S81 => f_X11_goThrough_L47 n (z + 83) 2 a2 a3 (nI m) F (nI k) S81 else f_X11_goThrough_L47 n (z + 83) 2 a2 a3 (nI m) F (nI (k + 1)) (mk z (W * H) (up2 I' (z + 94) (k + 1) (-1)) J' t u))) ∧ GtR z k I I' J J' ∧ I' (z + 94) k = nI v ∧ J' (z + 95) (k + 1) = nJ (w * vc V v) ∧ J' (z + 83) = J (z + 83) ∧ CxR z t W H (340 * (3 + k)) L V I' ∧ RefT z (W * H) (340 * (3 + k)) I' (blV W H L V v T).1) := by
  have hC := hD.C
  have hv6 := hX.2.2.1
  obtain ⟨v1, v2, v3⟩ := hX.2.2.2.2.1 v hv
  obtain ⟨p1, p2⟩ := pw9x (show k ≤ 3 by omega) hw9 v3
  obtain ⟨I1, hI1⟩ : ∃ I1, I1 = up2 I (z + 94) k (nI v) := ⟨_, rfl⟩
  obtain ⟨J1, hJ1⟩ : ∃ J1, J1 = up2 J (z + 95) (k + 1) (nJ (w * vc V v)) := ⟨_, rfl⟩
  have hF1 : FrR z I I1 J J1 := ⟨fun q hq => by rw [hI1, up2_ne (by omega)], fun j _ _ => by rw [hI1, up2_ne (by omega)], fun j _ => by rw [hI1, up2_ne (by omega)], fun q hq => by rw [hJ1, up2_ne (by omega)]⟩
  have h84 : I1 (z + 84) = I (z + 84) := by rw [hI1, up2_ne (by omega)]
  have h83 : I1 (z + 83) = I (z + 83) := by rw [hI1, up2_ne (by omega)]
  have h94 : I1 (z + 94) k = nI v := by rw [hI1, up2_r, ur_at]
  have hG1 : GtR z k I I1 J J1 := ⟨hF1, fun j _ => by rw [h84], fun j hj => by rw [hI1, up2_r, ur_ne _ _ (by omega)], fun j hj => by rw [hJ1, up2_r, ur_ne _ _ (by omega)]⟩
  have hX1 : CxR z t W H B L V I1 := hX.fr hF1 (by rw [h83]; exact hX.1.2.2.2)
  have hT1 : RefT z (W * H) (340 * (2 + k)) I1 T := hT.gtr hG1.2.1
  have mb : mI (mk z (W * H) I J t u) (z + 94) k + 1 = nI v := hb
  have m94 : ∀ J', mI (mk z (W * H) I1 J' t u) (z + 94) k = nI v := fun J' => h94
  have m2 : mI (mk z (W * H) I1 J t u) (z + 84) 2 = nI (vn V) := by rw [mI_mk, h84]; exact hX.2.2.2.1
  have mc : mI (mk z (W * H) I1 J t u) (z + 84) (103 + 4 * v) = nI (vc V v) := by rw [mI_mk, h84]; exact v2
  have mw : mJ (mk z (W * H) I1 J t u) (z + 95) k = nJ w := hw
  have mw1 : mJ (mk z (W * H) I1 J1 t u) (z + 95) (k + 1) = nJ (w * vc V v) := by rw [mJ_mk, hJ1, up2_r, ur_at]
  have ek : nI k + (1 : Int32) = nI (k + 1) := nI_pl k 1
  have e2k : (2 : Int32) + nI k = nI (2 + k) := nI_pl 2 k
  have e3k : nI (2 + k) + (1 : Int32) = nI (3 + k) := by rw [show (1 : Int32) = nI 1 from rfl, nI_pl]; congr 1; omega
  have hpre : ∀ F, f_X11_goThrough_L47 n (z + 83) 2 a2 a3 (nI m) (F + 1) (nI k) (mk z (W * H) I J t u) = (if (lg_cmp (nJ (w * vc V v)) (0 : Int64)) = 0 then f_X11_goThrough_L47 n (z + 83) 2 a2 a3 (nI m) F (nI k) (mk z (W * H) I1 J1 t u) else cv (f_X11_copy n (z + 83) (nI (2 + k)) (nI (3 + k)) (mk z (W * H) I1 J1 t u)) fun S55 => cv (f_X11_tries n (z + 83) (nI (3 + k)) S55) fun S58 => gR S58 (mR S58 (z + 83) 31) 12 fun q61 => ck (inb (nI k) (mN S58 q61)) (cl (f_X11_blow n (z + 83) (mI S58 q61 k) S58) fun x67 S64 => (if nI (k + 1) = nI m then gR S64 (mR S64 (z + 83) 32) 13 fun q78 => ck (inb (nI m) (mN S64 q78)) (cv (f_X11_leaf n (z + 83) a2 a3 (mJ S64 q78 (nI m).toNatClampNeg) S64) fun S81 => f_X11_goThrough_L47 n (z + 83) 2 a2 a3 (nI m) F (nI k) S81) else gR S64 (mR S64 (z + 83) 31) 12 fun q73 => ck (inb (nI (k + 1)) (mN S64 q73)) (f_X11_goThrough_L47 n (z + 83) 2 a2 a3 (nI m) F (nI (k + 1)) (sI S64 q73 (nI (k + 1)).toNatClampNeg (-1 : Int32)))))) := by
    intro F
    rw [f_X11_goThrough_L47]
    simp only [jn, bd]
    rw [if_neg (nI_pos (by omega)), g83_31, n94, ck_t (inb_nI (by omega) (by omega)), ck_t (inb_nI (by omega) (by omega)), cl_nI (show k < 1000000 by omega), mb, sI_mk, ← hI1, g83_31, n94, ck_t (inb_nI (by omega) (by omega)), g83_0, n84, ck_t (by decide), show (2 : Int32).toNatClampNeg = 2 from rfl, m94, m2, if_pos ((nI_lt' (by omega) (by omega)).mpr hv), g83_32, g83_32, n95, ck_t (inb_nI (by omega) (by omega)), g83_0, g83_31, n94, ck_t (inb_nI (by omega) (by omega)), m94, idx_c, n84, ck_t (inb_nI (by omega) (by omega)), ek, ck_t (inb_nI (by omega) (by omega)), cl_nI (show k + 1 < 1000000 by omega), cl_nI (show 103 + 4 * v < 1000000 by omega), mw, mc, nI_64 (by omega), nJ_ml, sJ_mk, ← hJ1, g83_32, n95, ck_t (inb_nI (by omega) (by omega)), mw1, e2k, e3k]
  by_cases h0 : w * vc V v = 0
  · refine Or.inl ⟨h0, I1, J1, fun F => ?_, hG1, h94, by rw [hJ1, up2_ne (by omega)], hX1⟩
    rw [hpre F, if_pos ((lg_0 _).mpr (by rw [h0]; rfl))]
  · -- the row behind the wind
    obtain ⟨I2, hI2⟩ : ∃ I2, I2 = up2 (upr I1 (z + 84) (cpR (I1 (z + 84)) (2 + k) (3 + k) 340)) (z + 83) 4 (nI (340 * (3 + k))) := ⟨_, rfl⟩
    have ec := s_copyR (n := n) (z := z) (C := W * H) (I := I1) (J := J1) (t := t) (u := u) hn (f := 2 + k) (g := 3 + k) (by omega) (by omega) (by omega)
    have et := s_tries (n := n) (z := z) (W := W) (H := H) (I := upr I1 (z + 84) (cpR (I1 (z + 84)) (2 + k) (3 + k) 340)) (J := J1) (t := t) (u := u) (r := 3 + k)
    rw [← hI2] at et
    have r84 : I2 (z + 84) = cpR (I1 (z + 84)) (2 + k) (3 + k) 340 := by rw [hI2, up2_ne (by omega), upr_at]
    have rlo : ∀ j, j < 340 * (3 + k) → I2 (z + 84) j = I1 (z + 84) j := fun j hj => by
      rw [r84]; unfold cpR; rw [if_neg (by omega)]
    have rne : ∀ q, q ≠ z + 83 → q ≠ z + 84 → I2 q = I1 q := fun q a b => by rw [hI2, up2_ne a, upr_ne b]
    have hF2 : FrR z I1 I2 J1 J1 := ⟨fun q hq => rne q (by omega) (by omega), fun j a b => by rw [hI2, up2_r, ur_ne _ _ b, upr_ne (by omega)], fun j hj => rlo j (by omega), fun _ _ => rfl⟩
    have hX2 : CxR z t W H (340 * (3 + k)) L V I2 := hX1.fr hF2 (by rw [hI2, up2_r, ur_at])
    have hT2 : RefT z (W * H) (340 * (3 + k)) I2 T := by
      unfold RefT
      rw [r84, pa_cp]; exact hT1
    obtain ⟨I3, J3, eb, c3, s3, hX3⟩ := s_blowT (n := n) (J := J1) (u := u) hn hD (B := 340 * (3 + k)) (by omega) (by omega) hX2 hW hT2 hv
    have h94' : I3 (z + 94) = I1 (z + 94) := (s3.1 _ (by omega)).trans (rne _ (by omega) (by omega))
    have hG3 : GtR z k I I3 J J3 := by
      refine hG1.trn ⟨hF2.tr (s3.frr (by omega)), fun j hj => (s3.2.2.1 j (Or.inl hj)).trans (rlo j hj), fun j hj => by rw [h94'], fun j hj => by rw [s3.2.1 _ (by omega)]⟩
    have j95 : J3 (z + 95) = J1 (z + 95) := s3.2.1 _ (by omega)
    have j95k : J3 (z + 95) (k + 1) = nJ (w * vc V v) := by rw [j95]; exact mw1
    refine Or.inr ⟨h0, I3, J3, fun F => ?_, hG3, by rw [h94']; exact h94, j95k, by rw [s3.2.1 _ (by omega), hJ1, up2_ne (by omega)], hX3, c3⟩
    have m942 : mI (mk z (W * H) I2 J1 t u) (z + 94) k = nI v := by rw [mI_mk, rne _ (by omega) (by omega)]; exact h94
    rw [hpre F, if_neg (fun w => h0 ((nJ_z p2).mp ((lg_0 _).mp w))), ec, cv_some, et, cv_some, g83_31, n94, ck_t (inb_nI (by omega) (by omega)), m942, eb, cl_some, g83_32, n95, ck_t (inb_nI (by omega) (by omega)), cl_nI (show m < 1000000 by omega), g83_31, n94]
    by_cases hkm : k + 1 = m
    · subst hkm
      rw [if_pos rfl, if_pos rfl, show mJ (mk z (W * H) I3 J3 t u) (z + 95) (k + 1) = nJ (w * vc V v) from j95k]
    · have hne : ¬ nI (k + 1) = nI m := by rw [nI_inj (by omega) (by omega)]; exact hkm
      rw [if_neg hne, if_neg hne, ck_t (inb_nI (by omega) (by omega)), cl_nI (by omega), sI_mk]
theorem thr_R (hn : 100000 ≤ n) (hD : dims W H) {f m : Nat} {cc : Option Nat} (hf : f < 6) (hcc : ∀ c, cc = some c → c < W * H) (hm : m ≤ 4) : ∀ (d e v k fl F w B : Nat) (I : Nat → Nat → Int32) (J : Nat → Nat → Int64) (T : TP), k + (d + 1) = m → v + e = vn V → fl + e * (1 + cst d) + 1 ≤ F → CxR z t W H B L V I → TW (W * H) 2000 T → th T ≤ 1000 + k → RefT z (W * H) (340 * (2 + k)) I T → I (z + 94) k + 1 = nI v → J (z + 95) k = nJ w → 0 < w → w ≤ 9 ^ k →
    ∃ F' I' J' B', fl ≤ F' ∧ f_X11_goThrough_L47 n (z + 83) 2 (nI f) (oI cc) (nI m) F (nI k) (mk z (W * H) I J t u) = f_X11_goThrough_L47 n (z + 83) 2 (nI f) (oI cc) (nI m) F' (nI k + -1) (mk z (W * H) I' J' t u) ∧ GtR z k I I' J J' ∧ CxR z t W H B' L V I' ∧ J' (z + 83) 33 = J (z + 83) 33 + nJ (w * tsV (fun v => vc V v * lfS W H L V (fun _ => 1) d (blV W H L V v T).1) e v) ∧ J' (z + 83) 34 = J (z + 83) 34 + nJ (w * tsV (fun v => vc V v * lfS W H L V (ldR W H f cc) d (blV W H L V v T).1) e v) := by
  have hC := hD.C
  intro d
  induction d with
  | zero =>
    intro e
    induction e with
    | zero =>
      intro v k fl F w B I J T hkd hve hF hX hW hth hT hb hw hw0 hw9
      obtain ⟨F, rfl⟩ : ∃ m, F = m + 1 := ⟨F - 1, by omega⟩
      have hv6 := hX.2.2.1
      have mb : mI (mk z (W * H) I J t u) (z + 94) k + 1 = nI v := hb
      have hF1 : FrR z I (up2 I (z + 94) k (nI v)) J J := ⟨fun q hq => up2_ne (by omega), fun j _ _ => by rw [up2_ne (by omega)], fun j _ => by rw [up2_ne (by omega)], fun q hq => rfl⟩
      refine ⟨F, up2 I (z + 94) k (nI v), J, B, by omega, ?_, ⟨hF1, fun j _ => by rw [up2_ne (by omega)], fun j hj => by rw [up2_r, ur_ne _ _ (by omega)], fun _ _ => rfl⟩, hX.fr hF1 (by rw [up2_ne (by omega)]; exact hX.1.2.2.2), ?_, ?_⟩
      · have m94 : mI (mk z (W * H) (up2 I (z + 94) k (nI v)) J t u) (z + 94) k = nI v := by rw [mI_mk, up2_r, ur_at]
        have m2 : mI (mk z (W * H) (up2 I (z + 94) k (nI v)) J t u) (z + 84) 2 = nI (vn V) := by rw [mI_mk, up2_ne (by omega)]; exact hX.2.2.2.1
        rw [f_X11_goThrough_L47]
        simp only [jn, bd]
        rw [if_neg (nI_pos (by omega)), g83_31, n94, ck_t (inb_nI (by omega) (by omega)), ck_t (inb_nI (by omega) (by omega)), cl_nI (show k < 1000000 by omega), mb, sI_mk, g83_31, n94, ck_t (inb_nI (by omega) (by omega)), g83_0, n84, ck_t (by decide), show (2 : Int32).toNatClampNeg = 2 from rfl, m94, m2, if_neg (fun w => by rw [nI_lt' (by omega) (by omega)] at w; omega)]
      · rw [tsV, Nat.mul_zero, show nJ 0 = 0 from rfl, Int64.add_zero]
      · rw [tsV, Nat.mul_zero, show nJ 0 = 0 from rfl, Int64.add_zero]
    | succ e ihe =>
      intro v k fl F w B I J T hkd hve hF hX hW hth hT hb hw hw0 hw9
      rw [Nat.succ_mul] at hF
      obtain ⟨F, rfl⟩ : ∃ m, F = m + 1 := ⟨F - 1, by omega⟩
      have e1 : nI v + (1 : Int32) = nI (v + 1) := nI_pl v 1
      rcases thr_1 (n := n) (t := t) (u := u) hn hD hm (show k < m by omega) (show v < vn V by omega) hX hW hth hT hb hw hw9 (nI f) (oI cc) with ⟨h0, I1, J1, x1, g1, b1, j1, hX1⟩ | ⟨h0, I1, J1, x1, g1, b1, j95, j1, hX1, c1⟩
      · obtain ⟨F', I', J', B', y1, y2, y3, y4, y5, y6⟩ := ihe (v + 1) k fl F w B I1 J1 T hkd (by omega) (by omega) hX1 hW hth (hT.gtr g1.2.1) (by rw [b1, e1]) (by rw [g1.2.2.2 k (Nat.le_refl _)]; exact hw) hw0 hw9
        have hv0 : vc V v = 0 := by
          rcases Nat.mul_eq_zero.mp h0 with h | h
          · omega
          · exact h
        refine ⟨F', I', J', B', y1, (x1 F).trans y2, g1.trn y3, y4, ?_, ?_⟩
        · rw [y5, j1, tsV, hv0, Nat.zero_mul, Nat.zero_add]
        · rw [y6, j1, tsV, hv0, Nat.zero_mul, Nat.zero_add]
      · have hWb : TW (W * H) 2000 (blV W H L V v T).1 := blT_W hD hW (by omega)
        obtain ⟨g, J2, z1, z2, z3, z4⟩ := s_leaf (n := n) (J := J1) (t := t) (u := u) (w := w * vc V v) hn hD hX1.1 (by omega) hWb c1 hf hcc
        have hF2 : FrR z I1 (upr I1 (z + 93) g) J1 J2 := ⟨fun q hq => upr_ne (by omega), fun j _ _ => by rw [upr_ne (by omega)], fun j _ => by rw [upr_ne (by omega)], fun q hq => z2 q (by omega)⟩
        have g2 : GtR z k I (upr I1 (z + 93) g) J J2 := g1.trn ⟨hF2, fun j _ => by rw [upr_ne (by omega)], fun j _ => by rw [upr_ne (by omega)], fun j _ => by rw [z2 _ (by omega)]⟩
        obtain ⟨F', I', J', B', y1, y2, y3, y4, y5, y6⟩ := ihe (v + 1) k fl F w _ (upr I1 (z + 93) g) J2 T hkd (by omega) (by omega) (hX1.fr hF2 (by rw [upr_ne (by omega)]; exact hX1.1.2.2.2)) hW hth (hT.gtr g2.2.1) (by rw [upr_ne (by omega), b1, e1]) (by rw [g2.2.2.2 k (Nat.le_refl _)]; exact hw) hw0 hw9
        refine ⟨F', I', J', B', y1, ?_, g2.trn y3, y4, ?_, ?_⟩
        · rw [x1 F, if_pos (by rw [show k + 1 = m by omega]), z1, cv_some]; exact y2
        · rw [y5, z3, j1, Int64.add_assoc, nJ_pl, tsV, Nat.mul_add]
          show _ = _ + nJ (w * (vc V v * 1) + _)
          rw [Nat.mul_one]
        · rw [y6, z4, j1, Int64.add_assoc, nJ_pl, tsV, Nat.mul_add]
          show _ = _ + nJ (w * (vc V v * ldR W H f cc (blV W H L V v T).1) + _)
          rw [Nat.mul_assoc]
  | succ d ih =>
    intro e
    induction e with
    | zero =>
      intro v k fl F w B I J T hkd hve hF hX hW hth hT hb hw hw0 hw9
      obtain ⟨F, rfl⟩ : ∃ m, F = m + 1 := ⟨F - 1, by omega⟩
      have hv6 := hX.2.2.1
      have mb : mI (mk z (W * H) I J t u) (z + 94) k + 1 = nI v := hb
      have hF1 : FrR z I (up2 I (z + 94) k (nI v)) J J := ⟨fun q hq => up2_ne (by omega), fun j _ _ => by rw [up2_ne (by omega)], fun j _ => by rw [up2_ne (by omega)], fun q hq => rfl⟩
      refine ⟨F, up2 I (z + 94) k (nI v), J, B, by omega, ?_, ⟨hF1, fun j _ => by rw [up2_ne (by omega)], fun j hj => by rw [up2_r, ur_ne _ _ (by omega)], fun _ _ => rfl⟩, hX.fr hF1 (by rw [up2_ne (by omega)]; exact hX.1.2.2.2), ?_, ?_⟩
      · have m94 : mI (mk z (W * H) (up2 I (z + 94) k (nI v)) J t u) (z + 94) k = nI v := by rw [mI_mk, up2_r, ur_at]
        have m2 : mI (mk z (W * H) (up2 I (z + 94) k (nI v)) J t u) (z + 84) 2 = nI (vn V) := by rw [mI_mk, up2_ne (by omega)]; exact hX.2.2.2.1
        rw [f_X11_goThrough_L47]
        simp only [jn, bd]
        rw [if_neg (nI_pos (by omega)), g83_31, n94, ck_t (inb_nI (by omega) (by omega)), ck_t (inb_nI (by omega) (by omega)), cl_nI (show k < 1000000 by omega), mb, sI_mk, g83_31, n94, ck_t (inb_nI (by omega) (by omega)), g83_0, n84, ck_t (by decide), show (2 : Int32).toNatClampNeg = 2 from rfl, m94, m2, if_neg (fun w => by rw [nI_lt' (by omega) (by omega)] at w; omega)]
      · rw [tsV, Nat.mul_zero, show nJ 0 = 0 from rfl, Int64.add_zero]
      · rw [tsV, Nat.mul_zero, show nJ 0 = 0 from rfl, Int64.add_zero]
    | succ e ihe =>
      intro v k fl F w B I J T hkd hve hF hX hW hth hT hb hw hw0 hw9
      rw [Nat.succ_mul] at hF
      obtain ⟨F, rfl⟩ : ∃ m, F = m + 1 := ⟨F - 1, by omega⟩
      have hv6 := hX.2.2.1
      have e1 : nI v + (1 : Int32) = nI (v + 1) := nI_pl v 1
      rcases thr_1 (n := n) (t := t) (u := u) hn hD hm (show k < m by omega) (show v < vn V by omega) hX hW hth hT hb hw hw9 (nI f) (oI cc) with ⟨h0, I1, J1, x1, g1, b1, j1, hX1⟩ | ⟨h0, I1, J1, x1, g1, b1, j95, j1, hX1, c1⟩
      · obtain ⟨F', I', J', B', y1, y2, y3, y4, y5, y6⟩ := ihe (v + 1) k fl F w B I1 J1 T hkd (by omega) (by omega) hX1 hW hth (hT.gtr g1.2.1) (by rw [b1, e1]) (by rw [g1.2.2.2 k (Nat.le_refl _)]; exact hw) hw0 hw9
        have hv0 : vc V v = 0 := by
          rcases Nat.mul_eq_zero.mp h0 with h | h
          · omega
          · exact h
        refine ⟨F', I', J', B', y1, (x1 F).trans y2, g1.trn y3, y4, ?_, ?_⟩
        · rw [y5, j1, tsV, hv0, Nat.zero_mul, Nat.zero_add]
        · rw [y6, j1, tsV, hv0, Nat.zero_mul, Nat.zero_add]
      · have hWb : TW (W * H) 2000 (blV W H L V v T).1 := blT_W hD hW (by omega)
        have hthb : th (blV W H L V v T).1 ≤ 1000 + (k + 1) := by
          have : th (blV W H L V v T).1 = th T + 1 := blT_th.1
          omega
        obtain ⟨v1, v2, v3⟩ := hX.2.2.2.2.1 v (by omega)
        obtain ⟨p1, p2⟩ := pw9x (show k ≤ 3 by omega) hw9 v3
        have hF2 : FrR z I1 (up2 I1 (z + 94) (k + 1) (-1)) J1 J1 := ⟨fun q hq => up2_ne (by omega), fun j _ _ => by rw [up2_ne (by omega)], fun j _ => by rw [up2_ne (by omega)], fun q hq => rfl⟩
        have g2 : GtR z k I (up2 I1 (z + 94) (k + 1) (-1)) J J1 := g1.trn ⟨hF2, fun j _ => by rw [up2_ne (by omega)], fun j hj => by rw [up2_r, ur_ne _ _ (by omega)], fun j _ => rfl⟩
        have hcs : vn V * (1 + cst d) ≤ 6 * (1 + cst d) := Nat.mul_le_mul_right _ hv6
        have hcd : cst (d + 1) = 6 * (1 + cst d) + 1 := rfl
        obtain ⟨F1, I2, J2, B2, w1, w2, w3, w4, w5, w6⟩ := ih (vn V) 0 (k + 1) (fl + e * (1 + cst (d + 1)) + 1) F (w * vc V v) _ (up2 I1 (z + 94) (k + 1) (-1)) J1 (blV W H L V v T).1 (by omega) (by omega) (by omega) (hX1.fr hF2 (by rw [up2_ne (by omega)]; exact hX1.1.2.2.2)) hWb hthb (by
          have : RefT z (W * H) (340 * (2 + (k + 1))) I1 (blV W H L V v T).1 := by rw [show 2 + (k + 1) = 3 + k by omega]; exact c1
          unfold RefT; rw [up2_ne (by omega)]; exact this) (by rw [up2_r, ur_at]; rfl) j95 (by omega) p1
        have g3 := g2.trn w3.updg
        have b2 : I2 (z + 94) k = nI v := by rw [w3.2.2.1 k (by omega), up2_r, ur_ne _ _ (by omega)]; exact b1
        obtain ⟨F', I', J', B', y1, y2, y3, y4, y5, y6⟩ := ihe (v + 1) k fl F1 w B2 I2 J2 T hkd (by omega) w1 w4 hW hth (hT.gtr g3.2.1) (by rw [b2, e1]) (by rw [g3.2.2.2 k (Nat.le_refl _)]; exact hw) hw0 hw9
        refine ⟨F', I', J', B', y1, ?_, g3.trn y3, y4, ?_, ?_⟩
        · rw [x1 F, if_neg (by rw [nI_inj (by omega) (by omega)]; omega), w2, nI_m1 (by omega)]; exact y2
        · rw [y5, w5, j1, Int64.add_assoc, nJ_pl, tsV, Nat.mul_add, Nat.mul_assoc]
          rfl
        · rw [y6, w6, j1, Int64.add_assoc, nJ_pl, tsV, Nat.mul_add, Nat.mul_assoc]
          rfl
end TG
