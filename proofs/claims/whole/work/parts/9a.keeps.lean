/-! KEEPS keeps the relation -/
section KE
variable {n z t W H M : Nat} {u : Option Nat} {T : TP} {L : Option XT} {V : VT}
/-- the plain with another weight of a bone -/
def wtT (T : TP) (i y : Nat) : TP := (tk T, th T, tc T, ur (tw T) i y, tl T, ts T, tr T)
theorem TW.wt {C : Nat} (h : TW C M T) {i y : Nat} (hy1 : 1 ≤ y) (hy : y ≤ 99) : TW C M (wtT T i y) := by
  obtain ⟨h1, h2, h3, h4, h5, h6⟩ := h
  refine ⟨h1, h2, fun j hj => ?_, h4, h5, h6⟩
  obtain ⟨a, b, c, d⟩ := h3 j hj
  by_cases hji : j = i
  · subst hji
    refine ⟨a, ?_, ?_, d⟩
    · show 1 ≤ ur (tw T) j y j
      rw [ur_at]; exact hy1
    · show ur (tw T) j y j ≤ 99
      rw [ur_at]; exact hy
  · refine ⟨a, ?_, ?_, d⟩
    · show 1 ≤ ur (tw T) i y j
      rw [ur_ne _ _ hji]; exact b
    · show ur (tw T) i y j ≤ 99
      rw [ur_ne _ _ hji]; exact c
theorem ClsT.wt {o C i y : Nat} {I : Nat → Nat → Int32} {J : Nat → Nat → Int64} (h : ClsT z C o I J T) : ClsT z C o (up2 I (z + (o + 2)) i (nI y)) J (wtT T i y) := by
  obtain ⟨a1, a2, a3, a4, a5, a6, a7⟩ := h
  unfold ClsT
  rw [up2_ne (by omega), up2_ne (by omega), up2_r, up2_ne (by omega), up2_ne (by omega), up2_ne (by omega)]
  refine ⟨a1, a2, fun j hj => ?_, a4, a5, a6, a7⟩
  obtain ⟨b1, b2, b3⟩ := a3 j hj
  refine ⟨b1, ?_, b3⟩
  show ur (I (z + (o + 2))) i (nI y) j = nI (ur (tw T) i y j)
  by_cases hji : j = i
  · subst hji; rw [ur_at, ur_at]
  · rw [ur_ne _ _ hji, ur_ne _ _ hji]; exact b2
theorem RefT.wtU {B C i y : Nat} {I : Nat → Nat → Int32} (hW : TW C M T) (h : RefT z C B I T) (hC : C ≤ 48) (hi : i < tk T) : RefT z C B (up2 I (z + 84) (B + 11 + 3 * i) (nI y)) (wtT T i y) := by
  have h24 := hW.1
  have p11 : plj (11 + 3 * i) = true := by have := plj_10 (i := 1 + 3 * i) (by omega); rwa [show 10 + (1 + 3 * i) = 11 + 3 * i by omega] at this
  obtain ⟨b1, b2, b3, b4, b5, b6⟩ := h
  unfold RefT
  rw [up2_r, show B + 11 + 3 * i = B + (11 + 3 * i) by omega, pa_ur p11]
  refine ⟨?_, ?_, fun j hj => ?_, fun f hf => ?_, fun c hc => ?_, fun c hc hb => ?_⟩
  · rw [ur_ne _ _ (by omega)]; exact b1
  · rw [ur_ne _ _ (by omega)]; exact b2
  · have hj : j < tk T := hj
    obtain ⟨e1, e2, e3, e4⟩ := b3 j hj
    have hcj := (hW.2.2.1 j hj).1
    refine ⟨?_, ?_, ?_, ?_⟩
    · rw [ur_ne _ _ (by omega)]; exact e1
    · show ur _ (11 + 3 * i) (nI y) (11 + 3 * j) = nI (ur (tw T) i y j)
      by_cases hji : j = i
      · subst hji; rw [ur_at, ur_at]
      · rw [ur_ne _ _ (by omega), ur_ne _ _ hji]; exact e2
    · rw [ur_ne _ _ (by omega)]; exact e3
    · show ur _ (11 + 3 * i) (nI y) (290 + tc T j) = nI (j + 1)
      rw [ur_ne _ _ (by omega)]; exact e4
  · rw [ur_ne _ _ (by omega)]; exact b4 f hf
  · rw [ur_ne _ _ (by omega)]; exact b5 c hc
  · rw [ur_ne _ _ (by omega)]; exact b6 c hc hb
/-- kept from the k-th hour on -/
def kpT (W H : Nat) (L : Option XT) (V : VT) (T : TP) (f c m k : Nat) : Prop := ∀ q, k ≤ q → q < m → hdT W H L V T f c (q + 1)
theorem kpT_s {f c m k : Nat} (h : hdT W H L V T f c (k + 1)) : kpT W H L V T f c m (k + 1) ↔ kpT W H L V T f c m k :=
  ⟨fun w q h1 h2 => by
    by_cases hqk : q = k
    · subst hqk; exact h
    · exact w q (by omega) h2, fun w q h1 h2 => w q (by omega) h2⟩
theorem kept_C (hn : 100000 ≤ n) (hD : dims W H) (hW : TW (W * H) 999 T) (hv : 0 < vn V) {f c m : Nat} (hf : f < 6) (hc : c < W * H) (hm : m ≤ 40) : ∀ (d k g : Nat) (I : Nat → Nat → Int32) (J : Nat → Nat → Int64), k + d = m → d < g → CxC z t W H L V I J → ClsT z (W * H) 48 I J (plS W H L V T k) → ∃ I' J', f_X2_isKept_L3 n (z + 46) (nI f) (nI c) (nI m) g (nI k) (mk z (W * H) I J t u) = some (bD (kpT W H L V T f c m k), mk z (W * H) I' J' t u) ∧ FrC z I I' J J' := by
  intro d
  induction d with
  | zero =>
    intro k g I J hk hg hX hT
    obtain ⟨g, rfl⟩ : ∃ m, g = m + 1 := ⟨g - 1, by omega⟩
    obtain rfl : k = m := by omega
    refine ⟨I, J, ?_, FrC.rf z I J⟩
    rw [f_X2_isKept_L3]
    simp only [jn]
    rw [if_pos ((nI_le' (by omega) (by omega)).mpr (Nat.le_refl _)), zb_1, bD_t (show kpT W H L V T f c k k from fun q h1 h2 => by omega)]
  | succ d ih =>
    intro k g I J hk hg hX hT
    obtain ⟨g, rfl⟩ : ∃ m, g = m + 1 := ⟨g - 1, by omega⟩
    have hWk := plS_W (L := L) (V := V) hD hW k (by omega)
    have hWk1 := plS_W (L := L) (V := V) hD hW (k + 1) (by omega)
    obtain ⟨I1, J1, e1, r1, r2⟩ := s_goOn (n := n) (u := u) hn hD hX hWk hT (k := k) (by omega) hv
    have hX1 := hX.fr r2
    have eh := s_isHad (n := n) (t := t) (u := u) hn hD hX1.1 isP48 hWk1 r1 hf hc
    obtain ⟨I', J', e2, r3⟩ := ih (k + 1) g I1 J1 (by omega) (by omega) hX1 r1
    rw [f_X2_isKept_L3]
    simp only [jn, bd]
    rw [if_neg (show ¬ nI m ≤ nI k by rw [nI_le' (by omega) (by omega)]; omega), e1, cl_some, g46_6, n47, ck_t (by decide), gT0, eh, cl_some, show nI k + (1 : Int32) = nI (k + 1) from nI_pl k 1]
    by_cases h : hasT W (W * H) (plS W H L V T (k + 1)) f c
    · refine ⟨I', J', ?_, r2.tr r3⟩
      rw [if_neg (by rw [bD_t h]; decide), e2, bD_congr (kpT_s h)]
    · refine ⟨I1, J1, ?_, r2⟩
      rw [if_pos (by rw [bD_f h]), zb_0, bD_f (fun w => h (w k (Nat.le_refl _) (by omega)))]
theorem kept_R (hn : 100000 ≤ n) (hD : dims W H) (hW : TW (W * H) 999 T) (hv : 0 < vn V) {f c m : Nat} (hf : f < 6) (hc : c < W * H) (hm : m ≤ 40) : ∀ (d k g : Nat) (I : Nat → Nat → Int32) (J : Nat → Nat → Int64), k + d = m → d < g → CxR z t W H 680 L V I → RefT z (W * H) 680 I (plS W H L V T k) → ∃ I' J', f_X11_isKept_L3 n (z + 83) (nI f) (nI c) (nI m) g (nI k) (mk z (W * H) I J t u) = some (bD (kpT W H L V T f c m k), mk z (W * H) I' J' t u) ∧ FrR z I I' J J' ∧ CxR z t W H 680 L V I' := by
  intro d
  induction d with
  | zero =>
    intro k g I J hk hg hX hT
    obtain ⟨g, rfl⟩ : ∃ m, g = m + 1 := ⟨g - 1, by omega⟩
    obtain rfl : k = m := by omega
    refine ⟨I, J, ?_, FrR.rf z I J, hX⟩
    rw [f_X11_isKept_L3]
    simp only [jn]
    rw [if_pos ((nI_le' (by omega) (by omega)).mpr (Nat.le_refl _)), zb_1, bD_t (show kpT W H L V T f c k k from fun q h1 h2 => by omega)]
  | succ d ih =>
    intro k g I J hk hg hX hT
    obtain ⟨g, rfl⟩ : ∃ m, g = m + 1 := ⟨g - 1, by omega⟩
    have hWk := plS_W (L := L) (V := V) hD hW k (by omega)
    have hWk1 := plS_W (L := L) (V := V) hD hW (k + 1) (by omega)
    obtain ⟨p1, p2, p3⟩ := hX.2.2.2.2.2 k (by omega)
    have hv6 := hX.2.2.1
    obtain ⟨I1, J1, e1, r1, r2, r3⟩ := s_blowT (n := n) (J := J) (u := u) hn hD (by omega) (by omega) hX hWk hT (v := vp V k) (by omega)
    obtain ⟨g1, eg, eh⟩ := s_hasF (n := n) (J := J1) (t := t) (u := u) hn hD r3.1 (by omega) hWk1 r1 hf hc
    have f1 : FrR z I (upr I1 (z + 93) g1) J J1 := (r2.frr (by omega)).tr FrR.u93
    obtain ⟨I', J', e2, r4, r5⟩ := ih (k + 1) g (upr I1 (z + 93) g1) J1 (by omega) (by omega) r3.u93 (r1.upr93 g1)
    rw [f_X11_isKept_L3]
    simp only [jn, bd]
    rw [if_neg (show ¬ nI m ≤ nI k by rw [nI_le' (by omega) (by omega)]; omega), g83_0, n84, show (125 : Int32) + nI k = nI (125 + k) from nI_pl 125 k, ck_t (inb_nI (by omega) (by omega)), cl_nI (by omega), mI_mk, p1, e1, cl_some, eg, cv_some, eh, cl_some, show nI k + (1 : Int32) = nI (k + 1) from nI_pl k 1]
    by_cases h : hasT W (W * H) (plS W H L V T (k + 1)) f c
    · refine ⟨I', J', ?_, f1.tr r4, r5⟩
      rw [if_neg (by rw [bD_t h]; decide), e2, bD_congr (kpT_s h)]
    · refine ⟨upr I1 (z + 93) g1, J1, ?_, f1, r3.u93⟩
      rw [if_pos (by rw [bD_f h]), zb_0, bD_f (fun w => h (w k (Nat.le_refl _) (by omega)))]
/-- the first weight from y on, d more may come, with P: how much more than w -/
noncomputable def lmT (P : Nat → Prop) (w : Nat) : Nat → Nat → Int32
  | 0, _ => -1
  | d + 1, y => if dec (P y) = true then nI (y - w) else lmT P w d (y + 1)
theorem more_C (hn : 100000 ≤ n) (hD : dims W H) (hW : TW (W * H) 999 T) (hv : 0 < vn V) {f c m i : Nat} (hf : f < 6) (hc : c < W * H) (hm : m ≤ 40) (hi : i < tk T) : ∀ (d y g : Nat) (I : Nat → Nat → Int32) (J : Nat → Nat → Int64), y + d = 100 → tw T i ≤ y → d < g → CxC z t W H L V I J → ClsT z (W * H) 32 I J T → ∃ I' J', f_X2_leastMore_L11 n (z + 46) (nI f) (nI c) (nI i) (nI m) g (nI y) (mk z (W * H) I J t u) = some (lmT (fun y => kpT W H L V (wtT T i y) f c m 0) (tw T i) d y, mk z (W * H) I' J' t u) ∧ FrC z I I' J J' := by
  have hC := hD.C
  have h24 := hW.1
  have hw1 := (hW.2.2.1 i hi).2.1
  intro d
  induction d with
  | zero =>
    intro y g I J hy hw hg hX hT
    obtain ⟨g, rfl⟩ : ∃ m, g = m + 1 := ⟨g - 1, by omega⟩
    obtain rfl : y = 100 := by omega
    refine ⟨I, J, ?_, FrC.rf z I J⟩
    rw [f_X2_leastMore_L11]
    simp only [jn]
    rw [if_pos (by decide)]
    rfl
  | succ d ih =>
    intro y g I J hy hw hg hX hT
    obtain ⟨g, rfl⟩ : ∃ m, g = m + 1 := ⟨g - 1, by omega⟩
    obtain ⟨I1, J1, e1, f1, r1, -⟩ := s_copy0 (n := n) (t := t) (u := u) hC isP48 (Or.inl rfl) (by omega) (by omega) hT hW.1
    have f2 : FrC z I1 (up2 I1 (z + (48 + 2)) i (nI y)) J1 J1 := ⟨fun q hq => up2_ne (by omega), fun _ _ => rfl⟩
    have f12 := f1.tr f2
    obtain ⟨I2, J2, e2, f3⟩ := kept_C (n := n) (u := u) (T := wtT T i y) hn hD (hW.wt (by omega) (by omega)) hv hf hc hm m 0 n (up2 I1 (z + (48 + 2)) i (nI y)) J1 (by omega) (by omega) (hX.fr f12) r1.wt
    have f4 := f12.tr f3
    have hT2 : ClsT z (W * H) 32 I2 J2 T := hT.keep (fun i _ => f4.1 _ (by omega)) (f4.2 _ (by omega))
    obtain ⟨I', J', e3, f5⟩ := ih (y + 1) g I2 J2 (by omega) (by omega) (by omega) (hX.fr f4) hT2
    have mw : mI (mk z (W * H) I2 J2 t u) (z + (32 + 2)) i = nI (tw T i) := (hT2.2.2.1 i hi).2.1
    rw [f_X2_leastMore_L11]
    simp only [jn, bd]
    rw [if_neg (show ¬ (99 : Int32) < nI y by rw [show (99 : Int32) = nI 99 from rfl, nI_lt' (by omega) (by omega)]; omega), g46_6, n47, ck_t (by decide), gT0, g46_3, e1, cv_some, g46_6, n47, ck_t (by decide), gT0, gP_2 isP48, nP_2 isP48, ck_t (inb_nI (by omega) (by omega)), cl_nI (by omega), sI_mk]
    unfold f_X2_isKept
    rw [show f_X2_isKept_L3 n (z + 46) (nI f) (nI c) (nI m) n (0 : Int32) (mk z (W * H) (up2 I1 (z + (48 + 2)) i (nI y)) J1 t u) = _ from e2, cl_some, show nI y + (1 : Int32) = nI (y + 1) from nI_pl y 1, lmT]
    by_cases h : kpT W H L V (wtT T i y) f c m 0
    · refine ⟨I2, J2, ?_, f4⟩
      rw [if_neg (by rw [bD_t h]; decide), if_pos (dec_t.mpr h), g46_3, gP_2 (Or.inl rfl), nP_2 (Or.inl rfl), ck_t (inb_nI (by omega) (by omega)), mw, nI_sb hw]
    · refine ⟨I', J', ?_, f4.tr f5⟩
      rw [if_pos (by rw [bD_f h]), if_neg (fun w => h (dec_t.mp w)), e3]
theorem idx_w (B i : Nat) : ((nI B + (10 : Int32)) + ((3 : Int32) * nI i)) + (1 : Int32) = nI (B + 11 + 3 * i) := by
  rw [show (3 : Int32) * nI i = nI (3 * i) from nI_ml 3 i, show nI B + (10 : Int32) = nI (B + 10) from nI_pl B 10, nI_pl, show nI (B + 10 + 3 * i) + (1 : Int32) = nI (B + 10 + 3 * i + 1) from nI_pl _ 1]
  congr 1; omega
theorem idx_w0 (i : Nat) : ((10 : Int32) + ((3 : Int32) * nI i)) + (1 : Int32) = nI (11 + 3 * i) := by
  rw [show (3 : Int32) * nI i = nI (3 * i) from nI_ml 3 i, show (10 : Int32) + nI (3 * i) = nI (10 + 3 * i) from nI_pl 10 _, show nI (10 + 3 * i) + (1 : Int32) = nI (10 + 3 * i + 1) from nI_pl _ 1]
  congr 1; omega
theorem more_E {f c m i v g : Nat} {x : Int32} {I : Nat → Nat → Int32} {J : Nat → Nat → Int64} (hi : i < 24) (hv : v < 1000) : f_X11_keeps_L51 n (z + 83) (nI f) (nI c) (nI i) (nI m) (g + 1) (nI v) x (mk z (W * H) I J t u) = some (nI v, mk z (W * H) (up2 I (z + 83) 4 (nI 0)) J t u) := by
  rw [f_X11_keeps_L51]
  simp only [jn]
  rw [g83_0, n84, idx_w0, ck_t (inb_nI (by omega) (by omega)), show f_X11_tries n (z + 83) (0 : Int32) (mk z (W * H) I J t u) = _ from s_tries (r := 0), cv_some, if_pos (show (0 : Int32) ≤ nI v by rw [show (0 : Int32) = nI 0 from rfl, nI_le' (by omega) (by omega)]; omega), ite_self]
theorem more_R (hn : 100000 ≤ n) (hD : dims W H) (hW : TW (W * H) 999 T) (hv : 0 < vn V) {f c m i : Nat} (hf : f < 6) (hc : c < W * H) (hm : m ≤ 40) (hi : i < tk T) : ∀ (d y g : Nat) (I : Nat → Nat → Int32) (J : Nat → Nat → Int64) (B : Nat), y + d = 100 → tw T i ≤ y → d + 1 < g → CxR z t W H B L V I → RefT z (W * H) 0 I T → ∃ I' J', f_X11_keeps_L51 n (z + 83) (nI f) (nI c) (nI i) (nI m) g (-1) (nI (y - tw T i)) (mk z (W * H) I J t u) = some (lmT (fun y => kpT W H L V (wtT T i y) f c m 0) (tw T i) d y, mk z (W * H) I' J' t u) ∧ FrR z I I' J J' ∧ I' (z + 83) 4 = 0 := by
  have hC := hD.C
  have h24 := hW.1
  have hw1 := (hW.2.2.1 i hi).2.1
  intro d
  induction d with
  | zero =>
    intro y g I J B hy hw hg hX hT
    obtain ⟨g, rfl⟩ : ∃ m, g = m + 1 := ⟨g - 1, by omega⟩
    obtain rfl : y = 100 := by omega
    have mw : mI (mk z (W * H) I J t u) (z + 84) (11 + 3 * i) = nI (tw T i) := by have := hT.wgt hW hi; rwa [Nat.zero_add] at this
    refine ⟨up2 I (z + 83) 4 (nI 0), J, ?_, FrR.b, by rw [up2_at, if_pos rfl]; rfl⟩
    rw [f_X11_keeps_L51]
    simp only [jn]
    rw [g83_0, n84, idx_w0, ck_t (inb_nI (by omega) (by omega)), cl_nI (by omega), mw, nI_pl, show tw T i + (100 - tw T i) = 100 by omega, if_pos (by decide), show f_X11_tries n (z + 83) (0 : Int32) (mk z (W * H) I J t u) = _ from s_tries (r := 0), cv_some]
    rfl
  | succ d ih =>
    intro y g I J B hy hw hg hX hT
    obtain ⟨g, rfl⟩ : ∃ m, g = m + 2 := ⟨g - 2, by omega⟩
    have mw : mI (mk z (W * H) I J t u) (z + 84) (11 + 3 * i) = nI (tw T i) := by have := hT.wgt hW hi; rwa [Nat.zero_add] at this
    obtain ⟨I2, I1, e1, e2, f1, r1, r0, hX2⟩ := s_tryR (n := n) (J := J) (u := u) hn hX hT
    have b4 : mI (mk z (W * H) I2 J t u) (z + 83) 4 = nI 680 := hX2.1.2.2.2
    have mw2 : mI (mk z (W * H) I2 J t u) (z + 84) (680 + 11 + 3 * i) = nI (tw T i) := r1.wgt hW hi
    have f2 : FrR z I2 (up2 I2 (z + 84) (680 + 11 + 3 * i) (nI y)) J J := ⟨fun q hq => up2_ne (by omega), fun j _ _ => by rw [up2_ne (by omega)], fun j hj => by rw [up2_r, ur_ne _ _ (by omega)], fun _ _ => rfl⟩
    have hX3 : CxR z t W H 680 L V (up2 I2 (z + 84) (680 + 11 + 3 * i) (nI y)) := hX2.fr f2 (by rw [up2_ne (by omega)]; exact hX2.1.2.2.2)
    obtain ⟨I3, J3, e3, f3, hX4⟩ := kept_R (n := n) (u := u) (T := wtT T i y) hn hD (hW.wt (by omega) (by omega)) hv hf hc hm m 0 n (up2 I2 (z + 84) (680 + 11 + 3 * i) (nI y)) J (by omega) (by omega) hX3 (RefT.wtU hW r1 hC hi)
    have f4 := (f1.tr f2).tr f3
    have hT3 : RefT z (W * H) 0 I3 T := by
      unfold RefT at hT ⊢
      rw [show pa (I3 (z + 84)) 0 = pa (I (z + 84)) 0 from pa_congr (fun j hj => f4.2.2.1 _ (by have := plj_b hj; omega))]; exact hT
    obtain ⟨I', J', e5, f5, h5⟩ := ih (y + 1) (g + 1) I3 J3 680 (by omega) (by omega) (by omega) hX4 hT3
    rw [f_X11_keeps_L51]
    simp only [jn, bd]
    rw [g83_0, n84, idx_w0, ck_t (inb_nI (by omega) (by omega)), cl_nI (by omega), mw, nI_pl, show tw T i + (y - tw T i) = y by omega, if_neg (show ¬ (99 : Int32) < nI y by rw [show (99 : Int32) = nI 99 from rfl, nI_lt' (by omega) (by omega)]; omega), if_neg (by decide), e1, cv_some, e2, cv_some, g83_0, n84, b4, idx_w, ck_t (inb_nI (by omega) (by omega)), ck_t (inb_nI (by omega) (by omega)), cl_nI (by omega), mw2, nI_pl, show tw T i + (y - tw T i) = y by omega, sI_mk]
    unfold f_X11_isKept
    rw [show f_X11_isKept_L3 n (z + 83) (nI f) (nI c) (nI m) n (0 : Int32) (mk z (W * H) (up2 I2 (z + 84) (680 + 11 + 3 * i) (nI y)) J t u) = _ from e3, cl_some, show nI (y - tw T i) + (1 : Int32) = nI (y - tw T i + 1) from nI_pl _ 1, show y - tw T i + 1 = y + 1 - tw T i by omega, lmT]
    by_cases h : kpT W H L V (wtT T i y) f c m 0
    · refine ⟨up2 I3 (z + 83) 4 (nI 0), J3, ?_, f4.tr FrR.b, by rw [up2_at, if_pos rfl]; rfl⟩
      rw [if_neg (by rw [bD_t h]; decide), if_pos (dec_t.mpr h), more_E (by omega) (by omega)]
    · refine ⟨I', J', ?_, f4.tr f5, h5⟩
      rw [if_pos (by rw [bD_f h]), if_neg (fun w => h (dec_t.mp w)), e5]
theorem Op_keeps_ok {Q : Nat} : Op_keeps z (Rel z (TXx z) Q) := by
  intro n hn S a b e r hR
  obtain ⟨W, H, I, J, t, u, V, L, T, rfl, hD, hRI, hXC, hXR, hW, hTc, hTr⟩ := hR.op
  have hC := hD.C
  have hv6 := hXC.2.2.1
  have h24 := hW.1
  have m6 : mI (mk z (W * H) I J t u) (z + 1) 6 = nI (vn V) := hXC.2.2.2.1
  have m7 : mI (mk z (W * H) I J t u) (z + 32) 7 = nI (tk T) := hTc.1
  have k1 : I (z + 84) 1 = nI (tk T) := by have := hTr.cnt; rwa [Nat.zero_add] at this
  have no : (f_X10_keeps n z a b e r (mk z (W * H) I J t u) = some (-1, mk z (W * H) I J t u)) → (f_X11_keeps n (z + 83) a b e r (mk z (W * H) I J t u) = some (-1, mk z (W * H) I J t u)) → ∃ (x : Int32) (S1 S2 : MS), f_X10_keeps n z a b e r (mk z (W * H) I J t u) = some (x, S1) ∧ f_X11_keeps n (z + 83) a b e r S1 = some (x, S2) ∧ Rel z (TXx z) Q S2 := fun e1 e2 => ⟨_, _, _, e1, e2, Rel.cl hD hRI⟩
  by_cases c1 : ¬ a < 0 ∧ ¬ (6 : Int32) ≤ a
  rotate_left
  · refine no ?_ ?_
    · unfold f_X10_keeps; rw [s_isFarmerC, cl_some, ite_bI, if_neg c1]
    · unfold f_X11_keeps; rw [s_isFarmerR, cl_some, ite_bI, if_neg c1]
  obtain ⟨f, hf, rfl⟩ := nI_nm (N := 6) c1.1 c1.2 (by omega)
  have cm : (¬ b < 0 ∧ ¬ mI (mk z (W * H) I J t u) (z + 30) 2 ≤ b) ↔ (¬ b < 0 ∧ ¬ nI (W * H) ≤ b) := by rw [mI_mk, hXC.1.2.2.1]
  by_cases c2 : ¬ b < 0 ∧ ¬ nI (W * H) ≤ b
  rotate_left
  · refine no ?_ ?_
    · unfold f_X10_keeps; rw [s_isFarmerC, cl_some, ite_bI, if_pos c1, g0z_0, s_holds, cl_some, ite_bI, if_neg (fun w => c2 (cm.mp w))]
    · unfold f_X11_keeps; rw [s_isFarmerR, cl_some, ite_bI, if_pos c1, s_isCellR _ hXR.1.2.2.1 (by omega), cl_some, ite_bI, if_neg c2]
  obtain ⟨c, hc, rfl⟩ := nI_nm c2.1 c2.2 (by omega)
  have cb : (¬ e < 0 ∧ ¬ mI (mk z (W * H) I J t u) (z + 32) 7 ≤ e) ↔ (¬ e < 0 ∧ ¬ nI (tk T) ≤ e) := by rw [m7]
  by_cases c4 : ¬ e < 0 ∧ ¬ nI (tk T) ≤ e
  rotate_left
  · refine no ?_ ?_
    · unfold f_X10_keeps; rw [s_isFarmerC, cl_some, ite_bI, if_pos c1, g0z_0, s_holds, cl_some, ite_bI, if_pos (cm.mpr c2), g0z_1, s_isBoneC, cl_some, ite_bI, if_neg (fun w => c4 (cb.mp w))]
    · unfold f_X11_keeps; rw [s_isFarmerR, cl_some, ite_bI, if_pos c1, s_isCellR _ hXR.1.2.2.1 (by omega), cl_some, ite_bI, if_pos c2, s_isBoneR _ k1 (by omega), cl_some, ite_bI, if_neg c4]
  obtain ⟨i, hi, rfl⟩ := nI_nm c4.1 c4.2 (by omega)
  by_cases c3 : ¬ r < 1 ∧ ¬ (40 : Int32) < r
  rotate_left
  · refine no ?_ ?_
    · unfold f_X10_keeps
      rw [s_isFarmerC, cl_some, ite_bI, if_pos c1, g0z_0, s_holds, cl_some, ite_bI, if_pos (cm.mpr c2), g0z_1, s_isBoneC, cl_some, ite_bI, if_pos (cb.mpr c4)]
      by_cases d1 : r < 1
      · rw [if_pos d1]
      · rw [if_neg d1, if_pos (Classical.byContradiction fun w => c3 ⟨d1, w⟩)]
    · unfold f_X11_keeps
      rw [s_isFarmerR, cl_some, ite_bI, if_pos c1, s_isCellR _ hXR.1.2.2.1 (by omega), cl_some, ite_bI, if_pos c2, s_isBoneR _ k1 (by omega), cl_some, ite_bI, if_pos c4, s_isIn, cl_some, ite_bI, if_neg (fun w => c3 (in_r.mp w))]
  obtain ⟨m, hm, rfl⟩ := nI_nm (a := r) (N := 41) (fun w => c3.1 (by rw [i32_lt] at w ⊢; have : (1 : Int32).toInt = 1 := rfl; have : (0 : Int32).toInt = 0 := rfl; omega)) (fun w => c3.2 (by rw [i32_le, nI_t (by omega)] at w; rw [i32_lt]; have : (40 : Int32).toInt = 40 := rfl; omega)) (by omega)
  by_cases hv : vn V = 0
  · refine no ?_ ?_
    · unfold f_X10_keeps
      rw [s_isFarmerC, cl_some, ite_bI, if_pos c1, g0z_0, s_holds, cl_some, ite_bI, if_pos (cm.mpr c2), g0z_1, s_isBoneC, cl_some, ite_bI, if_pos (cb.mpr c4), if_neg c3.1, if_neg c3.2, g0z_3, if_pos (by rw [m6, hv]; rfl)]
    · unfold f_X11_keeps
      rw [s_isFarmerR, cl_some, ite_bI, if_pos c1, s_isCellR _ hXR.1.2.2.1 (by omega), cl_some, ite_bI, if_pos c2, s_isBoneR _ k1 (by omega), cl_some, ite_bI, if_pos c4, s_isIn, cl_some, ite_bI, if_pos (in_r.mpr c3), g83_0, n84, ck_t (by decide), if_pos (show mI (mk z (W * H) I J t u) (z + 84) (2 : Int32).toNatClampNeg = 0 by rw [show (2 : Int32).toNatClampNeg = 2 from rfl, mI_mk, hXR.2.2.2.1, hv]; rfl)]
  · obtain ⟨w0, w1, w2, w3⟩ := hW.2.2.1 i hi
    have mw : mI (mk z (W * H) I J t u) (z + (32 + 2)) i = nI (tw T i) := (hTc.2.2.1 i hi).2.1
    obtain ⟨I1, J1, e1, f1⟩ := more_C (n := n) (u := u) hn hD hW (by omega) hf hc (m := m) (by omega) hi (100 - tw T i) (tw T i) n I J (by omega) (Nat.le_refl _) (by omega) hXC hTc
    have hX1 := hXR.frc f1
    have hT1 := hTr.frc f1
    have k2 : I1 (z + 84) 1 = nI (tk T) := by have := hT1.cnt; rwa [Nat.zero_add] at this
    obtain ⟨I2, J2, e2, f2, h4⟩ := more_R (n := n) (u := u) hn hD hW (by omega) hf hc (m := m) (by omega) hi (100 - tw T i) (tw T i) n I1 J1 0 (by omega) (Nat.le_refl _) (by omega) hX1 hT1
    rw [Nat.sub_self] at e2
    refine ⟨lmT (fun y => kpT W H L V (wtT T i y) f c m 0) (tw T i) (100 - tw T i) (tw T i), mk z (W * H) I1 J1 t u, mk z (W * H) I2 J2 t u, ?_, ?_, Rel.cl hD (hRI.back0 f1 f2 h4)⟩
    · unfold f_X10_keeps f_X2_leastMore
      simp only [bd]
      rw [s_isFarmerC, cl_some, ite_bI, if_pos c1, g0z_0, s_holds, cl_some, ite_bI, if_pos (cm.mpr c2), g0z_1, s_isBoneC, cl_some, ite_bI, if_pos (cb.mpr c4), if_neg c3.1, if_neg c3.2, g0z_3, if_neg (by rw [m6, show (0 : Int32) = nI 0 from rfl, nI_inj (by omega) (by omega)]; exact hv), g0z_10, g46_3, gP_2 (Or.inl rfl), nP_2 (Or.inl rfl), ck_t (inb_nI (by omega) (by omega)), cl_nI (by omega), mw, e1, cl_some]
    · unfold f_X11_keeps
      rw [s_isFarmerR, cl_some, ite_bI, if_pos c1, s_isCellR _ hX1.1.2.2.1 (by omega), cl_some, ite_bI, if_pos c2, s_isBoneR _ k2 (by omega), cl_some, ite_bI, if_pos c4, s_isIn, cl_some, ite_bI, if_pos (in_r.mpr c3), g83_0, n84, ck_t (by decide), if_neg (show ¬ mI (mk z (W * H) I1 J1 t u) (z + 84) (2 : Int32).toNatClampNeg = 0 by rw [show (2 : Int32).toNatClampNeg = 2 from rfl, mI_mk, hX1.2.2.2.1, show (0 : Int32) = nI 0 from rfl, nI_inj (by omega) (by omega)]; exact hv)]
      exact e2
end KE
