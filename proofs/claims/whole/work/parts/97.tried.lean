/-! WHAT IS TRIED: contexts, copies, an hour of the plan -/
theorem TW.mono {C M M' : Nat} {T : TP} (h : TW C M T) (hM : M ≤ M') : TW C M' T := ⟨h.1, Nat.le_trans h.2.1 hM, h.2.2⟩
/-- the class tries: rows that may change -/
def FrC (z : Nat) (I I' : Nat → Nat → Int32) (J J' : Nat → Nat → Int64) : Prop := (∀ q, (q < z + 24 ∨ (z + 30 ≤ q ∧ q < z + 46) ∨ z + 83 ≤ q) → I' q = I q) ∧ (∀ q, (q < z + 46 ∨ z + 83 ≤ q) → J' q = J q)
/-- the reference tries -/
def FrR (z : Nat) (I I' : Nat → Nat → Int32) (J J' : Nat → Nat → Int64) : Prop := (∀ q, (q < z + 83 ∨ q = z + 85 ∨ q = z + 86 ∨ z + 97 ≤ q) → I' q = I q) ∧ (∀ j, j ≤ 9 → j ≠ 4 → I' (z + 83) j = I (z + 83) j) ∧ (∀ j, j < 680 → I' (z + 84) j = I (z + 84) j) ∧ (∀ q, (q < z + 83 ∨ z + 97 ≤ q) → J' q = J q)
theorem FrC.rf (z : Nat) (I : Nat → Nat → Int32) (J : Nat → Nat → Int64) : FrC z I I J J := ⟨fun _ _ => rfl, fun _ _ => rfl⟩
theorem FrC.tr {z : Nat} {I I' I2 : Nat → Nat → Int32} {J J' J2 : Nat → Nat → Int64} (h : FrC z I I' J J') (h2 : FrC z I' I2 J' J2) : FrC z I I2 J J2 := ⟨fun q a => (h2.1 q a).trans (h.1 q a), fun q a => (h2.2 q a).trans (h.2 q a)⟩
theorem FrR.rf (z : Nat) (I : Nat → Nat → Int32) (J : Nat → Nat → Int64) : FrR z I I J J := ⟨fun _ _ => rfl, fun _ _ _ => rfl, fun _ _ => rfl, fun _ _ => rfl⟩
theorem FrR.tr {z : Nat} {I I' I2 : Nat → Nat → Int32} {J J' J2 : Nat → Nat → Int64} (h : FrR z I I' J J') (h2 : FrR z I' I2 J' J2) : FrR z I I2 J J2 := ⟨fun q a => (h2.1 q a).trans (h.1 q a), fun j a b => (h2.2.1 j a b).trans (h.2.1 j a b), fun j a => (h2.2.2.1 j a).trans (h.2.2.1 j a), fun q a => (h2.2.2.2 q a).trans (h.2.2.2 q a)⟩
/-- an hour by wind v -/
noncomputable def blV (W H : Nat) (L : Option XT) (V : VT) (v : Nat) (T : TP) : TP × Nat := blT W H L (vx V v).toInt (vy V v).toInt (vs V v) T
/-- the plain behind k hours of the plan -/
noncomputable def plS (W H : Nat) (L : Option XT) (V : VT) (T : TP) : Nat → TP
  | 0 => T
  | k + 1 => (blV W H L V (vp V k) (plS W H L V T k)).1
theorem blT_th {W H : Nat} {L : Option XT} {dx dy : Int} {str : Nat} {T : TP} : th (blT W H L dx dy str T).1 = th T + 1 ∧ tk (blT W H L dx dy str T).1 = tk T ∧ ts (blT W H L dx dy str T).1 = ts T ∧ tw (blT W H L dx dy str T).1 = tw T ∧ (blT W H L dx dy str T).2 ≤ tk T := by
  have h := blS_tk (W := W) (H := H) (L := L) (dx := dx) (dy := dy) (str := str) (T := T) (tk T)
  exact ⟨congrArg (· + 1) h.2.1, h.1, h.2.2.1, h.2.2.2, blS_went _⟩
theorem plS_th {W H : Nat} {L : Option XT} {V : VT} {T : TP} : ∀ k, th (plS W H L V T k) = th T + k
  | 0 => rfl
  | k + 1 => by
    show th (blT W H L _ _ _ (plS W H L V T k)).1 = _
    rw [blT_th.1, plS_th k]; rfl
theorem plS_W {W H : Nat} {L : Option XT} {V : VT} {T : TP} (hD : dims W H) (hW : TW (W * H) 999 T) : ∀ k, k ≤ 1000 → TW (W * H) 2000 (plS W H L V T k)
  | 0, _ => hW.mono (by omega)
  | k + 1, h => by
    refine blT_W hD (plS_W hD hW k (by omega)) ?_
    rw [plS_th k]
    have := hW.2.1
    omega
section TR9
variable {n z t W H M : Nat} {I : Nat → Nat → Int32} {J : Nat → Nat → Int64} {u : Option Nat} {T : TP} {L : Option XT} {V : VT}
/-- what the class has at hand -/
def CxC (z t W H : Nat) (L : Option XT) (V : VT) (I : Nat → Nat → Int32) (J : Nat → Nat → Int64) : Prop := GeoR W H (I (z + 30)) (J (z + 30)) (J (z + 31)) ∧ LawR z t I L ∧ VC z I V
theorem CxC.fr {I' : Nat → Nat → Int32} {J' : Nat → Nat → Int64} (h : CxC z t W H L V I J) (hf : FrC z I I' J J') : CxC z t W H L V I' J' := by
  obtain ⟨h1, h2, h3⟩ := h
  refine ⟨by rw [hf.1 _ (by omega), hf.2 _ (by omega), hf.2 _ (by omega)]; exact h1, h2.congr (fun j _ => by rw [hf.1 _ (by omega)]) (by rw [hf.1 _ (by omega)]) (hf.1 _ (by omega)) (fun q hq => hf.1 q (by omega)), h3.congr (fun q a b => hf.1 q (by omega))⟩
/-- what the reference has at hand -/
def CxR (z t W H B : Nat) (L : Option XT) (V : VT) (I : Nat → Nat → Int32) : Prop := ModR z W H B I ∧ LawR z t I L ∧ VR z I V
theorem CxR.fr {B : Nat} {I' : Nat → Nat → Int32} {J' : Nat → Nat → Int64} {B' : Nat} (h : CxR z t W H B L V I) (hf : FrR z I I' J J') (hb : I' (z + 83) 4 = nI B') : CxR z t W H B' L V I' := by
  obtain ⟨⟨h1, h2, h3, -⟩, h5, h6⟩ := h
  refine ⟨⟨by rw [hf.2.1 1 (by omega) (by omega)]; exact h1, by rw [hf.2.1 2 (by omega) (by omega)]; exact h2, by rw [hf.2.1 3 (by omega) (by omega)]; exact h3, hb⟩, h5.congr (fun j _ => by rw [hf.1 _ (by omega)]) (hf.2.2.1 4 (by omega)) (hf.1 _ (by omega)) (fun q hq => hf.1 q (by omega)), h6.congr (fun j hj => hf.2.2.1 j (by omega))⟩
theorem gT0 {α : Type} {C : Nat} {F : Nat → Option α} : gR (mk z C I J t u) (mR (mk z C I J t u) (z + 47) (0 : Int32).toNatClampNeg) 3 F = F (z + 48) := gTried (Or.inl rfl)
theorem isP48 : isP 48 := Or.inr (Or.inr (Or.inl rfl))
theorem s_copy0 (hC : W * H ≤ 48) {o o' : Nat} (ho : isP o) (ho' : isP o') (hne : o ≠ o') (h48 : 48 ≤ o) (hT : ClsT z (W * H) o' I J T) (h24 : tk T ≤ 24) : ∃ I' J', f_X3_copyFrom n (z + o) (z + o') (mk z (W * H) I J t u) = some (mk z (W * H) I' J' t u) ∧ FrC z I I' J J' ∧ ClsT z (W * H) o I' J' T ∧ (∀ q, q < z + o ∨ z + o + 7 ≤ q → I' q = I q) ∧ (∀ q, q ≠ z + o → J' q = J q) := by
  have ho2 := isP_ge ho
  obtain ⟨Ia, Ja, e1, e2, e3, e4, e5, e6, e7, e8, e9, e10, e11, e12⟩ := s_copyP (n := n) (z := z) (I := I) (J := J) (t := t) (u := u) hC ho ho' hne
  refine ⟨Ia, Ja, e1, ⟨fun q hq => e2 q (by omega), fun q hq => e3 q (by omega)⟩, ?_, e2, e3⟩
  obtain ⟨a1, a2, a3, a4, a5, a6, a7⟩ := hT
  refine ⟨e4.trans a1, e5.trans a2, fun i hi => ?_, fun f hf => (e10 f hf).trans (a4 f hf), fun c hc => (e12 c hc).trans (a5 c hc), fun c => ?_, fun c => ?_⟩
  · obtain ⟨b1, b2, b3⟩ := a3 i hi
    exact ⟨(e7 i (by omega)).trans b1, (e8 i (by omega)).trans b2, (e9 i (by omega)).trans b3⟩
  · rw [e6 10 (Or.inr (Or.inl rfl))]; exact a6 c
  · rw [e6 11 (Or.inr (Or.inr rfl))]; exact a7 c
theorem SbW.frc {o : Nat} {I' : Nat → Nat → Int32} {J' : Nat → Nat → Int64} (ho : isP o) (h48 : 48 ≤ o) (h : SbW z o I I' J J') : FrC z I I' J J' := ⟨fun q hq => h.1 q (by have := isP_ge ho; omega), fun q hq => h.2.1 q (by have := isP_ge ho; omega)⟩
/-- the class: an hour of the plan over the plain tried -/
theorem s_goOn (hn : 100000 ≤ n) (hD : dims W H) (hX : CxC z t W H L V I J) (hW : TW (W * H) 2000 T) (hT : ClsT z (W * H) 48 I J T) {k : Nat} (hk : k < 40) (hv : 0 < vn V) :
    ∃ I' J', f_X2_goOn n (z + 46) (nI k) (mk z (W * H) I J t u) = some (nI (blV W H L V (vp V k) T).2, mk z (W * H) I' J' t u) ∧ ClsT z (W * H) 48 I' J' (blV W H L V (vp V k) T).1 ∧ FrC z I I' J J' := by
  obtain ⟨hG, hL, hV⟩ := hX
  obtain ⟨p1, p2, p3⟩ := hV.2.2.2 k hk
  have hv6 := hV.1
  have hpv : vp V k < vn V := by omega
  obtain ⟨I', J', e, r1, r2⟩ := s_blowC (n := n) (u := u) hn (by omega) hD hG isP48 hW hT hL (hV.2.2.1 _ hpv).1
  refine ⟨I', J', ?_, r1, r2.frc isP48 (by omega)⟩
  have mp : mI (mk z (W * H) I J t u) (z + 6) k = nI (vp V k) := p1
  unfold f_X2_goOn
  rw [g46_4, g46_4, g1_4, n6, ck_t (inb_nI hk (by omega)), cl_nI (by omega), mp, s_isWindC, cl_some, ite_bI, if_pos (show ¬ nI (vp V k) < 0 ∧ ¬ mI (mk z (W * H) I J t u) (z + 1) 6 ≤ nI (vp V k) by
    rw [mI_mk, hV.2.1]
    exact ⟨nI_pos (by omega), by rw [nI_le' (by omega) (by omega)]; omega⟩), g46_5, g46_6, n47, ck_t (by decide), gT0, g46_4, g1_4, n6, ck_t (inb_nI hk (by omega)), mp, e, cl_some]
  rfl
/-- the reference: tries(r) -/
theorem s_tries {r : Nat} : f_X11_tries n (z + 83) (nI r) (mk z (W * H) I J t u) = some (mk z (W * H) (up2 I (z + 83) 4 (nI (340 * r))) J t u) := by
  unfold f_X11_tries
  simp only [bd]
  rw [sI_mk, show (340 : Int32) * nI r = nI (340 * r) from nI_ml 340 r]
theorem FrR.b {v : Int32} : FrR z I (up2 I (z + 83) 4 v) J J := ⟨fun q hq => up2_ne (by omega), fun j a b => by rw [up2_at, if_neg b], fun j a => by rw [up2_ne (by omega)], fun _ _ => rfl⟩
/-- copy(f, g) -/
theorem s_copyRT (hn : 100000 ≤ n) {f g : Nat} (hf : f ≤ 7) (hg : g ≤ 7) (h2 : 2 ≤ g) (hfg : f ≠ g) (hT : RefT z (W * H) (340 * f) I T) : ∃ I', f_X11_copy n (z + 83) (nI f) (nI g) (mk z (W * H) I J t u) = some (mk z (W * H) I' J t u) ∧ FrR z I I' J J ∧ RefT z (W * H) (340 * g) I' T ∧ I' (z + 83) = I (z + 83) ∧ ∀ w, w ≠ g → ∀ T2, RefT z (W * H) (340 * w) I T2 → RefT z (W * H) (340 * w) I' T2 := by
  refine ⟨_, s_copyR hn hf hg hfg, ⟨fun q hq => upr_ne (by omega), fun j _ _ => by rw [upr_ne (by omega)], fun j hj => ?_, fun _ _ => rfl⟩, ?_, upr_ne (by omega), fun w hw T2 h => ?_⟩
  · rw [upr_at]
    unfold cpR
    rw [if_neg (by omega)]
  · unfold RefT
    rw [upr_at, pa_cp]; exact hT
  · unfold RefT
    rw [upr_at, pa_cpo hw]; exact h
/-- the reference begins to try: its row 2 -/
theorem s_tryR (hn : 100000 ≤ n) {B0 : Nat} (hX : CxR z t W H B0 L V I) (hT : RefT z (W * H) 0 I T) : ∃ I' I2, f_X11_copy n (z + 83) (0 : Int32) (2 : Int32) (mk z (W * H) I J t u) = some (mk z (W * H) I2 J t u) ∧ f_X11_tries n (z + 83) (2 : Int32) (mk z (W * H) I2 J t u) = some (mk z (W * H) I' J t u) ∧ FrR z I I' J J ∧ RefT z (W * H) 680 I' T ∧ RefT z (W * H) 0 I' T ∧ CxR z t W H 680 L V I' := by
  obtain ⟨I2, e1, f1, r1, r2, r3⟩ := s_copyRT (n := n) (J := J) (t := t) (u := u) hn (f := 0) (g := 2) (by omega) (by omega) (by omega) (by omega) (T := T) hT
  have hf : FrR z I (up2 I2 (z + 83) 4 (nI 680)) J J := f1.tr FrR.b
  refine ⟨up2 I2 (z + 83) 4 (nI 680), I2, e1, s_tries (r := 2), hf, ?_, ?_, hX.fr hf (by rw [up2_at, if_pos rfl])⟩
  · unfold RefT; rw [up2_ne (by omega)]; exact r1
  · unfold RefT; rw [up2_ne (by omega)]; exact r3 0 (by omega) T hT
theorem SgB.frr {B : Nat} {I' : Nat → Nat → Int32} {J' : Nat → Nat → Int64} (hB : 680 ≤ B) (h : SgB z B I I' J J') : FrR z I I' J J' := ⟨fun q hq => h.1 q (by omega), fun j _ _ => by rw [h.1 (z + 83) (by omega)], fun j hj => h.2.2.1 j (Or.inl (by omega)), fun q hq => h.2.1 q (by omega)⟩
/-- the reference: an hour by wind v over the row tried -/
theorem s_blowT (hn : 100000 ≤ n) (hD : dims W H) {B : Nat} (hB : B ≤ 2380) (hB2 : 680 ≤ B) (hX : CxR z t W H B L V I) (hW : TW (W * H) 2000 T) (hT : RefT z (W * H) B I T) {v : Nat} (hv : v < vn V) :
    ∃ I' J', f_X11_blow n (z + 83) (nI v) (mk z (W * H) I J t u) = some (nI (blV W H L V v T).2, mk z (W * H) I' J' t u) ∧ RefT z (W * H) B I' (blV W H L V v T).1 ∧ SgB z B I I' J J' ∧ CxR z t W H B L V I' := by
  obtain ⟨hM, hL, hV⟩ := hX
  obtain ⟨I', J', e, r1, r2⟩ := s_blowR (n := n) (J := J) (u := u) hn (by omega) hD hM hB (Or.inr (by omega)) hW hT hL (hV.2.2.1 v hv).1
  exact ⟨I', J', e, r1, r2, CxR.fr ⟨hM, hL, hV⟩ (r2.frr hB2) (by rw [r2.1 (z + 83) (by omega)]; exact hM.2.2.2)⟩
/-- back to what is, and the relation holds -/
theorem RelI.back0 {Q : Nat} {I1 I2 : Nat → Nat → Int32} {J1 J2 : Nat → Nat → Int64} (h : RelI z (TXx z) Q W H I J t) (hc : FrC z I I1 J J1) (hr : FrR z I1 I2 J1 J2) (h4 : I2 (z + 83) 4 = 0) : RelI z (TXx z) Q W H I2 J2 t := by
  refine h.scr (TXx_ok z) (fun q hq => ?_) (fun j hj => ?_) (fun j hj => ?_) (fun q hq => ?_)
  · rw [hr.1 q (by omega), hc.1 q (by omega)]
  · by_cases h4' : j = 4
    · subst h4'; rw [h4]; exact h.2.1.2.2.2.symm
    · rw [hr.2.1 j hj h4', hc.1 _ (by omega)]
  · rw [hr.2.2.1 j hj, hc.1 _ (by omega)]
  · rw [hr.2.2.2 q (by omega), hc.2 q (by omega)]
end TR9
/-! CALM, DISPUTES -/
section CD
variable {n z t W H M : Nat} {u : Option Nat} {T : TP} {L : Option XT} {V : VT}
noncomputable def went (W H : Nat) (L : Option XT) (V : VT) (T : TP) (k : Nat) : Nat := (blV W H L V (vp V k) (plS W H L V T k)).2
/-- the first hour from k on, below 40, in which some bone goes; d: what is left -/
noncomputable def clmN (W H : Nat) (L : Option XT) (V : VT) (T : TP) : Nat → Nat → Nat
  | 0, k => k
  | d + 1, k => if went W H L V T k = 0 then clmN W H L V T d (k + 1) else k
theorem clmN_le {T : TP} : ∀ d k, clmN W H L V T d k ≤ k + d
  | 0, k => Nat.le_refl _
  | d + 1, k => by
    unfold clmN
    split
    · have := clmN_le (T := T) d (k + 1); omega
    · omega
theorem calm_C (hn : 100000 ≤ n) (hD : dims W H) (hW : TW (W * H) 999 T) (hv : 0 < vn V) : ∀ (d k f : Nat) (I : Nat → Nat → Int32) (J : Nat → Nat → Int64), k + d = 40 → d < f → CxC z t W H L V I J → ClsT z (W * H) 48 I J (plS W H L V T k) → ∃ I' J', f_X2_calmHours_L15 n (z + 46) f (nI k) (mk z (W * H) I J t u) = some (nI (clmN W H L V T d k), mk z (W * H) I' J' t u) ∧ FrC z I I' J J' := by
  intro d
  induction d with
  | zero =>
    intro k f I J hk hf hX hT
    obtain ⟨f, rfl⟩ : ∃ m, f = m + 1 := ⟨f - 1, by omega⟩
    obtain rfl : k = 40 := by omega
    refine ⟨I, J, ?_, FrC.rf z I J⟩
    rw [f_X2_calmHours_L15]
    simp only [jn]
    rw [if_pos (by decide)]
    rfl
  | succ d ih =>
    intro k f I J hk hf hX hT
    obtain ⟨f, rfl⟩ : ∃ m, f = m + 1 := ⟨f - 1, by omega⟩
    have hWk := plS_W (L := L) (V := V) hD hW k (by omega)
    obtain ⟨I1, J1, e1, r1, r2⟩ := s_goOn (n := n) (u := u) hn hD hX hWk hT (k := k) (by omega) hv
    have hwl : (blV W H L V (vp V k) (plS W H L V T k)).2 ≤ tk (plS W H L V T k) := blT_th.2.2.2.2
    have := hWk.1
    rw [f_X2_calmHours_L15]
    simp only [jn, bd]
    rw [if_neg (show ¬ (40 : Int32) ≤ nI k by rw [show (40 : Int32) = nI 40 from rfl, nI_le' (by omega) (by omega)]; omega), e1, cl_some, show nI k + (1 : Int32) = nI (k + 1) from nI_pl k 1, clmN]
    by_cases h0 : (blV W H L V (vp V k) (plS W H L V T k)).2 = 0
    · rw [if_pos (show nI (blV W H L V (vp V k) (plS W H L V T k)).2 ≤ 0 by rw [h0]; decide), if_pos (show went W H L V T k = 0 from h0)]
      obtain ⟨I', J', e2, r3⟩ := ih (k + 1) f I1 J1 (by omega) (by omega) (hX.fr r2) r1
      exact ⟨I', J', e2, r2.tr r3⟩
    · rw [if_neg (show ¬ nI (blV W H L V (vp V k) (plS W H L V T k)).2 ≤ 0 by rw [show (0 : Int32) = nI 0 from rfl, nI_le' (by omega) (by omega)]; omega), if_neg (show ¬ went W H L V T k = 0 from h0)]
      exact ⟨I1, J1, rfl, r2⟩
theorem calm_R (hn : 100000 ≤ n) (hD : dims W H) (hW : TW (W * H) 999 T) (hv : 0 < vn V) : ∀ (d k f : Nat) (I : Nat → Nat → Int32) (J : Nat → Nat → Int64), k + d = 40 → d < f → CxR z t W H 680 L V I → RefT z (W * H) 680 I (plS W H L V T k) → ∃ I' J', f_X11_calm_L24 n (z + 83) f (nI k) (mk z (W * H) I J t u) = some (nI (clmN W H L V T d k), mk z (W * H) I' J' t u) ∧ FrR z I I' J J' ∧ I' (z + 83) 4 = 0 := by
  intro d
  induction d with
  | zero =>
    intro k f I J hk hf hX hT
    obtain ⟨f, rfl⟩ : ∃ m, f = m + 1 := ⟨f - 1, by omega⟩
    obtain rfl : k = 40 := by omega
    refine ⟨up2 I (z + 83) 4 (nI 0), J, ?_, FrR.b, by rw [up2_at, if_pos rfl]; rfl⟩
    rw [f_X11_calm_L24]
    simp only [jn]
    rw [if_pos (by decide), show (0 : Int32) = nI 0 from rfl, s_tries, cv_some]
    rfl
  | succ d ih =>
    intro k f I J hk hf hX hT
    obtain ⟨f, rfl⟩ : ∃ m, f = m + 1 := ⟨f - 1, by omega⟩
    have hWk := plS_W (L := L) (V := V) hD hW k (by omega)
    obtain ⟨p1, p2, p3⟩ := hX.2.2.2.2.2 k (by omega)
    have hv6 := hX.2.2.1
    obtain ⟨I1, J1, e1, r1, r2, r3⟩ := s_blowT (n := n) (J := J) (u := u) hn hD (by omega) (by omega) hX hWk hT (v := vp V k) (by omega)
    have hwl : (blV W H L V (vp V k) (plS W H L V T k)).2 ≤ tk (plS W H L V T k) := blT_th.2.2.2.2
    have := hWk.1
    rw [f_X11_calm_L24]
    simp only [jn, bd]
    rw [if_neg (show ¬ (40 : Int32) ≤ nI k by rw [show (40 : Int32) = nI 40 from rfl, nI_le' (by omega) (by omega)]; omega), g83_0, n84, show (125 : Int32) + nI k = nI (125 + k) from nI_pl 125 k, ck_t (inb_nI (by omega) (by omega)), cl_nI (by omega), mI_mk, p1, e1, cl_some, show nI k + (1 : Int32) = nI (k + 1) from nI_pl k 1, clmN]
    by_cases h0 : (blV W H L V (vp V k) (plS W H L V T k)).2 = 0
    · rw [if_pos (show nI (blV W H L V (vp V k) (plS W H L V T k)).2 = 0 by rw [h0]; rfl), if_pos (show went W H L V T k = 0 from h0)]
      obtain ⟨I', J', e2, r4, r5⟩ := ih (k + 1) f I1 J1 (by omega) (by omega) r3 r1
      exact ⟨I', J', e2, (r2.frr (by omega)).tr r4, r5⟩
    · rw [if_neg (show ¬ nI (blV W H L V (vp V k) (plS W H L V T k)).2 = 0 by rw [show (0 : Int32) = nI 0 from rfl, nI_inj (by omega) (by omega)]; omega), if_neg (show ¬ went W H L V T k = 0 from h0), show (0 : Int32) = nI 0 from rfl, s_tries, cv_some]
      exact ⟨_, J1, rfl, (r2.frr (by omega)).tr FrR.b, by rw [up2_at, if_pos rfl]⟩
theorem Op_calm_ok {Q : Nat} : Op_calm z (Rel z (TXx z) Q) := by
  intro n hn S hR
  obtain ⟨W, H, I, J, t, u, w1, w2, w3, w4, rfl, hRI⟩ := hR
  have hD : dims W H := ⟨w1, w2, w3, w4⟩
  have hC := hD.C
  obtain ⟨hG, hM4, hTa, hF, hT1, hT8, hP1, hP2, -⟩ := id hRI
  have hM := hRI.mod
  obtain ⟨V, hVC, hVR⟩ := hRI.winds
  obtain ⟨L, hL⟩ := hRI.law
  obtain ⟨T, hW, hTc, hTr⟩ := PlainR.out hP1 hC
  have hTc : ClsT z (W * H) 32 I J T := hTc
  have hTr : RefT z (W * H) 0 I T := hTr
  have hv6 := hVC.1
  have m6 : mI (mk z (W * H) I J t u) (z + 1) 6 = nI (vn V) := hVC.2.1
  by_cases hv : vn V = 0
  · refine ⟨-1, mk z (W * H) I J t u, _, ?_, ?_, W, H, I, J, t, u, w1, w2, w3, w4, rfl, hRI⟩
    · unfold f_X10_calm
      rw [g0z_3, if_pos (by rw [m6, hv]; rfl)]
    · unfold f_X11_calm
      rw [g83_0, n84, ck_t (by decide), if_pos (show mI (mk z (W * H) I J t u) (z + 84) (2 : Int32).toNatClampNeg = 0 by rw [show (2 : Int32).toNatClampNeg = 2 from rfl, mI_mk, hVR.2.1, hv]; rfl)]
  · obtain ⟨I1, J1, e1, f1, r1, -⟩ := s_copy0 (n := n) (t := t) (u := u) hC isP48 (Or.inl rfl) (by omega) (by omega) hTc hW.1
    obtain ⟨I2, J2, e2, f2⟩ := calm_C (n := n) (u := u) hn hD hW (by omega) 40 0 n I1 J1 rfl (by omega) (CxC.fr ⟨hG, hL, hVC⟩ f1) r1
    have fc := f1.tr f2
    have hX2 : CxR z t W H 0 L V I2 := ⟨by unfold ModR; rw [fc.1 _ (by omega)]; exact hM, hL.congr (fun j _ => by rw [fc.1 _ (by omega)]) (by rw [fc.1 _ (by omega)]) (fc.1 _ (by omega)) (fun q hq => fc.1 q (by omega)), hVR.congr (fun j _ => by rw [fc.1 _ (by omega)])⟩
    obtain ⟨I4, I3, e3, e4, f3, r3, -, hX4⟩ := s_tryR (n := n) (J := J2) (u := u) hn hX2 (T := T) (by unfold RefT; rw [fc.1 _ (by omega)]; exact hTr)
    obtain ⟨I5, J5, e5, f5, h4⟩ := calm_R (n := n) (u := u) hn hD hW (by omega) 40 0 n I4 J2 rfl (by omega) hX4 r3
    refine ⟨nI (clmN W H L V T 40 0), mk z (W * H) I2 J2 t u, mk z (W * H) I5 J5 t u, ?_, ?_, W, H, I5, J5, t, u, w1, w2, w3, w4, rfl, hRI.back0 fc (f3.tr f5) h4⟩
    · unfold f_X10_calm f_X2_calmHours
      rw [g0z_3, if_neg (by rw [m6, show (0 : Int32) = nI 0 from rfl, nI_inj (by omega) (by omega)]; exact hv), g0z_10, g46_6, n47, ck_t (by decide), gT0, g46_3, e1, cv_some, show (0 : Int32) = nI 0 from rfl, e2, cl_some]
    · unfold f_X11_calm
      rw [g83_0, n84, ck_t (by decide), if_neg (show ¬ mI (mk z (W * H) I2 J2 t u) (z + 84) (2 : Int32).toNatClampNeg = 0 by rw [show (2 : Int32).toNatClampNeg = 2 from rfl, mI_mk, hX2.2.2.2.1, show (0 : Int32) = nI 0 from rfl, nI_inj (by omega) (by omega)]; exact hv), e3, cv_some, e4, cv_some, show (0 : Int32) = nI 0 from rfl, e5]
end CD
