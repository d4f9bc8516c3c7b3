/-! HOURS keeps the relation -/
section HO
variable {n z t W H M : Nat} {u : Option Nat} {T : TP} {L : Option XT} {V : VT}
theorem nI_tB {c : Nat} (h : c < 2000000000) : (nI c).toInt = (c : Int) := nI_toInt (by omega)
theorem nI_dvB {c w : Nat} (hc : c < 2000000000) (h0 : 0 < w) (hw : w < 1000000) : nI c / nI w = nI (c / w) := by
  have hq : c / w ≤ c := Nat.div_le_self _ _
  rw [i32_eq, Int32.toInt_div, nI_tB hc, nI_t hw, nI_tB (by omega), ← Int.ofNat_tdiv]
  generalize c / w = q at hq ⊢
  simp only [Int.bmod]
  omega
theorem nI_mdB {c w : Nat} (hc : c < 2000000000) (h0 : 0 < w) (hw : w < 1000000) : nI c - nI c / nI w * nI w = nI (c % w) := by
  rw [nI_dvB hc h0 hw, nI_ml, nI_sb (Nat.div_mul_le_self c w)]
  congr 1
  have := Nat.div_add_mod c w
  rw [Nat.mul_comm] at this
  omega
theorem TW.low {C M' : Nat} (h : TW C M T) (hh : th T ≤ M') : TW C M' T := ⟨h.1, hh, h.2.2⟩
/-- the chances of the first k winds -/
def smC (V : VT) : Nat → Nat
  | 0 => 0
  | k + 1 => smC V k + vc V k
/-- the wind of a lot -/
def ltV (V : VT) (x : Nat) : Nat → Nat → Nat
  | 0, _ => 0
  | d + 1, v => if smC V (v + 1) ≤ x then ltV V x d (v + 1) else v
theorem smC_le (h : ∀ i, i < vn V → vc V i < 10) : ∀ k, k ≤ vn V → smC V k ≤ 10 * k
  | 0, _ => Nat.zero_le _
  | k + 1, hk => by
    have := smC_le h k (by omega)
    have := h k (by omega)
    rw [smC]; omega
theorem ltV_lt {x : Nat} (h0 : 0 < vn V) : ∀ d v, v + d = vn V → ltV V x d v < vn V
  | 0, _, _ => h0
  | d + 1, v, h => by
    rw [ltV]
    split
    · exact ltV_lt h0 d (v + 1) (by omega)
    · omega
theorem idx_c (i : Nat) : ((100 : Int32) + ((4 : Int32) * nI i)) + (3 : Int32) = nI (103 + 4 * i) := by
  rw [show (4 : Int32) * nI i = nI (4 * i) from nI_ml 4 i, show (100 : Int32) + nI (4 * i) = nI (100 + 4 * i) from nI_pl 100 _, show nI (100 + 4 * i) + (3 : Int32) = nI (100 + 4 * i + 3) from nI_pl _ 3]
  congr 1; omega
theorem all_L {I : Nat → Nat → Int32} {J : Nat → Nat → Int64} (hV : VC z I V) : ∀ (d v g : Nat), v + d = vn V → d < g → f_X8_allChances_L4 n (z + 1) g (nI (smC V v)) (nI v) (mk z (W * H) I J t u) = some (nI (smC V (vn V)), mk z (W * H) I J t u) := by
  have hv6 := hV.1
  have m6 : mI (mk z (W * H) I J t u) (z + 1) 6 = nI (vn V) := hV.2.1
  intro d
  induction d with
  | zero =>
    intro v g hv hg
    obtain ⟨g, rfl⟩ : ∃ m, g = m + 1 := ⟨g - 1, by omega⟩
    obtain rfl : v = vn V := by omega
    rw [f_X8_allChances_L4]
    simp only [jn]
    rw [m6, if_pos ((nI_le' (by omega) (by omega)).mpr (Nat.le_refl _))]
  | succ d ih =>
    intro v g hv hg
    obtain ⟨g, rfl⟩ : ∃ m, g = m + 1 := ⟨g - 1, by omega⟩
    have mc : mI (mk z (W * H) I J t u) (z + 5) v = nI (vc V v) := (hV.2.2.1 v (by omega)).2.1
    have e := ih (v + 1) g (by omega) (by omega)
    rw [smC] at e
    rw [f_X8_allChances_L4]
    simp only [jn, bd]
    rw [m6, if_neg (show ¬ nI (vn V) ≤ nI v by rw [nI_le' (by omega) (by omega)]; omega), g1_3, n5, ck_t (inb_nI (by omega) (by omega)), cl_nI (by omega), mc, nI_pl, show nI v + (1 : Int32) = nI (v + 1) from nI_pl v 1, e]
theorem all_C {I : Nat → Nat → Int32} {J : Nat → Nat → Int64} (hn : 100000 ≤ n) (hV : VC z I V) : f_X8_allChances n (z + 1) (mk z (W * H) I J t u) = some (nI (smC V (vn V)), mk z (W * H) I J t u) := all_L hV (vn V) 0 n (by omega) (by have := hV.1; omega)
theorem chs_L {I : Nat → Nat → Int32} {J : Nat → Nat → Int64} (hV : VR z I V) : ∀ (d v g : Nat), v + d = vn V → d < g → f_X11_chances_L4 n (z + 83) g (nI (smC V v)) (nI v) (mk z (W * H) I J t u) = some (nI (smC V (vn V)), mk z (W * H) I J t u) := by
  have hv6 := hV.1
  have m2 : mI (mk z (W * H) I J t u) (z + 84) (2 : Int32).toNatClampNeg = nI (vn V) := hV.2.1
  intro d
  induction d with
  | zero =>
    intro v g hv hg
    obtain ⟨g, rfl⟩ : ∃ m, g = m + 1 := ⟨g - 1, by omega⟩
    obtain rfl : v = vn V := by omega
    rw [f_X11_chances_L4]
    simp only [jn]
    rw [g83_0, n84, ck_t (by decide), m2, if_pos ((nI_le' (by omega) (by omega)).mpr (Nat.le_refl _))]
  | succ d ih =>
    intro v g hv hg
    obtain ⟨g, rfl⟩ : ∃ m, g = m + 1 := ⟨g - 1, by omega⟩
    have mc : mI (mk z (W * H) I J t u) (z + 84) (103 + 4 * v) = nI (vc V v) := (hV.2.2.1 v (by omega)).2.1
    have e := ih (v + 1) g (by omega) (by omega)
    rw [smC] at e
    rw [f_X11_chances_L4]
    simp only [jn, bd]
    rw [g83_0, n84, ck_t (by decide), m2, if_neg (show ¬ nI (vn V) ≤ nI v by rw [nI_le' (by omega) (by omega)]; omega), g83_0, n84, idx_c, ck_t (inb_nI (by omega) (by omega)), cl_nI (by omega), mc, nI_pl, show nI v + (1 : Int32) = nI (v + 1) from nI_pl v 1, e]
theorem chs_R {I : Nat → Nat → Int32} {J : Nat → Nat → Int64} (hn : 100000 ≤ n) (hV : VR z I V) : f_X11_chances n (z + 83) (mk z (W * H) I J t u) = some (nI (smC V (vn V)), mk z (W * H) I J t u) := chs_L hV (vn V) 0 n (by omega) (by have := hV.1; omega)
theorem wat_L {I : Nat → Nat → Int32} {J : Nat → Nat → Int64} (hV : VC z I V) {x : Nat} (hx : x < 1000000) : ∀ (d v g : Nat), v + d = vn V → d < g → f_X8_windAt_L4 n (z + 1) (nI x) g (nI (smC V v)) (nI v) (mk z (W * H) I J t u) = some (nI (ltV V x d v), mk z (W * H) I J t u) := by
  have hv6 := hV.1
  have m6 : mI (mk z (W * H) I J t u) (z + 1) 6 = nI (vn V) := hV.2.1
  have hsm := smC_le (V := V) (fun i hi => (hV.2.2.1 i hi).2.2)
  intro d
  induction d with
  | zero =>
    intro v g hv hg
    obtain ⟨g, rfl⟩ : ∃ m, g = m + 1 := ⟨g - 1, by omega⟩
    obtain rfl : v = vn V := by omega
    rw [f_X8_windAt_L4]
    simp only [jn]
    rw [m6, if_pos ((nI_le' (by omega) (by omega)).mpr (Nat.le_refl _))]
    rfl
  | succ d ih =>
    intro v g hv hg
    obtain ⟨g, rfl⟩ : ∃ m, g = m + 1 := ⟨g - 1, by omega⟩
    have mc : mI (mk z (W * H) I J t u) (z + 5) v = nI (vc V v) := (hV.2.2.1 v (by omega)).2.1
    have e := ih (v + 1) g (by omega) (by omega)
    have hs1 := hsm (v + 1) (by omega)
    rw [f_X8_windAt_L4]
    simp only [jn, bd]
    rw [m6, if_neg (show ¬ nI (vn V) ≤ nI v by rw [nI_le' (by omega) (by omega)]; omega), g1_3, n5, ck_t (inb_nI (by omega) (by omega)), cl_nI (by omega), mc, nI_pl, show nI v + (1 : Int32) = nI (v + 1) from nI_pl v 1, show smC V v + vc V v = smC V (v + 1) from rfl, e, ltV]
    by_cases h : smC V (v + 1) ≤ x
    · rw [if_pos ((nI_le' (by omega) (by omega)).mpr h), if_pos h]
    · rw [if_neg (fun w => h ((nI_le' (by omega) (by omega)).mp w)), if_neg h]
theorem wat_C {I : Nat → Nat → Int32} {J : Nat → Nat → Int64} (hn : 100000 ≤ n) (hV : VC z I V) {x : Nat} (hx : x < 1000000) : f_X8_windAt n (z + 1) (nI x) (mk z (W * H) I J t u) = some (nI (ltV V x (vn V) 0), mk z (W * H) I J t u) := wat_L hV hx (vn V) 0 n (by omega) (by have := hV.1; omega)
theorem drw_L {I : Nat → Nat → Int32} {J : Nat → Nat → Int64} (hV : VR z I V) {x : Nat} (hx : x < smC V (vn V)) : ∀ (d v g : Nat), v + d = vn V → d < g → smC V v ≤ x → f_X11_drawnWind_L4 n (z + 83) g (nI (x - smC V v)) (nI v) (mk z (W * H) I J t u) = some (nI (ltV V x d v), mk z (W * H) I J t u) := by
  have hv6 := hV.1
  have hsm := smC_le (V := V) (fun i hi => (hV.2.2.1 i hi).2.2)
  have hsv := hsm (vn V) (Nat.le_refl _)
  intro d
  induction d with
  | zero =>
    intro v g hv hg h1
    obtain rfl : v = vn V := by omega
    omega
  | succ d ih =>
    intro v g hv hg h1
    obtain ⟨g, rfl⟩ : ∃ m, g = m + 1 := ⟨g - 1, by omega⟩
    obtain ⟨-, mc', hc10⟩ := hV.2.2.1 v (by omega)
    have mc : mI (mk z (W * H) I J t u) (z + 84) (103 + 4 * v) = nI (vc V v) := mc'
    have es : smC V (v + 1) = smC V v + vc V v := rfl
    rw [f_X11_drawnWind_L4]
    simp only [jn, bd]
    rw [g83_0, n84, idx_c, ck_t (inb_nI (by omega) (by omega)), cl_nI (by omega), mc, g83_0, n84, ck_t (inb_nI (by omega) (by omega)), mc, show nI v + (1 : Int32) = nI (v + 1) from nI_pl v 1, ltV]
    by_cases h : smC V (v + 1) ≤ x
    · have e := ih (v + 1) g (by omega) (by omega) h
      rw [if_neg (show ¬ nI (x - smC V v) < nI (vc V v) by rw [nI_lt' (by omega) (by omega)]; omega), if_pos h, nI_sb (by omega), show x - smC V v - vc V v = x - smC V (v + 1) by omega, e]
    · rw [if_pos ((nI_lt' (by omega) (by omega)).mpr (by omega)), if_neg h]
theorem drw_R {I : Nat → Nat → Int32} {J : Nat → Nat → Int64} (hn : 100000 ≤ n) (hV : VR z I V) {x : Nat} (hx : x < smC V (vn V)) : f_X11_drawnWind n (z + 83) (nI x) (mk z (W * H) I J t u) = some (nI (ltV V x (vn V) 0), mk z (W * H) I J t u) := drw_L hV hx (vn V) 0 n (by omega) (by have := hV.1; omega) (Nat.zero_le _)
/-- the numbers drawn -/
def xqS (x : Nat) : Nat → Nat
  | 0 => x
  | k + 1 => (xqS x k * 179 + 41) % 30103
theorem xqS_lt {x : Nat} (h : x < 30103) : ∀ k, xqS x k < 30103
  | 0 => h
  | _ + 1 => Nat.mod_lt _ (by decide)
/-- the winds with the drawn ones as their plan -/
def drV (V : VT) (x : Nat) : VT := (vn V, vx V, vy V, vs V, vc V, fun k => ltV V (xqS x k % smC V (vn V)) (vn V) 0)
noncomputable def wnS (W H : Nat) (L : Option XT) (V : VT) (T : TP) : Nat → Nat
  | 0 => 0
  | k + 1 => wnS W H L V T k + (blV W H L V (vp V k) (plS W H L V T k)).2
theorem CxC.sbw {I I' : Nat → Nat → Int32} {J J' : Nat → Nat → Int64} (h : CxC z t W H L V I J) (k : SbW z 32 I I' J J') : CxC z t W H L V I' J' :=
  ⟨by rw [k.1 (z + 30) (by omega), k.2.1 (z + 30) (by omega), k.2.1 (z + 31) (by omega)]; exact h.1, h.2.1.sbw (Or.inl rfl) k, h.2.2.congr (fun q _ _ => k.1 q (by omega))⟩
theorem CxR.sgb {I I' : Nat → Nat → Int32} {J J' : Nat → Nat → Int64} (h : CxR z t W H 0 L V I) (k : SgB z 0 I I' J J') : CxR z t W H 0 L V I' :=
  ⟨k.mod h.1, k.law (Or.inl rfl) h.2.1, h.2.2.congr (fun j hj => by
    rcases hj with rfl | hj
    · exact k.2.2.out (Or.inl rfl) (by decide) (by omega)
    · exact k.2.2.out (Or.inl rfl) (plj_w (by omega) (by omega)) (by omega))⟩
theorem CxR.sbw {I I' : Nat → Nat → Int32} {J J' : Nat → Nat → Int64} {B : Nat} (h : CxR z t W H B L V I) (k : SbW z 32 I I' J J') : CxR z t W H B L V I' :=
  ⟨h.1.sbw (Or.inl rfl) k, h.2.1.sbw (Or.inl rfl) k, h.2.2.congr (fun j _ => by rw [k.1 (z + 84) (by omega)])⟩
theorem hrs_C (hn : 100000 ≤ n) (hD : dims W H) (hW : TW (W * H) 999 T) (hs : 0 < smC V (vn V)) (hv : 0 < vn V) {m x : Nat} (hm : m ≤ 40) (hx : x < 30103) : ∀ (d k g : Nat) (I : Nat → Nat → Int32) (J : Nat → Nat → Int64), k + d = m → d < g → CxC z t W H L V I J → ClsT z (W * H) 32 I J (plS W H L (drV V x) T k) → ∃ I' J', f_X10_hours_L65 n z (nI m) (nI (smC V (vn V))) g (nI (xqS x k)) (nI (wnS W H L (drV V x) T k)) (nI k) (mk z (W * H) I J t u) = some (nI (wnS W H L (drV V x) T m), mk z (W * H) I' J' t u) ∧ ClsT z (W * H) 32 I' J' (plS W H L (drV V x) T m) ∧ SbW z 32 I I' J J' := by
  intro d
  induction d with
  | zero =>
    intro k g I J hk hg hX hT
    obtain ⟨g, rfl⟩ : ∃ m, g = m + 1 := ⟨g - 1, by omega⟩
    obtain rfl : k = m := by omega
    refine ⟨I, J, ?_, hT, fun _ _ => rfl, fun _ _ => rfl, rfl, rfl⟩
    rw [f_X10_hours_L65]
    simp only [jn]
    rw [if_pos ((nI_le' (by omega) (by omega)).mpr (Nat.le_refl _))]
  | succ d ih =>
    intro k g I J hk hg hX hT
    obtain ⟨g, rfl⟩ : ∃ m, g = m + 1 := ⟨g - 1, by omega⟩
    have hWk := plS_W (L := L) (V := drV V x) hD hW k (by omega)
    have hv6 := hX.2.2.1
    have hsv := smC_le (V := V) (fun i hi => (hX.2.2.2.2.1 i hi).2.2) (vn V) (Nat.le_refl _)
    have hxk := xqS_lt hx k
    have hxm : xqS x k % smC V (vn V) < smC V (vn V) := Nat.mod_lt _ hs
    have hlt := ltV_lt (x := xqS x k % smC V (vn V)) hv (vn V) 0 (by omega)
    obtain ⟨I1, J1, e1, k1, k2⟩ := s_blowC (n := n) (u := u) hn (by omega) hD hX.1 (Or.inl rfl) hWk hT hX.2.1 (hX.2.2.2.2.1 _ hlt).1
    obtain ⟨I', J', e2, r3, r4⟩ := ih (k + 1) g I1 J1 (by omega) (by omega) (hX.sbw k2) k1
    refine ⟨I', J', ?_, r3, k2.tr r4⟩
    rw [f_X10_hours_L65]
    simp only [jn, bd]
    rw [if_neg (show ¬ nI m ≤ nI k by rw [nI_le' (by omega) (by omega)]; omega), g0z_9, g0z_1, g0z_3, dv_n hs (by omega), nI_mdB (by omega) hs (by omega), wat_C hn hX.2.2 (by omega), cl_some, e1, cl_some, show (30103 : Int32) = nI 30103 from rfl, dv_n (by omega) (by omega), show nI (xqS x k) * (179 : Int32) = nI (xqS x k * 179) from nI_ml _ 179, show nI (xqS x k * 179) + (41 : Int32) = nI (xqS x k * 179 + 41) from nI_pl _ 41, nI_mdB (by omega) (by omega) (by omega), nI_pl, show nI k + (1 : Int32) = nI (k + 1) from nI_pl k 1]
    exact e2
theorem hrs_R (hn : 100000 ≤ n) (hD : dims W H) (hW : TW (W * H) 999 T) (hs : 0 < smC V (vn V)) (hv : 0 < vn V) {m x : Nat} (hm : m ≤ 40) (hx : x < 30103) : ∀ (d k g : Nat) (I : Nat → Nat → Int32) (J : Nat → Nat → Int64), k + d = m → d < g → CxR z t W H 0 L V I → RefT z (W * H) 0 I (plS W H L (drV V x) T k) → ∃ I' J', f_X11_hours_L57 n (z + 83) (nI m) g (nI (xqS x k)) (nI (wnS W H L (drV V x) T k)) (nI k) (mk z (W * H) I J t u) = some (nI (wnS W H L (drV V x) T m), mk z (W * H) I' J' t u) ∧ RefT z (W * H) 0 I' (plS W H L (drV V x) T m) ∧ SgB z 0 I I' J J' := by
  intro d
  induction d with
  | zero =>
    intro k g I J hk hg hX hT
    obtain ⟨g, rfl⟩ : ∃ m, g = m + 1 := ⟨g - 1, by omega⟩
    obtain rfl : k = m := by omega
    refine ⟨I, J, ?_, hT, SgB.rf _ _ _ _⟩
    rw [f_X11_hours_L57]
    simp only [jn]
    rw [if_pos ((nI_le' (by omega) (by omega)).mpr (Nat.le_refl _))]
  | succ d ih =>
    intro k g I J hk hg hX hT
    obtain ⟨g, rfl⟩ : ∃ m, g = m + 1 := ⟨g - 1, by omega⟩
    have hWk := plS_W (L := L) (V := drV V x) hD hW k (by omega)
    have hv6 := hX.2.2.1
    have hsv := smC_le (V := V) (fun i hi => (hX.2.2.2.2.1 i hi).2.2) (vn V) (Nat.le_refl _)
    have hxk := xqS_lt hx k
    have hxm : xqS x k % smC V (vn V) < smC V (vn V) := Nat.mod_lt _ hs
    have hlt := ltV_lt (x := xqS x k % smC V (vn V)) hv (vn V) 0 (by omega)
    obtain ⟨I1, J1, e1, k1, k2⟩ := s_blowR (n := n) (J := J) (u := u) hn (by omega) hD hX.1 (by omega) (Or.inl rfl) hWk hT hX.2.1 (hX.2.2.2.2.1 _ hlt).1
    obtain ⟨I', J', e2, r3, r4⟩ := ih (k + 1) g I1 J1 (by omega) (by omega) (hX.sgb k2) k1
    refine ⟨I', J', ?_, r3, k2.tr r4⟩
    rw [f_X11_hours_L57]
    simp only [jn, bd]
    rw [if_neg (show ¬ nI m ≤ nI k by rw [nI_le' (by omega) (by omega)]; omega), chs_R hn hX.2.2, cl_some, dv_n hs (by omega), nI_mdB (by omega) hs (by omega), drw_R hn hX.2.2 hxm, cl_some, e1, cl_some, show (30103 : Int32) = nI 30103 from rfl, dv_n (by omega) (by omega), show nI (xqS x k) * (179 : Int32) = nI (xqS x k * 179) from nI_ml _ 179, show nI (xqS x k * 179) + (41 : Int32) = nI (xqS x k * 179 + 41) from nI_pl _ 41, nI_mdB (by omega) (by omega) (by omega), nI_pl, show nI k + (1 : Int32) = nI (k + 1) from nI_pl k 1]
    exact e2
theorem Op_hours_ok {Q : Nat} : Op_hours z (Rel z (TXx z) Q) := by
  intro n hn S a b hR
  obtain ⟨W, H, I, J, t, u, V, L, T, rfl, hD, hRI, hXC, hXR, hW, hTc, hTr⟩ := hR.op
  have hC := hD.C
  have hv6 := hXC.2.2.1
  have hh := hW.2.1
  have hsv := smC_le (V := V) (fun i hi => (hXC.2.2.2.2.1 i hi).2.2) (vn V) (Nat.le_refl _)
  have ea := all_C (n := n) (W := W) (H := H) (t := t) (u := u) (J := J) hn hXC.2.2
  have er := chs_R (n := n) (W := W) (H := H) (t := t) (u := u) (J := J) hn hXR.2.2
  have m8 : mI (mk z (W * H) I J t u) (z + 32) 8 = nI (th T) := hTc.2.1
  have h0 : mI (mk z (W * H) I J t u) (z + 84) (0 : Int32).toNatClampNeg = nI (th T) := hTr.hor
  have no : (f_X10_hours n z a b (mk z (W * H) I J t u) = some (-1, mk z (W * H) I J t u)) → (f_X11_hours n (z + 83) a b (mk z (W * H) I J t u) = some (-1, mk z (W * H) I J t u)) → ∃ (x : Int32) (S1 S2 : MS), f_X10_hours n z a b (mk z (W * H) I J t u) = some (x, S1) ∧ f_X11_hours n (z + 83) a b S1 = some (x, S2) ∧ Rel z (TXx z) Q S2 := fun e1 e2 => ⟨_, _, _, e1, e2, Rel.cl hD hRI⟩
  by_cases c1 : ¬ a < 0 ∧ ¬ (9999 : Int32) < a
  rotate_left
  · refine no ?_ ?_
    · unfold f_X10_hours
      rw [g0z_3, ea, cl_some]
      by_cases d1 : a < 0
      · rw [if_pos d1]
      · rw [if_neg d1, if_pos (Classical.byContradiction fun w => c1 ⟨d1, w⟩)]
    · unfold f_X11_hours
      rw [s_isIn, cl_some, ite_bI, if_neg (fun w => c1 (in_r.mp w))]
  obtain ⟨q, hq, rfl⟩ := nI_nm (a := a) (N := 10000) c1.1 (fun w => c1.2 (by rw [i32_le, nI_t (by omega)] at w; rw [i32_lt]; have : (9999 : Int32).toInt = 9999 := rfl; omega)) (by omega)
  by_cases c2 : ¬ b < 1 ∧ ¬ (40 : Int32) < b
  rotate_left
  · refine no ?_ ?_
    · unfold f_X10_hours
      rw [g0z_3, ea, cl_some, if_neg c1.1, if_neg c1.2]
      by_cases d1 : b < 1
      · rw [if_pos d1]
      · rw [if_neg d1, if_pos (Classical.byContradiction fun w => c2 ⟨d1, w⟩)]
    · unfold f_X11_hours
      rw [s_isIn, cl_some, ite_bI, if_pos (in_r.mpr c1), s_isIn, cl_some, ite_bI, if_neg (fun w => c2 (in_r.mp w))]
  obtain ⟨m, hm, rfl⟩ := nI_nm (a := b) (N := 41) (fun w => c2.1 (by rw [i32_lt] at w ⊢; have : (1 : Int32).toInt = 1 := rfl; have : (0 : Int32).toInt = 0 := rfl; omega)) (fun w => c2.2 (by rw [i32_le, nI_t (by omega)] at w; rw [i32_lt]; have : (40 : Int32).toInt = 40 := rfl; omega)) (by omega)
  by_cases hs : smC V (vn V) = 0
  · refine no ?_ ?_
    · unfold f_X10_hours
      rw [g0z_3, ea, cl_some, if_neg c1.1, if_neg c1.2, if_neg c2.1, if_neg c2.2, if_pos (by rw [hs]; decide)]
    · unfold f_X11_hours
      rw [s_isIn, cl_some, ite_bI, if_pos (in_r.mpr c1), s_isIn, cl_some, ite_bI, if_pos (in_r.mpr c2), er, cl_some, if_pos (by rw [hs]; rfl)]
  have n1 : ¬ nI (smC V (vn V)) ≤ 0 := by rw [show (0 : Int32) = nI 0 from rfl, nI_le' (by omega) (by omega)]; omega
  have n2 : ¬ nI (smC V (vn V)) = 0 := by rw [show (0 : Int32) = nI 0 from rfl, nI_inj (by omega) (by omega)]; exact hs
  by_cases c3 : th T + m ≤ 999
  rotate_left
  · have c3' : ¬ nI (th T) + nI m ≤ 999 := by rw [nI_pl, show (999 : Int32) = nI 999 from rfl, nI_le' (by omega) (by omega)]; exact c3
    refine no ?_ ?_
    · unfold f_X10_hours
      rw [g0z_3, ea, cl_some, if_neg c1.1, if_neg c1.2, if_neg c2.1, if_neg c2.2, if_neg n1, g0z_1, m8, if_neg c3']
    · unfold f_X11_hours
      rw [s_isIn, cl_some, ite_bI, if_pos (in_r.mpr c1), s_isIn, cl_some, ite_bI, if_pos (in_r.mpr c2), er, cl_some, if_neg n2, g83_0, n84, ck_t (by decide), h0, if_neg c3']
  have c3' : nI (th T) + nI m ≤ 999 := by rw [nI_pl, show (999 : Int32) = nI 999 from rfl, nI_le' (by omega) (by omega)]; exact c3
  have hv : 0 < vn V := by
    rcases Nat.eq_zero_or_pos (vn V) with w | w
    · rw [w] at hs; exact absurd rfl hs
    · exact w
  have ex : nI q * (3 : Int32) + (8 : Int32) = nI (q * 3 + 8) := by rw [show nI q * (3 : Int32) = nI (q * 3) from nI_ml q 3, show nI (q * 3) + (8 : Int32) = nI (q * 3 + 8) from nI_pl _ 8]
  obtain ⟨I1, J1, e1, k1, k2⟩ := hrs_C (n := n) (u := u) (x := q * 3 + 8) hn hD hW (by omega) hv (m := m) (by omega) (by omega) m 0 n I J (by omega) (by omega) hXC hTc
  have hX1 := hXR.sbw k2
  have hT1 : RefT z (W * H) 0 I1 T := hTr.sbw (Or.inl rfl) k2
  obtain ⟨I2, J2, e2, k3, k4⟩ := hrs_R (n := n) (u := u) (x := q * 3 + 8) hn hD hW (by omega) hv (m := m) (by omega) (by omega) m 0 n I1 J1 (by omega) (by omega) hX1 hT1
  have er1 := chs_R (n := n) (W := W) (H := H) (t := t) (u := u) (J := J1) hn hX1.2.2
  have h01 : mI (mk z (W * H) I1 J1 t u) (z + 84) (0 : Int32).toNatClampNeg = nI (th T) := hT1.hor
  have hWm : TW (W * H) 999 (plS W H L (drV V (q * 3 + 8)) T m) := (plS_W hD hW m (by omega)).low (by rw [plS_th]; exact c3)
  refine ⟨nI (wnS W H L (drV V (q * 3 + 8)) T m), mk z (W * H) I1 J1 t u, mk z (W * H) I2 J2 t u, ?_, ?_, Rel.cl hD (hRI.after (TXx_ok z) hC hWm (k1.sgb (Or.inl rfl) k4) k3 (fun q hq => ?_) (fun q hq => ?_) ?_ ?_)⟩
  · unfold f_X10_hours
    simp only [bd]
    rw [g0z_3, ea, cl_some, if_neg c1.1, if_neg c1.2, if_neg c2.1, if_neg c2.2, if_neg n1, g0z_1, m8, if_pos c3', ex]
    exact e1
  · unfold f_X11_hours
    simp only [bd]
    rw [s_isIn, cl_some, ite_bI, if_pos (in_r.mpr c1), s_isIn, cl_some, ite_bI, if_pos (in_r.mpr c2), er1, cl_some, if_neg n2, g83_0, n84, ck_t (by decide), h01, if_pos c3', ex]
    exact e2
  · rw [k4.1 q (by omega)]
    by_cases h37 : q = z + 37
    · subst h37; exact k2.2.2.2
    · exact k2.1 q (by omega)
  · rw [k4.2.1 q (by omega), k2.2.1 q (by omega)]
  · rw [k4.2.1 _ (by omega), k2.2.2.1]
  · have := k4.2.2
    rw [k2.1 (z + 84) (by omega)] at this
    exact this
end HO
