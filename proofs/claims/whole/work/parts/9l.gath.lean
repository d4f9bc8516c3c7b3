/-! ALL ROWS OF WINDS: sums, abstract; the class's gather -/
def nJ (k : Nat) : Int64 := jI (k : Int)
theorem nJ_pl (a b : Nat) : nJ a + nJ b = nJ (a + b) := by
  unfold nJ jI
  rw [← Int64.ofInt_add, Int.natCast_add]
theorem nJ_ml (a b : Nat) : nJ a * nJ b = nJ (a * b) := by
  unfold nJ jI
  rw [← Int64.ofInt_mul, Int.natCast_mul]
theorem nI_64 {k : Nat} (h : k < 1000000) : (nI k).toInt64 = nJ k := by
  rw [nI_iI h, iI_64 (by omega) (by omega)]; rfl
theorem nJ_z {k : Nat} (h : k < 1000000) : nJ k = 0 ↔ k = 0 := by
  rw [j64_eq]
  unfold nJ
  rw [jI_t (by omega) (by omega), show (0 : Int64).toInt = 0 from rfl]
  omega
/-- a sum over the winds from v on -/
def tsV (g : Nat → Nat) : Nat → Nat → Nat
  | 0, _ => 0
  | e + 1, v => g v + tsV g e (v + 1)
noncomputable def lfS (W H : Nat) (L : Option XT) (V : VT) (lf : TP → Nat) : Nat → TP → Nat
  | 0, T => lf T
  | d + 1, T => tsV (fun v => vc V v * lfS W H L V lf d (blV W H L V v T).1) (vn V) 0
theorem tsV_c {V : VT} (K : Nat) : ∀ e v, smC V v * K + tsV (fun v => vc V v * K) e v = smC V (v + e) * K
  | 0, v => by rw [tsV]; rfl
  | e + 1, v => by
    have := tsV_c (V := V) K e (v + 1)
    rw [smC, Nat.add_mul] at this
    rw [tsV, show v + (e + 1) = v + 1 + e by omega, ← this]; omega
theorem lfS_1 {W H : Nat} {L : Option XT} {V : VT} : ∀ d T, lfS W H L V (fun _ => 1) d T = smC V (vn V) ^ d
  | 0, _ => rfl
  | d + 1, T => by
    rw [lfS]
    have h : (fun v => vc V v * lfS W H L V (fun _ => 1) d (blV W H L V v T).1) = fun v => vc V v * smC V (vn V) ^ d := by
      funext v; rw [lfS_1 d]
    have := tsV_c (V := V) (smC V (vn V) ^ d) (vn V) 0
    rw [smC, Nat.zero_mul, Nat.zero_add, Nat.zero_add] at this
    rw [h, this, Nat.pow_succ, Nat.mul_comm]
noncomputable def ldH (W H f c : Nat) (T : TP) : Nat := if dec (hasT W (W * H) T f c) = true then 1 else 0
noncomputable def ldA (W H f : Nat) (T : TP) : Nat := areaT W (W * H) T f
theorem areaT_le {W C f : Nat} {T : TP} : areaT W C T f ≤ C := by
  cases e : ts T f with
  | none => rw [areaT_n e]; omega
  | some s =>
    rw [areaT_s e]
    exact Nat.le_trans (Nat.div_le_self _ _) (cnt_le _ _)
theorem isPd {d : Nat} (h : d ≤ 4) : isP (48 + 7 * d) := by
  have : d = 0 ∨ d = 1 ∨ d = 2 ∨ d = 3 ∨ d = 4 := by omega
  rcases this with rfl | rfl | rfl | rfl | rfl
  · exact Or.inr (Or.inr (Or.inl rfl))
  · exact Or.inr (Or.inr (Or.inr (Or.inl rfl)))
  · exact Or.inr (Or.inr (Or.inr (Or.inr (Or.inl rfl))))
  · exact Or.inr (Or.inr (Or.inr (Or.inr (Or.inr (Or.inl rfl)))))
  · exact Or.inr (Or.inr (Or.inr (Or.inr (Or.inr (Or.inr rfl)))))
section GA
variable {n z t W H M : Nat} {u : Option Nat} {L : Option XT} {V : VT}
theorem gTd {α : Type} {C d : Nat} {I : Nat → Nat → Int32} {J : Nat → Nat → Int64} (h : d ≤ 4) {F : Nat → Option α} : gR (mk z C I J t u) (mR (mk z C I J t u) (z + 47) d) 3 F = F (z + (48 + 7 * d)) := by
  have e := gTried (z := z) (C := C) (I := I) (J := J) (t := t) (u := u) (i := nI d) (F := F) (by
    have : d = 0 ∨ d = 1 ∨ d = 2 ∨ d = 3 ∨ d = 4 := by omega
    rcases this with rfl | rfl | rfl | rfl | rfl
    · exact Or.inl rfl
    · exact Or.inr (Or.inl rfl)
    · exact Or.inr (Or.inr (Or.inl rfl))
    · exact Or.inr (Or.inr (Or.inr (Or.inl rfl)))
    · exact Or.inr (Or.inr (Or.inr (Or.inr rfl))))
  rw [cl_nI (by omega)] at e
  exact e
/-- what gather may change -/
def FrG (z dep : Nat) (I I' : Nat → Nat → Int32) (J J' : Nat → Nat → Int64) : Prop := (∀ q, (q < z + 24 ∨ (z + 30 ≤ q ∧ q < z + (55 + 7 * dep)) ∨ z + 83 ≤ q) → I' q = I q) ∧ (∀ q, q ≠ z + 46 → (q < z + (55 + 7 * dep) ∨ z + 83 ≤ q) → J' q = J q)
theorem FrG.rfg (z dep : Nat) (I : Nat → Nat → Int32) (J : Nat → Nat → Int64) : FrG z dep I I J J := ⟨fun _ _ => rfl, fun _ _ _ => rfl⟩
theorem FrG.trg {dep : Nat} {I I' I2 : Nat → Nat → Int32} {J J' J2 : Nat → Nat → Int64} (h : FrG z dep I I' J J') (h2 : FrG z dep I' I2 J' J2) : FrG z dep I I2 J J2 := ⟨fun q hq => (h2.1 q hq).trans (h.1 q hq), fun q a b => (h2.2 q a b).trans (h.2 q a b)⟩
theorem FrG.updf {dep : Nat} {I I' : Nat → Nat → Int32} {J J' : Nat → Nat → Int64} (h : FrG z (dep + 1) I I' J J') : FrG z dep I I' J J' := ⟨fun q hq => h.1 q (by omega), fun q a b => h.2 q a (by omega)⟩
theorem FrG.frc {dep : Nat} {I I' : Nat → Nat → Int32} {J J' : Nat → Nat → Int64} (h : FrG z dep I I' J J') : FrC z I I' J J' := ⟨fun q hq => h.1 q (by omega), fun q hq => h.2 q (by omega) (by omega)⟩
/-- a leaf: the class -/
theorem gath_0 {I : Nat → Nat → Int32} {J : Nat → Nat → Int64} {T : TP} (hn : 100000 ≤ n) (hD : dims W H) {f c m dep w : Nat} (hf : f < 6) (hc : c < W * H) (hdep : dep ≤ 4) (hmd : m = dep) (hX : CxC z t W H L V I J) (hW : TW (W * H) M T) (hT : ClsT z (W * H) (48 + 7 * dep) I J T) (h7 : I (z + 46) 7 = nI f) (h8 : I (z + 46) 8 = nI c) (rec : Nat → Int32 → Int32 → Int64 → MS → Option (MS)) :
    ∃ J', B_X2_gather n rec (z + 46) (nI dep) (nI m) (nJ w) (mk z (W * H) I J t u) = some (mk z (W * H) I J' t u) ∧ (∀ q, q ≠ z + 46 → J' q = J q) ∧ J' (z + 46) 9 = J (z + 46) 9 + nJ (w * ldH W H f c T) ∧ J' (z + 46) 10 = J (z + 46) 10 + nJ (w * ldA W H f T) := by
  have hC := hD.C
  have ho := isPd hdep
  have hal : areaT W (W * H) T f ≤ W * H := areaT_le
  have m7 : mI (mk z (W * H) I J t u) (z + 46) 7 = nI f := h7
  have m8 : mI (mk z (W * H) I J t u) (z + 46) 8 = nI c := h8
  obtain ⟨r, er, hr⟩ := s_fieldHad (n := n) (t := t) (u := u) hn hD hX.1 ho hW hT hf
  have fin : ∀ x : Int64, ∃ J', (cl (f_X3_share n (z + (48 + 7 * dep)) r (sJ (mk z (W * H) I J t u) (z + 46) 9 x)) fun x24 S21 => some (sJ S21 (z + 46) 10 (mJ (sJ (mk z (W * H) I J t u) (z + 46) 9 x) (z + 46) 10 + nJ w * x24.toInt64))) = some (mk z (W * H) I J' t u) ∧ (∀ q, q ≠ z + 46 → J' q = J q) ∧ J' (z + 46) 9 = x ∧ J' (z + 46) 10 = J (z + 46) 10 + nJ (w * ldA W H f T) := by
    intro x
    refine ⟨up2 (up2 J (z + 46) 9 x) (z + 46) 10 (J (z + 46) 10 + nJ (w * ldA W H f T)), ?_, fun q hq => by rw [up2_ne hq, up2_ne hq], by rw [up2_r, up2_r, ur_ne _ _ (by omega), ur_at], by rw [up2_r, ur_at]⟩
    have es := s_share (n := n) (I := I) (J := up2 J (z + 46) 9 x) (t := t) (u := u) hn hD ho hW (hT.keep (fun _ _ => rfl) (up2_ne (by omega))) hf hr
    rw [sJ_mk, es, cl_some, sJ_mk, mJ_mk, up2_r, ur_ne _ _ (by omega), nI_64 (by omega), nJ_ml]
    rfl
  unfold B_X2_gather
  simp only [jn, bd]
  rw [g46_6, n47, ck_t (inb_nI (by omega) (by omega)), cl_nI (by omega), gTd hdep, hmd, if_pos ((nI_le' (by omega) (by omega)).mpr (Nat.le_refl _)), m7, er, cl_some, m8]
  by_cases hh : hasT W (W * H) T f c
  · have hb : ¬ lg_cmp (lush r (nI c) &&& 1) 0 = 0 := fun w => by
      rw [bit_0 r (by omega), (hr c).mpr hh] at w; cases w
    rw [if_neg hb]
    obtain ⟨J', e, a1, a2, a3⟩ := fin (J (z + 46) 9 + nJ w)
    refine ⟨J', e, a1, ?_, a3⟩
    rw [a2, ldH, if_pos (dec_t.mpr hh), Nat.mul_one]
  · have hb : lg_cmp (lush r (nI c) &&& 1) 0 = 0 := (bit_0 r (by omega)).mpr (by
      cases h : bt r c with
      | false => rfl
      | true => exact absurd ((hr c).mp h) hh)
    rw [if_pos hb]
    obtain ⟨J', e, a1, a2, a3⟩ := fin (J (z + 46) 9 + 0)
    refine ⟨J', e, a1, ?_, a3⟩
    rw [a2, ldH, if_neg (fun w => hh (dec_t.mp w)), Nat.mul_zero]
    rfl
theorem CxC.frg {dep : Nat} {I I' : Nat → Nat → Int32} {J J' : Nat → Nat → Int64} (h : CxC z t W H L V I J) (hf : FrG z dep I I' J J') : CxC z t W H L V I' J' := h.fr hf.frc
theorem gath_C (hn : 100000 ≤ n) (hD : dims W H) {f c m : Nat} (hf : f < 6) (hc : c < W * H) (hm : m ≤ 4) : ∀ (d dep fuel w : Nat) (I : Nat → Nat → Int32) (J : Nat → Nat → Int64) (T : TP), dep + d = m → d < fuel → CxC z t W H L V I J → TW (W * H) 2000 T → th T ≤ 1000 + dep → ClsT z (W * H) (48 + 7 * dep) I J T → I (z + 46) 7 = nI f → I (z + 46) 8 = nI c →
    ∃ I' J', g_X2_gather n fuel (z + 46) (nI dep) (nI m) (nJ w) (mk z (W * H) I J t u) = some (mk z (W * H) I' J' t u) ∧ FrG z dep I I' J J' ∧ J' (z + 46) 9 = J (z + 46) 9 + nJ (w * lfS W H L V (ldH W H f c) d T) ∧ J' (z + 46) 10 = J (z + 46) 10 + nJ (w * lfS W H L V (ldA W H f) d T) := by
  have hC := hD.C
  intro d
  induction d with
  | zero =>
    intro dep fuel w I J T hdm hfu hX hW hth hT h7 h8
    obtain ⟨fuel, rfl⟩ : ∃ m, fuel = m + 1 := ⟨fuel - 1, by omega⟩
    obtain ⟨J', e, a1, a2, a3⟩ := gath_0 (n := n) (u := u) (w := w) hn hD hf hc (show dep ≤ 4 by omega) (show m = dep by omega) hX hW hT h7 h8 (g_X2_gather n fuel)
    refine ⟨I, J', ?_, ⟨fun _ _ => rfl, fun q hq _ => a1 q hq⟩, a2, a3⟩
    rw [g_X2_gather]; exact e
  | succ d ih =>
    intro dep fuel w I J T hdm hfu hX hW hth hT h7 h8
    obtain ⟨fuel, rfl⟩ : ∃ m, fuel = m + 1 := ⟨fuel - 1, by omega⟩
    have hdep : dep ≤ 4 := by omega
    have ho := isPd hdep
    have ho1 := isPd (show dep + 1 ≤ 4 by omega)
    have h24 := hW.1
    -- the winds one by one
    have lop : ∀ (e v k : Nat) (I : Nat → Nat → Int32) (J : Nat → Nat → Int64), v + e = vn V → e < k → CxC z t W H L V I J → ClsT z (W * H) (48 + 7 * dep) I J T → I (z + 46) 7 = nI f → I (z + 46) 8 = nI c →
        ∃ I' J', f_X2_gather_L80 n (z + 46) (nI dep) (nI m) (nJ w) (z + (48 + 7 * dep)) (g_X2_gather n fuel) k (nI v) (mk z (W * H) I J t u) = some (mk z (W * H) I' J' t u) ∧ FrG z dep I I' J J' ∧ J' (z + 46) 9 = J (z + 46) 9 + nJ (w * tsV (fun v => vc V v * lfS W H L V (ldH W H f c) d (blV W H L V v T).1) e v) ∧ J' (z + 46) 10 = J (z + 46) 10 + nJ (w * tsV (fun v => vc V v * lfS W H L V (ldA W H f) d (blV W H L V v T).1) e v) := by
      intro e
      induction e with
      | zero =>
        intro v k I J hv hk hX hT h7 h8
        obtain ⟨k, rfl⟩ : ∃ m, k = m + 1 := ⟨k - 1, by omega⟩
        have hv6 := hX.2.2.1
        refine ⟨I, J, ?_, FrG.rfg z dep I J, ?_, ?_⟩
        · rw [f_X2_gather_L80]
          simp only [jn]
          rw [g46_4, mI_mk, hX.2.2.2.1, if_pos ((nI_le' (by omega) (by omega)).mpr (by omega))]
        · rw [tsV, Nat.mul_zero, show nJ 0 = 0 from rfl, Int64.add_zero]
        · rw [tsV, Nat.mul_zero, show nJ 0 = 0 from rfl, Int64.add_zero]
      | succ e ihe =>
        intro v k I J hv hk hX hT h7 h8
        obtain ⟨k, rfl⟩ : ∃ m, k = m + 1 := ⟨k - 1, by omega⟩
        have hv6 := hX.2.2.1
        have hvV : v < vn V := by omega
        obtain ⟨v1, v2, v3⟩ := hX.2.2.2.2.1 v hvV
        have mv : mI (mk z (W * H) I J t u) (z + 5) v = nI (vc V v) := v2
        have e1 : nI v + (1 : Int32) = nI (v + 1) := nI_pl v 1
        have ed : nI dep + (1 : Int32) = nI (dep + 1) := nI_pl dep 1
        rw [f_X2_gather_L80]
        simp only [jn, bd]
        rw [g46_4, mI_mk, hX.2.2.2.1, if_neg (show ¬ nI (vn V) ≤ nI v by rw [nI_le' (by omega) (by omega)]; omega), g46_4, g1_3, n5, ck_t (inb_nI (by omega) (by omega)), cl_nI (show v < 1000000 by omega), e1, ed]
        by_cases h0 : vc V v = 0
        · obtain ⟨I', J', e3, f3, a1, a2⟩ := ihe (v + 1) k I J (by omega) (by omega) hX hT h7 h8
          refine ⟨I', J', ?_, f3, ?_, ?_⟩
          · rw [if_pos (show mI (mk z (W * H) I J t u) (z + 5) v ≤ 0 by rw [mv, h0]; decide)]
            exact e3
          · rw [a1, tsV, h0, Nat.zero_mul, Nat.zero_add]
          · rw [a2, tsV, h0, Nat.zero_mul, Nat.zero_add]
        · obtain ⟨I1, J1, x1, f1, c1, g1, g1J⟩ := s_copy0 (n := n) (t := t) (u := u) hC ho1 ho (by omega) (by omega) hT h24
          have hX1 := hX.fr f1
          obtain ⟨I2, J2, x2, c2, r2⟩ := s_blowC (n := n) (u := u) hn (by omega) hD hX1.1 ho1 hW c1 hX1.2.1 (hX1.2.2.2.2.1 v hvV).1
          have fr2 : FrG z dep I I2 J J2 := ⟨fun q hq => (r2.1 q (by omega)).trans (g1 q (by omega)), fun q a b => (r2.2.1 q (by omega)).trans (g1J q (by omega))⟩
          have j46 : J2 (z + 46) = J (z + 46) := (r2.2.1 _ (by omega)).trans (g1J _ (by omega))
          have i46 : I2 (z + 46) = I (z + 46) := (r2.1 _ (by omega)).trans (g1 _ (by omega))
          have mv2 : mI (mk z (W * H) I2 J2 t u) (z + 5) v = nI (vc V v) := by rw [mI_mk, fr2.1 _ (by omega)]; exact v2
          have hWb : TW (W * H) 2000 (blV W H L V v T).1 := blT_W hD hW (by omega)
          have hthb : th (blV W H L V v T).1 ≤ 1000 + (dep + 1) := by
            have : th (blV W H L V v T).1 = th T + 1 := blT_th.1
            omega
          obtain ⟨I3, J3, x3, f3, a1, a2⟩ := ih (dep + 1) fuel (w * vc V v) I2 J2 (blV W H L V v T).1 (by omega) (by omega) (hX.frg fr2) hWb hthb c2 (by rw [i46]; exact h7) (by rw [i46]; exact h8)
          have fr3 := fr2.trg f3.updf
          have i46' : I3 (z + 46) = I (z + 46) := fr3.1 _ (by omega)
          obtain ⟨I', J', x4, f4, b1, b2⟩ := ihe (v + 1) k I3 J3 (by omega) (by omega) (hX.frg fr3) (hT.keep (fun i hi => fr3.1 _ (by omega)) (fr3.2 _ (by omega) (by omega))) (by rw [i46']; exact h7) (by rw [i46']; exact h8)
          refine ⟨I', J', ?_, fr3.trg f4, ?_, ?_⟩
          · rw [if_neg (show ¬ mI (mk z (W * H) I J t u) (z + 5) v ≤ 0 by rw [mv, show (0 : Int32) = nI 0 from rfl, nI_le' (by omega) (by omega)]; omega), g46_6, n47, ck_t (inb_nI (by omega) (by omega)), cl_nI (show dep + 1 < 1000000 by omega), gTd (by omega), x1, cv_some, g46_5, g46_6, n47, ck_t (inb_nI (by omega) (by omega)), gTd (by omega), x2, cl_some, g46_4, g1_3, n5, ck_t (inb_nI (by omega) (by omega)), mv2, nI_64 (by omega), nJ_ml, x3, cv_some]
            exact x4
          · rw [b1, a1, j46, Int64.add_assoc, nJ_pl, tsV, Nat.mul_add, Nat.mul_assoc]
          · rw [b2, a2, j46, Int64.add_assoc, nJ_pl, tsV, Nat.mul_add, Nat.mul_assoc]
    have hv6 := hX.2.2.1
    obtain ⟨I', J', e3, f3, a1, a2⟩ := lop (vn V) 0 n I J (by omega) (by omega) hX hT h7 h8
    refine ⟨I', J', ?_, f3, a1, a2⟩
    rw [g_X2_gather]
    unfold B_X2_gather
    simp only [jn, bd]
    rw [g46_6, n47, ck_t (inb_nI (by omega) (by omega)), cl_nI (by omega), gTd hdep, if_neg (show ¬ nI m ≤ nI dep by rw [nI_le' (by omega) (by omega)]; omega), if_pos (show nI dep < (4 : Int32) by rw [show (4 : Int32) = nI 4 from rfl, nI_lt' (by omega) (by omega)]; omega)]
    exact e3
end GA
