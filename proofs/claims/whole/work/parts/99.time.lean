/-! TIME, KEEPS keep the relation -/
section TI
variable {n z t W H M : Nat} {u : Option Nat} {T : TP} {L : Option XT} {V : VT}
/-- had behind k hours of the plan -/
def hdT (W H : Nat) (L : Option XT) (V : VT) (T : TP) (f c k : Nat) : Prop := hasT W (W * H) (plS W H L V T k) f c
/-- the first k from k on, d more may come, at which it is had, and r later again -/
noncomputable def fstT (W H : Nat) (L : Option XT) (V : VT) (T : TP) (f c r : Nat) : Nat → Nat → Int32
  | 0, _ => -1
  | d + 1, k => if dec (hdT W H L V T f c k ∧ hdT W H L V T f c (k + r)) = true then nI k else fstT W H L V T f c r d (k + 1)
theorem time_C1 (hn : 100000 ≤ n) (hD : dims W H) (hW : TW (W * H) 999 T) (hv : 0 < vn V) {f c : Nat} (hf : f < 6) (hc : c < W * H) (a3 : Int32) (K : Int64 → MS → Option (Int32 × MS)) : ∀ (d k g : Nat) (x : Int64) (I : Nat → Nat → Int32) (J : Nat → Nat → Int64), k + d = 40 → d < g → CxC z t W H L V I J → ClsT z (W * H) 48 I J (plS W H L V T k) → (∀ j, j < 64 → (bt x j = true ↔ j ≤ k ∧ hdT W H L V T f c j)) → ∃ x' I' J', f_X2_firstSowing_L35 n (z + 46) (nI f) (nI c) a3 K g x (nI k) (mk z (W * H) I J t u) = K x' (mk z (W * H) I' J' t u) ∧ FrC z I I' J J' ∧ ∀ j, j < 64 → (bt x' j = true ↔ j ≤ 40 ∧ hdT W H L V T f c j) := by
  intro d
  induction d with
  | zero =>
    intro k g x I J hk hg hX hT hx
    obtain ⟨g, rfl⟩ : ∃ m, g = m + 1 := ⟨g - 1, by omega⟩
    obtain rfl : k = 40 := by omega
    refine ⟨x, I, J, ?_, FrC.rf z I J, hx⟩
    rw [f_X2_firstSowing_L35]
    simp only [jn]
    rw [if_pos (by decide)]
  | succ d ih =>
    intro k g x I J hk hg hX hT hx
    obtain ⟨g, rfl⟩ : ∃ m, g = m + 1 := ⟨g - 1, by omega⟩
    have hWk := plS_W (L := L) (V := V) hD hW k (by omega)
    have hWk1 := plS_W (L := L) (V := V) hD hW (k + 1) (by omega)
    obtain ⟨I1, J1, e1, r1, r2⟩ := s_goOn (n := n) (u := u) hn hD hX hWk hT (k := k) (by omega) hv
    have hX1 := hX.fr r2
    have eh := s_isHad (n := n) (t := t) (u := u) hn hD hX1.1 isP48 hWk1 r1 hf hc
    have go : ∀ x2 : Int64, (∀ j, j < 64 → (bt x2 j = true ↔ j ≤ k + 1 ∧ hdT W H L V T f c j)) → ∃ x' I' J', f_X2_firstSowing_L35 n (z + 46) (nI f) (nI c) a3 K g x2 (nI (k + 1)) (mk z (W * H) I1 J1 t u) = K x' (mk z (W * H) I' J' t u) ∧ FrC z I I' J J' ∧ ∀ j, j < 64 → (bt x' j = true ↔ j ≤ 40 ∧ hdT W H L V T f c j) := fun x2 h2 => by
      obtain ⟨x', I', J', e2, r3, r4⟩ := ih (k + 1) g x2 I1 J1 (by omega) (by omega) hX1 r1 h2
      exact ⟨x', I', J', e2, r2.tr r3, r4⟩
    rw [f_X2_firstSowing_L35]
    simp only [jn, bd]
    rw [if_neg (show ¬ (40 : Int32) ≤ nI k by rw [show (40 : Int32) = nI 40 from rfl, nI_le' (by omega) (by omega)]; omega), e1, cl_some, g46_6, n47, ck_t (by decide), gT0, eh, cl_some, show nI k + (1 : Int32) = nI (k + 1) from nI_pl k 1]
    by_cases h : hasT W (W * H) (plS W H L V T (k + 1)) f c
    · rw [if_neg (by rw [bD_t h]; decide)]
      refine go _ (fun j hj => ?_)
      rw [bt_or, Bool.or_eq_true, hx j hj, bt_lsh (by omega), decide_eq_true_eq]
      constructor
      · rintro (⟨a, b⟩ | a)
        · exact ⟨by omega, b⟩
        · subst a; exact ⟨by omega, h⟩
      · rintro ⟨a, b⟩
        by_cases hjk : j = k + 1
        · exact Or.inr hjk
        · exact Or.inl ⟨by omega, b⟩
    · rw [if_pos (by rw [bD_f h])]
      refine go _ (fun j hj => ?_)
      rw [bt_or, Bool.or_eq_true, hx j hj, bt_0]
      constructor
      · rintro (⟨a, b⟩ | a)
        · exact ⟨by omega, b⟩
        · cases a
      · rintro ⟨a, b⟩
        by_cases hjk : j = k + 1
        · subst hjk; exact absurd b h
        · exact Or.inl ⟨by omega, b⟩
theorem time_C2 {S : MS} {f c r : Nat} (hr1 : 1 ≤ r) (hr : r ≤ 20) {x : Int64} (hx : ∀ j, j < 64 → (bt x j = true ↔ j ≤ 40 ∧ hdT W H L V T f c j)) : ∀ (d k g : Nat), k + d = 41 - r → d < g → f_X2_firstSowing_L87 n (nI r) x g (nI k) S = some (fstT W H L V T f c r d k, S) := by
  intro d
  induction d with
  | zero =>
    intro k g hk hg
    obtain ⟨g, rfl⟩ : ∃ m, g = m + 1 := ⟨g - 1, by omega⟩
    rw [f_X2_firstSowing_L87]
    simp only [jn]
    rw [nI_pl, if_pos (show (40 : Int32) < nI (k + r) by rw [show (40 : Int32) = nI 40 from rfl, nI_lt' (by omega) (by omega)]; omega)]
    rfl
  | succ d ih =>
    intro k g hk hg
    obtain ⟨g, rfl⟩ : ∃ m, g = m + 1 := ⟨g - 1, by omega⟩
    rw [f_X2_firstSowing_L87]
    simp only [jn, bd]
    have hbit : (lg_cmp ((lush x (nI k) &&& lush x (nI (k + r))) &&& 1) 0 = 0) ↔ ¬ (hdT W H L V T f c k ∧ hdT W H L V T f c (k + r)) := by
      rw [lg_0, low1, bt_and, bt_lush x (by omega), bt_lush x (by omega), Nat.add_zero, Nat.add_zero]
      have a := hx k (by omega)
      have b := hx (k + r) (by omega)
      constructor
      · rintro h ⟨p, q⟩
        rw [a.mpr ⟨by omega, p⟩, b.mpr ⟨by omega, q⟩] at h; cases h
      · intro h
        cases h1 : bt x k with
        | false => rfl
        | true =>
          cases h2 : bt x (k + r) with
          | false => rfl
          | true => exact absurd ⟨(a.mp h1).2, (b.mp h2).2⟩ h
    rw [nI_pl, if_neg (show ¬ (40 : Int32) < nI (k + r) by rw [show (40 : Int32) = nI 40 from rfl, nI_lt' (by omega) (by omega)]; omega), show nI k + (1 : Int32) = nI (k + 1) from nI_pl k 1, fstT]
    by_cases h : hdT W H L V T f c k ∧ hdT W H L V T f c (k + r)
    · rw [if_neg (fun w => hbit.mp w h), if_pos (dec_t.mpr h)]
    · rw [if_pos (hbit.mpr h), if_neg (fun w => h (dec_t.mp w))]
      exact ih (k + 1) g (by omega) (by omega)
theorem time_R1 (hn : 100000 ≤ n) (hD : dims W H) (hW : TW (W * H) 999 T) (hv : 0 < vn V) {f c : Nat} (hf : f < 6) (hc : c < W * H) (a3 : Int32) (K : MS → Option (Int32 × MS)) : ∀ (d k g : Nat) (I : Nat → Nat → Int32) (J : Nat → Nat → Int64), k + d = 41 → d < g → CxR z t W H 680 L V I → RefT z (W * H) 680 I (plS W H L V T (if k ≤ 40 then k else 40)) → (∀ j, j < k → I (z + 96) j = bD (hdT W H L V T f c j)) → ∃ I' J', f_X11_time_L50 n (z + 83) (nI f) (nI c) a3 K g (nI k) (mk z (W * H) I J t u) = K (mk z (W * H) I' J' t u) ∧ FrR z I I' J J' ∧ ∀ j, j < 41 → I' (z + 96) j = bD (hdT W H L V T f c j) := by
  intro d
  induction d with
  | zero =>
    intro k g I J hk hg hX hT hx
    obtain ⟨g, rfl⟩ : ∃ m, g = m + 1 := ⟨g - 1, by omega⟩
    obtain rfl : k = 41 := by omega
    refine ⟨I, J, ?_, FrR.rf z I J, hx⟩
    rw [f_X11_time_L50]
    simp only [jn]
    rw [if_pos (by decide)]
  | succ d ih =>
    intro k g I J hk hg hX hT hx
    obtain ⟨g, rfl⟩ : ∃ m, g = m + 1 := ⟨g - 1, by omega⟩
    rw [if_pos (show k ≤ 40 by omega)] at hT
    have hWk := plS_W (L := L) (V := V) hD hW k (by omega)
    have hv6 := hX.2.2.1
    obtain ⟨g1, eg, eh⟩ := s_hasF (n := n) (J := J) (t := t) (u := u) hn hD hX.1 (by omega) hWk hT hf hc
    have hX1 : CxR z t W H 680 L V (upr I (z + 93) g1) := hX.u93
    have u96 : up2 (upr I (z + 93) g1) (z + 96) k (bD (hasT W (W * H) (plS W H L V T k) f c)) = upr (upr I (z + 93) g1) (z + 96) (ur (I (z + 96)) k (bD (hasT W (W * H) (plS W H L V T k) f c))) := by rw [up2_upr1, upr_ne (by omega)]
    have f96 : ∀ h : Nat → Int32, FrR z (upr I (z + 93) g1) (upr (upr I (z + 93) g1) (z + 96) h) J J := fun h => ⟨fun q hq => upr_ne (by omega), fun j _ _ => by rw [upr_ne (by omega)], fun j _ => by rw [upr_ne (by omega)], fun _ _ => rfl⟩
    have hf2 : FrR z I (upr (upr I (z + 93) g1) (z + 96) (ur (I (z + 96)) k (bD (hasT W (W * H) (plS W H L V T k) f c)))) J J := FrR.u93.tr (f96 _)
    have hX2 : CxR z t W H 680 L V (upr (upr I (z + 93) g1) (z + 96) (ur (I (z + 96)) k (bD (hasT W (W * H) (plS W H L V T k) f c)))) := hX.fr hf2 (by rw [upr_ne (by omega), upr_ne (by omega)]; exact hX.1.2.2.2)
    have hT2 : RefT z (W * H) 680 (upr (upr I (z + 93) g1) (z + 96) (ur (I (z + 96)) k (bD (hasT W (W * H) (plS W H L V T k) f c)))) (plS W H L V T k) := by unfold RefT; rw [upr_ne (by omega), upr_ne (by omega)]; exact hT
    have hx2 : ∀ j, j < k + 1 → ur (I (z + 96)) k (bD (hasT W (W * H) (plS W H L V T k) f c)) j = bD (hdT W H L V T f c j) := fun j hj => by
      by_cases hjk : j = k
      · subst hjk; rw [ur_at]; rfl
      · rw [ur_ne _ _ hjk]; exact hx j (by omega)
    rw [f_X11_time_L50]
    simp only [jn, bd]
    rw [if_neg (show ¬ (40 : Int32) < nI k by rw [show (40 : Int32) = nI 40 from rfl, nI_lt' (by omega) (by omega)]; omega), eg, cv_some, g83_35, eh, cl_some, n96, ck_t (inb_nI (by omega) (by omega)), zb_bD, cl_nI (by omega), sI_mk, u96, show nI k + (1 : Int32) = nI (k + 1) from nI_pl k 1]
    by_cases h40 : k = 40
    · subst h40
      rw [if_pos (by decide)]
      obtain ⟨I', J', e2, r4, r5⟩ := ih 41 g _ J (by omega) (by omega) hX2 (by rw [if_neg (by omega)]; exact hT2) (fun j hj => by rw [upr_at]; exact hx2 j hj)
      exact ⟨I', J', e2, hf2.tr r4, r5⟩
    · obtain ⟨p1, p2, p3⟩ := hX2.2.2.2.2.2 k (by omega)
      obtain ⟨I3, J3, e3, r3, r4, hX3⟩ := s_blowT (n := n) (J := J) (u := u) hn hD (by omega) (by omega) hX2 hWk hT2 (v := vp V k) (by omega)
      rw [if_neg (show ¬ (40 : Int32) ≤ nI k by rw [show (40 : Int32) = nI 40 from rfl, nI_le' (by omega) (by omega)]; omega), g83_0, n84, show (125 : Int32) + nI k = nI (125 + k) from nI_pl 125 k, ck_t (inb_nI (by omega) (by omega)), cl_nI (by omega), mI_mk, p1, e3, cl_some]
      obtain ⟨I', J', e2, r5, r6⟩ := ih (k + 1) g I3 J3 (by omega) (by omega) hX3 (by rw [if_pos (by omega)]; exact r3) (fun j hj => by rw [r4.1 (z + 96) (by omega), upr_at]; exact hx2 j hj)
      exact ⟨I', J', e2, hf2.tr ((r4.frr (by omega)).tr r5), r6⟩
theorem time_R2 {I : Nat → Nat → Int32} {J : Nat → Nat → Int64} {f c r : Nat} (hr1 : 1 ≤ r) (hr : r ≤ 20) (hx : ∀ j, j < 41 → I (z + 96) j = bD (hdT W H L V T f c j)) : ∀ (d k g : Nat), k + d = 41 - r → d < g → f_X11_time_L110 n (z + 83) (nI r) g (nI k) (mk z (W * H) I J t u) = some (fstT W H L V T f c r d k, mk z (W * H) I J t u) := by
  intro d
  induction d with
  | zero =>
    intro k g hk hg
    obtain ⟨g, rfl⟩ : ∃ m, g = m + 1 := ⟨g - 1, by omega⟩
    rw [f_X11_time_L110]
    simp only [jn]
    rw [nI_pl, if_pos (show (40 : Int32) < nI (k + r) by rw [show (40 : Int32) = nI 40 from rfl, nI_lt' (by omega) (by omega)]; omega)]
    split <;> rfl
  | succ d ih =>
    intro k g hk hg
    obtain ⟨g, rfl⟩ : ∃ m, g = m + 1 := ⟨g - 1, by omega⟩
    have h1 : mI (mk z (W * H) I J t u) (z + 96) k = bD (hdT W H L V T f c k) := hx k (by omega)
    have h2 : mI (mk z (W * H) I J t u) (z + 96) (k + r) = bD (hdT W H L V T f c (k + r)) := hx (k + r) (by omega)
    rw [f_X11_time_L110]
    simp only [jn, bd]
    rw [if_neg (show ¬ (40 : Int32) ≤ nI k by rw [show (40 : Int32) = nI 40 from rfl, nI_le' (by omega) (by omega)]; omega), nI_pl, if_neg (show ¬ (40 : Int32) < nI (k + r) by rw [show (40 : Int32) = nI 40 from rfl, nI_lt' (by omega) (by omega)]; omega), g83_35, n96, ck_t (inb_nI (by omega) (by omega)), cl_nI (show k < 1000000 by omega), g83_35, n96, ck_t (inb_nI (by omega) (by omega)), cl_nI (show k + r < 1000000 by omega), show nI k + (1 : Int32) = nI (k + 1) from nI_pl k 1, fstT]
    by_cases p1 : hdT W H L V T f c k
    · rw [if_neg (show ¬ mI (mk z (W * H) I J t u) (z + 96) k = 0 by rw [h1, bD_t p1]; decide)]
      by_cases p2 : hdT W H L V T f c (k + r)
      · rw [if_neg (show ¬ mI (mk z (W * H) I J t u) (z + 96) (k + r) = 0 by rw [h2, bD_t p2]; decide), if_pos (dec_t.mpr ⟨p1, p2⟩)]
      · rw [if_pos (show mI (mk z (W * H) I J t u) (z + 96) (k + r) = 0 by rw [h2, bD_f p2]), if_neg (fun w => p2 (dec_t.mp w).2)]
        exact ih (k + 1) g (by omega) (by omega)
    · rw [if_pos (show mI (mk z (W * H) I J t u) (z + 96) k = 0 by rw [h1, bD_f p1]), if_neg (fun w => p1 (dec_t.mp w).1)]
      exact ih (k + 1) g (by omega) (by omega)
theorem Op_time_ok {Q : Nat} : Op_time z (Rel z (TXx z) Q) := by
  intro n hn S a b r hR
  obtain ⟨W, H, I, J, t, u, V, L, T, rfl, hD, hRI, hXC, hXR, hW, hTc, hTr⟩ := hR.op
  have hC := hD.C
  have hv6 := hXC.2.2.1
  have m6 : mI (mk z (W * H) I J t u) (z + 1) 6 = nI (vn V) := hXC.2.2.2.1
  have no : (f_X10_time n z a b r (mk z (W * H) I J t u) = some (-1, mk z (W * H) I J t u)) → (f_X11_time n (z + 83) a b r (mk z (W * H) I J t u) = some (-1, mk z (W * H) I J t u)) → ∃ (x : Int32) (S1 S2 : MS), f_X10_time n z a b r (mk z (W * H) I J t u) = some (x, S1) ∧ f_X11_time n (z + 83) a b r S1 = some (x, S2) ∧ Rel z (TXx z) Q S2 := fun e1 e2 => ⟨_, _, _, e1, e2, Rel.cl hD hRI⟩
  by_cases c1 : ¬ a < 0 ∧ ¬ (6 : Int32) ≤ a
  rotate_left
  · refine no ?_ ?_
    · unfold f_X10_time; rw [s_isFarmerC, cl_some, ite_bI, if_neg c1]
    · unfold f_X11_time; rw [s_isFarmerR, cl_some, ite_bI, if_neg c1]
  obtain ⟨f, hf, rfl⟩ := nI_nm (N := 6) c1.1 c1.2 (by omega)
  have cm : (¬ b < 0 ∧ ¬ mI (mk z (W * H) I J t u) (z + 30) 2 ≤ b) ↔ (¬ b < 0 ∧ ¬ nI (W * H) ≤ b) := by rw [mI_mk, hXC.1.2.2.1]
  by_cases c2 : ¬ b < 0 ∧ ¬ nI (W * H) ≤ b
  rotate_left
  · refine no ?_ ?_
    · unfold f_X10_time; rw [s_isFarmerC, cl_some, ite_bI, if_pos c1, g0z_0, s_holds, cl_some, ite_bI, if_neg (fun w => c2 (cm.mp w))]
    · unfold f_X11_time; rw [s_isFarmerR, cl_some, ite_bI, if_pos c1, s_isCellR _ hXR.1.2.2.1 (by omega), cl_some, ite_bI, if_neg c2]
  obtain ⟨c, hc, rfl⟩ := nI_nm c2.1 c2.2 (by omega)
  by_cases c3 : ¬ r < 1 ∧ ¬ (20 : Int32) < r
  rotate_left
  · refine no ?_ ?_
    · unfold f_X10_time
      rw [s_isFarmerC, cl_some, ite_bI, if_pos c1, g0z_0, s_holds, cl_some, ite_bI, if_pos (cm.mpr c2)]
      by_cases d1 : r < 1
      · rw [if_pos d1]
      · rw [if_neg d1, if_pos (Classical.byContradiction fun w => c3 ⟨d1, w⟩)]
    · unfold f_X11_time
      rw [s_isFarmerR, cl_some, ite_bI, if_pos c1, s_isCellR _ hXR.1.2.2.1 (by omega), cl_some, ite_bI, if_pos c2, s_isIn, cl_some, ite_bI, if_neg (fun w => c3 (in_r.mp w))]
  obtain ⟨q, hq, rfl⟩ := nI_nm (a := r) (N := 21) (fun w => c3.1 (by rw [i32_lt] at w ⊢; have : (1 : Int32).toInt = 1 := rfl; have : (0 : Int32).toInt = 0 := rfl; omega)) (fun w => c3.2 (by rw [i32_le, nI_t (by omega)] at w; rw [i32_lt]; have : (20 : Int32).toInt = 20 := rfl; omega)) (by omega)
  have hq1 : 1 ≤ q := by
    have := c3.1
    rw [show (1 : Int32) = nI 1 from rfl, nI_lt' (by omega) (by omega)] at this; omega
  by_cases hv : vn V = 0
  · refine no ?_ ?_
    · unfold f_X10_time
      rw [s_isFarmerC, cl_some, ite_bI, if_pos c1, g0z_0, s_holds, cl_some, ite_bI, if_pos (cm.mpr c2), if_neg c3.1, if_neg c3.2, g0z_3, if_pos (by rw [m6, hv]; rfl)]
    · unfold f_X11_time
      rw [s_isFarmerR, cl_some, ite_bI, if_pos c1, s_isCellR _ hXR.1.2.2.1 (by omega), cl_some, ite_bI, if_pos c2, s_isIn, cl_some, ite_bI, if_pos (in_r.mpr c3), g83_0, n84, ck_t (by decide), if_pos (show mI (mk z (W * H) I J t u) (z + 84) (2 : Int32).toNatClampNeg = 0 by rw [show (2 : Int32).toNatClampNeg = 2 from rfl, mI_mk, hXR.2.2.2.1, hv]; rfl)]
  · have eh := s_isHad (n := n) (t := t) (u := u) hn hD hXC.1 (Or.inl rfl) hW hTc hf hc
    obtain ⟨I1, J1, e1, f1, r1, -⟩ := s_copy0 (n := n) (t := t) (u := u) hC isP48 (Or.inl rfl) (by omega) (by omega) hTc hW.1
    have start : ∀ x : Int64, (∀ j, j < 64 → (bt x j = true ↔ j ≤ 0 ∧ hdT W H L V T f c j)) → ∃ I2 J2, f_X2_firstSowing_L35 n (z + 46) (nI f) (nI c) (nI q) (fun (x23 : Int64) (S24 : MS) => f_X2_firstSowing_L87 n (nI q) x23 n (0 : Int32) S24) n x (0 : Int32) (mk z (W * H) I1 J1 t u) = some (fstT W H L V T f c q (41 - q) 0, mk z (W * H) I2 J2 t u) ∧ FrC z I1 I2 J1 J2 := fun x hx => by
      obtain ⟨x', I2, J2, e2, f2, hx'⟩ := time_C1 (n := n) (u := u) hn hD hW (by omega) hf hc (nI q) (fun (x23 : Int64) (S24 : MS) => f_X2_firstSowing_L87 n (nI q) x23 n (0 : Int32) S24) 40 0 n x I1 J1 rfl (by omega) (hXC.fr f1) r1 hx
      exact ⟨I2, J2, e2.trans (time_C2 hq1 (by omega) hx' (41 - q) 0 n (by omega) (by omega)), f2⟩
    obtain ⟨I2, J2, e2, f2⟩ : ∃ I2 J2, f_X2_firstSowing n (z + 46) (nI f) (nI c) (nI q) (mk z (W * H) I J t u) = some (fstT W H L V T f c q (41 - q) 0, mk z (W * H) I2 J2 t u) ∧ FrC z I1 I2 J1 J2 := by
      unfold f_X2_firstSowing
      simp only [jn]
      rw [g46_3, eh, cl_some]
      by_cases h : hasT W (W * H) T f c
      · rw [if_neg (by rw [bD_t h]; decide), g46_6, n47, ck_t (by decide), gT0, g46_3, e1, cv_some]
        refine start 1 (fun j hj => ?_)
        rw [bt_1, decide_eq_true_eq]
        constructor
        · intro w; subst w; exact ⟨Nat.le_refl _, h⟩
        · rintro ⟨w, -⟩; omega
      · rw [if_pos (by rw [bD_f h]), g46_6, n47, ck_t (by decide), gT0, g46_3, e1, cv_some]
        refine start 0 (fun j hj => ?_)
        rw [bt_0]
        constructor
        · intro w; cases w
        · rintro ⟨w, w2⟩
          obtain rfl : j = 0 := by omega
          exact absurd w2 h
    have fc := f1.tr f2
    have hX2 := hXR.frc fc
    obtain ⟨I4, I3, e3, e4, f3, r3, -, hX4⟩ := s_tryR (n := n) (J := J2) (u := u) hn hX2 (hTr.frc fc)
    obtain ⟨I5, J5, e5, f5, h5⟩ := time_R1 (n := n) (u := u) (T := T) hn hD hW (by omega) hf hc (nI q) (fun (S24 : MS) => cv (f_X11_tries n (z + 83) (0 : Int32) S24) fun S25 => f_X11_time_L110 n (z + 83) (nI q) n (0 : Int32) S25) 41 0 n I4 J2 rfl (by omega) hX4 (by rw [if_pos (by omega)]; exact r3) (fun j hj => by omega)
    have e6 := time_R2 (n := n) (z := z) (W := W) (H := H) (I := up2 I5 (z + 83) 4 (nI 0)) (J := J5) (t := t) (u := u) (L := L) (V := V) (T := T) (f := f) (c := c) hq1 (by omega) (fun j hj => by rw [up2_ne (by omega)]; exact h5 j hj) (41 - q) 0 n (by omega) (by omega)
    refine ⟨fstT W H L V T f c q (41 - q) 0, mk z (W * H) I2 J2 t u, mk z (W * H) (up2 I5 (z + 83) 4 (nI 0)) J5 t u, ?_, ?_, Rel.cl hD (hRI.back0 fc (f3.tr (f5.tr FrR.b)) (by rw [up2_at, if_pos rfl]; rfl))⟩
    · unfold f_X10_time
      rw [s_isFarmerC, cl_some, ite_bI, if_pos c1, g0z_0, s_holds, cl_some, ite_bI, if_pos (cm.mpr c2), if_neg c3.1, if_neg c3.2, g0z_3, if_neg (by rw [m6, show (0 : Int32) = nI 0 from rfl, nI_inj (by omega) (by omega)]; exact hv), g0z_10, e2, cl_some]
    · unfold f_X11_time
      simp only [jn]
      rw [s_isFarmerR, cl_some, ite_bI, if_pos c1, s_isCellR _ hX2.1.2.2.1 (by omega), cl_some, ite_bI, if_pos c2, s_isIn, cl_some, ite_bI, if_pos (in_r.mpr c3), g83_0, n84, ck_t (by decide), if_neg (show ¬ mI (mk z (W * H) I2 J2 t u) (z + 84) (2 : Int32).toNatClampNeg = 0 by rw [show (2 : Int32).toNatClampNeg = 2 from rfl, mI_mk, hX2.2.2.2.1, show (0 : Int32) = nI 0 from rfl, nI_inj (by omega) (by omega)]; exact hv), e3, cv_some, e4, cv_some]
      refine Eq.trans e5 ?_
      rw [show (0 : Int32) = nI 0 from rfl, s_tries, cv_some]
      exact e6
end TI
