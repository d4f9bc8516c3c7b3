/-! BEST keeps the relation -/
abbrev BT : Type := Int32 × Int32 × Int32
noncomputable def bs1 (W H : Nat) (L : Option XT) (V : VT) (f m : Nat) (T : TP) (i s : Nat) (st : BT) : BT := match ngT W H T i s with
  | none => st
  | some d => if mnT W H L V f m (lieT (layT T i d) i 0) ≤ st.1 then st else (mnT W H L V f m (lieT (layT T i d) i 0), nI i, nI s)
noncomputable def bsS (W H : Nat) (L : Option XT) (V : VT) (f m : Nat) (T : TP) (i : Nat) : Nat → Nat → BT → BT
  | 0, _, st => st
  | e + 1, s, st => bsS W H L V f m T i e (s + 1) (bs1 W H L V f m T i s st)
noncomputable def bbS (W H : Nat) (L : Option XT) (V : VT) (f m : Nat) (T : TP) : Nat → Nat → BT → BT
  | 0, _, st => st
  | e + 1, i, st => bbS W H L V f m T e (i + 1) (bsS W H L V f m T i 4 0 st)
def okB (st : BT) : Prop := st.2.1 = -1 ∨ (0 : Int32) ≤ st.2.1
section BE
variable {n z t W H M : Nat} {u : Option Nat} {L : Option XT} {V : VT} {T : TP}
theorem bs1_n {f m i s : Nat} {st : BT} (e : ngT W H T i s = none) : bs1 W H L V f m T i s st = st := by
  unfold bs1; rw [e]
theorem bs1_k {f m i s d : Nat} {st : BT} (e : ngT W H T i s = some d) (h : mnT W H L V f m (lieT (layT T i d) i 0) ≤ st.1) : bs1 W H L V f m T i s st = st := by
  unfold bs1; rw [e]
  show (if _ then _ else _) = _
  rw [if_pos h]
theorem bs1_y {f m i s d : Nat} {st : BT} (e : ngT W H T i s = some d) (h : ¬ mnT W H L V f m (lieT (layT T i d) i 0) ≤ st.1) : bs1 W H L V f m T i s st = (mnT W H L V f m (lieT (layT T i d) i 0), nI i, nI s) := by
  unfold bs1; rw [e]
  show (if _ then _ else _) = _
  rw [if_neg h]
theorem bs1_ok {f m i s : Nat} {st : BT} (hi : i < 24) (h : okB st) : okB (bs1 W H L V f m T i s st) := by
  cases e : ngT W H T i s with
  | none => rw [bs1_n e]; exact h
  | some d =>
    by_cases q : mnT W H L V f m (lieT (layT T i d) i 0) ≤ st.1
    · rw [bs1_k e q]; exact h
    · rw [bs1_y e q]
      refine Or.inr ?_
      show (0 : Int32) ≤ nI i
      rw [show (0 : Int32) = nI 0 from rfl, nI_le' (by omega) (by omega)]; omega
theorem bsS_ok {f m i : Nat} (hi : i < 24) : ∀ e s st, okB st → okB (bsS W H L V f m T i e s st)
  | 0, _, _, h => h
  | e + 1, s, st, h => bsS_ok hi e (s + 1) _ (bs1_ok hi h)
theorem bbS_ok {f m : Nat} : ∀ e i st, i + e ≤ 24 → okB st → okB (bbS W H L V f m T e i st)
  | 0, _, _, _, h => h
  | e + 1, i, st, hi, h => bbS_ok e (i + 1) _ (by omega) (bsS_ok (by omega) 4 0 st h)
theorem RefT.frr0 {C : Nat} {I I' : Nat → Nat → Int32} {J J' : Nat → Nat → Int64} (h : RefT z C 0 I T) (hf : FrR z I I' J J') : RefT z C 0 I' T := by
  unfold RefT
  rw [pa_congr (a := I (z + 84)) (fun j hj => hf.2.2.1 _ (by have := plj_b hj; omega))]
  exact h
/-- the class's best so far -/
def BsC (z : Nat) (I : Nat → Nat → Int32) (st : BT) : Prop := I (z + 46) 0 = st.2.1 ∧ I (z + 46) 1 = st.2.2 ∧ I (z + 46) 2 = st.1
theorem bst_C (hn : 100000 ≤ n) (hD : dims W H) (hW : TW (W * H) 999 T) {f m i : Nat} (hf : f < 6) (hm : m ≤ 4) (hi : i < tk T) (K : MS → Option MS) : ∀ (e s k : Nat) (I : Nat → Nat → Int32) (J : Nat → Nat → Int64) (st : BT), s + e = 4 → e < k → CxC z t W H L V I J → ClsT z (W * H) 32 I J T → BsC z I st → ∃ I' J', f_X2_seekNight_L49 n (z + 46) (nI f) (nI m) (nI i) K k (nI s) (mk z (W * H) I J t u) = K (mk z (W * H) I' J' t u) ∧ FrC z I I' J J' ∧ BsC z I' (bsS W H L V f m T i e s st) := by
  have hC := hD.C
  have h24 := hW.1
  intro e
  induction e with
  | zero =>
    intro s k I J st hs hk hX hT hB
    obtain ⟨k, rfl⟩ : ∃ m, k = m + 1 := ⟨k - 1, by omega⟩
    obtain rfl : s = 4 := by omega
    refine ⟨I, J, ?_, FrC.rf z I J, hB⟩
    rw [f_X2_seekNight_L49]
    simp only [jn]
    rw [if_pos (by decide)]
  | succ e ih =>
    intro s k I J st hs hk hX hT hB
    obtain ⟨k, rfl⟩ : ∃ m, k = m + 1 := ⟨k - 1, by omega⟩
    have e1 : nI s + (1 : Int32) = nI (s + 1) := nI_pl s 1
    have eC := s_nightC (n := n) (t := t) (u := u) hD hX.1 hW hT hi (show s < 4 by omega)
    rw [f_X2_seekNight_L49]
    simp only [jn, bd]
    rw [if_neg (show ¬ (4 : Int32) ≤ nI s by rw [show (4 : Int32) = nI 4 from rfl, nI_le' (by omega) (by omega)]; omega), g46_3, eC, cl_some, e1]
    cases eg : ngT W H T i s with
    | none =>
      obtain ⟨I', J', x1, x2, x3⟩ := ih (s + 1) k I J st (by omega) (by omega) hX hT hB
      refine ⟨I', J', ?_, x2, ?_⟩
      · rw [if_pos (show oI none = -1 from rfl)]; exact x1
      · rw [bsS, bs1_n eg]; exact x3
    | some d =>
      obtain ⟨hst, hop⟩ := ngT_some eg
      have hd := stp_lt hD.1 hD.2.1 hst
      obtain ⟨I1, J1, y1, f1, r1, q1, q1J⟩ := s_copy0 (n := n) (t := t) (u := u) hC isP48 (Or.inl rfl) (by omega) (by omega) hT h24
      obtain ⟨I2, J2, y2, r2, q2, q2J, -⟩ := s_shift (n := n) (t := t) (u := u) hD isP48 hW r1 hi hd hop
      have f2 : FrC z I I2 J J2 := f1.tr ⟨fun q hq => q2 q (by omega) (by omega) (by omega), fun q hq => q2J q (by omega)⟩
      have i46 : I2 (z + 46) = I (z + 46) := (q2 _ (by omega) (by omega) (by omega)).trans (q1 _ (by omega))
      obtain ⟨I3, J3, y3, f3, k3⟩ := s_meanC (n := n) (u := u) hn hD hf hm (hX.fr f2) ((hW.lay hi hd hop).lie (by omega)) r2
      have f23 := f2.tr f3
      have B3 : BsC z I3 st := ⟨by rw [k3 0 (by omega), i46]; exact hB.1, by rw [k3 1 (by omega), i46]; exact hB.2.1, by rw [k3 2 (by omega), i46]; exact hB.2.2⟩
      have m2 : mI (mk z (W * H) I3 J3 t u) (z + 46) 2 = st.1 := B3.2.2
      have hpre : (if oI (some d) = (-1 : Int32) then f_X2_seekNight_L49 n (z + 46) (nI f) (nI m) (nI i) K k (nI (s + 1)) (mk z (W * H) I J t u) else gR (mk z (W * H) I J t u) (mR (mk z (W * H) I J t u) (z + 46) 6) 15 fun q45 => ck (inb (0 : Int32) (mN (mk z (W * H) I J t u) q45)) (gR (mk z (W * H) I J t u) (mR (mk z (W * H) I J t u) q45 (0 : Int32).toNatClampNeg) 3 fun q48 => gR (mk z (W * H) I J t u) (mR (mk z (W * H) I J t u) (z + 46) 3) 3 fun q50 => cv (f_X3_copyFrom n q48 q50 (mk z (W * H) I J t u)) fun S52 => gR S52 (mR S52 (z + 46) 6) 15 fun q55 => ck (inb (0 : Int32) (mN S52 q55)) (gR S52 (mR S52 q55 (0 : Int32).toNatClampNeg) 3 fun q58 => cv (f_X3_shift n q58 (nI i) (oI (some d)) S52) fun S60 => cl (f_X2_meanOfTried n (z + 46) (nI f) (nI m) S60) fun x66 S63 => cv (f_X2_keepIfBetter n (z + 46) (nI i) (nI s) x66 S63) fun S67 => f_X2_seekNight_L49 n (z + 46) (nI f) (nI m) (nI i) K k (nI (s + 1)) S67))) = cv (f_X2_keepIfBetter n (z + 46) (nI i) (nI s) (mnT W H L V f m (lieT (layT T i d) i 0)) (mk z (W * H) I3 J3 t u)) fun S67 => f_X2_seekNight_L49 n (z + 46) (nI f) (nI m) (nI i) K k (nI (s + 1)) S67 := by
        rw [if_neg (show ¬ oI (some d) = -1 from nI_nm1 (by omega)), g46_6, n47, ck_t (by decide), gT0, g46_3, y1, cv_some, g46_6, n47, ck_t (by decide), gT0, show oI (some d) = nI d from rfl, y2, cv_some, y3, cl_some]
      refine (fun P => P) ?_
      by_cases q : mnT W H L V f m (lieT (layT T i d) i 0) ≤ st.1
      · obtain ⟨I', J', x1, x2, x3⟩ := ih (s + 1) k I3 J3 st (by omega) (by omega) (hX.fr f23) (hT.keep (fun i hi => f23.1 _ (by omega)) (f23.2 _ (by omega))) B3
        refine ⟨I', J', hpre.trans ?_, f23.tr x2, ?_⟩
        · unfold f_X2_keepIfBetter
          rw [if_pos (show _ ≤ mI (mk z (W * H) I3 J3 t u) (z + 46) 2 by rw [m2]; exact q), cv_some]; exact x1
        · rw [bsS, bs1_k eg q]; exact x3
      · obtain ⟨I4, hI4⟩ : ∃ I4, I4 = up2 (up2 (up2 I3 (z + 46) 0 (nI i)) (z + 46) 1 (nI s)) (z + 46) 2 (mnT W H L V f m (lieT (layT T i d) i 0)) := ⟨_, rfl⟩
        have f4 : FrC z I I4 J J3 := f23.tr ⟨fun q hq => by rw [hI4, up2_ne (by omega), up2_ne (by omega), up2_ne (by omega)], fun q hq => rfl⟩
        have B4 : BsC z I4 (bs1 W H L V f m T i s st) := by
          rw [bs1_y eg q]
          refine ⟨?_, ?_, ?_⟩
          · rw [hI4, up2_r, up2_r, up2_r, ur_ne _ _ (by omega), ur_ne _ _ (by omega), ur_at]
          · rw [hI4, up2_r, up2_r, up2_r, ur_ne _ _ (by omega), ur_at]
          · rw [hI4, up2_r, ur_at]
        obtain ⟨I', J', x1, x2, x3⟩ := ih (s + 1) k I4 J3 _ (by omega) (by omega) (hX.fr f4) (hT.keep (fun i hi => f4.1 _ (by omega)) (f4.2 _ (by omega))) B4
        refine ⟨I', J', hpre.trans ?_, f4.tr x2, x3⟩
        unfold f_X2_keepIfBetter
        simp only [bd]
        rw [if_neg (show ¬ _ ≤ mI (mk z (W * H) I3 J3 t u) (z + 46) 2 by rw [m2]; exact q), sI_mk, sI_mk, sI_mk, ← hI4, cv_some]; exact x1
theorem bbn_C (hn : 100000 ≤ n) (hD : dims W H) (hW : TW (W * H) 999 T) {f m : Nat} (hf : f < 6) (hm : m ≤ 4) : ∀ (e i k : Nat) (I : Nat → Nat → Int32) (J : Nat → Nat → Int64) (st : BT), i + e = tk T → e < k → CxC z t W H L V I J → ClsT z (W * H) 32 I J T → BsC z I st → ∃ I' J', f_X2_seekNight_L35 n (z + 46) (nI f) (nI m) k (nI i) (mk z (W * H) I J t u) = some (mk z (W * H) I' J' t u) ∧ FrC z I I' J J' ∧ BsC z I' (bbS W H L V f m T e i st) := by
  have h24 := hW.1
  intro e
  induction e with
  | zero =>
    intro i k I J st hi hk hX hT hB
    obtain ⟨k, rfl⟩ : ∃ m, k = m + 1 := ⟨k - 1, by omega⟩
    have m7 : mI (mk z (W * H) I J t u) (z + 32) 7 = nI (tk T) := hT.1
    refine ⟨I, J, ?_, FrC.rf z I J, hB⟩
    rw [f_X2_seekNight_L35]
    simp only [jn]
    rw [g46_3, m7, if_pos ((nI_le' (by omega) (by omega)).mpr (by omega))]
  | succ e ih =>
    intro i k I J st hi hk hX hT hB
    obtain ⟨k, rfl⟩ : ∃ m, k = m + 1 := ⟨k - 1, by omega⟩
    have m7 : mI (mk z (W * H) I J t u) (z + 32) 7 = nI (tk T) := hT.1
    have e1 : nI i + (1 : Int32) = nI (i + 1) := nI_pl i 1
    obtain ⟨I1, J1, x1, x2, x3⟩ := bst_C (n := n) (z := z) (t := t) (u := u) (L := L) (V := V) hn hD hW hf hm (show i < tk T by omega) (fun S29 => f_X2_seekNight_L35 n (z + 46) (nI f) (nI m) k (nI (i + 1)) S29) 4 0 n I J st (by omega) (by omega) hX hT hB
    obtain ⟨I', J', y1, y2, y3⟩ := ih (i + 1) k I1 J1 _ (by omega) (by omega) (hX.fr x2) (hT.keep (fun i hi => x2.1 _ (by omega)) (x2.2 _ (by omega))) x3
    refine ⟨I', J', ?_, x2.tr y2, y3⟩
    rw [f_X2_seekNight_L35]
    simp only [jn, bd]
    rw [g46_3, m7, if_neg (show ¬ nI (tk T) ≤ nI i by rw [nI_le' (by omega) (by omega)]; omega), e1, show (0 : Int32) = nI 0 from rfl]
    exact x1.trans y1
theorem bst_R (hn : 100000 ≤ n) (hD : dims W H) (hW : TW (W * H) 999 T) {f m i : Nat} (hf : f < 6) (hm : m ≤ 4) (hi : i < tk T) (a3 : Int32) (K : Int32 → Int32 → Int32 → MS → Option (Int32 × MS)) : ∀ (e s k : Nat) (I : Nat → Nat → Int32) (J : Nat → Nat → Int64) (st : BT), s + e = 4 → e < k → CxR z t W H 0 L V I → RefT z (W * H) 0 I T → ∃ I' J', f_X11_best_L65 n (z + 83) (nI f) (nI m) a3 (nI i) K k st.1 st.2.1 st.2.2 (nI s) (mk z (W * H) I J t u) = K (bsS W H L V f m T i e s st).1 (bsS W H L V f m T i e s st).2.1 (bsS W H L V f m T i e s st).2.2 (mk z (W * H) I' J' t u) ∧ FrR z I I' J J' ∧ CxR z t W H 0 L V I' := by
  have hC := hD.C
  intro e
  induction e with
  | zero =>
    intro s k I J st hs hk hX hT
    obtain ⟨k, rfl⟩ : ∃ m, k = m + 1 := ⟨k - 1, by omega⟩
    obtain rfl : s = 4 := by omega
    refine ⟨I, J, ?_, FrR.rf z I J, hX⟩
    rw [f_X11_best_L65]
    simp only [jn]
    rw [if_pos (by decide)]
    rfl
  | succ e ih =>
    intro s k I J st hs hk hX hT
    obtain ⟨k, rfl⟩ : ∃ m, k = m + 1 := ⟨k - 1, by omega⟩
    have e1 : nI s + (1 : Int32) = nI (s + 1) := nI_pl s 1
    have eR := s_stepR (n := n) (J := J) (t := t) (u := u) hn hD hX.1 (by omega) hW hT hi (show s < 4 by omega)
    rw [f_X11_best_L65]
    simp only [jn, bd]
    rw [if_neg (show ¬ (4 : Int32) ≤ nI s by rw [show (4 : Int32) = nI 4 from rfl, nI_le' (by omega) (by omega)]; omega), eR, cl_some, e1]
    cases eg : ngT W H T i s with
    | none =>
      obtain ⟨I', J', x1, x2, x3⟩ := ih (s + 1) k I J st (by omega) (by omega) hX hT
      refine ⟨I', J', ?_, x2, x3⟩
      rw [if_neg (show ¬ (0 : Int32) ≤ oI none by decide), bsS, bs1_n eg]; exact x1
    | some d =>
      obtain ⟨hst, hop⟩ := ngT_some eg
      have hd := stp_lt hD.1 hD.2.1 hst
      obtain ⟨I1, I2, y1, y2, f1, r1, r0, hX1⟩ := s_tryR (n := n) (J := J) (u := u) hn hX hT
      obtain ⟨g, y3, r3, g3⟩ := s_moveR (n := n) (J := J) (t := t) (u := u) hD hX1.1 (by omega) hW r1 hi hd hop
      have f2 : FrR z I (upr I1 (z + 84) g) J J := f1.tr ⟨fun q hq => upr_ne (by omega), fun j _ _ => by rw [upr_ne (by omega)], fun j hj => by rw [upr_at]; exact g3.1 j (Or.inl hj), fun _ _ => rfl⟩
      have hX2 : CxR z t W H 680 L V (upr I1 (z + 84) g) := hX.fr f2 (by rw [upr_ne (by omega)]; exact hX1.1.2.2.2)
      obtain ⟨I3, J3, y4, f3, h3⟩ := s_meanR (n := n) (J := J) (u := u) hn hD hf hm hX2 ((hW.lay hi hd hop).lie (by omega)) r3
      have f23 := f2.tr f3
      have hX3 : CxR z t W H 0 L V I3 := hX.fr f23 (by rw [h3]; rfl)
      have hd0 : (0 : Int32) ≤ oI (some d) := by
        show (0 : Int32) ≤ nI d
        rw [show (0 : Int32) = nI 0 from rfl, nI_le' (by omega) (by omega)]; omega
      by_cases q : mnT W H L V f m (lieT (layT T i d) i 0) ≤ st.1
      · obtain ⟨I', J', x1, x2, x3⟩ := ih (s + 1) k I3 J3 st (by omega) (by omega) hX3 (hT.frr0 f23)
        refine ⟨I', J', ?_, f23.tr x2, x3⟩
        rw [if_pos hd0, y1, cv_some, y2, cv_some, show oI (some d) = nI d from rfl, y3, cv_some, y4, cl_some, if_neg (fun w => by rw [i32_lt] at w; rw [i32_le] at q; omega), bsS, bs1_k eg q]
        exact x1
      · obtain ⟨I', J', x1, x2, x3⟩ := ih (s + 1) k I3 J3 (bs1 W H L V f m T i s st) (by omega) (by omega) hX3 (hT.frr0 f23)
        refine ⟨I', J', ?_, f23.tr x2, x3⟩
        rw [if_pos hd0, y1, cv_some, y2, cv_some, show oI (some d) = nI d from rfl, y3, cv_some, y4, cl_some, if_pos (by rw [i32_le] at q; rw [i32_lt]; omega), bsS]
        rw [bs1_y eg q] at x1 ⊢
        exact x1
theorem bbn_R (hn : 100000 ≤ n) (hD : dims W H) (hW : TW (W * H) 999 T) {f m : Nat} (hf : f < 6) (hm : m ≤ 4) (a3 : Int32) (K : Int32 → Int32 → Int32 → MS → Option (Int32 × MS)) : ∀ (e i k : Nat) (I : Nat → Nat → Int32) (J : Nat → Nat → Int64) (st : BT), i + e = tk T → e < k → CxR z t W H 0 L V I → RefT z (W * H) 0 I T → ∃ I' J', f_X11_best_L51 n (z + 83) (nI f) (nI m) a3 K k st.1 st.2.1 st.2.2 (nI i) (mk z (W * H) I J t u) = K (bbS W H L V f m T e i st).1 (bbS W H L V f m T e i st).2.1 (bbS W H L V f m T e i st).2.2 (mk z (W * H) I' J' t u) ∧ FrR z I I' J J' ∧ CxR z t W H 0 L V I' := by
  have h24 := hW.1
  intro e
  induction e with
  | zero =>
    intro i k I J st hi hk hX hT
    obtain ⟨k, rfl⟩ : ∃ m, k = m + 1 := ⟨k - 1, by omega⟩
    have m1 : mI (mk z (W * H) I J t u) (z + 84) 1 = nI (tk T) := hT.cnt1
    refine ⟨I, J, ?_, FrR.rf z I J, hX⟩
    rw [f_X11_best_L51]
    simp only [jn]
    rw [g83_0, n84, ck_t (by decide), show (1 : Int32).toNatClampNeg = 1 from rfl, m1, if_pos ((nI_le' (by omega) (by omega)).mpr (by omega))]
    rfl
  | succ e ih =>
    intro i k I J st hi hk hX hT
    obtain ⟨k, rfl⟩ : ∃ m, k = m + 1 := ⟨k - 1, by omega⟩
    have m1 : mI (mk z (W * H) I J t u) (z + 84) 1 = nI (tk T) := hT.cnt1
    have e1 : nI i + (1 : Int32) = nI (i + 1) := nI_pl i 1
    obtain ⟨I1, J1, x1, x2, x3⟩ := bst_R (n := n) (z := z) (t := t) (u := u) (L := L) (V := V) hn hD hW hf hm (show i < tk T by omega) a3 (fun (x38 : Int32) (x39 : Int32) (x40 : Int32) (S41 : MS) => f_X11_best_L51 n (z + 83) (nI f) (nI m) a3 K k x38 x39 x40 (nI (i + 1)) S41) 4 0 n I J st (by omega) (by omega) hX hT
    obtain ⟨I', J', y1, y2, y3⟩ := ih (i + 1) k I1 J1 (bsS W H L V f m T i 4 0 st) (by omega) (by omega) x3 (hT.frr0 x2)
    refine ⟨I', J', ?_, x2.tr y2, y3⟩
    rw [f_X11_best_L51]
    simp only [jn, bd]
    rw [g83_0, n84, ck_t (by decide), show (1 : Int32).toNatClampNeg = 1 from rfl, m1, if_neg (show ¬ nI (tk T) ≤ nI i by rw [nI_le' (by omega) (by omega)]; omega), e1, show (0 : Int32) = nI 0 from rfl]
    exact x1.trans y1
theorem in02 {a : Int32} : ((0 : Int32) ≤ a ∧ a ≤ (2 : Int32)) ↔ (¬ a < 0 ∧ ¬ (2 : Int32) < a) := by
  rw [i32_le, i32_le, i32_lt, i32_lt]
  have : (0 : Int32).toInt = 0 := rfl
  omega
theorem le02 {a : Int32} : (¬ (2 : Int32) < a) ↔ a ≤ (2 : Int32) := by
  rw [i32_le, i32_lt]; omega
theorem Op_best_ok {Q : Nat} : Op_best z (Rel z (TXx z) Q) := by
  intro n hn S a b c hR
  obtain ⟨W, H, I, J, t, u, V, L, T, rfl, hD, hRI, hXC, hXR, hW, hTc, hTr⟩ := hR.op
  have hC := hD.C
  have h24 := hW.1
  have no : (f_X10_best n z a b c (mk z (W * H) I J t u) = some (-1, mk z (W * H) I J t u)) → (f_X11_best n (z + 83) a b c (mk z (W * H) I J t u) = some (-1, mk z (W * H) I J t u)) → ∃ (x : Int32) (S1 S2 : MS), f_X10_best n z a b c (mk z (W * H) I J t u) = some (x, S1) ∧ f_X11_best n (z + 83) a b c S1 = some (x, S2) ∧ Rel z (TXx z) Q S2 := fun e1 e2 => ⟨_, _, _, e1, e2, Rel.cl hD hRI⟩
  by_cases c1 : ¬ a < 0 ∧ ¬ (6 : Int32) ≤ a
  rotate_left
  · refine no ?_ ?_
    · unfold f_X10_best; rw [s_isFarmerC, cl_some, ite_bI, if_neg c1]
    · unfold f_X11_best; rw [s_isFarmerR, cl_some, ite_bI, if_neg c1]
  obtain ⟨f, hf, rfl⟩ := nI_nm (N := 6) c1.1 c1.2 (by omega)
  by_cases c2 : ¬ b < 0 ∧ ¬ (2 : Int32) < b
  rotate_left
  · refine no ?_ ?_
    · unfold f_X10_best
      rw [s_isFarmerC, cl_some, ite_bI, if_pos c1]
      by_cases d1 : b < 0
      · rw [if_pos d1]
      · rw [if_neg d1, if_pos (Decidable.of_not_not (fun w => c2 ⟨d1, w⟩))]
    · unfold f_X11_best; rw [s_isFarmerR, cl_some, ite_bI, if_pos c1, s_isIn, cl_some, ite_bI, if_neg (fun w => c2 (in02.mp w))]
  by_cases c3 : ¬ c < 0 ∧ ¬ (2 : Int32) < c
  rotate_left
  · refine no ?_ ?_
    · unfold f_X10_best
      rw [s_isFarmerC, cl_some, ite_bI, if_pos c1, if_neg c2.1, if_neg c2.2]
      by_cases d1 : c < 0
      · rw [if_pos d1]
      · rw [if_neg d1, if_neg (fun w => c3 ⟨d1, le02.mpr w⟩)]
    · unfold f_X11_best; rw [s_isFarmerR, cl_some, ite_bI, if_pos c1, s_isIn, cl_some, ite_bI, if_pos (in02.mpr c2), s_isIn, cl_some, ite_bI, if_neg (fun w => c3 (in02.mp w))]
  obtain ⟨m, hm, rfl⟩ := nI_nm (a := b) (N := 3) c2.1 (fun w => c2.2 (by rw [i32_le, nI_t (by omega)] at w; rw [i32_lt]; have : (2 : Int32).toInt = 2 := rfl; omega)) (by omega)
  -- the class
  obtain ⟨I0, hI0⟩ : ∃ I0, I0 = up2 (up2 I (z + 46) 0 (-1 : Int32)) (z + 46) 1 (-1 : Int32) := ⟨_, rfl⟩
  have f0 : FrC z I I0 J J := ⟨fun q hq => by rw [hI0, up2_ne (by omega), up2_ne (by omega)], fun _ _ => rfl⟩
  have i0 : I0 (z + 46) = ur (ur (I (z + 46)) 0 (-1)) 1 (-1) := by rw [hI0, up2_r, up2_r]
  obtain ⟨I1, J1, e1, f1, r1, q1, -⟩ := s_copy0 (n := n) (t := t) (u := u) hC isP48 (Or.inl rfl) (by omega) (by omega) (show ClsT z (W * H) 32 I0 J T from hTc.keep (fun i hi => f0.1 _ (by omega)) rfl) h24
  obtain ⟨I2, J2, e2, f2, k2⟩ := s_meanC (n := n) (u := u) hn hD hf (show m ≤ 4 by omega) (hXC.fr (f0.tr f1)) hW r1
  have f02 := (f0.tr f1).tr f2
  have f3 : FrC z I (up2 I2 (z + 46) 2 (mnT W H L V f m T)) J J2 := f02.tr ⟨fun q hq => up2_ne (by omega), fun _ _ => rfl⟩
  have B3 : BsC z (up2 I2 (z + 46) 2 (mnT W H L V f m T)) (mnT W H L V f m T, -1, -1) := by
    refine ⟨?_, ?_, ?_⟩
    · rw [up2_r, ur_ne _ _ (by omega), k2 0 (by omega), q1 _ (by omega), i0, ur_ne _ _ (by omega), ur_at]
    · rw [up2_r, ur_ne _ _ (by omega), k2 1 (by omega), q1 _ (by omega), i0, ur_at]
    · rw [up2_r, ur_at]
  obtain ⟨I4, J4, e4, f4, B4⟩ := bbn_C (n := n) (z := z) (t := t) (u := u) (L := L) (V := V) hn hD hW hf (show m ≤ 4 by omega) (tk T) 0 n _ J2 _ (by omega) (by omega) (hXC.fr f3) (hTc.keep (fun i hi => f3.1 _ (by omega)) (f3.2 _ (by omega))) B3
  have f34 := f3.tr f4
  obtain ⟨st, hst⟩ : ∃ st, st = bbS W H L V f m T (tk T) 0 (mnT W H L V f m T, -1, -1) := ⟨_, rfl⟩
  rw [← hst] at B4
  have hok : okB st := by rw [hst]; exact bbS_ok _ _ _ (by omega) (Or.inl rfl)
  have eseek : f_X2_seekNight n (z + 46) (nI f) (nI m) (mk z (W * H) I J t u) = some (mk z (W * H) I4 J4 t u) := by
    unfold f_X2_seekNight
    simp only [bd]
    rw [sI_mk, sI_mk, ← hI0, g46_6, n47, ck_t (by decide), gT0, g46_3, e1, cv_some, e2, cl_some, sI_mk, show (0 : Int32) = nI 0 from rfl]
    exact e4
  have mb0 : mI (mk z (W * H) I4 J4 t u) (z + 46) 0 = st.2.1 := B4.1
  have mb1 : mI (mk z (W * H) I4 J4 t u) (z + 46) 1 = st.2.2 := B4.2.1
  have mb2 : mI (mk z (W * H) I4 J4 t u) (z + 46) 2 = st.1 := B4.2.2
  have ecls : f_X10_best n z (nI f) (nI m) c (mk z (W * H) I J t u) = some ((if st.2.1 = -1 then -1 else if c = 0 then st.2.1 else if c = 1 then st.2.2 else st.1), mk z (W * H) I4 J4 t u) := by
    unfold f_X10_best
    rw [s_isFarmerC, cl_some, ite_bI, if_pos c1, if_neg c2.1, if_neg c2.2, if_neg c3.1, if_pos (le02.mp c3.2), g0z_10, eseek, cv_some, g0z_10, mb0, g0z_10, g0z_10, mb1, g0z_10, mb2]
    split
    · rfl
    · split
      · rw [mb0]
      · split <;> rfl
  -- the reference
  obtain ⟨I5, e5, f5, r5, h5, -⟩ := s_copyRT (n := n) (J := J4) (t := t) (u := u) hn (f := 0) (g := 2) (by omega) (by omega) (by omega) (by omega) (T := T) (show RefT z (W * H) (340 * 0) I4 T from hTr.frc f34)
  have hX5 : CxR z t W H 0 L V I5 := (hXR.frc f34).fr f5 (by rw [h5]; exact (hXR.frc f34).1.2.2.2)
  obtain ⟨I6, J6, e6, f6, h6⟩ := s_meanR (n := n) (J := J4) (u := u) hn hD hf (show m ≤ 4 by omega) hX5 hW r5
  have f56 := f5.tr f6
  have hX6 : CxR z t W H 0 L V I6 := (hXR.frc f34).fr f56 (by rw [h6]; rfl)
  have e5' : f_X11_copy n (z + 83) (0 : Int32) (2 : Int32) (mk z (W * H) I4 J4 t u) = some (mk z (W * H) I5 J4 t u) := e5
  obtain ⟨I7, J7, e7, f7, hX7⟩ := bbn_R (n := n) (z := z) (t := t) (u := u) (L := L) (V := V) hn hD hW hf (show m ≤ 4 by omega) c (fun (x22 : Int32) (x23 : Int32) (x24 : Int32) (S25 : MS) => (if 0 ≤ x23 then (if c = 0 then some (x23, S25) else (if c = (1 : Int32) then some (x24, S25) else some (x22, S25))) else some ((-1 : Int32), S25))) (tk T) 0 n I6 J6 (mnT W H L V f m T, -1, -1) (by omega) (by omega) hX6 ((hTr.frc f34).frr0 f56)
  rw [← hst] at e7
  refine ⟨_, _, mk z (W * H) I7 J7 t u, ecls, ?_, Rel.cl hD (hRI.back0 f34 (f56.tr f7) (by have := hX7.1.2.2.2; exact this))⟩
  unfold f_X11_best
  simp only [jn]
  rw [s_isFarmerR, cl_some, ite_bI, if_pos c1, s_isIn, cl_some, ite_bI, if_pos (in02.mpr c2), s_isIn, cl_some, ite_bI, if_pos (in02.mpr c3), e5', cv_some, e6, cl_some]
  refine e7.trans ?_
  by_cases h : st.2.1 = -1
  · rw [if_pos h, if_neg (show ¬ (0 : Int32) ≤ st.2.1 by rw [h]; decide)]
  · rw [if_neg h, if_pos (hok.resolve_left h)]
    split
    · rfl
    · split <;> rfl
end BE
