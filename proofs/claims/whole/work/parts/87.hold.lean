/-! HOLD AND STEPS of both -/
noncomputable def evX (X : XT) (nm : Nat → Int) (c : Nat) : AS := runA nm (xc X) (xe X c - xa X c) (xa X c) aS0
noncomputable def valX (X : XT) (nm : Nat → Int) (c : Nat) : Int := (evX X nm c).2.1 0
noncomputable def trX (X : XT) (nm : Nat → Int) (c : Nat) : Bool := (evX X nm c).2.2.2 0
theorem runA_ok {nm : Nat → Int} {cd : Nat → Nat × Nat} {n' k' : Nat} : ∀ (d i : Nat) (s : AS), shpA cd d i s.1 s.2.2.1 n' k' → (∀ j, i ≤ j → j < i + d → (cd j).1 = 1 → small (nm (cd j).2)) → bdA s → bdA (runA nm cd d i s) ∧ (runA nm cd d i s).1 = n' ∧ (runA nm cd d i s).2.2.1 = k'
  | 0, _, s, hs, _, hb => ⟨hb, hs.1, hs.2⟩
  | d + 1, i, s, hs, hn, hb => by
    have hnk := stepA_nk nm (cd i) s
    exact runA_ok d (i + 1) (stepA nm (cd i) s) (by rw [hnk.1, hnk.2]; exact hs.2) (fun j h1 h2 => hn j (by omega) (by omega)) (stepA_small hs.1 hb (fun h => hn i (Nat.le_refl _) (by omega) h))
theorem bd0 : bdA aS0 := fun j hj => absurd hj (Nat.not_lt_zero j)
theorem valX_small {X : XT} (hX : XW X) {c s : Nat} (hc : c < xm X) (hs : xs X c = s) (hs2 : s ≤ 2) {nm : Nat → Int} (hn : ∀ v, isOfN s v = true → small (nm v)) : small (valX X nm c) := by
  obtain ⟨a1, a2, a3, a4⟩ := hX.2.2.2.2.1 c hc (by omega)
  obtain ⟨b1, b2, b3⟩ := runA_ok (nm := nm) (cd := xc X) _ _ aS0 a3 (fun j h1 h2 h3 => hn _ (by rw [← hs]; exact (a4 j h1 (by omega)).2 h3)) bd0
  rw [if_neg (by omega)] at b2
  exact b1 0 (by rw [b2]; omega)
/-- rows for reckoning: of the class, of the reference -/
def Sc (z : Nat) (I I' : Nat → Nat → Int32) : Prop := ∀ q, q ≠ z + 24 → q ≠ z + 25 → I' q = I q
def Sr (z : Nat) (I I' : Nat → Nat → Int32) (J J' : Nat → Nat → Int64) : Prop := (∀ q, q ≠ z + 88 → q ≠ z + 90 → I' q = I q) ∧ ∀ q, q ≠ z + 89 → J' q = J q
theorem Sc.rf (z : Nat) (I : Nat → Nat → Int32) : Sc z I I := fun _ _ _ => rfl
theorem Sc.tr {z : Nat} {I I' I2 : Nat → Nat → Int32} (h : Sc z I I') (h2 : Sc z I' I2) : Sc z I I2 := fun q a b => (h2 q a b).trans (h q a b)
theorem Sc.u24 {z : Nat} {I : Nat → Nat → Int32} {g : Nat → Int32} : Sc z I (upr I (z + 24) g) := fun _ a _ => upr_ne a
theorem Sc.u25 {z : Nat} {I : Nat → Nat → Int32} {g : Nat → Int32} : Sc z I (upr I (z + 25) g) := fun _ _ b => upr_ne b
theorem Sr.rf (z : Nat) (I : Nat → Nat → Int32) (J : Nat → Nat → Int64) : Sr z I I J J := ⟨fun _ _ _ => rfl, fun _ _ => rfl⟩
theorem Sr.tr {z : Nat} {I I' I2 : Nat → Nat → Int32} {J J' J2 : Nat → Nat → Int64} (h : Sr z I I' J J') (h2 : Sr z I' I2 J' J2) : Sr z I I2 J J2 := ⟨fun q a b => (h2.1 q a b).trans (h.1 q a b), fun q a => (h2.2 q a).trans (h.2 q a)⟩
/-- the class's law -/
def LwC (z t : Nat) (I : Nat → Nat → Int32) (L : Option XT) (lw : Option Nat) : Prop := (L = none ∧ lw = none) ∨ ∃ r X, L = some X ∧ lw = some (z + (97 + 6 * r)) ∧ r < t ∧ r < 4 ∧ XW X ∧ ClsX z r I X
theorem LwC.congr {z t : Nat} {I I' : Nat → Nat → Int32} {L : Option XT} {lw : Option Nat} (h : LwC z t I L lw) (h97 : ∀ q, z + 97 ≤ q → I' q = I q) : LwC z t I' L lw := by
  rcases h with h | ⟨r, X, a, b, c, d, e, f⟩
  · exact Or.inl h
  · exact Or.inr ⟨r, X, a, b, c, d, e, f.congr h97⟩
noncomputable def valL (L : Option XT) (s : Nat) (nm : Nat → Int) (df : Int) : Int := match L with
  | none => df
  | some X => match idx X s with
    | none => df
    | some c => valX X nm c
theorem valL_small {L : Option XT} (hL : ∀ X, L = some X → XW X) {s : Nat} (hs2 : s ≤ 2) {nm : Nat → Int} {df : Int} (hd : small df) (hn : ∀ v, isOfN s v = true → small (nm v)) : small (valL L s nm df) := by
  unfold valL
  cases e : L with
  | none => exact hd
  | some X =>
    show small (match idx X s with | none => df | some c => valX X nm c)
    rcases idx_cases X s with ⟨e2, -⟩ | ⟨i, e2, hi, hs⟩
    · rw [e2]; exact hd
    · rw [e2]; exact valX_small (hL X e) hi hs hs2 hn
section HO
variable {n z t W H M B o C : Nat} {I : Nat → Nat → Int32} {J : Nat → Nat → Int64} {u : Option Nat} {T : TP} {L : Option XT}
theorem s_valX (hn : 100000 ≤ n) {r : Nat} {X : XT} (hr : r < t) (hX : XW X) (hC : ClsX z r I X) {c s : Nat} (hc : c < xm X) (hs : xs X c = s) (hs2 : s ≤ 2) {nm : Nat → Int} (hnm : ∀ v, isOfN s v = true → small (nm v) ∧ I (z + 24) v = iI (nm v)) :
    ∃ st, f_X5_value n (z + 23) (some (z + (97 + 6 * r))) (nI c) (mk z C I J t u) = some (iI (valX X nm c), mk z C (upr I (z + 25) st) J t u) := by
  have hm := hX.1
  obtain ⟨a1, a2, a3, a4⟩ := hX.2.2.2.2.1 c hc (by omega)
  rw [if_neg (by omega), if_neg (by omega)] at a3
  obtain ⟨b1, b2, b3, b4, b5⟩ := hC
  obtain ⟨c1, c2, c3, c4⟩ := b4 c hc
  obtain ⟨st, e1, r1, r2, r3, r4⟩ := s_valueC (n := n) (C := C) (J := J) (u := u) (nm := nm) (cd := xc X) hn hr (cl0 := c) (a := xa X c) (e := xe X c) (sz := xz X) (by omega) a1 a2 hX.2.1 b2 c2 c3 (fun j h1 h2 => ⟨b5 j (by omega), (a4 j h1 h2).1⟩) (fun j h1 h2 h3 => hnm _ (by rw [← hs]; exact (a4 j h1 h2).2 h3)) a3 (by omega) (by omega)
  refine ⟨st, ?_⟩
  rw [e1]
  have h0 := r1.2 0 (by rw [r3]; omega)
  rw [r4] at h0
  rw [show st 0 = iI (valX X nm c) from h0]
theorem s_valB (hn : 100000 ≤ n) {r : Nat} {X : XT} (hr : r < t) (hX : XW X) (hC : ClsX z r I X) {c : Nat} (hc : c < xm X) (hs : xs X c = 3) {nm : Nat → Int} (hnm : ∀ v, isOfN 3 v = true → small (nm v) ∧ I (z + 24) v = iI (nm v)) :
    ∃ st, f_X5_value n (z + 23) (some (z + (97 + 6 * r))) (nI c) (mk z C I J t u) = some ((if trX X nm c = true then 1 else 0), mk z C (upr I (z + 25) st) J t u) := by
  have hm := hX.1
  obtain ⟨a1, a2, a3, a4⟩ := hX.2.2.2.2.1 c hc (by omega)
  rw [if_pos hs, if_pos hs] at a3
  obtain ⟨b1, b2, b3, b4, b5⟩ := hC
  obtain ⟨c1, c2, c3, c4⟩ := b4 c hc
  obtain ⟨st, e1, r1, r2, r3, r4⟩ := s_valueC (n := n) (C := C) (J := J) (u := u) (nm := nm) (cd := xc X) hn hr (cl0 := c) (a := xa X c) (e := xe X c) (sz := xz X) (by omega) a1 a2 hX.2.1 b2 c2 c3 (fun j h1 h2 => ⟨b5 j (by omega), (a4 j h1 h2).1⟩) (fun j h1 h2 h3 => hnm _ (by rw [← hs]; exact (a4 j h1 h2).2 h3)) a3 (by omega) (by omega)
  refine ⟨st, ?_⟩
  rw [e1]
  have h0 := r1.1 0 (by rw [r4]; omega)
  exact congrArg (fun w => some (w, mk z C (upr I (z + 25) st) J t u)) h0
theorem s_worX (hn : 100000 ≤ n) {r : Nat} {X : XT} (hr : r < 4) (h4 : I (z + 84) 4 = nI r) (hX : XW X) (hR : RefX z r I X) {c s : Nat} (hc : c < xm X) (hs : xs X c = s) (hs2 : s ≤ 3) {nm : Nat → Int} (hnm : ∀ v, isOfN s v = true → small (nm v) ∧ I (z + 88) v = iI (nm v)) :
    ∃ tb vj, f_X11_work n (z + 83) (nI c) (mk z C I J t u) = some (mk z C (upr I (z + 90) tb) (upr J (z + 89) vj) t u) ∧ (s ≤ 2 → vj 0 = jI (valX X nm c)) ∧ (s = 3 → tb 0 = if trX X nm c = true then 1 else 0) := by
  have hm := hX.1
  have hz := hX.2.1
  obtain ⟨a1, a2, a3, a4⟩ := hX.2.2.2.2.1 c hc (by omega)
  obtain ⟨b1, b4, b5⟩ := hR
  obtain ⟨c1, c2, c3, c4⟩ := b4 c hc
  obtain ⟨tb, vj, e1, r1⟩ := s_workR (n := n) (C := C) (J := J) (t := t) (u := u) (nm := nm) (cd := xc X) hn hr (cl0 := c) (a := xa X c) (e := xe X c) (by omega) a1 (by omega) h4 c2 c3 (fun j h1 h2 => b5 j (by omega)) (fun j h1 h2 h3 => hnm _ (by rw [← hs]; exact (a4 j h1 h2).2 h3)) a3
  obtain ⟨k1, k2, k3⟩ := runA_ok (nm := nm) (cd := xc X) _ _ aS0 a3 (fun j h1 h2 h3 => (hnm _ (by rw [← hs]; exact (a4 j h1 (by omega)).2 h3)).1) bd0
  refine ⟨tb, vj, e1, fun h => ?_, fun h => ?_⟩
  · rw [if_neg (by omega)] at k2
    exact r1.2 0 (by rw [k2]; omega)
  · rw [if_pos (by omega)] at k3
    exact r1.1 0 (by rw [k3]; omega)
noncomputable def holdT (W H : Nat) (T : TP) (L : Option XT) (i : Nat) : Int := valL L 0 (nmB W H T i) (tw T i)
theorem of0 : ∀ v, isOfN 0 v = true → v < 6 := by
  intro v h
  simp only [isOfN, show ¬ (0 : Nat) = 2 by omega, if_false, show ¬ (0 : Nat) = 1 by omega, show ¬ (0 : Nat) = 3 by omega, decide_false, Bool.false_and, Bool.or_false, decide_eq_true_eq] at h
  exact h
theorem of1 : ∀ v, isOfN 1 v = true → v < 8 := by
  intro v h
  simp only [isOfN, show ¬ (1 : Nat) = 2 by omega, if_false, show ¬ (1 : Nat) = 3 by omega, decide_false, Bool.false_and, Bool.or_false, decide_true, Bool.true_and, Bool.or_eq_true, decide_eq_true_eq] at h
  omega
theorem of3 : ∀ v, isOfN 3 v = true → v < 6 ∨ v = 8 := by
  intro v h
  simp only [isOfN, show ¬ (3 : Nat) = 2 by omega, if_false, show ¬ (3 : Nat) = 1 by omega, decide_false, Bool.false_and, Bool.or_false, decide_true, Bool.true_and, Bool.or_eq_true, decide_eq_true_eq] at h
  exact h
theorem of2 : ∀ v, isOfN 2 v = true → 9 ≤ v ∨ v = 3 ∨ v = 4 := by
  intro v h
  simp only [isOfN, if_true, Bool.or_eq_true, decide_eq_true_eq] at h
  omega
theorem tw_small (hW : TW C M T) {i : Nat} (hi : i < tk T) : small (tw T i : Int) := by
  obtain ⟨a1, a2, a3, a4⟩ := hW.2.2.1 i hi
  unfold small; omega
theorem holdT_small (hD : dims W H) (hW : TW (W * H) M T) (hL : ∀ X, L = some X → XW X) {i : Nat} (hi : i < tk T) : small (holdT W H T L i) := valL_small hL (by omega) (tw_small hW hi) (fun v _ => nmB_small hD hW hi v)
/-- hold as it is now: the class -/
theorem s_holdNow (hn : 100000 ≤ n) (hM : M < 100000) (hD : dims W H) (hG : GeoR W H (I (z + 30)) (J (z + 30)) (J (z + 31))) (ho : isP o) (hW : TW (W * H) M T) (hT : ClsT z (W * H) o I J T) {lw : Option Nat} (hL : LwC z t I L lw) {i : Nat} (hi : i < tk T) :
    ∃ I', f_X5_holdNow n (z + 23) (z + o) (nI i) lw (mk z (W * H) I J t u) = some (iI (holdT W H T L i), mk z (W * H) I' J t u) ∧ Sc z I I' := by
  have h24 := hW.1
  obtain ⟨a1, a2, a3, a4⟩ := hW.2.2.1 i hi
  have hwe : mI (mk z (W * H) I J t u) (z + (o + 2)) i = nI (tw T i) := (hT.2.2.1 i hi).2.1
  unfold f_X5_holdNow holdT valL
  rcases hL with ⟨e1, e2⟩ | ⟨r, X, e1, e2, hr, hr4, hX, hC⟩
  · subst e1 e2
    refine ⟨I, ?_, Sc.rf z I⟩
    rw [if_pos rfl, gP_2 ho, nP_2 ho, ck_t (inb_nI (by omega) (by omega)), cl_nI (by omega), hwe, nI_iI (by omega)]
  · subst e1 e2
    have hm := hX.1
    rw [if_neg (by simp)]
    simp only [nn]
    show ∃ I', _ = some (iI (match idx X 0 with | none => (tw T i : Int) | some c => valX X (nmB W H T i) c), _) ∧ _
    rcases idx_cases X 0 with ⟨e3, hno⟩ | ⟨c, e3, hc, hcs⟩
    · refine ⟨I, ?_, Sc.rf z I⟩
      rw [if_pos (show mI (mk z (W * H) I J t u) (z + (97 + 6 * r)) 7 = -1 from (hC.2.2.1 0 (by omega)).2 hno), gP_2 ho, nP_2 ho, ck_t (inb_nI (by omega) (by omega)), cl_nI (by omega), hwe, e3, nI_iI (by omega)]
    · obtain ⟨nr, e4, hnr⟩ := s_nameC (n := n) (t := t) (u := u) hM hD hG ho hW hT hi
      have h7 : I (z + (97 + 6 * r)) 7 = nI c := (hC.2.2.1 0 (by omega)).1 c hc hcs
      have hC' : ClsX z r (upr I (z + 24) nr) X := hC.congr (fun q hq => upr_ne (by omega))
      obtain ⟨st, e5⟩ := s_valX (n := n) (C := W * H) (J := J) (u := u) hn hr hX hC' hc hcs (by omega) (nm := nmB W H T i) (fun v hv => ⟨nmB_small hD hW hi v, by rw [upr_at]; exact hnr.1 v (of0 v hv)⟩)
      refine ⟨upr (upr I (z + 24) nr) (z + 25) st, ?_, Sc.tr Sc.u24 Sc.u25⟩
      rw [if_neg (show ¬ mI (mk z (W * H) I J t u) (z + (97 + 6 * r)) 7 = -1 by rw [mI_mk, h7]; exact nI_nm1 (by omega)), e4, cv_some, mI_mk, upr_ne (by omega), h7, e5, cl_some, e3]
/-- hold as it is now: the reference -/
theorem s_holdOf (hn : 100000 ≤ n) (hM : M < 100000) (hD : dims W H) (hM' : ModR z W H B I) (hB : B ≤ 2380) (hW : TW (W * H) M T) (hT : RefT z (W * H) B I T) (hL : LawR z t I L) {i : Nat} (hi : i < tk T) :
    ∃ I' J', f_X11_holdOf n (z + 83) (nI i) (mk z (W * H) I J t u) = some (iI (holdT W H T L i), mk z (W * H) I' J' t u) ∧ Sr z I I' J J' ∧ ∀ v, v < 6 → I' (z + 88) v = iI (nmB W H T i v) := by
  obtain ⟨a1, a2, a3, a4⟩ := hW.2.2.1 i hi
  obtain ⟨nr, e4, hnr⟩ := s_nameR (n := n) (J := J) (t := t) (u := u) hn hM hD hM' hB hW hT hi
  have hL' : LawR z t (upr I (z + 88) nr) L := hL.congr (fun j _ => by rw [upr_ne (by omega)]) (by rw [upr_ne (by omega)]) (upr_ne (by omega)) (fun q hq => upr_ne (by omega))
  have hcl := s_clauseOf (n := n) (C := W * H) (J := J) (u := u) hn hL' (s := 0) (by omega)
  have s88 : Sr z I (upr I (z + 88) nr) J J := ⟨fun q a _ => upr_ne a, fun _ _ => rfl⟩
  unfold f_X11_holdOf
  rw [e4, cv_some, show (0 : Int32) = nI 0 from rfl, hcl, cl_some]
  have hdf : ∀ X, L = some X → (idx X 0 = none → holdT W H T L i = tw T i) ∧ ∀ c, idx X 0 = some c → holdT W H T L i = valX X (nmB W H T i) c := by
    intro X e
    unfold holdT valL
    rw [e]
    refine ⟨fun e2 => ?_, fun c e2 => ?_⟩
    · show (match idx X 0 with | none => (tw T i : Int) | some c => valX X (nmB W H T i) c) = _
      rw [e2]
    · show (match idx X 0 with | none => (tw T i : Int) | some c => valX X (nmB W H T i) c) = _
      rw [e2]
  have none_case : idL L 0 = none → holdT W H T L i = tw T i → ∃ I' J', (if nI 0 ≤ oI (idL L 0) then cv (f_X11_work n (z + 83) (oI (idL L 0)) (mk z (W * H) (upr I (z + 88) nr) J t u)) fun S8 => gR S8 (mR S8 (z + 83) 26) 13 fun q11 => ck (inb (nI 0) (mN S8 q11)) (some (((mJ S8 q11 (nI 0).toNatClampNeg).toInt32), S8)) else gR (mk z (W * H) (upr I (z + 88) nr) J t u) (mR (mk z (W * H) (upr I (z + 88) nr) J t u) (z + 83) 25) 12 fun q14 => ck (inb (nI 0) (mN (mk z (W * H) (upr I (z + 88) nr) J t u) q14)) (some ((mI (mk z (W * H) (upr I (z + 88) nr) J t u) q14 (nI 0).toNatClampNeg), mk z (W * H) (upr I (z + 88) nr) J t u))) = some (iI (holdT W H T L i), mk z (W * H) I' J' t u) ∧ Sr z I I' J J' ∧ ∀ v, v < 6 → I' (z + 88) v = iI (nmB W H T i v) := by
    intro e1 e2
    refine ⟨_, J, ?_, s88, fun v hv => by rw [upr_at]; exact hnr.1 v hv⟩
    rw [e1, if_neg (show ¬ nI 0 ≤ oI none by decide), g83_25, n88, ck_t (by decide), mI_mk, upr_at, show (nI 0).toNatClampNeg = 0 from rfl, hnr.1 0 (by omega), e2]
    rfl
  cases hLc : L with
  | none =>
    subst hLc
    exact none_case rfl rfl
  | some X =>
    rw [← hLc]
    rcases idx_cases X 0 with ⟨e3, hno⟩ | ⟨c, e3, hc, hcs⟩
    · exact none_case (by rw [hLc]; exact e3) ((hdf X hLc).1 e3)
    · rcases id hL with ⟨e1, -⟩ | ⟨r, X', tx, e1, hr, htx, hrt, h7, h8, h4, hX, hCx, hR⟩
      · rw [hLc] at e1; cases e1
      · rw [hLc] at e1; cases e1
        have hm := hX.1
        have hid : idL L 0 = some c := by rw [hLc]; exact e3
        obtain ⟨tb, vj, e5, hv, -⟩ := s_worX (n := n) (C := W * H) (I := upr I (z + 88) nr) (J := J) (t := t) (u := u) hn (show r < 4 by omega) (by rw [upr_ne (by omega)]; exact h4) hX (hR.congr (upr_ne (by omega))) hc hcs (by omega) (nm := nmB W H T i) (fun v hv => ⟨nmB_small hD hW hi v, by rw [upr_at]; exact hnr.1 v (of0 v hv)⟩)
        have hsm := valX_small hX hc hcs (by omega) (nm := nmB W H T i) (fun v _ => nmB_small hD hW hi v)
        unfold small at hsm
        refine ⟨upr (upr I (z + 88) nr) (z + 90) tb, upr J (z + 89) vj, ?_, s88.tr ⟨fun q _ b => upr_ne b, fun q a => upr_ne a⟩, fun v hv => by rw [upr_ne (by omega), upr_at]; exact hnr.1 v hv⟩
        rw [hid, show oI (some c) = nI c from rfl, if_pos ((nI_le' (by omega) (by omega)).mpr (Nat.zero_le c)), e5, cv_some, g83_26, n89, ck_t (by decide), mJ_mk, upr_at, show (nI 0).toNatClampNeg = 0 from rfl, hv (by omega), jI_32 (by omega) (by omega), (hdf X hLc).2 c e3]
end HO
