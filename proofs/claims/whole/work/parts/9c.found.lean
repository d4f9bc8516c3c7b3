/-! FOUND BY NIGHT: both -/
section FN
variable {n z t W H M C : Nat} {u : Option Nat} {T : TP} {L : Option XT}
/-- the names of a bone, and how many fines -/
noncomputable def nmQ (W H : Nat) (T : TP) (i q v : Nat) : Int := if v = 8 then (q : Int) else nmB W H T i v
def fnX (X : XT) (nm : Nat → Int) (i : Nat) : Prop := ∃ c, i ≤ c ∧ c < xm X ∧ xs X c = 3 ∧ trX X nm c = true
def fnL (L : Option XT) (nm : Nat → Int) : Prop := ∃ X, L = some X ∧ fnX X nm 0
theorem fnX_s {X : XT} {nm : Nat → Int} {c : Nat} (h : ¬ (xs X c = 3 ∧ trX X nm c = true)) : fnX X nm (c + 1) ↔ fnX X nm c :=
  ⟨fun ⟨d, a, b⟩ => ⟨d, by omega, b⟩, fun ⟨d, a, b⟩ => ⟨d, by
    by_cases e : d = c
    · subst e; exact absurd b.2 h
    · omega, b⟩⟩
theorem fnd_LC {J : Nat → Nat → Int64} (hn : 100000 ≤ n) {r : Nat} {X : XT} (hr : r < t) (hX : XW X) {nm : Nat → Int} (hsm : ∀ v, isOfN 3 v = true → small (nm v)) : ∀ (d c k : Nat) (I : Nat → Nat → Int32), c + d = xm X → d < k → ClsX z r I X → (∀ v, isOfN 3 v = true → I (z + 24) v = iI (nm v)) → ∃ I', f_X5_isFound_L24 n (z + 23) (some (z + (97 + 6 * r))) k (nI c) (mk z C I J t u) = some (bD (fnX X nm c), mk z C I' J t u) ∧ Sc z I I' := by
  have hm := hX.1
  intro d
  induction d with
  | zero =>
    intro c k I hc hk hC hN
    obtain ⟨k, rfl⟩ : ∃ m, k = m + 1 := ⟨k - 1, by omega⟩
    have m5 : mI (mk z C I J t u) (z + (97 + 6 * r)) 5 = nI (xm X) := hC.1
    refine ⟨I, ?_, Sc.rf z I⟩
    rw [f_X5_isFound_L24]
    simp only [jn, nn]
    rw [m5, if_pos ((nI_le' (by omega) (by omega)).mpr (by omega)), zb_0, bD_f (fun ⟨c', a, b, _⟩ => by omega)]
  | succ d ih =>
    intro c k I hc hk hC hN
    obtain ⟨k, rfl⟩ : ∃ m, k = m + 1 := ⟨k - 1, by omega⟩
    have m5 : mI (mk z C I J t u) (z + (97 + 6 * r)) 5 = nI (xm X) := hC.1
    have mk0 : mI (mk z C I J t u) (z + (97 + 6 * r + 1 + 0)) c = nI (xs X c + 18) := (hC.2.2.2.1 c (by omega)).1
    have hs5 := hX.2.2.1 c (by omega)
    rw [f_X5_isFound_L24]
    simp only [jn, bd, nn]
    rw [m5, if_neg (show ¬ nI (xm X) ≤ nI c by rw [nI_le' (by omega) (by omega)]; omega), if_neg (show ¬ (20 : Int32) ≤ nI c by rw [show (20 : Int32) = nI 20 from rfl, nI_le' (by omega) (by omega)]; omega), gT hr (by omega), nT hr (by omega), ck_t (inb_nI (by omega) (by omega)), cl_nI (by omega), mk0, show nI c + (1 : Int32) = nI (c + 1) from nI_pl c 1]
    by_cases h3 : xs X c = 3
    · obtain ⟨st, e⟩ := s_valB (n := n) (C := C) (J := J) (u := u) hn hr hX hC (c := c) (by omega) h3 (nm := nm) (fun v hv => ⟨hsm v hv, hN v hv⟩)
      rw [if_pos (show nI (xs X c + 18) = (21 : Int32) by rw [h3]; rfl), e, cl_some]
      by_cases ht : trX X nm c = true
      · refine ⟨upr I (z + 25) st, ?_, Sc.u25⟩
        rw [if_pos ht, if_neg (by decide), zb_1, bD_t ⟨c, Nat.le_refl _, by omega, h3, ht⟩]
      · obtain ⟨I', e2, s2⟩ := ih (c + 1) k (upr I (z + 25) st) (by omega) (by omega) (hC.congr (fun q hq => upr_ne (by omega))) (fun v hv => by rw [upr_ne (by omega)]; exact hN v hv)
        refine ⟨I', ?_, Sc.u25.tr s2⟩
        rw [if_neg ht, if_pos rfl, e2, bD_congr (fnX_s (fun w => ht w.2))]
    · obtain ⟨I', e2, s2⟩ := ih (c + 1) k I (by omega) (by omega) hC hN
      refine ⟨I', ?_, s2⟩
      rw [if_neg (show ¬ nI (xs X c + 18) = (21 : Int32) by rw [show (21 : Int32) = nI 21 from rfl, nI_inj (by omega) (by omega)]; omega), e2, bD_congr (fnX_s (fun w => h3 w.1))]
theorem nmQ_ok {i q : Nat} (hD : dims W H) (hW : TW (W * H) M T) (hi : i < tk T) (hq : q < 1000000) {r r0 : Nat → Int32} (h : NmR W H T i r r0) : ∀ v, isOfN 3 v = true → small (nmQ W H T i q v) ∧ ur r 8 (nI q) v = iI (nmQ W H T i q v) := by
  intro v hv
  unfold nmQ
  by_cases h8 : v = 8
  · subst h8
    rw [if_pos rfl, ur_at, nI_iI (by omega)]
    exact ⟨by unfold small; omega, rfl⟩
  · rw [if_neg h8, ur_ne _ _ h8]
    exact ⟨nmB_small hD hW hi v, h.1 v (by have := of3 v hv; omega)⟩
theorem s_foundC {I : Nat → Nat → Int32} {J : Nat → Nat → Int64} (hn : 100000 ≤ n) (hM : M < 100000) (hD : dims W H) (hG : GeoR W H (I (z + 30)) (J (z + 30)) (J (z + 31))) {o : Nat} (ho : isP o) (hW : TW (W * H) M T) (hT : ClsT z (W * H) o I J T) {lw : Option Nat} (hL : LwC z t I L lw) {i q : Nat} (hi : i < tk T) (hq : q < 1000000) :
    ∃ I', f_X5_isFound n (z + 23) (z + o) (nI i) (nI q) lw (mk z (W * H) I J t u) = some (bD (fnL L (nmQ W H T i q)), mk z (W * H) I' J t u) ∧ Sc z I I' := by
  unfold f_X5_isFound
  simp only [bd]
  rcases hL with ⟨e1, e2⟩ | ⟨r, X, e1, e2, hr, hr4, hX, hC⟩
  · subst e1 e2
    refine ⟨I, ?_, Sc.rf z I⟩
    rw [if_pos rfl, zb_0, bD_f (fun ⟨X, e, _⟩ => by cases e)]
  · subst e1 e2
    have hm := hX.1
    obtain ⟨nr, e4, hnr⟩ := s_nameC (n := n) (t := t) (u := u) hM hD hG ho hW hT hi
    have hN := nmQ_ok (q := q) hD hW hi hq hnr
    have e24 : up2 (upr I (z + 24) nr) (z + 24) 8 (nI q) = upr I (z + 24) (ur nr 8 (nI q)) := by rw [up2_upr]
    obtain ⟨I', e5, s5⟩ := fnd_LC (n := n) (C := W * H) (J := J) (u := u) hn hr hX (nm := nmQ W H T i q) (fun v hv => (hN v hv).1) (xm X) 0 n (upr I (z + 24) (ur nr 8 (nI q))) (by omega) (by omega) (hC.congr (fun q hq => upr_ne (by omega))) (fun v hv => by rw [upr_at]; exact (hN v hv).2)
    refine ⟨I', ?_, Sc.u24.tr s5⟩
    rw [if_neg (by simp), e4, cv_some, g23_0, n24, ck_t (by decide), show (8 : Int32).toNatClampNeg = 8 from rfl, sI_mk, e24]
    refine Eq.trans e5 ?_
    rw [bD_congr (show fnX X (nmQ W H T i q) 0 ↔ fnL (some X) (nmQ W H T i q) from ⟨fun w => ⟨X, rfl, w⟩, fun ⟨X', e, w⟩ => by cases e; exact w⟩)]
theorem s_sortAt {I : Nat → Nat → Int32} {J : Nat → Nat → Int64} {r c : Nat} {X : XT} (hr : r < 4) (hX : XW X) (hR : RefX z r I X) (h4 : I (z + 84) 4 = nI r) (hc : c < xm X) : f_X11_sortAt n (z + 83) (nI c) (mk z C I J t u) = some (nI (xs X c), mk z C I J t u) := by
  have hm := hX.1
  have hso := (hR.2.1 c hc).1
  unfold f_X11_sortAt
  have x1 : (700 : Int32) * nI r + (1 : Int32) + (4 : Int32) * nI c = nI (700 * r + 1 + 4 * c) := by
    rw [show (700 : Int32) * nI r = nI (700 * r) from nI_ml 700 r, show (4 : Int32) * nI c = nI (4 * c) from nI_ml 4 c, show (1 : Int32) = nI 1 from rfl, nI_pl, nI_pl]
  rw [g83_5, g83_0, n84, ck_t (by decide), mI_mk, show (4 : Int32).toNatClampNeg = 4 from rfl, h4, x1, n85, ck_t (inb_nI (by omega) (by omega)), cl_nI (by omega), mI_mk, hso]
theorem fnd_LR (hn : 100000 ≤ n) {X : XT} {nm : Nat → Int} (hsm : ∀ v, isOfN 3 v = true → small (nm v)) : ∀ (d c k : Nat) (I : Nat → Nat → Int32) (J : Nat → Nat → Int64), c + d = xm X → d < k → LawR z t I (some X) → (∀ v, isOfN 3 v = true → I (z + 88) v = iI (nm v)) → ∃ I' J', f_X11_isFound_L23 n (z + 83) k (nI c) (mk z C I J t u) = some (bD (fnX X nm c), mk z C I' J' t u) ∧ Sr z I I' J J' := by
  intro d
  induction d with
  | zero =>
    intro c k I J hc hk hL hN
    obtain ⟨k, rfl⟩ : ∃ m, k = m + 1 := ⟨k - 1, by omega⟩
    have hLc : f_X11_clauses n (z + 83) (mk z C I J t u) = some (nI (xm X), mk z C I J t u) := s_clausesR hL
    rcases hL with ⟨e, h1, h2⟩ | ⟨r, X', tx, e, hr, htx, hrt, h7, h8, h4, hX, hC, hR⟩
    · cases e
    cases e
    have hm := hX.1
    refine ⟨I, J, ?_, Sr.rf z I J⟩
    rw [f_X11_isFound_L23]
    simp only [jn]
    rw [hLc, cl_some, if_pos ((nI_le' (by omega) (by omega)).mpr (by omega)), zb_0, bD_f (fun ⟨c', a, b, _⟩ => by omega)]
  | succ d ih =>
    intro c k I J hc hk hL hN
    obtain ⟨k, rfl⟩ : ∃ m, k = m + 1 := ⟨k - 1, by omega⟩
    have hLc : f_X11_clauses n (z + 83) (mk z C I J t u) = some (nI (xm X), mk z C I J t u) := s_clausesR hL
    have hL0 := hL
    rcases hL with ⟨e, h1, h2⟩ | ⟨r, X', tx, e, hr, htx, hrt, h7, h8, h4, hX, hC, hR⟩
    · cases e
    cases e
    have hm := hX.1
    have hs5 := hX.2.2.1 c (by omega)
    have esa := s_sortAt (n := n) (C := C) (J := J) (t := t) (u := u) (show r < 4 by omega) hX hR h4 (show c < xm X by omega)
    rw [f_X11_isFound_L23]
    simp only [jn, bd]
    rw [hLc, cl_some, if_neg (show ¬ nI (xm X) ≤ nI c by rw [nI_le' (by omega) (by omega)]; omega), esa, cl_some, show nI c + (1 : Int32) = nI (c + 1) from nI_pl c 1]
    by_cases h3 : xs X c = 3
    · obtain ⟨tb, vj, e, -, hb⟩ := s_worX (n := n) (C := C) (J := J) (t := t) (u := u) hn (show r < 4 by omega) h4 hX hR (c := c) (by omega) h3 (by omega) (nm := nm) (fun v hv => ⟨hsm v hv, hN v hv⟩)
      have s1 : Sr z I (upr I (z + 90) tb) J (upr J (z + 89) vj) := ⟨fun q _ b => upr_ne b, fun q a => upr_ne a⟩
      have mb : mI (mk z C (upr I (z + 90) tb) (upr J (z + 89) vj) t u) (z + 90) (0 : Int32).toNatClampNeg = if trX X nm c = true then 1 else 0 := by
        rw [mI_mk, upr_at]; exact hb rfl
      rw [if_pos (show nI (xs X c) = (3 : Int32) by rw [h3]; rfl), e, cv_some, g83_27, n90, ck_t (by decide), mb]
      by_cases ht : trX X nm c = true
      · refine ⟨upr I (z + 90) tb, upr J (z + 89) vj, ?_, s1⟩
        rw [if_pos ht, if_neg (by decide), zb_1, bD_t ⟨c, Nat.le_refl _, by omega, h3, ht⟩]
      · obtain ⟨I', J', e2, s2⟩ := ih (c + 1) k (upr I (z + 90) tb) (upr J (z + 89) vj) (by omega) (by omega) (hL0.congr (fun j _ => by rw [upr_ne (by omega)]) (by rw [upr_ne (by omega)]) (upr_ne (by omega)) (fun q hq => upr_ne (by omega))) (fun v hv => by rw [upr_ne (by omega)]; exact hN v hv)
        refine ⟨I', J', ?_, s1.tr s2⟩
        rw [if_neg ht, if_pos rfl, e2, bD_congr (fnX_s (fun w => ht w.2))]
    · obtain ⟨I', J', e2, s2⟩ := ih (c + 1) k I J (by omega) (by omega) hL0 hN
      refine ⟨I', J', ?_, s2⟩
      rw [if_neg (show ¬ nI (xs X c) = (3 : Int32) by rw [show (3 : Int32) = nI 3 from rfl, nI_inj (by omega) (by omega)]; exact h3), e2, bD_congr (fnX_s (fun w => h3 w.1))]
theorem s_foundR {I : Nat → Nat → Int32} {J : Nat → Nat → Int64} {B : Nat} (hn : 100000 ≤ n) (hM : M < 100000) (hD : dims W H) (hM' : ModR z W H B I) (hB : B ≤ 2380) (hW : TW (W * H) M T) (hT : RefT z (W * H) B I T) (hL : LawR z t I L) {i q f : Nat} (hi : i < tk T) (hf : f < 6) (hq : q < 1000000) (hfi : I (z + 84) (92 + f) = nI q) :
    ∃ I' J', f_X11_isFound n (z + 83) (nI f) (nI i) (mk z (W * H) I J t u) = some (bD (fnL L (nmQ W H T i q)), mk z (W * H) I' J' t u) ∧ Sr z I I' J J' := by
  obtain ⟨nr, e4, hnr⟩ := s_nameR (n := n) (J := J) (t := t) (u := u) hn hM hD hM' hB hW hT hi
  have hN := nmQ_ok (q := q) hD hW hi hq hnr
  have e88 : up2 (upr I (z + 88) nr) (z + 88) 8 (nI q) = upr I (z + 88) (ur nr 8 (nI q)) := by rw [up2_upr]
  have s1 : Sr z I (upr I (z + 88) (ur nr 8 (nI q))) J J := ⟨fun q a _ => upr_ne a, fun _ _ => rfl⟩
  have mf : mI (mk z (W * H) (upr I (z + 88) nr) J t u) (z + 84) (92 + f) = nI q := by rw [mI_mk, upr_ne (by omega)]; exact hfi
  have hL1 : LawR z t (upr I (z + 88) (ur nr 8 (nI q))) L := hL.congr (fun j _ => by rw [upr_ne (by omega)]) (by rw [upr_ne (by omega)]) (upr_ne (by omega)) (fun q hq => upr_ne (by omega))
  unfold f_X11_isFound
  simp only [bd]
  rw [e4, cv_some, g83_25, g83_0, n84, show (92 : Int32) + nI f = nI (92 + f) from nI_pl 92 f, ck_t (inb_nI (by omega) (by omega)), n88, ck_t (by decide), cl_nI (by omega), mf, show (8 : Int32).toNatClampNeg = 8 from rfl, sI_mk, e88]
  cases L with
  | none =>
    refine ⟨upr I (z + 88) (ur nr 8 (nI q)), J, ?_, s1⟩
    have hLc : f_X11_clauses n (z + 83) (mk z (W * H) (upr I (z + 88) (ur nr 8 (nI q))) J t u) = some (0, mk z (W * H) (upr I (z + 88) (ur nr 8 (nI q))) J t u) := s_clausesR hL1
    obtain ⟨n', rfl⟩ : ∃ m, n = m + 1 := ⟨n - 1, by omega⟩
    rw [f_X11_isFound_L23]
    simp only [jn]
    rw [hLc, cl_some, if_pos (by decide), zb_0, bD_f (fun ⟨X, e, _⟩ => by cases e)]
  | some X =>
    have hm : xm X ≤ 20 := by
      rcases hL with ⟨e, _⟩ | ⟨r, X', tx, e, _, _, _, _, _, _, hX, _⟩
      · cases e
      · cases e; exact hX.1
    obtain ⟨I', J', e5, s5⟩ := fnd_LR (n := n) (C := W * H) (u := u) hn (nm := nmQ W H T i q) (fun v hv => (hN v hv).1) (xm X) 0 n (upr I (z + 88) (ur nr 8 (nI q))) J (by omega) (by omega) hL1 (fun v hv => by rw [upr_at]; exact (hN v hv).2)
    refine ⟨I', J', ?_, s1.tr s5⟩
    refine Eq.trans e5 ?_
    rw [bD_congr (show fnX X (nmQ W H T i q) 0 ↔ fnL (some X) (nmQ W H T i q) from ⟨fun w => ⟨X, rfl, w⟩, fun ⟨X', e, w⟩ => by cases e; exact w⟩)]
end FN
