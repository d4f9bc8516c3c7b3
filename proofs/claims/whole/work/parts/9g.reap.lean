/-! REAP: what a crop brings, both -/
section RP
variable {n z t W H M C : Nat} {u : Option Nat} {T : TP} {L : Option XT}
theorem shp_nm {cd : Nat → Nat × Nat} {n' k' : Nat} : ∀ (d i a b : Nat), shpA cd d i a b n' k' → ∀ j, i ≤ j → j < i + d → (cd j).1 = 1 → (cd j).2 < 12
  | 0, _, _, _, _, j, h1, h2, _ => by omega
  | d + 1, i, a, b, h, j, h1, h2, h3 => by
    obtain ⟨ho, hr⟩ := h
    by_cases e : j = i
    · subst e
      unfold okA at ho
      omega
    · exact shp_nm d (i + 1) _ _ hr j (by omega) (by omega) h3
theorem s_valX2 {I : Nat → Nat → Int32} {J : Nat → Nat → Int64} (hn : 100000 ≤ n) {r : Nat} {X : XT} (hr : r < t) (hX : XW X) (hC : ClsX z r I X) {c : Nat} (hc : c < xm X) (hs : xs X c = 2) {nm : Nat → Int} (hnm : ∀ v, v < 12 → isOfN 2 v = true → small (nm v) ∧ I (z + 24) v = iI (nm v)) :
    ∃ st, f_X5_value n (z + 23) (some (z + (97 + 6 * r))) (nI c) (mk z C I J t u) = some (iI (valX X nm c), mk z C (upr I (z + 25) st) J t u) := by
  have hm := hX.1
  obtain ⟨a1, a2, a3, a4⟩ := hX.2.2.2.2.1 c hc (by omega)
  rw [if_neg (by omega), if_neg (by omega)] at a3
  obtain ⟨b1, b2, b3, b4, b5⟩ := hC
  obtain ⟨c1, c2, c3, c4⟩ := b4 c hc
  obtain ⟨st, e1, r1, r2, r3, r4⟩ := s_valueC (n := n) (C := C) (J := J) (u := u) (nm := nm) (cd := xc X) hn hr (cl0 := c) (a := xa X c) (e := xe X c) (sz := xz X) (by omega) a1 a2 hX.2.1 b2 c2 c3 (fun j h1 h2 => ⟨b5 j (by omega), (a4 j h1 h2).1⟩) (fun j h1 h2 h3 => hnm _ (shp_nm _ _ _ _ a3 j h1 (by omega) h3) (by rw [← hs]; exact (a4 j h1 h2).2 h3)) a3 (by omega) (by omega)
  refine ⟨st, ?_⟩
  rw [e1]
  have h0 := r1.2 0 (by rw [r3]; omega)
  rw [r4] at h0
  rw [show st 0 = iI (valX X nm c) from h0]
theorem s_worX2 {I : Nat → Nat → Int32} {J : Nat → Nat → Int64} (hn : 100000 ≤ n) {r : Nat} {X : XT} (hr : r < 4) (h4 : I (z + 84) 4 = nI r) (hX : XW X) (hR : RefX z r I X) {c : Nat} (hc : c < xm X) (hs : xs X c = 2) {nm : Nat → Int} (hsm : ∀ v, small (nm v)) (hnm : ∀ v, v < 12 → isOfN 2 v = true → I (z + 88) v = iI (nm v)) :
    ∃ tb vj, f_X11_work n (z + 83) (nI c) (mk z C I J t u) = some (mk z C (upr I (z + 90) tb) (upr J (z + 89) vj) t u) ∧ vj 0 = jI (valX X nm c) := by
  have hm := hX.1
  have hz := hX.2.1
  obtain ⟨a1, a2, a3, a4⟩ := hX.2.2.2.2.1 c hc (by omega)
  rw [if_neg (by omega), if_neg (by omega)] at a3
  obtain ⟨b1, b4, b5⟩ := hR
  obtain ⟨c1, c2, c3, c4⟩ := b4 c hc
  obtain ⟨tb, vj, e1, r1⟩ := s_workR (n := n) (C := C) (J := J) (t := t) (u := u) (nm := nm) (cd := xc X) hn hr (cl0 := c) (a := xa X c) (e := xe X c) (by omega) a1 (by omega) h4 c2 c3 (fun j h1 h2 => b5 j (by omega)) (fun j h1 h2 h3 => ⟨hsm _, hnm _ (shp_nm _ _ _ _ a3 j h1 (by omega) h3) (by rw [← hs]; exact (a4 j h1 h2).2 h3)⟩) a3
  obtain ⟨k1, k2, k3⟩ := runA_ok (nm := nm) (cd := xc X) _ _ aS0 a3 (fun j h1 h2 h3 => hsm _) bd0
  exact ⟨tb, vj, e1, r1.2 0 (by rw [k2]; omega)⟩
/-- the names of a crop -/
def nmH (W c age ar wa v : Nat) : Int := if v = 9 then (age : Int) else if v = 3 then ((c % W : Nat) : Int) else if v = 4 then ((c / W : Nat) : Int) else if v = 10 then (ar : Int) else if v = 11 then (wa : Int) else 0
theorem nmH_small {c age ar wa : Nat} (hc : c < 48) (h1 : age < 1000000) (h2 : ar < 1000) (h3 : wa < 1000) (v : Nat) : small (nmH W c age ar wa v) := by
  have a1 := Nat.mod_le c W
  have a2 := Nat.div_le_self c W
  unfold nmH small
  generalize c % W = p at *
  generalize c / W = q at *
  split
  · omega
  split
  · omega
  split
  · omega
  split
  · omega
  split
  · omega
  · omega
theorem valL_none {s : Nat} {nm : Nat → Int} {df : Int} (e : idL L s = none) : valL L s nm df = df := by
  unfold valL
  cases hL : L with
  | none => rfl
  | some X =>
    rw [hL] at e
    show (match idx X s with | none => _ | some c => _) = _
    rw [show idx X s = none from e]
theorem valL_some {s c : Nat} {X : XT} {nm : Nat → Int} {df : Int} (e : idx X s = some c) : valL (some X) s nm df = valX X nm c := by
  unfold valL
  show (match idx X s with | none => _ | some c => _) = _
  rw [e]
theorem mn_999 {k : Nat} (hk : k < 1000000) : imin (999 : Int32) (nI k) = nI (c09 999 (k : Int)) := by
  have h9 : (999 : Int32).toInt = 999 := rfl
  have hl := c09_le 999 (k : Int)
  rw [i32_eq, nI_t (by omega)]
  unfold imin
  by_cases c2 : k < 999
  · rw [if_pos (show nI k < 999 by rw [i32_lt, nI_t hk, h9]; omega), nI_t hk]
    unfold c09
    rw [if_neg (by omega), if_neg (by omega)]; omega
  · rw [if_neg (show ¬ nI k < 999 by rw [i32_lt, nI_t hk, h9]; omega), h9]
    unfold c09
    rw [if_neg (by omega)]
    split <;> omega
def ageT (T : TP) (c : Nat) : Nat := th T - (tr T c).toNatClampNeg
/-- what the crop at c brings -/
noncomputable def hvT (W : Nat) (L : Option XT) (T : TP) (ar wa c : Nat) : Nat := c09 999 (valL L 2 (nmH W c (ageT T c) ar wa) (ageT T c))
theorem bits_lt (x : Int64) : bits x < 1000 := by have := bits_le x; omega
theorem s_harv {I : Nat → Nat → Int32} {J : Nat → Nat → Int64} (hn : 100000 ≤ n) (hM : M < 100000) (hD : dims W H) (hG0 : I (z + 30) 0 = nI W) {o : Nat} (ho : isP o) (hW : TW (W * H) M T) (hT : ClsT z (W * H) o I J T) {lw : Option Nat} (hL : LwC z t I L lw) {c g : Nat} (hc : c < W * H) (hg : tr T c = nI g) (hgh : g ≤ th T) (r : Int64) :
    ∃ I', f_X5_harvest n (z + 23) (z + o) (nI c) r lw (mk z (W * H) I J t u) = some (nI (hvT W L T (bits r) (bits (r &&& J (z + o) 9)) c), mk z (W * H) I' J t u) ∧ Sc z I I' := by
  have hC := hD.C
  have hh := hW.2.1
  have ho2 := isP_ge ho
  have hw3 := hD.1
  have hw8 := hD.2.1
  have m8 : mI (mk z (W * H) I J t u) (z + o) 8 = nI (th T) := hT.2.1
  have mc : mI (mk z (W * H) I J t u) (z + (o + 6)) c = nI g := (hT.2.2.2.2.1 c hc).trans hg
  have hag : ageT T c = th T - g := by unfold ageT; rw [hg, cl_nI (by omega)]
  have fin0 : idL L 2 = none → imin (999 : Int32) (nI (th T - g)) = nI (hvT W L T (bits r) (bits (r &&& J (z + o) 9)) c) := fun e => by
    unfold hvT
    rw [valL_none e, hag]
    exact mn_999 (by omega)
  unfold f_X5_harvest
  simp only [bd]
  rw [gP_6 ho, nP_6 ho, ck_t (inb_nI hc (by omega)), cl_nI (by omega), m8, mc, nI_sb hgh]
  rcases hL with ⟨e1, e2⟩ | ⟨q, X, e1, e2, hr, hr4, hX, hCx⟩
  · subst e1 e2
    refine ⟨I, ?_, Sc.rf z I⟩
    rw [if_pos rfl, fin0 rfl]
  · subst e1 e2
    have hm := hX.1
    rw [if_neg (by simp)]
    simp only [nn]
    rcases idx_cases X 2 with ⟨e3, hno⟩ | ⟨k, e3, hk, hks⟩
    · refine ⟨I, ?_, Sc.rf z I⟩
      rw [if_pos (show mI (mk z (W * H) I J t u) (z + (97 + 6 * q)) 9 = -1 from (hCx.2.2.1 2 (by omega)).2 hno), fin0 e3]
    · have h9 : I (z + (97 + 6 * q)) 9 = nI k := (hCx.2.2.1 2 (by omega)).1 k hk hks
      have hw0 : ∀ g : Nat → Int32, mI (mk z (W * H) (upr I (z + 24) g) J t u) (z + 30) 0 = nI W := fun g => by rw [mI_mk, upr_ne (by omega)]; exact hG0
      have hl9 : ∀ g : Nat → Int32, mI (mk z (W * H) (upr I (z + 24) g) J t u) (z + (97 + 6 * q)) 9 = nI k := fun g => by rw [mI_mk, upr_ne (by omega)]; exact h9
      obtain ⟨nr, hnr⟩ : ∃ nr, nr = ur (ur (ur (ur (ur (I (z + 24)) 9 (nI (th T - g))) 3 (nI (c % W))) 4 (nI (c / W))) 10 (nI (bits r))) 11 (nI (bits (r &&& J (z + o) 9))) := ⟨_, rfl⟩
      have a1 := Nat.mod_le c W
      have a2 := Nat.div_le_self c W
      have b1 := bits_lt r
      have b2 := bits_lt (r &&& J (z + o) 9)
      have hrow : ∀ v, v < 12 → isOfN 2 v = true → small (nmH W c (th T - g) (bits r) (bits (r &&& J (z + o) 9)) v) ∧ upr I (z + 24) nr (z + 24) v = iI (nmH W c (th T - g) (bits r) (bits (r &&& J (z + o) 9)) v) := by
        intro v hv hv2
        refine ⟨nmH_small (by omega) (by omega) b1 b2 v, ?_⟩
        rw [upr_at, hnr]
        have := of2 v hv2
        have hcs : v = 9 ∨ v = 10 ∨ v = 11 ∨ v = 3 ∨ v = 4 := by omega
        rcases hcs with rfl | rfl | rfl | rfl | rfl
        · rw [ur_ne _ _ (by omega), ur_ne _ _ (by omega), ur_ne _ _ (by omega), ur_ne _ _ (by omega), ur_at]; exact nI_iI (by omega)
        · rw [ur_ne _ _ (by omega), ur_at]; exact nI_iI (by omega)
        · rw [ur_at]; exact nI_iI (by omega)
        · rw [ur_ne _ _ (by omega), ur_ne _ _ (by omega), ur_ne _ _ (by omega), ur_at]; exact nI_iI (by omega)
        · rw [ur_ne _ _ (by omega), ur_ne _ _ (by omega), ur_at]; exact nI_iI (by omega)
      have hCx' : ClsX z q (upr I (z + 24) nr) X := hCx.congr (fun q hq => upr_ne (by omega))
      obtain ⟨st, e5⟩ := s_valX2 (n := n) (C := W * H) (J := J) (u := u) hn hr hX hCx' hk hks (nm := nmH W c (th T - g) (bits r) (bits (r &&& J (z + o) 9))) hrow
      have hvs := valX_small hX hk hks (by omega) (nm := nmH W c (th T - g) (bits r) (bits (r &&& J (z + o) 9))) (fun v _ => nmH_small (by omega) (by omega) b1 b2 v)
      unfold small at hvs
      refine ⟨upr (upr I (z + 24) nr) (z + 25) st, ?_, Sc.tr Sc.u24 Sc.u25⟩
      rw [if_neg (show ¬ mI (mk z (W * H) I J t u) (z + (97 + 6 * q)) 9 = -1 by rw [mI_mk, h9]; exact nI_nm1 (by omega)), g23_0, n24, ck_t (by decide), show (9 : Int32).toNatClampNeg = 9 from rfl, sI_mk, up2_upr1, g23_0, gP_0 ho, hw0, dv_n (by omega) (by omega), n24, ck_t (by decide), show (3 : Int32).toNatClampNeg = 3 from rfl, nI_md (by omega) (by omega) (by omega), sI_mk, up2_upr, g23_0, gP_0 ho, hw0, dv_n (by omega) (by omega), n24, ck_t (by decide), show (4 : Int32).toNatClampNeg = 4 from rfl, nI_dv (by omega) (by omega) (by omega), sI_mk, up2_upr, g23_0, s_bitCount, cl_some, n24, ck_t (by decide), show (10 : Int32).toNatClampNeg = 10 from rfl, sI_mk, up2_upr, g23_0, mJ_mk, s_bitCount, cl_some, n24, ck_t (by decide), show (11 : Int32).toNatClampNeg = 11 from rfl, sI_mk, up2_upr, hl9, ← hnr, e5, cl_some, show (999 : Int32) = nI 999 from rfl, mm_C (by omega) (by omega) (by omega)]
      unfold hvT
      rw [valL_some e3, hag]
theorem s_cropR {I : Nat → Nat → Int32} {J : Nat → Nat → Int64} (hn : 100000 ≤ n) (hM : M < 100000) (hD : dims W H) (hM' : ModR z W H 0 I) (hW : TW (W * H) M T) (hT : RefT z (W * H) 0 I T) (hL : LawR z t I L) {c g : Nat} (hc : c < W * H) (hg : tr T c = nI g) (hgh : g ≤ th T) (v : Int32) {ar wa : Nat} (har : cnt (fun c => decide (I (z + 93) c = v)) (W * H) = ar) (hwa : cnt (fun c => decide (I (z + 93) c = v) && decide (I (z + 84) (0 + 190 + c) = 1)) (W * H) = wa) :
    ∃ I' J', f_X11_cropOf n (z + 83) (nI c) v (mk z (W * H) I J t u) = some (nI (hvT W L T ar wa c), mk z (W * H) I' J' t u) ∧ Sr z I I' J J' := by
  have hC := hD.C
  have hh := hW.2.1
  have hw3 := hD.1
  have hw8 := hD.2.1
  have m0 : mI (mk z (W * H) I J t u) (z + 84) 0 = nI (th T) := hT.hor
  have mc : mI (mk z (W * H) I J t u) (z + 84) (240 + c) = nI g := by
    have := hT.crp hC hc
    rw [show 0 + 240 + c = 240 + c by omega] at this
    rw [mI_mk, this]; exact hg
  have hag : ageT T c = th T - g := by unfold ageT; rw [hg, cl_nI (by omega)]
  have x1 : (240 : Int32) + nI c = nI (240 + c) := nI_pl 240 c
  have hcl : f_X11_clauseOf n (z + 83) (2 : Int32) (mk z (W * H) I J t u) = some (oI (idL L 2), mk z (W * H) I J t u) := s_clauseOf hn hL (s := 2) (by omega)
  have har2 : ar ≤ W * H := by rw [← har]; exact cnt_le _ _
  have hwa2 : wa ≤ W * H := by rw [← hwa]; exact cnt_le _ _
  unfold f_X11_cropOf
  simp only [bd]
  rw [g83_0, n84, ck_t (by decide), g83_0, n84, x1, ck_t (inb_nI (by omega) (by omega)), cl_nI (by omega), show (0 : Int32).toNatClampNeg = 0 from rfl, m0, mc, nI_sb hgh, hcl, cl_some]
  have h9 : (999 : Int32).toInt = 999 := rfl
  have fin0 : idL L 2 = none → ∃ I' J', (if nI (th T - g) ≤ (999 : Int32) then some (nI (th T - g), mk z (W * H) I J t u) else some ((999 : Int32), mk z (W * H) I J t u)) = some (nI (hvT W L T ar wa c), mk z (W * H) I' J' t u) ∧ Sr z I I' J J' := fun e => by
    refine ⟨I, J, ?_, Sr.rf z I J⟩
    unfold hvT
    rw [valL_none e, hag]
    unfold c09
    by_cases c1 : th T - g ≤ 999
    · rw [if_pos (by rw [i32_le, nI_t (by omega), h9]; omega), if_neg (by omega), if_neg (by omega)]
      rw [show ((th T - g : Nat) : Int).toNat = th T - g by omega]
    · rw [if_neg (by rw [i32_le, nI_t (by omega), h9]; omega), if_neg (by omega), if_pos (by omega)]
      rfl
  rcases id hL with ⟨e1, -, -⟩ | ⟨r, X, tx, e1, hrt, htx, hr, -, -, h4, hX, -, hRx⟩
  · rw [e1] at fin0
    rw [e1, if_neg (show ¬ (0 : Int32) ≤ oI (idL none 2) by decide)]
    exact fin0 rfl
  · subst e1
    have hm := hX.1
    rcases idx_cases X 2 with ⟨e3, hno⟩ | ⟨k, e3, hk, hks⟩
    · rw [show idL (some X) 2 = none from e3, if_neg (show ¬ (0 : Int32) ≤ oI none by decide)]
      exact fin0 e3
    · have hw1 : ∀ g : Nat → Int32, mI (mk z (W * H) (upr I (z + 88) g) J t u) (z + 83) 1 = nI W := fun g => by rw [mI_mk, upr_ne (by omega)]; exact hM'.1
      have hsz : ∀ g : Nat → Int32, f_X11_sizeOf n (z + 83) v (mk z (W * H) (upr I (z + 88) g) J t u) = some (nI ar, mk z (W * H) (upr I (z + 88) g) J t u) := fun g => by
        have := s_sizeOf (n := n) (I := upr I (z + 88) g) (J := J) (t := t) (u := u) hn (hM'.upr (by omega)) hC v
        rw [upr_ne (by omega), har] at this
        exact this
      have hwl : ∀ g : Nat → Int32, f_X11_wellsIn n (z + 83) v (mk z (W * H) (upr I (z + 88) g) J t u) = some (nI wa, mk z (W * H) (upr I (z + 88) g) J t u) := fun g => by
        have := s_wellsIn (n := n) (B := 0) (I := upr I (z + 88) g) (J := J) (t := t) (u := u) hn (hM'.upr (by omega)) (by omega) hC v
        rw [upr_ne (show z + 93 ≠ z + 88 by omega), upr_ne (show z + 84 ≠ z + 88 by omega), hwa] at this
        exact this
      obtain ⟨nr, hnr⟩ : ∃ nr, nr = ur (ur (ur (ur (ur (I (z + 88)) 9 (nI (th T - g))) 3 (nI (c % W))) 4 (nI (c / W))) 10 (nI ar)) 11 (nI wa) := ⟨_, rfl⟩
      have a1 := Nat.mod_le c W
      have a2 := Nat.div_le_self c W
      have hrow : ∀ v, v < 12 → isOfN 2 v = true → upr I (z + 88) nr (z + 88) v = iI (nmH W c (th T - g) ar wa v) := by
        intro v hv hv2
        rw [upr_at, hnr]
        have := of2 v hv2
        have hcs : v = 9 ∨ v = 10 ∨ v = 11 ∨ v = 3 ∨ v = 4 := by omega
        rcases hcs with rfl | rfl | rfl | rfl | rfl
        · rw [ur_ne _ _ (by omega), ur_ne _ _ (by omega), ur_ne _ _ (by omega), ur_ne _ _ (by omega), ur_at]; exact nI_iI (by omega)
        · rw [ur_ne _ _ (by omega), ur_at]; exact nI_iI (by omega)
        · rw [ur_at]; exact nI_iI (by omega)
        · rw [ur_ne _ _ (by omega), ur_ne _ _ (by omega), ur_ne _ _ (by omega), ur_at]; exact nI_iI (by omega)
        · rw [ur_ne _ _ (by omega), ur_ne _ _ (by omega), ur_at]; exact nI_iI (by omega)
      have hsm := nmH_small (W := W) (c := c) (age := th T - g) (ar := ar) (wa := wa) (by omega) (by omega) (by omega) (by omega)
      have hRx' : RefX z r (upr I (z + 88) nr) X := hRx.congr (upr_ne (by omega))
      obtain ⟨tb, vj, e5, hv0⟩ := s_worX2 (n := n) (C := W * H) (J := J) (t := t) (u := u) hn (by omega) (by rw [upr_ne (by omega)]; exact h4) hX hRx' hk hks hsm hrow
      have hvs := valX_small hX hk hks (by omega) (nm := nmH W c (th T - g) ar wa) (fun v _ => hsm v)
      unfold small at hvs
      have hk0 : (0 : Int32) ≤ oI (some k) := by
        show (0 : Int32) ≤ nI k
        rw [show (0 : Int32) = nI 0 from rfl, nI_le' (by omega) (by omega)]; omega
      have mv : mJ (mk z (W * H) (upr (upr I (z + 88) nr) (z + 90) tb) (upr J (z + 89) vj) t u) (z + 89) 0 = jI (valX X (nmH W c (th T - g) ar wa) k) := by rw [mJ_mk, upr_at]; exact hv0
      refine ⟨upr (upr I (z + 88) nr) (z + 90) tb, upr J (z + 89) vj, ?_, ⟨fun q h1 h2 => (upr_ne h2).trans (upr_ne h1), fun q h1 => upr_ne h1⟩⟩
      rw [show idL (some X) 2 = some k from e3, if_pos hk0, show oI (some k) = nI k from rfl, g83_25, n88, ck_t (by decide), show (9 : Int32).toNatClampNeg = 9 from rfl, sI_mk, up2_upr1, g83_25, hw1, dv_n (by omega) (by omega), n88, ck_t (by decide), show (3 : Int32).toNatClampNeg = 3 from rfl, nI_md (by omega) (by omega) (by omega), sI_mk, up2_upr, g83_25, hw1, dv_n (by omega) (by omega), n88, ck_t (by decide), show (4 : Int32).toNatClampNeg = 4 from rfl, nI_dv (by omega) (by omega) (by omega), sI_mk, up2_upr, g83_25, hsz, cl_some, n88, ck_t (by decide), show (10 : Int32).toNatClampNeg = 10 from rfl, sI_mk, up2_upr, g83_25, hwl, cl_some, n88, ck_t (by decide), show (11 : Int32).toNatClampNeg = 11 from rfl, sI_mk, up2_upr, ← hnr, e5, cv_some, g83_26, n89, ck_t (by decide), mv, show (999 : Int32) = nI 999 from rfl, s_held (by omega) (by omega) (by omega), cl_some]
      unfold hvT
      rw [valL_some e3, hag]
end RP
