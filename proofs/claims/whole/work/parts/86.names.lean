/-! THE NAMES OF A BONE -/
theorem up2_upr1 {α : Type} (f : Nat → Nat → α) (a k : Nat) (v : α) : up2 f a k v = upr f a (ur (f a) k v) := by
  funext b j
  by_cases h : b = a
  · subst h; simp [up2, upr, ur]
  · simp [up2, upr, h]
theorem stp_d {W H c s d : Nat} (h1 : 3 ≤ W) (h2 : W ≤ 8) (hs : s < 4) (h : stp W H c (sdx s) (sdy s) = some d) : (s = 0 → c = d + W) ∧ (s = 1 → d = c + 1) ∧ (s = 2 → d = c + W) ∧ (s = 3 → c = d + 1) := by
  rw [stp_iff] at h
  rcases (show s = 0 ∨ s = 1 ∨ s = 2 ∨ s = 3 by omega) with rfl | rfl | rfl | rfl
  · obtain ⟨⟨⟨a1, a2⟩, b1, b2⟩, e⟩ := h
    simp only [sdx, sdy, show ¬ (0 : Nat) = 1 by omega, show ¬ (0 : Nat) = 2 by omega, show ¬ (0 : Nat) = 3 by omega, if_false, if_true] at a1 a2 b1 b2 e
    rcases Wc h1 h2 with rfl | rfl | rfl | rfl | rfl | rfl <;> omega
  · obtain ⟨⟨⟨a1, a2⟩, b1, b2⟩, e⟩ := h
    simp only [sdx, sdy, show ¬ (1 : Nat) = 0 by omega, show ¬ (1 : Nat) = 2 by omega, if_false, if_true] at a1 a2 b1 b2 e
    rcases Wc h1 h2 with rfl | rfl | rfl | rfl | rfl | rfl <;> omega
  · obtain ⟨⟨⟨a1, a2⟩, b1, b2⟩, e⟩ := h
    simp only [sdx, sdy, show ¬ (2 : Nat) = 1 by omega, show ¬ (2 : Nat) = 3 by omega, if_false, if_true] at a1 a2 b1 b2 e
    rcases Wc h1 h2 with rfl | rfl | rfl | rfl | rfl | rfl <;> omega
  · obtain ⟨⟨⟨a1, a2⟩, b1, b2⟩, e⟩ := h
    simp only [sdx, sdy, show ¬ (3 : Nat) = 1 by omega, show ¬ (3 : Nat) = 2 by omega, show ¬ (3 : Nat) = 0 by omega, if_false, if_true] at a1 a2 b1 b2 e
    rcases Wc h1 h2 with rfl | rfl | rfl | rfl | rfl | rfl <;> omega
/-- is there a bone at the side s of c -/
def bsd (W H : Nat) (T : TP) (c s : Nat) : Prop := ∃ d, stp W H c (sdx s) (sdy s) = some d ∧ Bn T d
noncomputable def besT (W H : Nat) (T : TP) (c : Nat) : Nat := cnt (fun s => dec (bsd W H T c s)) 4
theorem bes_bits {W H c : Nat} {T : TP} {x y : Int64} (h1 : 3 ≤ W) (h2 : W ≤ 8) (h4 : H ≤ 6) (hc : c < W * H) (hx : ∀ d, bt x d = true ↔ d < W * H ∧ adj W c d) (hy : ∀ d, bt y d = true ↔ Bn T d) : bits (x &&& y) = besT W H T c := by
  have hC : W * H ≤ 48 := WH h2 h4
  apply Nat.le_antisymm
  · refine cnt_inj (fun d => if d = c + 1 then 1 else if c = d + 1 then 3 else if d = c + W then 2 else 0) 64 _ ?_ ?_
    · intro d hd hP
      rw [bt_and, Bool.and_eq_true, hx, hy] at hP
      obtain ⟨s, hs, e⟩ := (stp_side h1 h2 hc d).mpr hP.1
      have k := stp_d h1 h2 hs e
      have hsv : (if d = c + 1 then 1 else if c = d + 1 then 3 else if d = c + W then 2 else 0) = s := by
        rcases (show s = 0 ∨ s = 1 ∨ s = 2 ∨ s = 3 by omega) with rfl | rfl | rfl | rfl
        · rw [if_neg (by have := k.1 rfl; omega), if_neg (by have := k.1 rfl; omega), if_neg (by have := k.1 rfl; omega)]
        · rw [if_pos (k.2.1 rfl)]
        · rw [if_neg (by have := k.2.2.1 rfl; omega), if_neg (by have := k.2.2.1 rfl; omega), if_pos (k.2.2.1 rfl)]
        · rw [if_neg (by have := k.2.2.2 rfl; omega), if_pos (k.2.2.2 rfl)]
      show (if d = c + 1 then 1 else if c = d + 1 then 3 else if d = c + W then 2 else 0) < 4 ∧ dec (bsd W H T c (if d = c + 1 then 1 else if c = d + 1 then 3 else if d = c + W then 2 else 0)) = true
      rw [hsv]
      exact ⟨hs, dec_t.mpr ⟨d, e, hP.2⟩⟩
    · intro d d' hd hd' hP hP' e
      rw [bt_and, Bool.and_eq_true, hx, hy] at hP hP'
      have a := hP.1.2
      have b := hP'.1.2
      unfold adj at a b
      have e : (if d = c + 1 then 1 else if c = d + 1 then 3 else if d = c + W then 2 else 0) = (if d' = c + 1 then 1 else if c = d' + 1 then 3 else if d' = c + W then 2 else 0) := e
      split at e <;> split at e <;> (try split at e) <;> (try split at e) <;> (try split at e) <;> (try split at e) <;> omega
  · refine cnt_inj (fun s => match stp W H c (sdx s) (sdy s) with | none => 0 | some d => d) 4 _ ?_ ?_
    · intro s hs hP
      obtain ⟨d, e, hB⟩ := dec_t.mp hP
      have := (stp_side h1 h2 hc d).mp ⟨s, hs, e⟩
      show (match stp W H c (sdx s) (sdy s) with | none => 0 | some d => d) < 64 ∧ bt (x &&& y) (match stp W H c (sdx s) (sdy s) with | none => 0 | some d => d) = true
      rw [e]
      refine ⟨show d < 64 by omega, ?_⟩
      show bt (x &&& y) d = true
      rw [bt_and, Bool.and_eq_true]
      exact ⟨(hx d).mpr this, (hy d).mpr hB⟩
    · intro s s' hs hs' hP hP' e
      obtain ⟨d, e1, -⟩ := dec_t.mp hP
      obtain ⟨d', e1', -⟩ := dec_t.mp hP'
      have e : (match stp W H c (sdx s) (sdy s) with | none => 0 | some d => d) = (match stp W H c (sdx s') (sdy s') with | none => 0 | some d => d) := e
      rw [e1, e1'] at e
      have e : d = d' := e
      subst e
      have k := stp_d h1 h2 hs e1
      have k' := stp_d h1 h2 hs' e1'
      rcases (show s = 0 ∨ s = 1 ∨ s = 2 ∨ s = 3 by omega) with rfl | rfl | rfl | rfl <;> rcases (show s' = 0 ∨ s' = 1 ∨ s' = 2 ∨ s' = 3 by omega) with rfl | rfl | rfl | rfl <;> simp at k k' <;> omega
/-- the names of bone i -/
noncomputable def nmB (W H : Nat) (T : TP) (i v : Nat) : Int := if v = 0 then (tw T i : Int) else if v = 1 then (tl T i : Int) else if v = 2 then (besT W H T (tc T i) : Int) else if v = 3 then ((tc T i % W : Nat) : Int) else if v = 4 then ((tc T i / W : Nat) : Int) else if v = 5 then ((th T % 24 : Nat) : Int) else 0
theorem nmB_small {W H M : Nat} {T : TP} {i : Nat} (hD : dims W H) (hW : TW (W * H) M T) (hi : i < tk T) (v : Nat) : small (nmB W H T i v) := by
  obtain ⟨a1, a2, a3, a4⟩ := hW.2.2.1 i hi
  have hC := hD.C
  have hb : besT W H T (tc T i) ≤ 4 := cnt_le _ _
  have hcd := cd_lt (H := H) hD.1 a1
  generalize hq : tc T i / W = q at hcd
  generalize hr : tc T i % W = r at hcd
  have h1 := hD.1
  have h2 := hD.2.1
  have h3 := hD.2.2.2
  have h24 : th T % 24 < 24 := Nat.mod_lt _ (by omega)
  unfold nmB small
  rw [hq, hr]
  split
  · omega
  split
  · omega
  split
  · omega
  split
  · omega
  split
  · omega
  split
  · omega
  · omega
section NA
variable {n z t W H M B o : Nat} {I : Nat → Nat → Int32} {J : Nat → Nat → Int64} {u : Option Nat} {T : TP}
/-- a row of names of bone i: the first six; the others as they were -/
def NmR (W H : Nat) (T : TP) (i : Nat) (r r0 : Nat → Int32) : Prop := (∀ v, v < 6 → r v = iI (nmB W H T i v)) ∧ ∀ v, 6 ≤ v → r v = r0 v
theorem NmR_of {i : Nat} (hM : M < 100000) (hD : dims W H) (hW : TW (W * H) M T) (hi : i < tk T) (r0 : Nat → Int32) : NmR W H T i (ur (ur (ur (ur (ur (ur r0 0 (nI (tw T i))) 1 (nI (tl T i))) 2 (nI (besT W H T (tc T i)))) 3 (nI (tc T i % W))) 4 (nI (tc T i / W))) 5 (nI (th T % 24))) r0 := by
  obtain ⟨a1, a2, a3, a4⟩ := hW.2.2.1 i hi
  have hC := hD.C
  have hb : besT W H T (tc T i) ≤ 4 := cnt_le _ _
  have hcd := cd_lt (H := H) hD.1 a1
  have h1 := hD.1
  have h2 := hD.2.1
  have h3 := hD.2.2.2
  have h24 : th T % 24 < 24 := Nat.mod_lt _ (by omega)
  refine ⟨fun v hv => ?_, fun v hv => ?_⟩
  · rcases (show v = 0 ∨ v = 1 ∨ v = 2 ∨ v = 3 ∨ v = 4 ∨ v = 5 by omega) with rfl | rfl | rfl | rfl | rfl | rfl
    · exact nI_iI (k := tw T i) (by omega)
    · exact nI_iI (k := tl T i) (by omega)
    · exact nI_iI (k := besT W H T (tc T i)) (by omega)
    · exact nI_iI (k := tc T i % W) (by omega)
    · exact nI_iI (k := tc T i / W) (by omega)
    · exact nI_iI (k := th T % 24) (by omega)
  · rw [ur_ne _ _ (by omega), ur_ne _ _ (by omega), ur_ne _ _ (by omega), ur_ne _ _ (by omega), ur_ne _ _ (by omega), ur_ne _ _ (by omega)]
theorem isP_ge (h : isP o) : 32 ≤ o ∧ o ≤ 76 := by unfold isP at h; omega
theorem s_nameC (hM : M < 100000) (hD : dims W H) (hG : GeoR W H (I (z + 30)) (J (z + 30)) (J (z + 31))) (ho : isP o) (hW : TW (W * H) M T) (hT : ClsT z (W * H) o I J T) {i : Nat} (hi : i < tk T) : ∃ nr, f_X5_nameBone n (z + 23) (z + o) (nI i) (mk z (W * H) I J t u) = some (mk z (W * H) (upr I (z + 24) nr) J t u) ∧ NmR W H T i nr (I (z + 24)) := by
  have hC := hD.C
  have h24 := hW.1
  have ho2 := isP_ge ho
  have hci := (hW.2.2.1 i hi).1
  have hhor := hW.2.1
  obtain ⟨a1, a2, a3, a4, a5, a6, a7⟩ := id hT
  obtain ⟨c1, c2, c3⟩ := a3 i hi
  refine ⟨_, ?_, NmR_of hM hD hW hi (I (z + 24))⟩
  have hbb := bes_bits (T := T) hD.1 hD.2.1 hD.2.2.2 hci (hG.2.2.2.2.2.2.2 _ hci) a6
  unfold f_X5_nameBone
  simp only [bd, gP_1 ho, gP_2 ho, gP_3 ho, gP_0 ho, nP_1 ho, nP_2 ho, nP_3 ho, ck_t (inb_nI (show i < 24 by omega) (show 24 < 1000000 by omega)), cl_nI (show i < 1000000 by omega), g23_0, n24, ck_t (show inb (0 : Int32) 12 = true by decide), ck_t (show inb (1 : Int32) 12 = true by decide), ck_t (show inb (2 : Int32) 12 = true by decide), ck_t (show inb (3 : Int32) 12 = true by decide), ck_t (show inb (4 : Int32) 12 = true by decide), ck_t (show inb (5 : Int32) 12 = true by decide), show (0 : Int32).toNatClampNeg = 0 from rfl, show (1 : Int32).toNatClampNeg = 1 from rfl, show (2 : Int32).toNatClampNeg = 2 from rfl, show (3 : Int32).toNatClampNeg = 3 from rfl, show (4 : Int32).toNatClampNeg = 4 from rfl, show (5 : Int32).toNatClampNeg = 5 from rfl, sI_mk, mI_mk, mJ_mk, up2_ne (show z + (o + 1) ≠ z + 24 by omega), up2_ne (show z + (o + 2) ≠ z + 24 by omega), up2_ne (show z + (o + 3) ≠ z + 24 by omega), up2_ne (show z + o ≠ z + 24 by omega), up2_ne (show z + 30 ≠ z + 24 by omega), c1, c2, c3, g30_5, n31, ck_t (inb_nI hci (show W * H < 1000000 by omega)), cl_nI (show tc T i < 1000000 by omega), s_bitCount, cl_some, hbb, hG.1, dv_n (show 0 < W by have := hD.1; omega) (show W < 1000000 by have := hD.2.1; omega), nI_dv (show tc T i < 1000000 by omega) (show 0 < W by have := hD.1; omega) (show W < 1000000 by have := hD.2.1; omega), nI_md' (show tc T i < 1000000 by omega) (show 0 < W by have := hD.1; omega) (show W < 1000000 by have := hD.2.1; omega), a2, show (24 : Int32) = nI 24 from rfl, dv_n (show 0 < 24 by omega) (show 24 < 1000000 by omega), nI_dv (show th T < 1000000 by omega) (show 0 < 24 by omega) (show 24 < 1000000 by omega), nI_md' (show th T < 1000000 by omega) (show 0 < 24 by omega) (show 24 < 1000000 by omega)]
  rw [up2_upr1 I, up2_upr, up2_upr, up2_upr, up2_upr, up2_upr]
theorem nameL (hD : dims W H) (hM' : ModR z W H B I) (hB : B ≤ 2380) (hW : TW (W * H) M T) (hT : RefT z (W * H) B I T) {c : Nat} (hc : c < W * H) (x : Int32) (K : Int32 → MS → Option MS) : ∀ (d s k : Nat), s + d = 4 → d < k → f_X11_nameBone_L11 n (z + 83) x (nI c) K k (nI (cnt (fun s => dec (bsd W H T c s)) s)) (nI s) (mk z (W * H) I J t u) = K (nI (besT W H T c)) (mk z (W * H) I J t u) := by
  have hC := hD.C
  intro d
  induction d with
  | zero =>
    intro s k hs hk
    obtain ⟨k, rfl⟩ : ∃ m, k = m + 1 := ⟨k - 1, by omega⟩
    obtain rfl : s = 4 := by omega
    rw [f_X11_nameBone_L11]
    simp only [jn]
    rw [if_pos (by decide)]; rfl
  | succ d ih =>
    intro s k hs hk
    obtain ⟨k, rfl⟩ : ∃ m, k = m + 1 := ⟨k - 1, by omega⟩
    have e2 : nI s + (1 : Int32) = nI (s + 1) := nI_pl s 1
    have hi2 := ih (s + 1) k (by omega) (by omega)
    rw [cnt] at hi2
    rw [f_X11_nameBone_L11]
    simp only [jn, bd]
    rw [if_neg (show ¬ (4 : Int32) ≤ nI s by rw [show (4 : Int32) = nI 4 from rfl, nI_le' (by omega) (by omega)]; omega), s_sideOf hD hM' hc (by omega), cl_some, e2]
    cases hst : stp W H c (sdx s) (sdy s) with
    | none =>
      rw [if_pos (show oI none < 0 by decide), show (0 : Int32) = nI 0 from rfl, nI_pl]
      rw [if_neg (fun w => by obtain ⟨d, e, -⟩ := dec_t.mp w; rw [hst] at e; cases e)] at hi2
      exact hi2
    | some d0 =>
      have hd0 := stp_lt hD.1 hD.2.1 hst
      have hbs : bsd W H T c s ↔ Bn T d0 := ⟨fun ⟨d, e, h⟩ => by rw [hst] at e; cases e; exact h, fun h => ⟨d0, hst, h⟩⟩
      rw [show oI (some d0) = nI d0 from rfl, if_neg (show ¬ nI d0 < 0 from nI_pos (by omega)), g83_0, n84, mI_mk, hM'.2.2.2, show nI B + (290 : Int32) = nI (B + 290) from nI_pl B 290, nI_pl, ck_t (inb_nI (by omega) (by omega)), cl_nI (by omega)]
      rcases hT.lai hC hW hd0 with ⟨h1, h2⟩ | ⟨h1, h2⟩
      · rw [if_neg (show ¬ mI (mk z (W * H) I J t u) (z + 84) (B + 290 + d0) ≤ 0 from h2), show (1 : Int32) = nI 1 from rfl, nI_pl]
        rw [if_pos (dec_t.mpr (hbs.mpr h1))] at hi2
        exact hi2
      · rw [if_pos (show mI (mk z (W * H) I J t u) (z + 84) (B + 290 + d0) ≤ 0 by rw [mI_mk, h2]; decide), show (0 : Int32) = nI 0 from rfl, nI_pl]
        rw [if_neg (fun w => h1 (hbs.mp (dec_t.mp w)))] at hi2
        exact hi2
theorem s_nameR (hn : 100000 ≤ n) (hM : M < 100000) (hD : dims W H) (hM' : ModR z W H B I) (hB : B ≤ 2380) (hW : TW (W * H) M T) (hT : RefT z (W * H) B I T) {i : Nat} (hi : i < tk T) : ∃ nr, f_X11_nameBone n (z + 83) (nI i) (mk z (W * H) I J t u) = some (mk z (W * H) (upr I (z + 88) nr) J t u) ∧ NmR W H T i nr (I (z + 88)) := by
  have hC := hD.C
  have h24 := hW.1
  have hci := (hW.2.2.1 i hi).1
  have hhor := hW.2.1
  refine ⟨_, ?_, NmR_of hM hD hW hi (I (z + 88))⟩
  unfold f_X11_nameBone
  rw [s_cellOf hM' hB hW hT hi, cl_some]
  simp only [jn]
  refine (nameL (n := n) (J := J) (t := t) (u := u) hD hM' hB hW hT hci (nI i) _ 4 0 n rfl (by omega)).trans ?_
  obtain ⟨m1, m2, m3, m4⟩ := hM'
  have x1 : nI B + (10 : Int32) + (3 : Int32) * nI i = nI (B + 10 + 3 * i) := by
    rw [show nI B + (10 : Int32) = nI (B + 10) from nI_pl B 10, show (3 : Int32) * nI i = nI (3 * i) from nI_ml 3 i, nI_pl]
  have x2 : nI (B + 10 + 3 * i) + (1 : Int32) = nI (B + 11 + 3 * i) := by rw [show (1 : Int32) = nI 1 from rfl, nI_pl]; congr 1; omega
  have x3 : nI (B + 10 + 3 * i) + (2 : Int32) = nI (B + 12 + 3 * i) := by rw [show (2 : Int32) = nI 2 from rfl, nI_pl]; congr 1; omega
  have x4 : nI B + (0 : Int32) = nI B := Int32.add_zero _
  simp only [bd, g83_25, g83_0, n84, n88, mI_mk, m1, m4, x1, x2, x3, x4, ck_t (inb_nI (show B + 11 + 3 * i < 2720 by omega) (show 2720 < 1000000 by omega)), ck_t (inb_nI (show B + 12 + 3 * i < 2720 by omega) (show 2720 < 1000000 by omega)), ck_t (inb_nI (show B < 2720 by omega) (show 2720 < 1000000 by omega)), cl_nI (show B + 11 + 3 * i < 1000000 by omega), cl_nI (show B + 12 + 3 * i < 1000000 by omega), cl_nI (show B < 1000000 by omega), ck_t (show inb (0 : Int32) 12 = true by decide), ck_t (show inb (1 : Int32) 12 = true by decide), ck_t (show inb (2 : Int32) 12 = true by decide), ck_t (show inb (3 : Int32) 12 = true by decide), ck_t (show inb (4 : Int32) 12 = true by decide), ck_t (show inb (5 : Int32) 12 = true by decide), show (0 : Int32).toNatClampNeg = 0 from rfl, show (1 : Int32).toNatClampNeg = 1 from rfl, show (2 : Int32).toNatClampNeg = 2 from rfl, show (3 : Int32).toNatClampNeg = 3 from rfl, show (4 : Int32).toNatClampNeg = 4 from rfl, show (5 : Int32).toNatClampNeg = 5 from rfl, sI_mk, up2_ne (show z + 84 ≠ z + 88 by omega), up2_ne (show z + 83 ≠ z + 88 by omega), hT.wgt hW hi, hT.lie hW hi, hT.hor, dv_n (show 0 < W by have := hD.1; omega) (show W < 1000000 by have := hD.2.1; omega), nI_dv (show tc T i < 1000000 by omega) (show 0 < W by have := hD.1; omega) (show W < 1000000 by have := hD.2.1; omega), nI_md' (show tc T i < 1000000 by omega) (show 0 < W by have := hD.1; omega) (show W < 1000000 by have := hD.2.1; omega), show (24 : Int32) = nI 24 from rfl, dv_n (show 0 < 24 by omega) (show 24 < 1000000 by omega), nI_dv (show th T < 1000000 by omega) (show 0 < 24 by omega) (show 24 < 1000000 by omega), nI_md' (show th T < 1000000 by omega) (show 0 < 24 by omega) (show 24 < 1000000 by omega)]
  rw [up2_upr1 I, up2_upr, up2_upr, up2_upr, up2_upr, up2_upr]
end NA
