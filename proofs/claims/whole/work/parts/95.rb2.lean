/-! THE REFERENCE'S BLOW WHOLE -/
section B2
variable {n z t W H M B : Nat} {I : Nat → Nat → Int32} {J : Nat → Nat → Int64} {u : Option Nat} {T : TP} {L : Option XT}
theorem rb_main (hn : 100000 ≤ n) (hM : M < 100000) (hD : dims W H) (hB : B ≤ 2380) (hB0 : B = 0 ∨ 340 ≤ B) (hW : TW (W * H) M T) {w str : Nat} {dx dy : Int32} :
    ∀ (d p k : Nat) (I : Nat → Nat → Int32) (J : Nat → Nat → Int64), p + d = tk T → d < k → ModR z W H B I → RefT z (W * H) B I (blS W H L dx.toInt dy.toInt str T p).1 → LawR z t I L → WnR (I (z + 84)) w dx dy str → (∀ j, j < tk T → I (z + 91) j = iI (kyT W T dx.toInt dy.toInt j)) → (∀ j, j < tk T → I (z + 92) j = if pos (kyT W T dx.toInt dy.toInt) (tk T) j < p then 1 else 0) →
    ∃ I' J', f_X11_blow_L78 n (z + 83) (nI w) k (nI (blS W H L dx.toInt dy.toInt str T p).2) (nI p) (mk z (W * H) I J t u) = some (nI (blS W H L dx.toInt dy.toInt str T (tk T)).2, mk z (W * H) I' J' t u) ∧ RefT z (W * H) B I' (blT W H L dx.toInt dy.toInt str T).1 ∧ SgB z B I I' J J' := by
  have hC := hD.C
  have h24 := hW.1
  have hhor := hW.2.1
  intro d
  induction d with
  | zero =>
    intro p k I J hp hk hM' hT hL hwn ha hg
    obtain ⟨k, rfl⟩ : ∃ m, k = m + 1 := ⟨k - 1, by omega⟩
    obtain rfl : p = tk T := by omega
    have hb := blS_tk (W := W) (H := H) (L := L) (dx := dx.toInt) (dy := dy.toInt) (str := str) (T := T) (tk T)
    have hWp := blS_W (L := L) (dx := dx.toInt) (dy := dy.toInt) (str := str) hD hW (tk T) (Nat.le_refl _)
    have m4 : mI (mk z (W * H) I J t u) (z + 83) 4 = nI B := hM'.2.2.2
    obtain ⟨k1, k2⟩ := RefT.hrU hWp hT hC
    refine ⟨up2 I (z + 84) B (nI (th (blS W H L dx.toInt dy.toInt str T (tk T)).1 + 1)), J, ?_, k1, ⟨fun q hq => up2_ne (by omega), fun _ _ => rfl, by rw [up2_r]; exact k2⟩⟩
    rw [f_X11_blow_L78]
    simp only [jn, bd]
    rw [s_bones hM' hB hT, cl_some, hb.1, if_pos ((nI_le' (by omega) (by omega)).mpr (Nat.le_refl _)), g83_0, n84, m4, Int32.add_zero, ck_t (inb_nI (by omega) (by omega)), ck_t (inb_nI (by omega) (by omega)), cl_nI (by omega), mI_mk, hT.hor, show nI (th (blS W H L dx.toInt dy.toInt str T (tk T)).1) + (1 : Int32) = nI (th (blS W H L dx.toInt dy.toInt str T (tk T)).1 + 1) from nI_pl _ 1, sI_mk]
  | succ d ih =>
    intro p k I J hp hk hM' hT hL hwn ha hg
    obtain ⟨k, rfl⟩ : ∃ m, k = m + 1 := ⟨k - 1, by omega⟩
    have hwn' := hwn
    obtain ⟨w1, w2, w3, w4, w5, w6, w7⟩ := hwn'
    have hpT : p < tk T := by omega
    have hb := blS_tk (W := W) (H := H) (L := L) (dx := dx.toInt) (dy := dy.toInt) (str := str) (T := T) p
    have hWp := blS_W (L := L) (dx := dx.toInt) (dy := dy.toInt) (str := str) hD hW p (by omega)
    have hwt := blS_went (W := W) (H := H) (L := L) (dx := dx.toInt) (dy := dy.toInt) (str := str) (T := T) p
    obtain ⟨o1, o2⟩ := ordT_ok (kf := kyT W T dx.toInt dy.toInt) hpT
    have hsel := fun a1 x7 x8 K => sel_L (n := n) (J := J) (t := t) (u := u) hM' hB hT (kf := kyT W T dx.toInt dy.toInt) (k0 := tk T) (p := p) hb.1 h24 (fun j hj => by have := ky_bd hD hW w2 w3 hj; omega) ha hg hpT a1 x7 x8 K (tk T) 0 n none (by omega) (by omega) (Or.inl ⟨rfl, fun j hj => by omega⟩)
    generalize hi0 : ordT (kyT W T dx.toInt dy.toInt) (tk T) p = i at o1 o2 hsel
    have hnext : blS W H L dx.toInt dy.toInt str T (p + 1) = go1 W H L dx.toInt dy.toInt str (blS W H L dx.toInt dy.toInt str T p) i := by rw [← hi0]; rfl
    generalize hs0 : blS W H L dx.toInt dy.toInt str T p = s at hT hb hWp hwt hnext
    have hi : i < tk s.1 := by rw [hb.1]; exact o1
    obtain ⟨c1, c2, c3, c4⟩ := hWp.2.2.1 i hi
    have m4 : ∀ (I2 : Nat → Nat → Int32) (J2 : Nat → Nat → Int64), ModR z W H B I2 → mI (mk z (W * H) I2 J2 t u) (z + 83) 4 = nI B := fun I2 J2 h => h.2.2.2
    -- gone of i
    have hgone : ∀ j, j < tk T → ur (I (z + 92)) i 1 j = if pos (kyT W T dx.toInt dy.toInt) (tk T) j < p + 1 then 1 else 0 := by
      intro j hj
      by_cases hji : j = i
      · subst hji; rw [ur_at, if_pos (by omega)]
      · rw [ur_ne _ _ hji, hg j hj]
        have hne : pos (kyT W T dx.toInt dy.toInt) (tk T) j ≠ p := fun e => hji (pos_inj hj o1 (by rw [e, o2]))
        by_cases hlt : pos (kyT W T dx.toInt dy.toInt) (tk T) j < p
        · rw [if_pos hlt, if_pos (by omega)]
        · rw [if_neg hlt, if_neg (by omega)]
    have hM1 : ModR z W H B (upr I (z + 92) (ur (I (z + 92)) i 1)) := hM'.upr (by omega)
    have hT1 : RefT z (W * H) B (upr I (z + 92) (ur (I (z + 92)) i 1)) s.1 := by unfold RefT; rw [upr_ne (by omega)]; exact hT
    have hL1 : LawR z t (upr I (z + 92) (ur (I (z + 92)) i 1)) L := hL.congr (fun j _ => by rw [upr_ne (by omega)]) (by rw [upr_ne (by omega)]) (upr_ne (by omega)) (fun q hq => upr_ne (by omega))
    have hw1 : WnR (upr I (z + 92) (ur (I (z + 92)) i 1) (z + 84)) w dx dy str := by rw [upr_ne (by omega)]; exact hwn
    obtain ⟨I2, J2, hSg, hor⟩ := s_goes (n := n) (J := J) (u := u) hn hM hD hM1 hB hB0 hWp hT1 hL1 hw1 hi
    have hM2 := hSg.mod hM1
    have hS92 : SgB z B I I2 J J2 := SgB.tr (I' := upr I (z + 92) (ur (I (z + 92)) i 1)) (J' := J) ⟨fun q hq => upr_ne (by omega), fun _ _ => rfl, by rw [upr_ne (by omega)]; exact Q84.rf _ _⟩ (SgB.of hSg)
    have r91 : I2 (z + 91) = I (z + 91) := by rw [hSg.1 _ (by omega) (by omega) (by omega), upr_ne (by omega)]
    have r92 : I2 (z + 92) = ur (I (z + 92)) i 1 := by rw [hSg.1 _ (by omega) (by omega) (by omega), upr_at]
    have x34 : nI B + (10 : Int32) + (3 : Int32) * nI i + (2 : Int32) = nI (B + 12 + 3 * i) := by
      rw [show nI B + (10 : Int32) = nI (B + 10) from nI_pl B 10, show (3 : Int32) * nI i = nI (3 * i) from nI_ml 3 i, nI_pl, show (2 : Int32) = nI 2 from rfl, nI_pl]; congr 1; omega
    -- what comes behind the lies are set
    have fin : ∀ (y : Nat) (T2 : TP) (nw : Nat), blS W H L dx.toInt dy.toInt str T (p + 1) = (lieT T2 i y, nw) → TW (W * H) M T2 → i < tk T2 → RefT z (W * H) B I2 T2 → ∃ I' J', f_X11_blow_L78 n (z + 83) (nI w) k (nI nw) (nI (p + 1)) (mk z (W * H) (up2 I2 (z + 84) (B + 12 + 3 * i) (nI y)) J2 t u) = some (nI (blS W H L dx.toInt dy.toInt str T (tk T)).2, mk z (W * H) I' J' t u) ∧ RefT z (W * H) B I' (blT W H L dx.toInt dy.toInt str T).1 ∧ SgB z B I I' J J' := by
      intro y T2 nw en hW2 hi2 hT2
      obtain ⟨k1, k2⟩ := RefT.lieU hB hW2 hT2 hC (y := y) hi2
      have hS3 : SgB z B I2 (up2 I2 (z + 84) (B + 12 + 3 * i) (nI y)) J2 J2 := ⟨fun q hq => up2_ne (by omega), fun _ _ => rfl, by rw [up2_r]; exact k2⟩
      obtain ⟨I', J', e, r1, r2⟩ := ih (p + 1) k _ J2 (by omega) (by omega) (hS3.mod hM2) (by rw [en]; exact k1) ((hS92.tr hS3).law hB0 hL) ((hS92.tr hS3).wn hB0 hwn) (fun j hj => by rw [up2_ne (by omega), r91]; exact ha j hj) (fun j hj => by rw [up2_ne (by omega), r92]; exact hgone j hj)
      rw [en] at e
      exact ⟨I', J', e, r1, (hS92.tr hS3).tr r2⟩
    rw [f_X11_blow_L78]
    simp only [jn, bd]
    rw [s_bones hM' hB hT, cl_some, hb.1, if_neg (show ¬ nI (tk T) ≤ nI p by rw [nI_le' (by omega) (by omega)]; omega)]
    have hselK := hsel (nI w) (nI s.2) (nI p)
    rw [show oI none = (-1 : Int32) from rfl, show nI 0 = (0 : Int32) from rfl] at hselK
    rw [hselK, g83_29, n92, ck_t (inb_nI (by omega) (by omega)), zb_1, cl_nI (show i < 1000000 by omega), sI_mk, up2_upr1 I]
    rcases hor with ⟨q1, q2, q3⟩ | ⟨q1, q2, q3⟩
    · have hgo : go1 W H L dx.toInt dy.toInt str s i = (lieT s.1 i (if tl s.1 i < 99 then tl s.1 i + 1 else 99), s.2) := by unfold go1; rw [if_pos q1]
      have hli : mI (mk z (W * H) I2 J2 t u) (z + 84) (B + 12 + 3 * i) = nI (tl s.1 i) := q3.lie hWp hi
      rw [q2, cl_some, m4 I2 J2 hM2, x34, g83_0]
      simp only [if_true, g83_0, n84, ck_t (inb_nI (show B + 12 + 3 * i < 2720 by omega) (show 2720 < 1000000 by omega)), cl_nI (show B + 12 + 3 * i < 1000000 by omega)]
      have hf := fin (if tl s.1 i < 99 then tl s.1 i + 1 else 99) s.1 s.2 (by rw [hnext, hgo]) hWp hi q3
      rw [show nI s.2 + (0 : Int32) = nI s.2 from Int32.add_zero _, show nI p + (1 : Int32) = nI (p + 1) from nI_pl p 1, hli]
      by_cases h99 : tl s.1 i < 99
      · rw [if_neg (show ¬ (99 : Int32) ≤ nI (tl s.1 i) by rw [show (99 : Int32) = nI 99 from rfl, nI_le' (by omega) (by omega)]; omega), sI_mk, show nI (tl s.1 i) + (1 : Int32) = nI (tl s.1 i + 1) from nI_pl _ 1]
        rw [if_pos h99] at hf
        exact hf
      · rw [if_pos (show (99 : Int32) ≤ nI (tl s.1 i) by rw [show (99 : Int32) = nI 99 from rfl, nI_le' (by omega) (by omega)]; omega), sI_mk]
        rw [if_neg h99] at hf
        exact hf
    · have hgo : go1 W H L dx.toInt dy.toInt str s i = (lieT (layT s.1 i (rchT W H s.1 dx.toInt dy.toInt (stpsT W H s.1 L i str) (tc s.1 i))) i 0, s.2 + 1) := by unfold go1; rw [if_neg q1]
      rcases rchT_or (T := s.1) (dx := dx.toInt) (dy := dy.toInt) hD.1 hD.2.1 (stpsT W H s.1 L i str) (tc s.1 i) with e0 | ⟨hop, hlt⟩
      · exact absurd e0 q1
      · rw [q2, cl_some, m4 I2 J2 hM2, x34, g83_0, if_neg (show ¬ (1 : Int32) = 0 by decide), n84, ck_t (inb_nI (by omega) (by omega)), cl_nI (by omega), sI_mk, if_neg (show ¬ (1 : Int32) = 0 by decide), show nI s.2 + (1 : Int32) = nI (s.2 + 1) from nI_pl _ 1, show nI p + (1 : Int32) = nI (p + 1) from nI_pl p 1]
        exact fin 0 _ _ (by rw [hnext, hgo]) (hWp.lay hi hlt hop) hi q3
theorem rb_init (hD : dims W H) (hB : B ≤ 2380) (hB0 : B = 0 ∨ 340 ≤ B) (hW : TW (W * H) M T) {w str : Nat} {dx dy : Int32} (a1 : Int32) (K : MS → Option (Int32 × MS)) :
    ∀ (d j k : Nat) (I : Nat → Nat → Int32), j + d = tk T → d < k → ModR z W H B I → RefT z (W * H) B I T → WnR (I (z + 84)) w dx dy str → (∀ q, q < j → I (z + 91) q = iI (kyT W T dx.toInt dy.toInt q) ∧ I (z + 92) q = 0) →
    ∃ I', f_X11_blow_L9 n (z + 83) a1 (nI (100 + 4 * w)) K k (nI j) (mk z (W * H) I J t u) = K (mk z (W * H) I' J t u) ∧ (∀ q, q < tk T → I' (z + 91) q = iI (kyT W T dx.toInt dy.toInt q) ∧ I' (z + 92) q = 0) ∧ ∀ q, q ≠ z + 91 → q ≠ z + 92 → I' q = I q := by
  have hC := hD.C
  have h24 := hW.1
  have hd1 := hD.1
  have hd2 := hD.2.1
  intro d
  induction d with
  | zero =>
    intro j k I hj hk hM' hT hwn h
    obtain ⟨k, rfl⟩ : ∃ m, k = m + 1 := ⟨k - 1, by omega⟩
    obtain rfl : j = tk T := by omega
    refine ⟨I, ?_, h, fun _ _ _ => rfl⟩
    rw [f_X11_blow_L9]
    simp only [jn]
    rw [s_bones hM' hB hT, cl_some, if_pos ((nI_le' (by omega) (by omega)).mpr (Nat.le_refl _))]
  | succ d ih =>
    intro j k I hj hk hM' hT hwn h
    obtain ⟨k, rfl⟩ : ∃ m, k = m + 1 := ⟨k - 1, by omega⟩
    have hjT : j < tk T := by omega
    have hwn' := hwn
    obtain ⟨w1, w2, w3, w4, w5, w6, w7⟩ := hwn'
    have hc := (hW.2.2.1 j hjT).1
    have hcd := cd_lt (H := H) hD.1 hc
    have hky := ky_bd hD hW w2 w3 hjT
    have h4' := hD.2.2.2
    obtain ⟨p1, p2, p3⟩ := mul1 (x := tc T j % W) (by omega) w2
    obtain ⟨n1, n2', n3'⟩ := mul1 (x := tc T j / W) (by omega) w3
    have hval : nI (tc T j % W) * dx + nI (tc T j / W) * dy = iI (kyT W T dx.toInt dy.toInt j) := by
      rw [p1, n1, iI_add (by omega) (by omega) (by omega) (by omega)]; rfl
    have e91 : up2 I (z + 91) j (iI (kyT W T dx.toInt dy.toInt j)) = upr I (z + 91) (ur (I (z + 91)) j (iI (kyT W T dx.toInt dy.toInt j))) := up2_upr1 _ _ _ _
    have e92 : up2 (upr I (z + 91) (ur (I (z + 91)) j (iI (kyT W T dx.toInt dy.toInt j)))) (z + 92) j 0 = upr (upr I (z + 91) (ur (I (z + 91)) j (iI (kyT W T dx.toInt dy.toInt j)))) (z + 92) (ur (I (z + 92)) j 0) := by rw [up2_upr1, upr_ne (by omega)]
    obtain ⟨I', e, r1, r2⟩ := ih (j + 1) k (upr (upr I (z + 91) (ur (I (z + 91)) j (iI (kyT W T dx.toInt dy.toInt j)))) (z + 92) (ur (I (z + 92)) j 0)) (by omega) (by omega) ((hM'.upr (by omega)).upr (by omega)) (by unfold RefT; rw [upr_ne (by omega), upr_ne (by omega)]; exact hT) (by rw [upr_ne (by omega), upr_ne (by omega)]; exact hwn) (fun q hq => by
      rw [upr_ne (by omega), upr_at, upr_at]
      by_cases hqj : q = j
      · subst hqj; rw [ur_at, ur_at]; exact ⟨rfl, rfl⟩
      · rw [ur_ne _ _ hqj, ur_ne _ _ hqj]; exact h q (by omega))
    refine ⟨I', ?_, r1, fun q a b => by rw [r2 q a b, upr_ne b, upr_ne a]⟩
    have mW : mI (mk z (W * H) I J t u) (z + 83) 1 = nI W := hM'.1
    have mdx : mI (mk z (W * H) I J t u) (z + 84) (100 + 4 * w) = dx := w5
    have mdy : mI (mk z (W * H) I J t u) (z + 84) (101 + 4 * w) = dy := w6
    rw [f_X11_blow_L9]
    simp only [jn, bd]
    rw [s_bones hM' hB hT, cl_some, if_neg (show ¬ nI (tk T) ≤ nI j by rw [nI_le' (by omega) (by omega)]; omega), g83_28, s_cellOf hM' hB hW hT hjT, cl_some, mW, dv_n (by omega) (by omega), g83_0, n84, ck_t (inb_nI (by omega) (by omega)), s_cellOf hM' hB hW hT hjT, cl_some, mW, dv_n (by omega) (by omega), g83_0, n84, show nI (100 + 4 * w) + (1 : Int32) = nI (101 + 4 * w) by rw [show (1 : Int32) = nI 1 from rfl, nI_pl]; congr 1; omega, ck_t (inb_nI (by omega) (by omega)), n91, ck_t (inb_nI (by omega) (by omega)), cl_nI (show j < 1000000 by omega), cl_nI (show 100 + 4 * w < 1000000 by omega), cl_nI (show 101 + 4 * w < 1000000 by omega), mdx, mdy, nI_md (by omega) (by omega) (by omega), nI_dv (by omega) (by omega) (by omega), hval, sI_mk, e91, g83_29, n92, ck_t (inb_nI (by omega) (by omega)), zb_0, sI_mk, e92, show nI j + (1 : Int32) = nI (j + 1) from nI_pl j 1]
    exact e
theorem s_blowR (hn : 100000 ≤ n) (hM : M < 100000) (hD : dims W H) (hM' : ModR z W H B I) (hB : B ≤ 2380) (hB0 : B = 0 ∨ 340 ≤ B) (hW : TW (W * H) M T) (hT : RefT z (W * H) B I T) (hL : LawR z t I L) {w str : Nat} {dx dy : Int32} (hwn : WnR (I (z + 84)) w dx dy str) :
    ∃ I' J', f_X11_blow n (z + 83) (nI w) (mk z (W * H) I J t u) = some (nI (blT W H L dx.toInt dy.toInt str T).2, mk z (W * H) I' J' t u) ∧ RefT z (W * H) B I' (blT W H L dx.toInt dy.toInt str T).1 ∧ SgB z B I I' J J' := by
  have h24 := hW.1
  obtain ⟨I1, e1, r1, r2⟩ := rb_init (n := n) (J := J) (t := t) (u := u) hD hB hB0 hW (nI w) (fun (S4 : MS) => f_X11_blow_L78 n (z + 83) (nI w) n (0 : Int32) (0 : Int32) S4) (tk T) 0 n I (by omega) (by omega) hM' hT hwn (fun q hq => by omega)
  have hS1 : SgB z B I I1 J J := ⟨fun q hq => r2 q (by omega) (by omega), fun _ _ => rfl, by rw [r2 _ (by omega) (by omega)]; exact Q84.rf _ _⟩
  obtain ⟨I', J', e2, q1, q2⟩ := rb_main (n := n) (u := u) (w := w) (str := str) (dx := dx) (dy := dy) hn hM hD hB hB0 hW (tk T) 0 n I1 J (by omega) (by omega) (hS1.mod hM') (by unfold RefT; rw [r2 _ (by omega) (by omega)]; exact hT) (hS1.law hB0 hL) (hS1.wn hB0 hwn) (fun j hj => (r1 j hj).1) (fun j hj => by rw [(r1 j hj).2, if_neg (by omega)])
  refine ⟨I', J', ?_, q1, hS1.tr q2⟩
  unfold f_X11_blow
  simp only [jn, bd]
  rw [show (100 : Int32) + (4 : Int32) * nI w = nI (100 + 4 * w) by rw [show (4 : Int32) * nI w = nI (4 * w) from nI_ml 4 w]; exact nI_pl 100 _]
  exact e1.trans e2
end B2
