/-! DRAW keeps the relation: the clauses one by one -/
section DY
variable {n z t W H M : Nat} {u : Option Nat} {X : XT}
theorem ceT_some {x y d : Nat} (h : ceT W H x y = some d) : x < W ∧ y < H ∧ d = x + W * y := by
  unfold ceT at h
  by_cases q : x < W ∧ y < H
  · rw [if_pos q] at h
    cases h
    exact ⟨q.1, q.2, rfl⟩
  · rw [if_neg q] at h; cases h
theorem draw_C (hn : 100000 ≤ n) (hD : dims W H) (hX : XW X) {r : Nat} (hr : r < t) : ∀ (d i k : Nat) (I : Nat → Nat → Int32) (J : Nat → Nat → Int64) (T : TP), i + d = xm X → d < k → GeoR W H (I (z + 30)) (J (z + 30)) (J (z + 31)) → ClsX z r I X → TW (W * H) M T → ClsT z (W * H) 32 I J T → ∃ I' J', f_X3_drawnBy_L2 n (z + 32) (some (z + (97 + 6 * r))) k (nI i) (mk z (W * H) I J t u) = some ((dwS W H X d i T).1, mk z (W * H) I' J' t u) ∧ ClsT z (W * H) 32 I' J' (dwS W H X d i T).2 ∧ DwC z I I' J J' := by
  have hm := hX.1
  have hC := hD.C
  have ho : isP 32 := Or.inl rfl
  intro d
  induction d with
  | zero =>
    intro i k I J T hi hk hG hCx hW hT
    obtain ⟨k, rfl⟩ : ∃ m, k = m + 1 := ⟨k - 1, by omega⟩
    have m5 : mI (mk z (W * H) I J t u) (z + (97 + 6 * r)) 5 = nI (xm X) := hCx.1
    refine ⟨I, J, ?_, hT, DwC.rf z I J⟩
    rw [f_X3_drawnBy_L2]
    simp only [jn, nn]
    rw [m5, if_pos ((nI_le' (by omega) (by omega)).mpr (by omega))]; rfl
  | succ d ih =>
    intro i k I J T hi hk hG hCx hW hT
    obtain ⟨k, rfl⟩ : ∃ m, k = m + 1 := ⟨k - 1, by omega⟩
    have hi' : i < xm X := by omega
    have h24 := hW.1
    have m5 : mI (mk z (W * H) I J t u) (z + (97 + 6 * r)) 5 = nI (xm X) := hCx.1
    obtain ⟨r0, r1, r2, r3⟩ := hCx.2.2.2.1 i hi'
    have m0 : mI (mk z (W * H) I J t u) (z + (97 + 6 * r + 1 + 0)) i = nI (xs X i + 18) := r0
    have m1 : mI (mk z (W * H) I J t u) (z + (97 + 6 * r + 1 + 1)) i = nI (xa X i) := r1
    have m2 : mI (mk z (W * H) I J t u) (z + (97 + 6 * r + 1 + 2)) i = nI (xe X i) := r2
    have hs5 := hX.2.2.1 i hi'
    have e2 : nI i + (1 : Int32) = nI (i + 1) := nI_pl i 1
    have n22 : xs X i ≠ 4 → ¬ nI (xs X i + 18) = (22 : Int32) := fun w => by rw [show (22 : Int32) = nI 22 from rfl, nI_inj (by omega) (by omega)]; omega
    have n23 : xs X i ≠ 5 → ¬ nI (xs X i + 18) = (23 : Int32) := fun w => by rw [show (23 : Int32) = nI 23 from rfl, nI_inj (by omega) (by omega)]; omega
    have go : ∀ (I1 : Nat → Nat → Int32) (J1 : Nat → Nat → Int64) (T1 : TP), dw1 W H X i T = some T1 → ClsT z (W * H) 32 I1 J1 T1 → DwC z I I1 J J1 → ∃ I' J', f_X3_drawnBy_L2 n (z + 32) (some (z + (97 + 6 * r))) k (nI (i + 1)) (mk z (W * H) I1 J1 t u) = some ((dwS W H X (d + 1) i T).1, mk z (W * H) I' J' t u) ∧ ClsT z (W * H) 32 I' J' (dwS W H X (d + 1) i T).2 ∧ DwC z I I' J J' := by
      intro I1 J1 T1 e c f
      rw [dwS_y e]
      obtain ⟨I', J', e3, c3, f3⟩ := ih (i + 1) k I1 J1 T1 (by omega) (by omega) (by rw [f.1 _ (by omega), f.2.1 _ (by omega), f.2.1 _ (by omega)]; exact hG) (hCx.congr (fun q hq => f.1 q (by omega))) (dw1_W hX hi' hW e) c
      exact ⟨I', J', e3, c3, f.trn f3⟩
    have stop : dw1 W H X i T = none → ∃ I' J', some (nI i, mk z (W * H) I J t u) = some ((dwS W H X (d + 1) i T).1, mk z (W * H) I' J' t u) ∧ ClsT z (W * H) 32 I' J' (dwS W H X (d + 1) i T).2 ∧ DwC z I I' J J' := fun e => ⟨I, J, by rw [dwS_n e], by rw [dwS_n e]; exact hT, DwC.rf z I J⟩
    rw [f_X3_drawnBy_L2]
    simp only [jn, bd, nn]
    rw [m5, if_neg (show ¬ nI (xm X) ≤ nI i by rw [nI_le' (by omega) (by omega)]; omega), if_neg (show ¬ (20 : Int32) ≤ nI i by rw [show (20 : Int32) = nI 20 from rfl, nI_le' (by omega) (by omega)]; omega), gT hr (by omega), nT hr (by omega), ck_t (inb_nI (by omega) (by omega)), cl_nI (by omega), m0, e2]
    by_cases h4 : xs X i = 4
    · obtain ⟨p1, p2, p3, p4⟩ := hX.2.2.2.2.2 i hi' (by omega)
      have m3 : mI (mk z (W * H) I J t u) (z + (97 + 6 * r + 1 + 3)) i = nI (xy X i) := r3 (by omega)
      have y22 : nI (xs X i + 18) = (22 : Int32) := by rw [h4]; rfl
      rw [if_pos y22, gP_0 ho, gT hr (by omega), nT hr (by omega), ck_t (inb_nI (by omega) (by omega)), gT hr (by omega), nT hr (by omega), ck_t (inb_nI (by omega) (by omega)), m2, m3, s_cellAt hD hG.1 hG.2.1 p3 p4, cl_some, if_pos y22, gT hr (by omega), nT hr (by omega), ck_t (inb_nI (by omega) (by omega)), m1]
      by_cases q : xe X i < W ∧ xy X i < H ∧ tk T < 24 ∧ opn T (xe X i + W * xy X i)
      · have hce : ceT W H (xe X i) (xy X i) = some (xe X i + W * xy X i) := by rw [ceT, if_pos ⟨q.1, q.2.1⟩]
        obtain ⟨I1, J1, e1, c1, f1⟩ := s_addBoneT (n := n) (t := t) (u := u) hC hG.2.2.1 hW hT (cel_lt q.1 q.2.1) (p1 h4).1 (p1 h4).2 q.2.2.1 q.2.2.2
        rw [hce, show oI (some (xe X i + W * xy X i)) = nI (xe X i + W * xy X i) from rfl, e1, cl_some, if_neg (nI_nm1 (by omega)), if_neg (by decide)]
        exact go I1 J1 _ (dw1_b h4 q) c1 f1
      · have e1 := s_addBoneN (n := n) (t := t) (u := u) hC hG.2.2.1 hW hT (x := ceT W H (xe X i) (xy X i)) (fun d e => by
          obtain ⟨w1, w2, rfl⟩ := ceT_some e
          exact cel_lt w1 w2) (nI (xa X i)) (fun d e w => by
          obtain ⟨w1, w2, rfl⟩ := ceT_some e
          exact q ⟨w1, w2, w.1, w.2⟩)
        rw [e1, cl_some, if_pos rfl, if_pos trivial]
        exact stop (dw1_bn h4 q)
    · by_cases h5 : xs X i = 5
      · obtain ⟨p1, p2, p3, p4⟩ := hX.2.2.2.2.2 i hi' (by omega)
        have m3 : mI (mk z (W * H) I J t u) (z + (97 + 6 * r + 1 + 3)) i = nI (xy X i) := r3 (by omega)
        have p5 := p2 h5
        rw [if_neg (n22 h4), if_pos (show nI (xs X i + 18) = (23 : Int32) by rw [h5]; rfl), gP_0 ho, gT hr (by omega), nT hr (by omega), ck_t (inb_nI (by omega) (by omega)), gT hr (by omega), nT hr (by omega), ck_t (inb_nI (by omega) (by omega)), m2, m3, s_cellAt hD hG.1 hG.2.1 p3 p4, cl_some, if_neg (n22 h4)]
        by_cases q0 : xe X i < W ∧ xy X i < H
        · have hlt := cel_lt (H := H) q0.1 q0.2
          rw [ceT, if_pos q0, show oI (some (xe X i + W * xy X i)) = nI (xe X i + W * xy X i) from rfl, if_neg (nI_nm1 (by omega)), gT hr (by omega), nT hr (by omega), ck_t (inb_nI (by omega) (by omega)), m1]
          by_cases hb : Bn T (xe X i + W * xy X i)
          · rw [s_setStakeN hC hG.2.2.1 hT (by omega) hlt hb, cl_some, if_pos rfl, if_pos trivial]
            exact stop (dw1_sn h5 (fun w => w.2.2 hb))
          · obtain ⟨I1, J1, e1, c1, f1⟩ := s_setStakeT (n := n) (t := t) (u := u) hn hC hG.2.2.1 hW hT (f := xa X i) (by omega) hlt hb
            rw [e1, cl_some, if_neg (by decide), if_neg (by decide)]
            exact go I1 J1 _ (dw1_s h5 ⟨q0.1, q0.2, hb⟩) c1 f1
        · rw [ceT, if_neg q0, if_pos (show oI none = -1 from rfl), if_pos trivial]
          exact stop (dw1_sn h5 (fun w => q0 ⟨w.1, w.2.1⟩))
      · rw [if_neg (n22 h4), if_neg (n23 h5)]
        exact go I J T (dw1_o h4 h5) hT (DwC.rf z I J)
theorem s_isDone {I : Nat → Nat → Int32} {J : Nat → Nat → Int64} {T : TP} (hn : 100000 ≤ n) (hD : dims W H) (hX : XW X) {r i : Nat} (hr : r < 4) (hM' : ModR z W H 0 I) (hR : RefX z r I X) (hW : TW (W * H) M T) (hT : RefT z (W * H) 0 I T) (hi : i < xm X) :
    (dw1 W H X i T = none ∧ f_X11_isDone n (z + 83) (nI (700 * r + 1 + 4 * i)) (mk z (W * H) I J t u) = some (0, mk z (W * H) I J t u)) ∨ ∃ T' g, dw1 W H X i T = some T' ∧ f_X11_isDone n (z + 83) (nI (700 * r + 1 + 4 * i)) (mk z (W * H) I J t u) = some (1, mk z (W * H) (upr I (z + 84) g) J t u) ∧ RefT z (W * H) 0 (upr I (z + 84) g) T' ∧ Q84 0 (I (z + 84)) g := by
  have hm := hX.1
  have hC := hD.C
  have h24 := hW.1
  obtain ⟨d1, d2, d3, d4⟩ := id hD
  have hs5 := hX.2.2.1 i hi
  obtain ⟨r0, r1, r2, r3⟩ := hR.2.1 i hi
  have m0 : mI (mk z (W * H) I J t u) (z + 85) (700 * r + 1 + 4 * i) = nI (xs X i) := r0
  have m1 : mI (mk z (W * H) I J t u) (z + 85) (700 * r + 1 + 4 * i + 1) = nI (xa X i) := r1
  have m2 : mI (mk z (W * H) I J t u) (z + 85) (700 * r + 1 + 4 * i + 2) = nI (xe X i) := r2
  have y1 : nI (700 * r + 1 + 4 * i) + (1 : Int32) = nI (700 * r + 1 + 4 * i + 1) := nI_pl _ 1
  have y2 : nI (700 * r + 1 + 4 * i) + (2 : Int32) = nI (700 * r + 1 + 4 * i + 2) := nI_pl _ 2
  have y3 : nI (700 * r + 1 + 4 * i) + (3 : Int32) = nI (700 * r + 1 + 4 * i + 3) := nI_pl _ 3
  have mw : mI (mk z (W * H) I J t u) (z + 83) 1 = nI W := hM'.1
  have mh : mI (mk z (W * H) I J t u) (z + 83) 2 = nI H := hM'.2.1
  have h40 : (0 : Int32) = nI 0 := rfl
  have h4' : I (z + 83) 4 = 0 := hM'.2.2.2
  unfold f_X11_isDone
  simp only [bd]
  rw [g83_5, n85, ck_t (inb_nI (by omega) (by omega)), cl_nI (by omega)]
  by_cases h4 : 4 ≤ xs X i
  · obtain ⟨p1, p2, p3, p4⟩ := hX.2.2.2.2.2 i hi h4
    have m3 : mI (mk z (W * H) I J t u) (z + 85) (700 * r + 1 + 4 * i + 3) = nI (xy X i) := r3 h4
    rw [if_pos (show (4 : Int32) ≤ mI (mk z (W * H) I J t u) (z + 85) (700 * r + 1 + 4 * i) by rw [m0, show (4 : Int32) = nI 4 from rfl, nI_le' (by omega) (by omega)]; omega), g83_5, n85, y2, ck_t (inb_nI (by omega) (by omega)), cl_nI (by omega)]
    by_cases q1 : xe X i < W
    · rw [if_neg (show ¬ mI (mk z (W * H) I J t u) (z + 83) 1 ≤ mI (mk z (W * H) I J t u) (z + 85) (700 * r + 1 + 4 * i + 2) by rw [mw, m2, nI_le' (by omega) (by omega)]; omega), g83_5, n85, y3, ck_t (inb_nI (by omega) (by omega)), cl_nI (by omega)]
      by_cases q2 : xy X i < H
      · have hlt := cel_lt q1 q2
        rw [if_pos (show mI (mk z (W * H) I J t u) (z + 85) (700 * r + 1 + 4 * i + 3) < mI (mk z (W * H) I J t u) (z + 83) 2 by rw [mh, m3, nI_lt' (by omega) (by omega)]; omega), g83_5, n85, ck_t (inb_nI (by omega) (by omega)), g83_5, n85, ck_t (inb_nI (by omega) (by omega)), g83_5, n85, ck_t (inb_nI (by omega) (by omega)), mw, m2, m3, nI_ml, nI_pl]
        by_cases h44 : xs X i = 4
        · rw [if_pos (show mI (mk z (W * H) I J t u) (z + 85) (700 * r + 1 + 4 * i) = 4 by rw [m0, h44]; rfl), g83_5, n85, y1, ck_t (inb_nI (by omega) (by omega)), cl_nI (by omega), m1]
          by_cases q : tk T < 24 ∧ opn T (xe X i + W * xy X i)
          · obtain ⟨g, e1, c1, f1⟩ := s_boneRT (n := n) (J := J) (t := t) (u := u) hn hC hM'.2.2.1 h4' hW hT hlt (p1 h44).1 (p1 h44).2 q.1 q.2
            refine Or.inr ⟨_, g, dw1_b h44 ⟨q1, q2, q.1, q.2⟩, ?_, c1, f1⟩
            rw [e1, cl_some, if_neg (nI_pos (by omega)), zb_1]
          · refine Or.inl ⟨dw1_bn h44 (fun w => q ⟨w.2.2.1, w.2.2.2⟩), ?_⟩
            rw [s_boneRN hn hC hM'.2.2.1 h4' hW hT hlt _ q, cl_some, if_pos (by decide), zb_0]
        · have h55 : xs X i = 5 := by omega
          have p5 := p2 h55
          rw [if_neg (show ¬ mI (mk z (W * H) I J t u) (z + 85) (700 * r + 1 + 4 * i) = 4 by rw [m0, h55]; decide), g83_5, n85, y1, ck_t (inb_nI (by omega) (by omega)), cl_nI (by omega), m1]
          rcases s_stakeRT (n := n) (J := J) (t := t) (u := u) hC hM'.2.2.1 hW hT (f := xa X i) (by omega) hlt with ⟨hb, e1⟩ | ⟨hb, g, e1, c1, f1⟩
          · refine Or.inl ⟨dw1_sn h55 (fun w => w.2.2 hb), ?_⟩
            rw [e1, cl_some, zb_0]
          · refine Or.inr ⟨_, g, dw1_s h55 ⟨q1, q2, hb⟩, ?_, c1, f1⟩
            rw [e1, cl_some, zb_1]
      · have hno : dw1 W H X i T = none := by
          by_cases h44 : xs X i = 4
          · exact dw1_bn h44 (fun w => q2 w.2.1)
          · exact dw1_sn (by omega) (fun w => q2 w.2.1)
        refine Or.inl ⟨hno, ?_⟩
        rw [if_neg (show ¬ mI (mk z (W * H) I J t u) (z + 85) (700 * r + 1 + 4 * i + 3) < mI (mk z (W * H) I J t u) (z + 83) 2 by rw [mh, m3, nI_lt' (by omega) (by omega)]; omega), zb_0]
    · have hno : dw1 W H X i T = none := by
        by_cases h44 : xs X i = 4
        · exact dw1_bn h44 (fun w => q1 w.1)
        · exact dw1_sn (by omega) (fun w => q1 w.1)
      refine Or.inl ⟨hno, ?_⟩
      rw [if_pos (show mI (mk z (W * H) I J t u) (z + 83) 1 ≤ mI (mk z (W * H) I J t u) (z + 85) (700 * r + 1 + 4 * i + 2) by rw [mw, m2, nI_le' (by omega) (by omega)]; omega), zb_0]
  · refine Or.inr ⟨T, I (z + 84), dw1_o (by omega) (by omega), ?_, by rw [upr_self]; exact hT, Q84.rf 0 _⟩
    rw [upr_self, if_neg (show ¬ (4 : Int32) ≤ mI (mk z (W * H) I J t u) (z + 85) (700 * r + 1 + 4 * i) by rw [m0, show (4 : Int32) = nI 4 from rfl, nI_le' (by omega) (by omega)]; omega), zb_1]
theorem draw_R {J : Nat → Nat → Int64} (hn : 100000 ≤ n) (hD : dims W H) (hX : XW X) {r : Nat} (hr : r < 4) : ∀ (d i k : Nat) (I : Nat → Nat → Int32) (T : TP), i + d = xm X → d < k → ModR z W H 0 I → RefX z r I X → TW (W * H) M T → RefT z (W * H) 0 I T → ∃ g, f_X11_draw_L88 n (z + 83) (nI r) k (nI i) (mk z (W * H) I J t u) = some ((dwS W H X d i T).1, mk z (W * H) (upr I (z + 84) g) J t u) ∧ RefT z (W * H) 0 (upr I (z + 84) g) (dwS W H X d i T).2 ∧ Q84 0 (I (z + 84)) g := by
  have hm := hX.1
  have x700 : (700 : Int32) * nI r = nI (700 * r) := nI_ml 700 r
  intro d
  induction d with
  | zero =>
    intro i k I T hi hk hM' hR hW hT
    obtain ⟨k, rfl⟩ : ∃ m, k = m + 1 := ⟨k - 1, by omega⟩
    have m0 : mI (mk z (W * H) I J t u) (z + 85) (700 * r) = nI (xm X) := hR.1
    refine ⟨I (z + 84), ?_, by rw [upr_self]; exact hT, Q84.rf 0 _⟩
    rw [upr_self, f_X11_draw_L88]
    simp only [jn]
    rw [g83_5, n85, x700, ck_t (inb_nI (by omega) (by omega)), cl_nI (by omega), m0, if_pos ((nI_le' (by omega) (by omega)).mpr (by omega))]; rfl
  | succ d ih =>
    intro i k I T hi hk hM' hR hW hT
    obtain ⟨k, rfl⟩ : ∃ m, k = m + 1 := ⟨k - 1, by omega⟩
    have m0 : mI (mk z (W * H) I J t u) (z + 85) (700 * r) = nI (xm X) := hR.1
    have x1 : (nI (700 * r) + (1 : Int32)) + (4 : Int32) * nI i = nI (700 * r + 1 + 4 * i) := by
      rw [show (4 : Int32) * nI i = nI (4 * i) from nI_ml 4 i, show nI (700 * r) + (1 : Int32) = nI (700 * r + 1) from nI_pl _ 1, nI_pl]
    have e2 : nI i + (1 : Int32) = nI (i + 1) := nI_pl i 1
    rw [f_X11_draw_L88]
    simp only [jn, bd]
    rw [g83_5, n85, x700, ck_t (inb_nI (by omega) (by omega)), cl_nI (by omega), m0, if_neg (show ¬ nI (xm X) ≤ nI i by rw [nI_le' (by omega) (by omega)]; omega), x1, e2]
    rcases s_isDone (n := n) (J := J) (t := t) (u := u) hn hD hX hr hM' hR hW hT (show i < xm X by omega) with ⟨h, e⟩ | ⟨T', g, h, e, c1, f1⟩
    · refine ⟨I (z + 84), ?_, by rw [upr_self, dwS_n h]; exact hT, Q84.rf 0 _⟩
      rw [e, cl_some, if_pos rfl, upr_self, dwS_n h]
    · obtain ⟨g2, e2, c2, f2⟩ := ih (i + 1) k (upr I (z + 84) g) T' (by omega) (by omega) (hM'.upr (by omega)) (hR.congr (upr_ne (by omega))) (dw1_W hX (by omega) hW h) c1
      have hu : upr (upr I (z + 84) g) (z + 84) g2 = upr I (z + 84) g2 := by
        funext q
        by_cases hq : q = z + 84
        · subst hq; rw [upr_at, upr_at]
        · rw [upr_ne hq, upr_ne hq, upr_ne hq]
      rw [hu] at e2 c2
      rw [upr_at] at f2
      refine ⟨g2, ?_, by rw [dwS_y h]; exact c2, f1.tr f2⟩
      rw [e, cl_some, if_neg (by decide), e2, dwS_y h]
theorem Op_draw_ok {Q : Nat} : Op_draw z (Rel z (TXx z) Q) := by
  intro n hn S a hR
  obtain ⟨W, H, I, J, t, u, V, L, T, rfl, hD, hRI, hXC, hXR, hW, hTc, hTr⟩ := hR.op
  have hC := hD.C
  have ho : isP 32 := Or.inl rfl
  obtain ⟨w, tx, q1, q2, q3, q4, q5, q6, -⟩ := id hRI.2.2.2.2.1
  rw [ta_in (by decide), Nat.zero_add, Nat.zero_add] at q6
  obtain ⟨k, k', hk1, hk2, hk3, hk4, hk5, hk6, hTX⟩ := hRI.2.2.2.2.2.2.2.2
  have hkt : k = tx := (nI_inj (by omega) (by omega)).mp (hk5.symm.trans q5)
  subst hkt
  have m7 : mI (mk z (W * H) I J t u) (z + 1) 7 = nI k := q5
  have cb : (¬ a < 0 ∧ ¬ mI (mk z (W * H) I J t u) (z + 1) 7 ≤ a) ↔ (¬ a < 0 ∧ ¬ nI k ≤ a) := by rw [m7]
  by_cases c1 : ¬ a < 0 ∧ ¬ nI k ≤ a
  rotate_left
  · refine ⟨-2, mk z (W * H) I J t u, mk z (W * H) I J t u, ?_, ?_, Rel.cl hD hRI⟩
    · unfold f_X10_draw
      rw [g0z_3, s_isTextC, cl_some, ite_bI, if_neg (fun w => c1 (cb.mp w))]
    · unfold f_X11_draw
      rw [g83_0, n84, ck_t (by decide), show (3 : Int32).toNatClampNeg = 3 from rfl, mI_mk, q6, s_isIn, cl_some, ite_bI, if_neg (fun w => c1 ((in0 (by omega)).mp w))]
  obtain ⟨r, hr, rfl⟩ := nI_nm c1.1 c1.2 (by omega)
  obtain ⟨X, hX, hCx, hRx⟩ := hTX.2 r hr
  have hmr : ∀ (I' : Nat → Nat → Int32) (J' : Nat → Nat → Int64), mR (mk z (W * H) I' J' t u) (z + 22) r = some (z + (97 + 6 * r)) := fun I' J' => by
    rw [mR_mk]
    unfold rO
    rw [if_pos rfl, if_pos (by omega)]
    rfl
  obtain ⟨I1, J1, e1, c1', f1⟩ := s_clearT (n := n) (t := t) (u := u) hn hC hTc
  obtain ⟨I2, J2, e2, c2, f2⟩ := draw_C (n := n) (z := z) (M := 999) (u := u) hn hD hX (show r < t by omega) (xm X) 0 n I1 J1 (clT T) (by omega) (by have := hX.1; omega) (by rw [f1.1 _ (by omega), f1.2.1 _ (by omega), f1.2.1 _ (by omega)]; exact hXC.1) (hCx.congr (fun q hq => f1.1 q (by omega))) hW.clr c1'
  have f12 := f1.trn f2
  have ecls : f_X10_draw n z (nI r) (mk z (W * H) I J t u) = some ((dwS W H X (xm X) 0 (clT T)).1, mk z (W * H) I2 J2 t u) := by
    unfold f_X10_draw
    rw [g0z_3, s_isTextC, cl_some, ite_bI, if_pos (cb.mpr c1), g0z_7, n22, ck_t (inb_nI (by omega) (by omega)), cl_nI (by omega), hmr, gN_some (by omega), if_neg (by simp), g0z_1, e1, cv_some, g0z_1, g0z_7, n22, ck_t (inb_nI (by omega) (by omega)), hmr, gN_some (by omega)]
    unfold f_X3_drawnBy
    rw [show (0 : Int32) = nI 0 from rfl, e2, cl_some]
  have h84 : I2 (z + 84) = I (z + 84) := f12.1 _ (by omega)
  have hM2 : ModR z W H 0 I2 := by unfold ModR; rw [f12.1 _ (by omega)]; exact hXR.1
  -- the reference
  obtain ⟨g1, x1, y1, y2⟩ := draw_28 (n := n) (z := z) (C := W * H) (I := I2) (J := J2) (t := t) (u := u) (nI r) (fun S15 => f_X11_draw_L52 n (z + 83) (nI r) (fun S18 => f_X11_draw_L88 n (z + 83) (nI r) n (0 : Int32) S18) n (0 : Int32) S15) 6 0 n (ur (I2 (z + 84)) 1 0) rfl (by omega)
  obtain ⟨g2, x2, y3, y4⟩ := draw_52 (n := n) (z := z) (C := W * H) (I := I2) (J := J2) (t := t) (u := u) (nI r) (fun S18 => f_X11_draw_L88 n (z + 83) (nI r) n (0 : Int32) S18) 48 0 n g1 rfl (by omega)
  have hg : ∀ j, j ≠ 1 → ¬ (85 ≤ j ∧ j < 91) → ¬ (240 ≤ j ∧ j < 288) → ¬ (290 ≤ j ∧ j < 338) → g2 j = I (z + 84) j := fun j b1 b2 b3 b4 => by
    rw [y3 j (by omega) (by omega), y1 j (by omega), ur_ne _ _ b1, h84]
  have hg85 : ∀ f, f < 6 → g2 (85 + f) = -1 := fun f hf => by rw [y3 _ (by omega) (by omega)]; exact y2 _ (by omega) (by omega)
  have hg1 : g2 1 = 0 := by rw [y3 _ (by omega) (by omega), y1 _ (by omega), ur_at]
  have hTcl : RefT z (W * H) 0 (upr I2 (z + 84) g2) (clT T) := by
    obtain ⟨b1, b2, b3, b4, b5, b6⟩ := id hTr
    unfold RefT
    rw [upr_at]
    refine ⟨?_, ?_, fun i hi => ?_, fun f hf => ?_, fun d hd => ?_, fun d hd hb => ?_⟩
    · rw [pa0 _ (by decide), hg1]; rfl
    · rw [pa0 _ (by decide)] at b2 ⊢
      rw [hg 0 (by omega) (by omega) (by omega) (by omega)]; exact b2
    · have hi : i < 0 := hi
      omega
    · rw [pa0 _ (plj_85 (by omega)), hg85 f hf]; rfl
    · rw [pa0 _ (by have := plj_190 (i := 50 + d) (by omega); rwa [show 190 + (50 + d) = 240 + d by omega] at this), (y4 d (by omega) (by omega)).1]; rfl
    · rw [pa0 _ (plj_290 (by omega)), (y4 d (by omega) (by omega)).2]
  have hQ : Q84 0 (I (z + 84)) g2 := by
    refine ⟨fun j hj => hg j (by omega) (by omega) (by omega) (by omega), fun j hj => ?_, fun j hj => hg _ (by omega) (by omega) (by omega) (by omega), fun j hj => hg _ (by omega) (by omega) (by omega) (by omega)⟩
    rw [Nat.zero_add]
    by_cases hb : j < 340
    · refine hg j (fun e => ?_) (fun e => ?_) (fun e => ?_) (fun e => ?_)
      · rw [e] at hj; cases hj
      · rw [show j = 85 + (j - 85) by omega, plj_85 (by omega)] at hj; cases hj
      · rw [show j = 190 + (j - 190) by omega, plj_190 (by omega)] at hj; cases hj
      · rw [show j = 190 + (j - 190) by omega, plj_190 (by omega)] at hj; cases hj
    · exact hg j (by omega) (by omega) (by omega) (by omega)
  obtain ⟨g3, e3, c3, f3⟩ := draw_R (n := n) (z := z) (M := 999) (J := J2) (t := t) (u := u) hn hD hX (show r < 4 by omega) (xm X) 0 n (upr I2 (z + 84) g2) (clT T) (by omega) (by have := hX.1; omega) (hM2.upr (by omega)) (hRx.congr (by rw [upr_ne (by omega)]; exact f12.1 _ (by omega))) hW.clr hTcl
  have hu : upr (upr I2 (z + 84) g2) (z + 84) g3 = upr I2 (z + 84) g3 := by
    funext q
    by_cases hq : q = z + 84
    · subst hq; rw [upr_at, upr_at]
    · rw [upr_ne hq, upr_ne hq, upr_ne hq]
  rw [hu] at e3 c3
  rw [upr_at] at f3
  have eref : f_X11_draw n (z + 83) (nI r) (mk z (W * H) I2 J2 t u) = some ((dwS W H X (xm X) 0 (clT T)).1, mk z (W * H) (upr I2 (z + 84) g3) J2 t u) := by
    unfold f_X11_draw
    simp only [jn, bd]
    rw [g83_0, n84, ck_t (by decide), show (3 : Int32).toNatClampNeg = 3 from rfl, mI_mk, h84, q6, s_isIn, cl_some, ite_bI, if_pos ((in0 (by omega)).mpr c1), g83_0, n84, ck_t (by decide), show (1 : Int32).toNatClampNeg = 1 from rfl, sI_mk, up2_upr1, show (0 : Int32) = nI 0 from rfl]
    exact x1.trans (x2.trans e3)
  refine ⟨_, _, _, ecls, eref, Rel.cl hD (hRI.after (TXx_ok z) hC (dwS_W hX _ _ _ (by omega) hW.clr) (c2.keep (fun i hi => upr_ne (by omega)) rfl) c3 (fun q hq => (upr_ne (by omega)).trans (f12.1 q (by omega))) (fun q hq => f12.2.1 q (by omega)) f12.2.2 (by rw [upr_at]; exact hQ.tr f3))⟩
end DY
