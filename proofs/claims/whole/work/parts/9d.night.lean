/-! THE STEP BY NIGHT: both -/
section NG
variable {n z t W H M : Nat} {u : Option Nat} {T : TP} {L : Option XT}
theorem PlainR.mq {C M Q Q' : Nat} {ob : Nat → Int32} {oj : Nat → Int64} {ce we li sk fi cr p : Nat → Int32} (hQ : Q ≤ Q') (h : PlainR C M Q ob oj ce we li sk fi cr p) : PlainR C M Q' ob oj ce we li sk fi cr p := by
  obtain ⟨k, hh, a1, a2, a3, a4, a5, a6, a7, a8, a9, a10, r⟩ := h
  refine ⟨k, hh, a1, a2, a3, a4, a5, a6, a7, a8, a9, fun f hf => ⟨(a10 f hf).1, ?_⟩, r⟩
  obtain ⟨v, hv, e⟩ := (a10 f hf).2
  exact ⟨v, by omega, e⟩
theorem RelI.mq {Q Q' : Nat} {TX : TXty} {I : Nat → Nat → Int32} {J : Nat → Nat → Int64} (hQ : Q ≤ Q') (h : RelI z TX Q W H I J t) : RelI z TX Q' W H I J t := by
  obtain ⟨hG, hM, hT, hF, hT1, hT8, hP1, hP2, r⟩ := h
  exact ⟨hG, hM, hT, hF, hT1, hT8, PlainR.mq hQ hP1, PlainR.mq hQ hP2, r⟩
theorem Rel.mq {Q Q' : Nat} {TX : TXty} {S : MS} (hQ : Q ≤ Q') (h : Rel z TX Q S) : Rel z TX Q' S := by
  obtain ⟨W, H, I, J, t, u, a, b, c, d, e, f⟩ := h
  exact ⟨W, H, I, J, t, u, a, b, c, d, e, f.mq hQ⟩
/-- where a step by night would bring a bone -/
noncomputable def ngT (W H : Nat) (T : TP) (i s : Nat) : Option Nat := match stp W H (tc T i) (sdx s) (sdy s) with
  | none => none
  | some d => if dec (opn T d) = true then some d else none
theorem ngT_some {i s d : Nat} (h : ngT W H T i s = some d) : stp W H (tc T i) (sdx s) (sdy s) = some d ∧ opn T d := by
  unfold ngT at h
  cases e : stp W H (tc T i) (sdx s) (sdy s) with
  | none => rw [e] at h; cases h
  | some d' =>
    rw [e] at h
    by_cases ho : opn T d'
    · have h : (if dec (opn T d') = true then some d' else none) = some d := h
      rw [if_pos (dec_t.mpr ho)] at h
      cases h
      exact ⟨rfl, ho⟩
    · have h : (if dec (opn T d') = true then some d' else none) = some d := h
      rw [if_neg (fun w => ho (dec_t.mp w))] at h
      cases h
theorem ngT_n {i s : Nat} (h : stp W H (tc T i) (sdx s) (sdy s) = none) : ngT W H T i s = none := by unfold ngT; rw [h]
theorem ngT_y {i s d : Nat} (h : stp W H (tc T i) (sdx s) (sdy s) = some d) (ho : opn T d) : ngT W H T i s = some d := by
  unfold ngT; rw [h]; exact if_pos (dec_t.mpr ho)
theorem ngT_f {i s d : Nat} (h : stp W H (tc T i) (sdx s) (sdy s) = some d) (ho : ¬ opn T d) : ngT W H T i s = none := by
  unfold ngT; rw [h]; exact if_neg (fun w => ho (dec_t.mp w))
theorem s_nightC {I : Nat → Nat → Int32} {J : Nat → Nat → Int64} (hD : dims W H) (hG : GeoR W H (I (z + 30)) (J (z + 30)) (J (z + 31))) (hW : TW (W * H) M T) (hT : ClsT z (W * H) 32 I J T) {i s : Nat} (hi : i < tk T) (hs : s < 4) : f_X3_nightCell n (z + 32) (nI i) (nI s) (mk z (W * H) I J t u) = some (oI (ngT W H T i s), mk z (W * H) I J t u) := by
  have h24 := hW.1
  have hc := (hW.2.2.1 i hi).1
  have m7 : mI (mk z (W * H) I J t u) (z + 32) 7 = nI (tk T) := hT.1
  have mc : mI (mk z (W * H) I J t u) (z + (32 + 1)) i = nI (tc T i) := (hT.2.2.1 i hi).1
  have key : ∀ dx dy : Int32, st1 dx → st1 dy → dx.toInt = sdx s → dy.toInt = sdy s → (gR (mk z (W * H) I J t u) (mR (mk z (W * H) I J t u) (z + 32) 0) 1 fun q13 => gR (mk z (W * H) I J t u) (mR (mk z (W * H) I J t u) (z + 32) 1) 12 fun q15 => ck (inb (nI i) (mN (mk z (W * H) I J t u) q15)) (cl (f_X1_cellBeside n q13 (mI (mk z (W * H) I J t u) q15 (nI i).toNatClampNeg) dx dy (mk z (W * H) I J t u)) fun x21 S18 => cl (f_X3_isOpen n (z + 32) x21 S18) fun x25 S22 => (if x25 = 0 then some ((-1 : Int32), S22) else some (x21, S22)))) = some (oI (ngT W H T i s), mk z (W * H) I J t u) := by
    intro dx dy hx hy ex ey
    rw [gP_0 (Or.inl rfl), gP_1 (Or.inl rfl), nP_1 (Or.inl rfl), ck_t (inb_nI (by omega) (by omega)), cl_nI (by omega), mc, s_cellBeside hD.1 hD.2.1 hD.2.2.2 hG.1 hG.2.1 hc hx hy, cl_some, ex, ey, s_isOpenT hD hG.2.2.1 (Or.inl rfl) hT (fun d e => stp_lt hD.1 hD.2.1 e), cl_some]
    cases e : stp W H (tc T i) (sdx s) (sdy s) with
    | none => rw [bD_f (fun ⟨d, e2, _⟩ => by cases e2), if_pos rfl, ngT_n e]; rfl
    | some d =>
      by_cases ho : opn T d
      · rw [bD_t ⟨d, rfl, ho⟩, if_neg (by decide), ngT_y e ho]
      · rw [bD_f (fun ⟨d', e2, w⟩ => by cases e2; exact ho w), if_pos rfl, ngT_f e ho]; rfl
  unfold f_X3_nightCell
  simp only [jn]
  rw [s_isBoneC, cl_some, ite_bI, if_pos (show ¬ nI i < 0 ∧ ¬ mI (mk z (W * H) I J t u) (z + 32) 7 ≤ nI i by rw [m7]; exact ⟨nI_pos (by omega), by rw [nI_le' (by omega) (by omega)]; omega⟩), if_neg (nI_pos (by omega)), if_pos (show nI s ≤ 3 by rw [show (3 : Int32) = nI 3 from rfl, nI_le' (by omega) (by omega)]; omega)]
  rcases (show s = 0 ∨ s = 1 ∨ s = 2 ∨ s = 3 by omega) with rfl | rfl | rfl | rfl
  · rw [if_neg (show ¬ nI 0 = (1 : Int32) by decide), if_neg (show ¬ nI 0 = (3 : Int32) by decide), if_neg (show ¬ nI 0 = (2 : Int32) by decide), if_pos (show nI 0 = (0 : Int32) from rfl)]
    exact key 0 (-1) (Or.inr (Or.inl rfl)) (Or.inl rfl) rfl rfl
  · rw [if_pos (show nI 1 = (1 : Int32) from rfl), if_neg (show ¬ nI 1 = (2 : Int32) by decide), if_neg (show ¬ nI 1 = (0 : Int32) by decide)]
    exact key 1 0 (Or.inr (Or.inr rfl)) (Or.inr (Or.inl rfl)) rfl rfl
  · rw [if_neg (show ¬ nI 2 = (1 : Int32) by decide), if_neg (show ¬ nI 2 = (3 : Int32) by decide), if_pos (show nI 2 = (2 : Int32) from rfl)]
    exact key 0 1 (Or.inr (Or.inl rfl)) (Or.inr (Or.inr rfl)) rfl rfl
  · rw [if_neg (show ¬ nI 3 = (1 : Int32) by decide), if_pos (show nI 3 = (3 : Int32) from rfl), if_neg (show ¬ nI 3 = (2 : Int32) by decide), if_neg (show ¬ nI 3 = (0 : Int32) by decide)]
    exact key (-1) 0 (Or.inl rfl) (Or.inr (Or.inl rfl)) rfl rfl
theorem s_stepR {I : Nat → Nat → Int32} {J : Nat → Nat → Int64} {B : Nat} (hn : 100000 ≤ n) (hD : dims W H) (hM' : ModR z W H B I) (hB : B ≤ 2380) (hW : TW (W * H) M T) (hT : RefT z (W * H) B I T) {i s : Nat} (hi : i < tk T) (hs : s < 4) : f_X11_stepped n (z + 83) (nI i) (nI s) (mk z (W * H) I J t u) = some (oI (ngT W H T i s), mk z (W * H) I J t u) := by
  have hC := hD.C
  have hc := (hW.2.2.1 i hi).1
  unfold f_X11_stepped
  rw [s_cellOf hM' hB hW hT hi, cl_some, s_sideOf hD hM' hc hs, cl_some]
  cases e : stp W H (tc T i) (sdx s) (sdy s) with
  | none => rw [if_pos (show oI none < 0 by decide), ngT_n e]; rfl
  | some d =>
    have hd := stp_lt hD.1 hD.2.1 e
    rw [if_neg (show ¬ oI (some d) < 0 from nI_pos (by omega)), show oI (some d) = nI d from rfl, s_isFreeT hn hD hM' hB hW hT hd, cl_some]
    by_cases ho : opn T d
    · rw [bD_t ho, if_neg (by decide), ngT_y e ho]; rfl
    · rw [bD_f ho, if_pos rfl, ngT_f e ho]; rfl
theorem idx_l (B i : Nat) : ((nI B + (10 : Int32)) + ((3 : Int32) * nI i)) + (2 : Int32) = nI (B + 12 + 3 * i) := by
  rw [show (3 : Int32) * nI i = nI (3 * i) from nI_ml 3 i, show nI B + (10 : Int32) = nI (B + 10) from nI_pl B 10, nI_pl, show nI (B + 10 + 3 * i) + (2 : Int32) = nI (B + 10 + 3 * i + 2) from nI_pl _ 2]
  congr 1; omega
theorem s_moveR {I : Nat → Nat → Int32} {J : Nat → Nat → Int64} {B : Nat} (hD : dims W H) (hM' : ModR z W H B I) (hB : B ≤ 2380) (hW : TW (W * H) M T) (hT : RefT z (W * H) B I T) {i d : Nat} (hi : i < tk T) (hd : d < W * H) (hop : opn T d) :
    ∃ g, f_X11_move n (z + 83) (nI i) (nI d) (mk z (W * H) I J t u) = some (mk z (W * H) (upr I (z + 84) g) J t u) ∧ RefT z (W * H) B (upr I (z + 84) g) (lieT (layT T i d) i 0) ∧ Q84 B (I (z + 84)) g := by
  have h24 := hW.1
  obtain ⟨g, e1, r1, r2⟩ := s_lay (n := n) (J := J) (t := t) (u := u) hD hM' hB hW hT hi hd hop
  have hT1 : RefT z (W * H) B (upr I (z + 84) g) (layT T i d) := by unfold RefT; rw [upr_at]; exact r1
  obtain ⟨r3, r4⟩ := RefT.lieU (y := 0) hB (hW.lay hi hd hop) hT1 hD.C (i := i) hi
  rw [up2_upr] at r3
  rw [upr_at] at r4
  refine ⟨ur g (B + 12 + 3 * i) (nI 0), ?_, r3, Q84.tr r2 r4⟩
  have b4 : mI (mk z (W * H) (upr I (z + 84) g) J t u) (z + 83) 4 = nI B := by rw [mI_mk, upr_ne (by omega)]; exact hM'.2.2.2
  unfold f_X11_move
  simp only [bd]
  rw [e1, cv_some, g83_0, n84, b4, idx_l, ck_t (inb_nI (by omega) (by omega)), cl_nI (by omega), sI_mk, up2_upr]
  rfl
end NG
