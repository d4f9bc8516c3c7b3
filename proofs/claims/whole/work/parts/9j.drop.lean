/-! DRAW keeps the relation -/
section DX
variable {n z t W H M C : Nat} {I : Nat → Nat → Int32} {J : Nat → Nat → Int64} {u : Option Nat} {T : TP} {X : XT}
/-- the class clears off -/
theorem s_clearT (hn : 100000 ≤ n) (hC : C ≤ 48) (hT : ClsT z C 32 I J T) :
    ∃ I' J', f_X3_clearOff n (z + 32) (mk z C I J t u) = some (mk z C I' J' t u) ∧ ClsT z C 32 I' J' (clT T) ∧ DwC z I I' J J' := by
  have ho : isP 32 := Or.inl rfl
  obtain ⟨a1, a2, a3, a4, a5, a6, a7⟩ := id hT
  obtain ⟨I1, hI1⟩ : ∃ I1, I1 = up2 I (z + 32) 7 (0 : Int32) := ⟨_, rfl⟩
  obtain ⟨J1, hJ1⟩ : ∃ J1, J1 = up2 (up2 J (z + 32) 10 (0 : Int64)) (z + 32) 11 (0 : Int64) := ⟨_, rfl⟩
  obtain ⟨g1, e1, -, f1⟩ := fill_L (n := n) (z := z) (C := C) (I := I1) (J := J1) (t := t) (u := u) (a := z + (32 + 4)) (N := 6) (by omega) (fun _ => nP_4 ho) (-1) 6 0 n (I1 (z + (32 + 4))) rfl (by omega)
  rw [upr_self] at e1
  have e1' : f_J7_fill_53178 n (z + (32 + 4)) (-1) (mk z C I1 J1 t u) = some (mk z C (upr I1 (z + (32 + 4)) g1) J1 t u) := by
    unfold f_J7_fill_53178
    simp only [bd]
    rw [nP_4 ho]; exact e1
  obtain ⟨g2, e2, -, f2⟩ := fill_L (n := n) (z := z) (C := C) (I := upr I1 (z + (32 + 4)) g1) (J := J1) (t := t) (u := u) (a := z + (32 + 6)) (N := C) (by omega) (fun _ => nP_6 ho) (-1) C 0 n (upr I1 (z + (32 + 4)) g1 (z + (32 + 6))) (by omega) (by omega)
  rw [upr_self] at e2
  have e2' : f_J7_fill_53178 n (z + (32 + 6)) (-1) (mk z C (upr I1 (z + (32 + 4)) g1) J1 t u) = some (mk z C (upr (upr I1 (z + (32 + 4)) g1) (z + (32 + 6)) g2) J1 t u) := by
    unfold f_J7_fill_53178
    simp only [bd]
    rw [nP_6 ho]; exact e2
  have Rn : ∀ q, q ≠ z + 32 → q ≠ z + (32 + 4) → q ≠ z + (32 + 6) → upr (upr I1 (z + (32 + 4)) g1) (z + (32 + 6)) g2 q = I q := fun q b1 b2 b3 => by rw [upr_ne b3, upr_ne b2, hI1, up2_ne b1]
  have R0 : upr (upr I1 (z + (32 + 4)) g1) (z + (32 + 6)) g2 (z + 32) = ur (I (z + 32)) 7 0 := by rw [upr_ne (by omega), upr_ne (by omega), hI1, up2_r]
  have R4 : upr (upr I1 (z + (32 + 4)) g1) (z + (32 + 6)) g2 (z + (32 + 4)) = g1 := by rw [upr_ne (by omega), upr_at]
  have RJ : J1 (z + 32) = ur (ur (J (z + 32)) 10 0) 11 0 := by rw [hJ1, up2_r, up2_r]
  refine ⟨upr (upr I1 (z + (32 + 4)) g1) (z + (32 + 6)) g2, J1, ?_, ?_, fun q hq => Rn q (by omega) (by omega) (by omega), fun q hq => by rw [hJ1, up2_ne hq, up2_ne hq], by rw [RJ, ur_ne _ _ (by omega), ur_ne _ _ (by omega)]⟩
  · unfold f_X3_clearOff
    simp only [bd]
    rw [sI_mk, sJ_mk, sJ_mk, ← hI1, ← hJ1, gP_4 ho, e1', cv_some, gP_6 ho, e2', cv_some]
  · unfold ClsT
    rw [R0, Rn (z + (32 + 1)) (by omega) (by omega) (by omega), Rn (z + (32 + 2)) (by omega) (by omega) (by omega), Rn (z + (32 + 3)) (by omega) (by omega) (by omega), R4, upr_at, RJ]
    refine ⟨ur_at _ _ _, (ur_ne _ _ (by omega)).trans a2, fun i hi => ?_, fun f hf => f1 f (Nat.zero_le _) hf, fun d hd => f2 d (Nat.zero_le _) hd, fun d => ?_, fun d => ?_⟩
    · have hi : i < 0 := hi
      omega
    · rw [ur_ne _ _ (by omega), ur_at, bt_0]
      constructor
      · intro w; cases w
      · rintro ⟨i, hi, -⟩
        have hi : i < 0 := hi
        omega
    · rw [ur_at, bt_0]
      constructor
      · intro w; cases w
      · rintro ⟨f, -, e⟩
        have e : (none : Option Nat) = some d := e
        cases e
/-- the reference clears off -/
theorem draw_28 (a : Int32) (K : MS → Option (Int32 × MS)) : ∀ (d i k : Nat) (g : Nat → Int32), i + d = 6 → d < k → ∃ g', f_X11_draw_L28 n (z + 83) a K k (nI i) (mk z C (upr I (z + 84) g) J t u) = K (mk z C (upr I (z + 84) g') J t u) ∧ (∀ j, (j < 85 + i ∨ 91 ≤ j) → g' j = g j) ∧ ∀ j, 85 + i ≤ j → j < 91 → g' j = -1 := by
  intro d
  induction d with
  | zero =>
    intro i k g hi hk
    obtain ⟨k, rfl⟩ : ∃ m, k = m + 1 := ⟨k - 1, by omega⟩
    obtain rfl : i = 6 := by omega
    refine ⟨g, ?_, fun _ _ => rfl, fun j h1 h2 => by omega⟩
    rw [f_X11_draw_L28]
    simp only [jn]
    rw [if_pos (by decide)]
  | succ d ih =>
    intro i k g hi hk
    obtain ⟨k, rfl⟩ : ∃ m, k = m + 1 := ⟨k - 1, by omega⟩
    obtain ⟨g', e, h1, h2⟩ := ih (i + 1) k (ur g (85 + i) (-1)) (by omega) (by omega)
    refine ⟨g', ?_, fun j hj => by rw [h1 j (by omega), ur_ne _ _ (by omega)], fun j q1 q2 => ?_⟩
    · rw [f_X11_draw_L28]
      simp only [jn, bd]
      rw [if_neg (show ¬ (6 : Int32) ≤ nI i by rw [show (6 : Int32) = nI 6 from rfl, nI_le' (by omega) (by omega)]; omega), g83_0, n84, show (85 : Int32) + nI i = nI (85 + i) from nI_pl 85 i, ck_t (inb_nI (by omega) (by omega)), cl_nI (by omega), sI_mk, up2_upr, show nI i + (1 : Int32) = nI (i + 1) from nI_pl i 1]
      exact e
    · by_cases q : j = 85 + i
      · rw [h1 j (by omega), q, ur_at]
      · exact h2 j (by omega) q2
theorem draw_52 (a : Int32) (K : MS → Option (Int32 × MS)) : ∀ (d i k : Nat) (g : Nat → Int32), i + d = 48 → d < k → ∃ g', f_X11_draw_L52 n (z + 83) a K k (nI i) (mk z C (upr I (z + 84) g) J t u) = K (mk z C (upr I (z + 84) g') J t u) ∧ (∀ j, ¬ (240 + i ≤ j ∧ j < 288) → ¬ (290 + i ≤ j ∧ j < 338) → g' j = g j) ∧ ∀ c, i ≤ c → c < 48 → g' (240 + c) = -1 ∧ g' (290 + c) = 0 := by
  intro d
  induction d with
  | zero =>
    intro i k g hi hk
    obtain ⟨k, rfl⟩ : ∃ m, k = m + 1 := ⟨k - 1, by omega⟩
    obtain rfl : i = 48 := by omega
    refine ⟨g, ?_, fun _ _ _ => rfl, fun j h1 h2 => by omega⟩
    rw [f_X11_draw_L52]
    simp only [jn]
    rw [if_pos (by decide)]
  | succ d ih =>
    intro i k g hi hk
    obtain ⟨k, rfl⟩ : ∃ m, k = m + 1 := ⟨k - 1, by omega⟩
    obtain ⟨g', e, h1, h2⟩ := ih (i + 1) k (ur (ur g (240 + i) (-1)) (290 + i) 0) (by omega) (by omega)
    refine ⟨g', ?_, fun j q1 q2 => by rw [h1 j (by omega) (by omega), ur_ne _ _ (by omega), ur_ne _ _ (by omega)], fun c q1 q2 => ?_⟩
    · rw [f_X11_draw_L52]
      simp only [jn, bd]
      rw [if_neg (show ¬ (48 : Int32) ≤ nI i by rw [show (48 : Int32) = nI 48 from rfl, nI_le' (by omega) (by omega)]; omega), g83_0, n84, show (240 : Int32) + nI i = nI (240 + i) from nI_pl 240 i, ck_t (inb_nI (by omega) (by omega)), cl_nI (by omega), sI_mk, up2_upr, g83_0, n84, show (290 : Int32) + nI i = nI (290 + i) from nI_pl 290 i, ck_t (inb_nI (by omega) (by omega)), cl_nI (by omega), sI_mk, up2_upr, show nI i + (1 : Int32) = nI (i + 1) from nI_pl i 1]
      exact e
    · by_cases q : c = i
      · subst q
        refine ⟨?_, ?_⟩
        · rw [h1 _ (by omega) (by omega), ur_ne _ _ (by omega), ur_at]
        · rw [h1 _ (by omega) (by omega), ur_at]
      · exact h2 c (by omega) q2
/-- a clause drawn: the plain behind it, or none -/
noncomputable def dw1 (W H : Nat) (X : XT) (i : Nat) (T : TP) : Option TP :=
  if xs X i = 4 then (if dec (xe X i < W ∧ xy X i < H ∧ tk T < 24 ∧ opn T (xe X i + W * xy X i)) = true then some (bnT T (xe X i + W * xy X i) (xa X i)) else none)
  else if xs X i = 5 then (if dec (xe X i < W ∧ xy X i < H ∧ ¬ Bn T (xe X i + W * xy X i)) = true then some (skT T (xa X i) (xe X i + W * xy X i)) else none)
  else some T
noncomputable def dwS (W H : Nat) (X : XT) : Nat → Nat → TP → Int32 × TP
  | 0, _, T => (-1, T)
  | d + 1, i, T => match dw1 W H X i T with
    | none => (nI i, T)
    | some T' => dwS W H X d (i + 1) T'
theorem dwS_n {d i : Nat} (e : dw1 W H X i T = none) : dwS W H X (d + 1) i T = (nI i, T) := by rw [dwS, e]
theorem dwS_y {d i : Nat} {T' : TP} (e : dw1 W H X i T = some T') : dwS W H X (d + 1) i T = dwS W H X d (i + 1) T' := by rw [dwS, e]
theorem dw1_b {i : Nat} (h : xs X i = 4) (q : xe X i < W ∧ xy X i < H ∧ tk T < 24 ∧ opn T (xe X i + W * xy X i)) : dw1 W H X i T = some (bnT T (xe X i + W * xy X i) (xa X i)) := by
  rw [dw1, if_pos h, if_pos (dec_t.mpr q)]
theorem dw1_bn {i : Nat} (h : xs X i = 4) (q : ¬ (xe X i < W ∧ xy X i < H ∧ tk T < 24 ∧ opn T (xe X i + W * xy X i))) : dw1 W H X i T = none := by
  rw [dw1, if_pos h, if_neg (fun w => q (dec_t.mp w))]
theorem dw1_s {i : Nat} (h : xs X i = 5) (q : xe X i < W ∧ xy X i < H ∧ ¬ Bn T (xe X i + W * xy X i)) : dw1 W H X i T = some (skT T (xa X i) (xe X i + W * xy X i)) := by
  rw [dw1, if_neg (by omega), if_pos h, if_pos (dec_t.mpr q)]
theorem dw1_sn {i : Nat} (h : xs X i = 5) (q : ¬ (xe X i < W ∧ xy X i < H ∧ ¬ Bn T (xe X i + W * xy X i))) : dw1 W H X i T = none := by
  rw [dw1, if_neg (by omega), if_pos h, if_neg (fun w => q (dec_t.mp w))]
theorem dw1_o {i : Nat} (h : xs X i ≠ 4) (h5 : xs X i ≠ 5) : dw1 W H X i T = some T := by
  rw [dw1, if_neg h, if_neg h5]
theorem cel_lt {x y : Nat} (hx : x < W) (hy : y < H) : x + W * y < W * H := by
  have := Nat.mul_le_mul_left W (show y + 1 ≤ H by omega)
  rw [Nat.mul_add] at this
  omega
theorem dw1_W {i : Nat} (hX : XW X) (hi : i < xm X) (hW : TW (W * H) M T) {T' : TP} (e : dw1 W H X i T = some T') : TW (W * H) M T' := by
  by_cases h4 : xs X i = 4
  · by_cases q : xe X i < W ∧ xy X i < H ∧ tk T < 24 ∧ opn T (xe X i + W * xy X i)
    · rw [dw1_b h4 q] at e
      cases e
      have := (hX.2.2.2.2.2 i hi (by omega)).1 h4
      exact hW.bn q.2.2.1 (cel_lt q.1 q.2.1) this.1 this.2 q.2.2.2
    · rw [dw1_bn h4 q] at e; cases e
  · by_cases h5 : xs X i = 5
    · by_cases q : xe X i < W ∧ xy X i < H ∧ ¬ Bn T (xe X i + W * xy X i)
      · rw [dw1_s h5 q] at e
        cases e
        exact hW.sk (cel_lt q.1 q.2.1) q.2.2
      · rw [dw1_sn h5 q] at e; cases e
    · rw [dw1_o h4 h5] at e
      cases e; exact hW
theorem dwS_W (hX : XW X) : ∀ (d i : Nat) (T : TP), i + d = xm X → TW (W * H) M T → TW (W * H) M (dwS W H X d i T).2
  | 0, _, _, _, hW => hW
  | d + 1, i, T, h, hW => by
    cases e : dw1 W H X i T with
    | none => rw [dwS_n e]; exact hW
    | some T' => rw [dwS_y e]; exact dwS_W hX d (i + 1) T' (by omega) (dw1_W hX (by omega) hW e)
/-- the cell at x, y -/
def ceT (W H x y : Nat) : Option Nat := if x < W ∧ y < H then some (x + W * y) else none
theorem s_cellAt (hD : dims W H) (h0 : I (z + 30) 0 = nI W) (h1 : I (z + 30) 1 = nI H) {x y : Nat} (hx : x ≤ 7) (hy : y ≤ 5) : f_X1_cellAt n (z + 30) (nI x) (nI y) (mk z C I J t u) = some (oI (ceT W H x y), mk z C I J t u) := by
  obtain ⟨d1, d2, d3, d4⟩ := hD
  unfold f_X1_cellAt
  rw [if_neg (nI_pos (by omega))]
  by_cases q1 : x < W
  · rw [if_neg (show ¬ mI (mk z C I J t u) (z + 30) 0 ≤ nI x by rw [mI_mk, h0, nI_le' (by omega) (by omega)]; omega), if_neg (nI_pos (by omega))]
    by_cases q2 : y < H
    · rw [if_neg (show ¬ mI (mk z C I J t u) (z + 30) 1 ≤ nI y by rw [mI_mk, h1, nI_le' (by omega) (by omega)]; omega), mI_mk, h0, nI_ml, nI_pl, ceT, if_pos ⟨q1, q2⟩]; rfl
    · rw [if_pos (show mI (mk z C I J t u) (z + 30) 1 ≤ nI y by rw [mI_mk, h1, nI_le' (by omega) (by omega)]; omega), ceT, if_neg (fun w => q2 w.2)]; rfl
  · rw [if_pos (show mI (mk z C I J t u) (z + 30) 0 ≤ nI x by rw [mI_mk, h0, nI_le' (by omega) (by omega)]; omega), ceT, if_neg (fun w => q1 w.1)]; rfl
end DX
