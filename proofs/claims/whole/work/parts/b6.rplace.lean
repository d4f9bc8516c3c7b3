/-! THE REFERENCE READS A PLACE -/
section QP
variable {n z C t r so : Nat} {u : Option Nat} {I : Nat → Nat → Int32} {J : Nat → Nat → Int64} {tk : Nat → Nat × Nat} {Tq : TQ} {i op : Nat} {c : Cd} {p : List Nat} {w : Bool}
theorem fig_st (hT : TokOK n z C t u tk Tq) {a lo hi f : Nat} {x : PrR} (ha : 700 * r ≤ a) (ha2 : a < 700 * r + 85) (hlo : lo < 100) (hhi : hi < 100) (h : EnQ z r so Tq p op w f I J x) (k : Int32 → MS → Option (Int32 × MS)) : ∃ f' I' J', (if nI f = 0 then cl (f_X11_figure n (z + 83) (nI a) (nI lo) (nI hi) (mk z C I J t u)) (fun x51 S48 => k x51 S48) else k (nI f) (mk z C I J t u)) = k (nI f') (mk z C I' J' t u) ∧ FrZ z r I I' J J' ∧ EnQ z r so Tq p op w f' I' J' (pNum tk lo hi x) ∧ (∀ k, k ≠ a → k < 700 * r + 85 → I' (z + 85) k = I (z + 85) k) ∧ I' (z + 83) 24 = I (z + 83) 24 ∧ (∀ i c, x = Sum.inr (i, c) → f' = 0 → I' (z + 85) a = nI (tk i).2) := by
  cases x with
  | inl e =>
    obtain ⟨h1, h2, h3, h4⟩ := h
    refine ⟨f, I, J, ?_, FrZ.rfg z r I J, ⟨h1, h2, h3, h4⟩, fun _ _ _ => rfl, rfl, fun i c y => by cases y⟩
    rw [if_neg (show ¬ nI f = 0 from fun y => by have := (nI_inj (b := 0) (by omega) (by omega)).mp y; omega)]
  | inr y =>
    obtain ⟨i, c⟩ := y
    obtain ⟨h1, h2⟩ := h
    obtain ⟨f', I', J', e, a1, a2, a3, a4, a5⟩ := q_fig (n := n) (C := C) (t := t) (u := u) hT ha ha2 hlo hhi h2
    refine ⟨f', I', J', ?_, a1, a2, a3, a4, fun i' c' y y0 => ?_⟩
    · rw [if_pos (show nI f = 0 by rw [h1]; rfl), e, cl_some]
    · rw [← show i = i' from congrArg Prod.fst (Sum.inr.inj y)]; exact a5 y0
theorem ex_st (hT : TokOK n z C t u tk Tq) {q f : Nat} {x : PrR} (hq : q ≠ 39) (h : EnQ z r so Tq p op w f I J x) (k : Int32 → MS → Option (Int32 × MS)) (B : Option (Int32 × MS)) (hB : ∀ i c, x = Sum.inr (i, c) → B = cl (f_X11_expects n (z + 83) (if (tk i).1 = q then 1 else 0) (mk z C I J t u)) (fun x42 S39 => k x42 S39)) : ∃ f' I' J', (if nI f = 0 then B else k (nI f) (mk z C I J t u)) = k (nI f') (mk z C I' J' t u) ∧ FrZ z r I I' J J' ∧ EnQ z r so Tq p op w f' I' J' (pExp tk q x) ∧ (∀ k, k < 700 * r + 85 → I' (z + 85) k = I (z + 85) k) ∧ I' (z + 83) 24 = I (z + 83) 24 := by
  cases x with
  | inl e =>
    obtain ⟨h1, h2, h3, h4⟩ := h
    refine ⟨f, I, J, ?_, FrZ.rfg z r I J, ⟨h1, h2, h3, h4⟩, fun _ _ => rfl, rfl⟩
    rw [if_neg (show ¬ nI f = 0 from fun y => by have := (nI_inj (b := 0) (by omega) (by omega)).mp y; omega)]
  | inr y =>
    obtain ⟨i, c⟩ := y
    obtain ⟨h1, h2⟩ := h
    rw [if_pos (show nI f = 0 by rw [h1]; rfl), hB i c rfl]
    unfold f_X11_expects
    show ∃ f' I' J', _ ∧ _ ∧ EnQ z r so Tq p op w f' I' J' (if (tk i).1 = q then Sum.inr (i + 1, c) else Sum.inl (1, i)) ∧ _
    by_cases e : (tk i).1 = q
    · obtain ⟨I2, J2, e2, s2, f2⟩ := w_next hT h2 (show (tk i).1 ≠ 39 by rw [e]; exact hq)
      rw [if_pos e, if_pos e, if_neg (by decide), e2, cv_some, cl_some]
      exact ⟨0, I2, J2, rfl, f2.frg, ⟨rfl, s2⟩, fun k hk => f2.2.2.1 k (by omega), f2.2.1 _ (by omega)⟩
    · rw [if_neg e, if_neg e, if_pos rfl, cl_some]
      exact ⟨1, I, J, rfl, FrZ.rfg z r I J, ⟨rfl, by omega, by omega, h2.1⟩, fun _ _ => rfl, rfl⟩
def dk3 (n z : Nat) (a1 : Int32) (x28 : Int32) (S29 : MS) : Option (Int32 × MS) := (if x28 = 0 then cl (f_X11_figure n (z + 83) (a1 + (3 : Int32)) (0 : Int32) (5 : Int32) S29) fun x33 S30 => some (x33, S30) else some (x28, S29))
def dk2 (n z : Nat) (a1 : Int32) (x24 : Int32) (S25 : MS) : Option (Int32 × MS) := (if x24 = 0 then (if (mI S25 (z + 83) 12) = (44 : Int32) then cl (f_X11_expects n (z + 83) (1 : Int32) S25) fun x42 S39 => dk3 n z a1 x42 S39 else cl (f_X11_expects n (z + 83) (0 : Int32) S25) fun x42 S39 => dk3 n z a1 x42 S39) else dk3 n z a1 x24 S25)
def dk1 (n z : Nat) (a1 : Int32) (x20 : Int32) (S21 : MS) : Option (Int32 × MS) := (if x20 = 0 then cl (f_X11_figure n (z + 83) (a1 + (2 : Int32)) (0 : Int32) (7 : Int32) S21) fun x51 S48 => dk2 n z a1 x51 S48 else dk2 n z a1 x20 S21)
def dk0 (n z : Nat) (a1 : Int32) (x17 : Int32) (S14 : MS) : Option (Int32 × MS) := (if x17 = 0 then (if (mI S14 (z + 83) 12) = (2 : Int32) then (if (lg_cmp (mJ S14 (z + 83) 14) (24948 : Int64)) = 0 then cl (f_X11_expects n (z + 83) (1 : Int32) S14) fun x62 S59 => dk1 n z a1 x62 S59 else cl (f_X11_expects n (z + 83) (0 : Int32) S14) fun x62 S59 => dk1 n z a1 x62 S59) else cl (f_X11_expects n (z + 83) (0 : Int32) S14) fun x62 S59 => dk1 n z a1 x62 S59) else dk1 n z a1 x17 S14)
theorem dk_eq {s : Nat} (hs : s = 4 ∨ s = 5) (a1 : Int32) (S : MS) : f_X11_drawnBy n (z + 83) a1 (nI s) S = cl (f_X11_figure n (z + 83) (a1 + (1 : Int32)) (nI (loS s)) (nI (hiS s)) S) fun x17 S14 => dk0 n z a1 x17 S14 := by
  unfold f_X11_drawnBy
  simp only [jn]
  rcases hs with rfl | rfl
  · rw [if_pos (show nI 4 = (4 : Int32) from rfl), if_pos (show nI 4 = (4 : Int32) from rfl)]; rfl
  · rw [if_neg (show ¬ nI 5 = (4 : Int32) by decide), if_neg (show ¬ nI 5 = (4 : Int32) by decide)]; rfl
theorem q_drawn (hT : TokOK n z C t u tk Tq) {A s : Nat} (hA : 700 * r < A) (hA2 : A + 3 < 700 * r + 85) (hs : s = 4 ∨ s = 5) (h : RfW z r so Tq I J i c p op w) : ∃ f I' J', f_X11_drawnBy n (z + 83) (nI A) (nI s) (mk z C I J t u) = some (nI f, mk z C I' J' t u) ∧ FrZ z r I I' J J' ∧ EnQ z r so Tq p op w f I' J' (pPl tk s (Sum.inr (i, c))) ∧ (∀ k, k ≠ A + 1 → k ≠ A + 2 → k ≠ A + 3 → k < 700 * r + 85 → I' (z + 85) k = I (z + 85) k) ∧ I' (z + 83) 24 = I (z + 83) 24 ∧ (f = 0 → I' (z + 85) (A + 1) = nI (tk i).2 ∧ I' (z + 85) (A + 2) = nI (tk (i + 2)).2 ∧ I' (z + 85) (A + 3) = nI (tk (i + 4)).2) := by
  have en0 : EnQ z r so Tq p op w 0 I J (Sum.inr (i, c)) := ⟨rfl, h⟩
  have hlo : loS s < 100 ∧ hiS s < 100 := by unfold loS hiS; rcases hs with rfl | rfl <;> decide
  have ea : ∀ d, nI A + nI d = nI (A + d) := fun d => nI_pl A d
  obtain ⟨f1, I1, J1, e1, a1, en1, z1, g1, v1⟩ := fig_st (n := n) (C := C) (t := t) (u := u) hT (a := A + 1) (by omega) (by omega) hlo.1 hlo.2 en0 (dk0 n z (nI A))
  obtain ⟨f2, I2, J2, e2, a2, en2, z2, g2⟩ := ex_st (n := n) (C := C) (t := t) (u := u) hT (q := 17) (by omega) en1 (dk1 n z (nI A)) (if (mI (mk z C I1 J1 t u) (z + 83) 12) = (2 : Int32) then (if (lg_cmp (mJ (mk z C I1 J1 t u) (z + 83) 14) (24948 : Int64)) = 0 then cl (f_X11_expects n (z + 83) (1 : Int32) (mk z C I1 J1 t u)) fun x62 S59 => dk1 n z (nI A) x62 S59 else cl (f_X11_expects n (z + 83) (0 : Int32) (mk z C I1 J1 t u)) fun x62 S59 => dk1 n z (nI A) x62 S59) else cl (f_X11_expects n (z + 83) (0 : Int32) (mk z C I1 J1 t u)) fun x62 S59 => dk1 n z (nI A) x62 S59) (fun i' c' hx => by
    rw [hx] at en1
    have hw := hT.2.2.2.2.2 I1 J1 i' en1.2.1 17 (by omega) (by omega)
    by_cases y : (tk i').1 = 17
    · obtain ⟨y1, y2⟩ := hw.mpr y
      rw [if_pos y, if_pos (show mI (mk z C I1 J1 t u) (z + 83) 12 = (2 : Int32) from y1), if_pos (show lg_cmp (mJ (mk z C I1 J1 t u) (z + 83) 14) (24948 : Int64) = 0 from (lg_eq _ _).mpr y2)]
    · rw [if_neg y]
      by_cases y1 : mI (mk z C I1 J1 t u) (z + 83) 12 = (2 : Int32)
      · rw [if_pos y1, if_neg (show ¬ lg_cmp (mJ (mk z C I1 J1 t u) (z + 83) 14) (24948 : Int64) = 0 from fun v => y (hw.mp ⟨y1, (lg_eq _ _).mp v⟩))]
      · rw [if_neg y1])
  obtain ⟨f3, I3, J3, e3, a3, en3, z3, g3, v3⟩ := fig_st (n := n) (C := C) (t := t) (u := u) hT (a := A + 2) (lo := 0) (hi := 7) (by omega) (by omega) (by omega) (by omega) en2 (dk2 n z (nI A))
  obtain ⟨f4, I4, J4, e4, a4, en4, z4, g4⟩ := ex_st (n := n) (C := C) (t := t) (u := u) hT (q := 34) (by omega) en3 (dk3 n z (nI A)) (if (mI (mk z C I3 J3 t u) (z + 83) 12) = (44 : Int32) then cl (f_X11_expects n (z + 83) (1 : Int32) (mk z C I3 J3 t u)) fun x42 S39 => dk3 n z (nI A) x42 S39 else cl (f_X11_expects n (z + 83) (0 : Int32) (mk z C I3 J3 t u)) fun x42 S39 => dk3 n z (nI A) x42 S39) (fun i' c' hx => by
    rw [hx] at en3
    have hk := q_tok hT en3.2.1 (s := 34) (by omega) (by omega)
    by_cases y : (tk i').1 = 34
    · rw [if_pos y, if_pos (show mI (mk z C I3 J3 t u) (z + 83) 12 = (44 : Int32) from hk.mpr y)]
    · rw [if_neg y, if_neg (show ¬ mI (mk z C I3 J3 t u) (z + 83) 12 = (44 : Int32) from fun v => y (hk.mp v))])
  obtain ⟨f5, I5, J5, e5, a5, en5, z5, g5, v5⟩ := fig_st (n := n) (C := C) (t := t) (u := u) hT (a := A + 3) (lo := 0) (hi := 5) (by omega) (by omega) (by omega) (by omega) en4 (fun x S => some (x, S))
  refine ⟨f5, I5, J5, ?_, (((a1.trg a2).trg a3).trg a4).trg a5, en5, fun k k1 k2 k3 k4 => ?_, ?_, fun h0 => ?_⟩
  · rw [dk_eq hs, show (1 : Int32) = nI 1 from rfl, ea]
    rw [if_pos (show nI 0 = 0 from rfl)] at e1
    rw [e1]
    unfold dk0
    rw [e2]
    unfold dk1
    rw [show (2 : Int32) = nI 2 from rfl, ea]
    refine Eq.trans e3 ?_
    unfold dk2
    rw [e4]
    unfold dk3
    rw [show (3 : Int32) = nI 3 from rfl, ea]
    exact e5
  · rw [z5 k k3 k4, z4 k k4, z3 k k2 k4, z2 k k4, z1 k k1 k4]
  · rw [g5, g4, g3, g2, g1]
  · subst h0
    cases hx : pPl tk s (Sum.inr (i, c)) with
    | inl e =>
      have en5 : EnQ z r so Tq p op w 0 I5 J5 (pPl tk s (Sum.inr (i, c))) := en5
      rw [hx] at en5
      have := en5.2.1
      omega
    | inr y =>
      obtain ⟨i', c'⟩ := y
      unfold pPl at hx
      obtain ⟨i4, h4, q4, -⟩ := pNum_r hx
      obtain ⟨i3, h3, q3, -⟩ := pExp_r h4
      obtain ⟨i2, h2, q2, -⟩ := pNum_r h3
      obtain ⟨i1, h1, q1, -⟩ := pExp_r h2
      obtain ⟨i0, h0, q0, -⟩ := pNum_r h1
      have p0 : i = i0 := congrArg Prod.fst (Sum.inr.inj h0)
      have w1 : f1 = 0 := by rw [h1] at en1; exact en1.1
      have w3 : f3 = 0 := by rw [h3] at en3; exact en3.1
      refine ⟨?_, ?_, ?_⟩
      · rw [z5 _ (by omega) (by omega), z4 _ (by omega), z3 _ (by omega) (by omega), z2 _ (by omega)]; exact v1 i c rfl w1
      · rw [z5 _ (by omega) (by omega), z4 _ (by omega), v3 i2 c' h2 w3, show i + 2 = i2 by omega]
      · rw [v5 i4 c' h4 rfl, show i + 4 = i4 by omega]
end QP
