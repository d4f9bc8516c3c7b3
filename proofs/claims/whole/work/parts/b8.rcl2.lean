/-! THE REFERENCE READS A CLAUSE, whole -/
section QF
variable {n z C t r so : Nat} {u : Option Nat} {I : Nat → Nat → Int32} {J : Nat → Nat → Int64} {tk : Nat → Nat × Nat} {Tq : TQ} {i op : Nat} {c : Cd} {p : List Nat} {w : Bool}
def cB (n z : Nat) (x4 x20 x26 x29 : Int32) (S30 : MS) : Option (Int32 × MS) := (if x29 = 0 then (if (4 : Int32) ≤ x4 then cE n z S30 else gR S30 (mR S30 (z + 83) 5) 12 fun q43 => ck (inb (x20 + (1 : Int32)) (mN S30 q43)) (bd (sI S30 q43 (x20 + (1 : Int32)).toNatClampNeg x26) fun S46 => gR S46 (mR S46 (z + 83) 5) 12 fun q48 => ck (inb (x20 + (2 : Int32)) (mN S46 q48)) (bd (sI S46 q48 (x20 + (2 : Int32)).toNatClampNeg (mI S46 (z + 83) 17)) fun S51 => cE n z S51))) else some (x29, S30))
def cA (n z : Nat) (x4 x11 : Int32) (S14 : MS) : Option (Int32 × MS) := bd (sI S14 (z + 83) 23 x4) fun S15 => cv (f_X11_nextToken n (z + 83) S15) fun S17 => bd (((mI S17 (z + 83) 15) + (1 : Int32)) + ((4 : Int32) * x11)) fun x20 => gR S17 (mR S17 (z + 83) 5) 12 fun q21 => ck (inb x20 (mN S17 q21)) (bd (sI S17 q21 x20.toNatClampNeg x4) fun S24 => bd (mI S24 (z + 83) 17) fun x26 => (if x4 < (4 : Int32) then (if x4 = (3 : Int32) then cl (f_X11_parsed n (z + 83) (1 : Int32) S24) fun x62 S59 => cB n z x4 x20 x26 x62 S59 else cl (f_X11_parsed n (z + 83) (0 : Int32) S24) fun x62 S59 => cB n z x4 x20 x26 x62 S59) else cl (f_X11_drawnBy n (z + 83) x20 x4 S24) fun x69 S66 => cB n z x4 x20 x26 x69 S66))
def cJ (n z : Nat) (x4 : Int32) (S7 : MS) : Option (Int32 × MS) := gR S7 (mR S7 (z + 83) 5) 12 fun q8 => ck (inb (mI S7 (z + 83) 15) (mN S7 q8)) (bd (mI S7 q8 (mI S7 (z + 83) 15).toNatClampNeg) fun x11 => (if x11 = (20 : Int32) then some ((6 : Int32), S7) else (if (3 : Int32) ≤ x4 then cA n z x4 x11 S7 else bd (sI S7 (z + 83) 24 ((mI S7 (z + 83) 24) ||| ((1 : Int32) <<< (x4 &&& 31)))) fun S72 => cA n z x4 x11 S72)))
theorem cl_eq (S : MS) : f_X11_clause n (z + 83) S = cl (f_X11_sortOf n (z + 83) S) fun x4 S1 => (if 0 ≤ x4 then (if (3 : Int32) ≤ x4 then cJ n z x4 S1 else (if (((mI S1 (z + 83) 24) >>> (x4 &&& 31)) &&& (1 : Int32)) = (1 : Int32) then some ((4 : Int32), S1) else cJ n z x4 S1)) else some ((1 : Int32), S1)) := rfl
theorem cB_ok (hT : TokOK n z C t u tk Tq) {m s a0 f A : Nat} {x : PrR} (hr : r < 4) (hA : A = 700 * r + 1 + 4 * m) (hm : m < 20) (hs : s ≤ 5) (ha : a0 ≤ 300) (h : EnB z r s Tq f I J x) (hF : ∀ e, x = Sum.inl e → 1 ≤ e.1 ∧ e.1 ≤ 6) (h0 : I (z + 85) (700 * r) = nI m) : ∃ f' I' J', cB n z (nI s) (nI A) (nI a0) (nI f) (mk z C I J t u) = some (nI f', mk z C I' J' t u) ∧ FrZ z r I I' J J' ∧ EnB z r s Tq f' I' J' (pExp tk 35 x) ∧ (∀ y, pExp tk 35 x = Sum.inr y → I' (z + 85) (700 * r) = nI (m + 1) ∧ (s < 4 → I' (z + 85) (A + 1) = nI a0 ∧ I' (z + 85) (A + 2) = nI y.2.length)) ∧ (∀ k, k ≠ 700 * r → (4 ≤ s ∨ (k ≠ A + 1 ∧ k ≠ A + 2)) → k < 700 * r + 85 → I' (z + 85) k = I (z + 85) k) ∧ I' (z + 83) 24 = I (z + 83) 24 := by
  unfold cB
  simp only [bd]
  cases x with
  | inl e =>
    obtain ⟨h1, h2⟩ := h
    obtain ⟨g1, g2⟩ := hF e rfl
    rw [if_neg (show ¬ nI f = 0 from fun y => by have := (nI_inj (b := 0) (by omega) (by omega)).mp y; omega)]
    exact ⟨f, I, J, rfl, FrZ.rfg z r I J, ⟨h1, h2⟩, fun y hy => (by cases hy), fun _ _ _ _ => rfl, rfl⟩
  | inr y =>
    obtain ⟨i, c⟩ := y
    obtain ⟨h1, p, w, h2⟩ := h
    rw [if_pos (show nI f = 0 by rw [h1]; rfl)]
    by_cases h4 : 4 ≤ s
    · rw [if_pos (show (4 : Int32) ≤ nI s from (nI_le' (a := 4) (by omega) (by omega)).mpr h4)]
      obtain ⟨f', I', J', a1, a2, a3, a4, a5, a6⟩ := cE_ok (n := n) (C := C) (t := t) (u := u) hT hm h2 h0
      refine ⟨f', I', J', a1, a2, ?_, fun y hy => ⟨a4, fun v => by omega⟩, fun k k1 _ k3 => a5 k k1 k3, a6⟩
      cases hx : pExp tk 35 (Sum.inr (i, c)) with
      | inl e => rw [hx] at a3; exact ⟨a3.1, a3.2.2.2⟩
      | inr y => rw [hx] at a3; exact ⟨a3.1, p, w, a3.2⟩
    · rw [if_neg (show ¬ (4 : Int32) ≤ nI s from fun y => h4 ((nI_le' (a := 4) (by omega) (by omega)).mp y))]
      obtain ⟨s1, f1⟩ := RfW.s85 (a := A + 1) (v := nI a0) hT h2 (by omega) (by omega)
      obtain ⟨s2, f2⟩ := RfW.s85 (a := A + 2) (v := nI c.length) hT s1 (by omega) (by omega)
      obtain ⟨f', I', J', a1, a2, a3, a4, a5, a6⟩ := cE_ok (n := n) (C := C) (t := t) (u := u) hT hm s2 (by rw [up2_x (by omega), up2_x (by omega)]; exact h0)
      have m17 : mI (mk z C (up2 I (z + 85) (A + 1) (nI a0)) J t u) (z + 83) 17 = nI c.length := s1.2.2.1
      refine ⟨f', I', J', ?_, (f1.trg f2).trg a2, ?_, fun y hy => ⟨a4, fun _ => ⟨?_, ?_⟩⟩, fun k k1 k2 k3 => ?_, ?_⟩
      · rw [g83_5, n85, show nI A + (1 : Int32) = nI (A + 1) from nI_pl A 1, ck_t (inb_nI (by omega) (by omega)), cl_nI (by omega), sI_mk, g83_5, n85, show nI A + (2 : Int32) = nI (A + 2) from nI_pl A 2, ck_t (inb_nI (by omega) (by omega)), cl_nI (by omega), m17, sI_mk]
        exact a1
      · cases hx : pExp tk 35 (Sum.inr (i, c)) with
        | inl e => rw [hx] at a3; exact ⟨a3.1, a3.2.2.2⟩
        | inr y => rw [hx] at a3; exact ⟨a3.1, p, w, a3.2⟩
      · rw [a5 _ (by omega) (by omega), up2_x (by omega), up2_v]
      · obtain ⟨i', c'⟩ := y
        obtain ⟨i1, q1, -⟩ := pExp_r hy
        rw [a5 _ (by omega) (by omega), up2_v, show c = c' from congrArg Prod.snd (Sum.inr.inj q1)]
      · rw [a5 _ k1 k3, up2_x (by omega), up2_x (by omega)]
      · rw [a6, up2_ne (by omega), up2_ne (by omega)]
theorem cA_ok (hn : 100000 ≤ n) (hT : TokOK n z C t u tk Tq) (hE : ∀ i, 300 ≤ i → (tk i).1 = 39) {m s A : Nat} (hA : A = 700 * r + 1 + 4 * m) (hm : m < 20) (hs : s ≤ 5) (hi : (tk i).1 ≠ 39) (hl : c.length ≤ i) (h : RfW z r so Tq I J i c p 0 w) (hF : ∀ e, pBody tk s (i + 1) c = Sum.inl e → 1 ≤ e.1 ∧ e.1 ≤ 6) (h0 : I (z + 85) (700 * r) = nI m) : ∃ f' I' J', cA n z (nI s) (nI m) (mk z C I J t u) = some (nI f', mk z C I' J' t u) ∧ FrZ z r I I' J J' ∧ EnB z r s Tq f' I' J' (pBody tk s (i + 1) c) ∧ (∀ y, pBody tk s (i + 1) c = Sum.inr y → I' (z + 85) (700 * r) = nI (m + 1) ∧ I' (z + 85) A = nI s ∧ I' (z + 85) (A + 1) = nI (clOf tk s (i + 1) c y.2).2.1 ∧ I' (z + 85) (A + 2) = nI (clOf tk s (i + 1) c y.2).2.2.1 ∧ (4 ≤ s → I' (z + 85) (A + 3) = nI (clOf tk s (i + 1) c y.2).2.2.2)) ∧ (∀ k, k ≠ 700 * r → (k < A ∨ A + 3 < k) → k < 700 * r + 85 → I' (z + 85) k = I (z + 85) k) ∧ I' (z + 83) 24 = I (z + 83) 24 := by
  have hr := h.2.2.2.2.2.2.2.2.2.2.2.2
  have hc := h.2.2.2.2.2.2.2.2.2.1
  have s1 : RfW z r s Tq (up2 I (z + 83) 23 (nI s)) J i c p 0 w := RfW.cg hT h (fun j a b => up2_x (by omega)) up2_v (fun j _ => by rw [up2_ne (by omega)]) (up2_ne (by omega))
  have f1 : FrZ z r I (up2 I (z + 83) 23 (nI s)) J J := ⟨fun q a _ _ => up2_ne a, fun j _ => up2_x (by omega), fun j _ => by rw [up2_ne (by omega)], fun _ _ => rfl⟩
  obtain ⟨I2, J2, e2, s2, f2⟩ := w_next hT s1 hi
  obtain ⟨s3, f3⟩ := RfW.s85 (a := A) (v := nI s) hT s2 (by omega) (by omega)
  obtain ⟨f4, I4, J4, e4, g4, en4, z4, m4, v4⟩ := q_body (n := n) (C := C) (t := t) (u := u) hn hT hE hs (A := A) (by omega) (by omega) (by omega) s3
  have hF4 : ∀ e, (if s < 4 then pLaw tk s (i + 1) c else pPl tk s (Sum.inr (i + 1, c))) = Sum.inl e → 1 ≤ e.1 ∧ e.1 ≤ 6 := fun e he => hF e (by unfold pBody; rw [he]; rfl)
  have h04 : I4 (z + 85) (700 * r) = nI m := by rw [z4 _ (by omega) (by omega) (by omega) (by omega), up2_x (by omega), f2.2.2.1 _ (by omega), up2_ne (by omega)]; exact h0
  obtain ⟨f5, I5, J5, e5, g5, en5, v5, z5, m5⟩ := cB_ok (n := n) (C := C) (t := t) (u := u) hT hr hA hm hs (a0 := c.length) hc en4 hF4 h04
  have m15 : mI (mk z C I2 J2 t u) (z + 83) 15 = nI (700 * r) := s2.2.1
  have m17 : mI (mk z C (up2 I2 (z + 85) A (nI s)) J2 t u) (z + 83) 17 = nI c.length := s3.2.2.1
  refine ⟨f5, I5, J5, ?_, (((f1.trg f2.frg).trg f3).trg g4).trg g5, en5, fun y hy => ?_, fun k k1 k2 k3 => ?_, ?_⟩
  · unfold cA
    simp only [bd]
    rw [sI_mk, e2, cv_some, m15, show nI (700 * r) + (1 : Int32) = nI (700 * r + 1) from nI_pl _ 1, show (4 : Int32) * nI m = nI (4 * m) from nI_ml 4 m, nI_pl, ← hA, g83_5, n85, ck_t (inb_nI (by omega) (by omega)), cl_nI (by omega), sI_mk, m17]
    by_cases h4 : s < 4
    · rw [if_pos (show nI s < (4 : Int32) from (nI_lt' (b := 4) (by omega) (by omega)).mpr h4)] at e4 ⊢
      by_cases h3 : s = 3
      · rw [decide_eq_true h3] at e4
        rw [if_pos (show nI s = (3 : Int32) by rw [h3]; rfl), show (1 : Int32) = bWC true from rfl, e4, cl_some]; exact e5
      · rw [decide_eq_false h3] at e4
        rw [if_neg (show ¬ nI s = (3 : Int32) from fun y => h3 ((nI_inj (b := 3) (by omega) (by omega)).mp y)), show (0 : Int32) = bWC false from rfl, e4, cl_some]; exact e5
    · rw [if_neg (show ¬ nI s < (4 : Int32) from fun y => h4 ((nI_lt' (b := 4) (by omega) (by omega)).mp y))] at e4 ⊢
      rw [e4, cl_some]; exact e5
  · have hy' : pExp tk 35 (if s < 4 then pLaw tk s (i + 1) c else pPl tk s (Sum.inr (i + 1, c))) = Sum.inr y := hy
    obtain ⟨q1, q2⟩ := v5 y hy'
    have iA : I5 (z + 85) A = nI s := by rw [z5 _ (by omega) (by omega) (by omega), z4 _ (by omega) (by omega) (by omega) (by omega), up2_v]
    unfold clOf
    by_cases h4 : s < 4
    · rw [if_pos h4]; exact ⟨q1, iA, (q2 h4).1, (q2 h4).2, fun v => by omega⟩
    · rw [if_neg h4]
      obtain ⟨i', c'⟩ := y
      obtain ⟨i1, q3, -⟩ := pExp_r hy'
      rw [q3] at en4
      obtain ⟨b1, b2, b3⟩ := v4 (by omega) en4.1
      exact ⟨q1, iA, by rw [z5 _ (by omega) (by omega) (by omega)]; exact b1, by rw [z5 _ (by omega) (by omega) (by omega)]; exact b2, fun _ => by rw [z5 _ (by omega) (by omega) (by omega)]; exact b3⟩
  · rw [z5 _ k1 (by omega) k3, z4 _ (by omega) (by omega) (by omega) k3, up2_x (by omega), f2.2.2.1 _ (by omega), up2_ne (by omega)]
  · rw [m5, m4, up2_ne (by omega), f2.2.1 _ (by omega), up2_x (by omega)]
end QF
