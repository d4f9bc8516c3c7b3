/-! THE REFERENCE READS A CLAUSE: its body and its end -/
section QE
variable {n z C t r so : Nat} {u : Option Nat} {I : Nat → Nat → Int32} {J : Nat → Nat → Int64} {tk : Nat → Nat × Nat} {Tq : TQ} {i op : Nat} {c : Cd} {p : List Nat} {w : Bool}
def cE (n z : Nat) (S33 : MS) : Option (Int32 × MS) := gR S33 (mR S33 (z + 83) 5) 12 fun q34 => ck (inb (mI S33 (z + 83) 15) (mN S33 q34)) (ck (inb (mI S33 (z + 83) 15) (mN S33 q34)) (bd (sI S33 q34 (mI S33 (z + 83) 15).toNatClampNeg ((mI S33 q34 (mI S33 (z + 83) 15).toNatClampNeg) + (1 : Int32))) fun S38 => (if (mI S38 (z + 83) 12) = (59 : Int32) then cv (f_X11_nextToken n (z + 83) S38) fun S40 => some ((0 : Int32), S40) else some ((1 : Int32), S38))))
theorem cE_ok (hT : TokOK n z C t u tk Tq) {m : Nat} (hm : m < 20) (h : RfW z r so Tq I J i c p op w) (h0 : I (z + 85) (700 * r) = nI m) : ∃ f I' J', cE n z (mk z C I J t u) = some (nI f, mk z C I' J' t u) ∧ FrZ z r I I' J J' ∧ EnQ z r so Tq p op w f I' J' (pExp tk 35 (Sum.inr (i, c))) ∧ I' (z + 85) (700 * r) = nI (m + 1) ∧ (∀ k, k ≠ 700 * r → k < 700 * r + 85 → I' (z + 85) k = I (z + 85) k) ∧ I' (z + 83) 24 = I (z + 83) 24 := by
  have hr := h.2.2.2.2.2.2.2.2.2.2.2.2
  have m15 : mI (mk z C I J t u) (z + 83) 15 = nI (700 * r) := h.2.1
  obtain ⟨s1, f1⟩ := RfW.s85 (a := 700 * r) (v := nI (m + 1)) hT h (Nat.le_refl _) (by omega)
  have k35 := q_tok hT s1.1 (s := 35) (by omega) (by omega)
  unfold cE
  simp only [bd]
  rw [g83_5, n85, m15, ck_t (inb_nI (by omega) (by omega)), ck_t (inb_nI (by omega) (by omega)), cl_nI (by omega), show mI (mk z C I J t u) (z + 85) (700 * r) = nI m from h0, show nI m + (1 : Int32) = nI (m + 1) from nI_pl m 1, sI_mk]
  show ∃ f I' J', _ ∧ _ ∧ EnQ z r so Tq p op w f I' J' (if (tk i).1 = 35 then Sum.inr (i + 1, c) else Sum.inl (1, i)) ∧ _
  by_cases e : (tk i).1 = 35
  · obtain ⟨I2, J2, e2, s2, f2⟩ := w_next hT s1 (show (tk i).1 ≠ 39 by omega)
    rw [if_pos (show mI (mk z C (up2 I (z + 85) (700 * r) (nI (m + 1))) J t u) (z + 83) 12 = (59 : Int32) from k35.mpr e), e2, cv_some, if_pos e]
    refine ⟨0, I2, J2, rfl, f1.trg f2.frg, ⟨rfl, s2⟩, ?_, fun k k1 k2 => ?_, ?_⟩
    · rw [f2.2.2.1 _ (by omega), up2_v]
    · rw [f2.2.2.1 _ (by omega), up2_x (by omega)]
    · rw [f2.2.1 _ (by omega), up2_ne (by omega)]
  · rw [if_neg (show ¬ mI (mk z C (up2 I (z + 85) (700 * r) (nI (m + 1))) J t u) (z + 83) 12 = (59 : Int32) from fun y => e (k35.mp y)), if_neg e]
    exact ⟨1, _, J, rfl, f1, ⟨rfl, by omega, by omega, s1.1⟩, up2_v, fun k k1 k2 => up2_x (by omega), by rw [up2_ne (by omega)]⟩
/-- the law or the place -/
def EnB (z r so : Nat) (Tq : TQ) (f : Nat) (I : Nat → Nat → Int32) (J : Nat → Nat → Int64) (x : PrR) : Prop := match x with
  | Sum.inl e => f = e.1 ∧ Tq I J e.2
  | Sum.inr y => f = 0 ∧ ∃ p w, RfW z r so Tq I J y.1 y.2 p 0 w
theorem q_body (hn : 100000 ≤ n) (hT : TokOK n z C t u tk Tq) (hE : ∀ i, 300 ≤ i → (tk i).1 = 39) {A s : Nat} (hs : s ≤ 5) (hA : 700 * r < A) (hA2 : A + 3 < 700 * r + 85) (hl : c.length + 1 ≤ i) (h : RfW z r s Tq I J i c p 0 w) : ∃ f I' J', (if nI s < (4 : Int32) then f_X11_parsed n (z + 83) (bWC (decide (s = 3))) (mk z C I J t u) else f_X11_drawnBy n (z + 83) (nI A) (nI s) (mk z C I J t u)) = some (nI f, mk z C I' J' t u) ∧ FrZ z r I I' J J' ∧ EnB z r s Tq f I' J' (if s < 4 then pLaw tk s i c else pPl tk s (Sum.inr (i, c))) ∧ (∀ k, k ≠ A + 1 → k ≠ A + 2 → k ≠ A + 3 → k < 700 * r + 85 → I' (z + 85) k = I (z + 85) k) ∧ I' (z + 83) 24 = I (z + 83) 24 ∧ (4 ≤ s → f = 0 → I' (z + 85) (A + 1) = nI (tk i).2 ∧ I' (z + 85) (A + 2) = nI (tk (i + 2)).2 ∧ I' (z + 85) (A + 3) = nI (tk (i + 4)).2) := by
  by_cases h4 : s < 4
  · rw [if_pos (show nI s < (4 : Int32) from (nI_lt' (b := 4) (by omega) (by omega)).mpr h4), if_pos h4]
    have hp := q_parsed (n := n) (C := C) (t := t) (u := u) hn hT hE h4 hl h
    cases hx : pLaw tk s i c with
    | inl e =>
      rw [hx] at hp
      obtain ⟨I', J', a, b, d⟩ := hp
      exact ⟨e.1, I', J', a, d.frg, ⟨rfl, b⟩, fun k _ _ _ k4 => d.2.2.1 k (by omega), d.2.1 _ (by omega), fun y => by omega⟩
    | inr y =>
      rw [hx] at hp
      obtain ⟨I', J', a, b, d⟩ := hp
      exact ⟨0, I', J', a, d.frg, ⟨rfl, [], true, b.rwk⟩, fun k _ _ _ k4 => d.2.2.1 k (by omega), d.2.1 _ (by omega), fun y => by omega⟩
  · rw [if_neg (show ¬ nI s < (4 : Int32) from fun y => h4 ((nI_lt' (b := 4) (by omega) (by omega)).mp y)), if_neg h4]
    obtain ⟨f, I', J', a1, a2, a3, a4, a5, a6⟩ := q_drawn (n := n) (C := C) (t := t) (u := u) hT hA hA2 (s := s) (by omega) h
    refine ⟨f, I', J', a1, a2, ?_, a4, a5, fun _ y => a6 y⟩
    cases hx : pPl tk s (Sum.inr (i, c)) with
    | inl e => rw [hx] at a3; exact ⟨a3.1, a3.2.2.2⟩
    | inr y => rw [hx] at a3; exact ⟨a3.1, p, w, a3.2⟩
def RkS (z r : Nat) (I : Nat → Nat → Int32) (K : List Cl4) : Prop := I (z + 85) (700 * r) = nI K.length ∧ ∀ i, i < K.length → I (z + 85) (700 * r + 1 + 4 * i) = nI (K.getD i (0, 0, 0, 0)).1 ∧ I (z + 85) (700 * r + 1 + 4 * i + 1) = nI (K.getD i (0, 0, 0, 0)).2.1 ∧ I (z + 85) (700 * r + 1 + 4 * i + 2) = nI (K.getD i (0, 0, 0, 0)).2.2.1 ∧ (4 ≤ (K.getD i (0, 0, 0, 0)).1 → I (z + 85) (700 * r + 1 + 4 * i + 3) = nI (K.getD i (0, 0, 0, 0)).2.2.2)
def MkS (z : Nat) (I : Nat → Nat → Int32) (l : List Nat) : Prop := ∃ b, b < 8 ∧ I (z + 83) 24 = nI b ∧ ∀ s, s < 3 → (b.testBit s = true ↔ s ∈ l)
theorem mk_b : ∀ b, b < 8 → ∀ s, s < 3 → (((nI b >>> (nI s &&& 31)) &&& (1 : Int32) = 1) ↔ b.testBit s = true) := by decide +kernel
theorem mk_u : ∀ b, b < 8 → ∀ s, s < 3 → nI b ||| ((1 : Int32) <<< (nI s &&& 31)) = nI (b ||| 2 ^ s) ∧ b ||| 2 ^ s < 8 ∧ ∀ q, q < 3 → ((b ||| 2 ^ s).testBit q = true ↔ (b.testBit q = true ∨ q = s)) := by decide +kernel
def OutR (z r : Nat) (Tq : TQ) (K : List Cl4) (f : Nat) (I : Nat → Nat → Int32) (J : Nat → Nat → Int64) (x : PrC) : Prop := match x with
  | Sum.inl e => f = e.1 ∧ Tq I J e.2
  | Sum.inr y => f = 0 ∧ (∃ so p w, RfW z r so Tq I J y.1 y.2.2 p 0 w) ∧ RkS z r I (K ++ [y.2.1]) ∧ MkS z I ((K ++ [y.2.1]).map (fun k => k.1))
end QE
