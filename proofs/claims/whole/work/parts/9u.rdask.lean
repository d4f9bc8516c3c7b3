/-! THE CLASS READS ASK, EITHER -/
def bWC (w : Bool) : Int32 := if w = true then 1 else 0
theorem sgc : ∀ k, isCm k → nI k = nI (sg (cmO k)) := by
  intro k h
  have : k = 24 ∨ k = 25 ∨ k = 26 ∨ k = 27 ∨ k = 36 ∨ k = 37 := by unfold isCm at h; omega
  rcases this with rfl | rfl | rfl | rfl | rfl | rfl <;> rfl
section RA
variable {n z C t r N : Nat} {J : Nat → Nat → Int64} {tk : Nat → Nat × Nat} {pl : Nat → Nat}
/-- behind the asking sign, with a fault -/
theorem ask_2l (hn : 100000 ≤ n) (hr : r < t) {j : Nat} (hj : j ≤ 8) {I : Nat → Nat → Int32} {e : Nat × Nat} (h : StC z r N 3 tk pl I (Sum.inl e)) (a : Int32) : LvC z C t r N 3 J tk pl I (cv (f_X4_readSum n (z + 17) (nI j) (mk z C I J t (some (97 + 6 * r)))) fun S15 => gR S15 (mR S15 (z + 17) 3) 7 fun q18 => cv (f_X7_put n q18 a (0 : Int32) S15) fun S20 => f_X4_readAsk_L103 n (z + 17) (nI j) n (0 : Int32) S20) (Sum.inl e) := by
  obtain ⟨I1, e1, s1, f1⟩ := rd_sum (n := n) (C := C) (J := J) (so := 3) hn hr (by omega) hj h (fun _ _ w => by cases w)
  obtain ⟨I2, e2, s2, f2⟩ := fa_put (n := n) (C := C) (J := J) hr s1 a (0 : Int32)
  obtain ⟨I3, e3, s3, f3⟩ := nots_L (n := n) (C := C) (J := J) (so := 3) hr (show j ≤ 9 by omega) j n 0 I2 (Sum.inl e) (by omega) (by omega) s2 (fun _ _ w => by cases w)
  refine ⟨I3, ?_, s3, (f1.trp f2).trp f3⟩
  rw [e1, cv_some, gU hr, e2, cv_some]
  exact e3
theorem ask_2r (hn : 100000 ≤ n) (hr : r < t) {j q : Nat} (hj : j ≤ 8) (hq : isCm q) {I : Nat → Nat → Int32} {i : Nat} {c : Cd} (h : OkSt z r N 3 tk pl I i c) (hl : c.length + j + 2 ≤ i) : LvC z C t r N 3 J tk pl I (cv (f_X4_readSum n (z + 17) (nI j) (mk z C I J t (some (97 + 6 * r)))) fun S15 => gR S15 (mR S15 (z + 17) 3) 7 fun q18 => cv (f_X7_put n q18 (nI q) (0 : Int32) S15) fun S20 => f_X4_readAsk_L103 n (z + 17) (nI j) n (0 : Int32) S20) (pB (pSum tk 3 12 j i c) (fun i2 c2 => Sum.inr (i2, c2 ++ (cmO q, 0) :: ntC j))) := by
  obtain ⟨I1, e1, s1, f1⟩ := rd_sum (n := n) (C := C) (J := J) (so := 3) hn hr (by omega) hj (show StC z r N 3 tk pl I (Sum.inr (i, c)) from h) (fun _ _ w => by cases w; omega)
  rw [pB_r] at s1
  have hl1 : ∀ i' c', pSum tk 3 12 j i c = Sum.inr (i', c') → c'.length + j + 2 ≤ i' ∧ i' ≤ 300 := fun i' c' w => by
    have := pSum_len hj w
    rw [w] at s1
    exact ⟨by omega, ok_lt (show OkSt z r N 3 tk pl I1 i' c' from s1)⟩
  obtain ⟨b1, b2⟩ := cmO_ok (k := q)
  obtain ⟨I2, e2, s2, f2⟩ := lv_put (n := n) (C := C) (J := J) (o := cmO q) (v := 0) hr s1 (fun i' c' w => by have := hl1 i' c' w; omega) (by omega) (by omega)
  rw [← sgc q hq] at e2
  have e2' : f_X7_put n (z + (97 + 6 * r)) (nI q) (0 : Int32) (mk z C I1 J t (some (97 + 6 * r))) = some (mk z C I2 J t (some (97 + 6 * r))) := e2
  obtain ⟨I3, e3, s3, f3⟩ := nots_L (n := n) (C := C) (J := J) (so := 3) hr (show j ≤ 9 by omega) j n 0 I2 _ (by omega) (by omega) s2 (fun i' c' w => by
    cases hR : pSum tk 3 12 j i c with
    | inl y => rw [hR] at w; cases w
    | inr y =>
      obtain ⟨i2, d2⟩ := y
      rw [hR] at w
      cases w
      have := hl1 i2 d2 hR
      rw [List.length_append]
      show d2.length + 1 + j ≤ 300
      omega)
  refine ⟨I3, ?_, ?_, (f1.trp f2).trp f3⟩
  · rw [e1, cv_some, gU hr, e2', cv_some]
    exact e3
  · rw [pB_as] at s3
    have hfun : (fun (i' : Nat) (c' : Cd) => pB (Sum.inr (i', c' ++ [(cmO q, 0)])) (fun i c => Sum.inr (i, c ++ ntC j))) = fun i2 c2 => Sum.inr (i2, c2 ++ (cmO q, 0) :: ntC j) := by
      funext i' c'
      rw [pB_r, List.append_assoc]; rfl
    rw [hfun] at s3
    exact s3
theorem ask_1 (hn : 100000 ≤ n) (hr : r < t) {j : Nat} (hj : j ≤ 8) {I : Nat → Nat → Int32} {x : PrR} (h : StC z r N 3 tk pl I x) (hl : ∀ i c, x = Sum.inr (i, c) → c.length + j + 1 ≤ i) : LvC z C t r N 3 J tk pl I (cv (f_X4_readSum n (z + 17) (nI j) (mk z C I J t (some (97 + 6 * r)))) fun S8 => (if (mI S8 (z + 17) 5) < (24 : Int32) then (if (mI S8 (z + 17) 5) = (36 : Int32) then cv (f_X4_advance n (z + 17) S8) fun S37 => cv (f_X4_readSum n (z + 17) (nI j) S37) fun S15 => gR S15 (mR S15 (z + 17) 3) 7 fun q18 => cv (f_X7_put n q18 (mI S8 (z + 17) 5) (0 : Int32) S15) fun S20 => f_X4_readAsk_L103 n (z + 17) (nI j) n (0 : Int32) S20 else (if (mI S8 (z + 17) 5) = (37 : Int32) then cv (f_X4_advance n (z + 17) S8) fun S37 => cv (f_X4_readSum n (z + 17) (nI j) S37) fun S15 => gR S15 (mR S15 (z + 17) 3) 7 fun q18 => cv (f_X7_put n q18 (mI S8 (z + 17) 5) (0 : Int32) S15) fun S20 => f_X4_readAsk_L103 n (z + 17) (nI j) n (0 : Int32) S20 else cv (f_X4_complain n (z + 17) (1 : Int32) S8) fun S43 => cv (f_X4_readSum n (z + 17) (nI j) S43) fun S15 => gR S15 (mR S15 (z + 17) 3) 7 fun q18 => cv (f_X7_put n q18 (mI S8 (z + 17) 5) (0 : Int32) S15) fun S20 => f_X4_readAsk_L103 n (z + 17) (nI j) n (0 : Int32) S20)) else (if (mI S8 (z + 17) 5) ≤ (27 : Int32) then cv (f_X4_advance n (z + 17) S8) fun S37 => cv (f_X4_readSum n (z + 17) (nI j) S37) fun S15 => gR S15 (mR S15 (z + 17) 3) 7 fun q18 => cv (f_X7_put n q18 (mI S8 (z + 17) 5) (0 : Int32) S15) fun S20 => f_X4_readAsk_L103 n (z + 17) (nI j) n (0 : Int32) S20 else (if (mI S8 (z + 17) 5) = (36 : Int32) then cv (f_X4_advance n (z + 17) S8) fun S37 => cv (f_X4_readSum n (z + 17) (nI j) S37) fun S15 => gR S15 (mR S15 (z + 17) 3) 7 fun q18 => cv (f_X7_put n q18 (mI S8 (z + 17) 5) (0 : Int32) S15) fun S20 => f_X4_readAsk_L103 n (z + 17) (nI j) n (0 : Int32) S20 else (if (mI S8 (z + 17) 5) = (37 : Int32) then cv (f_X4_advance n (z + 17) S8) fun S37 => cv (f_X4_readSum n (z + 17) (nI j) S37) fun S15 => gR S15 (mR S15 (z + 17) 3) 7 fun q18 => cv (f_X7_put n q18 (mI S8 (z + 17) 5) (0 : Int32) S15) fun S20 => f_X4_readAsk_L103 n (z + 17) (nI j) n (0 : Int32) S20 else cv (f_X4_complain n (z + 17) (1 : Int32) S8) fun S43 => cv (f_X4_readSum n (z + 17) (nI j) S43) fun S15 => gR S15 (mR S15 (z + 17) 3) 7 fun q18 => cv (f_X7_put n q18 (mI S8 (z + 17) 5) (0 : Int32) S15) fun S20 => f_X4_readAsk_L103 n (z + 17) (nI j) n (0 : Int32) S20)))))
    (pB x (fun i c => pB (pSum tk 3 12 j i c) (fun i1 c1 => if dec (isCm (tk i1).1) = true then pB (pSum tk 3 12 j (i1 + 1) c1) (fun i2 c2 => Sum.inr (i2, c2 ++ (cmO (tk i1).1, 0) :: ntC j)) else Sum.inl (1, i1)))) := by
  obtain ⟨I1, e1, s1, f1⟩ := rd_sum (n := n) (C := C) (J := J) (so := 3) hn hr (by omega) hj h (fun i c w => by have := hl i c w; omega)
  rw [e1, cv_some, ← pB_as]
  cases hx : pB x (fun i c => pSum tk 3 12 j i c) with
  | inl e =>
    rw [hx] at s1
    rw [fa_5 s1, if_neg (by decide), if_neg (by decide), if_neg (by decide), if_neg (by decide), fa_com s1, cv_some]
    obtain ⟨I2, e2, s2, f2⟩ := ask_2l (n := n) (C := C) (J := J) hn hr hj s1 (39 : Int32)
    exact ⟨I2, e2, s2, f1.trp f2⟩
  | inr y =>
    obtain ⟨i1, c1⟩ := y
    rw [hx] at s1
    have s1 : OkSt z r N 3 tk pl I1 i1 c1 := s1
    obtain ⟨m5, b1⟩ := ok_5 (C := C) (J := J) (t := t) s1
    have hlen : c1.length + j + 1 ≤ i1 := by
      cases x with
      | inl y => cases hx
      | inr y =>
        obtain ⟨i0, c0⟩ := y
        rw [pB_r] at hx
        have := pSum_len hj hx
        have := hl i0 c0 rfl
        omega
    rw [m5, pB_r]
    have hlt : nI (tk i1).1 < (24 : Int32) ↔ (tk i1).1 < 24 := by rw [show (24 : Int32) = nI 24 from rfl, nI_lt' (by omega) (by omega)]
    have hle : nI (tk i1).1 ≤ (27 : Int32) ↔ (tk i1).1 ≤ 27 := by rw [show (27 : Int32) = nI 27 from rfl, nI_le' (by omega) (by omega)]
    have h36 : nI (tk i1).1 = (36 : Int32) ↔ (tk i1).1 = 36 := by rw [show (36 : Int32) = nI 36 from rfl, nI_inj (by omega) (by omega)]
    have h37 : nI (tk i1).1 = (37 : Int32) ↔ (tk i1).1 = 37 := by rw [show (37 : Int32) = nI 37 from rfl, nI_inj (by omega) (by omega)]
    by_cases hc : isCm (tk i1).1
    · obtain ⟨-, I2, e2, s2, f2⟩ := st_adv (n := n) (C := C) (J := J) (t := t) s1 (by unfold isCm at hc; omega)
      obtain ⟨I3, e3, s3, f3⟩ := ask_2r (n := n) (C := C) (J := J) hn hr hj hc s2 (by omega)
      rw [if_pos (dec_t.mpr hc)]
      refine ⟨I3, ?_, s3, (f1.trp f2).trp f3⟩
      rw [e2, cv_some, e3]
      unfold isCm at hc
      by_cases q1 : (tk i1).1 < 24
      · omega
      · rw [if_neg (fun w => q1 (hlt.mp w))]
        by_cases q2 : (tk i1).1 ≤ 27
        · rw [if_pos (hle.mpr q2)]
        · rw [if_neg (fun w => q2 (hle.mp w))]
          by_cases q3 : (tk i1).1 = 36
          · rw [if_pos (h36.mpr q3)]
          · rw [if_neg (fun w => q3 (h36.mp w)), if_pos (h37.mpr (by omega))]
    · obtain ⟨I2, e2, s2, f2⟩ := st_com (n := n) (C := C) (J := J) (t := t) (f := 1) s1 (by omega) (by omega)
      have e2' : f_X4_complain n (z + 17) (1 : Int32) (mk z C I1 J t (some (97 + 6 * r))) = some (mk z C I2 J t (some (97 + 6 * r))) := e2
      obtain ⟨I3, e3, s3, f3⟩ := ask_2l (n := n) (C := C) (J := J) hn hr hj (show StC z r N 3 tk pl I2 (Sum.inl (1, i1)) from s2) (nI (tk i1).1)
      rw [if_neg (fun w => hc (dec_t.mp w))]
      refine ⟨I3, ?_, s3, (f1.trp f2).trp f3⟩
      have n36 : ¬ nI (tk i1).1 = (36 : Int32) := fun w => hc (Or.inr (Or.inl (h36.mp w)))
      have n37 : ¬ nI (tk i1).1 = (37 : Int32) := fun w => hc (Or.inr (Or.inr (h37.mp w)))
      rw [e2', cv_some, e3]
      by_cases q1 : (tk i1).1 < 24
      · rw [if_pos (hlt.mpr q1), if_neg n36, if_neg n37]
      · rw [if_neg (fun w => q1 (hlt.mp w)), if_neg (fun w => hc (Or.inl ⟨by omega, hle.mp w⟩)), if_neg n36, if_neg n37]
theorem rd_Ask (hn : 100000 ≤ n) (hr : r < t) {I : Nat → Nat → Int32} {x : PrR} (h : StC z r N 3 tk pl I x) (hl : ∀ i c, x = Sum.inr (i, c) → c.length + 1 ≤ i) : LvC z C t r N 3 J tk pl I (f_X4_readAsk n (z + 17) (mk z C I J t (some (97 + 6 * r)))) (pB x (pAsk tk)) := by
  unfold f_X4_readAsk
  simp only [jn, bd]
  cases x with
  | inl e =>
    have m5 := fa_5 (C := C) (J := J) (t := t) h
    have hL : ∀ K : Int32 → MS → Option MS, f_X4_readAsk_L2 n (z + 17) K n (0 : Int32) (mk z C I J t (some (97 + 6 * r))) = K 0 (mk z C I J t (some (97 + 6 * r))) := by
      intro K
      obtain ⟨k, hk⟩ : ∃ k, n = k + 1 := ⟨n - 1, by omega⟩
      rw [show f_X4_readAsk_L2 n (z + 17) K n = f_X4_readAsk_L2 n (z + 17) K (k + 1) by rw [← hk], f_X4_readAsk_L2]
      simp only [jn]
      rw [m5, if_neg (by decide), if_neg (by decide)]
    rw [hL, m5, if_neg (by decide)]
    exact ask_1 (j := 0) hn hr (by omega) h (fun _ _ w => by cases w)
  | inr y =>
    obtain ⟨i, c⟩ := y
    have hci : c.length + 1 ≤ i := hl i c rfl
    obtain ⟨I1, e1, s1, f1⟩ := not_L (n := n) (C := C) (J := J) (t := t) 8 n 0 i c I (by omega) (by omega) (show OkSt z r N 3 tk pl I i c from h)
    have hj := cntS_le (tk := tk) (s := 14) 8 i
    rw [pB_r]
    show LvC z C t r N 3 J tk pl I _ (pAsk tk i c)
    unfold pAsk
    generalize cntS tk 14 8 i = j at *
    obtain ⟨m5, b1⟩ := ok_5 (C := C) (J := J) (t := t) s1
    have e1' : ∀ K : Int32 → MS → Option MS, f_X4_readAsk_L2 n (z + 17) K n (0 : Int32) (mk z C I J t (some (97 + 6 * r))) = K (nI (0 + j)) (mk z C I1 J t (some (97 + 6 * r))) := e1
    rw [e1', m5, Nat.zero_add]
    unfold pAskJ
    by_cases q : (tk (i + j)).1 = 14
    · obtain ⟨I2, e2, s2, f2⟩ := st_com (n := n) (C := C) (J := J) (t := t) (f := 3) s1 (by omega) (by omega)
      have e2' : f_X4_complain n (z + 17) (3 : Int32) (mk z C I1 J t (some (97 + 6 * r))) = some (mk z C I2 J t (some (97 + 6 * r))) := e2
      rw [if_pos (show nI (tk (i + j)).1 = (14 : Int32) by rw [q]; rfl), if_pos q, e2', cv_some]
      obtain ⟨I3, e3, s3, f3⟩ := ask_1 (n := n) (C := C) (J := J) (j := j) hn hr hj (show StC z r N 3 tk pl I2 (Sum.inl (3, i + j)) from s2) (fun _ _ w => by cases w)
      exact ⟨I3, e3, s3, (f1.trp f2).trp f3⟩
    · rw [if_neg (show ¬ nI (tk (i + j)).1 = (14 : Int32) by rw [show (14 : Int32) = nI 14 from rfl, nI_inj (by omega) (by omega)]; exact q), if_neg q]
      obtain ⟨I3, e3, s3, f3⟩ := ask_1 (n := n) (C := C) (J := J) (j := j) hn hr hj (show StC z r N 3 tk pl I1 (Sum.inr (i + j, c)) from s1) (fun _ _ w => by cases w; omega)
      exact ⟨I3, e3, s3, f1.trp f3⟩
theorem pAsk_len {i i' : Nat} {c c' : Cd} (e : pAsk tk i c = Sum.inr (i', c')) : c'.length + i ≤ c.length + i' ∧ i < i' := by
  have := pAsk_gd (tk := tk) (k := 0) (by omega) i c
  rw [e] at this
  obtain ⟨g, g1, g2, g3, -, -⟩ := this
  have g1 : c' = c ++ g := g1
  have g3 : g.length + i ≤ i' := g3
  have g2 : i < i' := g2
  rw [g1, List.length_append]; omega
theorem or_put {I : Nat → Nat → Int32} {x : PrR} {w : Bool} (hr : r < t) (h : StC z r N 3 tk pl I x) (hl : ∀ i c, x = Sum.inr (i, c) → c.length + (orC w).length ≤ 300) : LvC z C t r N 3 J tk pl I (if bWC w = 0 then some (mk z C I J t (some (97 + 6 * r))) else gR (mk z C I J t (some (97 + 6 * r))) (mR (mk z C I J t (some (97 + 6 * r))) (z + 17) 3) 7 fun q8 => cv (f_X7_put n q8 (16 : Int32) (0 : Int32) (mk z C I J t (some (97 + 6 * r)))) fun S10 => some S10) (pB x (fun i c => Sum.inr (i, c ++ orC w))) := by
  cases w with
  | false =>
    refine ⟨I, by rw [if_pos (show bWC false = 0 from rfl)], ?_, FrP.rfp z r I⟩
    cases x with
    | inl e => exact h
    | inr y => rw [show pB (Sum.inr y) (fun i c => Sum.inr (i, c ++ orC false)) = Sum.inr (y.1, y.2 ++ []) from rfl, List.append_nil]; exact h
  | true =>
    obtain ⟨I1, e1, s1, f1⟩ := lv_put (n := n) (C := C) (J := J) (o := 22) (v := 0) hr h (fun i c e => by have : c.length + 1 ≤ 300 := hl i c e; omega) (by omega) (by omega)
    have e1' : f_X7_put n (z + (97 + 6 * r)) (16 : Int32) (0 : Int32) (mk z C I J t (some (97 + 6 * r))) = some (mk z C I1 J t (some (97 + 6 * r))) := e1
    exact ⟨I1, by rw [if_neg (show ¬ bWC true = 0 by decide), gU hr, e1', cv_some], s1, f1⟩
theorem eith_L (hn : 100000 ≤ n) (hr : r < t) : ∀ (f k m : Nat) (w : Bool) (I : Nat → Nat → Int32) (x : PrR), m + f = 300 → f < k → StC z r N 3 tk pl I x → (∀ i c, x = Sum.inr (i, c) → c.length + (orC w).length + 1 ≤ i) →
    LvC z C t r N 3 J tk pl I (f_X4_readEither_L8 n (z + 17) (fun (x6 : Int32) (S7 : MS) => (if x6 = 0 then some S7 else gR S7 (mR S7 (z + 17) 3) 7 fun q8 => cv (f_X7_put n q8 (16 : Int32) (0 : Int32) S7) fun S10 => some S10)) k (bWC w) (nI m) (mk z C I J t (some (97 + 6 * r)))) (pB x (pELoop tk f w)) := by
  intro f
  induction f with
  | zero =>
    intro k m w I x hm hk h hl
    obtain ⟨k, rfl⟩ : ∃ m, k = m + 1 := ⟨k - 1, by omega⟩
    rw [f_X4_readEither_L8]
    simp only [jn]
    rw [if_pos (show (300 : Int32) ≤ nI m by rw [show (300 : Int32) = nI 300 from rfl, nI_le' (by omega) (by omega)]; omega)]
    exact or_put hr h (fun i c e => by
      have := hl i c e
      have h300 : i ≤ 300 := by rw [e] at h; exact ok_lt (show OkSt z r N 3 tk pl I i c from h)
      omega)
  | succ f ih =>
    intro k m w I x hm hk h hl
    obtain ⟨k, rfl⟩ : ∃ m, k = m + 1 := ⟨k - 1, by omega⟩
    have hl3 : ∀ i c, x = Sum.inr (i, c) → c.length + (orC w).length ≤ 300 := fun i c e => by
      have := hl i c e
      have h300 : i ≤ 300 := by rw [e] at h; exact ok_lt (show OkSt z r N 3 tk pl I i c from h)
      omega
    rw [f_X4_readEither_L8]
    simp only [jn, bd]
    rw [if_neg (show ¬ (300 : Int32) ≤ nI m by rw [show (300 : Int32) = nI 300 from rfl, nI_le' (by omega) (by omega)]; omega)]
    cases x with
    | inl e =>
      rw [fa_5 h, if_neg (by decide), if_neg (by decide)]
      exact or_put (n := n) (C := C) (J := J) hr h hl3
    | inr y =>
      obtain ⟨i, c⟩ := y
      have h : OkSt z r N 3 tk pl I i c := h
      have hci : c.length + (orC w).length + 1 ≤ i := hl i c rfl
      have hi3 := ok_lt h
      obtain ⟨m5, b1⟩ := ok_5 (C := C) (J := J) (t := t) h
      rw [m5, pB_r, pELoop, show nI m + (1 : Int32) = nI (m + 1) from nI_pl m 1]
      by_cases h15 : (tk i).1 = 15
      · obtain ⟨-, I1, e1, s1, f1⟩ := st_adv (n := n) (C := C) (J := J) (t := t) h (by omega)
        obtain ⟨I2, e2, s2, f2⟩ := rd_Ask (n := n) (C := C) (J := J) hn hr (show StC z r N 3 tk pl I1 (Sum.inr (i + 1, c)) from s1) (fun _ _ w => by cases w; omega)
        rw [pB_r] at s2
        have hl2 : ∀ i' c', pAsk tk (i + 1) c = Sum.inr (i', c') → c'.length + (i + 1) ≤ c.length + i' ∧ i' ≤ 300 := fun i' c' w' => by
          rw [w'] at s2
          exact ⟨(pAsk_len w').1, ok_lt (show OkSt z r N 3 tk pl I2 i' c' from s2)⟩
        obtain ⟨I3, e3, s3, f3⟩ := lv_put (n := n) (C := C) (J := J) (o := 21) (v := 0) hr s2 (fun i' c' w' => by have := hl2 i' c' w'; omega) (by omega) (by omega)
        have e3' : f_X7_put n (z + (97 + 6 * r)) (15 : Int32) (0 : Int32) (mk z C I2 J t (some (97 + 6 * r))) = some (mk z C I3 J t (some (97 + 6 * r))) := e3
        obtain ⟨I4, e4, s4, f4⟩ := ih k (m + 1) w I3 _ (by omega) (by omega) s3 (fun i' c' w' => by
          cases hR : pAsk tk (i + 1) c with
          | inl y => rw [hR] at w'; cases w'
          | inr y =>
            obtain ⟨i2, d2⟩ := y
            rw [hR] at w'
            cases w'
            have := hl2 i2 d2 hR
            rw [List.length_append]
            show d2.length + 1 + (orC w).length + 1 ≤ i2
            omega)
        have y15 : nI (tk i).1 = (15 : Int32) := by rw [h15]; rfl
        rw [if_pos y15, if_pos y15, if_pos h15]
        simp only [show ¬ ((1 : Int32) = 0) by decide, if_false]
        refine ⟨I4, ?_, ?_, ((f1.trp f2).trp f3).trp f4⟩
        · have fin : ∀ q : Int32, q = bWC w → (cv (f_X4_advance n (z + 17) (mk z C I J t (some (97 + 6 * r)))) fun S32 => cv (f_X4_readAsk n (z + 17) S32) fun S35 => gR S35 (mR S35 (z + 17) 3) 7 fun q42 => cv (f_X7_put n q42 (15 : Int32) (0 : Int32) S35) fun S44 => f_X4_readEither_L8 n (z + 17) (fun (x6 : Int32) (S7 : MS) => (if x6 = 0 then some S7 else gR S7 (mR S7 (z + 17) 3) 7 fun q8 => cv (f_X7_put n q8 (16 : Int32) (0 : Int32) S7) fun S10 => some S10)) k q (nI (m + 1)) S44) = some (mk z C I4 J t (some (97 + 6 * r))) := by
            intro q hq
            rw [hq, e1, cv_some, e2, cv_some, gU hr, e3', cv_some]; exact e4
          cases w with
          | false => rw [if_pos (show bWC false = 0 from rfl)]; exact fin 0 rfl
          | true => rw [if_neg (show ¬ bWC true = 0 by decide)]; exact fin 1 rfl
        · rw [pB_as] at s4
          exact s4
      · have n15 : ¬ nI (tk i).1 = (15 : Int32) := by rw [show (15 : Int32) = nI 15 from rfl, nI_inj (by omega) (by omega)]; exact h15
        rw [if_neg n15, if_neg h15]
        by_cases h16 : (tk i).1 = 16
        · obtain ⟨I0, e0, s0, f0⟩ := or_put (n := n) (C := C) (J := J) hr (show StC z r N 3 tk pl I (Sum.inr (i, c)) from h) hl3
          rw [pB_r] at s0
          obtain ⟨-, I1, e1, s1, f1⟩ := st_adv (n := n) (C := C) (J := J) (t := t) (show OkSt z r N 3 tk pl I0 i (c ++ orC w) from s0) (by omega)
          obtain ⟨I2, e2, s2, f2⟩ := rd_Ask (n := n) (C := C) (J := J) hn hr (show StC z r N 3 tk pl I1 (Sum.inr (i + 1, c ++ orC w)) from s1) (fun _ _ w' => by cases w'; rw [List.length_append]; omega)
          rw [pB_r] at s2
          obtain ⟨I4, e4, s4, f4⟩ := ih k (m + 1) true I2 _ (by omega) (by omega) s2 (fun i' c' w' => by
            have := (pAsk_len w').1
            rw [List.length_append] at this
            show c'.length + 1 + 1 ≤ i'
            omega)
          rw [if_pos (show nI (tk i).1 = (16 : Int32) by rw [h16]; rfl), if_neg n15, if_pos h16]
          refine ⟨I4, ?_, s4, ((f0.trp f1).trp f2).trp f4⟩
          simp only [if_true]
          have fin : (cv (f_X4_advance n (z + 17) (mk z C I0 J t (some (97 + 6 * r)))) fun S32 => cv (f_X4_readAsk n (z + 17) S32) fun S35 => f_X4_readEither_L8 n (z + 17) (fun (x6 : Int32) (S7 : MS) => (if x6 = 0 then some S7 else gR S7 (mR S7 (z + 17) 3) 7 fun q8 => cv (f_X7_put n q8 (16 : Int32) (0 : Int32) S7) fun S10 => some S10)) k (1 : Int32) (nI (m + 1)) S35) = some (mk z C I4 J t (some (97 + 6 * r))) := by
            rw [e1, cv_some, e2, cv_some]; exact e4
          cases w with
          | false =>
            rw [if_pos (show bWC false = 0 from rfl)] at e0
            simp only [show bWC false = 0 from rfl, if_true]
            cases e0
            exact fin
          | true =>
            rw [if_neg (show ¬ bWC true = 0 by decide), gU hr] at e0
            simp only [show ¬ (bWC true = 0) by decide, if_false]
            rw [gU hr]
            obtain ⟨S', hS'⟩ : ∃ S', f_X7_put n (z + (97 + 6 * r)) (16 : Int32) (0 : Int32) (mk z C I J t (some (97 + 6 * r))) = some S' := by
              cases hp : f_X7_put n (z + (97 + 6 * r)) (16 : Int32) (0 : Int32) (mk z C I J t (some (97 + 6 * r))) with
              | none => rw [hp] at e0; cases e0
              | some S' => exact ⟨S', rfl⟩
            rw [hS', cv_some] at e0 ⊢
            cases e0
            exact fin
        · rw [if_neg (show ¬ nI (tk i).1 = (16 : Int32) by rw [show (16 : Int32) = nI 16 from rfl, nI_inj (by omega) (by omega)]; exact h16), if_neg h16]
          have := or_put (n := n) (C := C) (J := J) hr (show StC z r N 3 tk pl I (Sum.inr (i, c)) from h) hl3
          rw [pB_r] at this
          exact this
theorem rd_Either (hn : 100000 ≤ n) (hr : r < t) {I : Nat → Nat → Int32} {x : PrR} (h : StC z r N 3 tk pl I x) (hl : ∀ i c, x = Sum.inr (i, c) → c.length + 1 ≤ i) : LvC z C t r N 3 J tk pl I (f_X4_readEither n (z + 17) (mk z C I J t (some (97 + 6 * r)))) (pB x (pEither tk)) := by
  obtain ⟨I1, e1, s1, f1⟩ := rd_Ask (n := n) (C := C) (J := J) hn hr h hl
  obtain ⟨I2, e2, s2, f2⟩ := eith_L (n := n) (C := C) (J := J) hn hr 300 n 0 false I1 (pB x (pAsk tk)) (by omega) (by omega) s1 (fun i c w => by
    cases x with
    | inl y => cases w
    | inr y =>
      obtain ⟨i0, c0⟩ := y
      rw [pB_r] at w
      have := (pAsk_len w).1
      have := hl i0 c0 rfl
      show c.length + 0 + 1 ≤ i
      omega)
  refine ⟨I2, ?_, ?_, f1.trp f2⟩
  · unfold f_X4_readEither
    simp only [jn]
    rw [e1, cv_some]; exact e2
  · rw [pB_as] at s2
    exact s2
end RA
