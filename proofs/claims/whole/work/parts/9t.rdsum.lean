/-! THE CLASS READS SUM, ASK, EITHER -/
def wIC (w : Option Nat) : Int32 := match w with
  | none => -1
  | some q => nI q
section RS
variable {n z C t r N so : Nat} {J : Nat → Nat → Int64} {tk : Nat → Nat × Nat} {pl : Nat → Nat}
theorem sgk : ∀ k, 28 ≤ k → k ≤ 31 → nI (sg (k - 25)) = nI k := by
  intro k h1 h2
  have : k = 28 ∨ k = 29 ∨ k = 30 ∨ k = 31 := by omega
  rcases this with rfl | rfl | rfl | rfl <;> rfl
theorem fa_5 {I : Nat → Nat → Int32} {e : Nat × Nat} (h : StC z r N so tk pl I (Sum.inl e)) : mI (mk z C I J t (some (97 + 6 * r))) (z + 17) 5 = 39 := h.2.2.2.2.2.2.1
theorem ok_5 {I : Nat → Nat → Int32} {i : Nat} {c : Cd} (h : OkSt z r N so tk pl I i c) : mI (mk z C I J t (some (97 + 6 * r))) (z + 17) 5 = nI (tk i).1 ∧ (tk i).1 ≤ 40 := ⟨h.2.2.2.2.2.2.2.1, (h.1.2.2.2 i h.2.2.1).1⟩
/-- the waiting sign is put -/
theorem wait_put {I : Nat → Nat → Int32} {x : PrR} {w : Option Nat} (hr : r < t) (hw : w = none ∨ ∃ q, w = some q ∧ 28 ≤ q ∧ q ≤ 29) (h : StC z r N so tk pl I x) (hl : ∀ i c, x = Sum.inr (i, c) → c.length + (wlC w).length ≤ 300) : LvC z C t r N so J tk pl I (if wIC w = (-1 : Int32) then some (mk z C I J t (some (97 + 6 * r))) else gR (mk z C I J t (some (97 + 6 * r))) (mR (mk z C I J t (some (97 + 6 * r))) (z + 17) 3) 7 fun q8 => cv (f_X7_put n q8 (wIC w) (0 : Int32) (mk z C I J t (some (97 + 6 * r)))) fun S10 => some S10) (pB x (fun i c => Sum.inr (i, c ++ wlC w))) := by
  rcases hw with rfl | ⟨q, rfl, q1, q2⟩
  · refine ⟨I, by rw [if_pos (show wIC none = -1 from rfl)], ?_, FrP.rfp z r I⟩
    cases x with
    | inl e => exact h
    | inr y => rw [show pB (Sum.inr y) (fun i c => Sum.inr (i, c ++ wlC none)) = Sum.inr (y.1, y.2 ++ []) from rfl, List.append_nil]; exact h
  · obtain ⟨I1, e1, s1, f1⟩ := lv_put (n := n) (C := C) (J := J) (o := q - 25) (v := 0) hr h (fun i c e => by have : c.length + 1 ≤ 300 := hl i c e; omega) (by omega) (by omega)
    rw [sgk q q1 (by omega)] at e1
    have e1' : f_X7_put n (z + (97 + 6 * r)) (wIC (some q)) (0 : Int32) (mk z C I J t (some (97 + 6 * r))) = some (mk z C I1 J t (some (97 + 6 * r))) := e1
    exact ⟨I1, by rw [if_neg (show ¬ wIC (some q) = -1 from nI_nm1 (by omega)), gU hr, e1', cv_some], s1, f1⟩
theorem sum_L (hr : r < t) {op bot : Nat} (hbot : bot ≤ op) (hop : op ≤ 8) {rec : Nat → Int32 → MS → Option MS} {R : Nat → Nat → Cd → PrR} (hrec : RcC n z C t r N so J tk pl rec R bot) (hgd : GdL R 8) : ∀ (f k m : Nat) (w : Option Nat) (I : Nat → Nat → Int32) (x : PrR), m + f = 300 → f < k → (w = none ∨ ∃ q, w = some q ∧ 28 ≤ q ∧ q ≤ 29) → StC z r N so tk pl I x → (∀ i c, x = Sum.inr (i, c) → c.length + (wlC w).length + 1 ≤ i) →
    LvC z C t r N so J tk pl I (f_X4_readSum_L9 n (z + 17) (nI op) rec (fun (x6 : Int32) (S7 : MS) => (if x6 = (-1 : Int32) then some S7 else gR S7 (mR S7 (z + 17) 3) 7 fun q8 => cv (f_X7_put n q8 x6 (0 : Int32) S7) fun S10 => some S10)) k (wIC w) (nI m) (mk z C I J t (some (97 + 6 * r)))) (pB x (pLoop tk (R op) f w)) := by
  intro f
  induction f with
  | zero =>
    intro k m w I x hm hk hw h hl
    obtain ⟨k, rfl⟩ : ∃ m, k = m + 1 := ⟨k - 1, by omega⟩
    rw [f_X4_readSum_L9]
    simp only [jn]
    rw [if_pos (show (300 : Int32) ≤ nI m by rw [show (300 : Int32) = nI 300 from rfl, nI_le' (by omega) (by omega)]; omega)]
    exact wait_put hr hw h (fun i c e => by
      have := hl i c e
      have h300 : i ≤ 300 := by rw [e] at h; exact ok_lt (show OkSt z r N so tk pl I i c from h)
      omega)
  | succ f ih =>
    intro k m w I x hm hk hw h hl
    obtain ⟨k, rfl⟩ : ∃ m, k = m + 1 := ⟨k - 1, by omega⟩
    have hl3 : ∀ i c, x = Sum.inr (i, c) → c.length + (wlC w).length ≤ 300 := fun i c e => by
      have := hl i c e
      have h300 : i ≤ 300 := by rw [e] at h; exact ok_lt (show OkSt z r N so tk pl I i c from h)
      omega
    rw [f_X4_readSum_L9]
    simp only [jn, bd]
    rw [if_neg (show ¬ (300 : Int32) ≤ nI m by rw [show (300 : Int32) = nI 300 from rfl, nI_le' (by omega) (by omega)]; omega)]
    cases x with
    | inl e =>
      rw [fa_5 h, if_neg (by decide), if_pos (by decide)]
      have := wait_put (n := n) (C := C) (J := J) hr hw h hl3
      exact this
    | inr y =>
      obtain ⟨i, c⟩ := y
      have h : OkSt z r N so tk pl I i c := h
      have hci : c.length + (wlC w).length + 1 ≤ i := hl i c rfl
      have hi3 := ok_lt h
      obtain ⟨m5, b1⟩ := ok_5 (C := C) (J := J) (t := t) h
      rw [m5, pB_r, pLoop]
      by_cases hk28 : 28 ≤ (tk i).1 ∧ (tk i).1 ≤ 31
      · rw [if_neg (show ¬ nI (tk i).1 < (28 : Int32) by rw [show (28 : Int32) = nI 28 from rfl, nI_lt' (by omega) (by omega)]; omega), if_neg (show ¬ (31 : Int32) < nI (tk i).1 by rw [show (31 : Int32) = nI 31 from rfl, nI_lt' (by omega) (by omega)]; omega), if_pos hk28, show nI m + (1 : Int32) = nI (m + 1) from nI_pl m 1]
        by_cases h30 : 30 ≤ (tk i).1
        · -- a product
          obtain ⟨-, I1, e1, s1, f1⟩ := st_adv (n := n) (C := C) (J := J) (t := t) h (by omega)
          obtain ⟨I2, e2, s2, f2⟩ := hrec op I1 (Sum.inr (i + 1, c)) hbot hop s1 (fun _ _ w => by cases w; omega)
          rw [pB_r] at s2
          have hl2 : ∀ i' c', R op (i + 1) c = Sum.inr (i', c') → c'.length + (i + 1) ≤ c.length + i' ∧ i' ≤ 300 := fun i' c' w => by
            rw [w] at s2
            exact ⟨(hgd _ _ _ _ _ hop w).1, ok_lt (show OkSt z r N so tk pl I2 i' c' from s2)⟩
          obtain ⟨I3, e3, s3, f3⟩ := lv_put (n := n) (C := C) (J := J) (o := (tk i).1 - 25) (v := 0) hr s2 (fun i' c' w => by have := hl2 i' c' w; omega) (by omega) (by omega)
          rw [sgk _ hk28.1 hk28.2] at e3
          have e3' : f_X7_put n (z + (97 + 6 * r)) (nI (tk i).1) (0 : Int32) (mk z C I2 J t (some (97 + 6 * r))) = some (mk z C I3 J t (some (97 + 6 * r))) := e3
          obtain ⟨I4, e4, s4, f4⟩ := ih k (m + 1) w I3 _ (by omega) (by omega) hw s3 (fun i' c' w' => by
            cases hR : R op (i + 1) c with
            | inl y => rw [hR] at w'; cases w'
            | inr y =>
              obtain ⟨i2, d2⟩ := y
              rw [hR] at w'
              cases w'
              have := hl2 i2 d2 hR
              rw [List.length_append]
              show d2.length + 1 + (wlC w).length + 1 ≤ i2
              omega)
          have hbody : LvC z C t r N so J tk pl I (cv (f_X4_advance n (z + 17) (mk z C I J t (some (97 + 6 * r)))) fun S30 => cv (rec (z + 17) (nI op) S30) fun S33 => gR S33 (mR S33 (z + 17) 3) 7 fun q40 => cv (f_X7_put n q40 (nI (tk i).1) (0 : Int32) S33) fun S42 => f_X4_readSum_L9 n (z + 17) (nI op) rec (fun (x6 : Int32) (S7 : MS) => (if x6 = (-1 : Int32) then some S7 else gR S7 (mR S7 (z + 17) 3) 7 fun q8 => cv (f_X7_put n q8 x6 (0 : Int32) S7) fun S10 => some S10)) k (wIC w) (nI (m + 1)) S42) (if 30 ≤ (tk i).1 then pB (R op (i + 1) c) (fun i2 c2 => pLoop tk (R op) f w i2 (c2 ++ [((tk i).1 - 25, 0)])) else pB (R op (i + 1) (c ++ wlC w)) (fun i2 c2 => pLoop tk (R op) f (some (tk i).1) i2 c2)) := by
            refine ⟨I4, ?_, ?_, ((f1.trp f2).trp f3).trp f4⟩
            · rw [e1, cv_some, e2, cv_some, gU hr, e3', cv_some]; exact e4
            · rw [if_pos h30]
              rw [pB_as] at s4
              exact s4
          by_cases k30 : (tk i).1 = 30
          · rw [if_pos (show nI (tk i).1 = (30 : Int32) by rw [k30]; rfl)]
            simp only [show ¬ ((1 : Int32) = 0) by decide, if_false]
            exact hbody
          · rw [if_neg (show ¬ nI (tk i).1 = (30 : Int32) by rw [show (30 : Int32) = nI 30 from rfl, nI_inj (by omega) (by omega)]; exact k30), if_pos (show nI (tk i).1 = (31 : Int32) by rw [show (tk i).1 = 31 by omega]; rfl)]
            simp only [show ¬ ((1 : Int32) = 0) by decide, if_false]
            exact hbody
        · -- a sum
          obtain ⟨I0, e0, s0, f0⟩ := wait_put (n := n) (C := C) (J := J) hr hw (show StC z r N so tk pl I (Sum.inr (i, c)) from h) hl3
          rw [pB_r] at s0
          obtain ⟨-, I1, e1, s1, f1⟩ := st_adv (n := n) (C := C) (J := J) (t := t) (show OkSt z r N so tk pl I0 i (c ++ wlC w) from s0) (by omega)
          obtain ⟨I2, e2, s2, f2⟩ := hrec op I1 (Sum.inr (i + 1, c ++ wlC w)) hbot hop s1 (fun _ _ w' => by cases w'; rw [List.length_append]; omega)
          rw [pB_r] at s2
          obtain ⟨I4, e4, s4, f4⟩ := ih k (m + 1) (some (tk i).1) I2 _ (by omega) (by omega) (Or.inr ⟨_, rfl, hk28.1, by omega⟩) s2 (fun i' c' w' => by
            have := (hgd _ _ _ _ _ hop w').1
            rw [List.length_append] at this
            show c'.length + 1 + 1 ≤ i'
            omega)
          rw [if_neg (show ¬ nI (tk i).1 = (30 : Int32) by rw [show (30 : Int32) = nI 30 from rfl, nI_inj (by omega) (by omega)]; omega), if_neg (show ¬ nI (tk i).1 = (31 : Int32) by rw [show (31 : Int32) = nI 31 from rfl, nI_inj (by omega) (by omega)]; omega), if_neg h30]
          refine ⟨I4, ?_, s4, ((f0.trp f1).trp f2).trp f4⟩
          simp only [if_true]
          have fin : (cv (f_X4_advance n (z + 17) (mk z C I0 J t (some (97 + 6 * r)))) fun S30 => cv (rec (z + 17) (nI op) S30) fun S33 => f_X4_readSum_L9 n (z + 17) (nI op) rec (fun (x6 : Int32) (S7 : MS) => (if x6 = (-1 : Int32) then some S7 else gR S7 (mR S7 (z + 17) 3) 7 fun q8 => cv (f_X7_put n q8 x6 (0 : Int32) S7) fun S10 => some S10)) k (nI (tk i).1) (nI (m + 1)) S33) = some (mk z C I4 J t (some (97 + 6 * r))) := by
            rw [e1, cv_some, e2, cv_some]; exact e4
          rcases hw with rfl | ⟨q, rfl, q1, q2⟩
          · rw [if_pos (show wIC none = -1 from rfl)] at e0 ⊢
            cases e0
            exact fin
          · rw [if_neg (show ¬ wIC (some q) = -1 from nI_nm1 (by omega)), gU hr] at e0 ⊢
            obtain ⟨S', hS'⟩ : ∃ S', f_X7_put n (z + (97 + 6 * r)) (wIC (some q)) (0 : Int32) (mk z C I J t (some (97 + 6 * r))) = some S' := by
              cases hp : f_X7_put n (z + (97 + 6 * r)) (wIC (some q)) (0 : Int32) (mk z C I J t (some (97 + 6 * r))) with
              | none => rw [hp] at e0; cases e0
              | some S' => exact ⟨S', rfl⟩
            rw [hS', cv_some] at e0 ⊢
            cases e0
            exact fin
      · rw [if_neg hk28]
        have := wait_put (n := n) (C := C) (J := J) hr hw (show StC z r N so tk pl I (Sum.inr (i, c)) from h) hl3
        rw [pB_r] at this
        by_cases q28 : (tk i).1 < 28
        · rw [if_pos (show nI (tk i).1 < (28 : Int32) by rw [show (28 : Int32) = nI 28 from rfl, nI_lt' (by omega) (by omega)]; omega)]
          exact this
        · rw [if_neg (show ¬ nI (tk i).1 < (28 : Int32) by rw [show (28 : Int32) = nI 28 from rfl, nI_lt' (by omega) (by omega)]; omega), if_pos (show (31 : Int32) < nI (tk i).1 by rw [show (31 : Int32) = nI 31 from rfl, nI_lt' (by omega) (by omega)]; omega)]
          exact this
theorem rd_SumB (hn : 100000 ≤ n) (hr : r < t) {bot : Nat} {rec : Nat → Int32 → MS → Option MS} {R : Nat → Nat → Cd → PrR} (hrec : RcC n z C t r N so J tk pl rec R bot) (hgd : GdL R 8) : RcC n z C t r N so J tk pl (B_X4_readSum n rec) (fun op i c => pB (R op i c) (fun i1 c1 => pLoop tk (R op) 300 none i1 c1)) bot := by
  intro op I x hbot hop h hl
  obtain ⟨I1, e1, s1, f1⟩ := hrec op I x hbot hop h hl
  obtain ⟨I2, e2, s2, f2⟩ := sum_L (n := n) (C := C) hr hbot hop hrec hgd 300 n 0 none I1 (pB x (R op)) (by omega) (by omega) (Or.inl rfl) s1 (fun i c w => by
    cases x with
    | inl y => cases w
    | inr y =>
      obtain ⟨i0, c0⟩ := y
      rw [pB_r] at w
      have := (hgd _ _ _ _ _ hop w).1
      have := hl i0 c0 rfl
      show c.length + 0 + 1 ≤ i
      omega)
  refine ⟨I2, ?_, ?_, f1.trp f2⟩
  · unfold B_X4_readSum
    simp only [jn]
    rw [e1, cv_some]; exact e2
  · rw [pB_as] at s2
    exact s2
theorem gd_pSum (d : Nat) : GdL (fun op i c => pSum tk so d op i c) 8 := fun op i c i' c' hop e => by
  have := pSum_gd (tk := tk) (so := so) (k := 0) d op 0 i c hop (by omega)
  rw [show pSum tk so d op i c = Sum.inr (i', c') from e] at this
  obtain ⟨g, g1, g2, g3, -, -⟩ := this
  have g1 : c' = c ++ g := g1
  have g3 : g.length + i ≤ i' := g3
  have g2 : i < i' := g2
  rw [g1, List.length_append]; omega
theorem gd_pOne (d : Nat) : GdL (fun op i c => pOne tk so (pSum tk so d) op i c) 8 := fun op i c i' c' hop e => by
  have := pOne_gd (tk := tk) (so := so) (op := op) (n := 0) (k := 0) (rc := pSum tk so d) hop (by omega) (fun q m i c hq hm => pSum_gd d q m i c hq hm) i c
  rw [show pOne tk so (pSum tk so d) op i c = Sum.inr (i', c') from e] at this
  obtain ⟨g, g1, g2, g3, -, -⟩ := this
  have g1 : c' = c ++ g := g1
  have g3 : g.length + i ≤ i' := g3
  have g2 : i < i' := g2
  rw [g1, List.length_append]; omega
/-- sums, as deep as they may be -/
theorem rd_Sum (hn : 100000 ≤ n) (hr : r < t) (hso : so < 4) : ∀ d, RcC n z C t r N so J tk pl (g_X4_readSum n d) (fun op i c => pSum tk so d op i c) (9 - d) := by
  intro d
  induction d with
  | zero => exact fun op I x h1 h2 => by omega
  | succ d ih =>
    have h1 := rd_One (n := n) (z := z) (C := C) (t := t) (r := r) (N := N) (so := so) (J := J) (tk := tk) (pl := pl) (bot := 9 - (d + 1)) hn hr hso (ih.lower (by omega)) (gd_pSum d)
    exact rd_SumB hn hr h1 (gd_pOne d)
/-- the sum of a law -/
theorem rd_sum (hn : 100000 ≤ n) (hr : r < t) (hso : so < 4) {op : Nat} (hop : op ≤ 8) {I : Nat → Nat → Int32} {x : PrR} (h : StC z r N so tk pl I x) (hl : ∀ i c, x = Sum.inr (i, c) → c.length + 1 ≤ i) : LvC z C t r N so J tk pl I (f_X4_readSum n (z + 17) (nI op) (mk z C I J t (some (97 + 6 * r)))) (pB x (fun i c => pSum tk so 12 op i c)) := rd_Sum hn hr hso 12 op I x (by omega) hop h hl
theorem pSum_len {d op i i' : Nat} {c c' : Cd} (hop : op ≤ 8) (e : pSum tk so d op i c = Sum.inr (i', c')) : c'.length + i ≤ c.length + i' ∧ i < i' := gd_pSum (tk := tk) (so := so) d op i c i' c' hop e
/-- the nots before an ask -/
theorem not_L : ∀ (d k op i : Nat) (c : Cd) (I : Nat → Nat → Int32), op + d = 8 → d < k → OkSt z r N so tk pl I i c → ∃ I', (∀ K : Int32 → MS → Option MS, f_X4_readAsk_L2 n (z + 17) K k (nI op) (mk z C I J t (some (97 + 6 * r))) = K (nI (op + cntS tk 14 d i)) (mk z C I' J t (some (97 + 6 * r)))) ∧ OkSt z r N so tk pl I' (i + cntS tk 14 d i) c ∧ FrP z r I I' := by
  intro d
  induction d with
  | zero =>
    intro k op i c I hop hk h
    obtain ⟨k, rfl⟩ : ∃ m, k = m + 1 := ⟨k - 1, by omega⟩
    refine ⟨I, fun K => ?_, h, FrP.rfp z r I⟩
    rw [f_X4_readAsk_L2]
    simp only [jn]
    rw [if_pos (show (8 : Int32) ≤ nI op by rw [show (8 : Int32) = nI 8 from rfl, nI_le' (by omega) (by omega)]; omega)]
    rfl
  | succ d ih =>
    intro k op i c I hop hk h
    obtain ⟨k, rfl⟩ : ∃ m, k = m + 1 := ⟨k - 1, by omega⟩
    obtain ⟨m5, b1⟩ := ok_5 (C := C) (J := J) (t := t) h
    have pre : ∀ K : Int32 → MS → Option MS, f_X4_readAsk_L2 n (z + 17) K (k + 1) (nI op) (mk z C I J t (some (97 + 6 * r))) = (if nI (tk i).1 = (14 : Int32) then cv (f_X4_advance n (z + 17) (mk z C I J t (some (97 + 6 * r)))) fun S85 => f_X4_readAsk_L2 n (z + 17) K k (nI op + (1 : Int32)) S85 else K (nI op) (mk z C I J t (some (97 + 6 * r)))) := by
      intro K
      rw [f_X4_readAsk_L2]
      simp only [jn, bd]
      rw [if_neg (show ¬ (8 : Int32) ≤ nI op by rw [show (8 : Int32) = nI 8 from rfl, nI_le' (by omega) (by omega)]; omega), m5]
    by_cases e : (tk i).1 = 14
    · obtain ⟨-, I1, e1, s1, f1⟩ := st_adv (n := n) (C := C) (J := J) (t := t) h (by omega)
      obtain ⟨I2, e2, s2, f2⟩ := ih k (op + 1) (i + 1) c I1 (by omega) (by omega) s1
      refine ⟨I2, fun K => ?_, ?_, f1.trp f2⟩
      · rw [pre K, if_pos (show nI (tk i).1 = (14 : Int32) by rw [e]; rfl), show nI op + (1 : Int32) = nI (op + 1) from nI_pl op 1, e1, cv_some, e2, cntS, if_pos e, show op + 1 + cntS tk 14 d (i + 1) = op + (cntS tk 14 d (i + 1) + 1) by omega]
      · rw [cntS, if_pos e, show i + (cntS tk 14 d (i + 1) + 1) = i + 1 + cntS tk 14 d (i + 1) by omega]; exact s2
    · refine ⟨I, fun K => ?_, ?_, FrP.rfp z r I⟩
      · rw [pre K, if_neg (show ¬ nI (tk i).1 = (14 : Int32) by rw [show (14 : Int32) = nI 14 from rfl, nI_inj (by omega) (by omega)]; exact e), cntS, if_neg e]; rfl
      · rw [cntS, if_neg e]; exact h
theorem nots_L (hr : r < t) {b : Nat} (hb : b ≤ 9) : ∀ (d k j : Nat) (I : Nat → Nat → Int32) (x : PrR), j + d = b → d < k → StC z r N so tk pl I x → (∀ i c, x = Sum.inr (i, c) → c.length + d ≤ 300) → LvC z C t r N so J tk pl I (f_X4_readAsk_L103 n (z + 17) (nI b) k (nI j) (mk z C I J t (some (97 + 6 * r)))) (pB x (fun i c => Sum.inr (i, c ++ ntC d))) := by
  intro d
  induction d with
  | zero =>
    intro k j I x hj hk h hl
    obtain ⟨k, rfl⟩ : ∃ m, k = m + 1 := ⟨k - 1, by omega⟩
    refine ⟨I, ?_, ?_, FrP.rfp z r I⟩
    · rw [f_X4_readAsk_L103]
      simp only [jn]
      rw [if_pos ((nI_le' (by omega) (by omega)).mpr (by omega))]
    · cases x with
      | inl e => exact h
      | inr y => rw [show pB (Sum.inr y) (fun i c => Sum.inr (i, c ++ ntC 0)) = Sum.inr (y.1, y.2 ++ []) from rfl, List.append_nil]; exact h
  | succ d ih =>
    intro k j I x hj hk h hl
    obtain ⟨k, rfl⟩ : ∃ m, k = m + 1 := ⟨k - 1, by omega⟩
    obtain ⟨I1, e1, s1, f1⟩ := lv_put (n := n) (C := C) (J := J) (o := 20) (v := 0) hr h (fun i c e => by have := hl i c e; omega) (by omega) (by omega)
    obtain ⟨I2, e2, s2, f2⟩ := ih k (j + 1) I1 (pB x (fun i c => Sum.inr (i, c ++ [(20, 0)]))) (by omega) (by omega) s1 (fun i c e => by
      cases x with
      | inl y => cases e
      | inr y =>
        cases e
        have := hl y.1 y.2 rfl
        rw [List.length_append]; show y.2.length + 1 + d ≤ 300; omega)
    refine ⟨I2, ?_, ?_, f1.trp f2⟩
    · rw [f_X4_readAsk_L103]
      simp only [jn, bd]
      rw [if_neg (show ¬ nI b ≤ nI j by rw [nI_le' (by omega) (by omega)]; omega), gU hr, show (14 : Int32) = nI (sg 20) from rfl, show (0 : Int32) = nI 0 from rfl, e1, cv_some, show nI j + (1 : Int32) = nI (j + 1) from nI_pl j 1]
      exact e2
    · rw [pB_as] at s2
      have : (fun (i : Nat) (c : Cd) => pB (Sum.inr (i, c ++ [(20, 0)])) (fun i c => Sum.inr (i, c ++ ntC d))) = fun i c => Sum.inr (i, c ++ ntC (d + 1)) := by
        funext i c
        rw [pB_r, List.append_assoc]
        rfl
      rw [this] at s2
      exact s2
end RS
