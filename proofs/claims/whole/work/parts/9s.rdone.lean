/-! THE CLASS READS ONE, SUM -/
section RO
variable {n z C t r N so : Nat} {J : Nat → Nat → Int64} {tk : Nat → Nat × Nat} {pl : Nat → Nat}
theorem ngC_s (j : Nat) : ngC (j + 1) = ngC j ++ [(2, 0)] := by
  unfold ngC
  rw [List.replicate_succ']
theorem ntC_s (j : Nat) : ntC (j + 1) = ntC j ++ [(20, 0)] := by
  unfold ntC
  rw [List.replicate_succ']
/-- the minus signs are put behind -/
theorem neg_L (hr : r < t) {a b : Nat} (hb : b ≤ 9) : ∀ (d k j : Nat) (I : Nat → Nat → Int32) (x : PrR), j + d = b → d < k → StC z r N so tk pl I x → (∀ i c, x = Sum.inr (i, c) → c.length + d ≤ 300) → LvC z C t r N so J tk pl I (f_X4_readOne_L169 n (z + 17) (nI b) k (nI j) (mk z C I J t (some (97 + 6 * r)))) (pB x (fun i c => Sum.inr (i, c ++ ngC d))) := by
  intro d
  induction d with
  | zero =>
    intro k j I x hj hk h hl
    obtain ⟨k, rfl⟩ : ∃ m, k = m + 1 := ⟨k - 1, by omega⟩
    refine ⟨I, ?_, ?_, FrP.rfp z r I⟩
    · rw [f_X4_readOne_L169]
      simp only [jn]
      rw [if_pos ((nI_le' (by omega) (by omega)).mpr (by omega))]
    · cases x with
      | inl e => exact h
      | inr y => rw [show pB (Sum.inr y) (fun i c => Sum.inr (i, c ++ ngC 0)) = Sum.inr (y.1, y.2 ++ []) from rfl, List.append_nil]; exact h
  | succ d ih =>
    intro k j I x hj hk h hl
    obtain ⟨k, rfl⟩ : ∃ m, k = m + 1 := ⟨k - 1, by omega⟩
    obtain ⟨I1, e1, s1, f1⟩ := lv_put (n := n) (C := C) (J := J) (o := 2) (v := 0) hr h (fun i c e => by have := hl i c e; omega) (by omega) (by omega)
    obtain ⟨I2, e2, s2, f2⟩ := ih k (j + 1) I1 (pB x (fun i c => Sum.inr (i, c ++ [(2, 0)]))) (by omega) (by omega) s1 (fun i c e => by
      cases x with
      | inl y => cases e
      | inr y =>
        cases e
        have := hl y.1 y.2 rfl
        rw [List.length_append]; show y.2.length + 1 + d ≤ 300; omega)
    refine ⟨I2, ?_, ?_, f1.trp f2⟩
    · rw [f_X4_readOne_L169]
      simp only [jn, bd]
      rw [if_neg (show ¬ nI b ≤ nI j by rw [nI_le' (by omega) (by omega)]; omega), gU hr, show (42 : Int32) = nI (sg 2) from rfl, show (0 : Int32) = nI 0 from rfl, e1, cv_some, show nI j + (1 : Int32) = nI (j + 1) from nI_pl j 1]
      exact e2
    · rw [pB_as] at s2
      have : (fun (i : Nat) (c : Cd) => pB (Sum.inr (i, c ++ [(2, 0)])) (fun i c => Sum.inr (i, c ++ ngC d))) = fun i c => Sum.inr (i, c ++ ngC (d + 1)) := by
        funext i c
        rw [pB_r, List.append_assoc]
        rfl
      rw [this] at s2
      exact s2
/-- the minus signs before it -/
theorem min_L (a : Int32) : ∀ (d k op i : Nat) (c : Cd) (I : Nat → Nat → Int32), op + d = 8 → d < k → OkSt z r N so tk pl I i c → ∃ I', (∀ K : Int32 → MS → Option MS, f_X4_readOne_L2 n (z + 17) a K k (nI op) (mk z C I J t (some (97 + 6 * r))) = K (nI (op + cntS tk 29 d i)) (mk z C I' J t (some (97 + 6 * r)))) ∧ OkSt z r N so tk pl I' (i + cntS tk 29 d i) c ∧ FrP z r I I' := by
  intro d
  induction d with
  | zero =>
    intro k op i c I hop hk h
    obtain ⟨k, rfl⟩ : ∃ m, k = m + 1 := ⟨k - 1, by omega⟩
    refine ⟨I, fun K => ?_, h, FrP.rfp z r I⟩
    rw [f_X4_readOne_L2]
    simp only [jn]
    rw [if_pos (show (8 : Int32) ≤ nI op by rw [show (8 : Int32) = nI 8 from rfl, nI_le' (by omega) (by omega)]; omega)]
    rfl
  | succ d ih =>
    intro k op i c I hop hk h
    obtain ⟨k, rfl⟩ : ∃ m, k = m + 1 := ⟨k - 1, by omega⟩
    have m5 : mI (mk z C I J t (some (97 + 6 * r))) (z + 17) 5 = nI (tk i).1 := h.2.2.2.2.2.2.2.1
    have b1 := (h.1.2.2.2 i h.2.2.1).1
    have pre : ∀ K : Int32 → MS → Option MS, f_X4_readOne_L2 n (z + 17) a K (k + 1) (nI op) (mk z C I J t (some (97 + 6 * r))) = (if nI (tk i).1 = (29 : Int32) then cv (f_X4_advance n (z + 17) (mk z C I J t (some (97 + 6 * r)))) fun S85 => f_X4_readOne_L2 n (z + 17) a K k (nI op + (1 : Int32)) S85 else K (nI op) (mk z C I J t (some (97 + 6 * r)))) := by
      intro K
      rw [f_X4_readOne_L2]
      simp only [jn, bd]
      rw [if_neg (show ¬ (8 : Int32) ≤ nI op by rw [show (8 : Int32) = nI 8 from rfl, nI_le' (by omega) (by omega)]; omega), m5]
    by_cases e : (tk i).1 = 29
    · obtain ⟨-, I1, e1, s1, f1⟩ := st_adv (n := n) (C := C) (J := J) (t := t) h (by omega)
      obtain ⟨I2, e2, s2, f2⟩ := ih k (op + 1) (i + 1) c I1 (by omega) (by omega) s1
      refine ⟨I2, fun K => ?_, ?_, f1.trp f2⟩
      · rw [pre K, if_pos (show nI (tk i).1 = (29 : Int32) by rw [e]; rfl), show nI op + (1 : Int32) = nI (op + 1) from nI_pl op 1, e1, cv_some, e2, cntS, if_pos e, show op + 1 + cntS tk 29 d (i + 1) = op + (cntS tk 29 d (i + 1) + 1) by omega]
      · rw [cntS, if_pos e, show i + (cntS tk 29 d (i + 1) + 1) = i + 1 + cntS tk 29 d (i + 1) by omega]; exact s2
    · refine ⟨I, fun K => ?_, ?_, FrP.rfp z r I⟩
      · rw [pre K, if_neg (show ¬ nI (tk i).1 = (29 : Int32) by rw [show (29 : Int32) = nI 29 from rfl, nI_inj (by omega) (by omega)]; exact e), cntS, if_neg e]; rfl
      · rw [cntS, if_neg e]; exact h
/-- what a nested sum reads -/
def RcC (n z C t r N so : Nat) (J : Nat → Nat → Int64) (tk : Nat → Nat × Nat) (pl : Nat → Nat) (rec : Nat → Int32 → MS → Option MS) (R : Nat → Nat → Cd → PrR) (bot : Nat) : Prop := ∀ (op : Nat) (I : Nat → Nat → Int32) (x : PrR), bot ≤ op → op ≤ 8 → StC z r N so tk pl I x → (∀ i c, x = Sum.inr (i, c) → c.length + 1 ≤ i) → LvC z C t r N so J tk pl I (rec (z + 17) (nI op) (mk z C I J t (some (97 + 6 * r)))) (pB x (R op))
theorem RcC.lower {rec : Nat → Int32 → MS → Option MS} {R : Nat → Nat → Cd → PrR} {b b' : Nat} (hb : b ≤ b') (h : RcC n z C t r N so J tk pl rec R b) : RcC n z C t r N so J tk pl rec R b' := fun op I x h1 h2 => h op I x (by omega) h2
/-- it reads on: its code is no longer than the tokens that it took -/
def GdL (R : Nat → Nat → Cd → PrR) (top : Nat) : Prop := ∀ op i c i' c', op ≤ top → R op i c = Sum.inr (i', c') → c'.length + i ≤ c.length + i' ∧ i < i'
theorem ok_lt {I : Nat → Nat → Int32} {i : Nat} {c : Cd} (h : OkSt z r N so tk pl I i c) : i ≤ 300 := Nat.le_trans h.2.2.1 h.1.1
theorem st_name {I : Nat → Nat → Int32} {i : Nat} {c : Cd} (hr : r < t) (hso : so < 4) (h : OkSt z r N so tk pl I i c) (hk : (tk i).1 < 12) (hl : c.length < 300) : LvC z C t r N so J tk pl I (f_X4_readName n (z + 17) (mk z C I J t (some (97 + 6 * r)))) (if isOfN so (tk i).1 = true then Sum.inr (i + 1, c ++ [(1, (tk i).1)]) else Sum.inl (5, i)) := by
  have m5 : mI (mk z C I J t (some (97 + 6 * r))) (z + 17) 5 = nI (tk i).1 := h.2.2.2.2.2.2.2.1
  have m6 : mI (mk z C I J t (some (97 + 6 * r))) (z + 17) 6 = nI (nmK so) := h.2.1
  have hb := nmK_b so hso (tk i).1 hk
  unfold f_X4_readName
  rw [m5, m6]
  by_cases e : isOfN so (tk i).1 = true
  · obtain ⟨I1, e1, s1, f1⟩ := st_put (n := n) (C := C) (J := J) (o := 1) (v := (tk i).1) hr h hl (by omega) (by omega)
    obtain ⟨-, I2, e2, s2, f2⟩ := st_adv (n := n) (C := C) (J := J) (t := t) s1 (by omega)
    refine ⟨I2, ?_, ?_, f1.trp f2⟩
    · rw [if_neg (fun w => by rw [hb.mp w] at e; cases e), gU hr, show (41 : Int32) = nI (sg 1) from rfl, e1, cv_some, e2, cv_some]
    · rw [if_pos e]; exact s2
  · obtain ⟨I1, e1, s1, f1⟩ := st_com (n := n) (C := C) (J := J) (t := t) (f := 5) h (by omega) (by omega)
    refine ⟨I1, ?_, ?_, f1⟩
    · rw [if_pos (hb.mpr (by cases w : isOfN so (tk i).1 with | false => rfl | true => exact absurd w e)), show (5 : Int32) = nI 5 from rfl, e1, cv_some]
    · rw [if_neg e]; exact s1
theorem st_open {I : Nat → Nat → Int32} {i op : Nat} {c : Cd} (hop : op ≤ 8) (h : OkSt z r N so tk pl I i c) : ∃ I', FrP z r I I' ∧ (((tk i).1 ≠ 32 ∧ f_X4_isOpened n (z + 17) (nI op) (mk z C I J t (some (97 + 6 * r))) = some (0, mk z C I' J t (some (97 + 6 * r))) ∧ FaS z r N tk pl I' 1 i) ∨ ((tk i).1 = 32 ∧ 8 ≤ op ∧ f_X4_isOpened n (z + 17) (nI op) (mk z C I J t (some (97 + 6 * r))) = some (0, mk z C I' J t (some (97 + 6 * r))) ∧ FaS z r N tk pl I' 3 i) ∨ ((tk i).1 = 32 ∧ op < 8 ∧ f_X4_isOpened n (z + 17) (nI op) (mk z C I J t (some (97 + 6 * r))) = some (1, mk z C I' J t (some (97 + 6 * r))) ∧ OkSt z r N so tk pl I' (i + 1) c)) := by
  have m5 : mI (mk z C I J t (some (97 + 6 * r))) (z + 17) 5 = nI (tk i).1 := h.2.2.2.2.2.2.2.1
  have b1 := (h.1.2.2.2 i h.2.2.1).1
  have hz : ∀ (I' : Nat → Nat → Int32) (f : Nat), FaS z r N tk pl I' f i → ¬ mI (mk z C I' J t (some (97 + 6 * r))) (z + 17) 0 = 0 := fun I' f w => by
    rw [mI_mk, w.2.2.2.2.1, show (0 : Int32) = nI 0 from rfl, nI_inj (by have := w.2.2.1; omega) (by omega)]
    have := w.2.1; omega
  unfold f_X4_isOpened
  simp only [jn]
  rw [m5]
  by_cases e : (tk i).1 = 32
  · have e' : nI (tk i).1 = (32 : Int32) := by rw [e]; rfl
    by_cases q : 8 ≤ op
    · obtain ⟨I1, e1, s1, f1⟩ := st_com (n := n) (C := C) (J := J) (t := t) (f := 3) h (by omega) (by omega)
      refine ⟨I1, f1, Or.inr (Or.inl ⟨e, q, ?_, s1⟩)⟩
      rw [if_pos e', if_neg (show ¬ nI op < (8 : Int32) by rw [show (8 : Int32) = nI 8 from rfl, nI_lt' (by omega) (by omega)]; omega), show (3 : Int32) = nI 3 from rfl, e1, cv_some, if_neg (hz I1 3 s1), zb_0]
    · obtain ⟨-, I1, e1, s1, f1⟩ := st_adv (n := n) (C := C) (J := J) (t := t) h (by omega)
      refine ⟨I1, f1, Or.inr (Or.inr ⟨e, by omega, ?_, s1⟩)⟩
      rw [if_pos e', if_pos (show nI op < (8 : Int32) by rw [show (8 : Int32) = nI 8 from rfl, nI_lt' (by omega) (by omega)]; omega), e1, cv_some, if_pos (show mI (mk z C I1 J t (some (97 + 6 * r))) (z + 17) 0 = 0 from s1.2.2.2.2.1), zb_1]
  · obtain ⟨I1, e1, s1, f1⟩ := st_com (n := n) (C := C) (J := J) (t := t) (f := 1) h (by omega) (by omega)
    refine ⟨I1, f1, Or.inl ⟨e, ?_, s1⟩⟩
    rw [if_neg (show ¬ nI (tk i).1 = (32 : Int32) by rw [show (32 : Int32) = nI 32 from rfl, nI_inj (by omega) (by omega)]; exact e), show (1 : Int32) = nI 1 from rfl, e1, cv_some, if_neg (hz I1 1 s1), zb_0]
theorem rd_One (hn : 100000 ≤ n) (hr : r < t) (hso : so < 4) {bot : Nat} {rec : Nat → Int32 → MS → Option MS} {R : Nat → Nat → Cd → PrR} (hrec : RcC n z C t r N so J tk pl rec R (bot + 1)) (hgd : GdL R 8) : RcC n z C t r N so J tk pl (B_X4_readOne n rec) (fun op i c => pOne tk so R op i c) bot := by
  intro op I x hbot hop h hl
  unfold B_X4_readOne
  cases x with
  | inl e =>
    have m5 : mI (mk z C I J t (some (97 + 6 * r))) (z + 17) 5 = 39 := h.2.2.2.2.2.2.1
    refine ⟨I, ?_, h, FrP.rfp z r I⟩
    have hL : ∀ K : Int32 → MS → Option MS, f_X4_readOne_L2 n (z + 17) (nI op) K n (nI op) (mk z C I J t (some (97 + 6 * r))) = K (nI op) (mk z C I J t (some (97 + 6 * r))) := by
      intro K
      obtain ⟨k, hk⟩ : ∃ k, n = k + 1 := ⟨n - 1, by omega⟩
      rw [show f_X4_readOne_L2 n (z + 17) (nI op) K n = f_X4_readOne_L2 n (z + 17) (nI op) K (k + 1) by rw [← hk], f_X4_readOne_L2]
      simp only [jn]
      rw [m5, if_neg (show ¬ (39 : Int32) = 29 by decide), ite_self]
    have hL2 : f_X4_readOne_L169 n (z + 17) (nI op) n (nI op) (mk z C I J t (some (97 + 6 * r))) = some (mk z C I J t (some (97 + 6 * r))) := by
      obtain ⟨k, hk⟩ : ∃ k, n = k + 1 := ⟨n - 1, by omega⟩
      rw [show f_X4_readOne_L169 n (z + 17) (nI op) n = f_X4_readOne_L169 n (z + 17) (nI op) (k + 1) by rw [← hk], f_X4_readOne_L169]
      simp only [jn]
      rw [if_pos ((nI_le' (by omega) (by omega)).mpr (Nat.le_refl _))]
    simp only [jn, bd]
    rw [hL, m5, if_neg (by decide), if_pos (by decide), if_neg (by decide), if_neg (by decide), if_neg (by decide), if_neg (by decide), fa_com h, cv_some, hL2]
  | inr y =>
    obtain ⟨i, c⟩ := y
    have h : OkSt z r N so tk pl I i c := h
    have hci : c.length + 1 ≤ i := hl i c rfl
    rw [pB_r]
    show LvC z C t r N so J tk pl I _ (pOne tk so R op i c)
    obtain ⟨I1, e1, s1, f1⟩ := min_L (n := n) (C := C) (J := J) (t := t) (nI op) (8 - op) n op i c I (by omega) (by omega) h
    have hj := cntS_le (tk := tk) (s := 29) (8 - op) i
    unfold pOne
    generalize cntS tk 29 (8 - op) i = j at *
    have hi3 := ok_lt s1
    have m5 : mI (mk z C I1 J t (some (97 + 6 * r))) (z + 17) 5 = nI (tk (i + j)).1 := s1.2.2.2.2.2.2.2.1
    have b1 := (s1.1.2.2.2 (i + j) s1.2.2.1).1
    have hkne : ∀ w, w < 1000 → (tk (i + j)).1 ≠ w → ¬ nI (tk (i + j)).1 = nI w := fun w hw e => by rw [nI_inj (by omega) (by omega)]; exact e
    simp only [jn, bd]
    rw [e1, m5]
    -- behind it: the minus signs
    have fin : ∀ (x : PrR) (I2 : Nat → Nat → Int32), StC z r N so tk pl I2 x → (∀ i' c', x = Sum.inr (i', c') → c'.length + j ≤ 300) → FrP z r I I2 → LvC z C t r N so J tk pl I (f_X4_readOne_L169 n (z + 17) (nI (op + j)) n (nI op) (mk z C I2 J t (some (97 + 6 * r)))) (pB x (fun i c => Sum.inr (i, c ++ ngC j))) := by
      intro x I2 hs hl2 hf
      obtain ⟨I3, e3, s3, f3⟩ := neg_L (n := n) (C := C) (J := J) (a := 0) hr (show op + j ≤ 9 by omega) j n op I2 x (by omega) (by omega) hs hl2
      exact ⟨I3, e3, s3, hf.trp f3⟩
    have cat : ∀ (d e : Cd), c ++ d ++ e = c ++ (d ++ e) := fun d e => List.append_assoc _ _ _
    unfold pOneJ
    by_cases k38 : (tk (i + j)).1 = 38
    · obtain ⟨v, I2, e2, s2, f2, hv⟩ := lv_num (n := n) (C := C) (J := J) (lo := 0) (hi := 9999) (by omega) (by omega) (show StC z r N so tk pl I1 (Sum.inr (i + j, c)) from s1)
      have hv := hv _ _ rfl
      rw [pB_r, if_pos k38] at s2
      have e2' : f_X4_readNumber n (z + 17) (0 : Int32) (9999 : Int32) (mk z C I1 J t (some (97 + 6 * r))) = some (v, mk z C I2 J t (some (97 + 6 * r))) := e2
      rw [if_pos (show nI (tk (i + j)).1 = (38 : Int32) by rw [k38]; rfl), gU hr, e2', cl_some, if_pos k38, hv]
      have b2 := (s1.1.2.2.2 (i + j) s1.2.2.1).2.1
      by_cases hq : 9999 < (tk (i + j)).2
      · rw [if_neg (by omega)] at s2
        obtain ⟨I3, e3, s3, f3⟩ := fa_put (n := n) (C := C) (J := J) hr s2 (38 : Int32) (nI (tk (i + j)).2)
        rw [e3, cv_some, if_pos hq]
        exact fin (Sum.inl (2, i + j)) I3 s3 (fun _ _ w => by cases w) ((f1.trp f2).trp f3)
      · rw [if_pos (by omega)] at s2
        obtain ⟨I3, e3, s3, f3⟩ := st_put (n := n) (C := C) (J := J) (o := 0) (v := (tk (i + j)).2) hr (show OkSt z r N so tk pl I2 (i + j + 1) c from s2) (by omega) (by omega) b2
        have e3' : f_X7_put n (z + (97 + 6 * r)) (38 : Int32) (nI (tk (i + j)).2) (mk z C I2 J t (some (97 + 6 * r))) = some (mk z C I3 J t (some (97 + 6 * r))) := e3
        rw [e3', cv_some, if_neg hq]
        have := fin (Sum.inr (i + j + 1, c ++ [(0, (tk (i + j)).2)])) I3 s3 (fun _ _ w => by cases w; rw [List.length_append]; show c.length + 1 + j ≤ 300; omega) ((f1.trp f2).trp f3)
        rw [pB_r, cat] at this
        exact this
    rw [if_neg (show ¬ nI (tk (i + j)).1 = (38 : Int32) from hkne 38 (by omega) k38), if_neg k38]
    by_cases k12 : (tk (i + j)).1 < 12
    · obtain ⟨I2, e2, s2, f2⟩ := st_name (n := n) (C := C) (J := J) hr hso s1 k12 (by omega)
      rw [if_neg (show ¬ (12 : Int32) ≤ nI (tk (i + j)).1 by rw [show (12 : Int32) = nI 12 from rfl, nI_le' (by omega) (by omega)]; omega), e2, cv_some, if_pos k12]
      by_cases q : isOfN so (tk (i + j)).1 = true
      · rw [if_pos q] at s2
        rw [if_pos q]
        have := fin (Sum.inr (i + j + 1, c ++ [(1, (tk (i + j)).1)])) I2 s2 (fun _ _ w => by cases w; rw [List.length_append]; show c.length + 1 + j ≤ 300; omega) (f1.trp f2)
        rw [pB_r, cat] at this
        exact this
      · rw [if_neg q] at s2
        rw [if_neg q]
        exact fin (Sum.inl (5, i + j)) I2 s2 (fun _ _ w => by cases w) (f1.trp f2)
    rw [if_pos (show (12 : Int32) ≤ nI (tk (i + j)).1 by rw [show (12 : Int32) = nI 12 from rfl, nI_le' (by omega) (by omega)]; omega), if_neg k12]
    have eop : nI (op + j) + (1 : Int32) = nI (op + j + 1) := nI_pl _ 1
    by_cases k32 : (tk (i + j)).1 = 32
    · have y32 : nI (tk (i + j)).1 = (32 : Int32) := by rw [k32]; rfl
      rw [if_pos y32, if_pos y32, if_pos k32]
      obtain ⟨I2, f2, ho⟩ := st_open (n := n) (C := C) (J := J) (t := t) (op := op + j) (by omega) s1
      rcases ho with ⟨w, -, -⟩ | ⟨-, q, e2, s2⟩ | ⟨-, q, e2, s2⟩
      · exact absurd k32 w
      · rw [e2, cl_some, if_pos rfl, if_pos q]
        exact fin (Sum.inl (3, i + j)) I2 s2 (fun _ _ w => by cases w) (f1.trp f2)
      · obtain ⟨I3, e3, s3, f3⟩ := hrec (op + j + 1) I2 (Sum.inr (i + j + 1, c)) (by omega) (by omega) s2 (fun _ _ w => by cases w; omega)
        obtain ⟨I4, e4, s4, f4⟩ := lv_exp (n := n) (C := C) (J := J) (t := t) (w := 33) (by omega) s3
        have e4' : f_X4_expect n (z + 17) (33 : Int32) (mk z C I3 J t (some (97 + 6 * r))) = some (mk z C I4 J t (some (97 + 6 * r))) := e4
        rw [e2, cl_some, if_neg (by decide), eop, e3, cv_some, if_pos y32, e4', cv_some, if_neg (by omega)]
        rw [pB_r] at s4
        have := fin _ I4 s4 (fun i' c' w => by
          cases hR : R (op + j + 1) (i + j + 1) c with
          | inl y => rw [hR] at w; cases w
          | inr y =>
            obtain ⟨i2, c2⟩ := y
            rw [hR, pB_r] at w
            by_cases q33 : (tk i2).1 = 33
            · rw [if_pos q33] at w
              cases w
              have := hgd _ _ _ _ _ (by omega) hR
              rw [hR, pB_r, if_pos q33] at s4
              have := ok_lt (show OkSt z r N so tk pl I4 (i2 + 1) _ from s4)
              omega
            · rw [if_neg q33] at w; cases w) (((f1.trp f2).trp f3).trp f4)
        rw [pB_as] at this
        have hfun : (fun (i2 : Nat) (c2 : Cd) => pB (if (tk i2).1 = 33 then Sum.inr (i2 + 1, c2) else Sum.inl (1, i2)) (fun i c => Sum.inr (i, c ++ ngC j))) = fun i2 c2 => if (tk i2).1 = 33 then Sum.inr (i2 + 1, c2 ++ ngC j) else Sum.inl (1, i2) := by
          funext i2 c2
          by_cases q33 : (tk i2).1 = 33
          · rw [if_pos q33, if_pos q33]; rfl
          · rw [if_neg q33, if_neg q33]; rfl
        rw [hfun] at this
        exact this
    rw [if_neg (show ¬ nI (tk (i + j)).1 = (32 : Int32) from hkne 32 (by omega) k32), if_neg k32]
    by_cases kmm : (tk (i + j)).1 = 12 ∨ (tk (i + j)).1 = 13
    · rw [if_pos kmm]
      have n32 : ¬ nI (tk (i + j)).1 = (32 : Int32) := hkne 32 (by omega) k32
      obtain ⟨-, I2, e2, s2, f2⟩ := st_adv (n := n) (C := C) (J := J) (t := t) s1 (by omega)
      have hi4 := ok_lt s2
      -- min and max alike
      have main : LvC z C t r N so J tk pl I (cv (f_X4_advance n (z + 17) (mk z C I1 J t (some (97 + 6 * r)))) fun S51 => cl (f_X4_isOpened n (z + 17) (nI (op + j)) S51) fun x29 S26 => (if x29 = 0 then f_X4_readOne_L169 n (z + 17) (nI (op + j)) n (nI op) S26 else cv (rec (z + 17) (nI (op + j) + (1 : Int32)) S26) fun S30 => (if nI (tk (i + j)).1 = (32 : Int32) then cv (f_X4_expect n (z + 17) (33 : Int32) S30) fun S36 => f_X4_readOne_L169 n (z + 17) (nI (op + j)) n (nI op) S36 else cv (f_X4_expect n (z + 17) (34 : Int32) S30) fun S39 => cv (rec (z + 17) (nI (op + j) + (1 : Int32)) S39) fun S42 => gR S42 (mR S42 (z + 17) 3) 7 fun q45 => cv (f_X7_put n q45 (nI (tk (i + j)).1) (0 : Int32) S42) fun S47 => cv (f_X4_expect n (z + 17) (33 : Int32) S47) fun S36 => f_X4_readOne_L169 n (z + 17) (nI (op + j)) n (nI op) S36))) (if (tk (i + j + 1)).1 = 32 then (if 8 ≤ op + j then Sum.inl (3, i + j + 1) else pB (R (op + j + 1) (i + j + 2) c) (fun i2 c2 => if (tk i2).1 = 34 then pB (R (op + j + 1) (i2 + 1) c2) (fun i3 c3 => if (tk i3).1 = 33 then Sum.inr (i3 + 1, c3 ++ ((tk (i + j)).1 - 5, 0) :: ngC j) else Sum.inl (1, i3)) else Sum.inl (1, i2))) else Sum.inl (1, i + j + 1)) := by
        obtain ⟨I3, f3, ho⟩ := st_open (n := n) (C := C) (J := J) (t := t) (op := op + j) (by omega) s2
        rw [e2, cv_some]
        rcases ho with ⟨w, e3, s3⟩ | ⟨w, q, e3, s3⟩ | ⟨w, q, e3, s3⟩
        · rw [e3, cl_some, if_pos rfl, if_neg w]
          exact fin (Sum.inl (1, i + j + 1)) I3 s3 (fun _ _ w => by cases w) ((f1.trp f2).trp f3)
        · rw [e3, cl_some, if_pos rfl, if_pos w, if_pos q]
          exact fin (Sum.inl (3, i + j + 1)) I3 s3 (fun _ _ w => by cases w) ((f1.trp f2).trp f3)
        · obtain ⟨I4, e4, s4, f4⟩ := hrec (op + j + 1) I3 (Sum.inr (i + j + 2, c)) (by omega) (by omega) s3 (fun _ _ w => by cases w; omega)
          obtain ⟨I5, e5, s5, f5⟩ := lv_exp (n := n) (C := C) (J := J) (t := t) (w := 34) (by omega) s4
          have e5' : f_X4_expect n (z + 17) (34 : Int32) (mk z C I4 J t (some (97 + 6 * r))) = some (mk z C I5 J t (some (97 + 6 * r))) := e5
          rw [pB_r] at s5
          -- what stands before the second sum
          obtain ⟨x5, hx5⟩ : ∃ x5 : PrR, x5 = pB (R (op + j + 1) (i + j + 2) c) (fun i2 c2 => if (tk i2).1 = 34 then Sum.inr (i2 + 1, c2) else Sum.inl (1, i2)) := ⟨_, rfl⟩
          rw [← hx5] at s5
          have hl5 : ∀ i' c', x5 = Sum.inr (i', c') → c'.length + i + j + 3 ≤ c.length + i' ∧ i' ≤ 300 := fun i' c' w => by
            rw [w] at s5
            have h300 := ok_lt (show OkSt z r N so tk pl I5 i' c' from s5)
            rw [hx5] at w
            cases hR : R (op + j + 1) (i + j + 2) c with
            | inl y => rw [hR] at w; cases w
            | inr y =>
              obtain ⟨i2, c2⟩ := y
              rw [hR, pB_r] at w
              have hg := hgd _ _ _ _ _ (by omega) hR
              by_cases q34 : (tk i2).1 = 34
              · rw [if_pos q34] at w
                cases w
                exact ⟨by omega, h300⟩
              · rw [if_neg q34] at w; cases w
          obtain ⟨I6, e6, s6, f6⟩ := hrec (op + j + 1) I5 x5 (by omega) (by omega) s5 (fun i' c' w => by have := hl5 i' c' w; omega)
          obtain ⟨x6, hx6⟩ : ∃ x6 : PrR, x6 = pB x5 (R (op + j + 1)) := ⟨_, rfl⟩
          rw [← hx6] at s6
          have hl6 : ∀ i' c', x6 = Sum.inr (i', c') → c'.length + i + j + 3 ≤ c.length + i' ∧ i' ≤ 300 := fun i' c' w => by
            rw [w] at s6
            have h300 := ok_lt (show OkSt z r N so tk pl I6 i' c' from s6)
            rw [hx6] at w
            cases hy : x5 with
            | inl y => rw [hy] at w; cases w
            | inr y =>
              obtain ⟨i2, c2⟩ := y
              rw [hy, pB_r] at w
              have hg := hgd _ _ _ _ _ (by omega) w
              have := hl5 i2 c2 hy
              exact ⟨by omega, h300⟩
          obtain ⟨I7, e7, s7, f7⟩ := lv_put (n := n) (C := C) (J := J) (o := (tk (i + j)).1 - 5) (v := 0) hr s6 (fun i' c' w => by have := hl6 i' c' w; omega) (by omega) (by omega)
          have e7' : f_X7_put n (z + (97 + 6 * r)) (nI (tk (i + j)).1) (0 : Int32) (mk z C I6 J t (some (97 + 6 * r))) = some (mk z C I7 J t (some (97 + 6 * r))) := by
            have hsg : nI (sg ((tk (i + j)).1 - 5)) = nI (tk (i + j)).1 := by
              rcases kmm with w | w
              · rw [w]; rfl
              · rw [w]; rfl
            rw [hsg] at e7
            exact e7
          obtain ⟨I8, e8, s8, f8⟩ := lv_exp (n := n) (C := C) (J := J) (t := t) (w := 33) (by omega) s7
          have e8' : f_X4_expect n (z + 17) (33 : Int32) (mk z C I7 J t (some (97 + 6 * r))) = some (mk z C I8 J t (some (97 + 6 * r))) := e8
          rw [e3, cl_some, if_neg (by decide), eop, e4, cv_some, if_neg n32, e5', cv_some, e6, cv_some, gU hr, e7', cv_some, e8', cv_some, if_pos w, if_neg (by omega)]
          have := fin _ I8 s8 (fun i' c' w => by
            cases hy : x6 with
            | inl y => rw [hy] at w; cases w
            | inr y =>
              obtain ⟨i2, c2⟩ := y
              rw [hy, pB_r, pB_r] at w
              have hg := hl6 i2 c2 hy
              by_cases q33 : (tk i2).1 = 33
              · rw [if_pos q33] at w
                cases w
                rw [hy, pB_r, pB_r, if_pos q33] at s8
                have := ok_lt (show OkSt z r N so tk pl I8 (i2 + 1) _ from s8)
                rw [List.length_append]
                show c2.length + 1 + j ≤ 300
                omega
              · rw [if_neg q33] at w; cases w) (((((((f1.trp f2).trp f3).trp f4).trp f5).trp f6).trp f7).trp f8)
          have hfin : pB (pB (pB x6 (fun i' c' => Sum.inr (i', c' ++ [((tk (i + j)).1 - 5, 0)]))) (fun i c => if (tk i).1 = 33 then Sum.inr (i + 1, c) else Sum.inl (1, i))) (fun i c => Sum.inr (i, c ++ ngC j)) = pB (R (op + j + 1) (i + j + 2) c) (fun i2 c2 => if (tk i2).1 = 34 then pB (R (op + j + 1) (i2 + 1) c2) (fun i3 c3 => if (tk i3).1 = 33 then Sum.inr (i3 + 1, c3 ++ ((tk (i + j)).1 - 5, 0) :: ngC j) else Sum.inl (1, i3)) else Sum.inl (1, i2)) := by
            rw [hx6, hx5]
            cases hR : R (op + j + 1) (i + j + 2) c with
            | inl y => rfl
            | inr y =>
              obtain ⟨i2, c2⟩ := y
              rw [pB_r, pB_r]
              by_cases q34 : (tk i2).1 = 34
              · rw [if_pos q34, if_pos q34, pB_r]
                cases hR2 : R (op + j + 1) (i2 + 1) c2 with
                | inl y => rfl
                | inr y =>
                  obtain ⟨i3, c3⟩ := y
                  rw [pB_r, pB_r, pB_r]
                  by_cases q33 : (tk i3).1 = 33
                  · rw [if_pos q33, if_pos q33, pB_r, List.append_assoc]; rfl
                  · rw [if_neg q33, if_neg q33]; rfl
              · rw [if_neg q34, if_neg q34]; rfl
          rw [hfin] at this
          exact this
      by_cases k1 : (tk (i + j)).1 = 12
      · rw [if_pos (show nI (tk (i + j)).1 = (12 : Int32) by rw [k1]; rfl), if_neg n32]
        exact main
      · rw [if_neg (show ¬ nI (tk (i + j)).1 = (12 : Int32) from hkne 12 (by omega) k1), if_pos (show nI (tk (i + j)).1 = (13 : Int32) by rw [kmm.resolve_left k1]; rfl), if_neg n32]
        exact main
    rw [if_neg (show ¬ nI (tk (i + j)).1 = (12 : Int32) from hkne 12 (by omega) (fun w => kmm (Or.inl w))), if_neg (show ¬ nI (tk (i + j)).1 = (13 : Int32) from hkne 13 (by omega) (fun w => kmm (Or.inr w))), if_neg kmm]
    by_cases k29 : (tk (i + j)).1 = 29
    · obtain ⟨I2, e2, s2, f2⟩ := st_com (n := n) (C := C) (J := J) (t := t) (f := 3) s1 (by omega) (by omega)
      have e2' : f_X4_complain n (z + 17) (3 : Int32) (mk z C I1 J t (some (97 + 6 * r))) = some (mk z C I2 J t (some (97 + 6 * r))) := e2
      rw [if_pos (show nI (tk (i + j)).1 = (29 : Int32) by rw [k29]; rfl), e2', cv_some, if_pos k29]
      exact fin (Sum.inl (3, i + j)) I2 s2 (fun _ _ w => by cases w) (f1.trp f2)
    · obtain ⟨I2, e2, s2, f2⟩ := st_com (n := n) (C := C) (J := J) (t := t) (f := 1) s1 (by omega) (by omega)
      have e2' : f_X4_complain n (z + 17) (1 : Int32) (mk z C I1 J t (some (97 + 6 * r))) = some (mk z C I2 J t (some (97 + 6 * r))) := e2
      rw [if_neg (show ¬ nI (tk (i + j)).1 = (29 : Int32) from hkne 29 (by omega) k29), e2', cv_some, if_neg k29]
      exact fin (Sum.inl (1, i + j)) I2 s2 (fun _ _ w => by cases w) (f1.trp f2)
end RO
