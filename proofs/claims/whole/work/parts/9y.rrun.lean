/-! THE REFERENCE'S READER: its runs -/
def KpR (n z : Nat) (a1 : Int32) : MS → Option (Int32 × MS) := fun S8 => cl (f_X11_marker n (z + 83) S8) fun x12 S9 => (if 0 ≤ x12 then some ((1 : Int32), S9) else (if a1 = 0 then cv (f_X11_settle n (z + 83) (1 : Int32) S9) fun S13 => some ((0 : Int32), S13) else cl (f_X11_isCompared n (z + 83) S9) fun x19 S16 => (if x19 = 0 then some ((1 : Int32), S16) else cv (f_X11_settle n (z + 83) (1 : Int32) S16) fun S20 => some ((0 : Int32), S20))))
def LLr (n z : Nat) (a1 : Int32) (F : Nat) (x : Int32) (S : MS) : Option (Int32 × MS) := f_X11_parsed_L12 n (z + 83) a1 (KpR n z a1) F x S
theorem tkO_c : ∀ a, a < 16 → ∀ b, b < 16 → (nI (tkO (24 + a)) = nI (tkO (24 + b)) ↔ a = b) := by decide +kernel
theorem tkO_n : ∀ b, b < 16 → nI 2 ≠ nI (tkO (24 + b)) ∧ nI 3 ≠ nI (tkO (24 + b)) := by decide +kernel
section RU
variable {n z C t r so : Nat} {u : Option Nat} {I : Nat → Nat → Int32} {J : Nat → Nat → Int64} {tk : Nat → Nat × Nat} {Tq : TQ} {a1 : Int32} {i op : Nat} {c : Cd} {p : List Nat} {w : Bool}
theorem q_tok (hT : TokOK n z C t u tk Tq) (h : Tq I J i) {s : Nat} (h1 : 24 ≤ s) (h2 : s ≤ 39) : mI (mk z C I J t u) (z + 83) 12 = nI (tkO s) ↔ (tk i).1 = s := by
  obtain ⟨t0, t1, t2, t3, t4⟩ := hT.2.2.1 I J i h
  obtain ⟨b, rfl⟩ : ∃ b, s = 24 + b := ⟨s - 24, by omega⟩
  rw [mI_mk]
  by_cases q24 : (tk i).1 < 24
  · rw [t4 q24]; exact ⟨fun w => absurd w (tkO_n b (by omega)).1, fun w => by omega⟩
  · by_cases q40 : (tk i).1 = 40
    · rcases t3 q40 with w | w
      · rw [w]; exact ⟨fun w => absurd w (tkO_n b (by omega)).1, fun w => by omega⟩
      · rw [w]; exact ⟨fun w => absurd w (tkO_n b (by omega)).2, fun w => by omega⟩
    · rw [t2 (by omega) (by omega)]
      obtain ⟨a, ha⟩ : ∃ a, (tk i).1 = 24 + a := ⟨(tk i).1 - 24, by omega⟩
      rw [ha, tkO_c a (by omega) b (by omega)]
      omega
theorem ll_b (h : RfS z r so Tq I J i c p op false) (F : Nat) : LLr n z a1 (F + 1) 1 (mk z C I J t u) = cl (f_X11_beginOne n (z + 83) a1 (mk z C I J t u)) fun x30 S27 => (if x30 = 0 then LLr n z a1 F 1 S27 else some (x30, S27)) := by
  have m22 : mI (mk z C I J t u) (z + 83) 22 = 0 := h.2.2.2.2.2.2.2.1
  unfold LLr
  rw [f_X11_parsed_L12]
  simp only [jn]
  rw [if_neg (by decide), m22, if_pos rfl]
theorem ll_t (h : RfS z r so Tq I J i c p op true) (F : Nat) : LLr n z a1 (F + 1) 1 (mk z C I J t u) = cl (f_X11_behindOne n (z + 83) a1 (mk z C I J t u)) fun x34 S31 => LLr n z a1 F x34 S31 := by
  have m22 : mI (mk z C I J t u) (z + 83) 22 = 1 := h.2.2.2.2.2.2.2.1
  unfold LLr
  rw [f_X11_parsed_L12]
  simp only [jn]
  rw [if_neg (by decide), m22, if_neg (by decide)]
theorem ll_0 (F : Nat) (S : MS) : LLr n z a1 (F + 1) 0 S = KpR n z a1 S := by
  unfold LLr
  rw [f_X11_parsed_L12]
  simp only [jn]
  rw [if_pos trivial]
/-- it comes there; it ends with a fault; it stops -/
def RnT (n z C t r so : Nat) (u : Option Nat) (Tq : TQ) (a1 : Int32) (i : Nat) (c : Cd) (p : List Nat) (op : Nat) (w : Bool) (i' : Nat) (c' : Cd) (p' : List Nat) (op' : Nat) (w' : Bool) : Prop := ∀ (I : Nat → Nat → Int32) (J : Nat → Nat → Int64) (F : Nat), 1000 ≤ F + i → RfS z r so Tq I J i c p op w → ∃ F' I' J', 1000 ≤ F' + i' ∧ LLr n z a1 F 1 (mk z C I J t u) = LLr n z a1 F' 1 (mk z C I' J' t u) ∧ RfS z r so Tq I' J' i' c' p' op' w' ∧ FrQ z r I I' J J'
def RnF (n z C t r so : Nat) (u : Option Nat) (Tq : TQ) (a1 : Int32) (i : Nat) (c : Cd) (p : List Nat) (op : Nat) (w : Bool) (f ie : Nat) : Prop := ∀ (I : Nat → Nat → Int32) (J : Nat → Nat → Int64) (F : Nat), 1000 ≤ F + i → RfS z r so Tq I J i c p op w → ∃ I' J', LLr n z a1 F 1 (mk z C I J t u) = some (nI f, mk z C I' J' t u) ∧ Tq I' J' ie ∧ FrQ z r I I' J J'
def RnS (n z C t r so : Nat) (u : Option Nat) (Tq : TQ) (a1 : Int32) (i : Nat) (c : Cd) (p : List Nat) (op : Nat) : Prop := ∀ (I : Nat → Nat → Int32) (J : Nat → Nat → Int64) (F : Nat), 1000 ≤ F + i → RfS z r so Tq I J i c p op true → LLr n z a1 F 1 (mk z C I J t u) = KpR n z a1 (mk z C I J t u)
theorem RnT.tt {i1 i2 : Nat} {c1 c2 : Cd} {p1 p2 : List Nat} {op1 op2 : Nat} {w1 w2 : Bool} (h : RnT n z C t r so u Tq a1 i c p op w i1 c1 p1 op1 w1) (h2 : RnT n z C t r so u Tq a1 i1 c1 p1 op1 w1 i2 c2 p2 op2 w2) : RnT n z C t r so u Tq a1 i c p op w i2 c2 p2 op2 w2 := by
  intro I J F hF hs
  obtain ⟨F1, I1, J1, a, b, d, e⟩ := h I J F hF hs
  obtain ⟨F2, I2, J2, a2, b2, d2, e2⟩ := h2 I1 J1 F1 a d
  exact ⟨F2, I2, J2, a2, b.trans b2, d2, e.trq e2⟩
theorem RnT.tf {i1 : Nat} {c1 : Cd} {p1 : List Nat} {op1 f ie : Nat} {w1 : Bool} (h : RnT n z C t r so u Tq a1 i c p op w i1 c1 p1 op1 w1) (h2 : RnF n z C t r so u Tq a1 i1 c1 p1 op1 w1 f ie) : RnF n z C t r so u Tq a1 i c p op w f ie := by
  intro I J F hF hs
  obtain ⟨F1, I1, J1, a, b, d, e⟩ := h I J F hF hs
  obtain ⟨I2, J2, b2, d2, e2⟩ := h2 I1 J1 F1 a d
  exact ⟨I2, J2, b.trans b2, d2, e.trq e2⟩
theorem RnT.rfr : RnT n z C t r so u Tq a1 i c p op w i c p op w := fun I J F hF hs => ⟨F, I, J, hF, rfl, hs, FrQ.rfq z r I J⟩
theorem fl_1 (hT : TokOK n z C t u tk Tq) (h : RfS z r so Tq I J i c p op w) {F : Nat} (hF : 1000 ≤ F + i) : ∃ F', F = F' + 1 ∧ 999 ≤ F' + i := by
  have := (hT.2.2.1 I J i h.1).1
  exact ⟨F - 1, by omega, by omega⟩
/-- a sign that opens, but min and max -/
theorem q_opens (hT : TokOK n z C t u tk Tq) (h : RfS z r so Tq I J i c p op w) {a : Nat} (ha : a < 1000) (h41 : a ≠ 41) (h42 : a ≠ 42) (hi : (tk i).1 ≠ 39) (hl : p.length < 120) (hop : op ≤ 8) : (op = 8 ∧ f_X11_opensBy n (z + 83) (nI a) (mk z C I J t u) = some (nI 3, mk z C I J t u)) ∨ (op < 8 ∧ ∃ I' J', f_X11_opensBy n (z + 83) (nI a) (mk z C I J t u) = some (0, mk z C I' J' t u) ∧ RfS z r so Tq I' J' (i + 1) c (p ++ [a]) (op + 1) w ∧ FrQ z r I I' J J') := by
  have m21 : mI (mk z C I J t u) (z + 83) 21 = nI op := h.2.2.2.2.2.2.1
  have n41 : ¬ nI a = (41 : Int32) := fun w => h41 ((nI_inj (by omega) (by omega)).mp (show nI a = nI 41 from w))
  have n42 : ¬ nI a = (42 : Int32) := fun w => h42 ((nI_inj (by omega) (by omega)).mp (show nI a = nI 42 from w))
  unfold f_X11_opensBy
  simp only [jn, bd]
  rw [if_neg n41, if_neg n42, if_neg n41, if_neg n42, m21]
  by_cases q : op = 8
  · exact Or.inl ⟨q, by rw [if_pos (show nI op = (8 : Int32) by rw [q]; rfl)]; rfl⟩
  · have s1 := q_op hT h (op' := op + 1) (by omega)
    obtain ⟨I2, e2, s2, f2⟩ := q_push hT s1.1 hl (o := a)
    obtain ⟨I3, J3, e3, s3, f3⟩ := q_next hT s2 hi
    refine Or.inr ⟨by omega, I3, J3, ?_, s3, (s1.2.trq f2).trq f3⟩
    rw [if_neg (show ¬ nI op = (8 : Int32) by rw [show (8 : Int32) = nI 8 from rfl, nI_inj (by omega) (by omega)]; exact q), sI_mk, show nI op + (1 : Int32) = nI (op + 1) from nI_pl op 1, e2, cv_some, e3, cv_some]
theorem q_opens2 (hT : TokOK n z C t u tk Tq) (h : RfS z r so Tq I J i c p op w) {a : Nat} (ha : a = 41 ∨ a = 42) (hi : (tk i).1 ≠ 39) (hl : p.length < 120) (hop : op ≤ 8) : ∃ I1 J1, FrQ z r I I1 J J1 ∧ (((tk (i + 1)).1 ≠ 32 ∧ f_X11_opensBy n (z + 83) (nI a) (mk z C I J t u) = some (nI 1, mk z C I1 J1 t u) ∧ Tq I1 J1 (i + 1)) ∨ ((tk (i + 1)).1 = 32 ∧ op = 8 ∧ f_X11_opensBy n (z + 83) (nI a) (mk z C I J t u) = some (nI 3, mk z C I1 J1 t u) ∧ Tq I1 J1 (i + 1)) ∨ ((tk (i + 1)).1 = 32 ∧ op < 8 ∧ f_X11_opensBy n (z + 83) (nI a) (mk z C I J t u) = some (0, mk z C I1 J1 t u) ∧ RfS z r so Tq I1 J1 (i + 2) c (p ++ [a]) (op + 1) w)) := by
  obtain ⟨I1, J1, e1, s1, f1⟩ := q_next hT h hi
  have m21 : mI (mk z C I1 J1 t u) (z + 83) 21 = nI op := s1.2.2.2.2.2.2.1
  have hk := q_tok hT s1.1 (s := 32) (by omega) (by omega)
  have pre : f_X11_opensBy n (z + 83) (nI a) (mk z C I J t u) = (if mI (mk z C I1 J1 t u) (z + 83) 12 = (40 : Int32) then (if nI op = (8 : Int32) then some ((3 : Int32), mk z C I1 J1 t u) else cv (f_X11_push n (z + 83) (nI a) (sI (mk z C I1 J1 t u) (z + 83) 21 (nI op + 1))) fun S9 => cv (f_X11_nextToken n (z + 83) S9) fun S12 => some ((0 : Int32), S12)) else some ((1 : Int32), mk z C I1 J1 t u)) := by
    unfold f_X11_opensBy
    simp only [jn, bd]
    rcases ha with rfl | rfl
    · rw [if_pos (show nI 41 = (41 : Int32) from rfl), e1, cv_some, if_pos (show nI 41 = (41 : Int32) from rfl), m21]
    · rw [if_neg (show ¬ nI 42 = (41 : Int32) by decide), if_pos (show nI 42 = (42 : Int32) from rfl), e1, cv_some, if_neg (show ¬ nI 42 = (41 : Int32) by decide), if_pos (show nI 42 = (42 : Int32) from rfl), m21]
  rw [pre]
  by_cases q : (tk (i + 1)).1 = 32
  · have y40 : mI (mk z C I1 J1 t u) (z + 83) 12 = (40 : Int32) := hk.mpr q
    by_cases q8 : op = 8
    · exact ⟨I1, J1, f1, Or.inr (Or.inl ⟨q, q8, by rw [if_pos y40, if_pos (show nI op = (8 : Int32) by rw [q8]; rfl)]; rfl, s1.1⟩)⟩
    · have s2 := q_op hT s1 (op' := op + 1) (by omega)
      obtain ⟨I3, e3, s3, f3⟩ := q_push hT s2.1 hl (o := a)
      obtain ⟨I4, J4, e4, s4, f4⟩ := q_next hT s3 (by omega)
      refine ⟨I4, J4, ((f1.trq s2.2).trq f3).trq f4, Or.inr (Or.inr ⟨q, by omega, ?_, s4⟩)⟩
      rw [if_pos y40, if_neg (show ¬ nI op = (8 : Int32) by rw [show (8 : Int32) = nI 8 from rfl, nI_inj (by omega) (by omega)]; exact q8), sI_mk, show nI op + (1 : Int32) = nI (op + 1) from nI_pl op 1, e3, cv_some, e4, cv_some]
  · exact ⟨I1, J1, f1, Or.inl ⟨q, by rw [if_neg (show ¬ mI (mk z C I1 J1 t u) (z + 83) 12 = (40 : Int32) from fun w => q (hk.mp w))]; rfl, s1.1⟩⟩
/-- a fault at once -/
theorem rn_f (hT : TokOK n z C t u tk Tq) {f : Nat} (hf1 : 1 ≤ f) (hf : f ≤ 6) {ie : Nat} (hb : ∀ (I : Nat → Nat → Int32) (J : Nat → Nat → Int64), RfS z r so Tq I J i c p op false → ∃ I' J', f_X11_beginOne n (z + 83) a1 (mk z C I J t u) = some (nI f, mk z C I' J' t u) ∧ Tq I' J' ie ∧ FrQ z r I I' J J') : RnF n z C t r so u Tq a1 i c p op false f ie := by
  intro I J F hF hs
  obtain ⟨F', rfl, -⟩ := fl_1 hT hs hF
  obtain ⟨I', J', e, d, g⟩ := hb I J hs
  refine ⟨I', J', ?_, d, g⟩
  rw [ll_b hs, e, cl_some, if_neg (show ¬ nI f = (0 : Int32) by rw [show (0 : Int32) = nI 0 from rfl, nI_inj (by omega) (by omega)]; omega)]
theorem rn_b (hT : TokOK n z C t u tk Tq) {i' : Nat} {c' : Cd} {p' : List Nat} {op' : Nat} {w' : Bool} (hi : i < i') (hb : ∀ (I : Nat → Nat → Int32) (J : Nat → Nat → Int64), RfS z r so Tq I J i c p op false → ∃ I' J', f_X11_beginOne n (z + 83) a1 (mk z C I J t u) = some (0, mk z C I' J' t u) ∧ RfS z r so Tq I' J' i' c' p' op' w' ∧ FrQ z r I I' J J') : RnT n z C t r so u Tq a1 i c p op false i' c' p' op' w' := by
  intro I J F hF hs
  obtain ⟨F', rfl, h9⟩ := fl_1 hT hs hF
  obtain ⟨I', J', e, d, g⟩ := hb I J hs
  exact ⟨F', I', J', by omega, by rw [ll_b hs, e, cl_some, if_pos rfl], d, g⟩
theorem rn_t (hT : TokOK n z C t u tk Tq) {i' : Nat} {c' : Cd} {p' : List Nat} {op' : Nat} {w' : Bool} (hi : i < i') (hb : ∀ (I : Nat → Nat → Int32) (J : Nat → Nat → Int64), RfS z r so Tq I J i c p op true → ∃ I' J', f_X11_behindOne n (z + 83) a1 (mk z C I J t u) = some (1, mk z C I' J' t u) ∧ RfS z r so Tq I' J' i' c' p' op' w' ∧ FrQ z r I I' J J') : RnT n z C t r so u Tq a1 i c p op true i' c' p' op' w' := by
  intro I J F hF hs
  obtain ⟨F', rfl, h9⟩ := fl_1 hT hs hF
  obtain ⟨I', J', e, d, g⟩ := hb I J hs
  exact ⟨F', I', J', by omega, by rw [ll_t hs, e, cl_some], d, g⟩
/-- the minus signs before a ONE -/
theorem rn_min (hT : TokOK n z C t u tk Tq) (hso : so < 4) : ∀ (d i : Nat) (p : List Nat) (op : Nat), op + d = 8 → p.length + d < 100 → RnT n z C t r so u Tq a1 i c p op false (i + cntS tk 29 d i) c (p ++ List.replicate (cntS tk 29 d i) 2) (op + cntS tk 29 d i) false := by
  intro d
  induction d with
  | zero => intro i p op _ _; rw [show cntS tk 29 0 i = 0 from rfl, show List.replicate 0 2 = ([] : List Nat) from rfl, List.append_nil]; exact RnT.rfr
  | succ d ih =>
    intro i p op hop hl
    by_cases e : (tk i).1 = 29
    · have h1 : RnT n z C t r so u Tq a1 i c p op false (i + 1) c (p ++ [2]) (op + 1) false := rn_b hT (by omega) (fun I J hs => by
        rcases q_opens (a := 2) hT hs (by omega) (by omega) (by omega) (by omega) (by omega) (by omega) with ⟨q, -⟩ | ⟨-, I', J', e1, s1, f1⟩
        · omega
        · refine ⟨I', J', ?_, s1, f1⟩
          rw [bg_eval hT hso hs, if_neg (by omega), if_neg (by omega), if_neg (by omega), if_pos e, show (2 : Int32) = nI 2 from rfl, e1, cl_some])
      have h2 := ih (i + 1) (p ++ [2]) (op + 1) (by omega) (by rw [List.length_append]; show p.length + 1 + d < 100; omega)
      have h3 := h1.tt h2
      rw [cntS, if_pos e]
      rw [show i + (cntS tk 29 d (i + 1) + 1) = i + 1 + cntS tk 29 d (i + 1) by omega, show op + (cntS tk 29 d (i + 1) + 1) = op + 1 + cntS tk 29 d (i + 1) by omega, show p ++ List.replicate (cntS tk 29 d (i + 1) + 1) 2 = p ++ [2] ++ List.replicate (cntS tk 29 d (i + 1)) 2 by rw [List.append_assoc, List.replicate_succ]; rfl]
      exact h3
    · rw [cntS, if_neg e, show List.replicate 0 2 = ([] : List Nat) from rfl, List.append_nil]; exact RnT.rfr
end RU
