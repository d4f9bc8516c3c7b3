/-! ALL CLAUSES OF A TEXT: both loops -/
abbrev PrT : Type := (Nat × Nat) ⊕ (Nat × List Cl4 × Cd)
noncomputable def pTx (tk : Nat → Nat × Nat) : Nat → Nat → List Cl4 → Cd → PrT
  | 0, i, K, c => Sum.inr (i, K, c)
  | f + 1, i, K, c => if (tk i).1 = 39 then Sum.inr (i, K, c) else match pCl tk K i c with
    | Sum.inl e => Sum.inl e
    | Sum.inr y => pTx tk f y.1 (K ++ [y.2.1]) y.2.2
theorem pLaw_len {tk : Nat → Nat × Nat} {s i i' : Nat} {c c' : Cd} (h : pLaw tk s i c = Sum.inr (i', c')) : c'.length + i ≤ c.length + i' := by
  unfold pLaw at h
  by_cases e : s = 3
  · rw [if_pos e] at h
    have := pEither_gd (tk := tk) i c
    rw [h] at this
    obtain ⟨d, d1, -, d3, -⟩ := this
    have d1 : c' = c ++ d := d1
    have d3 : d.length + i ≤ i' := d3
    rw [d1, List.length_append]; omega
  · rw [if_neg e] at h
    exact (pSum_len (Nat.zero_le _) h).1
theorem pCl_r {tk : Nat → Nat × Nat} {K : List Cl4} {i : Nat} {c : Cd} {y : Nat × Cl4 × Cd} (h : pCl tk K i c = Sum.inr y) (hl : c.length ≤ i) : K.length < 20 ∧ y.2.2.length ≤ y.1 := by
  unfold pCl at h
  by_cases wd : ¬ (18 ≤ (tk i).1 ∧ (tk i).1 ≤ 23)
  · rw [if_pos wd] at h; cases h
  rw [if_neg wd] at h
  by_cases d : (tk i).1 - 18 < 3 ∧ (tk i).1 - 18 ∈ K.map (fun k => k.1)
  · rw [if_pos d] at h; cases h
  rw [if_neg d] at h
  by_cases g : 20 ≤ K.length
  · rw [if_pos g] at h; cases h
  rw [if_neg g] at h
  refine ⟨by omega, ?_⟩
  cases hx : pBody tk ((tk i).1 - 18) (i + 1) c with
  | inl e => rw [hx] at h; cases h
  | inr q =>
    rw [hx] at h
    obtain ⟨i', c'⟩ := q
    have hy := Sum.inr.inj h
    rw [← hy]
    show c'.length ≤ i'
    obtain ⟨i1, q1, q2, -⟩ := pExp_r hx
    by_cases h4 : (tk i).1 - 18 < 4
    · rw [if_pos h4] at q1
      have := pLaw_len q1
      omega
    · rw [if_neg h4] at q1
      obtain ⟨w1, w2, -⟩ := pPl_r q1
      rw [w1]; omega
section LP
variable {n z C t r N : Nat} {tk : Nat → Nat × Nat} {pl : Nat → Nat}
def OutTc (z r N : Nat) (tk : Nat → Nat × Nat) (pl : Nat → Nat) (I' : Nat → Nat → Int32) (x : PrT) : Prop := match x with
  | Sum.inl e => FaS z r N tk pl I' e.1 e.2
  | Sum.inr y => (∃ so, OkSt z r N so tk pl I' y.1 y.2.2) ∧ CkS z r I' y.2.1
theorem tl_ok (hn : 100000 ≤ n) (hr : r < t) {J : Nat → Nat → Int64} {x3 : Int32} {Kt : MS → Option (Int32 × MS)} : ∀ (f k i so : Nat) (K : List Cl4) (c : Cd) (I : Nat → Nat → Int32), K.length + f = 21 → f + 1 < k → CkS z r I K → OkSt z r N so tk pl I i c → c.length ≤ i → ∃ I', f_X10_text_L60 n z x3 Kt k (nI K.length) (mk z C I J t (some (97 + 6 * r))) = Kt (mk z C I' J t (some (97 + 6 * r))) ∧ (∀ q, q ≠ z + 17 → (q < z + (97 + 6 * r) ∨ z + (97 + 6 * r + 5) < q) → I' q = I q) ∧ OutTc z r N tk pl I' (pTx tk f i K c) := by
  intro f
  induction f with
  | zero => intro k i so K c I h1 h2 h3; have := h3.2.2.1; omega
  | succ f ih =>
    intro k i so K c I h1 h2 h3 h4 h5
    obtain ⟨k', rfl⟩ : ∃ k', k = k' + 1 := ⟨k - 1, by omega⟩
    have hK := h3.2.2.1
    have m5 : mI (mk z C I J t (some (97 + 6 * r))) (z + 17) 5 = nI (tk i).1 := h4.2.2.2.2.2.2.2.1
    have h40 := (h4.1.2.2.2 i h4.2.2.1).1
    rw [f_X10_text_L60, pTx]
    simp only [jn, bd]
    rw [if_neg (show ¬ (20 : Int32) < nI K.length from fun y => by have := (nI_lt' (a := 20) (by omega) (by omega)).mp y; omega), g0z_6]
    unfold f_X4_goesOn
    rw [m5]
    by_cases e : (tk i).1 = 39
    · rw [if_pos (show nI (tk i).1 = (39 : Int32) by rw [e]; rfl), if_pos e, zb_0, cl_some, if_pos rfl]
      exact ⟨I, rfl, fun _ _ _ => rfl, ⟨so, h4⟩, h3⟩
    · rw [if_neg (show ¬ nI (tk i).1 = (39 : Int32) from fun y => e ((nI_inj (b := 39) (by omega) (by omega)).mp y)), if_neg e, zb_1, cl_some, if_neg (by decide), g0z_6]
      obtain ⟨I1, e1, f1, o1⟩ := rc_ok (n := n) (C := C) (J := J) hn hr h3 h4 e h5
      rw [e1, cv_some, show nI K.length + (1 : Int32) = nI (K.length + 1) from nI_pl _ 1]
      cases hx : pCl tk K i c with
      | inl q =>
        rw [hx] at o1
        obtain ⟨k'', rfl⟩ : ∃ k'', k' = k'' + 1 := ⟨k' - 1, by omega⟩
        have m5' : mI (mk z C I1 J t (some (97 + 6 * r))) (z + 17) 5 = 39 := o1.2.2.2.2.2.2.1
        refine ⟨I1, ?_, f1, o1⟩
        rw [f_X10_text_L60]
        simp only [jn, bd]
        by_cases y : (20 : Int32) < nI (K.length + 1)
        · rw [if_pos y]
        · rw [if_neg y, g0z_6]
          unfold f_X4_goesOn
          rw [m5', if_pos rfl, zb_0, cl_some, if_pos rfl]
      | inr y =>
        rw [hx] at o1
        obtain ⟨⟨so', o2⟩, o3⟩ := o1
        obtain ⟨l1, l2⟩ := pCl_r hx h5
        obtain ⟨I2, e2, f2, o4⟩ := ih k' y.1 so' (K ++ [y.2.1]) y.2.2 I1 (by rw [List.length_append]; show K.length + 1 + f = 21; omega) (by omega) o3 o2 l2
        refine ⟨I2, ?_, fun q a b => (f2 q a b).trans (f1 q a b), o4⟩
        rw [List.length_append] at e2
        exact e2
def OutTr (z r : Nat) (Tq : TQ) (f : Nat) (I : Nat → Nat → Int32) (J : Nat → Nat → Int64) (x : PrT) : Prop := match x with
  | Sum.inl e => f = e.1 ∧ Tq I J e.2
  | Sum.inr y => f = 0 ∧ (∃ so p w, RfW z r so Tq I J y.1 y.2.2 p 0 w) ∧ RkS z r I y.2.1
theorem tr_ok (hn : 100000 ≤ n) {u : Option Nat} {Tq : TQ} (hT : TokOK n z C t u tk Tq) (hE : ∀ i, 300 ≤ i → (tk i).1 = 39) : ∀ (f k i so : Nat) (K : List Cl4) (c : Cd) (p : List Nat) (w : Bool) (I : Nat → Nat → Int32) (J : Nat → Nat → Int64), K.length + f = 21 → f < k → RfW z r so Tq I J i c p 0 w → RkS z r I K → MkS z I (K.map (fun k => k.1)) → K.length ≤ 20 → c.length ≤ i → (∀ e, pTx tk f i K c = Sum.inl e → 1 ≤ e.1 ∧ e.1 ≤ 6) → ∃ g I' J', f_X11_readText_L48 n (z + 83) k (mk z C I J t u) = some (nI g, mk z C I' J' t u) ∧ FrZ z r I I' J J' ∧ OutTr z r Tq g I' J' (pTx tk f i K c) := by
  intro f
  induction f with
  | zero => intro k i so K c p w I J h1 h2 h3 h4 h5 h6; omega
  | succ f ih =>
    intro k i so K c p w I J h1 h2 h3 h4 h5 h6 h7 hF
    obtain ⟨k', rfl⟩ : ∃ k', k = k' + 1 := ⟨k - 1, by omega⟩
    have k39 := q_tok hT h3.1 (s := 39) (by omega) (by omega)
    rw [f_X11_readText_L48]
    rw [pTx] at hF ⊢
    simp only [jn]
    by_cases e : (tk i).1 = 39
    · rw [if_pos (show mI (mk z C I J t u) (z + 83) 12 = 0 from k39.mpr e), if_pos e]
      exact ⟨0, I, J, rfl, FrZ.rfg z r I J, rfl, ⟨so, p, w, h3⟩, h4⟩
    · rw [if_neg e] at hF ⊢
      rw [if_neg (show ¬ mI (mk z C I J t u) (z + 83) 12 = 0 from fun y => e (k39.mp y))]
      obtain ⟨g, I1, J1, e1, f1, o1⟩ := qc_ok (n := n) (C := C) (t := t) (u := u) hn hT hE e h7 h3 h4 h5 h6 (fun q hq => hF q (by rw [hq]))
      rw [e1, cl_some]
      cases hx : pCl tk K i c with
      | inl q =>
        rw [hx] at o1 hF
        obtain ⟨v1, v2⟩ := hF q rfl
        rw [if_neg (show ¬ nI g = 0 from fun y => by have := o1.1; have := (nI_inj (b := 0) (by omega) (by omega)).mp y; omega)]
        exact ⟨g, I1, J1, rfl, f1, o1⟩
      | inr y =>
        rw [hx] at o1 hF
        obtain ⟨o0, ⟨so', p', w', o2⟩, o3, o4⟩ := o1
        obtain ⟨l1, l2⟩ := pCl_r hx h7
        rw [if_pos (show nI g = 0 by rw [o0]; rfl)]
        obtain ⟨g2, I2, J2, e2, f2, o5⟩ := ih k' y.1 so' (K ++ [y.2.1]) y.2.2 p' w' I1 J1 (by rw [List.length_append]; show K.length + 1 + f = 21; omega) (by omega) o2 o3 o4 (by rw [List.length_append]; show K.length + 1 ≤ 20; omega) l2 hF
        exact ⟨g2, I2, J2, e2, f1.trg f2, o5⟩
end LP
