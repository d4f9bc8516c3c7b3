/-! THE SHAPE of sums, asks, laws that are read -/
theorem pLoop_gd {tk : Nat → Nat × Nat} {so n k : Nat} {on : Nat → Cd → PrR} (ho : ∀ m i c, m ≤ n + 2 → gdR so m k (m + 1) k i c (on i c)) : ∀ f w i c, (w = none ∨ ∃ q, w = some q ∧ 28 ≤ q ∧ q ≤ 29) → gdR so n k (n + 1) k i c (Sum.inr (i + 1, c)) ∨ True → match pLoop tk on f w i c with
    | Sum.inl _ => True
    | Sum.inr x => ∃ e, x.2 = c ++ e ∧ i ≤ x.1 ∧ e.length + i ≤ x.1 + (wlC w).length ∧ shLs e (n + 1 + (wlC w).length) k (n + 1) k ∧ plC so e := by
  intro f
  have hw1 : ∀ w : Option Nat, (w = none ∨ ∃ q, w = some q ∧ 28 ≤ q ∧ q ≤ 29) → shLs (wlC w) (n + 1 + (wlC w).length) k (n + 1) k ∧ plC so (wlC w) := by
    rintro w (rfl | ⟨q, rfl, q1, q2⟩)
    · exact ⟨⟨rfl, rfl⟩, fun x hx => by cases hx⟩
    · refine ⟨shL_1 (Or.inr (Or.inr (Or.inr (Or.inl ⟨⟨?_, ?_⟩, ?_⟩)))) ?_ ?_, plC_0 (by omega)⟩
      · show 3 ≤ q - 25; omega
      · show q - 25 ≤ 8; omega
      · show 2 ≤ n + 1 + 1; omega
      · unfold nxN
        rw [if_neg (by show ¬ q - 25 ≤ 1; omega), if_neg (by show ¬ q - 25 = 2; omega), if_pos (by show q - 25 < 10; omega)]
        show n + 1 + 1 - 1 = n + 1; omega
      · unfold nxK
        rw [if_pos (by show q - 25 < 10; omega)]
  have hwl : ∀ w : Option Nat, (w = none ∨ ∃ q, w = some q ∧ 28 ≤ q ∧ q ≤ 29) → (wlC w).length ≤ 1 := by
    rintro w (rfl | ⟨q, rfl, -, -⟩)
    · exact Nat.zero_le _
    · exact Nat.le_refl _
  induction f with
  | zero =>
    intro w i c hw _
    obtain ⟨a1, a2⟩ := hw1 w hw
    exact ⟨wlC w, rfl, Nat.le_refl _, by show _ ≤ i + _; omega, a1, a2⟩
  | succ f ih =>
    intro w i c hw _
    obtain ⟨a1, a2⟩ := hw1 w hw
    have a3 := hwl w hw
    rw [pLoop]
    by_cases h : 28 ≤ (tk i).1 ∧ (tk i).1 ≤ 31
    · rw [if_pos h]
      by_cases h30 : 30 ≤ (tk i).1
      · rw [if_pos h30]
        have h1 := ho (n + 1 + (wlC w).length) (i + 1) c (by omega)
        cases hK : on (i + 1) c with
        | inl e => exact trivial
        | inr x =>
          obtain ⟨i2, c2⟩ := x
          rw [hK] at h1
          obtain ⟨e, e1, e2, e3, e4, e5⟩ := h1
          have e1 : c2 = c ++ e := e1
          have e2 : i + 1 < i2 := e2
          have e3 : e.length + (i + 1) ≤ i2 := e3
          rw [pB_r]
          have h2 := ih w i2 (c2 ++ [((tk i).1 - 25, 0)]) hw (Or.inr trivial)
          cases hL : pLoop tk on f w i2 (c2 ++ [((tk i).1 - 25, 0)]) with
          | inl e => exact trivial
          | inr y =>
            rw [hL] at h2
            obtain ⟨g, g1, g2, g3, g4, g5⟩ := h2
            refine ⟨e ++ (((tk i).1 - 25, 0) :: g), ?_, by omega, ?_, ?_, ?_⟩
            · rw [g1, e1]; simp only [List.append_assoc, List.cons_append, List.nil_append]
            · rw [List.length_append]; show e.length + (g.length + 1) + i ≤ _; omega
            · refine shL_app _ _ _ _ _ _ _ _ e4 ⟨Or.inr (Or.inr (Or.inr (Or.inl ⟨⟨?_, ?_⟩, ?_⟩))), ?_⟩
              · show 3 ≤ (tk i).1 - 25; omega
              · show (tk i).1 - 25 ≤ 8; omega
              · omega
              · rw [show nxN ((tk i).1 - 25, 0) (n + 1 + (wlC w).length + 1) = n + 1 + (wlC w).length by
                  unfold nxN
                  rw [if_neg (by show ¬ (tk i).1 - 25 ≤ 1; omega), if_neg (by show ¬ (tk i).1 - 25 = 2; omega), if_pos (by show (tk i).1 - 25 < 10; omega)]; omega, show nxK ((tk i).1 - 25, 0) k = k by
                  unfold nxK
                  rw [if_pos (by show (tk i).1 - 25 < 10; omega)]]
                exact g4
            · exact plC_app e5 (plC_app (plC_0 (by omega)) g5)
      · rw [if_neg h30]
        have h1 := ho (n + 1) (i + 1) (c ++ wlC w) (by omega)
        cases hK : on (i + 1) (c ++ wlC w) with
        | inl e => exact trivial
        | inr x =>
          obtain ⟨i2, c2⟩ := x
          rw [hK] at h1
          obtain ⟨e, e1, e2, e3, e4, e5⟩ := h1
          have e1 : c2 = c ++ wlC w ++ e := e1
          have e2 : i + 1 < i2 := e2
          have e3 : e.length + (i + 1) ≤ i2 := e3
          rw [pB_r]
          have h2 := ih (some (tk i).1) i2 c2 (Or.inr ⟨(tk i).1, rfl, h.1, by omega⟩) (Or.inr trivial)
          cases hL : pLoop tk on f (some (tk i).1) i2 c2 with
          | inl e => exact trivial
          | inr y =>
            rw [hL] at h2
            obtain ⟨g, g1, g2, g3, g4, g5⟩ := h2
            have g3 : g.length + i2 ≤ y.1 + 1 := g3
            refine ⟨wlC w ++ (e ++ g), ?_, by omega, ?_, ?_, ?_⟩
            · rw [g1, e1]; simp only [List.append_assoc]
            · rw [List.length_append, List.length_append]; omega
            · exact shL_app _ _ _ _ _ _ _ _ a1 (shL_app _ _ _ _ _ _ _ _ e4 g4)
            · exact plC_app a2 (plC_app e5 g5)
    · rw [if_neg h]
      exact ⟨wlC w, rfl, Nat.le_refl _, by show _ ≤ i + _; omega, a1, a2⟩
theorem pSum_gd {tk : Nat → Nat × Nat} {so k : Nat} : ∀ d op n i c, op ≤ 8 → n + k + 3 * (10 - op) ≤ 50 → gdR so n k (n + 1) k i c (pSum tk so d op i c)
  | 0, _, _, _, _, _, _ => trivial
  | d + 1, op, n, i, c, hop, hnk => by
    have hone : ∀ m i c, m ≤ n + 2 → gdR so m k (m + 1) k i c (pOne tk so (pSum tk so d) op i c) := fun m i c hm => pOne_gd hop (by omega) (fun q m i c hq hm2 => pSum_gd d q m i c hq hm2) i c
    rw [pSum]
    have h1 := hone n i c (by omega)
    cases hK : pOne tk so (pSum tk so d) op i c with
    | inl e => exact trivial
    | inr x =>
      obtain ⟨i1, c1⟩ := x
      rw [hK] at h1
      obtain ⟨e, e1, e2, e3, e4, e5⟩ := h1
      have e1 : c1 = c ++ e := e1
      have e2 : i < i1 := e2
      have e3 : e.length + i ≤ i1 := e3
      rw [pB_r]
      have h2 := pLoop_gd (tk := tk) (so := so) (n := n) (k := k) (on := pOne tk so (pSum tk so d) op) hone 300 none i1 c1 (Or.inl rfl) (Or.inr trivial)
      cases hL : pLoop tk (pOne tk so (pSum tk so d) op) 300 none i1 c1 with
      | inl e => exact trivial
      | inr y =>
        rw [hL] at h2
        obtain ⟨g, g1, g2, g3, g4, g5⟩ := h2
        have g3 : g.length + i1 ≤ y.1 + 0 := g3
        exact ⟨e ++ g, by rw [g1, e1, List.append_assoc], by omega, by rw [List.length_append]; omega, shL_app _ _ _ _ _ _ _ _ e4 g4, plC_app e5 g5⟩
theorem cmO_ok {k : Nat} : 10 ≤ cmO k ∧ cmO k ≤ 15 := by
  unfold cmO
  split
  · omega
  split
  · omega
  split
  · omega
  split
  · omega
  split <;> omega
theorem pAsk_gd {tk : Nat → Nat × Nat} {k : Nat} (hk : k ≤ 2) (i : Nat) (c : Cd) : gdR 3 0 k 0 (k + 1) i c (pAsk tk i c) := by
  have hj := cntS_le (tk := tk) (s := 14) 8 i
  unfold pAsk
  generalize cntS tk 14 8 i = j at *
  unfold pAskJ
  split
  · exact trivial
  have h1 := pSum_gd (tk := tk) (so := 3) (k := k) 12 j 0 (i + j) c hj (by omega)
  cases hK : pSum tk 3 12 j (i + j) c with
  | inl e => exact trivial
  | inr x =>
    obtain ⟨i1, c1⟩ := x
    rw [hK] at h1
    obtain ⟨e, e1, e2, e3, e4, e5⟩ := h1
    have e1 : c1 = c ++ e := e1
    have e2 : i + j < i1 := e2
    have e3 : e.length + (i + j) ≤ i1 := e3
    rw [pB_r]
    split
    · have h2 := pSum_gd (tk := tk) (so := 3) (k := k) 12 j 1 (i1 + 1) c1 hj (by omega)
      cases hK2 : pSum tk 3 12 j (i1 + 1) c1 with
      | inl e => exact trivial
      | inr y =>
        obtain ⟨i2, c2⟩ := y
        rw [hK2] at h2
        obtain ⟨g, g1, g2, g3, g4, g5⟩ := h2
        have g1 : c2 = c1 ++ g := g1
        have g2 : i1 + 1 < i2 := g2
        have g3 : g.length + (i1 + 1) ≤ i2 := g3
        rw [pB_r]
        obtain ⟨b1, b2⟩ := cmO_ok (k := (tk i1).1)
        obtain ⟨n1, n2, n3⟩ := nt_ok (so := 3) (k := k + 1) (by omega) j
        refine ⟨e ++ (g ++ ((cmO (tk i1).1, 0) :: ntC j)), ?_, by show i < i2; omega, ?_, ?_, ?_⟩
        · show c2 ++ _ = _; rw [g1, e1]; simp only [List.append_assoc]
        · rw [List.length_append, List.length_append, List.length_cons, n3]; show _ ≤ i2; omega
        · refine shL_app _ _ _ _ _ _ _ _ e4 (shL_app _ _ _ _ _ _ _ _ g4 ⟨Or.inr (Or.inr (Or.inr (Or.inr (Or.inl ⟨⟨b1, b2⟩, rfl⟩)))), ?_⟩)
          rw [show nxN (cmO (tk i1).1, 0) (0 + 1 + 1) = 0 by
            unfold nxN
            rw [if_neg (by show ¬ cmO (tk i1).1 ≤ 1; omega), if_neg (by show ¬ cmO (tk i1).1 = 2; omega), if_neg (by show ¬ cmO (tk i1).1 < 10; omega), if_pos (by show cmO (tk i1).1 < 20; omega)], show nxK (cmO (tk i1).1, 0) k = k + 1 by
            unfold nxK
            rw [if_neg (by show ¬ cmO (tk i1).1 < 10; omega), if_pos (by show cmO (tk i1).1 < 20; omega)]]
          exact n1
        · exact plC_app e5 (plC_app g5 (plC_app (plC_0 (by omega)) n2))
    · exact trivial
theorem pELoop_gd {tk : Nat → Nat × Nat} : ∀ f w i c, match pELoop tk f w i c with
    | Sum.inl _ => True
    | Sum.inr x => ∃ e, x.2 = c ++ e ∧ i ≤ x.1 ∧ e.length + i ≤ x.1 + (orC w).length ∧ shLs e 0 (1 + (orC w).length) 0 1 ∧ plC 3 e := by
  have hor : ∀ w : Bool, shLs (orC w) 0 (1 + (orC w).length) 0 1 ∧ plC 3 (orC w) ∧ (orC w).length ≤ 1 := by
    intro w
    cases w with
    | false => exact ⟨⟨rfl, rfl⟩, (fun x hx => by cases hx), Nat.zero_le _⟩
    | true => exact ⟨shL_1 (Or.inr (Or.inr (Or.inr (Or.inr (Or.inr (Or.inr ⟨Or.inr rfl, rfl, Nat.le_refl _⟩)))))) rfl rfl, plC_0 (by omega), Nat.le_refl _⟩
  intro f
  induction f with
  | zero =>
    intro w i c
    obtain ⟨a1, a2, a3⟩ := hor w
    exact ⟨orC w, rfl, Nat.le_refl _, by show _ ≤ i + _; omega, a1, a2⟩
  | succ f ih =>
    intro w i c
    obtain ⟨a1, a2, a3⟩ := hor w
    rw [pELoop]
    by_cases h15 : (tk i).1 = 15
    · rw [if_pos h15]
      have h1 := pAsk_gd (tk := tk) (k := 1 + (orC w).length) (by omega) (i + 1) c
      cases hK : pAsk tk (i + 1) c with
      | inl e => exact trivial
      | inr x =>
        obtain ⟨i2, c2⟩ := x
        rw [hK] at h1
        obtain ⟨e, e1, e2, e3, e4, e5⟩ := h1
        have e1 : c2 = c ++ e := e1
        have e2 : i + 1 < i2 := e2
        have e3 : e.length + (i + 1) ≤ i2 := e3
        rw [pB_r]
        have h2 := ih w i2 (c2 ++ [(21, 0)])
        cases hL : pELoop tk f w i2 (c2 ++ [(21, 0)]) with
        | inl e => exact trivial
        | inr y =>
          rw [hL] at h2
          obtain ⟨g, g1, g2, g3, g4, g5⟩ := h2
          refine ⟨e ++ ((21, 0) :: g), ?_, by omega, ?_, ?_, ?_⟩
          · rw [g1, e1]; simp only [List.append_assoc, List.cons_append, List.nil_append]
          · rw [List.length_append]; show e.length + (g.length + 1) + i ≤ _; omega
          · refine shL_app _ _ _ _ _ _ _ _ e4 ⟨Or.inr (Or.inr (Or.inr (Or.inr (Or.inr (Or.inr ⟨Or.inl rfl, rfl, by omega⟩))))), ?_⟩
            rw [show nxN (21, 0) 0 = 0 from rfl, show nxK (21, 0) (1 + (orC w).length + 1) = 1 + (orC w).length from rfl]
            exact g4
          · exact plC_app e5 (plC_app (plC_0 (by omega)) g5)
    · rw [if_neg h15]
      by_cases h16 : (tk i).1 = 16
      · rw [if_pos h16]
        have h1 := pAsk_gd (tk := tk) (k := 1) (by omega) (i + 1) (c ++ orC w)
        cases hK : pAsk tk (i + 1) (c ++ orC w) with
        | inl e => exact trivial
        | inr x =>
          obtain ⟨i2, c2⟩ := x
          rw [hK] at h1
          obtain ⟨e, e1, e2, e3, e4, e5⟩ := h1
          have e1 : c2 = c ++ orC w ++ e := e1
          have e2 : i + 1 < i2 := e2
          have e3 : e.length + (i + 1) ≤ i2 := e3
          rw [pB_r]
          have h2 := ih true i2 c2
          cases hL : pELoop tk f true i2 c2 with
          | inl e => exact trivial
          | inr y =>
            rw [hL] at h2
            obtain ⟨g, g1, g2, g3, g4, g5⟩ := h2
            have g3 : g.length + i2 ≤ y.1 + 1 := g3
            refine ⟨orC w ++ (e ++ g), ?_, by omega, ?_, ?_, ?_⟩
            · rw [g1, e1]; simp only [List.append_assoc]
            · rw [List.length_append, List.length_append]; omega
            · exact shL_app _ _ _ _ _ _ _ _ a1 (shL_app _ _ _ _ _ _ _ _ e4 g4)
            · exact plC_app a2 (plC_app e5 g5)
      · rw [if_neg h16]
        exact ⟨orC w, rfl, Nat.le_refl _, by show _ ≤ i + _; omega, a1, a2⟩
theorem pEither_gd {tk : Nat → Nat × Nat} (i : Nat) (c : Cd) : gdR 3 0 0 0 1 i c (pEither tk i c) := by
  unfold pEither
  have h1 := pAsk_gd (tk := tk) (k := 0) (by omega) i c
  cases hK : pAsk tk i c with
  | inl e => exact trivial
  | inr x =>
    obtain ⟨i1, c1⟩ := x
    rw [hK] at h1
    obtain ⟨e, e1, e2, e3, e4, e5⟩ := h1
    have e1 : c1 = c ++ e := e1
    have e2 : i < i1 := e2
    have e3 : e.length + i ≤ i1 := e3
    rw [pB_r]
    have h2 := pELoop_gd (tk := tk) 300 false i1 c1
    cases hL : pELoop tk 300 false i1 c1 with
    | inl e => exact trivial
    | inr y =>
      rw [hL] at h2
      obtain ⟨g, g1, g2, g3, g4, g5⟩ := h2
      have g3 : g.length + i1 ≤ y.1 + 0 := g3
      exact ⟨e ++ g, by rw [g1, e1, List.append_assoc], by omega, by rw [List.length_append]; omega, shL_app _ _ _ _ _ _ _ _ e4 g4, plC_app e5 g5⟩
