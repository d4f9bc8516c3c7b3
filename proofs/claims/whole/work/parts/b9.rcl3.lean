/-! THE REFERENCE READS A CLAUSE -/
section QG
variable {n z C t r so : Nat} {u : Option Nat} {I : Nat → Nat → Int32} {J : Nat → Nat → Int64} {tk : Nat → Nat × Nat} {Tq : TQ} {i : Nat} {c : Cd} {p : List Nat} {w : Bool}
theorem cJ_ok (hn : 100000 ≤ n) (hT : TokOK n z C t u tk Tq) (hE : ∀ i, 300 ≤ i → (tk i).1 = 39) {K : List Cl4} {s : Nat} (hs : s ≤ 5) (hd : ¬ (s < 3 ∧ s ∈ K.map (fun k => k.1))) (hi : (tk i).1 ≠ 39) (hl : c.length ≤ i) (h : RfW z r so Tq I J i c p 0 w) (hK : RkS z r I K) (hM : MkS z I (K.map (fun k => k.1))) (hK20 : K.length ≤ 20) (hF : ∀ e, pBody tk s (i + 1) c = Sum.inl e → 1 ≤ e.1 ∧ e.1 ≤ 6) : ∃ f I' J', cJ n z (nI s) (mk z C I J t u) = some (nI f, mk z C I' J' t u) ∧ FrZ z r I I' J J' ∧ OutR z r Tq K f I' J' (if 20 ≤ K.length then Sum.inl (6, i) else match pBody tk s (i + 1) c with
    | Sum.inl e => Sum.inl e
    | Sum.inr y => Sum.inr (y.1, clOf tk s (i + 1) c y.2, y.2)) := by
  have hr := h.2.2.2.2.2.2.2.2.2.2.2.2
  have m15 : mI (mk z C I J t u) (z + 83) 15 = nI (700 * r) := h.2.1
  have m0 : mI (mk z C I J t u) (z + 85) (700 * r) = nI K.length := hK.1
  unfold cJ
  simp only [bd]
  rw [g83_5, n85, m15, ck_t (inb_nI (by omega) (by omega)), cl_nI (by omega), m0]
  by_cases g : 20 ≤ K.length
  · rw [if_pos g, if_pos (show nI K.length = (20 : Int32) by rw [show K.length = 20 by omega]; rfl)]
    exact ⟨6, I, J, rfl, FrZ.rfg z r I J, rfl, h.1⟩
  rw [if_neg g, if_neg (show ¬ nI K.length = (20 : Int32) from fun y => by have := (nI_inj (b := 20) (by omega) (by omega)).mp y; omega)]
  obtain ⟨b, b1, b2, b3⟩ := hM
  have m24 : mI (mk z C I J t u) (z + 83) 24 = nI b := b2
  have fin : ∀ (I0 : Nat → Nat → Int32), RfW z r so Tq I0 J i c p 0 w → FrZ z r I I0 J J → (∀ k, I0 (z + 85) k = I (z + 85) k) → (∀ y, MkS z I0 (K.map (fun k => k.1) ++ [s])) → ∃ f I' J', cA n z (nI s) (nI K.length) (mk z C I0 J t u) = some (nI f, mk z C I' J' t u) ∧ FrZ z r I I' J J' ∧ OutR z r Tq K f I' J' (match pBody tk s (i + 1) c with
    | Sum.inl e => Sum.inl e
    | Sum.inr y => Sum.inr (y.1, clOf tk s (i + 1) c y.2, y.2)) := fun I0 h0 f0 e0 hM0 => by
    obtain ⟨f, I', J', a1, a2, a3, a4, a5, a6⟩ := cA_ok (n := n) (C := C) (t := t) (u := u) hn hT hE (m := K.length) rfl (by omega) hs hi hl h0 hF (by rw [e0]; exact hK.1)
    refine ⟨f, I', J', a1, f0.trg a2, ?_⟩
    cases hx : pBody tk s (i + 1) c with
    | inl e => rw [hx] at a3; exact a3
    | inr y =>
      rw [hx] at a3
      obtain ⟨v1, v2, v3, v4, v5⟩ := a4 y hx
      obtain ⟨q1, p', w', q2⟩ := a3
      refine ⟨q1, ⟨s, p', w', q2⟩, ⟨by rw [v1, List.length_append]; rfl, fun j hj => ?_⟩, ?_⟩
      · rw [List.length_append] at hj
        have hj : j < K.length + 1 := hj
        by_cases e : j = K.length
        · rw [e, getD_e]
          refine ⟨by rw [v2]; show nI s = nI (clOf tk s (i + 1) c y.2).1; rw [clOf_1], v3, v4, fun x => v5 (by have x : 4 ≤ (clOf tk s (i + 1) c y.2).1 := x; rw [clOf_1] at x; exact x)⟩
        · rw [getD_l (by omega), a5 _ (by omega) (by omega) (by omega), a5 _ (by omega) (by omega) (by omega), a5 _ (by omega) (by omega) (by omega), a5 _ (by omega) (by omega) (by omega), e0, e0, e0, e0]
          exact hK.2 j (by omega)
      · obtain ⟨d, d1, d2, d3⟩ := hM0 0
        refine ⟨d, d1, by rw [a6]; exact d2, ?_⟩
        rw [List.map_append]
        show ∀ q, q < 3 → (d.testBit q = true ↔ q ∈ K.map (fun k => k.1) ++ [(clOf tk s (i + 1) c y.2).1])
        rw [clOf_1]; exact d3
  by_cases h3 : 3 ≤ s
  · rw [if_pos (show (3 : Int32) ≤ nI s from (nI_le' (a := 3) (by omega) (by omega)).mpr h3)]
    refine fin I h (FrZ.rfg z r I J) (fun _ => rfl) (fun _ => ⟨b, b1, b2, fun q hq => ?_⟩)
    rw [b3 q hq, List.mem_append]
    exact ⟨Or.inl, fun x => x.elim id (fun x => by have := List.mem_singleton.mp x; omega)⟩
  · obtain ⟨u1, u2, u3⟩ := mk_u b b1 s (by omega)
    rw [if_neg (show ¬ (3 : Int32) ≤ nI s from fun y => h3 ((nI_le' (a := 3) (by omega) (by omega)).mp y)), m24, u1, sI_mk]
    refine fin _ (RfW.cg hT h (fun j a b => up2_x (by omega)) (by rw [up2_x (by omega)]; exact h.2.2.2.2.2.2.2.2.1) (fun j _ => by rw [up2_ne (by omega)]) (up2_ne (by omega))) ⟨fun q a _ _ => up2_ne a, fun j _ => up2_x (by omega), fun j _ => by rw [up2_ne (by omega)], fun _ _ => rfl⟩ (fun k => by rw [up2_ne (by omega)]) (fun _ => ⟨b ||| 2 ^ s, u2, up2_v, fun q hq => ?_⟩)
    rw [u3 q hq, b3 q hq, List.mem_append, List.mem_singleton]
theorem qc_ok (hn : 100000 ≤ n) (hT : TokOK n z C t u tk Tq) (hE : ∀ i, 300 ≤ i → (tk i).1 = 39) {K : List Cl4} (hi : (tk i).1 ≠ 39) (hl : c.length ≤ i) (h : RfW z r so Tq I J i c p 0 w) (hK : RkS z r I K) (hM : MkS z I (K.map (fun k => k.1))) (hK20 : K.length ≤ 20) (hF : ∀ e, pCl tk K i c = Sum.inl e → 1 ≤ e.1 ∧ e.1 ≤ 6) : ∃ f I' J', f_X11_clause n (z + 83) (mk z C I J t u) = some (nI f, mk z C I' J' t u) ∧ FrZ z r I I' J J' ∧ OutR z r Tq K f I' J' (pCl tk K i c) := by
  rw [cl_eq, q_sort hT h.1, cl_some]
  unfold pCl at hF ⊢
  by_cases wd : 18 ≤ (tk i).1 ∧ (tk i).1 ≤ 23
  · have nw : ¬ ¬ (18 ≤ (tk i).1 ∧ (tk i).1 ≤ 23) := fun y => y wd
    rw [if_neg nw] at hF ⊢
    rw [if_pos wd]
    obtain ⟨s, hs⟩ : ∃ s, (tk i).1 = s + 18 := ⟨(tk i).1 - 18, by omega⟩
    rw [hs, show s + 18 - 18 = s by omega] at hF ⊢
    rw [if_pos (show 0 ≤ nI s from (nI_le' (a := 0) (by omega) (by omega)).mpr (Nat.zero_le _))]
    obtain ⟨b, b1, b2, b3⟩ := id hM
    have m24 : mI (mk z C I J t u) (z + 83) 24 = nI b := b2
    by_cases d : s < 3 ∧ s ∈ K.map (fun k => k.1)
    · rw [if_pos d, if_neg (show ¬ (3 : Int32) ≤ nI s from fun y => by have := (nI_le' (a := 3) (by omega) (by omega)).mp y; omega), m24, if_pos ((mk_b b b1 s d.1).mpr ((b3 s d.1).mpr d.2))]
      exact ⟨4, I, J, rfl, FrZ.rfg z r I J, rfl, h.1⟩
    · rw [if_neg d] at hF ⊢
      have hF' : ¬ 20 ≤ K.length → ∀ e, pBody tk s (i + 1) c = Sum.inl e → 1 ≤ e.1 ∧ e.1 ≤ 6 := fun g e he => hF e (by rw [if_neg g, he])
      have go : ∃ f I' J', cJ n z (nI s) (mk z C I J t u) = some (nI f, mk z C I' J' t u) ∧ FrZ z r I I' J J' ∧ OutR z r Tq K f I' J' (if 20 ≤ K.length then Sum.inl (6, i) else match pBody tk s (i + 1) c with
        | Sum.inl e => Sum.inl e
        | Sum.inr y => Sum.inr (y.1, clOf tk s (i + 1) c y.2, y.2)) := by
        by_cases g : 20 ≤ K.length
        · rw [if_pos g]
          refine ⟨6, I, J, ?_, FrZ.rfg z r I J, rfl, h.1⟩
          have hr := h.2.2.2.2.2.2.2.2.2.2.2.2
          have m15 : mI (mk z C I J t u) (z + 83) 15 = nI (700 * r) := h.2.1
          have m0 : mI (mk z C I J t u) (z + 85) (700 * r) = nI K.length := hK.1
          unfold cJ
          simp only [bd]
          rw [g83_5, n85, m15, ck_t (inb_nI (by omega) (by omega)), cl_nI (by omega), m0, if_pos (show nI K.length = (20 : Int32) by rw [show K.length = 20 by omega]; rfl)]
          rfl
        · exact cJ_ok hn hT hE (by omega) d hi hl h hK hM hK20 (hF' g)
      by_cases h3 : 3 ≤ s
      · rw [if_pos (show (3 : Int32) ≤ nI s from (nI_le' (a := 3) (by omega) (by omega)).mpr h3)]; exact go
      · rw [if_neg (show ¬ (3 : Int32) ≤ nI s from fun y => h3 ((nI_le' (a := 3) (by omega) (by omega)).mp y)), m24, if_neg (fun y => d ⟨by omega, (b3 s (by omega)).mp ((mk_b b b1 s (by omega)).mp y)⟩)]; exact go
  · rw [if_pos wd, if_neg wd, if_neg (by decide)]
    exact ⟨1, I, J, rfl, FrZ.rfg z r I J, rfl, h.1⟩
end QG
