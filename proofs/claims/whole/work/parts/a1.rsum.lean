/-! THE REFERENCE READS ONE, SUM -/
section RX
variable {n z C t r so : Nat} {u : Option Nat} {tk : Nat → Nat × Nat} {Tq : TQ} {a1 : Int32}
theorem rf_One (hn : 100000 ≤ n) (hT : TokOK n z C t u tk Tq) (hso : so < 4) {bot : Nat} {R : Nat → Nat → Cd → PrR} (hR : RfSm n z C t r so u tk Tq a1 R (bot + 1)) (hgd : GdL R 8) : RfOn n z C t r so u tk Tq a1 (fun op i c => pOne tk so R op i c) bot := by
  intro op i c p hbot hop hp hpl hlast hA hci
  show OutO n z C t r so u Tq a1 i c p op (pOne tk so R op i c)
  have hmin := rn_min (n := n) (z := z) (C := C) (t := t) (r := r) (so := so) (u := u) (a1 := a1) (c := c) hT hso (8 - op) i p op (by omega) (by omega)
  have hj := cntS_le (tk := tk) (s := 29) (8 - op) i
  have hmax := cntS_max (tk := tk) (s := 29) (8 - op) i
  unfold pOne
  generalize cntS tk 29 (8 - op) i = j at *
  obtain ⟨P, hP⟩ : ∃ P : List Nat, P = p ++ List.replicate j 2 := ⟨_, rfl⟩
  rw [← hP] at hmin
  have hPl : P.length = p.length + j := by rw [hP, List.length_append, List.length_replicate]
  have hPm : ∀ o, o ∈ P → o < 1000 := fun o ho => by
    rw [hP] at ho
    rcases List.mem_append.mp ho with w | w
    · exact hp o w
    · rw [List.eq_of_mem_replicate w]; omega
  have hlast' : p = [] ∨ ∃ p' o, p = p' ++ [o] ∧ o < 1000 ∧ rkN o < 7 := hlast.imp id (fun ⟨p', o, e, h⟩ => ⟨p', o, e, hp o (by rw [e]; exact List.mem_append.mpr (Or.inr (List.mem_singleton.mpr rfl))), h⟩)
  -- faults at once
  have flt : ∀ f ie, 1 ≤ f → f ≤ 6 → (∀ (I : Nat → Nat → Int32) (J : Nat → Nat → Int64), RfS z r so Tq I J (i + j) c P (op + j) false → ∃ I' J', f_X11_beginOne n (z + 83) a1 (mk z C I J t u) = some (nI f, mk z C I' J' t u) ∧ Tq I' J' ie ∧ FrQ z r I I' J J') → OutO n z C t r so u Tq a1 i c p op (Sum.inl (f, ie)) := fun f ie h1 h2 h3 => hmin.tf (rn_f hT h1 h2 h3)
  -- a number or a name
  have lit : ∀ o v, (tk (i + j)).1 ≠ 39 → v ≤ 10000 → (∀ (I : Nat → Nat → Int32) (J : Nat → Nat → Int64), RfS z r so Tq I J (i + j) c P (op + j) false → f_X11_beginOne n (z + 83) a1 (mk z C I J t u) = cv (f_X11_emit n (z + 83) (nI o) (nI v) (mk z C I J t u)) fun S25 => cv (f_X11_nextToken n (z + 83) S25) fun S28 => cv (f_X11_whole n (z + 83) S28) fun S31 => some ((0 : Int32), S31)) → OutO n z C t r so u Tq a1 i c p op (Sum.inr (i + j + 1, c ++ (o, v) :: ngC j)) := by
    intro o v h39 hv hb
    refine hmin.tt (rn_b hT (by show i + j < i + j + 1; omega) (fun I J hs => ?_))
    have hi3 := (hT.2.2.1 I J _ hs.1).1
    obtain ⟨I1, e1, s1, f1, -, -, -⟩ := q_emit hT hs (by omega) (o := o) (v := v)
    obtain ⟨I2, J2, e2, s2, f2⟩ := q_next hT s1 h39
    have s2' : RfS z r so Tq I2 J2 (i + j + 1) (c ++ [(o, v)]) (p ++ List.replicate j 2) (op + j) false := by rw [← hP]; exact s2
    obtain ⟨I3, e3, s3, f3⟩ := q_whole hn hT s2' hlast' (by rw [List.length_append]; show c.length + 1 + j ≤ 300; omega) (by omega)
    refine ⟨I3, J2, by rw [hb I J hs, e1, cv_some, e2, cv_some, e3, cv_some], ?_, (f1.trq f2).trq f3⟩
    rw [show c ++ (o, v) :: ngC j = c ++ [(o, v)] ++ ngC j by rw [List.append_assoc]; rfl]
    rw [show op + j - j = op by omega] at s3
    exact s3
  unfold pOneJ
  by_cases k38 : (tk (i + j)).1 = 38
  · rw [if_pos k38]
    by_cases q : 9999 < (tk (i + j)).2
    · rw [if_pos q]
      exact flt 2 (i + j) (by omega) (by omega) (fun I J hs => ⟨I, J, by rw [bg_eval hT hso hs, if_pos k38, if_neg (by omega)], hs.1, FrQ.rfq z r I J⟩)
    · rw [if_neg q]
      exact lit 0 (tk (i + j)).2 (by omega) (by omega) (fun I J hs => by rw [bg_eval hT hso hs, if_pos k38, if_pos (by omega)])
  rw [if_neg k38]
  by_cases k12 : (tk (i + j)).1 < 12
  · rw [if_pos k12]
    by_cases q : isOfN so (tk (i + j)).1 = true
    · rw [if_pos q]
      exact lit 1 (tk (i + j)).1 (by omega) (by omega) (fun I J hs => by rw [bg_eval hT hso hs, if_neg k38, if_pos k12, if_pos q])
    · rw [if_neg q]
      exact flt 5 (i + j) (by omega) (by omega) (fun I J hs => ⟨I, J, by rw [bg_eval hT hso hs, if_neg k38, if_pos k12, if_neg q], hs.1, FrQ.rfq z r I J⟩)
  rw [if_neg k12]
  -- what is needed of a marker on the pile
  have pm : ∀ m, 40 ≤ m → m < 1000 → (∀ o, o ∈ P ++ [m] → o < 1000) ∧ (P ++ [m]).length ≤ 3 * (op + j + 1) + 6 ∧ (P ++ [m] = [] ∨ ∃ p' o, P ++ [m] = p' ++ [o] ∧ rkN o ≤ 4) ∧ NoA a1 (P ++ [m]) := fun m h1 h2 => by
    refine ⟨fun o ho => ?_, ?_, Or.inr ⟨P, m, rfl, by unfold rkN; rw [if_pos h1]; omega⟩, Or.inr (Or.inl ⟨m, List.mem_append.mpr (Or.inr (List.mem_singleton.mpr rfl)), h1⟩)⟩
    · rcases List.mem_append.mp ho with w | w
      · exact hPm o w
      · rw [List.mem_singleton] at w; omega
    · rw [List.length_append, hPl]; show p.length + j + 1 ≤ _; omega
  have memQ : ∀ (m : Nat) (Q : List Nat), m < 1000 → (∀ o, o ∈ Q → 3 ≤ o ∧ o ≤ 6) → ∀ o, o ∈ (P ++ [m]) ++ Q.reverse → o < 1000 := fun m Q hm hQ o ho => by
    rcases List.mem_append.mp ho with w | w
    · rcases List.mem_append.mp w with w | w
      · exact hPm o w
      · rw [List.mem_singleton] at w; omega
    · have := hQ o (List.mem_reverse.mp w); omega
  by_cases k32 : (tk (i + j)).1 = 32
  · rw [if_pos k32]
    by_cases q8 : 8 ≤ op + j
    · rw [if_pos q8]
      refine flt 3 (i + j) (by omega) (by omega) (fun I J hs => ?_)
      rcases q_opens (a := 40) hT hs (by omega) (by omega) (by omega) (by omega) (by omega) (by omega) with ⟨-, e⟩ | ⟨w, -⟩
      · exact ⟨I, J, by rw [bg_eval hT hso hs, if_neg k38, if_neg k12, if_pos k32, show (40 : Int32) = nI 40 from rfl, e, cl_some], hs.1, FrQ.rfq z r I J⟩
      · omega
    · rw [if_neg q8]
      have hop1 : RnT n z C t r so u Tq a1 (i + j) c P (op + j) false (i + j + 1) c (P ++ [40]) (op + j + 1) false := rn_b hT (by omega) (fun I J hs => by
        rcases q_opens (a := 40) hT hs (by omega) (by omega) (by omega) (by omega) (by omega) (by omega) with ⟨w, -⟩ | ⟨-, I', J', e, s1, f1⟩
        · omega
        · exact ⟨I', J', by rw [bg_eval hT hso hs, if_neg k38, if_neg k12, if_pos k32, show (40 : Int32) = nI 40 from rfl, e, cl_some], s1, f1⟩)
      obtain ⟨m1, m2, m3, m4⟩ := pm 40 (by omega) (by omega)
      have hS := hR (op + j + 1) (i + j + 1) c (P ++ [40]) (by omega) (by omega) m1 m2 m3 (fun _ => m4) (by omega)
      have hto := hmin.tt hop1
      cases hx : R (op + j + 1) (i + j + 1) c with
      | inl e => rw [hx] at hS; exact hto.tf hS
      | inr y =>
        obtain ⟨i2, c2⟩ := y
        rw [hx] at hS
        have hg := hgd _ _ _ _ _ (by omega) hx
        obtain ⟨Q, d1, g1, g2, g3, g4, g5⟩ := hS
        have g1 : c2 = d1 ++ mpC Q := g1
        have hcl : c2.length = d1.length + Q.length := by rw [g1, List.length_append, mpC_len]
        rw [pB_r]
        by_cases q33 : (tk i2).1 = 33
        · rw [if_pos q33]
          have hcl2 := rn_close (n := n) (z := z) (C := C) (t := t) (r := r) (so := so) (u := u) (a1 := a1) (i := i2) (c := d1) (op := op + j + 1) (p := p) (j := j) (m := 40) (Q := Q) (P := P) hn hT hP (memQ 40 Q (by omega) g3) (Or.inl rfl) q33 (q36 g3).1 hlast' (by omega) (by omega)
          rw [if_neg (by omega), List.append_nil, ← g1, show op + j + 1 - 1 - j = op by omega] at hcl2
          exact (hto.tt g4).tt hcl2
        · rw [if_neg q33]
          exact (hto.tt g4).tf (rn_in hn hT (by omega) (memQ 40 Q (by omega) g3) g3 g5 ⟨fun w => q33 w.1, fun w => by omega⟩)
  rw [if_neg k32]
  by_cases kmm : (tk (i + j)).1 = 12 ∨ (tk (i + j)).1 = 13
  · rw [if_pos kmm]
    obtain ⟨m, hm, hm41⟩ : ∃ m, m = (tk (i + j)).1 + 29 ∧ (m = 41 ∨ m = 42) := ⟨_, rfl, by omega⟩
    have hev : ∀ (I : Nat → Nat → Int32) (J : Nat → Nat → Int64), RfS z r so Tq I J (i + j) c P (op + j) false → f_X11_beginOne n (z + 83) a1 (mk z C I J t u) = cl (f_X11_opensBy n (z + 83) (nI m) (mk z C I J t u)) fun x S => some (x, S) := fun I J hs => by
      rw [bg_eval hT hso hs, if_neg k38, if_neg k12, if_neg k32, if_neg (by omega)]
      rcases kmm with w | w
      · rw [if_pos w, hm, w]; rfl
      · rw [if_neg (by omega), if_pos w, hm, w]; rfl
    by_cases q32 : (tk (i + j + 1)).1 = 32
    · rw [if_pos q32]
      by_cases q8 : 8 ≤ op + j
      · rw [if_pos q8]
        refine flt 3 (i + j + 1) (by omega) (by omega) (fun I J hs => ?_)
        obtain ⟨I1, J1, f1, hh⟩ := q_opens2 (a := m) hT hs hm41 (by omega) (by omega) (by omega)
        rcases hh with ⟨w, -, -⟩ | ⟨-, -, e, s1⟩ | ⟨-, w, -, -⟩
        · exact absurd q32 w
        · exact ⟨I1, J1, by rw [hev I J hs, e, cl_some], s1, f1⟩
        · omega
      · rw [if_neg q8]
        have hop1 : RnT n z C t r so u Tq a1 (i + j) c P (op + j) false (i + j + 2) c (P ++ [m]) (op + j + 1) false := rn_b hT (by omega) (fun I J hs => by
          obtain ⟨I1, J1, f1, hh⟩ := q_opens2 (a := m) hT hs hm41 (by omega) (by omega) (by omega)
          rcases hh with ⟨w, -, -⟩ | ⟨-, w, -, -⟩ | ⟨-, -, e, s1⟩
          · exact absurd q32 w
          · omega
          · exact ⟨I1, J1, by rw [hev I J hs, e, cl_some], s1, f1⟩)
        obtain ⟨m1, m2, m3, m4⟩ := pm m (by omega) (by omega)
        have hS := hR (op + j + 1) (i + j + 2) c (P ++ [m]) (by omega) (by omega) m1 m2 m3 (fun _ => m4) (by omega)
        have hto := hmin.tt hop1
        cases hx : R (op + j + 1) (i + j + 2) c with
        | inl e => rw [hx] at hS; exact hto.tf hS
        | inr y =>
          obtain ⟨i2, c2⟩ := y
          rw [hx] at hS
          have hg := hgd _ _ _ _ _ (by omega) hx
          obtain ⟨Q, d1, g1, g2, g3, g4, g5⟩ := hS
          have g1 : c2 = d1 ++ mpC Q := g1
          have hcl : c2.length = d1.length + Q.length := by rw [g1, List.length_append, mpC_len]
          rw [pB_r]
          have hto2 := hto.tt g4
          by_cases q34 : (tk i2).1 = 34
          · rw [if_pos q34]
            have hcm := rn_comma (n := n) (z := z) (C := C) (t := t) (r := r) (so := so) (u := u) (a1 := a1) (i := i2) (c := d1) (op := op + j + 1) (p := P) (m := m) (Q := Q) hn hT (memQ m Q (by omega) g3) hm41 q34 (fun o ho => ⟨((q36 g3).1 o ho).1, ((q36 g3).1 o ho).2.1⟩) (q36 g3).2.2 (by omega)
            rw [← g1] at hcm
            have hto3 := hto2.tt hcm
            obtain ⟨n1, n2, n3, n4⟩ := pm (m + 2) (by omega) (by omega)
            have hS2 := hR (op + j + 1) (i2 + 1) c2 (P ++ [m + 2]) (by omega) (by omega) n1 n2 n3 (fun _ => n4) (by omega)
            cases hx2 : R (op + j + 1) (i2 + 1) c2 with
            | inl e => rw [hx2] at hS2; exact hto3.tf hS2
            | inr y =>
              obtain ⟨i3, c3⟩ := y
              rw [hx2] at hS2
              have hg2 := hgd _ _ _ _ _ (by omega) hx2
              obtain ⟨Q2, d2, l1, l2, l3, l4, l5⟩ := hS2
              have l1 : c3 = d2 ++ mpC Q2 := l1
              have hcl2 : c3.length = d2.length + Q2.length := by rw [l1, List.length_append, mpC_len]
              rw [pB_r]
              have hto4 := hto3.tt l4
              by_cases q33 : (tk i3).1 = 33
              · rw [if_pos q33]
                have hcl3 := rn_close (n := n) (z := z) (C := C) (t := t) (r := r) (so := so) (u := u) (a1 := a1) (i := i3) (c := d2) (op := op + j + 1) (p := p) (j := j) (m := m + 2) (Q := Q2) (P := P) hn hT hP (memQ (m + 2) Q2 (by omega) l3) (Or.inr (by omega)) q33 (q36 l3).1 hlast' (by omega) (by omega)
                rw [if_pos (by omega), ← l1, show op + j + 1 - 1 - j = op by omega, show m + 2 - 36 = (tk (i + j)).1 - 5 by omega] at hcl3
                have hh := hto4.tt hcl3
                rw [show c3 ++ [((tk (i + j)).1 - 5, 0)] ++ ngC j = c3 ++ ((tk (i + j)).1 - 5, 0) :: ngC j by rw [List.append_assoc]; rfl] at hh
                exact hh
              · rw [if_neg q33]
                exact hto4.tf (rn_in hn hT (by omega) (memQ (m + 2) Q2 (by omega) l3) l3 l5 ⟨fun w => q33 w.1, fun w => by omega⟩)
          · rw [if_neg q34]
            exact hto2.tf (rn_in hn hT (by omega) (memQ m Q (by omega) g3) g3 g5 ⟨fun w => by omega, fun w => q34 w.1⟩)
    · rw [if_neg q32]
      refine flt 1 (i + j + 1) (by omega) (by omega) (fun I J hs => ?_)
      obtain ⟨I1, J1, f1, hh⟩ := q_opens2 (a := m) hT hs hm41 (by omega) (by omega) (by omega)
      rcases hh with ⟨-, e, s1⟩ | ⟨w, -, -, -⟩ | ⟨w, -, -, -⟩
      · exact ⟨I1, J1, by rw [hev I J hs, e, cl_some], s1, f1⟩
      · exact absurd w q32
      · exact absurd w q32
  rw [if_neg kmm]
  by_cases k29 : (tk (i + j)).1 = 29
  · rw [if_pos k29]
    have hj8 := hmax k29
    refine flt 3 (i + j) (by omega) (by omega) (fun I J hs => ?_)
    rcases q_opens (a := 2) hT hs (by omega) (by omega) (by omega) (by omega) (by omega) (by omega) with ⟨-, e⟩ | ⟨w, -⟩
    · exact ⟨I, J, by rw [bg_eval hT hso hs, if_neg k38, if_neg k12, if_neg k32, if_pos k29, show (2 : Int32) = nI 2 from rfl, e, cl_some], hs.1, FrQ.rfq z r I J⟩
    · omega
  · rw [if_neg k29]
    refine flt 1 (i + j) (by omega) (by omega) (fun I J hs => ?_)
    by_cases k14 : (tk (i + j)).1 = 14
    · obtain ⟨x, e, hx, -⟩ := q_ask (n := n) (C := C) (t := t) (u := u) hn hs hPm a1
      have hno : NoA a1 P := by
        by_cases j0 : j = 0
        · subst j0
          rw [show List.replicate 0 2 = ([] : List Nat) from rfl, List.append_nil] at hP
          rw [hP]; exact hA k14
        · refine Or.inr (Or.inr ⟨p ++ List.replicate (j - 1) 2, 2, ?_, by decide⟩)
          rw [hP, List.append_assoc, ← List.replicate_succ', show j - 1 + 1 = j by omega]
      refine ⟨I, J, ?_, hs.1, FrQ.rfq z r I J⟩
      rw [bg_eval hT hso hs, if_neg k38, if_neg k12, if_neg k32, if_neg k29, if_neg (by omega), if_neg (by omega), if_pos k14, e, cl_some, hx hno, if_pos rfl]
    · exact ⟨I, J, by rw [bg_eval hT hso hs, if_neg k38, if_neg k12, if_neg k32, if_neg k29, if_neg (fun w => kmm (Or.inl w)), if_neg (fun w => kmm (Or.inr w)), if_neg k14], hs.1, FrQ.rfq z r I J⟩
end RX
