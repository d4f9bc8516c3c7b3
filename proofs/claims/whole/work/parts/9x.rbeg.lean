/-! THE REFERENCE'S READER: what begins a ONE, what stands behind it; runs -/
section RH
variable {n z C t r so : Nat} {u : Option Nat} {I : Nat → Nat → Int32} {J : Nat → Nat → Int64} {tk : Nat → Nat × Nat} {Tq : TQ} {i op : Nat} {c : Cd} {p : List Nat} {w : Bool}
theorem q_isW (hT : TokOK n z C t u tk Tq) (h : Tq I J i) {q : Nat} (h1 : 12 ≤ q) (h2 : q < 24) : f_X11_isWord n (z + 83) (wdJ q) (mk z C I J t u) = some ((if (tk i).1 = q then 1 else 0), mk z C I J t u) := by
  have hw := hT.2.2.2.2.2 I J i h q h1 h2
  have m12 : mI (mk z C I J t u) (z + 83) 12 = I (z + 83) 12 := rfl
  have m14 : mJ (mk z C I J t u) (z + 83) 14 = J (z + 83) 14 := rfl
  unfold f_X11_isWord
  rw [m12, m14]
  by_cases e : (tk i).1 = q
  · obtain ⟨a1, a2⟩ := hw.mpr e
    rw [if_pos (show I (z + 83) 12 = (2 : Int32) from a1), if_pos ((lg_eq _ _).mpr a2), zb_1, if_pos e]
  · rw [if_neg e]
    by_cases a1 : I (z + 83) 12 = (2 : Int32)
    · rw [if_pos a1, if_neg (fun w => e (hw.mp ⟨a1, (lg_eq _ _).mp w⟩)), zb_0]
    · rw [if_neg a1, zb_0]
theorem w_min {S : MS} : f_X11_w3 n (109 : Int32) (105 : Int32) (110 : Int32) S = some (wdJ 12, S) := rfl
theorem w_max {S : MS} : f_X11_w3 n (109 : Int32) (97 : Int32) (120 : Int32) S = some (wdJ 13, S) := rfl
theorem w_not {S : MS} : f_X11_w3 n (110 : Int32) (111 : Int32) (116 : Int32) S = some (wdJ 14, S) := rfl
theorem w_and {S : MS} : f_X11_w3 n (97 : Int32) (110 : Int32) (100 : Int32) S = some (wdJ 15, S) := rfl
/-- a pile without a marker, or its last one -/
theorem split_m : ∀ p : List Nat, (∀ o, o ∈ p → o < 40) ∨ ∃ b m s, p = (b ++ [m]) ++ List.reverse s ∧ 40 ≤ m ∧ ∀ o, o ∈ s → o < 40 := by
  intro p
  obtain ⟨q, rfl⟩ : ∃ q : List Nat, p = q.reverse := ⟨p.reverse, (List.reverse_reverse p).symm⟩
  induction q with
  | nil => exact Or.inl (fun o ho => by cases ho)
  | cons o q ih =>
    rw [List.reverse_cons]
    by_cases h40 : 40 ≤ o
    · exact Or.inr ⟨q.reverse, o, [], by rw [List.reverse_nil, List.append_nil], h40, fun o ho => by cases ho⟩
    · rcases ih with ih | ⟨b, m, s, e, m1, m2⟩
      · refine Or.inl (fun x hx => ?_)
        rcases List.mem_append.mp hx with w | w
        · exact ih x w
        · rw [List.mem_singleton] at w; omega
      · refine Or.inr ⟨b, m, o :: s, by rw [e, List.reverse_cons, List.append_assoc], m1, fun x hx => ?_⟩
        rcases List.mem_cons.mp hx with w | w
        · omega
        · exact m2 x w
/-- no ask may begin here -/
def NoA (a1 : Int32) (p : List Nat) : Prop := a1 = 0 ∨ (∃ o, o ∈ p ∧ 40 ≤ o) ∨ ∃ p' o, p = p' ++ [o] ∧ 3 < rkN o
def AskA (a1 : Int32) (p : List Nat) : Prop := a1 ≠ 0 ∧ (∀ o, o ∈ p → o < 40) ∧ (p = [] ∨ ∃ p' o, p = p' ++ [o] ∧ 1 ≤ rkN o ∧ rkN o ≤ 3)
theorem q_ask (hn : 100000 ≤ n) (h : RfS z r so Tq I J i c p op w) (hp : ∀ o, o ∈ p → o < 1000) (a1 : Int32) : ∃ x, f_X11_isAskAhead n (z + 83) a1 (mk z C I J t u) = some (x, mk z C I J t u) ∧ (NoA a1 p → x = 0) ∧ (AskA a1 p → x = 1) := by
  unfold f_X11_isAskAhead
  by_cases ha : a1 = 0
  · exact ⟨0, by rw [if_pos ha, zb_0], fun _ => rfl, fun w => absurd ha w.1⟩
  rw [if_neg ha]
  rcases split_m p with h40 | ⟨b, m, s, e, m1, m2⟩
  · have em := q_mark (n := n) (C := C) (t := t) (u := u) (a := []) (Q := p.reverse) hn h (by rw [List.nil_append, List.reverse_reverse]) (fun o ho => h40 o (List.mem_reverse.mp ho)) (Or.inl rfl)
    have m20 : mI (mk z C I J t u) (z + 83) 20 = nI p.length := h.2.2.2.2.1
    have hl := h.2.2.2.2.2.2.2.2.2.2.1
    rw [em, cl_some, if_neg (show ¬ (0 : Int32) ≤ ixP ([] : List Nat).length by decide), m20]
    by_cases hp0 : p = []
    · subst hp0
      refine ⟨1, by rw [if_pos (show nI ([] : List Nat).length = 0 from rfl), zb_1], fun w => ?_, fun _ => rfl⟩
      rcases w with w | ⟨o, w, -⟩ | ⟨p', o, w, -⟩
      · exact absurd w ha
      · cases w
      · have := congrArg List.length w
        rw [List.length_append] at this
        have : 0 = p'.length + 1 := this
        omega
    · obtain ⟨p', o, rfl⟩ : ∃ p' o, p = p' ++ [o] := ⟨p.dropLast, p.getLast hp0, (List.dropLast_concat_getLast hp0).symm⟩
      have hlen : (p' ++ [o]).length = p'.length + 1 := by rw [List.length_append]; rfl
      have m87 : mI (mk z C I J t u) (z + 87) p'.length = nI o := plF_top h.2.2.2.2.2.1
      have ho1 := hp o (List.mem_append.mpr (Or.inr (List.mem_singleton.mpr rfl)))
      have hr8 := rkN_lt o
      rw [hlen] at hl ⊢
      rw [if_neg (show ¬ nI (p'.length + 1) = (0 : Int32) by rw [show (0 : Int32) = nI 0 from rfl, nI_inj (by omega) (by omega)]; omega), g83_19, n87, nI_s1 (by omega), Nat.add_sub_cancel, ck_t (inb_nI (by omega) (by omega)), cl_nI (by omega), m87, q_rank ho1, cl_some, s_isIn, cl_some, ite_bI]
      have hin : ((1 : Int32) ≤ nI (rkN o) ∧ nI (rkN o) ≤ (3 : Int32)) ↔ (1 ≤ rkN o ∧ rkN o ≤ 3) := by
        rw [show (1 : Int32) = nI 1 from rfl, show (3 : Int32) = nI 3 from rfl, nI_le' (by omega) (by omega), nI_le' (by omega) (by omega)]
      by_cases q : 1 ≤ rkN o ∧ rkN o ≤ 3
      · refine ⟨1, by rw [if_pos (hin.mpr q), zb_1], fun w => ?_, fun _ => rfl⟩
        rcases w with w | ⟨x, w1, w2⟩ | ⟨p2, o2, w1, w2⟩
        · exact absurd w ha
        · have := h40 x w1; omega
        · have := (List.append_inj' w1 rfl).2
          cases this
          omega
      · refine ⟨0, by rw [if_neg (fun w => q (hin.mp w)), zb_0], fun _ => rfl, fun w => ?_⟩
        rcases w.2.2 with w1 | ⟨p2, o2, w1, w2⟩
        · have := congrArg List.length w1; rw [hlen] at this; cases this
        · have := (List.append_inj' w1 rfl).2
          cases this
          exact absurd w2 q
  · have em := q_mark (n := n) (C := C) (t := t) (u := u) (a := b ++ [m]) (Q := s) hn h e m2 (Or.inr ⟨b, m, rfl, m1, hp m (by rw [e]; exact List.mem_append.mpr (Or.inl (List.mem_append.mpr (Or.inr (List.mem_singleton.mpr rfl))))) ⟩)
    have hl := h.2.2.2.2.2.2.2.2.2.2.1
    have hbl : (b ++ [m]).length = b.length + 1 := by rw [List.length_append]; rfl
    rw [e, lenr, hbl] at hl
    refine ⟨0, ?_, fun _ => rfl, fun w => ?_⟩
    · rw [em, cl_some, hbl, if_pos (show (0 : Int32) ≤ ixP (b.length + 1) by
        unfold ixP
        rw [if_neg (by omega), show (0 : Int32) = nI 0 from rfl, nI_le' (by omega) (by omega)]; omega), zb_0]
    · have := w.2.1 m (by rw [e]; exact List.mem_append.mpr (Or.inl (List.mem_append.mpr (Or.inr (List.mem_singleton.mpr rfl)))))
      omega
/-- what begins a ONE, by its token -/
theorem bg_eval (hT : TokOK n z C t u tk Tq) (hso : so < 4) (h : RfS z r so Tq I J i c p op w) (a1 : Int32) : f_X11_beginOne n (z + 83) a1 (mk z C I J t u) =
    (if (tk i).1 = 38 then (if (tk i).2 ≤ 9999 then cv (f_X11_emit n (z + 83) (nI 0) (nI (tk i).2) (mk z C I J t u)) fun S25 => cv (f_X11_nextToken n (z + 83) S25) fun S28 => cv (f_X11_whole n (z + 83) S28) fun S31 => some ((0 : Int32), S31) else some (nI 2, mk z C I J t u))
     else if (tk i).1 < 12 then (if isOfN so (tk i).1 = true then cv (f_X11_emit n (z + 83) (nI 1) (nI (tk i).1) (mk z C I J t u)) fun S25 => cv (f_X11_nextToken n (z + 83) S25) fun S28 => cv (f_X11_whole n (z + 83) S28) fun S31 => some ((0 : Int32), S31) else some (nI 5, mk z C I J t u))
     else if (tk i).1 = 32 then cl (f_X11_opensBy n (z + 83) (40 : Int32) (mk z C I J t u)) fun x S => some (x, S)
     else if (tk i).1 = 29 then cl (f_X11_opensBy n (z + 83) (2 : Int32) (mk z C I J t u)) fun x S => some (x, S)
     else if (tk i).1 = 12 then cl (f_X11_opensBy n (z + 83) (41 : Int32) (mk z C I J t u)) fun x S => some (x, S)
     else if (tk i).1 = 13 then cl (f_X11_opensBy n (z + 83) (42 : Int32) (mk z C I J t u)) fun x S => some (x, S)
     else if (tk i).1 = 14 then cl (f_X11_isAskAhead n (z + 83) a1 (mk z C I J t u)) fun x68 S65 => (if x68 = 0 then some (nI 1, S65) else cl (f_X11_opensBy n (z + 83) (20 : Int32) S65) fun x S => some (x, S))
     else some (nI 1, mk z C I J t u)) := by
  obtain ⟨t0, t1, t2, t3, t4⟩ := hT.2.2.1 I J i h.1
  have hnm := hT.2.2.2.2.1 I J i h.1
  unfold f_X11_beginOne
  simp only [jn]
  rw [hnm, cl_some]
  by_cases k38 : (tk i).1 = 38
  · obtain ⟨m, b1, b2, b3, b4⟩ := hT.2.2.2.1 I J i h.1 k38
    have m12 : mI (mk z C I J t u) (z + 83) 12 = (1 : Int32) := by rw [mI_mk, t2 (by omega) (by omega), k38]; rfl
    have m13 : mI (mk z C I J t u) (z + 83) 13 = nI m := b2
    rw [m12, m13, if_pos rfl, if_pos k38, if_neg (show ¬ (tk i).1 < 12 by omega)]
    by_cases q : m ≤ 9999
    · have hv := b3 q
      rw [if_pos (show nI m ≤ (9999 : Int32) by rw [show (9999 : Int32) = nI 9999 from rfl, nI_le' (by omega) (by omega)]; omega), if_pos (show (-1 : Int32) < 0 by decide), if_pos rfl, if_pos rfl, if_pos rfl, if_pos (by omega), hv]
      rfl
    · have := b4 (by omega)
      rw [if_neg (show ¬ nI m ≤ (9999 : Int32) by rw [show (9999 : Int32) = nI 9999 from rfl, nI_le' (by omega) (by omega)]; omega), if_neg (by omega)]
      rfl
  · have n12 : ¬ mI (mk z C I J t u) (z + 83) 12 = (1 : Int32) := by
      rw [mI_mk]
      by_cases q24 : (tk i).1 < 24
      · rw [t4 q24]; decide
      · by_cases q40 : (tk i).1 = 40
        · rcases t3 q40 with w | w <;> (rw [w]; decide)
        · rw [t2 (by omega) (by omega)]
          have : (tk i).1 = 24 ∨ (tk i).1 = 25 ∨ (tk i).1 = 26 ∨ (tk i).1 = 27 ∨ (tk i).1 = 28 ∨ (tk i).1 = 29 ∨ (tk i).1 = 30 ∨ (tk i).1 = 31 ∨ (tk i).1 = 32 ∨ (tk i).1 = 33 ∨ (tk i).1 = 34 ∨ (tk i).1 = 35 ∨ (tk i).1 = 36 ∨ (tk i).1 = 37 ∨ (tk i).1 = 39 := by omega
          rcases this with e | e | e | e | e | e | e | e | e | e | e | e | e | e | e <;> (rw [e]; decide)
    rw [if_neg n12, if_neg k38]
    by_cases k12 : (tk i).1 < 12
    · rw [if_pos k12, if_pos k12, if_neg (show ¬ nI (tk i).1 < 0 from nI_pos (by omega)), q_isOf h hso k12, cl_some]
      by_cases q : isOfN so (tk i).1 = true
      · rw [if_pos q, if_pos q, if_neg (show ¬ (1 : Int32) = 0 by decide), if_neg n12, if_neg (show ¬ nI (tk i).1 < 0 from nI_pos (by omega)), if_neg n12, if_neg n12]
        rfl
      · rw [if_neg q, if_neg q, if_pos (show (0 : Int32) = 0 from rfl)]
        rfl
    · rw [if_neg k12, if_neg k12, if_pos (show (-1 : Int32) < 0 by decide), if_neg n12, if_pos (show (-1 : Int32) < 0 by decide), w_min, cl_some, q_isW hT h.1 (by omega) (by omega), cl_some, w_max, cl_some, q_isW hT h.1 (by omega) (by omega), cl_some, w_not, cl_some, q_isW hT h.1 (by omega) (by omega), cl_some]
      have c40 : mI (mk z C I J t u) (z + 83) 12 = (40 : Int32) ↔ (tk i).1 = 32 := by
        rw [mI_mk]
        by_cases q24 : (tk i).1 < 24
        · rw [t4 q24]; exact ⟨fun w => absurd w (by decide), fun w => by omega⟩
        · by_cases q40 : (tk i).1 = 40
          · rcases t3 q40 with w | w <;> (rw [w]; exact ⟨fun w => absurd w (by decide), fun w => by omega⟩)
          · rw [t2 (by omega) (by omega)]
            have : (tk i).1 = 24 ∨ (tk i).1 = 25 ∨ (tk i).1 = 26 ∨ (tk i).1 = 27 ∨ (tk i).1 = 28 ∨ (tk i).1 = 29 ∨ (tk i).1 = 30 ∨ (tk i).1 = 31 ∨ (tk i).1 = 32 ∨ (tk i).1 = 33 ∨ (tk i).1 = 34 ∨ (tk i).1 = 35 ∨ (tk i).1 = 36 ∨ (tk i).1 = 37 ∨ (tk i).1 = 39 := by omega
            rcases this with e | e | e | e | e | e | e | e | e | e | e | e | e | e | e <;> (rw [e]; decide)
      have c45 : mI (mk z C I J t u) (z + 83) 12 = (45 : Int32) ↔ (tk i).1 = 29 := by
        rw [mI_mk]
        by_cases q24 : (tk i).1 < 24
        · rw [t4 q24]; exact ⟨fun w => absurd w (by decide), fun w => by omega⟩
        · by_cases q40 : (tk i).1 = 40
          · rcases t3 q40 with w | w <;> (rw [w]; exact ⟨fun w => absurd w (by decide), fun w => by omega⟩)
          · rw [t2 (by omega) (by omega)]
            have : (tk i).1 = 24 ∨ (tk i).1 = 25 ∨ (tk i).1 = 26 ∨ (tk i).1 = 27 ∨ (tk i).1 = 28 ∨ (tk i).1 = 29 ∨ (tk i).1 = 30 ∨ (tk i).1 = 31 ∨ (tk i).1 = 32 ∨ (tk i).1 = 33 ∨ (tk i).1 = 34 ∨ (tk i).1 = 35 ∨ (tk i).1 = 36 ∨ (tk i).1 = 37 ∨ (tk i).1 = 39 := by omega
            rcases this with e | e | e | e | e | e | e | e | e | e | e | e | e | e | e <;> (rw [e]; decide)
      by_cases k32 : (tk i).1 = 32
      · rw [if_pos (c40.mpr k32), if_pos k32]
      rw [if_neg (fun w => k32 (c40.mp w)), if_neg k32]
      by_cases k29 : (tk i).1 = 29
      · rw [if_pos (c45.mpr k29), if_pos k29]
      rw [if_neg (fun w => k29 (c45.mp w)), if_neg k29]
      by_cases k1 : (tk i).1 = 12
      · rw [if_pos k1, if_pos k1, if_neg (by decide)]
      rw [if_neg k1, if_neg k1, if_pos rfl]
      by_cases k2 : (tk i).1 = 13
      · rw [if_pos k2, if_pos k2, if_neg (by decide)]
      rw [if_neg k2, if_neg k2, if_pos rfl]
      by_cases k3 : (tk i).1 = 14
      · rw [if_pos k3, if_pos k3, if_neg (by decide)]
        rfl
      · rw [if_neg k3, if_neg k3, if_pos rfl]
        rfl
end RH
