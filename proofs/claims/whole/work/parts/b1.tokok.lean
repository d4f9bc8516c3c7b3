/-! THE REFERENCE'S TOKENS are these tokens -/
section RP
variable {n z C t : Nat} {u : Option Nat} {L : Nat} {tp : Nat → Nat}
def TqR (z L : Nat) (tp : Nat → Nat) : TQ := fun I J i => TpR z L tp I ∧ i ≤ psT L tp i ∧ psT L tp i ≤ L ∧ LxR z L tp I J (psT L tp i)
theorem wn_0 {S : MS} : f_X11_w6 n (119 : Int32) (101 : Int32) (105 : Int32) (103 : Int32) (104 : Int32) (116 : Int32) S = some (nJ (pkN (WDS.getD 0 [])), S) := congrArg (fun x => some (x, S)) (show _ = nJ (pkN (WDS.getD 0 [])) by decide +kernel)
theorem wn_1 {S : MS} : f_X11_w4 n (108 : Int32) (105 : Int32) (101 : Int32) (115 : Int32) S = some (nJ (pkN (WDS.getD 1 [])), S) := congrArg (fun x => some (x, S)) (show _ = nJ (pkN (WDS.getD 1 [])) by decide +kernel)
theorem wn_2 {S : MS} : f_X11_w6 n (98 : Int32) (101 : Int32) (115 : Int32) (105 : Int32) (100 : Int32) (101 : Int32) S = some (nJ (pkN (WDS.getD 2 [])), S) := congrArg (fun x => some (x, S)) (show _ = nJ (pkN (WDS.getD 2 [])) by decide +kernel)
theorem wn_3 : ((120 : Int64)) = nJ (pkN (WDS.getD 3 [])) := by decide +kernel
theorem wn_4 : ((121 : Int64)) = nJ (pkN (WDS.getD 4 [])) := by decide +kernel
theorem wn_5 {S : MS} : f_X11_w4 n (104 : Int32) (111 : Int32) (117 : Int32) (114 : Int32) S = some (nJ (pkN (WDS.getD 5 [])), S) := congrArg (fun x => some (x, S)) (show _ = nJ (pkN (WDS.getD 5 [])) by decide +kernel)
theorem wn_7 {S : MS} : f_X11_w5 n (115 : Int32) (112 : Int32) (97 : Int32) (114 : Int32) (101 : Int32) S = some (nJ (pkN (WDS.getD 7 [])), S) := congrArg (fun x => some (x, S)) (show _ = nJ (pkN (WDS.getD 7 [])) by decide +kernel)
theorem wn_8 {S : MS} : f_X11_w4 n (109 : Int32) (97 : Int32) (110 : Int32) (121 : Int32) S = some (nJ (pkN (WDS.getD 8 [])), S) := congrArg (fun x => some (x, S)) (show _ = nJ (pkN (WDS.getD 8 [])) by decide +kernel)
theorem wn_9 {S : MS} : f_X11_w3 n (97 : Int32) (103 : Int32) (101 : Int32) S = some (nJ (pkN (WDS.getD 9 [])), S) := congrArg (fun x => some (x, S)) (show _ = nJ (pkN (WDS.getD 9 [])) by decide +kernel)
theorem wn_10 {S : MS} : f_X11_w4 n (97 : Int32) (114 : Int32) (101 : Int32) (97 : Int32) S = some (nJ (pkN (WDS.getD 10 [])), S) := congrArg (fun x => some (x, S)) (show _ = nJ (pkN (WDS.getD 10 [])) by decide +kernel)
theorem wn_11 {S : MS} : f_X11_w5 n (119 : Int32) (97 : Int32) (116 : Int32) (101 : Int32) (114 : Int32) S = some (nJ (pkN (WDS.getD 11 [])), S) := congrArg (fun x => some (x, S)) (show _ = nJ (pkN (WDS.getD 11 [])) by decide +kernel)
theorem ij0 {a0 a1 a2 a3 a4 a5 a6 a7 : Nat} (h : [a0, a1, a2, a3, a4, a5, a6, a7] = WDS.getD 6 []) : a0 = 115 := by
  have h : [a0, a1, a2, a3, a4, a5, a6, a7] = [115, 116, 114, 101, 110, 103, 116, 104] := h
  exact congrArg (fun l => List.getD l 0 0) h
theorem ij1 {a0 a1 a2 a3 a4 a5 a6 a7 : Nat} (h : [a0, a1, a2, a3, a4, a5, a6, a7] = WDS.getD 6 []) : a1 = 116 := by
  have h : [a0, a1, a2, a3, a4, a5, a6, a7] = [115, 116, 114, 101, 110, 103, 116, 104] := h
  exact congrArg (fun l => List.getD l 1 0) h
theorem ij2 {a0 a1 a2 a3 a4 a5 a6 a7 : Nat} (h : [a0, a1, a2, a3, a4, a5, a6, a7] = WDS.getD 6 []) : a2 = 114 := by
  have h : [a0, a1, a2, a3, a4, a5, a6, a7] = [115, 116, 114, 101, 110, 103, 116, 104] := h
  exact congrArg (fun l => List.getD l 2 0) h
theorem ij3 {a0 a1 a2 a3 a4 a5 a6 a7 : Nat} (h : [a0, a1, a2, a3, a4, a5, a6, a7] = WDS.getD 6 []) : a3 = 101 := by
  have h : [a0, a1, a2, a3, a4, a5, a6, a7] = [115, 116, 114, 101, 110, 103, 116, 104] := h
  exact congrArg (fun l => List.getD l 3 0) h
theorem ij4 {a0 a1 a2 a3 a4 a5 a6 a7 : Nat} (h : [a0, a1, a2, a3, a4, a5, a6, a7] = WDS.getD 6 []) : a4 = 110 := by
  have h : [a0, a1, a2, a3, a4, a5, a6, a7] = [115, 116, 114, 101, 110, 103, 116, 104] := h
  exact congrArg (fun l => List.getD l 4 0) h
theorem ij5 {a0 a1 a2 a3 a4 a5 a6 a7 : Nat} (h : [a0, a1, a2, a3, a4, a5, a6, a7] = WDS.getD 6 []) : a5 = 103 := by
  have h : [a0, a1, a2, a3, a4, a5, a6, a7] = [115, 116, 114, 101, 110, 103, 116, 104] := h
  exact congrArg (fun l => List.getD l 5 0) h
theorem ij6 {a0 a1 a2 a3 a4 a5 a6 a7 : Nat} (h : [a0, a1, a2, a3, a4, a5, a6, a7] = WDS.getD 6 []) : a6 = 116 := by
  have h : [a0, a1, a2, a3, a4, a5, a6, a7] = [115, 116, 114, 101, 110, 103, 116, 104] := h
  exact congrArg (fun l => List.getD l 6 0) h
theorem ij7 {a0 a1 a2 a3 a4 a5 a6 a7 : Nat} (h : [a0, a1, a2, a3, a4, a5, a6, a7] = WDS.getD 6 []) : a7 = 104 := by
  have h : [a0, a1, a2, a3, a4, a5, a6, a7] = [115, 116, 114, 101, 110, 103, 116, 104] := h
  exact congrArg (fun l => List.getD l 7 0) h
theorem wds_b : ∀ q, q < 24 → (∀ x, x ∈ WDS.getD q [] → 0 < x ∧ x < 256) ∧ 0 < pkN (WDS.getD q []) ∧ (q ≠ 6 → (WDS.getD q []).length ≤ 7) := by decide +kernel
theorem lt_nz {b : Nat} (h : ltB b = true) : 0 < b ∧ b < 256 := by
  have : (97 ≤ b ∧ b ≤ 122) ∨ (65 ≤ b ∧ b ≤ 90) := of_decide_eq_true h
  omega
theorem pk_60 {l : List Nat} (h : ∀ x, x ∈ l → 0 < x ∧ x < 256) (hl : l.length ≤ 7) : pkN l < 2 ^ 60 := by
  have h1 := pkN_lt (l := l) (fun x hx => (h x hx).2)
  have h2 : 256 ^ l.length ≤ 256 ^ 7 := Nat.pow_le_pow_right (by omega) hl
  omega
theorem jw {l : List Nat} (h : ∀ x, x ∈ l → 0 < x ∧ x < 256) {q : Nat} (hq : q < 24) (h6 : q ≠ 6) : jPk l = nJ (pkN (WDS.getD q [])) ↔ wX WDS 0 l = q := by
  obtain ⟨b1, b2, b3⟩ := wds_b q hq
  have b3 := b3 h6
  rw [wX_i hq]
  unfold jPk
  by_cases e : l.length ≤ 7
  · rw [if_pos e]
    exact ⟨fun w => pkN_inj h b1 (nJ_inj (pk_60 h e) (pk_60 b1 b3) w), fun w => by rw [w]⟩
  · rw [if_neg e]
    refine ⟨fun w => ?_, fun w => absurd (by rw [w]; exact b3) e⟩
    have := nJ_inj (a := 0) (by decide) (pk_60 b1 b3) (show nJ 0 = _ from w)
    omega
theorem st_ok {I : Nat → Nat → Int32} {J : Nat → Nat → Int64} (hT : TpR z L tp I) {p d : Nat} (hp : p + d ≤ L) (h11 : I (z + 83) 11 = nI p) (h10 : I (z + 83) 10 = nI (p + d)) : f_X11_isStrength n (z + 83) (mk z C I J t u) = some (bWC (decide (byL tp d p = WDS.getD 6 [])), mk z C I J t u) := by
  obtain ⟨h1, h2, h3⟩ := id hT
  have hb : ∀ j, j < L → tp j < 256 := fun j hj => (h3 j hj).2
  have m10 : mI (mk z C I J t u) (z + 83) 10 = nI (p + d) := h10
  have m11 : mI (mk z C I J t u) (z + 83) 11 = nI p := h11
  unfold f_X11_isStrength
  rw [m10, m11, nI_sb (by omega), show p + d - p = d by omega]
  by_cases d8 : d = 8
  · subst d8
    have hl8 : byL tp 8 p = [tp p, tp (p + 1), tp (p + 2), tp (p + 3), tp (p + 4), tp (p + 5), tp (p + 6), tp (p + 7)] := rfl
    rw [if_pos (show nI 8 = (8 : Int32) from rfl)]
    rw [← m11]
    rw [m11, q_by hT (by omega), cl_some]
    by_cases c0 : tp (p) = 115
    · rw [if_pos (show byV L tp (p) = (115 : Int32) by rw [show byV L tp (p) = nI (tp (p)) from if_pos (by omega), c0]; rfl)]
      rw [m11, show nI p + (1 : Int32) = nI (p + 1) from nI_pl p 1, q_by hT (by omega), cl_some]
      by_cases c1 : tp (p + 1) = 116
      · rw [if_pos (show byV L tp (p + 1) = (116 : Int32) by rw [show byV L tp (p + 1) = nI (tp (p + 1)) from if_pos (by omega), c1]; rfl)]
        rw [m11, show nI p + (2 : Int32) = nI (p + 2) from nI_pl p 2, q_by hT (by omega), cl_some]
        by_cases c2 : tp (p + 2) = 114
        · rw [if_pos (show byV L tp (p + 2) = (114 : Int32) by rw [show byV L tp (p + 2) = nI (tp (p + 2)) from if_pos (by omega), c2]; rfl)]
          rw [m11, show nI p + (3 : Int32) = nI (p + 3) from nI_pl p 3, q_by hT (by omega), cl_some]
          by_cases c3 : tp (p + 3) = 101
          · rw [if_pos (show byV L tp (p + 3) = (101 : Int32) by rw [show byV L tp (p + 3) = nI (tp (p + 3)) from if_pos (by omega), c3]; rfl)]
            rw [m11, show nI p + (4 : Int32) = nI (p + 4) from nI_pl p 4, q_by hT (by omega), cl_some]
            by_cases c4 : tp (p + 4) = 110
            · rw [if_pos (show byV L tp (p + 4) = (110 : Int32) by rw [show byV L tp (p + 4) = nI (tp (p + 4)) from if_pos (by omega), c4]; rfl)]
              rw [m11, show nI p + (5 : Int32) = nI (p + 5) from nI_pl p 5, q_by hT (by omega), cl_some]
              by_cases c5 : tp (p + 5) = 103
              · rw [if_pos (show byV L tp (p + 5) = (103 : Int32) by rw [show byV L tp (p + 5) = nI (tp (p + 5)) from if_pos (by omega), c5]; rfl)]
                rw [m11, show nI p + (6 : Int32) = nI (p + 6) from nI_pl p 6, q_by hT (by omega), cl_some]
                by_cases c6 : tp (p + 6) = 116
                · rw [if_pos (show byV L tp (p + 6) = (116 : Int32) by rw [show byV L tp (p + 6) = nI (tp (p + 6)) from if_pos (by omega), c6]; rfl)]
                  rw [m11, show nI p + (7 : Int32) = nI (p + 7) from nI_pl p 7, q_by hT (by omega), cl_some]
                  by_cases c7 : tp (p + 7) = 104
                  · rw [if_pos (show byV L tp (p + 7) = (104 : Int32) by rw [show byV L tp (p + 7) = nI (tp (p + 7)) from if_pos (by omega), c7]; rfl)]
                    rw [decide_eq_true (show byL tp 8 p = WDS.getD 6 [] by rw [hl8, c0, c1, c2, c3, c4, c5, c6, c7]; rfl)]
                    exact zb_1 _
                  · rw [if_neg (show ¬ byV L tp (p + 7) = (104 : Int32) from fun w => c7 (by rw [show byV L tp (p + 7) = nI (tp (p + 7)) from if_pos (by omega)] at w; exact (nI_inj (b := 104) (by have := hb (p + 7) (by omega); omega) (by omega)).mp w)), decide_eq_false (show ¬ byL tp 8 p = WDS.getD 6 [] from fun w => c7 (by rw [hl8] at w; exact (ij7 w)))]
                    exact zb_0 _
                · rw [if_neg (show ¬ byV L tp (p + 6) = (116 : Int32) from fun w => c6 (by rw [show byV L tp (p + 6) = nI (tp (p + 6)) from if_pos (by omega)] at w; exact (nI_inj (b := 116) (by have := hb (p + 6) (by omega); omega) (by omega)).mp w)), decide_eq_false (show ¬ byL tp 8 p = WDS.getD 6 [] from fun w => c6 (by rw [hl8] at w; exact (ij6 w)))]
                  exact zb_0 _
              · rw [if_neg (show ¬ byV L tp (p + 5) = (103 : Int32) from fun w => c5 (by rw [show byV L tp (p + 5) = nI (tp (p + 5)) from if_pos (by omega)] at w; exact (nI_inj (b := 103) (by have := hb (p + 5) (by omega); omega) (by omega)).mp w)), decide_eq_false (show ¬ byL tp 8 p = WDS.getD 6 [] from fun w => c5 (by rw [hl8] at w; exact (ij5 w)))]
                exact zb_0 _
            · rw [if_neg (show ¬ byV L tp (p + 4) = (110 : Int32) from fun w => c4 (by rw [show byV L tp (p + 4) = nI (tp (p + 4)) from if_pos (by omega)] at w; exact (nI_inj (b := 110) (by have := hb (p + 4) (by omega); omega) (by omega)).mp w)), decide_eq_false (show ¬ byL tp 8 p = WDS.getD 6 [] from fun w => c4 (by rw [hl8] at w; exact (ij4 w)))]
              exact zb_0 _
          · rw [if_neg (show ¬ byV L tp (p + 3) = (101 : Int32) from fun w => c3 (by rw [show byV L tp (p + 3) = nI (tp (p + 3)) from if_pos (by omega)] at w; exact (nI_inj (b := 101) (by have := hb (p + 3) (by omega); omega) (by omega)).mp w)), decide_eq_false (show ¬ byL tp 8 p = WDS.getD 6 [] from fun w => c3 (by rw [hl8] at w; exact (ij3 w)))]
            exact zb_0 _
        · rw [if_neg (show ¬ byV L tp (p + 2) = (114 : Int32) from fun w => c2 (by rw [show byV L tp (p + 2) = nI (tp (p + 2)) from if_pos (by omega)] at w; exact (nI_inj (b := 114) (by have := hb (p + 2) (by omega); omega) (by omega)).mp w)), decide_eq_false (show ¬ byL tp 8 p = WDS.getD 6 [] from fun w => c2 (by rw [hl8] at w; exact (ij2 w)))]
          exact zb_0 _
      · rw [if_neg (show ¬ byV L tp (p + 1) = (116 : Int32) from fun w => c1 (by rw [show byV L tp (p + 1) = nI (tp (p + 1)) from if_pos (by omega)] at w; exact (nI_inj (b := 116) (by have := hb (p + 1) (by omega); omega) (by omega)).mp w)), decide_eq_false (show ¬ byL tp 8 p = WDS.getD 6 [] from fun w => c1 (by rw [hl8] at w; exact (ij1 w)))]
        exact zb_0 _
    · rw [if_neg (show ¬ byV L tp (p) = (115 : Int32) from fun w => c0 (by rw [show byV L tp (p) = nI (tp (p)) from if_pos (by omega)] at w; exact (nI_inj (b := 115) (by have := hb (p) (by omega); omega) (by omega)).mp w)), decide_eq_false (show ¬ byL tp 8 p = WDS.getD 6 [] from fun w => c0 (by rw [hl8] at w; exact (ij0 w)))]
      exact zb_0 _
  · rw [if_neg (show ¬ nI d = (8 : Int32) from fun w => d8 ((nI_inj (b := 8) (by omega) (by omega)).mp w)), decide_eq_false (fun w => d8 (by have := congrArg List.length w; rw [byL_len] at this; exact this))]
    exact zb_0 _
theorem kd_2 (hb : ∀ j, j < L → tp j < 256) {p : Nat} : kdT L tp p < 256 ∧ (kdT L tp p = 2 ↔ (p < L ∧ ltB (tp p) = true)) := by
  unfold kdT
  by_cases pL : L ≤ p
  · rw [if_pos pL]; omega
  have b2 := hb p (by omega)
  rw [if_neg pL]
  by_cases lt : ltB (tp p) = true
  · rw [if_pos lt]; exact ⟨by omega, fun _ => ⟨by omega, lt⟩, fun _ => rfl⟩
  rw [if_neg lt]
  have no : ¬ (p < L ∧ ltB (tp p) = true) := fun w => lt w.2
  by_cases dg : dgB (tp p) = true
  · rw [if_pos dg]; exact ⟨by omega, (fun w => by omega), fun w => absurd w no⟩
  rw [if_neg dg]
  have so := sg_ok (tp p) b2
  split
  · split
    · exact ⟨by omega, (fun w => by omega), fun w => absurd w no⟩
    · exact ⟨by omega, (fun w => by omega), fun w => absurd w no⟩
  · split
    · exact ⟨by omega, (fun w => by omega), fun w => absurd w no⟩
    · rename_i h40
      refine ⟨b2, (fun w => absurd (so.2.2.2.mpr (by omega)) h40), fun w => absurd w no⟩
theorem tv3 (a : Nat) {P Q R : Prop} (h1 : 24 ≤ a) (h2 : a ≤ 39) (h : P) : a ≤ 40 ∧ (24 ≤ a → a ≤ 39 → P) ∧ (a = 40 → Q) ∧ (a < 24 → R) := ⟨by omega, fun _ _ => h, (fun w => absurd w (by omega)), fun w => absurd w (by omega)⟩
theorem tok_ok (hn : 100000 ≤ n) : TokOK n z C t u (tkT L tp) (TqR z L tp) := by
  have wd : ∀ (I : Nat → Nat → Int32) (J : Nat → Nat → Int64) (i : Nat), TqR z L tp I J i → ∀ j, j < L → tp j < 256 := fun I J i h j hj => (h.1.2.2 j hj).2
  refine ⟨?_, ?_, ?_, ?_, ?_, ?_⟩
  · intro I I' J J' i h hj h86 h14
    obtain ⟨⟨a1, a2, a3⟩, b, b', c1, c2, c3, c4, c5⟩ := h
    exact ⟨⟨by rw [hj 7 (by omega)]; exact a1, a2, fun j h => by rw [h86]; exact a3 j h⟩, b, b', by rw [hj 11 (by omega)]; exact c1, by rw [hj 10 (by omega)]; exact c2, by rw [hj 12 (by omega)]; exact c3, by rw [hj 13 (by omega)]; exact c4, by rw [h14]; exact c5⟩
  · intro I J i h h39
    have hb := wd I J i h
    obtain ⟨hT, b, b', c⟩ := id h
    have hlt : psT L tp i < L := by have := (tkT_i hb i).mpr; omega
    obtain ⟨l1, l2, -⟩ := lx_b hb hlt
    obtain ⟨I', J', e, f, g, k⟩ := ntk_ok (n := n) (C := C) (t := t) (u := u) (J := J) hn l2 hT c.2.1
    have hp := psT_b hb (i + 1)
    have hr := (runE_b (tp := tp) (pr := spB) L (lx L tp (psT L tp i)).2 (by omega) l2).1
    refine ⟨I', J', e, ⟨hT.on f (by unfold Fd5; omega), by show i + 1 ≤ skP L tp (lx L tp (psT L tp i)).2; unfold skP; omega, hp.1, k⟩, fun q hq => funext (fun j => f q j (fun w => hq w.1)), fun j hj => f _ j (fun w => by have := w.2; unfold Fd5 at this; omega), fun q hq => funext (fun j => g q j (fun w => hq w.1))⟩
  · intro I J i h
    have hb := wd I J i h
    obtain ⟨hT, b, b', c1, c2, c3, c4, c5⟩ := id h
    have hL := hT.2.1
    refine ⟨by omega, ?_⟩
    rw [c3]
    unfold tkT
    generalize psT L tp i = p at *
    by_cases pL : L ≤ p
    · unfold kdT; rw [lx_end pL, if_pos pL]
      exact tv3 39 (by omega) (by omega) rfl
    have b2 := hb p (by omega)
    unfold lx kdT
    rw [if_neg pL, if_neg pL]
    by_cases lt : ltB (tp p) = true
    · rw [if_pos lt, if_pos lt]
      have hw := wX_le (l := byL tp (runE L tp ltB p - p) p)
      show wX _ _ _ ≤ 40 ∧ (24 ≤ wX _ _ _ → wX _ _ _ ≤ 39 → _) ∧ _
      exact ⟨by omega, (fun _ _ => by omega), fun _ => Or.inl rfl, fun _ => rfl⟩
    rw [if_neg lt, if_neg lt]
    by_cases dg : dgB (tp p) = true
    · rw [if_pos dg, if_pos dg]
      exact tv3 38 (by omega) (by omega) rfl
    rw [if_neg dg, if_neg dg]
    have so := sg_ok (tp p) b2
    by_cases y : (sgX (tp p) = 24 ∨ sgX (tp p) = 25) ∧ p + 1 < L ∧ tp (p + 1) = 61
    · rw [if_pos y, if_pos y]
      rcases y.1 with s | s
      · rw [s, if_pos rfl]; exact tv3 36 (by omega) (by omega) rfl
      · rw [s, if_neg (by decide)]; exact tv3 37 (by omega) (by omega) rfl
    · rw [if_neg y, if_neg y]
      show sgX (tp p) ≤ 40 ∧ (24 ≤ sgX (tp p) → sgX (tp p) ≤ 39 → _ = nI (tkO (sgX (tp p)))) ∧ (sgX (tp p) = 40 → _) ∧ (sgX (tp p) < 24 → _)
      rcases so.1 with s | ⟨s1, s2, s3⟩
      · rw [if_pos s]; exact ⟨by omega, (fun _ _ => by omega), fun _ => Or.inr rfl, fun _ => by omega⟩
      · rw [if_neg (by omega), s3]; exact ⟨by omega, fun _ _ => rfl, (fun _ => by omega), fun _ => by omega⟩
  · intro I J i h h38
    have hb := wd I J i h
    obtain ⟨hT, b, b', c1, c2, c3, c4, c5⟩ := id h
    have hlt : psT L tp i < L := by have := (tkT_i hb i).mpr; omega
    unfold tkT at *
    generalize psT L tp i = p at *
    have b2 := hb p hlt
    have so := sg_ok (tp p) b2
    unfold lx at h38 ⊢
    rw [if_neg (by omega)] at h38
    rw [if_neg (show ¬ L ≤ p by omega)]
    by_cases lt : ltB (tp p) = true
    · rw [if_pos lt] at h38
      have hw := wX_le (l := byL tp (runE L tp ltB p - p) p)
      have h38 : wX WDS 0 (byL tp (runE L tp ltB p - p) p) = 38 := h38
      omega
    rw [if_neg lt] at h38 ⊢
    by_cases dg : dgB (tp p) = true
    · rw [if_pos dg]
      obtain ⟨m, ⟨m1, m2⟩, m3⟩ := c4 hlt lt dg
      exact ⟨m, m1, m3, fun _ => by show valF L tp (L - p) p 0 = m; omega, fun _ => by show 9999 < valF L tp (L - p) p 0; omega⟩
    · rw [if_neg dg] at h38
      by_cases y : (sgX (tp p) = 24 ∨ sgX (tp p) = 25) ∧ p + 1 < L ∧ tp (p + 1) = 61
      · rw [if_pos y] at h38
        have h38 : sgX (tp p) + 12 = 38 := h38
        omega
      · rw [if_neg y] at h38
        have h38 : sgX (tp p) = 38 := h38
        omega
  · intro I J i h
    have hb := wd I J i h
    obtain ⟨hT, b, b', c1, c2, c3, c4, c5⟩ := id h
    have kd := kd_2 hb (p := psT L tp i)
    have m12 : mI (mk z C I J t u) (z + 83) 12 = nI (kdT L tp (psT L tp i)) := c3
    unfold f_X11_nameOf tkT
    rw [m12]
    generalize psT L tp i = p at *
    by_cases k2 : kdT L tp p = 2
    · obtain ⟨pl, lt⟩ := kd.2.mp k2
      have hr := runE_b (tp := tp) (pr := ltB) (L - p) p (Nat.le_refl _) (by omega)
      have hlx : lx L tp p = ((wX WDS 0 (byL tp (runE L tp ltB p - p) p), 0), runE L tp ltB p) := by unfold lx; rw [if_neg (by omega), if_pos lt]
      rw [hlx] at c2 ⊢
      have hst := st_ok (n := n) (C := C) (J := J) (t := t) (u := u) hT (p := p) (d := runE L tp ltB p - p) (by omega) c1 (by rw [c2]; congr 1; show runE L tp ltB p = _; omega)
      have m14 : mJ (mk z C I J t u) (z + 83) 14 = jPk (byL tp (runE L tp ltB p - p) p) := c5 pl lt
      have hnz : ∀ x, x ∈ byL tp (runE L tp ltB p - p) p → 0 < x ∧ x < 256 := fun x hx => by
        obtain ⟨j, j1, j2, j3⟩ := byL_m _ _ _ hx
        rw [j3]; exact lt_nz (hr.2.2.1 j j1 (by omega))
      have h6 : (byL tp (runE L tp ltB p - p) p = WDS.getD 6 []) = (wX WDS 0 (byL tp (runE L tp ltB p - p) p) = 6) := propext (wX_i (by omega)).symm
      have k : ∀ q, q < 24 → q ≠ 6 → (lg_cmp (mJ (mk z C I J t u) (z + 83) 14) (nJ (pkN (WDS.getD q []))) = 0 ↔ wX WDS 0 (byL tp (runE L tp ltB p - p) p) = q) := fun q q1 q2 => by rw [lg_eq, m14]; exact jw hnz q1 q2
      have hw := wX_le (l := byL tp (runE L tp ltB p - p) p)
      show _ = some ((if wX WDS 0 (byL tp (runE L tp ltB p - p) p) < 12 then nI (wX WDS 0 (byL tp (runE L tp ltB p - p) p)) else -1), _)
      rw [k2, if_pos (show nI 2 = (2 : Int32) from rfl)]
      have hst : f_X11_isStrength n (z + 83) (mk z C I J t u) = some (bWC (decide (wX WDS 0 (byL tp (runE L tp ltB p - p) p) = 6)), mk z C I J t u) := by
        rw [hst]
        by_cases e6 : wX WDS 0 (byL tp (runE L tp ltB p - p) p) = 6
        · rw [decide_eq_true e6, decide_eq_true (h6.mpr e6)]
        · rw [decide_eq_false e6, decide_eq_false (fun w => e6 (h6.mp w))]
      generalize wX WDS 0 (byL tp (runE L tp ltB p - p) p) = T at *
      clear h6 hnz m14 c5 c4 hlx c2
      rw [wn_0, cl_some]
      by_cases t0 : T = 0
      · rw [if_pos ((k 0 (by omega) (by omega)).mpr t0), t0]; rfl
      rw [if_neg (fun w => t0 ((k 0 (by omega) (by omega)).mp w))]
      rw [wn_1, cl_some]
      by_cases t1 : T = 1
      · rw [if_pos ((k 1 (by omega) (by omega)).mpr t1), t1]; rfl
      rw [if_neg (fun w => t1 ((k 1 (by omega) (by omega)).mp w))]
      rw [wn_2, cl_some]
      by_cases t2 : T = 2
      · rw [if_pos ((k 2 (by omega) (by omega)).mpr t2), t2]; rfl
      rw [if_neg (fun w => t2 ((k 2 (by omega) (by omega)).mp w))]
      rw [wn_3]
      by_cases t3 : T = 3
      · rw [if_pos ((k 3 (by omega) (by omega)).mpr t3), t3]; rfl
      rw [if_neg (fun w => t3 ((k 3 (by omega) (by omega)).mp w))]
      rw [wn_4]
      by_cases t4 : T = 4
      · rw [if_pos ((k 4 (by omega) (by omega)).mpr t4), t4]; rfl
      rw [if_neg (fun w => t4 ((k 4 (by omega) (by omega)).mp w))]
      rw [wn_5, cl_some]
      by_cases t5 : T = 5
      · rw [if_pos ((k 5 (by omega) (by omega)).mpr t5), t5]; rfl
      rw [if_neg (fun w => t5 ((k 5 (by omega) (by omega)).mp w))]
      rw [hst, cl_some]
      by_cases t6 : T = 6
      · rw [if_neg (show ¬ bWC (decide (T = 6)) = 0 by rw [decide_eq_true t6]; decide), t6]; rfl
      rw [if_pos (show bWC (decide (T = 6)) = 0 by rw [decide_eq_false t6]; rfl)]
      rw [wn_7, cl_some]
      by_cases t7 : T = 7
      · rw [if_pos ((k 7 (by omega) (by omega)).mpr t7), t7]; rfl
      rw [if_neg (fun w => t7 ((k 7 (by omega) (by omega)).mp w))]
      rw [wn_8, cl_some]
      by_cases t8 : T = 8
      · rw [if_pos ((k 8 (by omega) (by omega)).mpr t8), t8]; rfl
      rw [if_neg (fun w => t8 ((k 8 (by omega) (by omega)).mp w))]
      rw [wn_9, cl_some]
      by_cases t9 : T = 9
      · rw [if_pos ((k 9 (by omega) (by omega)).mpr t9), t9]; rfl
      rw [if_neg (fun w => t9 ((k 9 (by omega) (by omega)).mp w))]
      rw [wn_10, cl_some]
      by_cases t10 : T = 10
      · rw [if_pos ((k 10 (by omega) (by omega)).mpr t10), t10]; rfl
      rw [if_neg (fun w => t10 ((k 10 (by omega) (by omega)).mp w))]
      rw [wn_11, cl_some]
      by_cases t11 : T = 11
      · rw [if_pos ((k 11 (by omega) (by omega)).mpr t11), t11]; rfl
      rw [if_neg (fun w => t11 ((k 11 (by omega) (by omega)).mp w))]
      rw [if_neg (by omega)]
    · rw [if_neg (show ¬ nI (kdT L tp p) = (2 : Int32) from fun w => k2 ((nI_inj (b := 2) (by omega) (by omega)).mp w)), if_neg (fun w => k2 (kd.2.mpr ?_))]
      by_cases pl : p < L
      · refine ⟨pl, ?_⟩
        by_cases lt : ltB (tp p) = true
        · exact lt
        · exfalso
          have so := sg_ok (tp p) (hb p pl)
          unfold lx at w
          rw [if_neg (by omega), if_neg lt] at w
          by_cases dg : dgB (tp p) = true
          · rw [if_pos dg] at w; have w : 38 < 12 := w; omega
          · rw [if_neg dg] at w
            by_cases y : (sgX (tp p) = 24 ∨ sgX (tp p) = 25) ∧ p + 1 < L ∧ tp (p + 1) = 61
            · rw [if_pos y] at w; have w : sgX (tp p) + 12 < 12 := w; omega
            · rw [if_neg y] at w; have w : sgX (tp p) < 12 := w; omega
      · rw [lx_end (by omega)] at w; have w : 39 < 12 := w; omega
  · intro I J i h q q1 q2
    have hb := wd I J i h
    obtain ⟨hT, b, b', c1, c2, c3, c4, c5⟩ := id h
    have kd := kd_2 hb (p := psT L tp i)
    unfold tkT
    rw [c3, wdJ_pk q q2 q1]
    generalize psT L tp i = p at *
    have e2 : nI (kdT L tp p) = nI 2 ↔ kdT L tp p = 2 := nI_inj (by omega) (by omega)
    rw [e2]
    by_cases k2 : kdT L tp p = 2
    · obtain ⟨pl, lt⟩ := kd.2.mp k2
      have hr := runE_b (tp := tp) (pr := ltB) (L - p) p (Nat.le_refl _) (by omega)
      have hlx : lx L tp p = ((wX WDS 0 (byL tp (runE L tp ltB p - p) p), 0), runE L tp ltB p) := by unfold lx; rw [if_neg (by omega), if_pos lt]
      have hnz : ∀ x, x ∈ byL tp (runE L tp ltB p - p) p → 0 < x ∧ x < 256 := fun x hx => by
        obtain ⟨j, j1, j2, j3⟩ := byL_m _ _ _ hx
        rw [j3]; exact lt_nz (hr.2.2.1 j j1 (by omega))
      rw [hlx, c5 pl lt]
      show _ ↔ wX WDS 0 (byL tp (runE L tp ltB p - p) p) = q
      rw [jw hnz q2 (by omega)]
      exact ⟨fun w => w.2, fun w => ⟨k2, w⟩⟩
    · refine ⟨fun w => absurd w.1 k2, fun w => ?_⟩
      exfalso
      by_cases pl : p < L
      · by_cases lt : ltB (tp p) = true
        · exact k2 (kd.2.mpr ⟨pl, lt⟩)
        · have so := sg_ok (tp p) (hb p pl)
          unfold lx at w
          rw [if_neg (by omega), if_neg lt] at w
          by_cases dg : dgB (tp p) = true
          · rw [if_pos dg] at w; have w : 38 = q := w; omega
          · rw [if_neg dg] at w
            by_cases y : (sgX (tp p) = 24 ∨ sgX (tp p) = 25) ∧ p + 1 < L ∧ tp (p + 1) = 61
            · rw [if_pos y] at w; have w : sgX (tp p) + 12 = q := w; omega
            · rw [if_neg y] at w; have w : sgX (tp p) = q := w; omega
      · rw [lx_end (by omega)] at w; have w : 39 = q := w; omega
end RP
