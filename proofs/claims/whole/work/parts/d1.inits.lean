/-! THE SMALL CONSTRUCTORS -/
section IN
variable {n z l th : Nat} {K N : List Nat} {rl : List (Nat × Nat × Nat)} {I : Nat → Nat → Int32} {J : Nat → Nat → Int64} {α : Type}
theorem chn_hd {a k v : Nat} : chn ((a, k, v) :: rl) a k = some v := if_pos ⟨rfl, rfl⟩
theorem chn_tl {a k v a' k' : Nat} (h : ¬ (a' = a ∧ k' = k)) : chn ((a, k, v) :: rl) a' k' = chn rl a' k' := if_neg h
theorem apL {c : Nat} (h : K.length = l) : (K ++ [c]).getD l 0 = c := by rw [apD, if_pos h.symm]
theorem apO {c o : Nat} (h : K.length = l) (ho : o < l) : (K ++ [c]).getD o 0 = K.getD o 0 := by rw [apD, if_neg (by omega)]
theorem bk_sI (a k : Nat) (v : Int32) : sI (bk z K N rl I J) a k v = bk z K N rl (up2 I a k v) J := rfl
theorem bk_sJ (a k : Nat) (v : Int64) : sJ (bk z K N rl I J) a k v = bk z K N rl I (up2 J a k v) := rfl
def L6 (K : List Nat) (a b c d e f : Nat) : List Nat := K ++ [a] ++ [b] ++ [c] ++ [d] ++ [e] ++ [f]
theorem i8_ok (hn : 100000 ≤ n) (h : BkW z l K N rl I J) (ht : th < l) : f_X8_init n z (z + th) (bk z K N rl I J) = some (bk z (L6 K 12 12 12 12 12 12) (L6 N 6 6 6 6 40 24) ((th, 5, l + 1 + 1 + 1 + 1 + 1) :: (th, 4, l + 1 + 1 + 1 + 1) :: (th, 3, l + 1 + 1 + 1) :: (th, 2, l + 1 + 1) :: (th, 1, l + 1) :: (th, 0, l) :: rl) (flI (up2 I (z + th) 8 (-1)) (z + (l + 1 + 1 + 1 + 1 + 1)) 24 (-1)) J) ∧ BkW z (l + 1 + 1 + 1 + 1 + 1 + 1) (L6 K 12 12 12 12 12 12) (L6 N 6 6 6 6 40 24) ((th, 5, l + 1 + 1 + 1 + 1 + 1) :: (th, 4, l + 1 + 1 + 1 + 1) :: (th, 3, l + 1 + 1 + 1) :: (th, 2, l + 1 + 1) :: (th, 1, l + 1) :: (th, 0, l) :: rl) (flI (up2 I (z + th) 8 (-1)) (z + (l + 1 + 1 + 1 + 1 + 1)) 24 (-1)) J := by
  have h1 := h.alk 12 6 ht 0
  have h2 := h1.alk 12 6 (show th < _ by omega) 1
  have h3 := h2.alk 12 6 (show th < _ by omega) 2
  have h4 := h3.alk 12 6 (show th < _ by omega) 3
  have h5 := h4.alk 12 40 (show th < _ by omega) 4
  have h6 := h5.alk 12 24 (show th < _ by omega) 5
  have h7 := h6.ik (show th < _ by omega) 8 (-1)
  refine ⟨?_, h7.flk (by omega) 24 (-1)⟩
  unfold f_X8_init
  refine (al_st (m := 6) h rfl).trans ?_
  refine (al_st (m := 6) h1 rfl).trans ?_
  refine (al_st (m := 6) h2 rfl).trans ?_
  refine (al_st (m := 6) h3 rfl).trans ?_
  refine (al_st (m := 40) h4 rfl).trans ?_
  refine (al_st (m := 24) h5 rfl).trans ?_
  refine Eq.trans (bk_gR (I := up2 I (z + th) 8 (-1)) (v := l + 1 + 1 + 1 + 1 + 1) chn_hd ?_ ?_) ?_
  · rw [h6.1]; omega
  · exact apL h5.1
  · rw [bk_sI, fl_bk hn (m := 24) (apL h5.2.1) (by omega), cv_some]; rfl
theorem i6_ok (h : BkW z l K N rl I J) (ht : th < l) : f_X6_init n z (z + th) (bk z K N rl I J) = some (bk z (K ++ [12]) (N ++ [300]) ((th, 0, l) :: rl) I J) ∧ BkW z (l + 1) (K ++ [12]) (N ++ [300]) ((th, 0, l) :: rl) I J := by
  refine ⟨?_, h.alk 12 300 ht 0⟩
  unfold f_X6_init
  exact al_st (m := 300) h rfl
theorem i0_ok (h : BkW z l K N rl I J) (ht : th < l) : f_X0_init n z (z + th) (bk z K N rl I J) = some (bk z (K ++ [12] ++ [12] ++ [12]) (N ++ [301] ++ [301] ++ [301]) ((th, 2, l + 1 + 1) :: (th, 1, l + 1) :: (th, 0, l) :: rl) I J) ∧ BkW z (l + 1 + 1 + 1) (K ++ [12] ++ [12] ++ [12]) (N ++ [301] ++ [301] ++ [301]) ((th, 2, l + 1 + 1) :: (th, 1, l + 1) :: (th, 0, l) :: rl) I J := by
  have h1 := h.alk 12 301 ht 0
  have h2 := h1.alk 12 301 (show th < _ by omega) 1
  refine ⟨?_, h2.alk 12 301 (show th < _ by omega) 2⟩
  unfold f_X0_init
  refine (al_st (m := 301) h rfl).trans ?_
  refine (al_st (m := 301) h1 rfl).trans ?_
  exact al_st (m := 301) h2 rfl
theorem i4_ok (h : BkW z l K N rl I J) (ht : th < l) : f_X4_init n z (z + th) (bk z K N rl I J) = some (bk z (K ++ [0] ++ [12] ++ [12] ++ [12]) (N ++ [0] ++ [301] ++ [301] ++ [301]) ((th, 2, l) :: (l, 2, l + 1 + 1 + 1) :: (l, 1, l + 1 + 1) :: (l, 0, l + 1) :: rl) (up2 (up2 I (z + th) 0 (-1)) (z + th) 1 (-1)) J) ∧ BkW z (l + 1 + 1 + 1 + 1) (K ++ [0] ++ [12] ++ [12] ++ [12]) (N ++ [0] ++ [301] ++ [301] ++ [301]) ((th, 2, l) :: (l, 2, l + 1 + 1 + 1) :: (l, 1, l + 1 + 1) :: (l, 0, l + 1) :: rl) (up2 (up2 I (z + th) 0 (-1)) (z + th) 1 (-1)) J := by
  have h1 := ((h.ik ht 0 (-1)).ik ht 1 (-1)).nwk 0 0
  obtain ⟨e2, h2⟩ := i0_ok (n := n) h1 (show l < l + 1 by omega)
  refine ⟨?_, h2.rfk (by omega) 2 l⟩
  unfold f_X4_init
  show (jn (z + (mL (bk z K N rl (up2 (up2 I (z + th) 0 (-1)) (z + th) 1 (-1)) J)).length) fun q5 => bd (nw (bk z K N rl (up2 (up2 I (z + th) 0 (-1)) (z + th) 1 (-1)) J) q5 0 0) fun S6 => cv (f_X0_init n z q5 S6) fun S8 => bd (sR S8 (z + th) 2 (some q5)) fun S11 => some S11) = _
  refine (nw_st ((h.ik ht 0 (-1)).ik ht 1 (-1))).trans ?_
  rw [e2, cv_some]
  exact congrArg some bk_sR
theorem i5_ok (h : BkW z l K N rl I J) (ht : th < l) : f_X5_init n z (z + th) (bk z K N rl I J) = some (bk z (K ++ [12] ++ [12]) (N ++ [12] ++ [64]) ((th, 1, l + 1) :: (th, 0, l) :: rl) I J) ∧ BkW z (l + 1 + 1) (K ++ [12] ++ [12]) (N ++ [12] ++ [64]) ((th, 1, l + 1) :: (th, 0, l) :: rl) I J := by
  have h1 := h.alk 12 12 ht 0
  refine ⟨?_, h1.alk 12 64 (show th < _ by omega) 1⟩
  unfold f_X5_init
  refine (al_st (m := 12) h rfl).trans ?_
  exact al_st (m := 64) h1 rfl
theorem i9_ok {a1 a2 a3 : Nat} (h : BkW z l K N rl I J) (ht : th < l) : f_X9_init n z (z + th) (z + a1) (z + a2) (z + a3) (bk z K N rl I J) = some (bk z (K ++ [12] ++ [12] ++ [12]) (N ++ [24] ++ [26] ++ [24]) ((th, 2, a3) :: (th, 1, a2) :: (th, 0, a1) :: (th, 5, l + 1 + 1) :: (th, 4, l + 1) :: (th, 3, l) :: rl) I J) ∧ BkW z (l + 1 + 1 + 1) (K ++ [12] ++ [12] ++ [12]) (N ++ [24] ++ [26] ++ [24]) ((th, 2, a3) :: (th, 1, a2) :: (th, 0, a1) :: (th, 5, l + 1 + 1) :: (th, 4, l + 1) :: (th, 3, l) :: rl) I J := by
  have h1 := h.alk 12 24 ht 3
  have h2 := h1.alk 12 26 (show th < _ by omega) 4
  have h3 := h2.alk 12 24 (show th < _ by omega) 5
  refine ⟨?_, ((h3.rfk (by omega) 0 a1).rfk (by omega) 1 a2).rfk (by omega) 2 a3⟩
  unfold f_X9_init
  refine (al_st (m := 24) h rfl).trans ?_
  refine (al_st (m := 26) h1 rfl).trans ?_
  refine (al_st (m := 24) h2 rfl).trans ?_
  show some (sR (sR (sR _ (z + th) 0 (some (z + a1))) (z + th) 1 (some (z + a2))) (z + th) 2 (some (z + a3))) = _
  rw [bk_sR, bk_sR, bk_sR]
/-- a plain -/
def plR (a g l : Nat) (rl : List (Nat × Nat × Nat)) : List (Nat × Nat × Nat) := (a, 6, l + 1 + 1 + 1 + 1 + 1) :: (a, 0, g) :: (a, 5, l + 1 + 1 + 1 + 1) :: (a, 4, l + 1 + 1 + 1) :: (a, 3, l + 1 + 1) :: (a, 2, l + 1) :: (a, 1, l) :: rl
def plI (z l C : Nat) (I : Nat → Nat → Int32) : Nat → Nat → Int32 := flI (flI I (z + (l + 1 + 1 + 1 + 1 + 1)) C (-1)) (z + (l + 1 + 1 + 1)) 6 (-1)
theorem i3_ok (hn : 100000 ≤ n) {g C : Nat} (hC : C ≤ 48) (h : BkW z l K N rl I J) (ht : th < l) (h2 : I (z + g) 2 = nI C) : f_X3_init n z (z + th) (z + g) (bk z K N rl I J) = some (bk z (L6 K 12 12 12 12 12 12) (L6 N 24 24 24 6 6 C) (plR th g l rl) (plI z l C I) J) ∧ BkW z (l + 1 + 1 + 1 + 1 + 1 + 1) (L6 K 12 12 12 12 12 12) (L6 N 24 24 24 6 6 C) (plR th g l rl) (plI z l C I) J := by
  have h1 := h.alk 12 24 ht 1
  have h22 := h1.alk 12 24 (show th < _ by omega) 2
  have h3 := h22.alk 12 24 (show th < _ by omega) 3
  have h4 := h3.alk 12 6 (show th < _ by omega) 4
  have h5 := h4.alk 12 6 (show th < _ by omega) 5
  have h6 := h5.rfk (show th < _ by omega) 0 g
  have h7 := h6.alk 12 C (show th < _ by omega) 6
  refine ⟨?_, (h7.flk (by omega) C (-1)).flk (by omega) 6 (-1)⟩
  unfold f_X3_init
  refine (al_st (m := 24) h rfl).trans ?_
  refine (al_st (m := 24) h1 rfl).trans ?_
  refine (al_st (m := 24) h22 rfl).trans ?_
  refine (al_st (m := 6) h3 rfl).trans ?_
  refine (al_st (m := 6) h4 rfl).trans ?_
  simp only [bd]
  rw [bk_sR, show mI (bk z (K ++ [12] ++ [12] ++ [12] ++ [12] ++ [12]) (N ++ [24] ++ [24] ++ [24] ++ [6] ++ [6]) ((th, 0, g) :: (th, 5, l + 1 + 1 + 1 + 1) :: (th, 4, l + 1 + 1 + 1) :: (th, 3, l + 1 + 1) :: (th, 2, l + 1) :: (th, 1, l) :: rl) I J) (z + g) 2 = nI C from h2, cl_nI (by omega)]
  refine Eq.trans (al_st (c := 12) (m := C) (a := th) (k := 6) (F := fun S37 => gR S37 (mR S37 (z + th) 6) 12 fun q39 => cv (f_J7_fill_53178 n q39 (-1 : Int32) S37) fun S41 => gR S41 (mR S41 (z + th) 4) 12 fun q44 => cv (f_J7_fill_53178 n q44 (-1 : Int32) S41) fun S46 => some S46) h6 ?_) ?_
  · unfold nak
    rw [cl_nI (by omega), decide_eq_false (show ¬ nI C < 0 from fun y => by have := (nI_lt' (b := 0) (by omega) (by omega)).mp y; omega), decide_eq_true (show C ≤ 64 by omega)]; rfl
  refine Eq.trans (bk_gR (v := l + 1 + 1 + 1 + 1 + 1) chn_hd (by rw [h7.1]; omega) (apL h6.1)) ?_
  rw [fl_bk hn (m := C) (apL h6.2.1) (by omega), cv_some]
  refine Eq.trans (bk_gR (v := l + 1 + 1 + 1) ?_ (by rw [h7.1]; omega) ?_) ?_
  · rw [chn_tl (by omega), chn_tl (by omega), chn_tl (by omega), chn_hd]
  · rw [apO h6.1 (by omega), apO h4.1 (by omega), apL h3.1]
  rw [fl_bk hn (m := 6) (by rw [apO h6.2.1 (by omega), apO h4.2.1 (by omega), apL h3.2.1]) (by omega), cv_some]
  rfl
end IN
