/-! THE CLASS'S CONSTRUCTOR -/
section IC
variable {n z l C : Nat} {K N : List Nat} {rl : List (Nat × Nat × Nat)} {I : Nat → Nat → Int32} {J : Nat → Nat → Int64} {α : Type}
/-- a new object, its constructor run, put into a field -/
theorem ob_st {c a k : Nat} {f : Nat → MS → Option MS} {K' N' : List Nat} {rl' : List (Nat × Nat × Nat)} {I' : Nat → Nat → Int32} {J' : Nat → Nat → Int64} {F : MS → Option α} (h : BkW z l K N rl I J) (he : f (z + l) (bk z (K ++ [c]) (N ++ [0]) rl I J) = some (bk z K' N' rl' I' J')) : (jn (z + (mL (bk z K N rl I J)).length) fun q => bd (nw (bk z K N rl I J) q c 0) fun S2 => cv (f q S2) fun S4 => bd (sR S4 (z + a) k (some q)) fun S7 => F S7) = F (bk z K' N' ((a, k, l) :: rl') I' J') := by
  refine (nw_st h).trans ?_
  rw [he, cv_some]
  show F (sR (bk z K' N' rl' I' J') (z + a) k (some (z + l))) = _
  rw [bk_sR]
theorem sR_st {a k v : Nat} {F : MS → Option α} : bd (sR (bk z K N rl I J) (z + a) k (some (z + v))) F = F (bk z K N ((a, k, v) :: rl) I J) := by
  show F (sR _ _ _ _) = _
  rw [bk_sR]
theorem L6_o {a b c d e f o : Nat} (h : o < K.length) : (L6 K a b c d e f).getD o 0 = K.getD o 0 := by
  unfold L6
  have e1 : (K ++ [a]).length = K.length + 1 := by rw [List.length_append]; rfl
  have e2 : (K ++ [a] ++ [b]).length = K.length + 1 + 1 := by rw [List.length_append, e1]; rfl
  have e3 : (K ++ [a] ++ [b] ++ [c]).length = K.length + 1 + 1 + 1 := by rw [List.length_append, e2]; rfl
  have e4 : (K ++ [a] ++ [b] ++ [c] ++ [d]).length = K.length + 1 + 1 + 1 + 1 := by rw [List.length_append, e3]; rfl
  have e5 : (K ++ [a] ++ [b] ++ [c] ++ [d] ++ [e]).length = K.length + 1 + 1 + 1 + 1 + 1 := by rw [List.length_append, e4]; rfl
  rw [apO e5 (by omega), apO e4 (by omega), apO e3 (by omega), apO e2 (by omega), apO e1 (by omega), apO rfl h]
def PlQ (z C l : Nat) (K N : List Nat) (rl : List (Nat × Nat × Nat)) (I : Nat → Nat → Int32) : Prop := chn rl 46 6 = some 47 ∧ K.getD 47 0 = 15 ∧ N.getD 47 0 = 5 ∧ chn rl 32 0 = some 30 ∧ K.getD 30 0 = 1 ∧ I (z + 30) 2 = nI C ∧ 48 ≤ l
theorem pl_st (hn : 100000 ≤ n) {i : Nat} {F : MS → Option MS} (hC : C ≤ 48) (h : BkW z l K N rl I J) (hP : PlQ z C l K N rl I) (hi : i < 5) : (gR (bk z K N rl I J) (mR (bk z K N rl I J) (z + 46) 6) 15 fun q13 => jn (z + (mL (bk z K N rl I J)).length) fun q15 => bd (nw (bk z K N rl I J) q15 3 0) fun S16 => gR S16 (mR S16 (z + 32) 0) 1 fun q18 => cv (f_X3_init n z q15 q18 S16) fun S20 => ck (inb (nI i) (mN S20 q13)) (bd (sR S20 q13 (nI i).toNatClampNeg (some q15)) fun S24 => F S24)) = F (bk z (L6 (K ++ [3]) 12 12 12 12 12 12) (L6 (N ++ [0]) 24 24 24 6 6 C) ((47, i, l) :: plR l 30 (l + 1) rl) (plI z (l + 1) C I) J) ∧ BkW z (l + 7) (L6 (K ++ [3]) 12 12 12 12 12 12) (L6 (N ++ [0]) 24 24 24 6 6 C) ((47, i, l) :: plR l 30 (l + 1) rl) (plI z (l + 1) C I) J ∧ PlQ z C (l + 7) (L6 (K ++ [3]) 12 12 12 12 12 12) (L6 (N ++ [0]) 24 24 24 6 6 C) ((47, i, l) :: plR l 30 (l + 1) rl) (plI z (l + 1) C I) := by
  obtain ⟨p1, p2, p3, p4, p5, p6, p7⟩ := hP
  have h1 := h.nwk 3 0
  obtain ⟨e2, h2⟩ := i3_ok (n := n) (g := 30) hn hC h1 (show l < l + 1 by omega) p6
  have hN : (L6 (N ++ [0]) 24 24 24 6 6 C).getD 47 0 = 5 := by rw [L6_o (by rw [h1.2.1]; omega), apO h.2.1 (by omega)]; exact p3
  refine ⟨?_, h2.rfk (by omega) i l, ?_, ?_, hN, ?_, ?_, ?_, by omega⟩
  · rw [bk_gR p1 (by rw [h.1]; omega) p2]
    refine (nw_st h).trans ?_
    rw [bk_gR (v := 30) p4 (by rw [h1.1]; omega) (by rw [apO h.1 (by omega)]; exact p5), e2, cv_some, bk_mN, hN, ck_t (inb_nI (by omega) (by omega)), cl_nI (by omega)]
    show F (sR _ (z + 47) i (some (z + l))) = _
    rw [bk_sR]
  · unfold plR
    rw [chn_tl (by omega), chn_tl (by omega), chn_tl (by omega), chn_tl (by omega), chn_tl (by omega), chn_tl (by omega), chn_tl (by omega), chn_tl (by omega)]; exact p1
  · rw [L6_o (by rw [h1.1]; omega), apO h.1 (by omega)]; exact p2
  · unfold plR
    rw [chn_tl (by omega), chn_tl (by omega), chn_tl (by omega), chn_tl (by omega), chn_tl (by omega), chn_tl (by omega), chn_tl (by omega), chn_tl (by omega)]; exact p4
  · rw [L6_o (by rw [h1.1]; omega), apO h.1 (by omega)]; exact p5
  · unfold plI
    rw [flI_ne (by omega), flI_ne (by omega)]; exact p6
def pK (K : List Nat) : List Nat := L6 (K ++ [3]) 12 12 12 12 12 12
def pN (C : Nat) (N : List Nat) : List Nat := L6 (N ++ [0]) 24 24 24 6 6 C
def rl2 (rl : List (Nat × Nat × Nat)) : List (Nat × Nat × Nat) := (47, 4, 76) :: plR 76 30 77 ((47, 3, 69) :: plR 69 30 70 ((47, 2, 62) :: plR 62 30 63 ((47, 1, 55) :: plR 55 30 56 ((47, 0, 48) :: plR 48 30 49 ((46, 5, 26) :: (46, 4, 1) :: (46, 3, 32) :: (46, 6, 47) :: rl)))))
def in2 (z C : Nat) (I : Nat → Nat → Int32) : Nat → Nat → Int32 := plI z 77 C (plI z 70 C (plI z 63 C (plI z 56 C (plI z 49 C I))))
theorem i2_ok (hn : 100000 ≤ n) (hC : C ≤ 48) (h : BkW z 47 K N rl I J) (p4 : chn rl 32 0 = some 30) (p5 : K.getD 30 0 = 1) (p6 : I (z + 30) 2 = nI C) : f_X2_init n z (z + 46) (z + 32) (z + 1) (z + 26) (bk z K N rl I J) = some (bk z (pK (pK (pK (pK (pK (K ++ [15])))))) (pN C (pN C (pN C (pN C (pN C (N ++ [5])))))) (rl2 rl) (in2 z C I) J) ∧ BkW z 83 (pK (pK (pK (pK (pK (K ++ [15])))))) (pN C (pN C (pN C (pN C (pN C (N ++ [5])))))) (rl2 rl) (in2 z C I) J := by
  have h1 := h.alk 15 5 (show 46 < 47 by omega) 6
  have h2 := ((h1.rfk (show 46 < _ by omega) 3 32).rfk (show 46 < _ by omega) 4 1).rfk (show 46 < _ by omega) 5 26
  have hP : PlQ z C 48 (K ++ [15]) (N ++ [5]) ((46, 5, 26) :: (46, 4, 1) :: (46, 3, 32) :: (46, 6, 47) :: rl) I := ⟨rfl, apL h.1, apL h.2.1, p4, by rw [apO h.1 (by omega)]; exact p5, p6, by omega⟩
  have s1 := fun F => pl_st (n := n) (i := 0) (F := F) hn hC h2 hP (by omega)
  have s2 := fun F => pl_st (n := n) (i := 1) (F := F) hn hC (s1 some).2.1 (s1 some).2.2 (by omega)
  have s3 := fun F => pl_st (n := n) (i := 2) (F := F) hn hC (s2 some).2.1 (s2 some).2.2 (by omega)
  have s4 := fun F => pl_st (n := n) (i := 3) (F := F) hn hC (s3 some).2.1 (s3 some).2.2 (by omega)
  have s5 := fun F => pl_st (n := n) (i := 4) (F := F) hn hC (s4 some).2.1 (s4 some).2.2 (by omega)
  refine ⟨?_, (s5 some).2.1⟩
  unfold f_X2_init
  refine (al_st (m := 5) h rfl).trans ?_
  refine sR_st.trans ?_
  refine sR_st.trans ?_
  refine sR_st.trans ?_
  refine Eq.trans (s1 _).1 ?_
  refine Eq.trans (s2 _).1 ?_
  refine Eq.trans (s3 _).1 ?_
  refine Eq.trans (s4 _).1 ?_
  exact (s5 _).1
end IC
