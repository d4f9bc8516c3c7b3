/-! THE REFERENCE'S READER: behind a ONE -/
section RV
variable {n z C t r so : Nat} {u : Option Nat} {I : Nat → Nat → Int32} {J : Nat → Nat → Int64} {tk : Nat → Nat × Nat} {Tq : TQ} {a1 : Int32} {i op : Nat} {c : Cd} {p : List Nat} {w : Bool}
/-- the last marker, and what it is -/
def kdM (I : Nat → Nat → Int32) (z : Nat) (p : List Nat) (x k : Int32) : Prop := (x = -1 ∧ k = -1 ∧ ∀ o, o ∈ p → o < 40) ∨ ∃ b m s, p = (b ++ [m]) ++ List.reverse s ∧ 40 ≤ m ∧ m < 1000 ∧ (∀ o, o ∈ s → o < 40) ∧ x = nI b.length ∧ k = nI m ∧ b.length < 120
theorem q_markX (hn : 100000 ≤ n) (h : RfS z r so Tq I J i c p op w) (hp : ∀ o, o ∈ p → o < 1000) : ∃ x k, f_X11_marker n (z + 83) (mk z C I J t u) = some (x, mk z C I J t u) ∧ kdM I z p x k ∧ ∀ (B : Int32 → MS → Option (Int32 × MS)), jn B (fun j25_10 => (if 0 ≤ x then gR (mk z C I J t u) (mR (mk z C I J t u) (z + 83) 19) 12 fun q85 => ck (inb x (mN (mk z C I J t u) q85)) (j25_10 (mI (mk z C I J t u) q85 x.toNatClampNeg) (mk z C I J t u)) else j25_10 (-1 : Int32) (mk z C I J t u))) = B k (mk z C I J t u) := by
  rcases split_m p with h40 | ⟨b, m, s, e, m1, m2⟩
  · have em := q_mark (n := n) (C := C) (t := t) (u := u) (a := []) (Q := p.reverse) hn h (by rw [List.nil_append, List.reverse_reverse]) (fun o ho => h40 o (List.mem_reverse.mp ho)) (Or.inl rfl)
    exact ⟨-1, -1, em, Or.inl ⟨rfl, rfl, h40⟩, fun B => by simp only [jn]; rw [if_neg (by decide)]⟩
  · have hm := hp m (by rw [e]; exact List.mem_append.mpr (Or.inl (List.mem_append.mpr (Or.inr (List.mem_singleton.mpr rfl)))))
    have em := q_mark (n := n) (C := C) (t := t) (u := u) (a := b ++ [m]) (Q := s) hn h e m2 (Or.inr ⟨b, m, rfl, m1, hm⟩)
    have hl := h.2.2.2.2.2.2.2.2.2.2.1
    have hbl : (b ++ [m]).length = b.length + 1 := by rw [List.length_append]; rfl
    have h6 := h.2.2.2.2.2.1
    rw [e] at h6
    have m87 : mI (mk z C I J t u) (z + 87) b.length = nI m := plF_top (plF_pre h6)
    rw [e, lenr, hbl] at hl
    rw [hbl, show ixP (b.length + 1) = nI b.length by unfold ixP; rw [if_neg (by omega)]; rfl] at em
    refine ⟨nI b.length, nI m, em, Or.inr ⟨b, m, s, e, m1, hm, m2, rfl, rfl, by omega⟩, fun B => ?_⟩
    simp only [jn]
    rw [if_pos (show (0 : Int32) ≤ nI b.length by rw [show (0 : Int32) = nI 0 from rfl, nI_le' (by omega) (by omega)]; omega), g83_19, n87, ck_t (inb_nI (by omega) (by omega)), cl_nI (by omega), m87]
theorem bh_bin (hn : 100000 ≤ n) (h : RfS z r so Tq I J i c p op true) (hp : ∀ o, o ∈ p → o < 1000) {o : Nat} (ho : o < 1000) (hb : f_X11_betweenOf n (z + 83) a1 (mk z C I J t u) = some (nI o, mk z C I J t u)) : f_X11_behindOne n (z + 83) a1 (mk z C I J t u) = cv (f_X11_settle n (z + 83) (nI (rkN o)) (mk z C I J t u)) fun S73 => cv (f_X11_push n (z + 83) (nI o) S73) fun S76 => cv (f_X11_nextToken n (z + 83) (sI S76 (z + 83) 22 (0 : Int32))) fun S82 => some ((1 : Int32), S82) := by
  obtain ⟨x, k, em, -, hG⟩ := q_markX (n := n) (C := C) (t := t) (u := u) hn h hp
  unfold f_X11_behindOne
  rw [hb, cl_some, em, cl_some, hG, if_neg (nI_pos (by omega)), q_rank ho, cl_some]
  simp only [zb_0, zb_1, bd]
theorem rn_bin (hn : 100000 ≤ n) (hT : TokOK n z C t u tk Tq) {Q : List Nat} {o : Nat} (hp : ∀ x, x ∈ p ++ Q.reverse → x < 1000) (ho : o < 1000) (hi : (tk i).1 ≠ 39) (hb : ∀ (I : Nat → Nat → Int32) (J : Nat → Nat → Int64), RfS z r so Tq I J i c (p ++ Q.reverse) op true → f_X11_betweenOf n (z + 83) a1 (mk z C I J t u) = some (nI o, mk z C I J t u)) (hQ : ∀ x, x ∈ Q → x < 1000 ∧ rkN o ≤ rkN x) (hpl : p = [] ∨ ∃ p' x, p = p' ++ [x] ∧ x < 1000 ∧ rkN x < rkN o) (hl : c.length + Q.length ≤ i) (hc : cnU Q ≤ op) (hpl2 : p.length < 100) : RnT n z C t r so u Tq a1 i c (p ++ Q.reverse) op true (i + 1) (c ++ mpC Q) (p ++ [o]) (op - cnU Q) false := by
  have hr8 := rkN_lt o
  refine rn_t hT (by omega) (fun I J hs => ?_)
  have hi3 := (hT.2.2.1 I J i hs.1).1
  obtain ⟨I1, e1, s1, f1⟩ := q_set (L := rkN o) hn hT (by omega) hs hQ hpl (by omega) hc
  obtain ⟨I2, e2, s2, f2⟩ := q_push hT s1 (by omega) (o := o)
  have s3 := q_w hT s2 false
  obtain ⟨I4, J4, e4, s4, f4⟩ := q_next hT s3.1 hi
  refine ⟨I4, J4, ?_, s4, ((f1.trq f2).trq s3.2).trq f4⟩
  rw [bh_bin hn hs hp ho (hb I J hs), e1, cv_some, e2, cv_some, sI_mk, show (0 : Int32) = bWC false from rfl, e4, cv_some]
/-- what stands between, by its token -/
theorem bt_ar (hT : TokOK n z C t u tk Tq) (h : Tq I J i) (h1 : 28 ≤ (tk i).1) (h2 : (tk i).1 ≤ 31) : f_X11_betweenOf n (z + 83) a1 (mk z C I J t u) = some (nI ((tk i).1 - 25), mk z C I J t u) := by
  have m12 : mI (mk z C I J t u) (z + 83) 12 = nI (tkO (tk i).1) := (q_tok hT h (by omega) (by omega)).mpr rfl
  unfold f_X11_betweenOf
  rw [m12]
  have : (tk i).1 = 28 ∨ (tk i).1 = 29 ∨ (tk i).1 = 30 ∨ (tk i).1 = 31 := by omega
  rcases this with e | e | e | e
  · rw [e, if_pos (by decide)]; rfl
  · rw [e, if_neg (by decide), if_pos (by decide)]; rfl
  · rw [e, if_neg (by decide), if_neg (by decide), if_pos (by decide)]; rfl
  · rw [e, if_neg (by decide), if_neg (by decide), if_neg (by decide), if_pos (by decide)]; rfl
theorem bt_pre (hT : TokOK n z C t u tk Tq) (h : Tq I J i) (h1 : ¬ (28 ≤ (tk i).1 ∧ (tk i).1 ≤ 31)) : f_X11_betweenOf n (z + 83) a1 (mk z C I J t u) = (if a1 = 0 then some ((-1 : Int32), mk z C I J t u) else cl (f_X11_marker n (z + 83) (mk z C I J t u)) fun x4 S1 => (if x4 < 0 then cl (f_X11_isCompared n (z + 83) S1) fun x8 S5 => (if x8 = 0 then cl (f_X11_compareOf n (z + 83) S5) fun x20 S17 => some (x20, S17) else cl (f_X11_w3 n (97 : Int32) (110 : Int32) (100 : Int32) S5) fun x12 S9 => cl (f_X11_isWord n (z + 83) x12 S9) fun x16 S13 => (if x16 = 0 then (if (mI S13 (z + 83) 12) = (2 : Int32) then (if (lg_cmp (mJ S13 (z + 83) 14) (28530 : Int64)) = 0 then some ((22 : Int32), S13) else some ((-1 : Int32), S13)) else some ((-1 : Int32), S13)) else some ((21 : Int32), S13))) else some ((-1 : Int32), S1))) := by
  unfold f_X11_betweenOf
  rw [if_neg (show ¬ mI (mk z C I J t u) (z + 83) 12 = (43 : Int32) from fun w => h1 (by have := (q_tok hT h (s := 28) (by omega) (by omega)).mp w; omega)), if_neg (show ¬ mI (mk z C I J t u) (z + 83) 12 = (45 : Int32) from fun w => h1 (by have := (q_tok hT h (s := 29) (by omega) (by omega)).mp w; omega)), if_neg (show ¬ mI (mk z C I J t u) (z + 83) 12 = (42 : Int32) from fun w => h1 (by have := (q_tok hT h (s := 30) (by omega) (by omega)).mp w; omega)), if_neg (show ¬ mI (mk z C I J t u) (z + 83) 12 = (47 : Int32) from fun w => h1 (by have := (q_tok hT h (s := 31) (by omega) (by omega)).mp w; omega))]
theorem bt_mk (hn : 100000 ≤ n) (hT : TokOK n z C t u tk Tq) (h : RfS z r so Tq I J i c p op w) (hp : ∀ o, o ∈ p → o < 1000) (h1 : ¬ (28 ≤ (tk i).1 ∧ (tk i).1 ≤ 31)) (h2 : a1 = 0 ∨ ∃ o, o ∈ p ∧ 40 ≤ o) : f_X11_betweenOf n (z + 83) a1 (mk z C I J t u) = some (-1, mk z C I J t u) := by
  rw [bt_pre hT h.1 h1]
  by_cases ha : a1 = 0
  · rw [if_pos ha]
  · obtain ⟨x, k, em, hk, -⟩ := q_markX (n := n) (C := C) (t := t) (u := u) hn h hp
    rw [if_neg ha, em, cl_some]
    rcases hk with ⟨-, -, hk⟩ | ⟨b, m, s, e, m1, m2, m3, rfl, -, hb⟩
    · obtain ⟨o, o1, o2⟩ := h2.resolve_left ha
      have := hk o o1; omega
    · rw [if_neg (nI_pos (by omega))]
theorem q_cmpO (hT : TokOK n z C t u tk Tq) (h : Tq I J i) : f_X11_compareOf n (z + 83) (mk z C I J t u) = some ((if dec (isCm (tk i).1) = true then nI (cmO (tk i).1) else -1), mk z C I J t u) := by
  have k : ∀ s, 24 ≤ s → s ≤ 39 → (mI (mk z C I J t u) (z + 83) 12 = nI (tkO s) ↔ (tk i).1 = s) := fun s a b => q_tok hT h a b
  unfold f_X11_compareOf
  by_cases e1 : (tk i).1 = 24
  · rw [if_pos (show mI (mk z C I J t u) (z + 83) 12 = (60 : Int32) from (k 24 (by omega) (by omega)).mpr e1), if_pos (dec_t.mpr (by unfold isCm; omega)), e1]; rfl
  rw [if_neg (show ¬ mI (mk z C I J t u) (z + 83) 12 = (60 : Int32) from fun w => e1 ((k 24 (by omega) (by omega)).mp w))]
  by_cases e2 : (tk i).1 = 36
  · rw [if_pos (show mI (mk z C I J t u) (z + 83) 12 = (4 : Int32) from (k 36 (by omega) (by omega)).mpr e2), if_pos (dec_t.mpr (by unfold isCm; omega)), e2]; rfl
  rw [if_neg (show ¬ mI (mk z C I J t u) (z + 83) 12 = (4 : Int32) from fun w => e2 ((k 36 (by omega) (by omega)).mp w))]
  by_cases e3 : (tk i).1 = 25
  · rw [if_pos (show mI (mk z C I J t u) (z + 83) 12 = (62 : Int32) from (k 25 (by omega) (by omega)).mpr e3), if_pos (dec_t.mpr (by unfold isCm; omega)), e3]; rfl
  rw [if_neg (show ¬ mI (mk z C I J t u) (z + 83) 12 = (62 : Int32) from fun w => e3 ((k 25 (by omega) (by omega)).mp w))]
  by_cases e4 : (tk i).1 = 37
  · rw [if_pos (show mI (mk z C I J t u) (z + 83) 12 = (5 : Int32) from (k 37 (by omega) (by omega)).mpr e4), if_pos (dec_t.mpr (by unfold isCm; omega)), e4]; rfl
  rw [if_neg (show ¬ mI (mk z C I J t u) (z + 83) 12 = (5 : Int32) from fun w => e4 ((k 37 (by omega) (by omega)).mp w))]
  by_cases e5 : (tk i).1 = 26
  · rw [if_pos (show mI (mk z C I J t u) (z + 83) 12 = (61 : Int32) from (k 26 (by omega) (by omega)).mpr e5), if_pos (dec_t.mpr (by unfold isCm; omega)), e5]; rfl
  rw [if_neg (show ¬ mI (mk z C I J t u) (z + 83) 12 = (61 : Int32) from fun w => e5 ((k 26 (by omega) (by omega)).mp w))]
  by_cases e6 : (tk i).1 = 27
  · rw [if_pos (show mI (mk z C I J t u) (z + 83) 12 = (35 : Int32) from (k 27 (by omega) (by omega)).mpr e6), if_pos (dec_t.mpr (by unfold isCm; omega)), e6]; rfl
  rw [if_neg (show ¬ mI (mk z C I J t u) (z + 83) 12 = (35 : Int32) from fun w => e6 ((k 27 (by omega) (by omega)).mp w)), if_neg (fun w => by have := dec_t.mp w; unfold isCm at this; omega)]
theorem bt_cm (hn : 100000 ≤ n) (hT : TokOK n z C t u tk Tq) (h : RfS z r so Tq I J i c p op w) (ha : a1 ≠ 0) (h1 : ¬ (28 ≤ (tk i).1 ∧ (tk i).1 ≤ 31)) (h40 : ∀ o, o ∈ p → o < 40) (hc : f_X11_isCompared n (z + 83) (mk z C I J t u) = some (bWC false, mk z C I J t u)) : f_X11_betweenOf n (z + 83) a1 (mk z C I J t u) = some ((if dec (isCm (tk i).1) = true then nI (cmO (tk i).1) else -1), mk z C I J t u) := by
  have em := q_mark (n := n) (C := C) (t := t) (u := u) (a := []) (Q := p.reverse) hn h (by rw [List.nil_append, List.reverse_reverse]) (fun o ho => h40 o (List.mem_reverse.mp ho)) (Or.inl rfl)
  rw [bt_pre hT h.1 h1, if_neg ha, em, cl_some, if_pos (by decide), hc, cl_some, if_pos (show bWC false = 0 from rfl), q_cmpO hT h.1, cl_some]
theorem bt_an (hn : 100000 ≤ n) (hT : TokOK n z C t u tk Tq) (h : RfS z r so Tq I J i c p op w) (ha : a1 ≠ 0) (h1 : ¬ (28 ≤ (tk i).1 ∧ (tk i).1 ≤ 31)) (h40 : ∀ o, o ∈ p → o < 40) (hc : f_X11_isCompared n (z + 83) (mk z C I J t u) = some (bWC true, mk z C I J t u)) : f_X11_betweenOf n (z + 83) a1 (mk z C I J t u) = some ((if (tk i).1 = 15 then nI 21 else if (tk i).1 = 16 then nI 22 else -1), mk z C I J t u) := by
  have em := q_mark (n := n) (C := C) (t := t) (u := u) (a := []) (Q := p.reverse) hn h (by rw [List.nil_append, List.reverse_reverse]) (fun o ho => h40 o (List.mem_reverse.mp ho)) (Or.inl rfl)
  have hw := hT.2.2.2.2.2 I J i h.1 16 (by omega) (by omega)
  rw [bt_pre hT h.1 h1, if_neg ha, em, cl_some, if_pos (by decide), hc, cl_some, if_neg (by decide), w_and, cl_some, q_isW hT h.1 (by omega) (by omega), cl_some]
  by_cases e : (tk i).1 = 15
  · rw [if_pos e, if_pos e, if_neg (by decide)]; rfl
  · rw [if_neg e, if_neg e, if_pos rfl]
    by_cases e2 : (tk i).1 = 16
    · obtain ⟨x1, x2⟩ := hw.mpr e2
      rw [if_pos (show mI (mk z C I J t u) (z + 83) 12 = (2 : Int32) from x1), if_pos ((lg_eq _ _).mpr (show mJ (mk z C I J t u) (z + 83) 14 = (28530 : Int64) from x2)), if_pos e2]; rfl
    · rw [if_neg e2]
      by_cases x1 : mI (mk z C I J t u) (z + 83) 12 = (2 : Int32)
      · rw [if_pos x1, if_neg (show ¬ lg_cmp (mJ (mk z C I J t u) (z + 83) 14) (28530 : Int64) = 0 from fun w => e2 (hw.mp ⟨x1, (lg_eq _ _).mp w⟩))]
      · rw [if_neg x1]
/-- nothing fits: it stops -/
theorem rn_stop (hn : 100000 ≤ n) (hT : TokOK n z C t u tk Tq) (hp : ∀ o, o ∈ p → o < 1000) (hb : ∀ (I : Nat → Nat → Int32) (J : Nat → Nat → Int64), RfS z r so Tq I J i c p op true → f_X11_betweenOf n (z + 83) a1 (mk z C I J t u) = some (-1, mk z C I J t u)) (hk : ∀ b m s, p = (b ++ [m]) ++ List.reverse s → 40 ≤ m → (∀ o, o ∈ s → o < 40) → ¬ ((tk i).1 = 33 ∧ (m = 40 ∨ 43 ≤ m)) ∧ ¬ ((tk i).1 = 34 ∧ (m = 41 ∨ m = 42))) : RnS n z C t r so u Tq a1 i c p op := by
  intro I J F hF hs
  obtain ⟨F', rfl, h9⟩ := fl_1 hT hs hF
  have hi := (hT.2.2.1 I J i hs.1).1
  obtain ⟨F'', rfl⟩ : ∃ m, F' = m + 1 := ⟨F' - 1, by omega⟩
  obtain ⟨x, k, em, hx, hG⟩ := q_markX (n := n) (C := C) (t := t) (u := u) hn hs hp
  have k33 := q_tok hT hs.1 (s := 33) (by omega) (by omega)
  have k34 := q_tok hT hs.1 (s := 34) (by omega) (by omega)
  have key : f_X11_behindOne n (z + 83) a1 (mk z C I J t u) = some (0, mk z C I J t u) := by
    unfold f_X11_behindOne
    rw [hb I J hs, cl_some, em, cl_some, hG, if_pos (by decide)]
    simp only [zb_0, jn, bd]
    by_cases q33 : (tk i).1 = 33
    · rw [if_pos (show mI (mk z C I J t u) (z + 83) 12 = (41 : Int32) from k33.mpr q33)]
      have n34 : ¬ mI (mk z C I J t u) (z + 83) 12 = (44 : Int32) := fun w => by have := k34.mp w; omega
      rcases hx with ⟨-, rfl, -⟩ | ⟨b, m, s, e, m1, m2, m3, -, rfl, -⟩
      · rw [if_neg (by decide), if_pos (by decide), if_neg n34]
      · have := (hk b m s e m1 m3).1
        rw [if_neg (show ¬ nI m = (40 : Int32) from fun w => this ⟨q33, Or.inl ((nI_inj (by omega) (by omega)).mp (show nI m = nI 40 from w))⟩), if_pos (show nI m < (43 : Int32) by rw [show (43 : Int32) = nI 43 from rfl, nI_lt' (by omega) (by omega)]; omega), if_neg n34]
    · rw [if_neg (show ¬ mI (mk z C I J t u) (z + 83) 12 = (41 : Int32) from fun w => q33 (k33.mp w))]
      by_cases q34 : (tk i).1 = 34
      · rw [if_pos (show mI (mk z C I J t u) (z + 83) 12 = (44 : Int32) from k34.mpr q34)]
        rcases hx with ⟨-, rfl, -⟩ | ⟨b, m, s, e, m1, m2, m3, -, rfl, -⟩
        · rw [if_neg (by decide), if_neg (by decide)]
        · have := (hk b m s e m1 m3).2
          rw [if_neg (show ¬ nI m = (41 : Int32) from fun w => this ⟨q34, Or.inl ((nI_inj (by omega) (by omega)).mp (show nI m = nI 41 from w))⟩), if_neg (show ¬ nI m = (42 : Int32) from fun w => this ⟨q34, Or.inr ((nI_inj (by omega) (by omega)).mp (show nI m = nI 42 from w))⟩)]
      · rw [if_neg (show ¬ mI (mk z C I J t u) (z + 83) 12 = (44 : Int32) from fun w => q34 (k34.mp w))]
  rw [ll_t hs, key, cl_some, ll_0]
/-- it stops inside something open: a fault -/
theorem rn_stopF (hn : 100000 ≤ n) (hp : ∀ o, o ∈ p → o < 1000) (h40 : ∃ o, o ∈ p ∧ 40 ≤ o) (h : RnS n z C t r so u Tq a1 i c p op) : RnF n z C t r so u Tq a1 i c p op true 1 i := by
  intro I J F hF hs
  obtain ⟨x, k, em, hx, -⟩ := q_markX (n := n) (C := C) (t := t) (u := u) hn hs hp
  refine ⟨I, J, ?_, hs.1, FrQ.rfq z r I J⟩
  rw [h I J F hF hs]
  unfold KpR
  rw [em, cl_some]
  rcases hx with ⟨-, -, hk⟩ | ⟨b, m, s, e, m1, m2, m3, rfl, -, hb⟩
  · obtain ⟨o, o1, o2⟩ := h40
    have := hk o o1; omega
  · rw [if_pos (show (0 : Int32) ≤ nI b.length by rw [show (0 : Int32) = nI 0 from rfl, nI_le' (by omega) (by omega)]; omega)]; rfl
/-- a bracket closes -/
theorem rn_close (hn : 100000 ≤ n) (hT : TokOK n z C t u tk Tq) {j m : Nat} {Q P : List Nat} (hP : P = p ++ List.replicate j 2) (hp : ∀ o, o ∈ (P ++ [m]) ++ Q.reverse → o < 1000) (hm : m = 40 ∨ m = 43 ∨ m = 44) (h33 : (tk i).1 = 33) (hQ : ∀ o, o ∈ Q → o < 40 ∧ 1 ≤ rkN o ∧ o ≠ 2 ∧ o ≠ 20) (hpl : p = [] ∨ ∃ p' o, p = p' ++ [o] ∧ o < 1000 ∧ rkN o < 7) (hl : c.length + Q.length + 1 + j ≤ i) (ho : j + 1 ≤ op) : RnT n z C t r so u Tq a1 i c ((P ++ [m]) ++ Q.reverse) op true (i + 1) (c ++ mpC Q ++ (if 43 ≤ m then [(m - 36, 0)] else []) ++ ngC j) p (op - 1 - j) true := by
  refine rn_t hT (by omega) (fun I J hs => ?_)
  have hi3 := (hT.2.2.1 I J i hs.1).1
  have hcn : ∀ Q : List Nat, (∀ o, o ∈ Q → o < 40 ∧ 1 ≤ rkN o ∧ o ≠ 2 ∧ o ≠ 20) → cnU Q = 0 := by
    intro Q
    induction Q with
    | nil => intro _; rfl
    | cons o Q ih =>
      intro h
      have h1 := h o (List.mem_cons_self ..)
      show (if o = 2 ∨ o = 20 then 1 else 0) + cnU Q = 0
      rw [if_neg (by omega), ih (fun o ho => h o (List.mem_cons_of_mem _ ho))]
  have hQ0 := hcn Q hQ
  have k33 := q_tok hT hs.1 (s := 33) (by omega) (by omega)
  have em := q_mark (n := n) (C := C) (t := t) (u := u) (a := P ++ [m]) (Q := Q) hn hs rfl (fun o ho => (hQ o ho).1) (Or.inr ⟨_, m, rfl, by omega, by omega⟩)
  have hbl : (P ++ [m]).length = P.length + 1 := by rw [List.length_append]; rfl
  have hlen := hs.2.2.2.2.2.2.2.2.2.2.1
  rw [lenr, hbl] at hlen
  have m87 : mI (mk z C I J t u) (z + 87) P.length = nI m := plF_top (plF_pre hs.2.2.2.2.2.1)
  have hix : ixP (P.length + 1) = nI P.length := by unfold ixP; rw [if_neg (by omega)]; rfl
  rw [hbl, hix] at em
  have hb : f_X11_betweenOf n (z + 83) a1 (mk z C I J t u) = some (-1, mk z C I J t u) := bt_mk hn hT hs hp (by omega) (Or.inr ⟨m, List.mem_append.mpr (Or.inl (List.mem_append.mpr (Or.inr (List.mem_singleton.mpr rfl)))), by omega⟩)
  obtain ⟨I1, e1, s1, f1⟩ := q_set (L := 1) hn hT (by omega) hs (fun o ho => ⟨by have := (hQ o ho).1; omega, (hQ o ho).2.1⟩) (Or.inr ⟨_, m, rfl, by omega, by unfold rkN; rw [if_pos (by omega)]; omega⟩) (by omega) (by omega)
  rw [hQ0, Nat.sub_zero] at s1
  -- the marker goes
  obtain ⟨a1', a2', a3', a4', a5', a6', a7', a8', a9', a10', a11', a12', a13'⟩ := id s1
  have s2 := RfS.setf (p' := P) (op' := op - 1) (w' := true) (I' := up2 (up2 I1 (z + 83) 20 (nI P.length)) (z + 83) 21 (nI (op - 1))) hT s1 (fun q a b => by rw [up2_ne a, up2_ne a]) (fun j a b _ => by rw [up2_r, up2_r, ur_ne _ _ b, ur_ne _ _ a]) (by rw [up2_r, up2_r, ur_ne _ _ (by omega), ur_at]) (by rw [up2_r, ur_at]) (by rw [up2_r, up2_r, ur_ne _ _ (by omega), ur_ne _ _ (by omega)]; exact a8') (by rw [up2_ne (by omega), up2_ne (by omega)]; exact plF_pre a6') (by omega) (by omega)
  have m20 : mI (mk z C I1 J t u) (z + 83) 20 = nI (P.length + 1) := by rw [mI_mk, a5', hbl]
  have m21 : mI (mk z C (up2 I1 (z + 83) 20 (nI P.length)) J t u) (z + 83) 21 = nI op := by rw [mI_mk, up2_r, ur_ne _ _ (by omega)]; exact a7'
  have clen : (c ++ mpC Q).length = c.length + Q.length := by rw [List.length_append]; unfold mpC; rw [List.length_map]
  have hset : f_X11_settle n (z + 83) (1 : Int32) (mk z C I J t u) = some (mk z C I1 J t u) := e1
  have m20s : mI (mk z C I1 J t u) (z + 83) 20 - (1 : Int32) = nI P.length := by rw [m20, nI_s1 (by omega), Nat.add_sub_cancel]
  have m21s : mI (mk z C (up2 I1 (z + 83) 20 (nI P.length)) J t u) (z + 83) 21 - (1 : Int32) = nI (op - 1) := by rw [m21, nI_s1 (by omega)]
  by_cases q43 : 43 ≤ m
  · obtain ⟨I3, e3, s3, f3, -, -, -⟩ := q_emit hT s2.1 (by rw [clen]; omega) (o := m - 36) (v := 0)
    obtain ⟨I4, e4, s4, f4⟩ := q_whole hn hT (by rw [show RfS z r so Tq I3 J i (c ++ mpC Q ++ [(m - 36, 0)]) P (op - 1) true = RfS z r so Tq I3 J i (c ++ mpC Q ++ [(m - 36, 0)]) (p ++ List.replicate j 2) (op - 1) true by rw [← hP]] at s3; exact s3) hpl (by rw [List.length_append, clen]; show c.length + Q.length + 1 + j ≤ 300; omega) (by omega)
    obtain ⟨I5, J5, e5, s5, f5⟩ := q_next hT s4 (by omega)
    refine ⟨I5, J5, ?_, by rw [if_pos q43]; exact s5, (((f1.trq s2.2).trq f3).trq f4).trq f5⟩
    unfold f_X11_behindOne
    simp only [jn, bd]
    rw [hb, cl_some, em, cl_some, if_pos (show (0 : Int32) ≤ nI P.length by rw [show (0 : Int32) = nI 0 from rfl, nI_le' (by omega) (by omega)]; omega), g83_19, n87, ck_t (inb_nI (by omega) (by omega)), cl_nI (by omega), m87, if_pos (by decide), if_pos (show mI (mk z C I J t u) (z + 83) 12 = (41 : Int32) from k33.mpr h33), if_neg (show ¬ nI m = (40 : Int32) from fun w => by have := (nI_inj (by omega) (by omega)).mp (show nI m = nI 40 from w); omega), if_neg (show ¬ nI m < (43 : Int32) by rw [show (43 : Int32) = nI 43 from rfl, nI_lt' (by omega) (by omega)]; omega)]
    rw [hset, cv_some, m20s, sI_mk, m21s, sI_mk, if_neg (show ¬ nI m < (43 : Int32) by rw [show (43 : Int32) = nI 43 from rfl, nI_lt' (by omega) (by omega)]; omega)]
    simp only [zb_1]
    have hm2 := hm.resolve_left (by omega)
    rcases hm2 with rfl | rfl
    · rw [if_pos (show nI 43 = (43 : Int32) from rfl), show f_X11_emit n (z + 83) (7 : Int32) (0 : Int32) (mk z C (up2 (up2 I1 (z + 83) 20 (nI P.length)) (z + 83) 21 (nI (op - 1))) J t u) = _ from e3, cv_some, e4, cv_some, e5, cv_some]
    · rw [if_neg (show ¬ nI 44 = (43 : Int32) by decide), show f_X11_emit n (z + 83) (8 : Int32) (0 : Int32) (mk z C (up2 (up2 I1 (z + 83) 20 (nI P.length)) (z + 83) 21 (nI (op - 1))) J t u) = _ from e3, cv_some, e4, cv_some, e5, cv_some]
  · have hm40 : m = 40 := by omega
    obtain ⟨I4, e4, s4, f4⟩ := q_whole hn hT (by have := s2.1; rw [show RfS z r so Tq (up2 (up2 I1 (z + 83) 20 (nI P.length)) (z + 83) 21 (nI (op - 1))) J i (c ++ mpC Q) P (op - 1) true = RfS z r so Tq (up2 (up2 I1 (z + 83) 20 (nI P.length)) (z + 83) 21 (nI (op - 1))) J i (c ++ mpC Q) (p ++ List.replicate j 2) (op - 1) true by rw [← hP]] at this; exact this) hpl (by rw [clen]; omega) (by omega)
    obtain ⟨I5, J5, e5, s5, f5⟩ := q_next hT s4 (by omega)
    refine ⟨I5, J5, ?_, by rw [if_neg q43, List.append_nil]; exact s5, ((f1.trq s2.2).trq f4).trq f5⟩
    unfold f_X11_behindOne
    simp only [jn, bd]
    rw [hb, cl_some, em, cl_some, if_pos (show (0 : Int32) ≤ nI P.length by rw [show (0 : Int32) = nI 0 from rfl, nI_le' (by omega) (by omega)]; omega), g83_19, n87, ck_t (inb_nI (by omega) (by omega)), cl_nI (by omega), m87, if_pos (by decide), if_pos (show mI (mk z C I J t u) (z + 83) 12 = (41 : Int32) from k33.mpr h33), if_pos (show nI m = (40 : Int32) by rw [hm40]; rfl)]
    rw [hset, cv_some, m20s, sI_mk, m21s, sI_mk, if_pos (show nI m < (43 : Int32) by rw [hm40]; decide), e4, cv_some, e5, cv_some, zb_1]
end RV
