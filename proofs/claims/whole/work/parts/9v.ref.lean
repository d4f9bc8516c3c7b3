/-! THE REFERENCE'S READER: its pile, its code, its tokens -/
def rkN (o : Nat) : Nat := if 40 ≤ o then 0 else if o = 22 then 1 else if o = 21 then 2 else if o = 20 then 3 else if 10 ≤ o then 4 else if o = 2 then 7 else if o < 5 then 5 else 6
theorem rkN_lt (o : Nat) : rkN o < 8 := by
  unfold rkN
  split
  · omega
  split
  · omega
  split
  · omega
  split
  · omega
  split
  · omega
  split
  · omega
  split <;> omega
theorem q_rank {n : Nat} {S : MS} {o : Nat} (h : o < 1000) : f_X11_rank n (nI o) S = some (nI (rkN o), S) := by
  have e : ∀ w, w < 1000 → (nI o = nI w ↔ o = w) := fun w hw => nI_inj (by omega) (by omega)
  unfold f_X11_rank rkN
  by_cases h40 : 40 ≤ o
  · rw [if_neg (show ¬ nI o < (40 : Int32) by rw [show (40 : Int32) = nI 40 from rfl, nI_lt' (by omega) (by omega)]; omega), if_pos h40]; rfl
  rw [if_pos (show nI o < (40 : Int32) by rw [show (40 : Int32) = nI 40 from rfl, nI_lt' (by omega) (by omega)]; omega), if_neg h40]
  by_cases h22 : o = 22
  · rw [if_pos (show nI o = (22 : Int32) by rw [h22]; rfl), if_pos h22]; rfl
  rw [if_neg (show ¬ nI o = (22 : Int32) from fun w => h22 ((e 22 (by omega)).mp w)), if_neg h22]
  by_cases h21 : o = 21
  · rw [if_pos (show nI o = (21 : Int32) by rw [h21]; rfl), if_pos h21]; rfl
  rw [if_neg (show ¬ nI o = (21 : Int32) from fun w => h21 ((e 21 (by omega)).mp w)), if_neg h21]
  by_cases h20 : o = 20
  · rw [if_pos (show nI o = (20 : Int32) by rw [h20]; rfl), if_pos h20]; rfl
  rw [if_neg (show ¬ nI o = (20 : Int32) from fun w => h20 ((e 20 (by omega)).mp w)), if_neg h20]
  by_cases h10 : 10 ≤ o
  · rw [if_neg (show ¬ nI o < (10 : Int32) by rw [show (10 : Int32) = nI 10 from rfl, nI_lt' (by omega) (by omega)]; omega), if_pos h10]; rfl
  rw [if_pos (show nI o < (10 : Int32) by rw [show (10 : Int32) = nI 10 from rfl, nI_lt' (by omega) (by omega)]; omega), if_neg h10]
  by_cases h2 : o = 2
  · rw [if_pos (show nI o = (2 : Int32) by rw [h2]; rfl), if_pos h2]; rfl
  rw [if_neg (show ¬ nI o = (2 : Int32) from fun w => h2 ((e 2 (by omega)).mp w)), if_neg h2]
  by_cases h5 : o < 5
  · rw [if_pos (show nI o < (5 : Int32) by rw [show (5 : Int32) = nI 5 from rfl, nI_lt' (by omega) (by omega)]; omega), if_pos h5]; rfl
  · rw [if_neg (show ¬ nI o < (5 : Int32) by rw [show (5 : Int32) = nI 5 from rfl, nI_lt' (by omega) (by omega)]; omega), if_neg h5]; rfl
def cdF (row : Nat → Int32) (r : Nat) (c : Cd) : Prop := ∀ j, j < c.length → row (700 * r + 85 + 2 * j) = nI (c.getD j (0, 0)).1 ∧ row (700 * r + 85 + 2 * j + 1) = nI (c.getD j (0, 0)).2
def plF (row : Nat → Int32) (p : List Nat) : Prop := ∀ j, j < p.length → row j = nI (p.getD j 0)
abbrev TQ : Type := (Nat → Nat → Int32) → (Nat → Nat → Int64) → Nat → Prop
/-- the reference reads: at token i, code c, pile p (its top last), op open, w: behind a ONE -/
def RfS (z r so : Nat) (Tq : TQ) (I : Nat → Nat → Int32) (J : Nat → Nat → Int64) (i : Nat) (c : Cd) (p : List Nat) (op : Nat) (w : Bool) : Prop := Tq I J i ∧ I (z + 83) 15 = nI (700 * r) ∧ I (z + 83) 17 = nI c.length ∧ cdF (I (z + 85)) r c ∧ I (z + 83) 20 = nI p.length ∧ plF (I (z + 87)) p ∧ I (z + 83) 21 = nI op ∧ I (z + 83) 22 = bWC w ∧ I (z + 83) 23 = nI so ∧ c.length ≤ 300 ∧ p.length ≤ 120 ∧ op ≤ 1000 ∧ r < 4
def FrQ (z r : Nat) (I I' : Nat → Nat → Int32) (J J' : Nat → Nat → Int64) : Prop := (∀ q, q ≠ z + 83 → q ≠ z + 85 → q ≠ z + 87 → I' q = I q) ∧ (∀ j, (j < 10 ∨ j = 15 ∨ j = 23 ∨ j = 24) → I' (z + 83) j = I (z + 83) j) ∧ (∀ j, (j < 700 * r + 85 ∨ 700 * r + 700 ≤ j) → I' (z + 85) j = I (z + 85) j) ∧ (∀ q, q ≠ z + 83 → J' q = J q)
theorem FrQ.rfq (z r : Nat) (I : Nat → Nat → Int32) (J : Nat → Nat → Int64) : FrQ z r I I J J := ⟨fun _ _ _ _ => rfl, fun _ _ => rfl, fun _ _ => rfl, fun _ _ => rfl⟩
theorem FrQ.trq {z r : Nat} {I I' I2 : Nat → Nat → Int32} {J J' J2 : Nat → Nat → Int64} (h : FrQ z r I I' J J') (h2 : FrQ z r I' I2 J' J2) : FrQ z r I I2 J J2 := ⟨fun q a b c => (h2.1 q a b c).trans (h.1 q a b c), fun j a => (h2.2.1 j a).trans (h.2.1 j a), fun j a => (h2.2.2.1 j a).trans (h.2.2.1 j a), fun q a => (h2.2.2.2 q a).trans (h.2.2.2 q a)⟩
def tkO (s : Nat) : Nat := [60, 62, 61, 35, 43, 45, 42, 47, 40, 41, 44, 59, 4, 5, 1, 0].getD (s - 24) 0
def wdJ (q : Nat) : Int64 := [7170414, 7168376, 7237492, 6385252, 28530, 24948, 1752132708, 6709618, 1668444016, 439956631140, 1651469925, 495873780581].getD (q - 12) 0
def NtF (z : Nat) (I I' : Nat → Nat → Int32) (J J' : Nat → Nat → Int64) : Prop := (∀ q, q ≠ z + 83 → I' q = I q) ∧ (∀ j, (j < 10 ∨ 15 ≤ j) → I' (z + 83) j = I (z + 83) j) ∧ (∀ q, q ≠ z + 83 → J' q = J q)
/-- what is asked of the tokens -/
def TokOK (n z C t : Nat) (u : Option Nat) (tk : Nat → Nat × Nat) (Tq : TQ) : Prop :=
  (∀ (I I' : Nat → Nat → Int32) (J J' : Nat → Nat → Int64) (i : Nat), Tq I J i → (∀ j, (j = 7 ∨ (10 ≤ j ∧ j ≤ 13)) → I' (z + 83) j = I (z + 83) j) → I' (z + 86) = I (z + 86) → J' (z + 83) 14 = J (z + 83) 14 → Tq I' J' i) ∧
  (∀ (I : Nat → Nat → Int32) (J : Nat → Nat → Int64) (i : Nat), Tq I J i → (tk i).1 ≠ 39 → ∃ I' J', f_X11_nextToken n (z + 83) (mk z C I J t u) = some (mk z C I' J' t u) ∧ Tq I' J' (i + 1) ∧ NtF z I I' J J') ∧
  (∀ (I : Nat → Nat → Int32) (J : Nat → Nat → Int64) (i : Nat), Tq I J i → i ≤ 300 ∧ (tk i).1 ≤ 40 ∧ (24 ≤ (tk i).1 → (tk i).1 ≤ 39 → I (z + 83) 12 = nI (tkO (tk i).1)) ∧ ((tk i).1 = 40 → I (z + 83) 12 = nI 2 ∨ I (z + 83) 12 = nI 3) ∧ ((tk i).1 < 24 → I (z + 83) 12 = nI 2)) ∧
  (∀ (I : Nat → Nat → Int32) (J : Nat → Nat → Int64) (i : Nat), Tq I J i → (tk i).1 = 38 → ∃ m, m < 1000000 ∧ I (z + 83) 13 = nI m ∧ (m ≤ 9999 → (tk i).2 = m) ∧ (9999 < m → 9999 < (tk i).2)) ∧
  (∀ (I : Nat → Nat → Int32) (J : Nat → Nat → Int64) (i : Nat), Tq I J i → f_X11_nameOf n (z + 83) (mk z C I J t u) = some ((if (tk i).1 < 12 then nI (tk i).1 else -1), mk z C I J t u)) ∧
  (∀ (I : Nat → Nat → Int32) (J : Nat → Nat → Int64) (i : Nat), Tq I J i → ∀ q, 12 ≤ q → q < 24 → ((I (z + 83) 12 = nI 2 ∧ J (z + 83) 14 = wdJ q) ↔ (tk i).1 = q))
theorem plF_app {row : Nat → Int32} {p : List Nat} {o : Nat} (h : plF row p) : plF (ur row p.length (nI o)) (p ++ [o]) := by
  intro j hj
  rw [List.length_append] at hj
  have hj : j < p.length + 1 := hj
  by_cases e : j = p.length
  · subst e
    rw [ur_at, List.getD_eq_getElem?_getD, List.getElem?_append_right (Nat.le_refl _), Nat.sub_self]
    rfl
  · rw [ur_ne _ _ e, h j (by omega), List.getD_eq_getElem?_getD, List.getD_eq_getElem?_getD, List.getElem?_append_left (by omega)]
theorem plF_pre {row : Nat → Int32} {p q : List Nat} (h : plF row (p ++ q)) : plF row p := by
  intro j hj
  have := h j (by rw [List.length_append]; omega)
  rw [this, List.getD_eq_getElem?_getD, List.getD_eq_getElem?_getD, List.getElem?_append_left hj]
theorem plF_top {row : Nat → Int32} {p : List Nat} {o : Nat} (h : plF row (p ++ [o])) : row p.length = nI o := by
  have := h p.length (by rw [List.length_append]; show p.length < p.length + 1; omega)
  rw [this, List.getD_eq_getElem?_getD, List.getElem?_append_right (Nat.le_refl _), Nat.sub_self]
  rfl
theorem cdF_app {row : Nat → Int32} {r : Nat} {c : Cd} {o v : Nat} (h : cdF row r c) : cdF (ur (ur row (700 * r + 85 + 2 * c.length) (nI o)) (700 * r + 85 + 2 * c.length + 1) (nI v)) r (c ++ [(o, v)]) := by
  intro j hj
  rw [List.length_append] at hj
  have hj : j < c.length + 1 := hj
  by_cases e : j = c.length
  · subst e
    rw [ur_ne _ _ (by omega), ur_at, ur_at, List.getD_eq_getElem?_getD, List.getElem?_append_right (Nat.le_refl _), Nat.sub_self]
    exact ⟨rfl, rfl⟩
  · rw [ur_ne _ _ (by omega), ur_ne _ _ (by omega), ur_ne _ _ (by omega), ur_ne _ _ (by omega), List.getD_eq_getElem?_getD, List.getElem?_append_left (by omega), ← List.getD_eq_getElem?_getD]
    exact h j (by omega)
section RF9
variable {n z C t r so : Nat} {u : Option Nat} {I : Nat → Nat → Int32} {J : Nat → Nat → Int64} {tk : Nat → Nat × Nat} {Tq : TQ} {i op : Nat} {c : Cd} {p : List Nat} {w : Bool}
theorem q_emit (hT : TokOK n z C t u tk Tq) (h : RfS z r so Tq I J i c p op w) (hc : c.length < 300) {o v : Nat} : ∃ I', f_X11_emit n (z + 83) (nI o) (nI v) (mk z C I J t u) = some (mk z C I' J t u) ∧ RfS z r so Tq I' J i (c ++ [(o, v)]) p op w ∧ FrQ z r I I' J J ∧ I' (z + 87) = I (z + 87) ∧ I' (z + 83) 20 = I (z + 83) 20 ∧ I' (z + 83) 21 = I (z + 83) 21 := by
  obtain ⟨h1, h2, h3, h4, h5, h6, h7, h8, h9, h10, h11, h12, h13⟩ := h
  have x1 : (nI (700 * r) + (85 : Int32)) + (2 : Int32) * nI c.length = nI (700 * r + 85 + 2 * c.length) := by
    rw [show (2 : Int32) * nI c.length = nI (2 * c.length) from nI_ml 2 _, show nI (700 * r) + (85 : Int32) = nI (700 * r + 85) from nI_pl _ 85, nI_pl]
  have x2 : nI (700 * r + 85 + 2 * c.length) + (1 : Int32) = nI (700 * r + 85 + 2 * c.length + 1) := nI_pl _ 1
  have m15 : mI (mk z C I J t u) (z + 83) 15 = nI (700 * r) := h2
  have m17 : mI (mk z C I J t u) (z + 83) 17 = nI c.length := h3
  obtain ⟨I1, hI1⟩ : ∃ I1, I1 = up2 I (z + 85) (700 * r + 85 + 2 * c.length) (nI o) := ⟨_, rfl⟩
  obtain ⟨I2, hI2⟩ : ∃ I2, I2 = up2 I1 (z + 85) (700 * r + 85 + 2 * c.length + 1) (nI v) := ⟨_, rfl⟩
  have m15' : mI (mk z C I1 J t u) (z + 83) 15 = nI (700 * r) := by rw [mI_mk, hI1, up2_ne (by omega)]; exact h2
  have m17' : mI (mk z C I1 J t u) (z + 83) 17 = nI c.length := by rw [mI_mk, hI1, up2_ne (by omega)]; exact h3
  have m17'' : mI (mk z C I2 J t u) (z + 83) 17 = nI c.length := by rw [mI_mk, hI2, up2_ne (by omega), hI1, up2_ne (by omega)]; exact h3
  have R : ∀ q, q ≠ z + 83 → q ≠ z + 85 → up2 I2 (z + 83) 17 (nI (c.length + 1)) q = I q := fun q a b => by rw [up2_ne a, hI2, up2_ne b, hI1, up2_ne b]
  have R83 : ∀ j, j ≠ 17 → up2 I2 (z + 83) 17 (nI (c.length + 1)) (z + 83) j = I (z + 83) j := fun j hj => by rw [up2_r, ur_ne _ _ hj, hI2, up2_ne (by omega), hI1, up2_ne (by omega)]
  have R85 : up2 I2 (z + 83) 17 (nI (c.length + 1)) (z + 85) = ur (ur (I (z + 85)) (700 * r + 85 + 2 * c.length) (nI o)) (700 * r + 85 + 2 * c.length + 1) (nI v) := by rw [up2_ne (by omega), hI2, up2_r, hI1, up2_r]
  refine ⟨up2 I2 (z + 83) 17 (nI (c.length + 1)), ?_, ⟨hT.1 _ _ _ _ _ h1 (fun j hj => R83 j (by omega)) (R _ (by omega) (by omega)) rfl, ?_, ?_, ?_, ?_, ?_, ?_, ?_, ?_, ?_, h11, h12, h13⟩, ⟨fun q a b c => R q a b, fun j hj => R83 j (by omega), fun j hj => ?_, fun _ _ => rfl⟩, R _ (by omega) (by omega), R83 _ (by omega), R83 _ (by omega)⟩
  · unfold f_X11_emit
    simp only [bd]
    rw [g83_5, n85, m15, m17, x1, ck_t (inb_nI (by omega) (by omega)), cl_nI (by omega), sI_mk, ← hI1, g83_5, n85, m15', m17', x1, x2, ck_t (inb_nI (by omega) (by omega)), cl_nI (by omega), sI_mk, ← hI2, m17'', show nI c.length + (1 : Int32) = nI (c.length + 1) from nI_pl _ 1, sI_mk]
  · rw [R83 _ (by omega)]; exact h2
  · rw [up2_r, ur_at, List.length_append]; rfl
  · rw [R85]; exact cdF_app h4
  · rw [R83 _ (by omega)]; exact h5
  · rw [R _ (by omega) (by omega)]; exact h6
  · rw [R83 _ (by omega)]; exact h7
  · rw [R83 _ (by omega)]; exact h8
  · rw [R83 _ (by omega)]; exact h9
  · rw [List.length_append]; show c.length + 1 ≤ 300; omega
  · rw [R85, ur_ne _ _ (by omega), ur_ne _ _ (by omega)]
/-- fields of the reader alone change: 20, 21, 22, and the pile -/
theorem RfS.setf (hT : TokOK n z C t u tk Tq) {I' : Nat → Nat → Int32} {p' : List Nat} {op' : Nat} {w' : Bool} (h : RfS z r so Tq I J i c p op w) (hq : ∀ q, q ≠ z + 83 → q ≠ z + 87 → I' q = I q) (h83 : ∀ j, j ≠ 20 → j ≠ 21 → j ≠ 22 → I' (z + 83) j = I (z + 83) j) (h20 : I' (z + 83) 20 = nI p'.length) (h21 : I' (z + 83) 21 = nI op') (h22 : I' (z + 83) 22 = bWC w') (hp : plF (I' (z + 87)) p') (hl : p'.length ≤ 120) (ho : op' ≤ 1000) : RfS z r so Tq I' J i c p' op' w' ∧ FrQ z r I I' J J := by
  obtain ⟨h1, h2, h3, h4, h5, h6, h7, h8, h9, h10, h11, h12, h13⟩ := h
  refine ⟨⟨hT.1 _ _ _ _ _ h1 (fun j hj => h83 j (by omega) (by omega) (by omega)) (hq _ (by omega) (by omega)) rfl, ?_, ?_, ?_, h20, hp, h21, h22, ?_, h10, hl, ho, h13⟩, ⟨fun q a b c => hq q a c, fun j hj => h83 j (by omega) (by omega) (by omega), fun j _ => by rw [hq _ (by omega) (by omega)], fun _ _ => rfl⟩⟩
  · rw [h83 _ (by omega) (by omega) (by omega)]; exact h2
  · rw [h83 _ (by omega) (by omega) (by omega)]; exact h3
  · rw [hq _ (by omega) (by omega)]; exact h4
  · rw [h83 _ (by omega) (by omega) (by omega)]; exact h9
theorem q_push (hT : TokOK n z C t u tk Tq) (h : RfS z r so Tq I J i c p op w) (hl : p.length < 120) {o : Nat} : ∃ I', f_X11_push n (z + 83) (nI o) (mk z C I J t u) = some (mk z C I' J t u) ∧ RfS z r so Tq I' J i c (p ++ [o]) op w ∧ FrQ z r I I' J J := by
  obtain ⟨h1, h2, h3, h4, h5, h6, h7, h8, h9, h10, h11, h12, h13⟩ := id h
  have m20 : mI (mk z C I J t u) (z + 83) 20 = nI p.length := h5
  have m20' : mI (mk z C (up2 I (z + 87) p.length (nI o)) J t u) (z + 83) 20 = nI p.length := by rw [mI_mk, up2_ne (by omega)]; exact h5
  refine ⟨up2 (up2 I (z + 87) p.length (nI o)) (z + 83) 20 (nI (p.length + 1)), ?_, RfS.setf hT h (fun q a b => by rw [up2_ne a, up2_ne b]) (fun j a _ _ => by rw [up2_r, ur_ne _ _ a, up2_ne (by omega)]) ?_ ?_ ?_ ?_ ?_ h12⟩
  · unfold f_X11_push
    simp only [bd]
    rw [g83_19, n87, m20, ck_t (inb_nI (by omega) (by omega)), cl_nI (by omega), sI_mk, m20', show nI p.length + (1 : Int32) = nI (p.length + 1) from nI_pl _ 1, sI_mk]
  · rw [up2_r, ur_at, List.length_append]; rfl
  · rw [up2_r, ur_ne _ _ (by omega), up2_ne (by omega)]; exact h7
  · rw [up2_r, ur_ne _ _ (by omega), up2_ne (by omega)]; exact h8
  · rw [up2_ne (by omega), up2_r]; exact plF_app h6
  · rw [List.length_append]; show p.length + 1 ≤ 120; omega
theorem q_w (hT : TokOK n z C t u tk Tq) (h : RfS z r so Tq I J i c p op w) (w' : Bool) : RfS z r so Tq (up2 I (z + 83) 22 (bWC w')) J i c p op w' ∧ FrQ z r I (up2 I (z + 83) 22 (bWC w')) J J := by
  obtain ⟨h1, h2, h3, h4, h5, h6, h7, h8, h9, h10, h11, h12, h13⟩ := id h
  refine RfS.setf hT h (fun q a b => up2_ne a) (fun j _ _ a => by rw [up2_r, ur_ne _ _ a]) ?_ ?_ ?_ ?_ h11 h12
  · rw [up2_r, ur_ne _ _ (by omega)]; exact h5
  · rw [up2_r, ur_ne _ _ (by omega)]; exact h7
  · rw [up2_r, ur_at]
  · rw [up2_ne (by omega)]; exact h6
theorem q_op (hT : TokOK n z C t u tk Tq) (h : RfS z r so Tq I J i c p op w) {op' : Nat} (ho : op' ≤ 1000) : RfS z r so Tq (up2 I (z + 83) 21 (nI op')) J i c p op' w ∧ FrQ z r I (up2 I (z + 83) 21 (nI op')) J J := by
  obtain ⟨h1, h2, h3, h4, h5, h6, h7, h8, h9, h10, h11, h12, h13⟩ := id h
  refine RfS.setf hT h (fun q a b => up2_ne a) (fun j _ a _ => by rw [up2_r, ur_ne _ _ a]) ?_ ?_ ?_ ?_ h11 ho
  · rw [up2_r, ur_ne _ _ (by omega)]; exact h5
  · rw [up2_r, ur_at]
  · rw [up2_r, ur_ne _ _ (by omega)]; exact h8
  · rw [up2_ne (by omega)]; exact h6
theorem q_next (hT : TokOK n z C t u tk Tq) (h : RfS z r so Tq I J i c p op w) (hi : (tk i).1 ≠ 39) : ∃ I' J', f_X11_nextToken n (z + 83) (mk z C I J t u) = some (mk z C I' J' t u) ∧ RfS z r so Tq I' J' (i + 1) c p op w ∧ FrQ z r I I' J J' := by
  obtain ⟨h1, h2, h3, h4, h5, h6, h7, h8, h9, h10, h11, h12, h13⟩ := id h
  obtain ⟨I', J', e, t1, f1, f2, f3⟩ := hT.2.1 I J i h1 hi
  refine ⟨I', J', e, ⟨t1, ?_, ?_, ?_, ?_, ?_, ?_, ?_, ?_, h10, h11, h12, h13⟩, ⟨fun q a _ _ => f1 q a, fun j hj => f2 j (by omega), fun j _ => by rw [f1 _ (by omega)], f3⟩⟩
  · rw [f2 _ (by omega)]; exact h2
  · rw [f2 _ (by omega)]; exact h3
  · rw [f1 _ (by omega)]; exact h4
  · rw [f2 _ (by omega)]; exact h5
  · rw [f1 _ (by omega)]; exact h6
  · rw [f2 _ (by omega)]; exact h7
  · rw [f2 _ (by omega)]; exact h8
  · rw [f2 _ (by omega)]; exact h9
def cnU (Q : List Nat) : Nat := match Q with
  | [] => 0
  | o :: r => (if o = 2 ∨ o = 20 then 1 else 0) + cnU r
def mpC (Q : List Nat) : Cd := Q.map (fun o => (o, 0))
theorem q_settle (hT : TokOK n z C t u tk Tq) {L : Nat} (hL : L < 1000) : ∀ (Q : List Nat) (k : Nat) (I : Nat → Nat → Int32) (c : Cd) (op : Nat), Q.length < k → RfS z r so Tq I J i c (p ++ Q.reverse) op w → (∀ o, o ∈ Q → o < 1000 ∧ L ≤ rkN o) → (p = [] ∨ ∃ p' o, p = p' ++ [o] ∧ o < 1000 ∧ rkN o < L) → c.length + Q.length ≤ 300 → cnU Q ≤ op → ∃ I', f_X11_settle_L0 n (z + 83) (nI L) k (mk z C I J t u) = some (mk z C I' J t u) ∧ RfS z r so Tq I' J i (c ++ mpC Q) p (op - cnU Q) w ∧ FrQ z r I I' J J := by
  intro Q
  induction Q with
  | nil =>
    intro k I c op hk h hQ hp hl ho
    obtain ⟨k, rfl⟩ : ∃ m, k = m + 1 := ⟨k - 1, by omega⟩
    rw [List.reverse_nil, List.append_nil] at h
    have m20 : mI (mk z C I J t u) (z + 83) 20 = nI p.length := h.2.2.2.2.1
    have hp120 := h.2.2.2.2.2.2.2.2.2.2.1
    refine ⟨I, ?_, by rw [show mpC [] = [] from rfl, List.append_nil]; exact h, FrQ.rfq z r I J⟩
    rw [f_X11_settle_L0]
    simp only [jn, bd]
    rcases hp with rfl | ⟨p', o, rfl, h1, h2⟩
    · rw [if_pos (show mI (mk z C I J t u) (z + 83) 20 ≤ 0 by rw [m20]; decide)]
    · have htop := plF_top h.2.2.2.2.2.1
      have hlen : (p' ++ [o]).length = p'.length + 1 := by rw [List.length_append]; rfl
      rw [hlen] at m20 hp120
      have m87 : mI (mk z C I J t u) (z + 87) p'.length = nI o := htop
      rw [if_neg (show ¬ mI (mk z C I J t u) (z + 83) 20 ≤ 0 by rw [m20, show (0 : Int32) = nI 0 from rfl, nI_le' (by omega) (by omega)]; omega), g83_19, n87, m20, nI_s1 (by omega), Nat.add_sub_cancel, ck_t (inb_nI (by omega) (by omega)), cl_nI (by omega), m87, q_rank h1, cl_some, if_pos ((nI_lt' (by omega) (by omega)).mpr h2)]
  | cons o Q ih =>
    intro k I c op hk h hQ hp hl ho
    obtain ⟨k, rfl⟩ : ∃ m, k = m + 1 := ⟨k - 1, by have : (o :: Q).length = Q.length + 1 := rfl; omega⟩
    rw [List.reverse_cons, ← List.append_assoc] at h
    have hlQ : (o :: Q).length = Q.length + 1 := rfl
    rw [hlQ] at hl hk
    obtain ⟨q1, q2⟩ := hQ o (List.mem_cons_self ..)
    have hrk := rkN_lt o
    obtain ⟨h1, h2, h3, h4, h5, h6, h7, h8, h9, h10, h11, h12, h13⟩ := id h
    have hlen : ((p ++ Q.reverse) ++ [o]).length = (p ++ Q.reverse).length + 1 := by rw [List.length_append]; rfl
    generalize hP : p ++ Q.reverse = P at *
    have m20 : mI (mk z C I J t u) (z + 83) 20 = nI (P.length + 1) := by rw [mI_mk, h5, hlen]
    rw [hlen] at h11
    have m87 : mI (mk z C I J t u) (z + 87) P.length = nI o := plF_top h6
    -- one less on the pile
    have sa := RfS.setf (p' := P) (op' := op) (w' := w) (I' := up2 I (z + 83) 20 (nI P.length)) hT h (fun q a b => up2_ne a) (fun j a _ _ => by rw [up2_r, ur_ne _ _ a]) (by rw [up2_r, ur_at]) (by rw [up2_r, ur_ne _ _ (by omega)]; exact h7) (by rw [up2_r, ur_ne _ _ (by omega)]; exact h8) (by rw [up2_ne (by omega)]; exact plF_pre h6) (by omega) h12
    obtain ⟨I2, e2, s2, f2, g87, g20, g21⟩ := q_emit hT sa.1 (by omega) (o := o) (v := 0)
    have m20a : mI (mk z C (up2 I (z + 83) 20 (nI P.length)) J t u) (z + 83) 20 = nI P.length := by rw [mI_mk, up2_r, ur_at]
    have m87a : mI (mk z C (up2 I (z + 83) 20 (nI P.length)) J t u) (z + 87) P.length = nI o := by rw [mI_mk, up2_ne (by omega)]; exact m87
    have m20b : mI (mk z C I2 J t u) (z + 83) 20 = nI P.length := by rw [mI_mk, g20]; exact m20a
    have m87b : mI (mk z C I2 J t u) (z + 87) P.length = nI o := by rw [mI_mk, g87]; exact m87a
    have m21b : mI (mk z C I2 J t u) (z + 83) 21 = nI op := by rw [mI_mk, g21, up2_r, ur_ne _ _ (by omega)]; exact h7
    have e2' : f_X11_emit n (z + 83) (nI o) (0 : Int32) (mk z C (up2 I (z + 83) 20 (nI P.length)) J t u) = some (mk z C I2 J t u) := e2
    have pre : f_X11_settle_L0 n (z + 83) (nI L) (k + 1) (mk z C I J t u) = (if nI o = (2 : Int32) then f_X11_settle_L0 n (z + 83) (nI L) k (mk z C (up2 I2 (z + 83) 21 (nI op - 1)) J t u) else (if nI o = (20 : Int32) then f_X11_settle_L0 n (z + 83) (nI L) k (mk z C (up2 I2 (z + 83) 21 (nI op - 1)) J t u) else f_X11_settle_L0 n (z + 83) (nI L) k (mk z C I2 J t u))) := by
      rw [f_X11_settle_L0]
      simp only [jn, bd]
      rw [if_neg (show ¬ mI (mk z C I J t u) (z + 83) 20 ≤ 0 by rw [m20, show (0 : Int32) = nI 0 from rfl, nI_le' (by omega) (by omega)]; omega), g83_19, n87, m20, nI_s1 (by omega), Nat.add_sub_cancel, ck_t (inb_nI (by omega) (by omega)), cl_nI (by omega), m87, q_rank q1, cl_some, if_neg (fun w => by rw [nI_lt' (by omega) (by omega)] at w; omega), sI_mk, m20, nI_s1 (by omega), Nat.add_sub_cancel, g83_19, n87, m20a, ck_t (inb_nI (by omega) (by omega)), cl_nI (by omega), m87a, e2', cv_some, g83_19, n87, m20b, ck_t (inb_nI (by omega) (by omega)), cl_nI (by omega), m87b, m21b, sI_mk, g83_19, n87, ck_t (inb_nI (by omega) (by omega)), m87b]
    have hcn : cnU (o :: Q) = (if o = 2 ∨ o = 20 then 1 else 0) + cnU Q := rfl
    have hmp : c ++ mpC (o :: Q) = (c ++ [(o, 0)]) ++ mpC Q := by rw [List.append_assoc]; rfl
    by_cases h2o : o = 2 ∨ o = 20
    · rw [if_pos h2o] at hcn
      have s3 := q_op hT s2 (op' := op - 1) (by omega)
      obtain ⟨I4, e4, s4, f4⟩ := ih k (up2 I2 (z + 83) 21 (nI (op - 1))) (c ++ [(o, 0)]) (op - 1) (by omega) s3.1 (fun o ho => hQ o (List.mem_cons_of_mem _ ho)) hp (by rw [List.length_append]; show c.length + 1 + Q.length ≤ 300; omega) (by omega)
      refine ⟨I4, ?_, ?_, ((sa.2.trq f2).trq s3.2).trq f4⟩
      · rw [pre, nI_s1 (by omega)]
        rcases h2o with w2 | w2
        · rw [if_pos (show nI o = (2 : Int32) by rw [w2]; rfl)]; exact e4
        · rw [if_neg (show ¬ nI o = (2 : Int32) by rw [w2]; decide), if_pos (show nI o = (20 : Int32) by rw [w2]; rfl)]; exact e4
      · rw [hmp, hcn, show op - (1 + cnU Q) = op - 1 - cnU Q by omega]; exact s4
    · rw [if_neg h2o, Nat.zero_add] at hcn
      obtain ⟨I4, e4, s4, f4⟩ := ih k I2 (c ++ [(o, 0)]) op (by omega) s2 (fun o ho => hQ o (List.mem_cons_of_mem _ ho)) hp (by rw [List.length_append]; show c.length + 1 + Q.length ≤ 300; omega) (by omega)
      refine ⟨I4, ?_, ?_, (sa.2.trq f2).trq f4⟩
      · rw [pre, if_neg (show ¬ nI o = (2 : Int32) from fun w => h2o (Or.inl ((nI_inj (by omega) (by omega)).mp (show nI o = nI 2 from w)))), if_neg (show ¬ nI o = (20 : Int32) from fun w => h2o (Or.inr ((nI_inj (by omega) (by omega)).mp (show nI o = nI 20 from w))))]; exact e4
      · rw [hmp, hcn]; exact s4
end RF9
