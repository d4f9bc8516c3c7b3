/-! THE CLASS'S READER: its steps -/
theorem put_v {v s : Nat} (hv : v ≤ 10000) (hs : s < 64) : (nI v <<< ((6 : Int32) &&& 31)) ||| nI s = nI (v * 64 + s) := by
  apply Int32.toBitVec_inj.mp
  apply BitVec.eq_of_toNat_eq
  show (BitVec.ofNat 32 v <<< 6 ||| BitVec.ofNat 32 s).toNat = (BitVec.ofNat 32 (v * 64 + s)).toNat
  rw [BitVec.toNat_or, BitVec.toNat_shiftLeft, BitVec.toNat_ofNat, BitVec.toNat_ofNat, BitVec.toNat_ofNat, Nat.mod_eq_of_lt (show v < 2 ^ 32 by omega), Nat.mod_eq_of_lt (show s < 2 ^ 32 by omega), Nat.mod_eq_of_lt (show v * 64 + s < 2 ^ 32 by omega)]
  have h1 : v <<< 6 = v * 64 := by rw [Nat.shiftLeft_eq]
  rw [Nat.mod_eq_of_lt (by rw [h1]; omega), ← Nat.shiftLeft_add_eq_or_of_lt (show s < 2 ^ 6 by omega), h1]
def nmK (so : Nat) : Nat := if so = 2 then 3608 else if so = 1 then 255 else if so = 3 then 319 else if so < 6 then 63 else so - 6
theorem nmK_b : ∀ so, so < 4 → ∀ v, v < 12 → ((iush (nI (nmK so)) (nI v) &&& (1 : Int32)) = 0 ↔ isOfN so v = false) := by decide +kernel
/-- the tokens as the class has cut them -/
def TkC (z N : Nat) (I : Nat → Nat → Int32) (tk : Nat → Nat × Nat) (pl : Nat → Nat) : Prop := N ≤ 300 ∧ (tk N).1 = 39 ∧ (∀ i, i < N → (tk i).1 ≠ 39) ∧ ∀ i, i ≤ N → (tk i).1 ≤ 40 ∧ (tk i).2 ≤ 10000 ∧ pl i ≤ 300 ∧ I (z + 19) i = nI (tk i).1 ∧ I (z + 20) i = nI (pl i) ∧ I (z + 21) i = nI (tk i).2
def cdR (row : Nat → Int32) (c : Cd) : Prop := ∀ j, j < c.length → row j = nI ((c.getD j (0, 0)).2 * 64 + sg (c.getD j (0, 0)).1)
/-- no fault so far: at token i, with the code c -/
def OkSt (z r N so : Nat) (tk : Nat → Nat × Nat) (pl : Nat → Nat) (I : Nat → Nat → Int32) (i : Nat) (c : Cd) : Prop := TkC z N I tk pl ∧ I (z + 17) 6 = nI (nmK so) ∧ i ≤ N ∧ c.length ≤ 300 ∧ I (z + 17) 0 = 0 ∧ I (z + 17) 1 = -1 ∧ I (z + 17) 4 = nI i ∧ I (z + 17) 5 = nI (tk i).1 ∧ I (z + (97 + 6 * r)) 6 = nI c.length ∧ cdR (I (z + (97 + 6 * r + 1 + 4))) c
/-- the fault f at token i -/
def FaS (z r N : Nat) (tk : Nat → Nat × Nat) (pl : Nat → Nat) (I : Nat → Nat → Int32) (f i : Nat) : Prop := TkC z N I tk pl ∧ 1 ≤ f ∧ f ≤ 6 ∧ i ≤ N ∧ I (z + 17) 0 = nI f ∧ I (z + 17) 1 = nI (pl i) ∧ I (z + 17) 5 = 39 ∧ (∃ a, a ≤ 300 ∧ I (z + 17) 4 = nI a) ∧ ∃ s, s ≤ 300 ∧ I (z + (97 + 6 * r)) 6 = nI s
def StC (z r N so : Nat) (tk : Nat → Nat × Nat) (pl : Nat → Nat) (I : Nat → Nat → Int32) (x : PrR) : Prop := match x with
  | Sum.inl e => FaS z r N tk pl I e.1 e.2
  | Sum.inr y => OkSt z r N so tk pl I y.1 y.2
/-- what the reader may change -/
def FrP (z r : Nat) (I I' : Nat → Nat → Int32) : Prop := (∀ q, q ≠ z + 17 → q ≠ z + (97 + 6 * r) → q ≠ z + (97 + 6 * r + 1 + 4) → I' q = I q) ∧ (∀ j, j = 6 → I' (z + 17) j = I (z + 17) j) ∧ (∀ j, j ≠ 6 → I' (z + (97 + 6 * r)) j = I (z + (97 + 6 * r)) j)
theorem FrP.rfp (z r : Nat) (I : Nat → Nat → Int32) : FrP z r I I := ⟨fun _ _ _ _ => rfl, fun _ _ => rfl, fun _ _ => rfl⟩
theorem FrP.trp {z r : Nat} {I I' I2 : Nat → Nat → Int32} (h : FrP z r I I') (h2 : FrP z r I' I2) : FrP z r I I2 := ⟨fun q a b c => (h2.1 q a b c).trans (h.1 q a b c), fun j a => (h2.2.1 j a).trans (h.2.1 j a), fun j a => (h2.2.2 j a).trans (h.2.2 j a)⟩
theorem TkC.frp {z r N : Nat} {I I' : Nat → Nat → Int32} {tk : Nat → Nat × Nat} {pl : Nat → Nat} (h : TkC z N I tk pl) (hf : ∀ q, z + 18 ≤ q → q ≤ z + 21 → I' q = I q) : TkC z N I' tk pl := by
  obtain ⟨a1, a2, a3, a4⟩ := h
  exact ⟨a1, a2, a3, fun i hi => by rw [hf _ (by omega) (by omega), hf _ (by omega) (by omega), hf _ (by omega) (by omega)]; exact a4 i hi⟩
theorem cdR_app {row : Nat → Int32} {c : Cd} {o v : Nat} (h : cdR row c) : cdR (ur row c.length (nI (v * 64 + sg o))) (c ++ [(o, v)]) := by
  intro j hj
  rw [List.length_append] at hj
  have hj : j < c.length + 1 := hj
  by_cases e : j = c.length
  · subst e
    rw [ur_at, List.getD_eq_getElem?_getD, List.getElem?_append_right (Nat.le_refl _), Nat.sub_self]
    rfl
  · rw [ur_ne _ _ e, h j (by omega), List.getD_eq_getElem?_getD, List.getD_eq_getElem?_getD, List.getElem?_append_left (by omega)]
section RD
variable {n z C t r N so : Nat} {I : Nat → Nat → Int32} {J : Nat → Nat → Int64} {tk : Nat → Nat × Nat} {pl : Nat → Nat}
theorem gU {α : Type} (hr : r < t) {F : Nat → Option α} : gR (mk z C I J t (some (97 + 6 * r))) (mR (mk z C I J t (some (97 + 6 * r))) (z + 17) 3) 7 F = F (z + (97 + 6 * r)) := gR_mk rfl (by omega) (by unfold kO; rw [if_neg (by omega), if_pos (by omega), if_pos (by omega)])
theorem st_adv {i : Nat} {c : Cd} (h : OkSt z r N so tk pl I i c) (hn : (tk i).1 ≠ 39) : i < N ∧ ∃ I', f_X4_advance n (z + 17) (mk z C I J t (some (97 + 6 * r))) = some (mk z C I' J t (some (97 + 6 * r))) ∧ OkSt z r N so tk pl I' (i + 1) c ∧ FrP z r I I' := by
  obtain ⟨h1, h2, h3, h4, h5, h6, h7, h8, h9, h10⟩ := h
  obtain ⟨a1, a2, a3, a4⟩ := id h1
  have hiN : i < N := by
    rcases Nat.lt_or_ge i N with w | w
    · exact w
    · exact absurd (by rw [show i = N by omega]; exact a2) hn
  obtain ⟨b1, b2, b3, b4, b5, b6⟩ := a4 i (by omega)
  have m0 : mI (mk z C I J t (some (97 + 6 * r))) (z + 17) 0 = 0 := h5
  have m4 : mI (mk z C I J t (some (97 + 6 * r))) (z + 17) 4 = nI i := h7
  have m5 : mI (mk z C I J t (some (97 + 6 * r))) (z + 17) 5 = nI (tk i).1 := h8
  have ei : nI i + (1 : Int32) = nI (i + 1) := nI_pl i 1
  have e1 : up2 I (z + 17) 4 (nI (i + 1)) (z + 17) 4 = nI (i + 1) := by rw [up2_r, ur_at]
  have m41 : mI (mk z C (up2 I (z + 17) 4 (nI (i + 1))) J t (some (97 + 6 * r))) (z + 17) 4 = nI (i + 1) := e1
  have m19 : mI (mk z C (up2 I (z + 17) 4 (nI (i + 1))) J t (some (97 + 6 * r))) (z + 19) (i + 1) = nI (tk (i + 1)).1 := by rw [mI_mk, up2_ne (by omega)]; exact (a4 (i + 1) (by omega)).2.2.2.1
  refine ⟨hiN, up2 (up2 I (z + 17) 4 (nI (i + 1))) (z + 17) 5 (nI (tk (i + 1)).1), ?_, ?_, ?_⟩
  · unfold f_X4_advance
    simp only [bd]
    rw [m0, if_pos rfl, m5, if_neg (show ¬ nI (tk i).1 = (39 : Int32) by rw [show (39 : Int32) = nI 39 from rfl, nI_inj (by omega) (by omega)]; exact hn), g17_2, g18_0, n19, m4, ei, if_neg (show ¬ Int32.ofNat 301 ≤ nI (i + 1) by rw [show Int32.ofNat 301 = nI 301 from rfl, nI_le' (by omega) (by omega)]; omega), sI_mk, g17_2, g18_0, n19, m41, ck_t (inb_nI (by omega) (by omega)), cl_nI (by omega), m19, sI_mk]
  · have R : ∀ q, q ≠ z + 17 → up2 (up2 I (z + 17) 4 (nI (i + 1))) (z + 17) 5 (nI (tk (i + 1)).1) q = I q := fun q hq => by rw [up2_ne hq, up2_ne hq]
    have R17 : up2 (up2 I (z + 17) 4 (nI (i + 1))) (z + 17) 5 (nI (tk (i + 1)).1) (z + 17) = ur (ur (I (z + 17)) 4 (nI (i + 1))) 5 (nI (tk (i + 1)).1) := by rw [up2_r, up2_r]
    refine ⟨h1.frp (r := r) (fun q p1 p2 => R q (by omega)), ?_, by omega, h4, ?_, ?_, ?_, ?_, ?_, ?_⟩
    · rw [R17, ur_ne _ _ (by omega), ur_ne _ _ (by omega)]; exact h2
    · rw [R17, ur_ne _ _ (by omega), ur_ne _ _ (by omega)]; exact h5
    · rw [R17, ur_ne _ _ (by omega), ur_ne _ _ (by omega)]; exact h6
    · rw [R17, ur_ne _ _ (by omega), ur_at]
    · rw [R17, ur_at]
    · rw [R _ (by omega)]; exact h9
    · rw [R _ (by omega)]; exact h10
  · refine ⟨fun q a b c => by rw [up2_ne a, up2_ne a], fun j hj => ?_, fun j hj => ?_⟩
    · rw [up2_r, up2_r, ur_ne _ _ (by omega), ur_ne _ _ (by omega)]
    · rw [up2_ne (by omega), up2_ne (by omega)]
theorem fa_adv {f i : Nat} (h : FaS z r N tk pl I f i) : f_X4_advance n (z + 17) (mk z C I J t (some (97 + 6 * r))) = some (mk z C I J t (some (97 + 6 * r))) := by
  obtain ⟨h1, h2, h3, h4, h5, -⟩ := h
  have m0 : mI (mk z C I J t (some (97 + 6 * r))) (z + 17) 0 = nI f := h5
  unfold f_X4_advance
  rw [m0, if_neg (show ¬ nI f = (0 : Int32) by rw [show (0 : Int32) = nI 0 from rfl, nI_inj (by omega) (by omega)]; omega)]
theorem st_com {i f : Nat} {c : Cd} (h : OkSt z r N so tk pl I i c) (hf1 : 1 ≤ f) (hf : f ≤ 6) : ∃ I', f_X4_complain n (z + 17) (nI f) (mk z C I J t (some (97 + 6 * r))) = some (mk z C I' J t (some (97 + 6 * r))) ∧ FaS z r N tk pl I' f i ∧ FrP z r I I' := by
  obtain ⟨h1, h2, h3, h4, h5, h6, h7, h8, h9, h10⟩ := h
  obtain ⟨a1, a2, a3, a4⟩ := id h1
  obtain ⟨b1, b2, b3, b4, b5, b6⟩ := a4 i (by omega)
  have m0 : mI (mk z C I J t (some (97 + 6 * r))) (z + 17) 0 = 0 := h5
  have m4 : mI (mk z C (up2 I (z + 17) 0 (nI f)) J t (some (97 + 6 * r))) (z + 17) 4 = nI i := by rw [mI_mk, up2_r, ur_ne _ _ (by omega)]; exact h7
  have m20 : mI (mk z C (up2 I (z + 17) 0 (nI f)) J t (some (97 + 6 * r))) (z + 20) i = nI (pl i) := by rw [mI_mk, up2_ne (by omega)]; exact b5
  have R : ∀ q, q ≠ z + 17 → up2 (up2 (up2 I (z + 17) 0 (nI f)) (z + 17) 1 (nI (pl i))) (z + 17) 5 (39 : Int32) q = I q := fun q hq => by rw [up2_ne hq, up2_ne hq, up2_ne hq]
  have R17 : up2 (up2 (up2 I (z + 17) 0 (nI f)) (z + 17) 1 (nI (pl i))) (z + 17) 5 (39 : Int32) (z + 17) = ur (ur (ur (I (z + 17)) 0 (nI f)) 1 (nI (pl i))) 5 39 := by rw [up2_r, up2_r, up2_r]
  refine ⟨up2 (up2 (up2 I (z + 17) 0 (nI f)) (z + 17) 1 (nI (pl i))) (z + 17) 5 (39 : Int32), ?_, ?_, ⟨fun q a b c => R q a, fun j hj => ?_, fun j hj => by rw [R _ (by omega)]⟩⟩
  · unfold f_X4_complain
    simp only [bd]
    rw [m0, if_pos rfl, sI_mk, g17_2, g18_1, n20, m4, ck_t (inb_nI (by omega) (by omega)), cl_nI (by omega), m20, sI_mk, sI_mk]
  · refine ⟨h1.frp (r := r) (fun q p1 p2 => R q (by omega)), hf1, hf, h3, ?_, ?_, ?_, ⟨i, by omega, ?_⟩, ⟨c.length, h4, ?_⟩⟩
    · rw [R17, ur_ne _ _ (by omega), ur_ne _ _ (by omega), ur_at]
    · rw [R17, ur_ne _ _ (by omega), ur_at]
    · rw [R17, ur_at]
    · rw [R17, ur_ne _ _ (by omega), ur_ne _ _ (by omega), ur_ne _ _ (by omega)]; exact h7
    · rw [R _ (by omega)]; exact h9
  · rw [R17, ur_ne _ _ (by omega), ur_ne _ _ (by omega), ur_ne _ _ (by omega)]
theorem fa_com {f i : Nat} (h : FaS z r N tk pl I f i) (a : Int32) : f_X4_complain n (z + 17) a (mk z C I J t (some (97 + 6 * r))) = some (mk z C I J t (some (97 + 6 * r))) := by
  obtain ⟨h1, h2, h3, h4, h5, -⟩ := h
  have m0 : mI (mk z C I J t (some (97 + 6 * r))) (z + 17) 0 = nI f := h5
  unfold f_X4_complain
  rw [m0, if_neg (show ¬ nI f = (0 : Int32) by rw [show (0 : Int32) = nI 0 from rfl, nI_inj (by omega) (by omega)]; omega)]
theorem st_put {i o v : Nat} {c : Cd} (hr : r < t) (h : OkSt z r N so tk pl I i c) (hl : c.length < 300) (ho : o ≤ 22) (hv : v ≤ 10000) : ∃ I', f_X7_put n (z + (97 + 6 * r)) (nI (sg o)) (nI v) (mk z C I J t (some (97 + 6 * r))) = some (mk z C I' J t (some (97 + 6 * r))) ∧ OkSt z r N so tk pl I' i (c ++ [(o, v)]) ∧ FrP z r I I' := by
  obtain ⟨h1, h2, h3, h4, h5, h6, h7, h8, h9, h10⟩ := h
  have hs := sg_lt o ho
  have m6 : mI (mk z C I J t (some (97 + 6 * r))) (z + (97 + 6 * r)) 6 = nI c.length := h9
  have m6' : mI (mk z C (up2 I (z + (97 + 6 * r + 1 + 4)) c.length (nI (v * 64 + sg o))) J t (some (97 + 6 * r))) (z + (97 + 6 * r)) 6 = nI c.length := by rw [mI_mk, up2_ne (by omega)]; exact h9
  have el : nI c.length + (1 : Int32) = nI (c.length + 1) := nI_pl _ 1
  have R : ∀ q, q ≠ z + (97 + 6 * r) → q ≠ z + (97 + 6 * r + 1 + 4) → up2 (up2 I (z + (97 + 6 * r + 1 + 4)) c.length (nI (v * 64 + sg o))) (z + (97 + 6 * r)) 6 (nI (c.length + 1)) q = I q := fun q a b => by rw [up2_ne a, up2_ne b]
  refine ⟨up2 (up2 I (z + (97 + 6 * r + 1 + 4)) c.length (nI (v * 64 + sg o))) (z + (97 + 6 * r)) 6 (nI (c.length + 1)), ?_, ?_, ⟨fun q a b c => R q b c, fun j _ => by rw [R _ (by omega) (by omega)], fun j hj => by rw [up2_r, ur_ne _ _ hj, up2_ne (by omega)]⟩⟩
  · unfold f_X7_put
    simp only [bd]
    rw [m6, if_neg (show ¬ (300 : Int32) ≤ nI c.length by rw [show (300 : Int32) = nI 300 from rfl, nI_le' (by omega) (by omega)]; omega), gT hr (by omega), nT4 hr, ck_t (inb_nI (by omega) (by omega)), cl_nI (by omega), put_v hv hs, sI_mk, m6', el, sI_mk]
  · refine ⟨h1.frp (r := r) (fun q p1 p2 => R q (by omega) (by omega)), ?_, h3, ?_, ?_, ?_, ?_, ?_, ?_, ?_⟩
    · rw [R _ (by omega) (by omega)]; exact h2
    · rw [List.length_append]; show c.length + 1 ≤ 300; omega
    · rw [R _ (by omega) (by omega)]; exact h5
    · rw [R _ (by omega) (by omega)]; exact h6
    · rw [R _ (by omega) (by omega)]; exact h7
    · rw [R _ (by omega) (by omega)]; exact h8
    · rw [up2_r, ur_at, List.length_append]; rfl
    · rw [up2_ne (by omega), up2_r]; exact cdR_app h10
theorem fa_put {f i : Nat} (hr : r < t) (h : FaS z r N tk pl I f i) (a b : Int32) : ∃ I', f_X7_put n (z + (97 + 6 * r)) a b (mk z C I J t (some (97 + 6 * r))) = some (mk z C I' J t (some (97 + 6 * r))) ∧ FaS z r N tk pl I' f i ∧ FrP z r I I' := by
  obtain ⟨h1, h2, h3, h4, h5, h6, h7, h8, s, h9, h10⟩ := id h
  have m6 : mI (mk z C I J t (some (97 + 6 * r))) (z + (97 + 6 * r)) 6 = nI s := h10
  by_cases hs : s = 300
  · refine ⟨I, ?_, h, FrP.rfp z r I⟩
    unfold f_X7_put
    rw [m6, if_pos (show (300 : Int32) ≤ nI s by rw [show (300 : Int32) = nI 300 from rfl, nI_le' (by omega) (by omega)]; omega)]
  · have m6' : mI (mk z C (up2 I (z + (97 + 6 * r + 1 + 4)) s ((b <<< ((6 : Int32) &&& 31)) ||| a)) J t (some (97 + 6 * r))) (z + (97 + 6 * r)) 6 = nI s := by rw [mI_mk, up2_ne (by omega)]; exact h10
    have R : ∀ q, q ≠ z + (97 + 6 * r) → q ≠ z + (97 + 6 * r + 1 + 4) → up2 (up2 I (z + (97 + 6 * r + 1 + 4)) s ((b <<< ((6 : Int32) &&& 31)) ||| a)) (z + (97 + 6 * r)) 6 (nI (s + 1)) q = I q := fun q a b => by rw [up2_ne a, up2_ne b]
    refine ⟨up2 (up2 I (z + (97 + 6 * r + 1 + 4)) s ((b <<< ((6 : Int32) &&& 31)) ||| a)) (z + (97 + 6 * r)) 6 (nI (s + 1)), ?_, ?_, ⟨fun q a b c => R q b c, fun j _ => by rw [R _ (by omega) (by omega)], fun j hj => by rw [up2_r, ur_ne _ _ hj, up2_ne (by omega)]⟩⟩
    · unfold f_X7_put
      simp only [bd]
      rw [m6, if_neg (show ¬ (300 : Int32) ≤ nI s by rw [show (300 : Int32) = nI 300 from rfl, nI_le' (by omega) (by omega)]; omega), gT hr (by omega), nT4 hr, ck_t (inb_nI (by omega) (by omega)), cl_nI (by omega), sI_mk, m6', show nI s + (1 : Int32) = nI (s + 1) from nI_pl s 1, sI_mk]
    · refine ⟨h1.frp (r := r) (fun q p1 p2 => R q (by omega) (by omega)), h2, h3, h4, ?_, ?_, ?_, ?_, ⟨s + 1, by omega, by rw [up2_r, ur_at]⟩⟩
      · rw [R _ (by omega) (by omega)]; exact h5
      · rw [R _ (by omega) (by omega)]; exact h6
      · rw [R _ (by omega) (by omega)]; exact h7
      · rw [R _ (by omega) (by omega)]; exact h8
/-- what a call leaves: the reader's state, and nothing else changed -/
def LvC (z C t r N so : Nat) (J : Nat → Nat → Int64) (tk : Nat → Nat × Nat) (pl : Nat → Nat) (I : Nat → Nat → Int32) (o : Option MS) (x : PrR) : Prop := ∃ I', o = some (mk z C I' J t (some (97 + 6 * r))) ∧ StC z r N so tk pl I' x ∧ FrP z r I I'
theorem lv_put {o v : Nat} {x : PrR} (hr : r < t) (h : StC z r N so tk pl I x) (hl : ∀ i c, x = Sum.inr (i, c) → c.length < 300) (ho : o ≤ 22) (hv : v ≤ 10000) : LvC z C t r N so J tk pl I (f_X7_put n (z + (97 + 6 * r)) (nI (sg o)) (nI v) (mk z C I J t (some (97 + 6 * r)))) (pB x (fun i c => Sum.inr (i, c ++ [(o, v)]))) := by
  cases x with
  | inl e => exact fa_put hr h _ _
  | inr y => exact st_put hr h (hl y.1 y.2 rfl) ho hv
theorem lv_exp {w : Nat} {x : PrR} (hw : w < 39) (h : StC z r N so tk pl I x) : LvC z C t r N so J tk pl I (f_X4_expect n (z + 17) (nI w) (mk z C I J t (some (97 + 6 * r)))) (pB x (fun i c => if (tk i).1 = w then Sum.inr (i + 1, c) else Sum.inl (1, i))) := by
  unfold f_X4_expect
  cases x with
  | inl e =>
    have m5 : mI (mk z C I J t (some (97 + 6 * r))) (z + 17) 5 = 39 := h.2.2.2.2.2.2.1
    refine ⟨I, ?_, h, FrP.rfp z r I⟩
    rw [m5, if_neg (show ¬ (39 : Int32) = nI w by rw [show (39 : Int32) = nI 39 from rfl, nI_inj (by omega) (by omega)]; omega), fa_com h, cv_some]
  | inr y =>
    obtain ⟨i, c⟩ := y
    have h : OkSt z r N so tk pl I i c := h
    have m5 : mI (mk z C I J t (some (97 + 6 * r))) (z + 17) 5 = nI (tk i).1 := h.2.2.2.2.2.2.2.1
    have b1 := (h.1.2.2.2 i h.2.2.1).1
    rw [pB_r, m5]
    by_cases e : (tk i).1 = w
    · obtain ⟨-, I', e1, e2, e3⟩ := st_adv (n := n) (C := C) (J := J) (t := t) h (by omega)
      refine ⟨I', ?_, ?_, e3⟩
      · rw [e, if_pos rfl, e1, cv_some]
      · rw [if_pos e]; exact e2
    · obtain ⟨I', e1, e2, e3⟩ := st_com (n := n) (C := C) (J := J) (t := t) (f := 1) h (by omega) (by omega)
      refine ⟨I', ?_, ?_, e3⟩
      · rw [if_neg (show ¬ nI (tk i).1 = nI w by rw [nI_inj (by omega) (by omega)]; exact e), show (1 : Int32) = nI 1 from rfl, e1, cv_some]
      · rw [if_neg e]; exact e2
/-- readNumber -/
theorem lv_num {lo hi : Nat} {x : PrR} (hlo : lo < 10000) (hhi : hi < 100000) (h : StC z r N so tk pl I x) : ∃ v I', f_X4_readNumber n (z + 17) (nI lo) (nI hi) (mk z C I J t (some (97 + 6 * r))) = some (v, mk z C I' J t (some (97 + 6 * r))) ∧ StC z r N so tk pl I' (pB x (fun i c => if (tk i).1 = 38 then (if lo ≤ (tk i).2 ∧ (tk i).2 ≤ hi then Sum.inr (i + 1, c) else Sum.inl (2, i)) else Sum.inl (1, i))) ∧ FrP z r I I' ∧ ∀ i c, x = Sum.inr (i, c) → v = nI (tk i).2 := by
  unfold f_X4_readNumber
  simp only [bd]
  cases x with
  | inl e =>
    have m5 : mI (mk z C I J t (some (97 + 6 * r))) (z + 17) 5 = 39 := h.2.2.2.2.2.2.1
    obtain ⟨a, ha, h4⟩ := h.2.2.2.2.2.2.2.1
    have m4 : mI (mk z C I J t (some (97 + 6 * r))) (z + 17) 4 = nI a := h4
    refine ⟨I (z + 21) a, I, ?_, h, FrP.rfp z r I, fun i c e => by cases e⟩
    rw [g17_2, g18_2, n21, m4, ck_t (inb_nI (by omega) (by omega)), cl_nI (by omega), m5, if_neg (by decide), fa_com h, cv_some, fa_adv h, cv_some, mI_mk]
  | inr y =>
    obtain ⟨i, c⟩ := y
    have h : OkSt z r N so tk pl I i c := h
    obtain ⟨b1, b2, b3, b4, b5, b6⟩ := h.1.2.2.2 i h.2.2.1
    have hN := h.1.1
    have hiN := h.2.2.1
    have m4 : mI (mk z C I J t (some (97 + 6 * r))) (z + 17) 4 = nI i := h.2.2.2.2.2.2.1
    have m5 : mI (mk z C I J t (some (97 + 6 * r))) (z + 17) 5 = nI (tk i).1 := h.2.2.2.2.2.2.2.1
    have m21 : mI (mk z C I J t (some (97 + 6 * r))) (z + 21) i = nI (tk i).2 := b6
    rw [pB_r, g17_2, g18_2, n21, m4, ck_t (inb_nI (by omega) (by omega)), m5, cl_nI (by omega), m21]
    have hv : ∀ i' c', (Sum.inr (i, c) : PrR) = Sum.inr (i', c') → nI (tk i).2 = nI (tk i').2 := fun i' c' e => by cases e; rfl
    by_cases e : (tk i).1 = 38
    · have hc : nI (tk i).1 = (38 : Int32) := by rw [e]; rfl
      by_cases q : lo ≤ (tk i).2 ∧ (tk i).2 ≤ hi
      · obtain ⟨-, I', e1, e2, e3⟩ := st_adv (n := n) (C := C) (J := J) (t := t) h (by omega)
        refine ⟨nI (tk i).2, I', ?_, ?_, e3, hv⟩
        · rw [if_pos hc, if_neg (show ¬ nI (tk i).2 < nI lo by rw [nI_lt' (by omega) (by omega)]; omega), if_pos (show nI (tk i).2 ≤ nI hi by rw [nI_le' (by omega) (by omega)]; omega), e1, cv_some]
        · rw [if_pos e, if_pos q]; exact e2
      · obtain ⟨I', e1, e2, e3⟩ := st_com (n := n) (C := C) (J := J) (t := t) (f := 2) h (by omega) (by omega)
        refine ⟨nI (tk i).2, I', ?_, ?_, e3, hv⟩
        · rw [if_pos hc]
          by_cases q1 : lo ≤ (tk i).2
          · rw [if_neg (show ¬ nI (tk i).2 < nI lo by rw [nI_lt' (by omega) (by omega)]; omega), if_neg (show ¬ nI (tk i).2 ≤ nI hi by rw [nI_le' (by omega) (by omega)]; omega), show (2 : Int32) = nI 2 from rfl, e1, cv_some, fa_adv e2, cv_some]
          · rw [if_pos (show nI (tk i).2 < nI lo by rw [nI_lt' (by omega) (by omega)]; omega), show (2 : Int32) = nI 2 from rfl, e1, cv_some, fa_adv e2, cv_some]
        · rw [if_pos e, if_neg q]; exact e2
    · obtain ⟨I', e1, e2, e3⟩ := st_com (n := n) (C := C) (J := J) (t := t) (f := 1) h (by omega) (by omega)
      refine ⟨nI (tk i).2, I', ?_, ?_, e3, hv⟩
      · rw [if_neg (show ¬ nI (tk i).1 = (38 : Int32) by rw [show (38 : Int32) = nI 38 from rfl, nI_inj (by omega) (by omega)]; exact e), show (1 : Int32) = nI 1 from rfl, e1, cv_some, fa_adv e2, cv_some]
      · rw [if_neg e]; exact e2
end RD
