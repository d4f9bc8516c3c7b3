/-! THE REFERENCE READS A CLAUSE: steps -/
section QC
variable {n z C t r so : Nat} {u : Option Nat} {I : Nat → Nat → Int32} {J : Nat → Nat → Int64} {tk : Nat → Nat × Nat} {Tq : TQ} {i op : Nat} {c : Cd} {p : List Nat} {w : Bool}
theorem wq_18 {S : MS} : f_X11_w4 n (104 : Int32) (111 : Int32) (108 : Int32) (100 : Int32) S = some (wdJ 18, S) := rfl
theorem wq_19 {S : MS} : f_X11_w3 n (102 : Int32) (97 : Int32) (114 : Int32) S = some (wdJ 19, S) := rfl
theorem wq_20 {S : MS} : f_X11_w4 n (99 : Int32) (114 : Int32) (111 : Int32) (112 : Int32) S = some (wdJ 20, S) := rfl
theorem wq_21 {S : MS} : f_X11_w5 n (102 : Int32) (111 : Int32) (117 : Int32) (110 : Int32) (100 : Int32) S = some (wdJ 21, S) := rfl
theorem wq_22 {S : MS} : f_X11_w4 n (98 : Int32) (111 : Int32) (110 : Int32) (101 : Int32) S = some (wdJ 22, S) := rfl
theorem wq_23 {S : MS} : f_X11_w5 n (115 : Int32) (116 : Int32) (97 : Int32) (107 : Int32) (101 : Int32) S = some (wdJ 23, S) := rfl
theorem q_sort (hT : TokOK n z C t u tk Tq) (h : Tq I J i) : f_X11_sortOf n (z + 83) (mk z C I J t u) = some ((if 18 ≤ (tk i).1 ∧ (tk i).1 ≤ 23 then nI ((tk i).1 - 18) else -1), mk z C I J t u) := by
  unfold f_X11_sortOf
  rw [wq_18, cl_some, q_isW hT h (by omega) (by omega), cl_some]
  by_cases e18 : (tk i).1 = 18
  · rw [if_pos e18, if_neg (by decide), if_pos (by omega), e18]; rfl
  rw [if_neg e18, if_pos rfl]
  rw [wq_19, cl_some, q_isW hT h (by omega) (by omega), cl_some]
  by_cases e19 : (tk i).1 = 19
  · rw [if_pos e19, if_neg (by decide), if_pos (by omega), e19]; rfl
  rw [if_neg e19, if_pos rfl]
  rw [wq_20, cl_some, q_isW hT h (by omega) (by omega), cl_some]
  by_cases e20 : (tk i).1 = 20
  · rw [if_pos e20, if_neg (by decide), if_pos (by omega), e20]; rfl
  rw [if_neg e20, if_pos rfl]
  rw [wq_21, cl_some, q_isW hT h (by omega) (by omega), cl_some]
  by_cases e21 : (tk i).1 = 21
  · rw [if_pos e21, if_neg (by decide), if_pos (by omega), e21]; rfl
  rw [if_neg e21, if_pos rfl]
  rw [wq_22, cl_some, q_isW hT h (by omega) (by omega), cl_some]
  by_cases e22 : (tk i).1 = 22
  · rw [if_pos e22, if_neg (by decide), if_pos (by omega), e22]; rfl
  rw [if_neg e22, if_pos rfl]
  rw [wq_23, cl_some, q_isW hT h (by omega) (by omega), cl_some]
  by_cases e23 : (tk i).1 = 23
  · rw [if_pos e23, if_neg (by decide), if_pos (by omega), e23]; rfl
  rw [if_neg e23, if_pos rfl]
  rw [if_neg (by omega)]
/-- what a clause may change -/
def FrZ (z r : Nat) (I I' : Nat → Nat → Int32) (J J' : Nat → Nat → Int64) : Prop := (∀ q, q ≠ z + 83 → q ≠ z + 85 → q ≠ z + 87 → I' q = I q) ∧ (∀ j, (j < 10 ∨ j = 15) → I' (z + 83) j = I (z + 83) j) ∧ (∀ j, (j < 700 * r ∨ 700 * r + 700 ≤ j) → I' (z + 85) j = I (z + 85) j) ∧ (∀ q, q ≠ z + 83 → J' q = J q)
theorem FrZ.rfg (z r : Nat) (I : Nat → Nat → Int32) (J : Nat → Nat → Int64) : FrZ z r I I J J := ⟨fun _ _ _ _ => rfl, fun _ _ => rfl, fun _ _ => rfl, fun _ _ => rfl⟩
theorem FrZ.trg {I I' I2 : Nat → Nat → Int32} {J J' J2 : Nat → Nat → Int64} (h : FrZ z r I I' J J') (h2 : FrZ z r I' I2 J' J2) : FrZ z r I I2 J J2 := ⟨fun q a b c => (h2.1 q a b c).trans (h.1 q a b c), fun j a => (h2.2.1 j a).trans (h.2.1 j a), fun j a => (h2.2.2.1 j a).trans (h.2.2.1 j a), fun q a => (h2.2.2.2 q a).trans (h.2.2.2 q a)⟩
theorem FrQ.frg {I I' : Nat → Nat → Int32} {J J' : Nat → Nat → Int64} (h : FrQ z r I I' J J') : FrZ z r I I' J J' := ⟨h.1, fun j a => h.2.1 j (by omega), fun j a => h.2.2.1 j (by omega), h.2.2.2⟩
theorem RfW.cg (hT : TokOK n z C t u tk Tq) {I' : Nat → Nat → Int32} {so' : Nat} (h : RfW z r so Tq I J i c p op w) (h83 : ∀ j, j ≠ 23 → j ≠ 24 → I' (z + 83) j = I (z + 83) j) (h23 : I' (z + 83) 23 = nI so') (h85 : ∀ j, 700 * r + 85 ≤ j → I' (z + 85) j = I (z + 85) j) (h86 : I' (z + 86) = I (z + 86)) : RfW z r so' Tq I' J i c p op w := by
  obtain ⟨h1, h2, h3, h4, h5, h6, h7, h8, h9, h10, h11, h12, h13⟩ := h
  refine ⟨hT.1 I I' J J i h1 (fun j hj => h83 j (by omega) (by omega)) h86 rfl, by rw [h83 _ (by omega) (by omega)]; exact h2, by rw [h83 _ (by omega) (by omega)]; exact h3, fun j hj => ?_, trivial, trivial, by rw [h83 _ (by omega) (by omega)]; exact h7, trivial, h23, h10, h11, h12, h13⟩
  rw [h85 _ (by omega), h85 _ (by omega)]; exact h4 j hj
theorem RfW.s85 (hT : TokOK n z C t u tk Tq) (h : RfW z r so Tq I J i c p op w) {a : Nat} {v : Int32} (ha : 700 * r ≤ a) (ha2 : a < 700 * r + 85) : RfW z r so Tq (up2 I (z + 85) a v) J i c p op w ∧ FrZ z r I (up2 I (z + 85) a v) J J := by
  refine ⟨RfW.cg hT h (fun j _ _ => by rw [up2_ne (by omega)]) (by rw [up2_ne (by omega)]; exact h.2.2.2.2.2.2.2.2.1) (fun j hj => up2_x (by omega)) (up2_ne (by omega)), fun q _ b _ => up2_ne b, fun j _ => by rw [up2_ne (by omega)], fun j hj => up2_x (by omega), fun _ _ => rfl⟩
/-- a step's end: f the fault -/
def EnQ (z r so : Nat) (Tq : TQ) (p : List Nat) (op : Nat) (w : Bool) (f : Nat) (I : Nat → Nat → Int32) (J : Nat → Nat → Int64) (x : PrR) : Prop := match x with
  | Sum.inl e => f = e.1 ∧ 1 ≤ f ∧ f ≤ 6 ∧ Tq I J e.2
  | Sum.inr y => f = 0 ∧ RfW z r so Tq I J y.1 y.2 p op w
theorem q_fig (hT : TokOK n z C t u tk Tq) {a lo hi : Nat} (ha : 700 * r ≤ a) (ha2 : a < 700 * r + 85) (hlo : lo < 100) (hhi : hi < 100) (h : RfW z r so Tq I J i c p op w) : ∃ f I' J', f_X11_figure n (z + 83) (nI a) (nI lo) (nI hi) (mk z C I J t u) = some (nI f, mk z C I' J' t u) ∧ FrZ z r I I' J J' ∧ EnQ z r so Tq p op w f I' J' (pNum tk lo hi (Sum.inr (i, c))) ∧ (∀ k, k ≠ a → k < 700 * r + 85 → I' (z + 85) k = I (z + 85) k) ∧ I' (z + 83) 24 = I (z + 83) 24 ∧ (f = 0 → I' (z + 85) a = nI (tk i).2) := by
  have hr := h.2.2.2.2.2.2.2.2.2.2.2.2
  have k38 := q_tok hT h.1 (s := 38) (by omega) (by omega)
  unfold f_X11_figure
  show ∃ f I' J', _ ∧ _ ∧ EnQ z r so Tq p op w f I' J' (if (tk i).1 = 38 then (if lo ≤ (tk i).2 ∧ (tk i).2 ≤ hi then Sum.inr (i + 1, c) else Sum.inl (2, i)) else Sum.inl (1, i)) ∧ _
  by_cases e : (tk i).1 = 38
  · obtain ⟨m, m1, m2, m3, m4⟩ := hT.2.2.2.1 I J i h.1 e
    have m13 : mI (mk z C I J t u) (z + 83) 13 = nI m := m2
    have hin : (lo ≤ m ∧ m ≤ hi) ↔ (lo ≤ (tk i).2 ∧ (tk i).2 ≤ hi) := by
      by_cases y : m ≤ 9999
      · rw [m3 y]
      · have := m4 (by omega); omega
    have ein : f_X11_isIn n (nI m) (nI lo) (nI hi) (mk z C I J t u) = some (bWC (decide (lo ≤ m ∧ m ≤ hi)), mk z C I J t u) := by
      unfold f_X11_isIn
      simp only [zb_0, zb_1]
      by_cases e1 : m < lo
      · rw [if_pos ((nI_lt' (by omega) (by omega)).mpr e1), decide_eq_false (by omega)]; rfl
      rw [if_neg (fun w => e1 ((nI_lt' (by omega) (by omega)).mp w))]
      by_cases e2 : hi < m
      · rw [if_pos ((nI_lt' (by omega) (by omega)).mpr e2), decide_eq_false (by omega)]; rfl
      · rw [if_neg (fun w => e2 ((nI_lt' (by omega) (by omega)).mp w)), decide_eq_true (by omega)]; rfl
    rw [if_pos (show mI (mk z C I J t u) (z + 83) 12 = (1 : Int32) from k38.mpr e), m13, ein, cl_some, if_pos e]
    by_cases g : lo ≤ m ∧ m ≤ hi
    · obtain ⟨s1, f1⟩ := RfW.s85 (a := a) (v := nI m) hT h ha ha2
      obtain ⟨I2, J2, e2, s2, f2⟩ := w_next hT s1 (by omega)
      rw [decide_eq_true g, if_neg (by decide), if_pos (hin.mp g)]
      refine ⟨0, I2, J2, ?_, f1.trg f2.frg, ⟨rfl, s2⟩, fun k hk hk2 => ?_, ?_, fun _ => ?_⟩
      · simp only [bd]
        rw [g83_5, n85, ck_t (inb_nI (by omega) (by omega)), cl_nI (by omega), sI_mk, m13, e2, cv_some]; rfl
      · rw [f2.2.2.1 _ (by omega), up2_x (by omega)]
      · rw [f2.2.1 _ (by omega), up2_ne (by omega)]
      · rw [f2.2.2.1 _ (by omega), up2_v, m3 (by omega)]
    · rw [decide_eq_false g, if_pos (show bWC false = 0 from rfl), if_neg (fun y => g (hin.mpr y))]
      exact ⟨2, I, J, rfl, FrZ.rfg z r I J, ⟨rfl, by omega, by omega, h.1⟩, fun _ _ _ => rfl, rfl, fun y => by omega⟩
  · rw [if_neg (show ¬ mI (mk z C I J t u) (z + 83) 12 = (1 : Int32) from fun y => e (k38.mp y)), if_neg e]
    exact ⟨1, I, J, rfl, FrZ.rfg z r I J, ⟨rfl, by omega, by omega, h.1⟩, fun _ _ _ => rfl, rfl, fun y => by omega⟩
end QC
